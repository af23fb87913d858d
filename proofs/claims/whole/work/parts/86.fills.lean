/-! ===== pure: fills, fill, stuck agree ===== -/
abbrev full (F : Fm) : List Nat := bl (2 ^ F 0 0 - 1) (F 0 0) 0
/-- what the filler keeps is right -/
def FI (F : Fm) (L : Nat → Nat) (S : St) : Prop :=
  (gI S 43 9 = 0 ∨ PR F L S) ∧ (gI S 43 10 = 0 ∨ gJ S 43 13 = lN (wys F L (full F) [])) ∧
  (gI S 43 11 = 0 ∨ (gI S 43 12 = (if 0 < wys F L (full F) [] then 1 else 0) ∧ ∀ A, fst F L (full F) [] = some A → ∀ p, p ∈ A → gI S 44 p.1 = nI p.2)) ∧
  (gI S 43 14 = 0 ∨ ∃ b, gI S 43 14 = nI b ∧ stB F L (2 ^ F 0 0) b)
theorem bl_all {n : Nat} : ∀ m e, e + m ≤ n → (bl (2 ^ n - 1) m e).length = m ∧ ∀ i, i < m → (bl (2 ^ n - 1) m e)[i]? = some (e + i)
  | 0, e, _ => ⟨rfl, fun i hi => absurd hi (Nat.not_lt_zero _)⟩
  | m + 1, e, h => by
    obtain ⟨h1, h2⟩ := bl_all (n := n) m (e + 1) (by omega)
    have hb : bl (2 ^ n - 1) (m + 1) e = e :: bl (2 ^ n - 1) m (e + 1) := by
      show (if _ then _ else _) = _
      rw [if_pos (by rw [tb_full]; simp; omega)]
    rw [hb]
    refine ⟨by rw [List.length_cons, h1], fun i hi => ?_⟩
    cases i with
    | zero => rfl
    | succ i => rw [List.getElem?_cons_succ, h2 i (by omega)]; congr 1; omega
theorem full_at {F : Fm} : (full F).length = F 0 0 ∧ ∀ i : Nat, i < F 0 0 → (full F)[i]? = some i := by
  obtain ⟨h1, h2⟩ := bl_all (n := F 0 0) (F 0 0) 0 (by omega)
  exact ⟨h1, fun i hi => by have := h2 i hi; rwa [Nat.zero_add] at this⟩
theorem bl_lt {set m x : Nat} (h : x ∈ bl set m 0) : x < m := by have := bl_mem.mp h; omega
theorem FI_keep {F : Fm} {L : Nat → Nat} {S S' : St} (h43 : fr43 [8, 9] S S') (h44 : ∀ i, gI S' 44 i = gI S 44 i) (hPR : gI S' 43 9 = 0 ∨ PR F L S') (H : FI F L S) : FI F L S' := by
  obtain ⟨-, h2, h3, h4⟩ := H
  refine ⟨hPR, ?_, ?_, ?_⟩
  · rw [(h43 10 (by decide)).1, (h43 13 (by decide)).2]; exact h2
  · rw [(h43 11 (by decide)).1, (h43 12 (by decide)).1]
    rcases h3 with h | ⟨a, b⟩
    · exact Or.inl h
    · exact Or.inr ⟨a, fun A hA p hp => by rw [h44]; exact b A hA p hp⟩
  · rw [(h43 14 (by decide)).1]; exact h4
theorem PR_fr {F : Fm} {L : Nat → Nat} {S S' : St} (h : ∀ j, gI S' 45 j = gI S 45 j ∧ gI S' 46 j = gI S 46 j) (H : PR F L S) : PR F L S' :=
  ⟨fun a b ha hb => by rw [(h _).2]; exact H.1 a b ha hb, fun r w hr hw => by rw [(h _).1]; exact H.2 r w hr hw⟩
abbrev fcl : List Nat := [43, 44, 45, 46, 47, 48, 49]
/-- choose, then ways from the first rank on -/
theorem e_try {F : Fm} {L : Nat → Nat} {one : Bool} {b : Nat} {S : St} {Q : Int64 → St → Prop} (hn7 : F 0 0 ≤ 7) (hF : FW F) (hE : FE 21 F S) (hZ : EZ F L S) (hb0 : bl b (F 0 0) 0 ≠ []) (hb : b < 2 ^ 31) (hI : FI F L S)
    (hQ : ∀ S' v, frX [43, 45, 46, 47, 48, 49] S S' → fr43 [8, 9] S S' → FI F L S' → (one = false → v = lN (wys F L (bl b (F 0 0) 0) [])) → (one = true → ∃ k, v = lN k ∧ k < 2 ^ 31 ∧ (0 < k ↔ 0 < wys F L (bl b (F 0 0) 0) []) ∧ ∀ A, fst F L (bl b (F 0 0) 0) [] = some A → gvn (bl b (F 0 0) 0) [] 0 A S') → Q v S') :
    w_X3_choose (nI b) S (fun S19_1 => ∃ d26_4, d26_4 ≤ 32 ∧ w_X3_ways d26_4 (0 : Int32) (if one then 1 else 0) S19_1 (fun r26_3 S26_2 => Q r26_3 S26_2)) := by
  refine e_choose hn7 hF hE hZ hb hI.1 ?_
  intro S1 h1 h2 h3 h4 h5 h6
  have hlen := bl_len b (F 0 0) 0
  have hlen0 : 0 < (bl b (F 0 0) 0).length := List.length_pos_iff.mpr hb0
  refine ⟨8, by omega, ?_⟩
  refine e_ways (one := one) (cs := bl b (F 0 0) 0) hn7 hF (fun x hx => bl_lt hx) (by omega) ((bl b (F 0 0) 0).length - 1) 0 8 [] S1 _ (by omega) (by omega) ⟨FE21_fr h1 (by simp) hE, h4, h5, fun i x h => (h6 i x h).1⟩ (fun i x _ h => ?_) ?_
  · rw [Nat.zero_mul, Nat.zero_add, (h6 i x h).2]
    congr 1
    refine Nat.eq_of_testBit_eq (fun j => ?_)
    rw [tb_full, bso_bit]
    simp [okA]
  · intro S2 v k1 k2 k3 k4 k5
    have h43 : fr43 [8, 9] S S2 := fun j hj => ⟨by rw [frX_g k1 43 j (by decide)]; exact (h2 j hj).1, by rw [frX_gJ k1 43 j (by decide)]; exact (h2 j hj).2⟩
    refine hQ S2 v (frX_trans (frX_sub h1 (by simp)) (frX_sub k1 (by simp))) h43 (FI_keep h43 (fun i => by rw [frX_g k1 44 i (by decide), frX_g h1 44 i (by decide)]) (Or.inr (PR_fr (fun j => ⟨frX_g k1 45 j (by decide), frX_g k1 46 j (by decide)⟩) h4)) hI) k4 k5
theorem fullN {F : Fm} (hn : F 0 0 ≤ 12) : (1 : Int32) <<< (nI (F 0 0) &&& 31) - (1 : Int32) = nI (2 ^ F 0 0 - 1) := by
  rw [bN_one (by omega)]
  exact pk_sub (b := 1) Nat.one_le_two_pow
theorem full_ne {F : Fm} (hF : FW F) : full F ≠ [] := fun h => by
  have := (full_at (F := F)).1
  rw [h] at this
  have := hF.1.1
  simp at *
  omega
theorem e_howMany {F : Fm} {L : Nat → Nat} {S : St} {Q : Int64 → St → Prop} (hn7 : F 0 0 ≤ 7) (hF : FW F) (hE : FE 21 F S) (hZ : EZ F L S) (hI : FI F L S)
    (hQ : ∀ S', frX fcl S S' → FI F L S' → Q (lN (wys F L (full F) [])) S') : w_X3_howMany S Q := by
  have hp := pow_le12 hF.1.2.1
  unfold w_X3_howMany
  by_cases c : gI S 43 10 = 0
  · rw [if_pos c, hE.1 0 (by omega), fullN hF.1.2.1]
    refine e_try (one := false) hn7 hF hE hZ (full_ne hF) (by omega) hI ?_
    intro S1 v h1 h2 h3 h4 _ S2 hS2 S3 hS3
    have hv : gJ S3 43 13 = lN (wys F L (full F) []) := by rw [hS3, gJ_sI, hS2, gJ_sJ, if_pos ⟨rfl, rfl⟩]; exact h4 rfl
    rw [hv]
    refine hQ S3 ?_ ?_
    · rw [hS3, hS2]; exact frX_sI (frX_sJ (frX_sub h1 (by simp)) (by decide)) (by decide)
    · obtain ⟨q1, q2, q3, q4⟩ := h3
      have g : ∀ j, j ≠ 10 → gI S3 43 j = gI S1 43 j := fun j hj => by rw [hS3, gI_sI, if_neg (fun q => hj q.2), hS2, gI_sJ]
      have go : ∀ b j, b ≠ 43 → gI S3 b j = gI S1 b j := fun b j hb => by rw [hS3, gI_sI, if_neg (fun q => hb q.1), hS2, gI_sJ]
      refine ⟨?_, Or.inr hv, ?_, ?_⟩
      · rw [g 9 (by omega)]
        exact q1.imp id (PR_fr (fun j => ⟨go 45 j (by omega), go 46 j (by omega)⟩))
      · rw [g 11 (by omega), g 12 (by omega)]
        exact q3.imp id (fun ⟨a, b⟩ => ⟨a, fun A hA p hp => by rw [go 44 _ (by omega)]; exact b A hA p hp⟩)
      · rw [g 14 (by omega)]; exact q4
  · rw [if_neg c, hI.2.1.resolve_left c]
    exact hQ S (frX_refl _ _) hI
theorem e_canAll {F : Fm} {L : Nat → Nat} {S : St} {Q : Int32 → St → Prop} (hn7 : F 0 0 ≤ 7) (hF : FW F) (hE : FE 21 F S) (hZ : EZ F L S) (hI : FI F L S)
    (hQ : ∀ S', frX fcl S S' → FI F L S' → (∀ A, fst F L (full F) [] = some A → ∀ p, p ∈ A → gI S' 44 p.1 = nI p.2) → Q (if 0 < wys F L (full F) [] then 1 else 0) S') : w_X3_canAll S Q := by
  have hp := pow_le12 hF.1.2.1
  unfold w_X3_canAll
  by_cases c : gI S 43 11 = 0
  · rw [if_pos c, hE.1 0 (by omega), fullN hF.1.2.1]
    refine e_try (one := true) hn7 hF hE hZ (full_ne hF) (by omega) hI ?_
    intro S1 v h1 h2 h3 _ h4
    obtain ⟨k, k1, k2, k3, k4⟩ := h4 rfl
    have fin : ∀ t : Int32, t = (if 0 < wys F L (full F) [] then 1 else 0) → w_X3_canAll_39 Q t S1 := by
      intro t ht
      have h01 : t = 0 ∨ t = 1 := by
        rw [ht]; split
        · exact Or.inr rfl
        · exact Or.inl rfl
      refine ⟨h01, fun S2 hS2 => e_copyRow (by decide) (by decide) (by decide) ?_⟩
      intro S3 hS3
      have hv : gI S3 43 12 = t := by rw [hS3, gI_sI, if_neg (by omega), gI_setRow, if_neg (by omega), hS2, gI_sI, if_pos ⟨rfl, rfl⟩]
      have hA : ∀ A, fst F L (full F) [] = some A → ∀ p, p ∈ A → gI S3 44 p.1 = nI p.2 := by
        intro A hA p hp
        rcases k4 A hA p hp with q | ⟨i, i1, i2, i3⟩
        · cases q
        · have hi : i < F 0 0 := by
            have := (List.getElem?_eq_some_iff.mp i2).1
            rwa [(full_at (F := F)).1] at this
          rw [(full_at (F := F)).2 i hi] at i2
          have e : p.1 = i := by simpa using i2.symm
          rw [e, hS3, gI_sI, if_neg (by omega), gI_setRow, if_pos ⟨rfl, by show i < 7; omega⟩, hS2, gI_sI, if_neg (by omega)]
          exact i3
      rw [hv]
      refine ⟨h01, ?_⟩
      rw [ht]
      refine hQ S3 ?_ ?_ hA
      · rw [hS3, hS2]
        exact frX_sI (frX_row (frX_sI (frX_sub h1 (by simp)) (by decide)) (by decide)) (by decide)
      · obtain ⟨q1, q2, q3, q4⟩ := h3
        have g : ∀ j, j ≠ 11 → j ≠ 12 → gI S3 43 j = gI S1 43 j := fun j hj hj2 => by rw [hS3, gI_sI, if_neg (fun q => hj q.2), gI_setRow, if_neg (by omega), hS2, gI_sI, if_neg (fun q => hj2 q.2)]
        have go : ∀ b j, b ≠ 43 → b ≠ 44 → gI S3 b j = gI S1 b j := fun b j hb hb2 => by rw [hS3, gI_sI, if_neg (fun q => hb q.1), gI_setRow, if_neg (fun q => hb2 q.1), hS2, gI_sI, if_neg (fun q => hb q.1)]
        have gj : gJ S3 43 13 = gJ S1 43 13 := by rw [hS3, gJ_sI, gJ_setRow, hS2, gJ_sI]
        refine ⟨?_, ?_, Or.inr ⟨by rw [hv, ht], hA⟩, ?_⟩
        · rw [g 9 (by omega) (by omega)]
          exact q1.imp id (PR_fr (fun j => ⟨go 45 j (by omega) (by omega), go 46 j (by omega) (by omega)⟩))
        · rw [g 10 (by omega) (by omega), gj]; exact q2
        · rw [g 14 (by omega) (by omega)]; exact q4
    by_cases c0 : 0 < k
    · rw [k1, if_pos (show (0 : Int64) < lN k from (pk_lLT (a := 0) (by omega) (by omega)).mpr c0)]
      exact fin 1 (by rw [if_pos (k3.mp c0)])
    · rw [k1, if_neg (show ¬ (0 : Int64) < lN k from fun q => c0 ((pk_lLT (a := 0) (by omega) (by omega)).mp q))]
      exact fin 0 (by rw [if_neg (fun q => c0 (k3.mpr q))])
  · rw [if_neg c]
    obtain ⟨h1, h2⟩ := hI.2.2.1.resolve_left c
    refine ⟨?_, ?_⟩
    · rw [h1]; split
      · exact Or.inr rfl
      · exact Or.inl rfl
    · rw [h1]; exact hQ S (frX_refl _ _) hI h2
theorem pc_full {n : Nat} (hn : n ≤ 12) : pc (2 ^ n - 1) = n := by
  unfold pc
  rw [cnt_congr (Q := fun k => decide (k < n) && (fun _ => true) k) 12 (fun j _ => by rw [tb_full]; simp), cnt_cut (fun _ => true) n 12 hn]
  have : ∀ m, cnt (fun _ => true) m = m := fun m => by
    induction m with
    | zero => rfl
    | succ m ih => show cnt _ m + 1 = _; rw [ih]
  exact this n
theorem bl_ne {b n : Nat} (h0 : 1 ≤ b) (h : b < 2 ^ n) : bl b n 0 ≠ [] := fun e => by
  obtain ⟨i, hi, hb⟩ := tb_pos h (by omega)
  have : i ∈ bl b n 0 := bl_mem.mpr ⟨by omega, by omega, hb⟩
  rw [e] at this
  cases this
theorem e_fewestStuck {F : Fm} {L : Nat → Nat} {S : St} {Q : Int32 → St → Prop} (hn7 : F 0 0 ≤ 7) (hF : FW F) (hE : FE 21 F S) (hZ : EZ F L S) (hI : FI F L S) (hno : nof F L (2 ^ F 0 0 - 1))
    (hQ : ∀ S' b, frX fcl S S' → FI F L S' → stB F L (2 ^ F 0 0) b → Q (nI b) S') : w_X3_fewestStuck S Q := by
  have hn0 := hF.1.1
  have hp := pow_le12 hF.1.2.1
  have hp2 : 2 ≤ 2 ^ F 0 0 := by
    have := Nat.pow_le_pow_right (n := 2) (by omega) hn0
    omega
  have fE : ∀ S', frX fcl S S' → FE 21 F S' ∧ EZ F L S' := fun S' hf => ⟨FE21_fr hf (by simp) hE, EZ_fr hf (by simp) hZ⟩
  refine up1 (B := b_X3_fewestStuck_2 Q) (F 0 0 + 1) (by omega) (fun j S' => frX fcl S S' ∧ FI F L S' ∧ 1 ≤ j ∧ (gI S' 43 14 = 0 → ∀ c, 1 ≤ c → c < 2 ^ F 0 0 → nof F L c → j ≤ pc c)) ?_ ?_ 1 (by omega) ⟨frX_refl _ _, hI, Nat.le_refl _, fun _ c c1 c2 _ => ?_⟩
  · rintro kk j S' hj ⟨hf, hI', hj1, hlow⟩ hkk
    unfold b_X3_fewestStuck_2
    have hE' := (fE S' hf).1
    rw [hE'.1 0 (by omega), if_neg (nI_nlt (by omega) (by omega))]
    by_cases c : gI S' 43 14 = 0
    · rw [if_pos c]
      have hlow := hlow c
      refine up1 (B := b_X3_fewestStuck_22 kk (nI j)) (2 ^ F 0 0) (by omega) (fun s S2 => frX fcl S S2 ∧ FI F L S2 ∧ 1 ≤ s ∧ (gI S2 43 14 = 0 → ∀ c, 1 ≤ c → c < s → nof F L c → pc c ≠ j)) ?_ ?_ 1 (by omega) ⟨hf, hI', Nat.le_refl _, fun _ c c1 c2 => by omega⟩
      · rintro k2 s S2 hs ⟨hf2, hI2, hs1, hl2⟩ hk2
        unfold b_X3_fewestStuck_22
        obtain ⟨hE2, hZ2⟩ := fE S2 hf2
        rw [hE2.1 0 (by omega), bN_one (by omega), if_neg (nI_ge hs (by omega))]
        by_cases c2 : gI S2 43 14 = 0
        · rw [if_pos c2]
          refine e_bitCount ?_
          rw [jbc_pc (by omega)]
          have hpc : pc s ≤ 12 := cnt_le _ _
          refine nI_ifEq (by omega) (by omega) (fun d => ?_) (fun d => ?_)
          · refine e_try (one := true) hn7 hF hE2 hZ2 (bl_ne hs1 hs) (by omega) hI2 ?_
            intro S3 v h1 h2 h3 _ h4
            obtain ⟨k, k1, k2', k3, -⟩ := h4 rfl
            have hf3 : frX fcl S S3 := frX_trans hf2 (frX_sub h1 (by simp))
            have fin : ∀ t, (t = 0 ∧ 0 < wys F L (bl s (F 0 0) 0) [] ∨ t = s ∧ nof F L s) → w_X3_fewestStuck_72 k2 (nI j) (nI s) (nI t) S3 := by
              intro t ht S4 hS4 x hx
              have g : ∀ j, j ≠ 14 → gI S4 43 j = gI S3 43 j := fun j hj => by rw [hS4, gI_sI, if_neg (fun q => hj q.2)]
              have go : ∀ b j, b ≠ 43 → gI S4 b j = gI S3 b j := fun b j hb => by rw [hS4, gI_sI, if_neg (fun q => hb q.1)]
              have g14 : gI S4 43 14 = nI t := by rw [hS4, gI_sI, if_pos ⟨rfl, rfl⟩]
              obtain ⟨q1, q2, q3, q4⟩ := h3
              refine hk2 _ _ hx ⟨by rw [hS4]; exact frX_sI hf3 (by decide), ⟨?_, ?_, ?_, ?_⟩, by omega, fun h0 c1 d1 d2 d3 => ?_⟩
              · rw [g 9 (by omega)]
                exact q1.imp id (PR_fr (fun j => ⟨go 45 j (by omega), go 46 j (by omega)⟩))
              · rw [g 10 (by omega), show gJ S4 43 13 = gJ S3 43 13 by rw [hS4, gJ_sI]]; exact q2
              · rw [g 11 (by omega), g 12 (by omega)]
                exact q3.imp id (fun ⟨a, b⟩ => ⟨a, fun A hA p hp => by rw [go 44 _ (by omega)]; exact b A hA p hp⟩)
              · rw [g14]
                rcases ht with ⟨rfl, -⟩ | ⟨rfl, hn⟩
                · exact Or.inl rfl
                · refine Or.inr ⟨t, rfl, hs1, hs, hn, fun c1 d1 d2 d3 => ?_⟩
                  have a1 := hlow c1 d1 d2 d3
                  rcases Nat.lt_or_ge c1 t with e | e
                  · have := hl2 c2 c1 d1 e d3
                    omega
                  · omega
              · rw [g14] at h0
                rcases ht with ⟨rfl, hp⟩ | ⟨rfl, hn⟩
                · by_cases e : c1 = s
                  · subst e; exfalso; have : wys F L (bl c1 (F 0 0) 0) [] = 0 := d3; omega
                  · exact hl2 c2 c1 d1 (by omega) d3
                · exact absurd h0 (nI_ne0 (by omega) (by omega))
            by_cases c0 : 0 < k
            · rw [k1, if_pos (show (0 : Int64) < lN k from (pk_lLT (a := 0) (by omega) (by omega)).mpr c0)]
              exact fin 0 (Or.inl ⟨rfl, k3.mp c0⟩)
            · rw [k1, if_neg (show ¬ (0 : Int64) < lN k from fun q => c0 ((pk_lLT (a := 0) (by omega) (by omega)).mp q))]
              refine fin s (Or.inr ⟨rfl, ?_⟩)
              have : ¬ 0 < wys F L (bl s (F 0 0) 0) [] := fun q => c0 (k3.mpr q)
              show _ = 0
              omega
          · intro x hx
            refine hk2 _ _ hx ⟨hf2, hI2, by omega, fun h0 c1 d1 d2 d3 => ?_⟩
            by_cases e : c1 = s
            · subst e; exact d
            · exact hl2 h0 c1 d1 (by omega) d3
        · rw [if_neg c2]
          intro x hx
          exact hkk _ _ hx ⟨hf2, hI2, by omega, fun h0 => absurd h0 c2⟩
      · rintro k2 S2 ⟨hf2, hI2, hs1, hl2⟩
        unfold b_X3_fewestStuck_22
        obtain ⟨hE2, hZ2⟩ := fE S2 hf2
        rw [hE2.1 0 (by omega), bN_one (by omega), if_pos (nI_le (Nat.le_refl _) (by omega))]
        intro x hx
        refine hkk _ _ hx ⟨hf2, hI2, by omega, fun h0 c1 d1 d2 d3 => ?_⟩
        have a1 := hlow c1 d1 d2 d3
        have a2 := hl2 h0 c1 d1 d2 d3
        omega
    · rw [if_neg c]
      obtain ⟨b, b1, b2⟩ := hI'.2.2.2.resolve_left c
      rw [b1]
      exact hQ S' b hf hI' b2
  · rintro kk S' ⟨hf, hI', hj1, hlow⟩
    unfold b_X3_fewestStuck_2
    have hE' := (fE S' hf).1
    rw [hE'.1 0 (by omega), if_pos (nI_lt (by omega) (by omega))]
    rcases hI'.2.2.2 with h | ⟨b, b1, b2⟩
    · exfalso
      have := hlow h (2 ^ F 0 0 - 1) (by omega) (by omega) hno
      rw [pc_full hF.1.2.1] at this
      omega
    · rw [b1]
      exact hQ S' b hf hI' b2
  · rcases Nat.eq_zero_or_pos (pc c) with q | q
    · exfalso
      obtain ⟨i, hi, hb⟩ := tb_pos (x := c) (n := F 0 0) c2 (by omega)
      have : ∀ m, i < m → 0 < cnt (fun k => c.testBit k) m := fun m => by
        induction m with
        | zero => intro h; omega
        | succ m ih =>
          intro h
          show 0 < cnt _ m + _
          by_cases e : i = m
          · subst e; rw [if_pos hb]; omega
          · have := ih (by omega); omega
      have := this 12 (by omega)
      unfold pc at q
      omega
    · exact q
theorem Lab_cl {F : Fm} {L : Nat → Nat} (hL : Lab (clR F) (F 0 0) L) : ∀ e, e < F 0 0 → L e < F 0 0 := fun e he => Lab_lt hL he
theorem i7 {n : Nat} (hn : n ≤ 12) : (nI n ≤ (7 : Int32) ↔ n ≤ 7) ∧ ((7 : Int32) < nI n ↔ 7 < n) := ⟨nI_leI (b := 7) (by omega) (by omega), nI_ltI (a := 7) (by omega) (by omega)⟩
theorem c_fills {F : Fm} {D : Dr} {pa pb L : Nat → Nat} {SE SM : St} {K : Int64 → Int64 → St → St → Prop} (hF : FW F) (hP : PW F pa pb) (HE : FE 21 F SE) (HZ : EZ F L SE) (HI : FI F L SE) (HM : MF F D pa pb SM)
    (hK : ∀ r S1 S2, frX fcl SE S1 → FI F L S1 → frM SM S2 → K r r S1 S2) : w_X11_fills SE (fun r S1 => w_X12_fills SM (fun r' S2 => K r r' S1 S2)) := by
  have hn := hF.1.2.1
  have hp := pow_le12 hn
  have HM2 := MF_fr hF (fr0 SM) HM
  unfold w_X11_fills
  rw [HE.1 0 (by omega)]
  by_cases c : F 0 0 ≤ 7
  · rw [if_pos ((i7 hn).1.mpr c)]
    refine e_howMany c hF HE HZ HI ?_
    intro S1 h1 h2 S2 hS2
    subst hS2
    rw [HM2.1.1.1, if_pos ((i7 hn).1.mpr c)]
    refine m_neighbours hF hP HM2 HZ.2.1 ?_
    intro S3 hf3 hG
    rw [hG.1, fullN hn]
    refine m_waysFor (any := false) hF (Lab_cl HZ.2.1) (by omega) hG ?_
    intro S4 hf4 _ _
    exact hK _ _ _ h1 h2 (frM_trans (fr0 SM) (frM_trans hf3 hf4))
  · rw [if_neg (fun q => c ((i7 hn).1.mp q))]
    intro S2 hS2
    subst hS2
    rw [HM2.1.1.1, if_neg (fun q => c ((i7 hn).1.mp q))]
    exact hK _ _ _ (frX_refl _ _) HI (fr0 SM)
theorem fst_sub (F : Fm) (L : Nat → Nat) : ∀ es acc A, fst F L es acc = some A → (∀ p, p ∈ acc → p ∈ A) ∧ ∀ e, e ∈ es → ∃ x, (e, x) ∈ A
  | [], acc, A, h => by
    cases h
    exact ⟨fun p hp => hp, fun e he => by cases he⟩
  | e :: es, acc, A, h => by
    have hs : (fsW (fun w => if okA F L true acc e w then fst F L es ((e, w) :: acc) else none) (F 0 5)) = some A := h
    obtain ⟨w, hw⟩ : ∃ w, (if okA F L true acc e w then fst F L es ((e, w) :: acc) else none) = some A := by
      have : ∀ m, fsW (fun w => if okA F L true acc e w then fst F L es ((e, w) :: acc) else none) m = some A → ∃ w, (if okA F L true acc e w then fst F L es ((e, w) :: acc) else none) = some A := by
        intro m
        induction m with
        | zero => intro q; cases q
        | succ m ih =>
          intro q
          have q2 : (if (fsW (fun w => if okA F L true acc e w then fst F L es ((e, w) :: acc) else none) m).isSome then fsW (fun w => if okA F L true acc e w then fst F L es ((e, w) :: acc) else none) m else (if okA F L true acc e m then fst F L es ((e, m) :: acc) else none)) = some A := q
          split at q2
          · exact ih q2
          · exact ⟨m, q2⟩
      exact this _ hs
    by_cases c : okA F L true acc e w = true
    · rw [if_pos c] at hw
      obtain ⟨h1, h2⟩ := fst_sub F L es _ A hw
      refine ⟨fun p hp => h1 p (List.mem_cons_of_mem _ hp), fun e' he' => ?_⟩
      rcases List.mem_cons.mp he' with rfl | q
      · exact ⟨w, h1 _ (List.mem_cons_self ..)⟩
      · exact h2 e' q
    · rw [if_neg c] at hw; cases hw
theorem c_fill {F : Fm} {D : Dr} {pa pb L : Nat → Nat} {SE SM : St} {K : Int32 → Int32 → St → St → Prop} {a : Int32} (hF : FW F) (hP : PW F pa pb) (HE : FE 21 F SE) (HZ : EZ F L SE) (HI : FI F L SE) (HM : MF F D pa pb SM)
    (hK : ∀ r S1 S2, frX fcl SE S1 → FI F L S1 → frM SM S2 → K r r S1 S2) : w_X11_fill a SE (fun r S1 => w_X12_fill a SM (fun r' S2 => K r r' S1 S2)) := by
  have hn := hF.1.2.1
  have hp := pow_le12 hn
  have HM2 := MF_fr hF (fr0 SM) HM
  have f0 := fr0 SM
  unfold w_X11_fill
  rw [HE.1 0 (by omega)]
  by_cases c : F 0 0 ≤ 7
  · rw [if_neg (fun q => by have := (i7 hn).2.mp q; omega)]
    refine e_isEnd (by omega) (HE.1 0 (by omega)) (fun h => ?_) (fun e he e2 => ?_)
    · rw [if_pos rfl]
      intro S2 hS2; subst hS2
      refine m_isPlace (by omega) HM2.1.1.1 (fun _ => ?_) (fun p hp e2 => absurd h (pl_no (by omega) hp e2))
      rw [if_pos rfl]
      exact hK _ _ _ (frX_refl _ _) HI f0
    rw [if_neg (by decide)]
    subst e2
    refine e_canAll c hF HE HZ HI ?_
    intro S1 h1 h2 hA
    have mm : ∀ r, (∀ S4, frM SM S4 → (∀ A, fst F L (full F) [] = some A → ∀ p, p ∈ A → gI S4 40 p.1 = nI p.2) → if 0 < wys F L (full F) [] then K r (gI S4 40 e) S1 S4 else K r (-1) S1 S4) → w_X12_fill (nI e) SM (fun r' S2 => K r r' S1 S2) := by
      intro r hr S2 hS2
      subst hS2
      refine m_isPlace (by omega) HM2.1.1.1 (fun h => absurd h (pl_no (by omega) he rfl)) (fun _ _ _ => ?_)
      rw [if_neg (by decide), HM2.1.1.1, if_pos ((i7 hn).1.mpr c)]
      refine m_neighbours hF hP HM2 HZ.2.1 ?_
      intro S3 hf3 hG
      rw [hG.1, fullN hn]
      refine m_waysFor (any := true) hF (Lab_cl HZ.2.1) (by omega) hG ?_
      intro S4 hf4 _ h40
      have := hr S4 (frM_trans f0 (frM_trans hf3 hf4)) h40
      rw [if_pos rfl]
      by_cases d : 0 < wys F L (full F) []
      · rw [if_pos d] at this
        rw [if_pos d, if_pos (by decide), nI_clamp (by omega)]
        exact ⟨vp_in_nI (by omega) (by omega), this⟩
      · rw [if_neg d] at this
        rw [if_neg d, if_neg (by decide)]
        exact this
    by_cases d : 0 < wys F L (full F) []
    · rw [if_pos d, if_neg (by decide)]
      refine e_cell (by show e < 7; omega) (by decide) ?_
      refine mm _ (fun S4 hf4 h40 => ?_)
      rw [if_pos d]
      obtain ⟨A, hAe⟩ := Option.isSome_iff_exists.mp ((wys_fst F L _ _).mp d)
      obtain ⟨x, hx⟩ := (fst_sub F L _ _ A hAe).2 e (List.mem_of_getElem? ((full_at (F := F)).2 e he))
      have e1 := hA A hAe _ hx
      have e2 := h40 A hAe _ hx
      rw [show gI S1 44 e = nI x from e1, show gI S4 40 e = nI x from e2]
      exact hK _ _ _ h1 h2 hf4
    · rw [if_neg d, if_pos rfl]
      refine mm _ (fun S4 hf4 h40 => ?_)
      rw [if_neg d]
      exact hK _ _ _ h1 h2 hf4
  · rw [if_pos ((i7 hn).2.mpr (by omega))]
    intro S2 hS2; subst hS2
    refine m_isPlace (by omega) HM2.1.1.1 (fun _ => ?_) (fun p hp e2 => ?_)
    · rw [if_pos rfl]
      exact hK _ _ _ (frX_refl _ _) HI f0
    · rw [if_neg (by decide), HM2.1.1.1, if_neg (fun q => c ((i7 hn).1.mp q))]
      exact hK _ _ _ (frX_refl _ _) HI f0
theorem c_stuck {F : Fm} {D : Dr} {pa pb L : Nat → Nat} {SE SM : St} {K : Int32 → Int32 → St → St → Prop} {w : Int32} (hF : FW F) (hP : PW F pa pb) (HE : FE 21 F SE) (HZ : EZ F L SE) (HI : FI F L SE) (HM : MF F D pa pb SM)
    (hK : ∀ r S1 S2, frX fcl SE S1 → FI F L S1 → frM SM S2 → K r r S1 S2) : w_X11_stuck w SE (fun r S1 => w_X12_stuck w SM (fun r' S2 => K r r' S1 S2)) := by
  have hn := hF.1.2.1
  have hn0 := hF.1.1
  have hp := pow_le12 hn
  have hp2 : 2 ≤ 2 ^ F 0 0 := by
    have := Nat.pow_le_pow_right (n := 2) (by omega) hn0
    omega
  have HM2 := MF_fr hF (fr0 SM) HM
  have f0 := fr0 SM
  have bad : (w < 0 ∨ 1 < w) → w_X12_stuck w SM (fun r' S2 => K (-1) r' SE S2) := by
    intro h S2 hS2
    subst hS2
    refine m_within (fun _ => ?_) (fun a b => absurd h (fun q => q.elim a b))
    rw [if_pos rfl]
    exact hK _ _ _ (frX_refl _ _) HI f0
  unfold w_X11_stuck
  by_cases w0 : w < 0
  · rw [if_pos w0]; exact bad (Or.inl w0)
  rw [if_neg w0]
  by_cases w1 : 1 < w
  · rw [if_pos w1]; exact bad (Or.inr w1)
  rw [if_neg w1, HE.1 0 (by omega)]
  by_cases c : F 0 0 ≤ 7
  · rw [if_neg (fun q => by have := (i7 hn).2.mp q; omega)]
    refine e_canAll c hF HE HZ HI ?_
    intro S1 h1 h2 _
    have mm : ∀ r S1', (∀ S3, frM SM S3 → MG F L true S3 → w_X12_stuck_33 w (fun r' S2 => K r r' S1' S2) (-1 : Int32) (1 : Int32) S3) → w_X12_stuck w SM (fun r' S2 => K r r' S1' S2) := by
      intro r S1' hr S2 hS2
      subst hS2
      refine m_within (fun h => absurd h (fun q => q.elim w0 w1)) (fun _ _ => ?_)
      rw [if_neg (by decide), HM2.1.1.1, if_pos ((i7 hn).1.mpr c)]
      exact m_neighbours hF hP HM2 HZ.2.1 (fun S3 hf3 hG => hr S3 (frM_trans f0 hf3) hG)
    by_cases d : 0 < wys F L (full F) []
    · rw [if_pos d, if_neg (by decide)]
      have hall : ∀ c, 1 ≤ c → c < 2 ^ F 0 0 → ¬ nof F L c := by
        intro b b1 b2 hb
        have := wys_sub F L (set := 2 ^ F 0 0 - 1) (set' := b) (fun i hi => by
          rw [tb_full]
          rcases Nat.lt_or_ge i (F 0 0) with q | q
          · simp [q]
          · rw [tb_big b2 q] at hi; cases hi) (F 0 0) 0 [] [] (fun p hp => hp) d
        have hb2 : wys F L (bl b (F 0 0) 0) [] = 0 := hb
        omega
      refine mm _ _ (fun S3 hf3 hG => m_stuck33 hF (Lab_cl HZ.2.1) hG (fun _ S4 hf4 => hK _ _ _ h1 h2 (frM_trans hf3 hf4)) (fun b hb => absurd hb.2.2.1 (hall b hb.1 hb.2.1)))
    · rw [if_neg d, if_pos rfl]
      have hno : nof F L (2 ^ F 0 0 - 1) := by show wys F L (full F) [] = 0; omega
      refine e_fewestStuck c hF (FE21_fr h1 (by simp) HE) (EZ_fr h1 (by simp) HZ) h2 hno ?_
      intro S2 b h3 h4 hb
      have hbl := hb.2.1
      have hf2 := frX_trans h1 h3
      have res : ∀ r, (∀ S4, frM SM S4 → if w = 0 then K r (nI (pc b)) S2 S4 else K r (nI b) S2 S4) → w_X12_stuck w SM (fun r' S2' => K r r' S2 S2') := by
        intro r hr
        refine mm _ _ (fun S3 hf3 hG => m_stuck33 hF (Lab_cl HZ.2.1) hG (fun h => absurd hno (h _ (by omega) (by omega))) (fun b' hb' S4 hf4 => ?_))
        rw [stB_uniq hb' hb]
        exact hr S4 (frM_trans hf3 hf4)
      by_cases e : w = 0
      · rw [if_pos e]
        refine e_bitCount ?_
        rw [jbc_pc (by omega)]
        exact res _ (fun S4 hf4 => by rw [if_pos e]; exact hK _ _ _ hf2 h4 hf4)
      · rw [if_neg e]
        exact res _ (fun S4 hf4 => by rw [if_neg e]; exact hK _ _ _ hf2 h4 hf4)
  · rw [if_pos ((i7 hn).2.mpr (by omega))]
    intro S2 hS2; subst hS2
    refine m_within (fun h => absurd h (fun q => q.elim w0 w1)) (fun _ _ => ?_)
    rw [if_neg (by decide), HM2.1.1.1, if_neg (fun q => c ((i7 hn).1.mp q))]
    exact hK _ _ _ (frX_refl _ _) HI f0
