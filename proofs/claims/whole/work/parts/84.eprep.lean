/-! ===== pure: the class's filler: prepare ===== -/
def rel (F : Fm) (L : Nat → Nat) (a b : Nat) : Nat := ((if L a = L b then 1 else 0) ||| (if 0 < ahd (F 0 0) (F 1) a b then 2 else 0)) ||| (if 0 < ahd (F 0 0) (F 1) b a then 4 else 0)
def alwP (F : Fm) (r w o : Nat) : Bool := !(o == w) && (!(r.testBit 0) || F 4 w == F 4 o) && (!(r.testBit 1) || !(F 7 w).testBit o) && (!(r.testBit 2) || !(F 7 o).testBit w)
abbrev alw (F : Fm) (r w : Nat) : Nat := bso (alwP F r w) (F 0 5)
theorem rel_bits (F : Fm) (L : Nat → Nat) (a b : Nat) : rel F L a b < 8 ∧ (rel F L a b).testBit 0 = decide (L a = L b) ∧ (rel F L a b).testBit 1 = decide (0 < ahd (F 0 0) (F 1) a b) ∧ (rel F L a b).testBit 2 = decide (0 < ahd (F 0 0) (F 1) b a) := by
  unfold rel
  by_cases c1 : L a = L b <;> by_cases c2 : 0 < ahd (F 0 0) (F 1) a b <;> by_cases c3 : 0 < ahd (F 0 0) (F 1) b a <;> simp [c1, c2, c3] <;> decide
theorem alw_cp (F : Fm) (L : Nat → Nat) (a b w o : Nat) : alwP F (rel F L a b) w o = cp F L true a w b o := by
  obtain ⟨-, r0, r1, r2⟩ := rel_bits F L a b
  unfold alwP cp
  rw [r0, r1, r2]
  have e1 : (o == w) = (w == o) := by
    by_cases c : o = w
    · subst c; rfl
    · rw [beq_false_of_ne c, beq_false_of_ne (fun q => c q.symm)]
  have e2 : (decide (L a = L b)) = (L a == L b) := by
    by_cases c : L a = L b
    · simp [c]
    · simp [c]
  rw [e1, e2]
  generalize (w == o) = A
  generalize (L a == L b) = B
  generalize (F 4 w == F 4 o) = C
  generalize decide (0 < ahd (F 0 0) (F 1) a b) = D
  generalize (F 7 w).testBit o = E
  generalize decide (0 < ahd (F 0 0) (F 1) b a) = G
  generalize (F 7 o).testBit w = H
  revert A B C D E G H
  decide
/-- what the filler has prepared -/
def PR (F : Fm) (L : Nat → Nat) (S : St) : Prop := (∀ a b, a < F 0 0 → b < F 0 0 → gI S 46 (a * 7 + b) = nI (rel F L a b)) ∧ ∀ r w, r < 8 → w < F 0 5 → gI S 45 (r * 12 + w) = nI (alw F r w)
theorem and8 : ∀ r, r < 8 → ((nI r &&& (1 : Int32) = 0) ↔ r.testBit 0 = false) ∧ ((nI r &&& (2 : Int32) = 0) ↔ r.testBit 1 = false) ∧ ((nI r &&& (4 : Int32) = 0) ↔ r.testBit 2 = false) := by decide +kernel
theorem e_areRhyming {F : Fm} {S : St} {Q : Int32 → St → Prop} {o a b : Nat} (hl : lnE (o + 4) = 12) (hF : FW F) (H : FE o F S) (ha : a < F 0 5) (hb : b < F 0 5) (hQ : Q (if F 4 a = F 4 b then 1 else 0) S) : w_X4_areRhyming o (nI a) (nI b) S Q := by
  have hw := hF.1.2.2.2.2.2.2.1
  refine e_cell (by omega) (by omega) (e_cell (by omega) (by omega) ?_)
  rw [H.2.2 4 a (by omega) (by omega) ha, H.2.2 4 b (by omega) (by omega) hb]
  have h1 := (hF.2.2.2 a ha).1
  have h2 := (hF.2.2.2 b hb).1
  refine nI_ifEq (by omega) (by omega) (fun c => ?_) (fun c => ?_)
  · rw [if_pos c] at hQ; exact hQ
  · rw [if_neg c] at hQ; exact hQ
theorem e_allowedBy {F : Fm} {S : St} {Q : Int32 → St → Prop} {r w : Nat} (hF : FW F) (hE : FE 21 F S) (hr : r < 8) (hw : w < F 0 5) (hQ : Q (nI (alw F r w)) S) : w_X3_allowedBy (nI r) (nI w) S Q := by
  have hww := hF.1.2.2.2.2.2.2.1
  obtain ⟨b0, b1, b2⟩ := and8 r hr
  refine up2 (B := b_X3_allowedBy_5 (nI r) (nI w) Q) (F 0 5) (by omega) (fun o v S' => S' = S ∧ v = nI (bso (alwP F r w) o)) ?_ ?_ 0 _ (by omega) ⟨rfl, rfl⟩
  · rintro kk o v S' ho ⟨rfl, rfl⟩ hkk
    unfold b_X3_allowedBy_5
    rw [hE.1 5 (by omega), if_neg (nI_ge ho (by omega))]
    have put : ∀ z : Nat, z = (if alwP F r w o then 2 ^ o else 0) → w_X3_allowedBy_101 (nI r) (nI w) kk (nI o) (nI z) (nI (bso (alwP F r w) o)) S' := by
      intro z hz x hx y hy
      refine hkk _ _ _ hy ⟨rfl, ?_⟩
      rw [hx, bN_or, hz]; rfl
    have no : alwP F r w o = false → w_X3_allowedBy_80 (nI r) (nI w) kk (nI (bso (alwP F r w) o)) (nI o) S' := by
      intro h
      unfold w_X3_allowedBy_80 w_X3_allowedBy_85
      rw [if_neg (by decide)]
      exact put 0 (by rw [h]; rfl)
    have yes : alwP F r w o = true → w_X3_allowedBy_84 (nI r) (nI w) kk (nI (bso (alwP F r w) o)) (nI o) S' := by
      intro h
      unfold w_X3_allowedBy_84 w_X3_allowedBy_85
      rw [if_pos rfl, bN_one (by omega)]
      exact put _ (by rw [if_pos h])
    refine nI_ifEq (by omega) (by omega) (fun c => no (by simp [alwP, c])) (fun c => ?_)
    have st2 : (!(r.testBit 0) || F 4 w == F 4 o) = true → (!(r.testBit 1) || !(F 7 w).testBit o) = true → w_X3_allowedBy_61 (nI r) (nI w) kk (nI (bso (alwP F r w) o)) (nI o) S' := by
      intro h0 h1
      unfold w_X3_allowedBy_61
      by_cases d : r.testBit 2 = false
      · rw [if_pos (b2.mpr d)]
        exact yes (by simp only [alwP, h0, h1, d]; simp [c])
      · rw [if_neg (fun q => d (b2.mp q))]
        refine e_forbids rfl hF hE ho hw ?_
        by_cases q : (F 7 o).testBit w = true
        · rw [if_pos q, if_neg (by decide)]
          exact no (by simp [alwP, q, d])
        · rw [if_neg q, if_pos rfl]
          exact yes (by simp only [alwP, h0, h1]; simp [c, q])
    have st1 : (!(r.testBit 0) || F 4 w == F 4 o) = true → w_X3_allowedBy_42 (nI r) (nI w) kk (nI (bso (alwP F r w) o)) (nI o) S' := by
      intro h0
      unfold w_X3_allowedBy_42
      by_cases d : r.testBit 1 = false
      · rw [if_pos (b1.mpr d)]
        exact st2 h0 (by simp [d])
      · rw [if_neg (fun q => d (b1.mp q))]
        refine e_forbids rfl hF hE hw ho ?_
        by_cases q : (F 7 w).testBit o = true
        · rw [if_pos q, if_neg (by decide)]
          exact no (by simp [alwP, q, d])
        · rw [if_neg q, if_pos rfl]
          exact st2 h0 (by simp [q])
    by_cases d : r.testBit 0 = false
    · rw [if_pos (b0.mpr d)]
      exact st1 (by simp [d])
    · rw [if_neg (fun q => d (b0.mp q))]
      refine e_areRhyming rfl hF hE hw ho ?_
      by_cases q : F 4 w = F 4 o
      · rw [if_pos q, if_neg (by decide)]
        exact st1 (by simp [q])
      · rw [if_neg q, if_pos rfl]
        exact no (by simp [alwP, q, d])
  · rintro kk v S' ⟨rfl, rfl⟩
    unfold b_X3_allowedBy_5
    rw [hE.1 5 (by omega), if_pos (nI_le (Nat.le_refl _) (by omega))]
    exact hQ
theorem EZ_fr {F : Fm} {L : Nat → Nat} {l : List Nat} {S S' : St} (hf : frX l S S') (hl : ∀ x, x ∈ l → x = 21 ∨ x = 22 ∨ (34 ≤ x ∧ x ≤ 40) → False) (H : EZ F L S) : EZ F L S' := by
  have ni : ∀ b, (b = 21 ∨ b = 22 ∨ (34 ≤ b ∧ b ≤ 40)) → b ∉ l := fun b hb q => hl b q hb
  obtain ⟨⟨u1, u2, u3, u4, u5, u6, u7, u8, u9, u10, u11, u12, u13, u14⟩, h2, h3, h4⟩ := H
  refine ⟨⟨u1, u2, u3, ?_, ?_, fun i hi => ?_, fun i hi => ?_, fun i hi => ?_, fun i hi => ?_, ?_, ?_, ?_, ?_, ?_⟩, h2, fun e he => ?_, fun a b ha hb => ?_⟩
  · rw [frX_g hf 21 0 (ni _ (by omega))]; exact u4
  · rw [frX_g hf 34 7 (ni _ (by omega))]; exact u5
  · rw [frX_g hf 22 i (ni _ (by omega))]; exact u6 i hi
  · rw [frX_g hf 37 i (ni _ (by omega))]; exact u7 i hi
  · rw [frX_g hf 38 i (ni _ (by omega))]; exact u8 i hi
  · rw [frX_g hf 36 i (ni _ (by omega))]; exact u9 i hi
  · rw [frX_g hf 35 1 (ni _ (by omega))]; exact u10
  · rw [frX_g hf 35 2 (ni _ (by omega))]; exact u11
  · rw [frX_g hf 35 3 (ni _ (by omega))]; exact u12
  · rw [frX_g hf 35 4 (ni _ (by omega))]; exact u13
  · rw [frX_gJ hf 35 5 (ni _ (by omega))]; exact u14
  · rw [frX_g hf 39 e (ni _ (by omega))]; exact h3 e he
  · rw [frX_g hf 40 _ (ni _ (by omega))]; exact h4 a b ha hb
theorem FE_fr {F : Fm} {l : List Nat} {o : Nat} {S S' : St} (hf : frX l S S') (hl : ∀ k, k ≤ 7 → (o + k) ∉ l) (H : FE o F S) : FE o F S' := by
  refine ⟨fun j hj => ?_, fun k j k1 k2 hj => ?_, fun k j k1 k2 hj => ?_⟩
  · rw [frX_g hf o j (hl 0 (by omega))]; exact H.1 j hj
  · rw [frX_g hf (o + k) j (hl k (by omega))]; exact H.2.1 k j k1 k2 hj
  · rw [frX_g hf (o + k) j (hl k (by omega))]; exact H.2.2 k j k1 k2 hj
theorem FE21_fr {F : Fm} {l : List Nat} {S S' : St} (hf : frX l S S') (hl : ∀ x, x ∈ l → 21 ≤ x ∧ x ≤ 28 → False) (H : FE 21 F S) : FE 21 F S' := FE_fr hf (fun k hk q => hl _ q (by omega)) H
/-- all of the filler's own fields but one are as they were -/
def fr43 (l : List Nat) (S S' : St) : Prop := ∀ j, j ∉ l → gI S' 43 j = gI S 43 j ∧ gJ S' 43 j = gJ S 43 j
theorem e_prepare {F : Fm} {L : Nat → Nat} {S : St} {Q : St → Prop} (hn7 : F 0 0 ≤ 7) (hF : FW F) (hE : FE 21 F S) (hZ : EZ F L S)
    (hQ : ∀ S', frX [43, 45, 46] S S' → fr43 [9] S S' → gI S' 43 9 = 1 → PR F L S' → Q S') : w_X3_prepare S Q := by
  have hn := hF.1.2.1
  have hww := hF.1.2.2.2.2.2.2.1
  have hrl : rnd (F 0 0) (F 1) ≤ 27720 := rnd_le hF.2.1 hn (Nat.le_refl _)
  have part2 : ∀ T, frX [46] S T → (∀ a b, a < F 0 0 → b < F 0 0 → a < 7 → b < 7 → gI T 46 (a * 7 + b) = nI (rel F L a b)) → w_X3_prepare_102 Q (0 : Int32) T := by
    intro T hT t46
    have t46b : ∀ U, frX [45] T U → ∀ a b, a < F 0 0 → b < F 0 0 → a < 7 → b < 7 → gI U 46 (a * 7 + b) = nI (rel F L a b) := fun U hU a b h1 h2 h3 h4 => by rw [frX_g hU 46 _ (by decide)]; exact t46 a b h1 h2 h3 h4
    refine up1 (B := b_X3_prepare_102 Q) 8 (by omega) (fun r S' => frX [45] T S' ∧ ∀ r' w, r' < r → w < F 0 5 → gI S' 45 (r' * 12 + w) = nI (alw F r' w)) ?_ ?_ 0 (by omega) ⟨frX_refl _ _, fun _ _ h => absurd h (Nat.not_lt_zero _)⟩
    · rintro kk r S' hr ⟨hf, i1⟩ hkk
      unfold b_X3_prepare_102
      rw [if_neg (show ¬ (8 : Int32) ≤ nI r from nI_ge (b := 8) hr (by omega))]
      refine up1 (B := b_X3_prepare_110 kk (nI r)) (F 0 5) (by omega) (fun w S2 => frX [45] T S2 ∧ ∀ r' w', w' < F 0 5 → (r' < r ∨ (r' = r ∧ w' < w)) → gI S2 45 (r' * 12 + w') = nI (alw F r' w')) ?_ ?_ 0 (by omega) ⟨hf, fun r' w' h1 h2 => i1 r' w' (by omega) h1⟩
      · rintro k2 w S2 hw ⟨hf2, j1⟩ hk2
        unfold b_X3_prepare_110
        have hE2 : FE 21 F S2 := FE21_fr (frX_trans (frX_sub hT (m := [45, 46]) (by simp)) (frX_sub hf2 (by simp))) (by simp) hE
        have m3 : nI r * (12 : Int32) + nI w = nI (r * 12 + w) := by rw [← nI_add, ← pk_mul]; rfl
        rw [hE2.1 5 (by omega), if_neg (nI_ge hw (by omega))]
        refine e_allowedBy hF hE2 hr hw ?_
        rw [m3]
        refine e_put (by show _ < 96; omega) (by decide) ?_
        intro y hy
        refine hk2 _ _ hy ⟨frX_sI hf2 (by decide), fun r' w' h1 h2 => ?_⟩
        rw [gI_sI]
        by_cases c : r' = r ∧ w' = w
        · obtain ⟨rfl, rfl⟩ := c
          rw [if_pos ⟨rfl, rfl⟩]
        · rw [if_neg (fun q => c (by have := q.2; omega))]
          exact j1 r' w' h1 (by omega)
      · rintro k2 S2 ⟨hf2, j1⟩
        unfold b_X3_prepare_110
        have hE2 : FE 21 F S2 := FE21_fr (frX_trans (frX_sub hT (m := [45, 46]) (by simp)) (frX_sub hf2 (by simp))) (by simp) hE
        rw [hE2.1 5 (by omega), if_pos (nI_le (Nat.le_refl _) (by omega))]
        intro x hx
        exact hkk _ _ hx ⟨hf2, fun r' w h1 h2 => j1 r' w h2 (by omega)⟩
    · rintro kk S' ⟨hf, i1⟩
      unfold b_X3_prepare_102
      rw [if_pos (show (8 : Int32) ≤ nI 8 from nI_le (a := 8) (Nat.le_refl _) (by omega))]
      intro S2 hS2
      subst hS2
      have hall : frX [43, 45, 46] S S' := frX_trans (frX_sub hT (by simp)) (frX_sub hf (by simp))
      refine hQ _ (frX_sI hall (by decide)) (fun j hj => ⟨?_, ?_⟩) (by rw [gI_sI, if_pos ⟨rfl, rfl⟩]) ⟨fun a b ha hb => ?_, fun r w hr hw => ?_⟩
      · rw [gI_sI, if_neg (fun q => hj (by rw [q.2]; decide)), frX_g hf 43 j (by decide), frX_g hT 43 j (by decide)]
      · rw [gJ_sI, frX_gJ hf 43 j (by decide), frX_gJ hT 43 j (by decide)]
      · rw [gI_sI, if_neg (by omega)]; exact t46b S' hf a b ha hb (by omega) (by omega)
      · rw [gI_sI, if_neg (by omega)]; exact i1 r w hr hw
  refine up1 (B := b_X3_prepare_2 Q) 7 (by omega) (fun a S' => frX [46] S S' ∧ ∀ a' b, a' < F 0 0 → b < F 0 0 → a' < a → b < 7 → gI S' 46 (a' * 7 + b) = nI (rel F L a' b)) ?_ ?_ 0 (by omega) ⟨frX_refl _ _, fun _ _ _ _ h => absurd h (Nat.not_lt_zero _)⟩
  · rintro kk a S' ha ⟨hf, i1⟩ hkk
    unfold b_X3_prepare_2
    rw [if_neg (show ¬ (7 : Int32) ≤ nI a from nI_ge (b := 7) ha (by omega))]
    refine up1 (B := b_X3_prepare_10 kk (nI a)) 7 (by omega) (fun b S2 => frX [46] S S2 ∧ ∀ a' b', a' < F 0 0 → b' < F 0 0 → (a' < a ∧ b' < 7 ∨ (a' = a ∧ b' < b)) → gI S2 46 (a' * 7 + b') = nI (rel F L a' b')) ?_ ?_ 0 (by omega) ⟨hf, fun a' b' h1 h2 h3 => i1 a' b' h1 h2 (by omega) (by omega)⟩
    · rintro k2 b S2 hb ⟨hf2, j1⟩ hk2
      unfold b_X3_prepare_10
      rw [if_neg (show ¬ (7 : Int32) ≤ nI b from nI_ge (b := 7) hb (by omega))]
      have m1 : nI a * (12 : Int32) + nI b = nI (a * 12 + b) := by rw [← nI_add, ← pk_mul]; rfl
      have m2 : nI b * (12 : Int32) + nI a = nI (b * 12 + a) := by rw [← nI_add, ← pk_mul]; rfl
      have m3 : nI a * (7 : Int32) + nI b = nI (a * 7 + b) := by rw [← nI_add, ← pk_mul]; rfl
      have h39 : ∀ e, e < F 0 0 → gI S2 39 e = nI (L e) := fun e he => by rw [frX_g hf2 39 e (by decide)]; exact hZ.2.2.1 e he
      have h40 : ∀ x y, x < F 0 0 → y < F 0 0 → gI S2 40 (x * 12 + y) = nI (ahd (F 0 0) (F 1) x y) := fun x y hx hy => by rw [frX_g hf2 40 _ (by decide)]; exact hZ.2.2.2 x y hx hy
      have hLt : ∀ e, e < F 0 0 → L e < 12 := fun e he => by have := Lab_lt hZ.2.1 he; omega
      have hat : ∀ x y, ahd (F 0 0) (F 1) x y ≤ 27720 := fun x y => Nat.le_trans (cnt_le _ _) hrl
      have fin : ∀ z3 z12 : Nat, (a < F 0 0 → b < F 0 0 → z12 ||| z3 = rel F L a b) → w_X3_prepare_72 k2 (nI a) (nI b) (nI z3) (nI z12) S2 := by
        intro z3 z12 hz x hx
        rw [bN_or] at hx
        unfold w_X3_prepare_72 at *
        rw [m3]
        refine e_put (by show _ < 49; omega) (by decide) ?_
        intro y hy
        refine hk2 _ _ hy ⟨frX_sI hf2 (by decide), fun a' b' h1 h2 h3 => ?_⟩
        rw [gI_sI]
        by_cases c : a' = a ∧ b' = b
        · obtain ⟨rfl, rfl⟩ := c
          rw [if_pos ⟨rfl, rfl⟩, hx, hz h1 h2]
        · rw [if_neg (fun q => c (by have := q.2; omega))]
          exact j1 a' b' h1 h2 (by omega)
      have st3 : ∀ z2 z1 : Nat, (a < F 0 0 → b < F 0 0 → z1 ||| z2 = (if L a = L b then 1 else 0) ||| (if 0 < ahd (F 0 0) (F 1) a b then 2 else 0)) → w_X3_prepare_52 k2 (nI a) (nI b) (nI z2) (nI z1) S2 := by
        intro z2 z1 hz x hx
        rw [bN_or] at hx
        subst hx
        unfold w_X9_timesAhead
        rw [m2]
        refine e_cell (by show _ < 144; omega) (by decide) ?_
        dsimp only
        by_cases c : gI S2 40 (b * 12 + a) ≤ 0
        · rw [if_pos c]
          refine fin 0 _ (fun ha' hb' => ?_)
          rw [h40 b a hb' ha'] at c
          rw [hz ha' hb']
          unfold rel
          have := hat b a
          rw [if_neg (c := 0 < ahd (F 0 0) (F 1) b a) (fun q => nI_nle q (by omega) c)]
        · rw [if_neg c]
          refine fin 4 _ (fun ha' hb' => ?_)
          rw [h40 b a hb' ha'] at c
          rw [hz ha' hb']
          unfold rel
          rw [if_pos (c := 0 < ahd (F 0 0) (F 1) b a) (Nat.pos_of_ne_zero (fun q => c (by rw [q]; decide)))]
      have st2 : ∀ z1 : Nat, (a < F 0 0 → b < F 0 0 → z1 = (if L a = L b then 1 else 0)) → w_X3_prepare_33 k2 (nI a) (nI b) (nI z1) S2 := by
        intro z1 hz
        unfold w_X3_prepare_33 w_X9_timesAhead
        rw [m1]
        refine e_cell (by show _ < 144; omega) (by decide) ?_
        dsimp only
        by_cases c : gI S2 40 (a * 12 + b) ≤ 0
        · rw [if_pos c]
          refine st3 0 _ (fun ha' hb' => ?_)
          rw [h40 a b ha' hb'] at c
          rw [hz ha' hb']
          have := hat a b
          rw [if_neg (c := 0 < ahd (F 0 0) (F 1) a b) (fun q => nI_nle q (by omega) c)]
        · rw [if_neg c]
          refine st3 2 _ (fun ha' hb' => ?_)
          rw [h40 a b ha' hb'] at c
          rw [hz ha' hb']
          rw [if_pos (c := 0 < ahd (F 0 0) (F 1) a b) (Nat.pos_of_ne_zero (fun q => c (by rw [q]; decide)))]
      unfold w_X9_areOneClass
      refine e_cell (by show a < 12; omega) (by decide) (e_cell (by show b < 12; omega) (by decide) ?_)
      dsimp only
      by_cases c : gI S2 39 a = gI S2 39 b
      · rw [if_pos c, if_neg (by decide)]
        refine st2 1 (fun ha' hb' => ?_)
        rw [h39 a ha', h39 b hb'] at c
        rw [if_pos (nI_inj (by have := hLt a ha'; omega) (by have := hLt b hb'; omega) c)]
      · rw [if_neg c, if_pos rfl]
        refine st2 0 (fun ha' hb' => ?_)
        rw [h39 a ha', h39 b hb'] at c
        rw [if_neg (fun q => c (by rw [q]))]
    · rintro k2 S2 ⟨hf2, j1⟩
      unfold b_X3_prepare_10
      rw [if_pos (show (7 : Int32) ≤ nI 7 from nI_le (a := 7) (Nat.le_refl _) (by omega))]
      intro x hx
      exact hkk _ _ hx ⟨hf2, fun a' b h1 h2 h3 h4 => j1 a' b h1 h2 (by omega)⟩
  · rintro kk S' ⟨hf, i1⟩
    unfold b_X3_prepare_2
    rw [if_pos (show (7 : Int32) ≤ nI 7 from nI_le (a := 7) (Nat.le_refl _) (by omega))]
    exact part2 S' hf i1
