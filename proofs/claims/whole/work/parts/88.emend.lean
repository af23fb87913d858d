/-! ===== pure: the class's mender: changes, words by rhyme, unbroken sets ===== -/
def endL (F : Fm) (l : Nat) : Nat := it (F 1) (l / F 0 0) (l % F 0 0)
def chgU (F : Fm) (D : Dr) (e w m : Nat) : Nat := cnt (fun l => endL F l == e && !(D 1 l == w)) m
abbrev chg (F : Fm) (D : Dr) (e w : Nat) : Nat := chgU F D e w (D 0 0)
theorem chg_le {F : Fm} {D : Dr} (hD : DW F D) (e w : Nat) : chg F D e w ≤ 60 := Nat.le_trans (cnt_le _ _) hD.1
theorem endL_lt {F : Fm} (hF : FW F) (l : Nat) : endL F l < F 0 0 := it_lt hF.2.1 (Nat.mod_lt _ (by have := hF.1.1; omega)) _
theorem DE_fr {D : Dr} {l : List Nat} {S S' : St} (hf : frX l S S') (hl : ∀ x, x ∈ l → 30 ≤ x ∧ x ≤ 33 → False) (H : DE 30 D S) : DE 30 D S' := by
  refine ⟨?_, fun k j k1 k2 hj => ?_⟩
  · rw [frX_g hf 30 3 (fun q => hl _ q (by omega))]; exact H.1
  · rw [frX_g hf (30 + k) j (fun q => hl _ q (by omega))]; exact H.2 k j k1 k2 hj
theorem chgU_succ (F : Fm) (D : Dr) (e w m : Nat) : chgU F D e w (m + 1) = chgU F D e w m + (if endL F m = e ∧ D 1 m ≠ w then 1 else 0) := by
  show chgU F D e w m + _ = _
  congr 1
  by_cases c : endL F m = e ∧ D 1 m ≠ w
  · rw [if_pos c, if_pos (by simp [c.1, c.2])]
  · rw [if_neg c, if_neg (by simpa using c)]
theorem e_countChanges {F : Fm} {L : Nat → Nat} {D : Dr} {S : St} {Q : St → Prop} (hn7 : F 0 0 ≤ 7) (hF : FW F) (hD : DW F D) (hE : FE 21 F S) (hZ : EZ F L S) (hDE : DE 30 D S)
    (hQ : ∀ S', frX [52] S S' → (∀ e w, e < F 0 0 → w < F 0 5 → gI S' 52 (e * 12 + w) = nI (chg F D e w)) → Q S') : w_X6_countChanges S Q := by
  have hn0 := hF.1.1
  have hww := hF.1.2.2.2.2.2.2.1
  have hd60 := hD.1
  refine e_blank (by decide) ?_
  refine up1 (B := b_X6_countChanges_10 Q) (D 0 0) (by omega) (fun l S' => frX [52] S S' ∧ ∀ e w, e < F 0 0 → w < F 0 5 → gI S' 52 (e * 12 + w) = nI (chgU F D e w l)) ?_ ?_ 0 (by omega) ⟨frX_row (frX_refl _ _) (by decide), fun e w he hw => by rw [gI_setRow, if_pos ⟨rfl, by show _ < 84; omega⟩]; rfl⟩
  · rintro kk l S' hl ⟨hf, i1⟩ hkk
    unfold b_X6_countChanges_10
    have hE' := FE21_fr hf (by simp) hE
    have hZ' := EZ_fr hf (by simp) hZ
    have hD' := DE_fr hf (by simp) hDE
    have hq : l / F 0 0 < 2 ^ 31 := Nat.lt_of_le_of_lt (Nat.div_le_self _ _) (by omega)
    have hne : ¬ nI (F 0 0) = 0 := nI_ne0 (by omega) (by omega)
    rw [hD'.1, if_neg (nI_ge hl (by omega)), hE'.1 0 (by omega), if_neg (nI_nle (by omega) (by omega)), pk_rem (by omega) (by omega) (by omega), pk_div (by omega) (by omega) (by omega), nI_l hq]
    refine ⟨hne, hne, ?_⟩
    have hend := endL_lt hF l
    refine e_endAt hZ'.1 (Nat.mod_lt _ (by omega)) (by omega) ?_
    refine up1 (B := b_X6_countChanges_60 kk (nI l) (nI (it (F 1) (l / F 0 0) (l % F 0 0)))) (F 0 5) (by omega) (fun w S2 => frX [52] S S2 ∧ ∀ e w', e < F 0 0 → w' < F 0 5 → gI S2 52 (e * 12 + w') = nI (if w' < w then chgU F D e w' (l + 1) else chgU F D e w' l)) ?_ ?_ 0 (by omega) ⟨hf, fun e w he hw => by rw [if_neg (by omega)]; exact i1 e w he hw⟩
    · rintro k2 w S2 hw ⟨hf2, j1⟩ hk2
      unfold b_X6_countChanges_60
      have hE2 := FE21_fr hf2 (by simp) hE
      have hD2 := DE_fr hf2 (by simp) hDE
      have hdl := (hD.2 l hl).1
      rw [hE2.1 5 (by omega), if_neg (nI_ge hw (by omega))]
      intro x hx
      have hx2 : x = nI (endL F l * 12 + w) := by rw [hx, ← nI_add, ← pk_mul]; rfl
      subst hx2
      refine e_cell (by show _ < 84; omega) (by decide) (e_cell (by show l < 60; omega) (by decide) ?_)
      have hd31 : gI S2 31 l = nI (D 1 l) := hD2.2 1 l (by omega) (by omega) hl
      rw [j1 _ w hend hw, if_neg (Nat.lt_irrefl w), hd31]
      have fin : ∀ z : Nat, z = (if D 1 l ≠ w then 1 else 0) → w_X6_countChanges_114 k2 (nI l) (nI (it (F 1) (l / F 0 0) (l % F 0 0))) (nI w) (nI z) (nI (chgU F D (endL F l) w l)) (nI (endL F l * 12 + w)) S2 := by
        intro z hz
        refine e_put (by show _ < 84; omega) (by decide) ?_
        intro y hy
        refine hk2 _ _ hy ⟨frX_sI hf2 (by decide), fun e w' he hw' => ?_⟩
        rw [gI_sI]
        by_cases c : e = endL F l ∧ w' = w
        · obtain ⟨rfl, rfl⟩ := c
          rw [if_pos ⟨rfl, rfl⟩, nI_add, if_pos (by omega), chgU_succ, hz]
          congr 2
          by_cases d : D 1 l ≠ w'
          · rw [if_pos d, if_pos ⟨rfl, d⟩]
          · rw [if_neg d, if_neg (fun q => d q.2)]
        · rw [if_neg (fun q => c (by have := q.2; omega)), j1 e w' he hw']
          congr 1
          by_cases d : w' < w
          · rw [if_pos d, if_pos (by omega)]
          · rw [if_neg d]
            by_cases d2 : w' = w
            · rw [if_pos (by omega), chgU_succ, if_neg (fun q => c ⟨q.1.symm, d2⟩)]; rfl
            · rw [if_neg (by omega)]
      refine nI_ifEq (by omega) (by omega) (fun c => ?_) (fun c => ?_)
      · exact fin 0 (by rw [if_neg (fun q => q c)])
      · exact fin 1 (by rw [if_pos c])
    · rintro k2 S2 ⟨hf2, j1⟩
      unfold b_X6_countChanges_60
      have hE2 := FE21_fr hf2 (by simp) hE
      rw [hE2.1 5 (by omega), if_pos (nI_le (Nat.le_refl _) (by omega))]
      intro x hx
      exact hkk _ _ hx ⟨hf2, fun e w he hw => by rw [j1 e w he hw, if_pos hw]⟩
  · rintro kk S' ⟨hf, i1⟩
    unfold b_X6_countChanges_10
    have hD' := DE_fr hf (by simp) hDE
    rw [hD'.1, if_pos (nI_le (Nat.le_refl _) (by omega))]
    exact hQ S' hf i1
/-- the words by rhyme -/
def srt (F : Fm) (m : Nat) (π : Nat → Nat) : Prop := Pm m π ∧ ∀ i j, i ≤ j → j < m → F 4 (π i) ≤ F 4 (π j)
theorem e_sortWords {F : Fm} {S : St} {Q : St → Prop} (hF : FW F) (hE : FE 21 F S)
    (hQ : ∀ S' π, frX [53] S S' → srt F (F 0 5) π → (∀ i, i < F 0 5 → gI S' 53 i = nI (π i)) → Q S') : w_X6_sortWords S Q := by
  have hww := hF.1.2.2.2.2.2.2.1
  refine up1 (B := b_X6_sortWords_2 Q) (F 0 5) (by omega) (fun v S' => frX [53] S S' ∧ ∃ π, srt F v π ∧ ∀ i, i < v → gI S' 53 i = nI (π i)) ?_ ?_ 0 (by omega) ⟨frX_refl _ _, fun e => e, ⟨⟨fun i hi => hi, fun i j _ _ q => q⟩, fun i j _ h => absurd h (Nat.not_lt_zero _)⟩, fun i hi => absurd hi (Nat.not_lt_zero _)⟩
  · rintro kk v S' hv ⟨hf, π, ⟨hP, hs⟩, i1⟩ hkk
    unfold b_X6_sortWords_2
    have hE' := FE21_fr hf (by simp) hE
    rw [hE'.1 5 (by omega), if_neg (nI_ge hv (by omega))]
    refine loopG2 (B := b_X6_sortWords_17 kk (nI v)) (fun c v2 v3 S2 => frX [53] S S2 ∧ ∃ p, p ≤ v ∧ c = p ∧ v2 = nI p ∧ v3 = nI (v - p) ∧ (∀ i, i < p → gI S2 53 i = nI (π i)) ∧ (∀ i, p < i → i ≤ v → gI S2 53 i = nI (π (i - 1))) ∧ ∀ i, p ≤ i → i < v → F 4 v < F 4 (π i)) ?_ v _ _ ⟨hf, v, Nat.le_refl _, rfl, rfl, by rw [Nat.sub_self]; rfl, i1, fun i a b => by omega, fun i a b => by omega⟩
    rintro k2 c x0 x1 S2 ⟨hf2, p, hp, hcp, rfl, rfl, j1, j2, j3⟩ hk2
    subst hcp
    have hE2 := FE21_fr hf2 (by simp) hE
    have fin : (∀ i, i < c → F 4 (π i) ≤ F 4 v) → w_X6_sortWords_86 kk (nI v) (nI c) S2 := by
      intro hlow
      refine e_put (by show c < 12; omega) (by decide) ?_
      intro x hx
      refine hkk _ _ hx ⟨frX_sI hf2 (by decide), fun k => if k < c then π k else if k = c then v else π (k - 1), ⟨⟨fun i hi => ?_, fun i j hi hj q => ?_⟩, fun i j hij hj => ?_⟩, fun i hi => ?_⟩
      · dsimp only
        split
        · have := hP.1 i (by omega); omega
        · split
          · omega
          · have := hP.1 (i - 1) (by omega); omega
      · dsimp only at q
        by_cases a1 : i < c
        · by_cases b1 : j < c
          · rw [if_pos a1, if_pos b1] at q; exact hP.2 i j (by omega) (by omega) q
          · rw [if_pos a1, if_neg b1] at q
            have h1 := hP.1 i (by omega)
            by_cases b2 : j = c
            · rw [if_pos b2] at q; omega
            · rw [if_neg b2] at q
              have := hP.2 i (j - 1) (by omega) (by omega) q
              omega
        · by_cases b1 : j < c
          · rw [if_neg a1, if_pos b1] at q
            have h1 := hP.1 j (by omega)
            by_cases a2 : i = c
            · rw [if_pos a2] at q; omega
            · rw [if_neg a2] at q
              have := hP.2 (i - 1) j (by omega) (by omega) q
              omega
          · rw [if_neg a1, if_neg b1] at q
            by_cases a2 : i = c
            · by_cases b2 : j = c
              · omega
              · rw [if_pos a2, if_neg b2] at q
                have := hP.1 (j - 1) (by omega)
                omega
            · by_cases b2 : j = c
              · rw [if_neg a2, if_pos b2] at q
                have := hP.1 (i - 1) (by omega)
                omega
              · rw [if_neg a2, if_neg b2] at q
                have := hP.2 (i - 1) (j - 1) (by omega) (by omega) q
                omega
      · dsimp only
        by_cases a1 : i < c
        · rw [if_pos a1]
          by_cases b1 : j < c
          · rw [if_pos b1]; exact hs i j hij (by omega)
          · rw [if_neg b1]
            by_cases b2 : j = c
            · rw [if_pos b2]; exact hlow i a1
            · rw [if_neg b2]; exact hs i (j - 1) (by omega) (by omega)
        · rw [if_neg a1, if_neg (show ¬ j < c by omega)]
          by_cases a2 : i = c
          · rw [if_pos a2]
            by_cases b2 : j = c
            · rw [if_pos b2]; exact Nat.le_refl _
            · rw [if_neg b2]; exact Nat.le_of_lt (j3 (j - 1) (by omega) (by omega))
          · rw [if_neg a2, if_neg (show ¬ j = c by omega)]
            exact hs (i - 1) (j - 1) (by omega) (by omega)
      · rw [gI_sI]
        dsimp only
        by_cases a2 : i = c
        · rw [if_pos ⟨rfl, a2⟩, if_neg (by omega), if_pos a2]
        · rw [if_neg (fun q => a2 q.2)]
          by_cases a1 : i < c
          · rw [if_pos a1]; exact j1 i a1
          · rw [if_neg a1, if_neg a2]; exact j2 i (by omega) (by omega)
    unfold b_X6_sortWords_17
    by_cases c0 : c = 0
    · subst c0
      rw [if_pos (nI_le (by omega) (by omega))]
      exact fin (fun i hi => absurd hi (Nat.not_lt_zero _))
    · rw [if_neg (nI_ge (by omega) (by omega)), if_neg (nI_nle (by omega) (by omega)), show nI c - (1 : Int32) = nI (c - 1) from pk_sub (b := 1) (by omega)]
      refine e_cell (by show c - 1 < 12; omega) (by decide) ?_
      have hpc := hP.1 (c - 1) (by omega)
      rw [j1 (c - 1) (by omega)]
      have e25 : ∀ w, w < F 0 5 → gI S2 25 w = nI (F 4 w) := fun w hw => hE2.2.2 4 w (by omega) (by omega) hw
      refine e_cell (by show _ < 12; omega) (by decide) (e_cell (by show v < 12; omega) (by decide) ?_)
      rw [e25 v hv, e25 (π (c - 1)) (by omega)]
      have r1 := (hF.2.2.2 (π (c - 1)) (by omega)).1
      have r2 := (hF.2.2.2 v hv).1
      refine nI_ifLt (by omega) (by omega) (fun d => ?_) (fun d => ?_)
      · refine e_put (by show c < 12; omega) (by decide) ?_
        intro x hx y hy
        have hx2 : x = nI (c - 1) := by
          rw [hx, show c = (c - 1) + 1 by omega]
          exact pk_m1 _
        have hy2 : y = nI (v - (c - 1)) := by rw [hy, nI_1]; congr 1; omega
        subst hx2; subst hy2
        refine hk2 (c - 1) _ _ _ ⟨frX_sI hf2 (by decide), c - 1, by omega, rfl, rfl, rfl, fun i hi => ?_, fun i a b => ?_, fun i a b => ?_⟩ (by omega)
        · rw [gI_sI, if_neg (by omega)]; exact j1 i (by omega)
        · rw [gI_sI]
          by_cases q : i = c
          · subst q; rw [if_pos ⟨rfl, rfl⟩]
          · rw [if_neg (fun z => q z.2)]; exact j2 i (by omega) b
        · by_cases q : i = c - 1
          · subst q; exact d
          · exact j3 i (by omega) b
      · exact fin (fun i hi => Nat.le_trans (hs i (c - 1) (by omega) (by omega)) d)
  · rintro kk S' ⟨hf, π, hs, i1⟩
    unfold b_X6_sortWords_2
    have hE' := FE21_fr hf (by simp) hE
    rw [hE'.1 5 (by omega), if_pos (nI_le (Nat.le_refl _) (by omega))]
    exact hQ S' π hf hs i1
theorem e_findUnbroken {F : Fm} {L : Nat → Nat} {S : St} {Q : St → Prop} (hn7 : F 0 0 ≤ 7) (hF : FW F) (hE : FE 21 F S) (hZ : EZ F L S)
    (hQ : ∀ S', frX [54] S S' → (∀ x, x < 2 ^ F 0 0 → gI S' 54 x = nI (if unb (F 0 0) L x then 1 else 0)) → Q S') : w_X6_findUnbroken S Q := by
  have hp : 2 ^ F 0 0 ≤ 2 ^ 7 := Nat.pow_le_pow_right (by omega) hn7
  refine up1 (B := b_X6_findUnbroken_2 Q) (2 ^ F 0 0) (by omega) (fun x S' => frX [54] S S' ∧ ∀ y, y < x → gI S' 54 y = nI (if unb (F 0 0) L y then 1 else 0)) ?_ ?_ 0 (Nat.zero_le _) ⟨frX_refl _ _, fun y hy => absurd hy (Nat.not_lt_zero _)⟩
  · rintro kk x S' hx ⟨hf, i1⟩ hkk
    unfold b_X6_findUnbroken_2
    have hE' := FE21_fr hf (by simp) hE
    have hZ' := EZ_fr hf (by simp) hZ
    rw [hE'.1 0 (by omega), bN_one (by omega), if_neg (nI_ge hx (by omega))]
    refine up2 (B := b_X6_findUnbroken_19 kk (nI x)) (F 0 0) (by omega) (fun e v S2 => S2 = S' ∧ v = nI (if ∀ k, k < e → x.testBit k = x.testBit (L k) then 1 else 0)) ?_ ?_ 0 _ (by omega) ⟨rfl, by rw [if_pos (fun k hk => absurd hk (Nat.not_lt_zero _))]; rfl⟩
    · rintro k2 e v S2 he ⟨rfl, rfl⟩ hk2
      unfold b_X6_findUnbroken_19
      have hl := Lab_lt hZ'.2.1 he
      rw [hE'.1 0 (by omega), if_neg (nI_ge he (by omega))]
      refine e_cell (by show e < 12; omega) (by decide) ?_
      rw [hZ'.2.2.1 e he, bN_shr (by omega) (by omega), bN_shr (by omega) (by omega)]
      have fin : ∀ z : Nat, z = (if x.testBit e = x.testBit (L e) then 1 else 0) → w_X6_findUnbroken_63 k2 (nI x) (nI e) (nI z) (nI (if ∀ k, k < e → x.testBit k = x.testBit (L k) then 1 else 0)) S2 := by
        intro z hz y hy t ht
        rw [bN_and] at hy
        refine hk2 _ _ _ ht ⟨rfl, ?_⟩
        rw [hy, hz]
        congr 1
        by_cases c1 : x.testBit e = x.testBit (L e)
        · rw [if_pos c1]
          by_cases c2 : ∀ k, k < e → x.testBit k = x.testBit (L k)
          · rw [if_pos c2, if_pos (fun k hk => by
              by_cases q : k = e
              · subst q; exact c1
              · exact c2 k (by omega))]
            rfl
          · rw [if_neg c2, if_neg (fun q => c2 (fun k hk => q k (by omega)))]
            rfl
        · rw [if_neg c1, if_neg (c := ∀ k, k < e + 1 → x.testBit k = x.testBit (L k)) (fun q => c1 (q e (by omega)))]
          split <;> rfl
      by_cases c : x.testBit e = x.testBit (L e)
      · rw [c, if_pos rfl]; exact fin 1 (by rw [if_pos c])
      · rw [if_neg (by
          cases h1 : x.testBit e <;> cases h2 : x.testBit (L e)
          · rw [h1, h2] at c; exact absurd rfl c
          · decide
          · decide
          · rw [h1, h2] at c; exact absurd rfl c)]
        exact fin 0 (by rw [if_neg c])
    · rintro k2 v S2 ⟨rfl, rfl⟩
      unfold b_X6_findUnbroken_19
      rw [hE'.1 0 (by omega), if_pos (nI_le (Nat.le_refl _) (by omega))]
      refine e_put (by show x < 128; omega) (by decide) ?_
      intro y hy
      refine hkk _ _ hy ⟨frX_sI hf (by decide), fun z hz => ?_⟩
      rw [gI_sI]
      by_cases c : z = x
      · subst c
        rw [if_pos ⟨rfl, rfl⟩]
        congr 1
        by_cases c2 : ∀ k, k < F 0 0 → z.testBit k = z.testBit (L k)
        · rw [if_pos c2, if_pos (unb_iff.mpr c2)]
        · rw [if_neg c2, if_neg (fun q => c2 (unb_iff.mp q))]
      · rw [if_neg (fun q => c q.2)]; exact i1 z (by omega)
  · rintro kk S' ⟨hf, i1⟩
    unfold b_X6_findUnbroken_2
    have hE' := FE21_fr hf (by simp) hE
    rw [hE'.1 0 (by omega), bN_one (by omega), if_pos (nI_le (Nat.le_refl _) (by omega))]
    exact hQ S' hf i1
