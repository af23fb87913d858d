/-! ===== pure: why a line is wrong: both find the same ===== -/
def rep0 (D : Dr) (p w : Nat) : Bool := (List.range p).any (fun b => D 1 b == w)
def jar0 (F : Fm) (L : Nat → Nat) (D : Dr) (p w : Nat) : Bool := (List.range p).any (fun b => L b == L p && !(F 4 (D 1 b) == F 4 w))
theorem any_iff {P : Nat → Bool} {p : Nat} : (List.range p).any P = true ↔ ∃ b, b < p ∧ P b = true := by
  rw [List.any_eq_true]
  exact ⟨fun ⟨b, h1, h2⟩ => ⟨b, List.mem_range.mp h1, h2⟩, fun ⟨b, h1, h2⟩ => ⟨b, List.mem_range.mpr h1, h2⟩⟩
theorem any_no {P : Nat → Bool} {p : Nat} (h : ∀ b, b < p → P b = false) : (List.range p).any P = false := by
  refine Bool.eq_false_iff.mpr (fun q => ?_)
  obtain ⟨b, h1, h2⟩ := any_iff.mp q
  rw [h b h1] at h2; cases h2
def why5 (F : Fm) (D : Dr) (l : Nat) : Nat := if 0 < l % F 0 0 ∧ (F 7 (D 1 (l - 1))).testBit (D 1 l) = true then 5 else 0
def why4 (F : Fm) (D : Dr) (l : Nat) : Nat := if 0 < F 0 4 ∧ D 3 l ≠ F 0 4 then 4 else why5 F D l
def why3 (F : Fm) (D : Dr) (l : Nat) : Nat := if 0 < F 3 (l % F 0 0) ∧ (l / F 0 0) % F 3 (l % F 0 0) = 0 ∧ D 2 l ≠ D 2 (l % F 0 0) then 3 else why4 F D l
def why2 (F : Fm) (L : Nat → Nat) (D : Dr) (l : Nat) : Nat := if l / F 0 0 = 0 ∧ jar0 F L D (l % F 0 0) (D 1 l) = true then 2 else why3 F D l
def w1 (F : Fm) (D : Dr) (l : Nat) : Bool := if l / F 0 0 = 0 then rep0 D (l % F 0 0) (D 1 l) else !(D 1 l == D 1 (endL F l))
def why (F : Fm) (L : Nat → Nat) (D : Dr) (l : Nat) : Nat := if w1 F D l = true then 1 else why2 F L D l
theorem e_whyWrong {F : Fm} {L : Nat → Nat} {D : Dr} {l : Nat} {S : St} {Q : Int32 → St → Prop} (hF : FW F) (hD : DW F D) (hE : FE 21 F S) (hZ : EZ F L S) (hDE : DE 30 D S) (hl : l < D 0 0) (hQ : Q (nI (why F L D l)) S) : w_X11_whyWrong (nI l) S Q := by
  have hn := hF.1.2.1
  have hn0 := hF.1.1
  have hww := hF.1.2.2.2.2.2.2.1
  have hd60 := hD.1
  have hft := hF.1.2.2.2.2.2.1
  have d1 : ∀ j, j < D 0 0 → gI S 31 j = nI (D 1 j) := fun j hj => hDE.2 1 j (by omega) (by omega) hj
  have d2 : ∀ j, j < D 0 0 → gI S 32 j = nI (D 2 j) := fun j hj => hDE.2 2 j (by omega) (by omega) hj
  have d3 : ∀ j, j < D 0 0 → gI S 33 j = nI (D 3 j) := fun j hj => hDE.2 3 j (by omega) (by omega) hj
  have r4 : ∀ w, w < F 0 5 → gI S 25 w = nI (F 4 w) := fun w hw => hE.2.2 4 w (by omega) (by omega) hw
  have hw : D 1 l < F 0 5 := (hD.2 l hl).1
  have hm : l % F 0 0 < F 0 0 := Nat.mod_lt _ (by omega)
  have hml : l % F 0 0 ≤ l := Nat.mod_le _ _
  have hdl : l / F 0 0 ≤ l := Nat.div_le_self _ _
  have hne : ¬ nI (F 0 0) = 0 := nI_ne0 (by omega) (by omega)
  have hF4 : ∀ w, w < F 0 5 → F 4 w ≤ 99 := fun w hw => (hF.2.2.2 w hw).1
  have hev : F 3 (l % F 0 0) ≤ 99 := (hF.2.2.1 _ hm).2.1
  -- 5
  have s5 : Q (nI (why5 F D l)) S → w_X11_whyWrong_187 (nI l) Q (nI (l % F 0 0)) (nI (D 1 l)) S := by
    intro h
    unfold w_X11_whyWrong_187
    by_cases c : l % F 0 0 = 0
    · rw [c, if_pos (by decide)]
      unfold why5 at h
      rw [if_neg (by omega)] at h
      exact h
    · have hl1 : 1 ≤ l := by omega
      rw [if_neg (nI_nle (by omega) (by omega)), show nI l - (1 : Int32) = nI (l - 1) from pk_sub (b := 1) hl1]
      refine e_cell (by show l - 1 < 60; omega) (by decide) ?_
      rw [d1 _ (by omega)]
      refine e_forbids rfl hF hE (hD.2 (l - 1) (by omega)).1 hw ?_
      unfold why5 at h
      by_cases q : (F 7 (D 1 (l - 1))).testBit (D 1 l) = true
      · rw [if_pos ⟨by omega, q⟩] at h
        rw [if_pos q, if_neg (by decide)]; exact h
      · rw [if_neg (fun z => q z.2)] at h
        rw [if_neg q, if_pos rfl]; exact h
  have s4 : Q (nI (why4 F D l)) S → w_X11_whyWrong_154 (nI l) Q (nI (l % F 0 0)) (nI (D 1 l)) S := by
    intro h
    unfold w_X11_whyWrong_154
    rw [hE.1 4 (by omega)]
    by_cases c : F 0 4 = 0
    · rw [c, if_pos (by decide)]
      unfold why4 at h
      rw [if_neg (by omega)] at h
      exact s5 h
    · rw [if_neg (nI_nle (by omega) (by omega))]
      refine e_cell (by show l < 60; omega) (by decide) ?_
      rw [d3 l hl, hE.1 4 (by omega)]
      have := (hD.2 l hl).2.2
      refine nI_ifEq (by omega) (by omega) (fun q => ?_) (fun q => ?_)
      · unfold why4 at h
        rw [if_neg (fun z => z.2 q)] at h
        exact s5 h
      · unfold why4 at h
        rw [if_pos ⟨by omega, q⟩] at h
        exact h
  have s3 : Q (nI (why3 F D l)) S → w_X11_whyWrong_100 (nI l) Q (nI (l / F 0 0)) (nI (l % F 0 0)) (nI (D 1 l)) S := by
    intro h
    unfold w_X11_whyWrong_100
    refine e_cell (by show _ < 12; omega) (by decide) ?_
    rw [show gI S 24 (l % F 0 0) = nI (F 3 (l % F 0 0)) from hE.2.1 3 _ (by omega) (by omega) hm]
    unfold why3 at h
    by_cases c : F 3 (l % F 0 0) = 0
    · rw [if_neg (by omega)] at h
      rw [c, if_pos (by decide)]
      exact s4 h
    · rw [if_neg (nI_nle (by omega) (by omega))]
      refine ⟨nI_ne0 (by omega) (by omega), ?_⟩
      rw [pk_rem (by omega) (by omega) (by omega)]
      have hmm : l / F 0 0 % F 3 (l % F 0 0) < F 3 (l % F 0 0) := Nat.mod_lt _ (by omega)
      refine nI_ifEq (y := 0) (by omega) (by omega) (fun q => ?_) (fun q => ?_)
      · refine e_cell (by show l < 60; omega) (by decide) (e_cell (by show _ < 60; omega) (by decide) ?_)
        rw [d2 l hl, d2 _ (by omega)]
        have t1 := (hD.2 l hl).2.1
        have t2 := (hD.2 (l % F 0 0) (by omega)).2.1
        refine nI_ifEq (by omega) (by omega) (fun z => ?_) (fun z => ?_)
        · rw [if_neg (fun t => t.2.2 z)] at h; exact s4 h
        · rw [if_pos ⟨by omega, q, z⟩] at h; exact h
      · rw [if_neg (fun t => q t.2.1)] at h; exact s4 h
  have s2 : Q (nI (why2 F L D l)) S → w_X11_whyWrong_83 (nI l) Q (nI (l / F 0 0)) (nI (l % F 0 0)) (nI (D 1 l)) S := by
    intro h
    unfold w_X11_whyWrong_83
    unfold why2 at h
    refine nI_ifEq (y := 0) (by omega) (by omega) (fun c => ?_) (fun c => ?_)
    · have res : ∀ b : Bool, b = jar0 F L D (l % F 0 0) (D 1 l) → if (if b then (1 : Int32) else 0) = 0 then w_X11_whyWrong_100 (nI l) Q (nI (l / F 0 0)) (nI (l % F 0 0)) (nI (D 1 l)) S else Q 2 S := by
        intro b hb
        cases b with
        | true => rw [if_pos ⟨c, hb.symm⟩] at h; rw [if_neg (by decide)]; exact h
        | false => rw [if_neg (fun t => by rw [← hb] at t; exact absurd t.2 (by decide))] at h; rw [if_pos (by decide)]; exact s3 h
      unfold w_X11_jars
      refine e_cell (by show _ < 12; omega) (by decide) ?_
      rw [r4 _ hw]
      refine up1 (B := b_X11_jars_15 (nI (l % F 0 0)) _ (nI (F 4 (D 1 l)))) (l % F 0 0) (by omega) (fun b S' => S' = S ∧ ∀ b', b' < b → (L b' == L (l % F 0 0) && !(F 4 (D 1 b') == F 4 (D 1 l))) = false) ?_ ?_ 0 (by omega) ⟨rfl, fun b hb => absurd hb (Nat.not_lt_zero _)⟩
      · rintro kk b S' hb ⟨rfl, hno⟩ hkk
        unfold b_X11_jars_15
        have hb1 := (hD.2 b (by omega)).1
        have l1 := Lab_lt hZ.2.1 (show b < F 0 0 by omega)
        have l2 := Lab_lt hZ.2.1 hm
        rw [if_neg (nI_ge hb (by omega))]
        refine e_cell (by show b < 12; omega) (by decide) (e_cell (by show _ < 12; omega) (by decide) ?_)
        rw [hZ.2.2.1 b (by omega), hZ.2.2.1 _ hm]
        have next : (L b == L (l % F 0 0) && !(F 4 (D 1 b) == F 4 (D 1 l))) = false → ∀ x, x = nI b + 1 → kk x S' := by
          intro hz x hx
          refine hkk _ _ hx ⟨rfl, fun b' hb' => ?_⟩
          by_cases e : b' = b
          · subst e; exact hz
          · exact hno b' (by omega)
        by_cases c2 : L b = L (l % F 0 0)
        · rw [c2, if_pos rfl]
          dsimp only
          rw [if_neg (by decide)]
          refine e_cell (by show b < 60; omega) (by decide) ?_
          rw [d1 b (by omega)]
          refine e_cell (by show _ < 12; omega) (by decide) ?_
          rw [r4 _ hb1]
          have t1 := hF4 _ hb1
          have t2 := hF4 _ hw
          refine nI_ifEq (by omega) (by omega) (fun z => next (by simp [z])) (fun z => ?_)
          have := res true (by
            refine (any_iff.mpr ⟨b, hb, ?_⟩).symm
            simp [c2, z])
          exact this
        · rw [if_neg (fun z => c2 (nI_inj (by omega) (by omega) z))]
          dsimp only
          rw [if_pos rfl]
          exact next (by simp [c2])
      · rintro kk S' ⟨rfl, hno⟩
        unfold b_X11_jars_15
        rw [if_pos (nI_le (Nat.le_refl _) (by omega))]
        have := res false (any_no hno).symm
        exact this
    · rw [if_neg (fun t => c t.1)] at h
      exact s3 h
  intro x hx
  rw [hE.1 0 (by omega)] at hx
  subst hx
  rw [if_pos (show (1 : Int32) ≤ nI (F 0 0) from nI_le (a := 1) hn0 (by omega))]
  refine ⟨hne, fun y hy => ⟨hne, fun z hz => ?_⟩⟩
  rw [pk_div (by omega) (by omega) (by omega)] at hy
  rw [pk_rem (by omega) (by omega) (by omega)] at hz
  subst hy; subst hz
  refine e_cell (by show l < 60; omega) (by decide) ?_
  rw [d1 l hl]
  unfold why at hQ
  refine nI_ifEq (y := 0) (by omega) (by omega) (fun c => ?_) (fun c => ?_)
  · rw [show w1 F D l = rep0 D (l % F 0 0) (D 1 l) from if_pos c] at hQ
    have res : ∀ b : Bool, b = rep0 D (l % F 0 0) (D 1 l) → if (if b then (1 : Int32) else 0) = 0 then w_X11_whyWrong_83 (nI l) Q (nI (l / F 0 0)) (nI (l % F 0 0)) (nI (D 1 l)) S else Q 1 S := by
      intro b hb
      cases b with
      | true => rw [if_pos hb.symm] at hQ; rw [if_neg (by decide)]; exact hQ
      | false => rw [if_neg (fun t => by rw [← hb] at t; exact absurd t (by decide))] at hQ; rw [if_pos (by decide)]; exact s2 hQ
    refine up1 (B := b_X11_isRepeated_2 (nI (l % F 0 0)) (nI (D 1 l)) _) (l % F 0 0) (by omega) (fun b S' => S' = S ∧ ∀ b', b' < b → (D 1 b' == D 1 l) = false) ?_ ?_ 0 (by omega) ⟨rfl, fun b hb => absurd hb (Nat.not_lt_zero _)⟩
    · rintro kk b S' hb ⟨rfl, hno⟩ hkk
      unfold b_X11_isRepeated_2
      have hb1 := (hD.2 b (by omega)).1
      rw [if_neg (nI_ge hb (by omega))]
      refine e_cell (by show b < 60; omega) (by decide) ?_
      rw [d1 b (by omega)]
      refine nI_ifEq (by omega) (by omega) (fun z => ?_) (fun z => ?_)
      · have := res true (any_iff.mpr ⟨b, hb, by simp [z]⟩).symm
        exact this
      · intro x hx
        refine hkk _ _ hx ⟨rfl, fun b' hb' => ?_⟩
        by_cases e : b' = b
        · subst e; exact beq_false_of_ne z
        · exact hno b' (by omega)
    · rintro kk S' ⟨rfl, hno⟩
      unfold b_X11_isRepeated_2
      rw [if_pos (nI_le (Nat.le_refl _) (by omega))]
      have := res false (any_no hno).symm
      exact this
  · rw [show w1 F D l = !(D 1 l == D 1 (endL F l)) from if_neg c] at hQ
    rw [nI_l (by omega)]
    have hel := endL_lt hF l
    have hnl : F 0 0 ≤ l := by
      rcases Nat.lt_or_ge l (F 0 0) with q | q
      · exact absurd (Nat.div_eq_of_lt q) c
      · exact q
    refine e_endAt hZ.1 hm (by omega) ?_
    refine e_cell (by show endL F l < 60; omega) (by decide) ?_
    rw [show gI S 31 (it (F 1) (l / F 0 0) (l % F 0 0)) = nI (D 1 (endL F l)) from d1 (endL F l) (by omega)]
    have t1 := (hD.2 (endL F l) (by omega)).1
    refine nI_ifEq (by omega) (by omega) (fun z => ?_) (fun z => ?_)
    · rw [if_neg (by simp [z])] at hQ; exact s2 hQ
    · rw [if_pos (by simp [z])] at hQ; exact hQ
