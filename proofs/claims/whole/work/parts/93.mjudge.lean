/-! ===== pure: the reference's wrongIn and judged ===== -/
theorem m_wrongIn {F : Fm} {L : Nat → Nat} {D : Dr} {pa pb : Nat → Nat} {l : Nat} {S : St} {Q : Int32 → St → Prop} (hF : FW F) (hD : DW F D) (hM : MF F D pa pb S) (hL : ∀ e, e < F 0 0 → L e < F 0 0) (h37 : ∀ e, e < F 0 0 → gI S 37 e = nI (L e)) (hl : l < D 0 0) (hQ : Q (nI (why F L D l)) S) : w_X12_wrongIn (nI l) S Q := by
  have hn := hF.1.2.1
  have hn0 := hF.1.1
  have hww := hF.1.2.2.2.2.2.2.1
  have hd60 := hD.1
  have hft := hF.1.2.2.2.2.2.1
  obtain ⟨hMP, m5, -, -, m14, m15, -, -, m6, mL, m9⟩ := hM
  have d1 : ∀ j, j < D 0 0 → gI S 41 j = nI (D 1 j) := fun j hj => (mL j hj).1
  have d2 : ∀ j, j < D 0 0 → gI S 42 j = nI (D 2 j) := fun j hj => (mL j hj).2.1
  have d3 : ∀ j, j < D 0 0 → gI S 43 j = nI (D 3 j) := fun j hj => (mL j hj).2.2
  have r4 : ∀ w, w < F 0 5 → gI S 6 w = nI (F 4 w) := fun w hw => (m6 w hw).1
  have hw : D 1 l < F 0 5 := (hD.2 l hl).1
  have hm : l % F 0 0 < F 0 0 := Nat.mod_lt _ (by omega)
  have hml : l % F 0 0 ≤ l := Nat.mod_le _ _
  have hdl : l / F 0 0 ≤ l := Nat.div_le_self _ _
  have hne : ¬ nI (F 0 0) = 0 := nI_ne0 (by omega) (by omega)
  have hF4 : ∀ w, w < F 0 5 → F 4 w ≤ 99 := fun w hw => (hF.2.2.2 w hw).1
  have hev : F 3 (l % F 0 0) ≤ 99 := (hF.2.2.1 _ hm).2.1
  have v60 : ∀ j, j < D 0 0 → vp_in (nI j) 60 := fun j hj => vp_in_nI (by omega) (by omega)
  have v12 : ∀ j, j < 12 → vp_in (nI j) 12 := fun j hj => vp_in_nI hj (by omega)
  have cl : ∀ j, j < 2 ^ 31 → (nI j).toNatClampNeg = j := fun j hj => nI_clamp hj
  have s5 : Q (nI (why5 F D l)) S → w_X12_wrongIn_196 (nI l) Q (nI (l % F 0 0)) (nI (D 1 l)) S := by
    intro h
    unfold w_X12_wrongIn_196
    by_cases c : l % F 0 0 = 0
    · rw [c, if_pos (by decide)]
      unfold why5 at h
      rw [if_neg (by omega)] at h
      exact h
    · have hl1 : 1 ≤ l := by omega
      have hw0 := (hD.2 (l - 1) (by omega)).1
      have j1 : (12 : Int32) * nI (D 1 (l - 1)) + nI (D 1 l) = nI (12 * D 1 (l - 1) + D 1 l) := by rw [← nI_add, ← pk_mul]; rfl
      rw [if_neg (nI_nle (by omega) (by omega)), show nI l - (1 : Int32) = nI (l - 1) from pk_sub (b := 1) hl1, cl _ (by omega), d1 _ (by omega), j1, cl _ (by omega), m9 _ _ hw0 hw]
      refine ⟨v60 _ (by omega), vp_in_nI (by omega) (by omega), ?_⟩
      unfold why5 at h
      by_cases q : (F 7 (D 1 (l - 1))).testBit (D 1 l) = true
      · rw [if_pos ⟨by omega, q⟩] at h
        rw [if_pos q, if_neg (by decide)]; exact h
      · rw [if_neg (fun z => q z.2)] at h
        rw [if_neg q, if_pos rfl]; exact h
  have s4 : Q (nI (why4 F D l)) S → w_X12_wrongIn_174 (nI l) Q (nI (l % F 0 0)) (nI (D 1 l)) S := by
    intro h
    unfold w_X12_wrongIn_174
    rw [m14]
    by_cases c : F 0 4 = 0
    · rw [c, if_pos (by decide)]
      unfold why4 at h
      rw [if_neg (by omega)] at h
      exact s5 h
    · rw [if_neg (nI_nle (by omega) (by omega)), cl _ (by omega), d3 l hl]
      refine ⟨v60 l hl, ?_⟩
      have := (hD.2 l hl).2.2
      refine nI_ifEq (by omega) (by omega) (fun q => ?_) (fun q => ?_)
      · unfold why4 at h
        rw [if_neg (fun z => z.2 q)] at h
        exact s5 h
      · unfold why4 at h
        rw [if_pos ⟨by omega, q⟩] at h
        exact h
  have s3 : Q (nI (why3 F D l)) S → w_X12_wrongIn_137 (nI l) Q (nI (l / F 0 0)) (nI (l % F 0 0)) (nI (D 1 l)) S := by
    intro h
    unfold w_X12_wrongIn_137
    rw [cl _ (by omega), m5 _ hm]
    refine ⟨v12 _ (by omega), ?_⟩
    unfold why3 at h
    by_cases c : F 3 (l % F 0 0) = 0
    · rw [if_neg (by omega)] at h
      rw [c, if_pos (by decide)]
      exact s4 h
    · rw [if_neg (nI_nle (by omega) (by omega))]
      refine ⟨v12 _ (by omega), nI_ne0 (by omega) (by omega), ?_⟩
      rw [pk_rem (by omega) (by omega) (by omega)]
      have hmm : l / F 0 0 % F 3 (l % F 0 0) < F 3 (l % F 0 0) := Nat.mod_lt _ (by omega)
      refine nI_ifEq (y := 0) (by omega) (by omega) (fun q => ?_) (fun q => ?_)
      · refine ⟨v60 l hl, v60 _ (by omega), ?_⟩
        rw [cl _ (by omega), d2 l hl, d2 _ (by omega)]
        have t1 := (hD.2 l hl).2.1
        have t2 := (hD.2 (l % F 0 0) (by omega)).2.1
        refine nI_ifEq (by omega) (by omega) (fun z => ?_) (fun z => ?_)
        · rw [if_neg (fun t => t.2.2 z)] at h; exact s4 h
        · rw [if_pos ⟨by omega, q, z⟩] at h; exact h
      · rw [if_neg (fun t => q t.2.1)] at h; exact s4 h
  have s2 : Q (nI (why2 F L D l)) S → w_X12_wrongIn_81 (nI l) Q (nI (l / F 0 0)) (nI (l % F 0 0)) (nI (D 1 l)) (0 : Int32) S := by
    intro h
    unfold why2 at h
    refine up1 (B := b_X12_wrongIn_81 (nI l) Q (nI (l / F 0 0)) (nI (l % F 0 0)) (nI (D 1 l))) (l % F 0 0) (by omega) (fun b S' => S' = S ∧ ∀ b', b' < b → (L b' == L (l % F 0 0) && !(F 4 (D 1 b') == F 4 (D 1 l))) = false) ?_ ?_ 0 (by omega) ⟨rfl, fun b hb => absurd hb (Nat.not_lt_zero _)⟩
    · rintro kk b S' hb ⟨rfl, hno⟩ hkk
      unfold b_X12_wrongIn_81
      have hb1 := (hD.2 b (by omega)).1
      have l1 := hL b (by omega)
      have l2 := hL _ hm
      rw [if_neg (nI_ge hb (by omega))]
      refine nI_ifEq (y := 0) (by omega) (by omega) (fun c => ?_) (fun c => ?_)
      · rw [cl b (by omega), cl (l % F 0 0) (by omega), h37 b (by omega), h37 _ hm]
        refine ⟨v12 _ (by omega), v12 _ (by omega), ?_⟩
        have next : (L b == L (l % F 0 0) && !(F 4 (D 1 b) == F 4 (D 1 l))) = false → ∀ x, x = nI b + 1 → kk x S' := by
          intro hz x hx
          refine hkk _ _ hx ⟨rfl, fun b' hb' => ?_⟩
          by_cases e : b' = b
          · subst e; exact hz
          · exact hno b' (by omega)
        refine nI_ifEq (by omega) (by omega) (fun c2 => ?_) (fun c2 => next (by simp [c2]))
        rw [d1 b (by omega), cl _ (by omega), cl (D 1 l) (by omega), r4 _ hb1, r4 _ hw]
        refine ⟨v60 _ (by omega), v12 _ (by omega), v12 _ (by omega), ?_⟩
        have t1 := hF4 _ hb1
        have t2 := hF4 _ hw
        refine nI_ifEq (by omega) (by omega) (fun z => next (by simp [z])) (fun z => ?_)
        have hj : jar0 F L D (l % F 0 0) (D 1 l) = true := any_iff.mpr ⟨b, hb, by simp [c2, z]⟩
        rw [if_pos ⟨c, hj⟩] at h
        exact h
      · rw [if_neg (fun t => c t.1)] at h
        exact s3 h
    · rintro kk S' ⟨rfl, hno⟩
      unfold b_X12_wrongIn_81
      rw [if_pos (nI_le (Nat.le_refl _) (by omega))]
      have hj : jar0 F L D (l % F 0 0) (D 1 l) = false := any_no hno
      rw [if_neg (fun t => by rw [hj] at t; exact absurd t.2 (by decide))] at h
      exact s3 h
  have s1 : (l / F 0 0 = 0 → Q (nI (if rep0 D (l % F 0 0) (D 1 l) = true then 1 else why2 F L D l)) S) → (l / F 0 0 ≠ 0 → Q (nI (why2 F L D l)) S) → w_X12_wrongIn_48 (nI l) Q (nI (l / F 0 0)) (nI (l % F 0 0)) (nI (D 1 l)) (0 : Int32) S := by
    intro h0 h1
    refine up1 (B := b_X12_wrongIn_48 (nI l) Q (nI (l / F 0 0)) (nI (l % F 0 0)) (nI (D 1 l))) (l % F 0 0) (by omega) (fun b S' => S' = S ∧ ∀ b', b' < b → (D 1 b' == D 1 l) = false) ?_ ?_ 0 (by omega) ⟨rfl, fun b hb => absurd hb (Nat.not_lt_zero _)⟩
    · rintro kk b S' hb ⟨rfl, hno⟩ hkk
      unfold b_X12_wrongIn_48
      have hb1 := (hD.2 b (by omega)).1
      rw [if_neg (nI_ge hb (by omega))]
      refine nI_ifEq (y := 0) (by omega) (by omega) (fun c => ?_) (fun c => s2 (h1 c))
      rw [cl _ (by omega), d1 b (by omega)]
      refine ⟨v60 _ (by omega), ?_⟩
      refine nI_ifEq (by omega) (by omega) (fun z => ?_) (fun z => ?_)
      · have hr : rep0 D (l % F 0 0) (D 1 l) = true := any_iff.mpr ⟨b, hb, by simp [z]⟩
        have := h0 c
        rw [if_pos hr] at this
        exact this
      · intro x hx
        refine hkk _ _ hx ⟨rfl, fun b' hb' => ?_⟩
        by_cases e : b' = b
        · subst e; exact beq_false_of_ne z
        · exact hno b' (by omega)
    · rintro kk S' ⟨rfl, hno⟩
      unfold b_X12_wrongIn_48
      rw [if_pos (nI_le (Nat.le_refl _) (by omega))]
      refine s2 ?_
      by_cases c : l / F 0 0 = 0
      · have hr : rep0 D (l % F 0 0) (D 1 l) = false := any_no hno
        have := h0 c
        rw [if_neg (by rw [hr]; decide)] at this
        exact this
      · exact h1 c
  unfold w_X12_wrongIn
  rw [hMP.1.1]
  refine ⟨hne, fun y hy => ⟨hne, fun z hz => ⟨v60 l hl, fun t ht => ?_⟩⟩⟩
  rw [pk_div (by omega) (by omega) (by omega)] at hy
  rw [pk_rem (by omega) (by omega) (by omega)] at hz
  rw [cl _ (by omega), d1 l hl] at ht
  subst hy; subst hz; subst ht
  unfold why at hQ
  by_cases c : l / F 0 0 = 0
  · rw [if_pos (show nI (l / F 0 0) ≤ 0 by rw [c]; decide)]
    rw [show w1 F D l = rep0 D (l % F 0 0) (D 1 l) from if_pos c] at hQ
    exact s1 (fun _ => hQ) (fun q => absurd c q)
  · rw [if_neg (nI_nle (Nat.pos_of_ne_zero c) (by omega)), nI_l (by omega)]
    rw [show w1 F D l = !(D 1 l == D 1 (endL F l)) from if_neg c] at hQ
    have hel := endL_lt hF l
    have hnl : F 0 0 ≤ l := by
      rcases Nat.lt_or_ge l (F 0 0) with q | q
      · exact absurd (Nat.div_eq_of_lt q) c
      · exact q
    refine m_endAt hn hF.2.1 hMP.1.2 hm (by omega) ?_
    have t1 := (hD.2 (endL F l) (by omega)).1
    refine ⟨v60 (endL F l) (by omega), ?_⟩
    rw [show (nI (it (F 1) (l / F 0 0) (l % F 0 0))).toNatClampNeg = endL F l from cl _ (by show endL F l < _; omega), d1 (endL F l) (by omega)]
    refine nI_ifEq (by omega) (by omega) (fun z => ?_) (fun z => ?_)
    · rw [if_neg (by simp [z])] at hQ
      exact s1 (fun q => absurd q c) (fun _ => hQ)
    · rw [if_pos (by simpa using fun q => z (Eq.symm q))] at hQ
      exact hQ
/-- the first line that is wrong -/
def fwr (F : Fm) (L : Nat → Nat) (D : Dr) : Nat := fnd (fun l => decide (0 < why F L D l)) (D 0 0) 0
def judR (F : Fm) (L : Nat → Nat) (D : Dr) (w : Int32) : Int32 :=
  if fwr F L D < D 0 0 then (if w = 0 then nI (fwr F L D) else nI (why F L D (fwr F L D))) else (if w = 0 then -1 else 0)
theorem why_le (F : Fm) (L : Nat → Nat) (D : Dr) (l : Nat) : why F L D l ≤ 5 := by
  unfold why why2 why3 why4 why5
  repeat' split
  all_goals omega
theorem fnd_none (P : Nat → Bool) : ∀ (m k : Nat), (∀ j, k ≤ j → j < k + m → P j = false) → fnd P m k = k + m
  | 0, _, _ => rfl
  | m + 1, k, h => by
    unfold fnd
    rw [if_neg (by rw [h k (Nat.le_refl _) (by omega)]; decide), fnd_none P m (k + 1) (fun j a b => h j (by omega) (by omega))]
    omega
theorem fwr_at {F : Fm} {L : Nat → Nat} {D : Dr} {l : Nat} (hl : l < D 0 0) (h : 0 < why F L D l) (hb : ∀ j, j < l → why F L D j = 0) : fwr F L D = l := by
  obtain ⟨g1, g2, g3, g4⟩ := fnd_spec (fun l => decide (0 < why F L D l)) (D 0 0) 0 ⟨l, by omega, by omega, by simpa using h⟩
  have g1' := of_decide_eq_true g1
  have g4' : ∀ j, j < fwr F L D → why F L D j = 0 := fun j hj => by have := of_decide_eq_false (g4 j (by omega) hj); omega
  have g1'' : 0 < why F L D (fwr F L D) := g1'
  rcases Nat.lt_trichotomy (fwr F L D) l with q | q | q
  · have := hb _ q; omega
  · exact q
  · have := g4' l q; omega
theorem fwr_no {F : Fm} {L : Nat → Nat} {D : Dr} (hb : ∀ j, j < D 0 0 → why F L D j = 0) : fwr F L D = D 0 0 := by
  unfold fwr
  rw [fnd_none _ _ _ (fun j _ hj => by rw [hb j (by omega)]; rfl), Nat.zero_add]
theorem m_judged {F : Fm} {L : Nat → Nat} {D : Dr} {pa pb : Nat → Nat} {w : Int32} {S : St} {Q : Int32 → St → Prop} (hF : FW F) (hD : DW F D) (hP : PW F pa pb) (hM : MF F D pa pb S) (hL : Lab (clR F) (F 0 0) L)
    (h0 : (w < 0 ∨ 1 < w) → ∀ S', frM S S' → gI S' 0 0 = 1 → Q 0 S') (h1 : ¬ (w < 0 ∨ 1 < w) → ∀ S', frM S S' → gI S' 0 0 = 0 → Q (judR F L D w) S') : w_X12_judged w S Q := by
  have hd60 := hD.1
  refine m_within (fun h => ?_) (fun a b => ?_)
  · rw [if_pos rfl]
    intro S1 hS1
    have g0 : gI S1 0 0 = 1 := by rw [hS1, gI_sI, if_pos ⟨rfl, rfl⟩]
    rw [g0, if_pos rfl]
    exact h0 h S1 (by rw [hS1]; exact frM_sI (frM_refl _) rfl) g0
  · rw [if_neg (by decide)]
    intro S1 hS1
    have g0 : gI S1 0 0 = 0 := by rw [hS1, gI_sI, if_pos ⟨rfl, rfl⟩]
    have hf1 : frM S S1 := by rw [hS1]; exact frM_sI (frM_refl _) rfl
    rw [g0, if_neg (by decide)]
    refine m_classes hF hP (MF_fr hF hf1 hM).1 hL ?_
    intro S2 hf2 ho h37
    have g2 : gI S2 0 0 = 0 := by rw [ho 0 0 (by decide)]; exact g0
    have hM2 := MF_fr hF (frM_trans hf1 hf2) hM
    have h1' := h1 (fun q => q.elim a b) S2 (frM_trans hf1 hf2) g2
    refine up1 (B := b_X12_judged_34 w Q) (D 0 0) (by omega) (fun l S' => S' = S2 ∧ ∀ j, j < l → why F L D j = 0) ?_ ?_ 0 (by omega) ⟨rfl, fun j hj => absurd hj (Nat.not_lt_zero _)⟩
    · rintro kk l S' hl ⟨rfl, hno⟩ hkk
      unfold b_X12_judged_34
      rw [hM2.2.2.2.2.2.2.2.1, if_neg (nI_ge hl (by omega))]
      refine m_wrongIn hF hD hM2 (Lab_cl hL) h37 hl ?_
      have h5 := why_le F L D l
      by_cases c : why F L D l = 0
      · rw [c, if_pos (by decide)]
        intro x hx
        refine hkk _ _ hx ⟨rfl, fun j hj => ?_⟩
        by_cases e : j = l
        · subst e; exact c
        · exact hno j (by omega)
      · rw [if_neg (nI_nle (by omega) (by omega))]
        unfold judR at h1'
        rw [fwr_at hl (by omega) hno, if_pos hl] at h1'
        by_cases e : w = 0
        · rw [if_pos e] at h1' ⊢; exact h1'
        · rw [if_neg e] at h1' ⊢; exact h1'
    · rintro kk S' ⟨rfl, hno⟩
      unfold b_X12_judged_34
      rw [hM2.2.2.2.2.2.2.2.1, if_pos (nI_le (Nat.le_refl _) (by omega))]
      unfold judR at h1'
      rw [fwr_no hno, if_neg (by omega)] at h1'
      by_cases e : w = 0
      · rw [if_pos e] at h1' ⊢; exact h1'
      · rw [if_neg e] at h1' ⊢; exact h1'
