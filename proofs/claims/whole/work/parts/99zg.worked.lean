/-! ===== pure: the reference works a bar ===== -/
abbrev wkl : List Nat := [23, 24, 25, 26, 27, 28, 29, 30, 31]
def FrO (S : St) (j : Nat) (f : Fr) : Prop :=
  (∀ c, f.2.1 = some c → gI S 29 j = c) ∧ ((f.1 = true → gI S 30 j = 22) ∧ (f.1 = false → gI S 30 j = 0)) ∧ (∀ x, f.2.2.1 x = if gI S 28 j = 21 then gI S 27 j - x else gI S 27 j + x) ∧
  (∀ x, f.2.2.2.1 x = if gI S 26 j = 24 then (if x ≤ gI S 25 j then 0 else 1) else if gI S 26 j = 25 then (if gI S 25 j = x then 1 else 0) else x) ∧
  (∀ x, f.2.2.2.2.1 x = if gI S 24 j = 26 then jnV 145 (gI S 23 j) x else if gI S 24 j = 27 then jnV 146 (gI S 23 j) x else x) ∧ (0 < j → (f.2.2.2.2.2 = true ↔ gI S 31 j = 1))
def FrL : List Fr → St → Prop
  | [], _ => True
  | f :: q, S => FrO S q.length f ∧ FrL q S
theorem FrO_eq {S S' : St} {j : Nat} {f : Fr} (e : ∀ b, gI S' b j = gI S b j) (h : FrO S j f) : FrO S' j f := by
  unfold FrO
  rw [e 29, e 30, e 28, e 27, e 26, e 25, e 24, e 23, e 31]; exact h
theorem FrL_eq : ∀ (q : List Fr) (S S' : St), (∀ b i, i < q.length → gI S' b i = gI S b i) → FrL q S → FrL q S' := by
  intro q
  induction q with
  | nil => intro _ _ _ _; trivial
  | cons f q ih =>
    rintro S S' e ⟨h1, h2⟩
    exact ⟨FrO_eq (fun b => e b _ (by simp only [List.length_cons]; omega)) h1, ih S S' (fun b i hi => e b i (by simp only [List.length_cons]; omega)) h2⟩
/-- but for the row of depth d nothing is changed -/
def AtD (d : Nat) (S S' : St) : Prop := frX wkl S S' ∧ ∀ b i, i ≠ d → gI S' b i = gI S b i
theorem AtD_refl (d : Nat) (S : St) : AtD d S S := ⟨frX_refl _ _, fun _ _ _ => rfl⟩
theorem AtD_sI {d a : Nat} {v : Int32} {S T : St} (h : AtD d S T) (ha : a ∈ wkl) : AtD d S (sI T a d v) := ⟨frX_sI h.1 ha, fun b i hi => by rw [gI_sI, if_neg (fun q => hi q.2)]; exact h.2 b i hi⟩
theorem AtD_trans {d : Nat} {S T U : St} (h : AtD d S T) (k : AtD d T U) : AtD d S U := ⟨frX_trans h.1 k.1, fun b i hi => (k.2 b i hi).trans (h.2 b i hi)⟩
theorem m_opens {d : Nat} {S : St} {Q : St → Prop} (hd : d < 7) (hQ : ∀ S', AtD d S S' → gI S' 24 d = 0 → gI S' 26 d = 0 → gI S' 27 d = 0 → gI S' 28 d = 20 → gI S' 30 d = 0 → gI S' 31 d = gI S 31 d → Q S') : w_X12_opens (nI d) S Q := by
  unfold w_X12_opens
  rw [nI_clamp (by omega)]
  refine ⟨vp_in_nI hd (by omega), fun S1 e1 => ⟨vp_in_nI hd (by omega), fun S2 e2 => ⟨vp_in_nI hd (by omega), fun S3 e3 => ⟨vp_in_nI hd (by omega), fun S4 e4 => ⟨vp_in_nI hd (by omega), fun S5 e5 => ?_⟩⟩⟩⟩⟩
  subst e1; subst e2; subst e3; subst e4; subst e5
  refine hQ _ (AtD_sI (AtD_sI (AtD_sI (AtD_sI (AtD_sI (AtD_refl _ _) (by simp)) (by simp)) (by simp)) (by simp)) (by simp)) ?_ ?_ ?_ ?_ ?_ ?_
  all_goals simp only [gI_sI]
  all_goals simp
theorem m_sums {d : Nat} {c : Int32} {f : Fr} {S : St} {Q : St → Prop} (hd : d < 7) (h : FrO S d f) (hc : f.2.1 = some c) (hQ : ∀ S', S' = sI (sI S 27 d (f.2.2.1 c)) 30 d 0 → Q S') : w_X12_sums (nI d) S Q := by
  obtain ⟨h1, _, h3, _⟩ := h
  have v := vp_in_nI hd (by omega)
  have e3 := h3 c
  rw [← h1 c hc] at e3
  rw [h1 c hc] at e3
  unfold w_X12_sums w_X12_sums_45
  rw [nI_clamp (by omega), h1 c hc]
  refine ⟨v, ?_⟩
  by_cases q : gI S 28 d = 21
  · rw [if_pos q] at e3 ⊢
    refine ⟨v, v, v, fun S1 e1 => ⟨v, fun S2 e2 => hQ S2 (by rw [e2, e1, e3])⟩⟩
  · rw [if_neg q] at e3 ⊢
    refine ⟨v, v, v, fun S1 e1 => ⟨v, fun S2 e2 => hQ S2 (by rw [e2, e1, e3])⟩⟩
theorem m_tests136 {d : Nat} {v2 : Int32} {S : St} {Q : St → Prop} (hd : d < 7) (hQ : ∀ S', S' = sI (sI (sI (sI S 23 d v2) 26 d 0) 27 d 0) 28 d 20 → Q S') : w_X12_tests_136 (nI d) Q v2 S := by
  have v := vp_in_nI hd (by omega)
  unfold w_X12_tests_136
  rw [nI_clamp (by omega)]
  exact ⟨v, fun S1 e1 => ⟨v, fun S2 e2 => ⟨v, fun S3 e3 => ⟨v, fun S4 e4 => hQ S4 (by rw [e4, e3, e2, e1])⟩⟩⟩⟩
theorem m_tests106 {d : Nat} {v2 : Int32} {S : St} {Q : St → Prop} (hd : d < 7) (hQ : ∀ S', S' = sI (sI (sI (sI S 23 d (if gI S 24 d = 27 then jnV 146 (gI S 23 d) v2 else v2)) 26 d 0) 27 d 0) 28 d 20 → Q S') : w_X12_tests_106 (nI d) Q v2 S := by
  have v := vp_in_nI hd (by omega)
  unfold w_X12_tests_106
  rw [nI_clamp (by omega)]
  refine ⟨v, ?_⟩
  by_cases q : gI S 24 d = 27
  · rw [if_pos q] at hQ ⊢
    refine ⟨v, ?_⟩
    unfold w_X12_tests_130 w_X12_tests_135
    have e : jnV 146 (gI S 23 d) v2 = if gI S 23 d = 0 then (if v2 = 0 then 0 else 1) else 1 := rfl
    rw [e] at hQ
    by_cases z : gI S 23 d = 0
    · rw [if_pos z] at hQ ⊢
      by_cases y : v2 = 0
      · rw [if_pos y] at hQ ⊢; exact m_tests136 hd hQ
      · rw [if_neg y] at hQ ⊢; exact m_tests136 hd hQ
    · rw [if_neg z] at hQ ⊢; exact m_tests136 hd hQ
  · rw [if_neg q] at hQ ⊢
    exact m_tests136 hd hQ
theorem m_tests76 {d : Nat} {v2 : Int32} {S : St} {Q : St → Prop} (hd : d < 7) (hQ : ∀ S', S' = sI (sI (sI (sI S 23 d (if gI S 24 d = 26 then jnV 145 (gI S 23 d) v2 else if gI S 24 d = 27 then jnV 146 (gI S 23 d) v2 else v2)) 26 d 0) 27 d 0) 28 d 20 → Q S') : w_X12_tests_76 (nI d) Q v2 S := by
  have v := vp_in_nI hd (by omega)
  unfold w_X12_tests_76
  rw [nI_clamp (by omega)]
  refine ⟨v, ?_⟩
  by_cases q : gI S 24 d = 26
  · rw [if_pos q] at hQ ⊢
    refine ⟨v, ?_⟩
    unfold w_X12_tests_104 w_X12_tests_105
    have q27 : ¬ gI S 24 d = 27 := by rw [q]; decide
    have e : jnV 145 (gI S 23 d) v2 = if gI S 23 d = 0 then 0 else if v2 = 0 then 0 else 1 := rfl
    rw [e] at hQ
    have go : ∀ x : Int32, (∀ S', S' = sI (sI (sI (sI S 23 d x) 26 d 0) 27 d 0) 28 d 20 → Q S') → w_X12_tests_106 (nI d) Q x S := fun x hx => m_tests106 hd (by rw [if_neg q27]; exact hx)
    by_cases z : gI S 23 d = 0
    · rw [if_pos z] at hQ ⊢; exact go _ hQ
    · rw [if_neg z] at hQ ⊢
      by_cases y : v2 = 0
      · rw [if_pos y] at hQ ⊢; exact go _ hQ
      · rw [if_neg y] at hQ ⊢; exact go _ hQ
  · rw [if_neg q] at hQ ⊢
    exact m_tests106 hd hQ
theorem m_tests {d : Nat} {c : Int32} {f : Fr} {S : St} {Q : St → Prop} (hd : d < 7) (h : FrO S d f) (hc : f.2.1 = some c) (hQ : ∀ S', AtD d S S' → gI S' 23 d = finF f c → gI S' 24 d = gI S 24 d → gI S' 26 d = 0 → gI S' 27 d = 0 → gI S' 28 d = 20 → gI S' 29 d = gI S 29 d → gI S' 30 d = 0 → gI S' 31 d = gI S 31 d → Q S') : w_X12_tests (nI d) S Q := by
  have v := vp_in_nI hd (by omega)
  have h0 := h
  obtain ⟨h1, h2, h3, h4, h5, h6⟩ := h
  unfold w_X12_tests
  refine m_sums hd h0 hc (fun S1 e1 => ?_)
  rw [nI_clamp (by omega)]
  have g : ∀ b, b ≠ 27 → b ≠ 30 → gI S1 b d = gI S b d := fun b a1 a2 => by rw [e1, gI_sI, if_neg (fun q => a2 q.1), gI_sI, if_neg (fun q => a1 q.1)]
  have g27 : gI S1 27 d = f.2.2.1 c := by rw [e1, gI_sI, if_neg (by omega), gI_sI, if_pos ⟨rfl, rfl⟩]
  have g30 : gI S1 30 d = 0 := by rw [e1, gI_sI, if_pos ⟨rfl, rfl⟩]
  have a1 : AtD d S S1 := by rw [e1]; exact AtD_sI (AtD_sI (AtD_refl _ _) (by simp)) (by simp)
  have go : ∀ x : Int32, f.2.2.2.1 (f.2.2.1 c) = x → w_X12_tests_76 (nI d) Q x S1 := by
    intro x hx
    have e5 : finF f c = if gI S 24 d = 26 then jnV 145 (gI S 23 d) x else if gI S 24 d = 27 then jnV 146 (gI S 23 d) x else x := by
      show f.2.2.2.2.1 (f.2.2.2.1 (f.2.2.1 c)) = _
      rw [hx]; exact h5 x
    refine m_tests76 hd (fun S2 e2 => ?_)
    rw [g 24 (by omega) (by omega), g 23 (by omega) (by omega), ← e5] at e2
    have a2 : AtD d S1 S2 := by rw [e2]; exact AtD_sI (AtD_sI (AtD_sI (AtD_sI (AtD_refl _ _) (by simp)) (by simp)) (by simp)) (by simp)
    refine hQ S2 (AtD_trans a1 a2) ?_ ?_ ?_ ?_ ?_ ?_ ?_ ?_
    · rw [e2]; simp [gI_sI]
    · rw [← g 24 (by omega) (by omega), e2]; simp [gI_sI]
    · rw [e2]; simp [gI_sI]
    · rw [e2]; simp [gI_sI]
    · rw [e2]; simp [gI_sI]
    · rw [← g 29 (by omega) (by omega), e2]; simp [gI_sI]
    · rw [← g30, e2]; simp [gI_sI]
    · rw [← g 31 (by omega) (by omega), e2]; simp [gI_sI]
  refine ⟨v, ?_⟩
  rintro x11 rfl
  refine ⟨v, ?_⟩
  rw [g 26 (by omega) (by omega), g 25 (by omega) (by omega), g27]
  have e4 := h4 (f.2.2.1 c)
  unfold w_X12_tests_43 w_X12_tests_44 w_X12_tests_75
  rw [nI_clamp (by omega), g 26 (by omega) (by omega), g 25 (by omega) (by omega), g27]
  by_cases q : gI S 26 d = 24
  · rw [if_pos q] at e4 ⊢
    have q25 : ¬ gI S 26 d = 25 := by rw [q]; decide
    refine ⟨v, v, ?_⟩
    by_cases z : f.2.2.1 c ≤ gI S 25 d
    · rw [if_pos z] at e4 ⊢
      exact ⟨v, by rw [if_neg q25]; exact go _ e4⟩
    · rw [if_neg z] at e4 ⊢
      exact ⟨v, by rw [if_neg q25]; exact go _ e4⟩
  · rw [if_neg q] at e4 ⊢
    refine ⟨v, ?_⟩
    by_cases y : gI S 26 d = 25
    · rw [if_pos y] at e4 ⊢
      refine ⟨v, v, ?_⟩
      by_cases z : gI S 25 d = f.2.2.1 c
      · rw [if_pos z] at e4 ⊢; exact go _ e4
      · rw [if_neg z] at e4 ⊢; exact go _ e4
    · rw [if_neg y] at e4 ⊢
      exact go _ e4
theorem m_put300 {p0 v3 v : Int32} {f g : Fr} {q : List Fr} {S : St} {k : Int32 → Int32 → St → Prop} (hl : q.length < 7) (h : FrL (f :: q) S) (hm : mulF f v = some g) (hk : ∀ S', frX wkl S S' → FrL (g :: q) S' → k (nI q.length) (v3 + 1) S') : w_X12_worked_300 p0 k (nI q.length) v3 v S := by
  have vp := vp_in_nI hl (by omega)
  obtain ⟨⟨h1, h2, h3, h4, h5, h6⟩, hq⟩ := h
  have put : ∀ x : Int32, g.2.1 = some x → (g.1 = f.1) → g.2.2 = f.2.2 → w_X12_worked_328 p0 k (nI q.length) v3 x (nI q.length) S := by
    intro x gx g1 g2
    unfold w_X12_worked_328
    rw [nI_clamp (by omega)]
    refine ⟨vp, fun S1 e1 => ?_⟩
    rintro y rfl
    refine hk S1 (by rw [e1]; exact frX_sI (frX_refl _ _) (by simp)) ⟨⟨fun c hc => ?_, ?_, ?_, ?_, ?_, ?_⟩, FrL_eq q S S1 (fun b i hi => by rw [e1, gI_sI, if_neg (by omega)]) hq⟩
    · rw [gx] at hc; rw [e1, gI_sI, if_pos ⟨rfl, rfl⟩]; exact Option.some.inj hc
    · rw [g1, e1, gI_sI, if_neg (by omega)]; exact h2
    · rw [g2, e1, gI_sI, if_neg (by omega), gI_sI, if_neg (by omega)]; exact h3
    · rw [g2, e1, gI_sI, if_neg (by omega), gI_sI, if_neg (by omega)]; exact h4
    · rw [g2, e1, gI_sI, if_neg (by omega), gI_sI, if_neg (by omega)]; exact h5
    · rw [g2, e1, gI_sI, if_neg (by omega)]; exact h6
  unfold w_X12_worked_300
  rw [nI_clamp (by omega)]
  refine ⟨vp, ?_⟩
  unfold mulF at hm
  cases ft : f.1 with
  | true =>
    rw [ft, if_pos rfl] at hm
    rw [h2.1 ft, if_neg (by decide)]
    cases fc : f.2.1 with
    | none => rw [fc] at hm; cases hm
    | some c =>
      rw [fc] at hm
      have e := Option.some.inj hm
      rw [h1 c fc]
      refine ⟨vp, put _ (by rw [← e]) (by rw [← e, ft]) (by rw [← e])⟩
  | false =>
    rw [ft, if_neg (by decide)] at hm
    rw [h2.2 ft, if_pos rfl]
    have e := Option.some.inj hm
    exact put _ (by rw [← e]) (by rw [← e, ft]) (by rw [← e])
theorem m_put {p0 v3 : Int32} {st' : List Fr} {S : St} {k : Int32 → Int32 → St → Prop} {v : Int32} {st : List Fr} (hl : st.length ≤ 7) (h : FrL st S) (hp : putM v st = some st') (hk : ∀ S', frX wkl S S' → st' ≠ [] → st'.length ≤ st.length → FrL st' S' → k (nI (st'.length - 1)) (v3 + 1) S') : w_X12_worked_268 p0 k v3 (nI (st.length - 1)) v S := by
  unfold w_X12_worked_268
  refine loop2 (fun v2 v5 S' => S' = S ∧ ∃ s1, v2 = nI (s1.length - 1) ∧ s1.length ≤ st.length ∧ FrL s1 S ∧ putM v5 s1 = some st') (fun v2 _ _ => v2.toNatClampNeg) ?_ _ _ ⟨rfl, st, rfl, Nat.le_refl _, h, hp⟩
  rintro kk v2 v5 S' ⟨e0, s1, rfl, h2, h3, h4⟩ hkk
  subst e0
  unfold b_X12_worked_268
  cases s1 with
  | nil => cases h4
  | cons f q =>
    rw [show (f :: q).length - 1 = q.length by simp]
    simp only [List.length_cons] at h2
    cases q with
    | nil =>
      rw [if_pos (by decide)]
      have h4 : (mulF f v5).bind (fun g => some [g]) = some st' := h4
      cases hm : mulF f v5 with
      | none => rw [hm] at h4; cases h4
      | some g =>
        rw [hm] at h4
        have e := Option.some.inj h4
        refine m_put300 (by simp) h3 hm (fun S2 f2 l2 => ?_)
        have := hk S2 f2 (by rw [← e]; simp) (by rw [← e]; simp only [List.length_cons, List.length_nil]; omega) (by rw [← e]; exact l2)
        rw [← e] at this; exact this
    | cons g r =>
      have ln : (g :: r).length = r.length + 1 := rfl
      have h4 : (if f.2.2.2.2.2 = true then putM (if v5 = 0 then 1 else 0) (g :: r) else (mulF f v5).bind (fun h => some (h :: g :: r))) = some st' := h4
      simp only [List.length_cons] at h2
      rw [ln, if_neg (show ¬ nI (r.length + 1) ≤ 0 from nI_nle (by omega) (by omega)), nI_clamp (by omega)]
      refine ⟨vp_in_nI (by omega) (by omega), ?_⟩
      have nt := h3.1.2.2.2.2.2 (by rw [ln]; omega)
      rw [ln] at nt
      by_cases z : f.2.2.2.2.2 = true
      · rw [if_pos z] at h4
        rw [if_pos (nt.mp z)]
        unfold w_X12_worked_292
        have nx : ∀ x : Int32, putM x (g :: r) = some st' → ∀ y, y = nI (r.length + 1) + (-1 : Int32) → kk y x S' := by
          intro x hx y hy
          rw [pk_m1] at hy
          rw [hy]
          refine hkk _ _ _ ⟨rfl, g :: r, by rw [ln]; rfl, by rw [ln]; omega, h3.2, hx⟩ ?_
          rw [nI_clamp (by omega), nI_clamp (by simp only [List.length_cons]; omega)]
          simp only [List.length_cons]; omega
        by_cases y : v5 = 0
        · rw [if_pos y] at h4 ⊢; exact nx _ h4
        · rw [if_neg y] at h4 ⊢; exact nx _ h4
      · rw [if_neg z] at h4
        rw [if_neg (fun q => z (nt.mpr q))]
        cases hm : mulF f v5 with
        | none => rw [hm] at h4; cases h4
        | some f' =>
          rw [hm] at h4
          have e := Option.some.inj h4
          have := m_put300 (p0 := p0) (v3 := v3) (k := k) (q := g :: r) (by rw [ln]; omega) h3 hm (fun S2 f2 l2 => by
            have := hk S2 f2 (by rw [← e]; simp) (by rw [← e]; simp only [List.length_cons]; omega) (by rw [← e]; exact l2)
            rw [← e] at this; exact this)
          rw [ln] at this; exact this
