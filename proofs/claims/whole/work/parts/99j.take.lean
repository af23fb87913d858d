/-! ===== pure: both take keys and numbers ===== -/
/-- 0, or what is wrong with the number due at s -/
def numK (sg : Nat → Nat) (t lo hi : Nat) (ro : Option Nat) (s : Nat) : Nat :=
  if tkey sg t s = 2 then (if ro = some (v10 sg t s) then 3 else if v10 sg t s < lo ∨ hi < v10 sg t s then 4 else 0) else 1
def roI : Option Nat → Int32
  | none => -1
  | some r => nI r
theorem CurE_of {sg : Nat → Nat} {t n s : Nat} {S S' : St} (h : CurE sg t n s S) (hC : CUT sg t n S') (h4 : gI S' 7 4 = gI S 7 4) (h5 : gI S' 7 5 = gI S 7 5) (h6 : gJ S' 7 6 = gJ S 7 6) : CurE sg t n s S' := by
  obtain ⟨a, b, c, ⟨i, d1, d2, d3⟩, e, f, g⟩ := h
  exact ⟨a, b, hC, ⟨i, d1, d2, by rw [h4]; exact d3⟩, by rw [h5]; exact e, fun q => by rw [h6]; exact f q, fun q => by rw [h6]; exact g q⟩
theorem CurE_fr {sg : Nat → Nat} {t n s : Nat} {l : List Nat} {S S' : St} (h : CurE sg t n s S) (hf : frX l S S') (hl : 1 ∉ l ∧ 3 ∉ l ∧ 4 ∉ l ∧ 5 ∉ l ∧ 7 ∉ l) : CurE sg t n s S' :=
  CurE_of h (CUT_fr hf ⟨hl.1, hl.2.1, hl.2.2.1, hl.2.2.2.1⟩ h.2.2.1) (frX_g hf 7 4 hl.2.2.2.2) (frX_g hf 7 5 hl.2.2.2.2) (frX_gJ hf 7 6 hl.2.2.2.2)
theorem CurE_s7 {sg : Nat → Nat} {t n s j : Nat} {v : Int32} {S : St} (h : CurE sg t n s S) (hj : j = 7 ∨ j = 8) : CurE sg t n s (sI S 7 j v) :=
  CurE_of h (CUT_fr (l := [7]) (frX_sI (frX_refl _ _) (by simp)) (by simp) h.2.2.1) (by rw [gI_sI, if_neg (by omega)]) (by rw [gI_sI, if_neg (by omega)]) (by rw [gJ_sI])
theorem m1_l : ((-1 : Int32)).toInt64 = (-1 : Int64) := by decide
theorem lN_ne_m1 {n : Nat} (h : n < 2 ^ 31) : lN n ≠ (-1 : Int64) := by
  intro q
  have := congrArg Int64.toInt q
  rw [lN_toInt h] at this
  have e : ((-1 : Int64)).toInt = -1 := by decide
  omega
theorem e_takeNumber {sg : Nat → Nat} {t n s lo hi : Nat} {ro : Option Nat} {S : St} {Q : Int32 → St → Prop} (h : CurE sg t n s S) (hlo : lo < 2 ^ 31) (hhi : hi < 2 ^ 31) (hro : ∀ r, ro = some r → r < 2 ^ 31)
    (h0 : numK sg t lo hi ro s ≠ 0 → Q 0 (sI S 7 8 (nI (numK sg t lo hi ro s) + (16 : Int32) * nI s))) (h1 : numK sg t lo hi ro s = 0 → tkey sg t s = 2 → lo ≤ v10 sg t s → v10 sg t s ≤ hi → ∀ S', FH (sI S 7 7 (nI (v10 sg t s))) S' → CurE sg t n (nxt sg t s) S' → Q 1 S') : w_X8_takeNumber (nI lo) (nI hi) (roI ro) S Q := by
  have kk := tkey_lt sg t s
  have h' := h
  obtain ⟨ht, hs, hC, hi', h5, h6, h7⟩ := h'
  unfold w_X8_takeNumber
  rw [h5]
  refine nI_ifEq (y := 2) (by omega) (by omega) (fun k2 => ?_) (fun k2 => ?_)
  · have kd := tkey_num.mp k2
    have vl := v10_lt kd
    rw [h7 kd, nI_l hlo, nI_l hhi]
    have fr : ∀ k, numK sg t lo hi ro s = k → k ≠ 0 → w_X8_isWrong (nI k) S (fun r26_2 S26_1 => (r26_2 = 0 ∨ r26_2 = 1) ∧ Q r26_2 S26_1) := by
      intro k e1 e2
      rw [e1] at h0
      exact e_wrong h ⟨Or.inl rfl, h0 e2⟩
    by_cases c : ro = some (v10 sg t s)
    · have e : numK sg t lo hi ro s = 3 := by unfold numK; rw [if_pos k2, if_pos c]
      rw [c]
      show if lN (v10 sg t s) = (nI (v10 sg t s)).toInt64 then _ else _
      rw [nI_l (by omega), if_pos rfl]
      exact fr 3 e (by omega)
    · have e0 : numK sg t lo hi ro s = if v10 sg t s < lo ∨ hi < v10 sg t s then 4 else 0 := by unfold numK; rw [if_pos k2, if_neg c]
      have ne : ¬ lN (v10 sg t s) = (roI ro).toInt64 := by
        cases ro with
        | none => show ¬ lN (v10 sg t s) = ((-1 : Int32)).toInt64; rw [m1_l]; exact lN_ne_m1 (by omega)
        | some r =>
          show ¬ lN (v10 sg t s) = (nI r).toInt64
          rw [nI_l (hro r rfl)]
          intro q; exact c (by rw [(lN_eq (by omega) (hro r rfl)).mp q])
      rw [if_neg ne]
      by_cases a : v10 sg t s < lo
      · rw [if_pos ((lN_lt (by omega) hlo).mpr a)]
        exact fr 4 (by rw [e0, if_pos (Or.inl a)]) (by omega)
      · rw [if_neg (fun q => a ((lN_lt (by omega) hlo).mp q))]
        by_cases b : hi < v10 sg t s
        · rw [if_pos ((lN_lt hhi (by omega)).mpr b)]
          exact fr 4 (by rw [e0, if_pos (Or.inr b)]) (by omega)
        · rw [if_neg (fun q => b ((lN_lt hhi (by omega)).mp q))]
          intro S1 e1
          rw [lN_i] at e1
          have c1 : CurE sg t n s S1 := by rw [e1]; exact CurE_s7 h (Or.inl rfl)
          refine e_next c1 (fun S2 q1 q2 => h1 (by rw [e0, if_neg (by omega)]) k2 (by omega) (by omega) S2 (by rw [← e1]; exact q1) q2)
  · have e : numK sg t lo hi ro s = 1 := by unfold numK; rw [if_neg k2]
    rw [e] at h0
    exact e_wrong (k := 1) h ⟨Or.inl rfl, h0 (by omega)⟩
theorem m_needsNumber {sg : Nat → Nat} {t s lo hi : Nat} {S : St} {Q : Int32 → St → Prop} (h : CurM sg t s S) (hlo : lo < 2 ^ 31) (hhi : hi < 2 ^ 31)
    (h0 : numK sg t lo hi none s ≠ 0 → Q 0 (sI S 0 9 (nI (numK sg t lo hi none s) + (16 : Int32) * nI s))) (h1 : numK sg t lo hi none s = 0 → gI S 0 8 = nI (v10 sg t s) → Q 1 S) : w_X12_needsNumber (nI lo) (nI hi) S Q := by
  have kle := tkind_le sg t s
  have h' := h
  obtain ⟨a1, a2, a, b, c, d, e⟩ := h'
  unfold w_X12_needsNumber
  rw [c]
  refine nI_ifEq (y := 2) (by omega) (by omega) (fun k2 => ?_) (fun k2 => ?_)
  · have kd := tkey_num.mpr k2
    have vl := v10_lt k2
    have e0 : numK sg t lo hi none s = if v10 sg t s < lo ∨ hi < v10 sg t s then 4 else 0 := by unfold numK; rw [if_pos kd, if_neg (by simp)]
    rw [e k2]
    refine m_within (fun q => ?_) (fun q1 q2 => ?_)
    · have q' : v10 sg t s < lo ∨ hi < v10 sg t s := q.imp (fun z => (nI_ltI (by omega) hlo).mp z) (fun z => (nI_ltI hhi (by omega)).mp z)
      rw [if_pos q'] at e0
      rw [e0] at h0
      rw [if_pos rfl]
      refine m_fails9 h ?_
      rw [if_pos rfl]; exact h0 (by omega)
    · have q' : ¬ (v10 sg t s < lo ∨ hi < v10 sg t s) := fun z => z.elim (fun y => q1 ((nI_ltI (by omega) hlo).mpr y)) (fun y => q2 ((nI_ltI hhi (by omega)).mpr y))
      rw [if_neg q'] at e0
      rw [if_neg (by decide)]
      exact h1 e0 (e k2)
  · have e0 : numK sg t lo hi none s = 1 := by unfold numK; rw [if_neg (fun z => k2 (tkey_num.mp z))]
    rw [e0] at h0
    exact m_fails9 (k := 1) h ⟨Or.inl rfl, h0 (by omega)⟩
theorem e_takeKey {sg : Nat → Nat} {t n s k : Nat} {S : St} {Q : Int32 → St → Prop} (h : CurE sg t n s S) (hk : k < 2 ^ 31) (h0 : tkey sg t s ≠ k → Q 0 (sI S 7 8 ((1 : Int32) + (16 : Int32) * nI s))) (h1 : tkey sg t s = k → ∀ S', FH S S' → CurE sg t n (nxt sg t s) S' → Q 1 S') : w_X8_takeKey (nI k) S Q := by
  have kk := tkey_lt sg t s
  unfold w_X8_takeKey
  rw [h.2.2.2.2.1]
  refine nI_ifEq (by omega) (by omega) (fun q => ?_) (fun q => ?_)
  · exact e_next h (h1 q)
  · exact e_wrong h ⟨Or.inl rfl, h0 q⟩
theorem m_needsWord {sg : Nat → Nat} {t s i : Nat} {w : Int64} {S : St} {Q : Int32 → St → Prop} (h : CurM sg t s S) (hi : i < 24) (hw : w = lN (k27 i)) (h0 : tkey sg t s ≠ 128 + i → Q 0 (sI S 0 9 ((1 : Int32) + (16 : Int32) * nI s))) (h1 : tkey sg t s = 128 + i → ∀ S', FT S S' → CurM sg t (nxt sg t s) S' → Q 1 S') : w_X12_needsWord w S Q := by
  unfold w_X12_needsWord
  refine m_isWord9 h hi hw ?_
  by_cases q : tkey sg t s = 128 + i
  · rw [if_pos q, if_neg (by decide)]; exact m_next h (h1 q)
  · rw [if_neg q, if_pos rfl]; exact m_fails9 h ⟨Or.inl rfl, h0 q⟩
theorem m_ends {sg : Nat → Nat} {t s : Nat} {S : St} {Q : Int32 → St → Prop} (h : CurM sg t s S) (h0 : tkey sg t s ≠ 59 → Q 0 (sI S 0 9 ((1 : Int32) + (16 : Int32) * nI s))) (h1 : tkey sg t s = 59 → ∀ S', FT S S' → CurM sg t (nxt sg t s) S' → Q 1 S') : w_X12_ends S Q := by
  unfold w_X12_ends
  refine m_isSign9 (c := 59) h (by decide) ?_
  by_cases q : tkey sg t s = 59
  · rw [if_pos q, if_neg (by decide)]; exact m_next h (h1 q)
  · rw [if_neg q, if_pos rfl]; exact m_fails9 h ⟨Or.inl rfl, h0 q⟩
