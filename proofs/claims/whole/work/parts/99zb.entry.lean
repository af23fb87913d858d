/-! ===== pure: the reference reads a word ===== -/
theorem v27_eq {sg : Nat → Nat} {t a b : Nat} (ha : tkind sg t a = 1) (hb : tkind sg t b = 1) : v27 sg t a = v27 sg t b ↔ v32 sg t a = v32 sg t b := by
  obtain ⟨a1, a2, _, _⟩ := v_27_32 ha
  obtain ⟨b1, b2, _, _⟩ := v_27_32 hb
  constructor
  · intro e; rw [← a2, ← b2, e]
  · intro e; rw [← a1, ← b1, e]
theorem PM_row {sg : Nat → Nat} {t s c : Nat} {v : Int32} {P : PS} {S : St} (h : PM sg t s P S) (hc : c = 15 ∨ c = 16 ∨ c = 17) : PM sg t s P (sI S c (P.F 0 5) v) := by
  have f : frX [c] S (sI S c (P.F 0 5) v) := frX_sI (frX_refl _ _) (by simp)
  obtain ⟨hm, h1, h2, h3, h4⟩ := h
  refine ⟨CurM_X f (by simp; omega) hm, fun j hj => by rw [gI_sI, if_neg (by omega)]; exact h1 j hj, fun p hp => by rw [gI_sI, if_neg (by omega), gI_sI, if_neg (by omega)]; exact h2 p hp, fun k hk => by rw [gI_sI, if_neg (by omega), gI_sI, if_neg (by omega)]; exact h3 k hk, fun w hw => ?_⟩
  rw [gI_sI, if_neg (by omega), gI_sI, if_neg (by omega), gI_sI, if_neg (by omega), gJ_sI]; exact h4 w hw
theorem PM_name {sg : Nat → Nat} {t s : Nat} {v : Int64} {P : PS} {S : St} (h : PM sg t s P S) : PM sg t s P (sJ S 14 (P.F 0 5) v) := by
  have f : frX [14] S (sJ S 14 (P.F 0 5) v) := frX_sJ (frX_refl _ _) (by simp)
  obtain ⟨hm, h1, h2, h3, h4⟩ := h
  refine ⟨CurM_X f (by simp) hm, fun j hj => by rw [gI_sJ]; exact h1 j hj, fun p hp => by rw [gI_sJ, gI_sJ]; exact h2 p hp, fun k hk => by rw [gI_sJ, gI_sJ]; exact h3 k hk, fun w hw => ?_⟩
  rw [gI_sJ, gI_sJ, gI_sJ, gJ_sJ, if_neg (by omega)]; exact h4 w hw
theorem frR_row {S : St} {c j : Nat} {v : Int32} (hc : c = 15 ∨ c = 16 ∨ c = 17) : frR S (sI S c j v) := frR_X (l := [c]) (frX_sI (frX_refl _ _) (by simp)) (fun x hx => by simp at hx; omega)
theorem frR_name {S : St} {j : Nat} {v : Int64} : frR S (sJ S 14 j v) := ⟨fun _ _ _ => rfl, fun _ _ _ => rfl⟩
theorem NF_Wd {sg : Nat → Nat} {t s1 r b k : Nat} {P : PS} {S S' : St} (h : NF sg t P S) (hk1 : tkind sg t s1 = 1) (g14 : gJ S 14 (P.F 0 5) = lN (v27 sg t s1)) (g15 : gI S 15 (P.F 0 5) = nI r) (g16 : gI S 16 (P.F 0 5) = nI b) (g17 : gI S 17 (P.F 0 5) = nI k) (e : S' = sI S 0 30 (nI (P.F 0 5 + 1))) : NF sg t (addWd P s1 r b k) S' := by
  obtain ⟨h1, h2, h3, h4⟩ := h
  refine ⟨fun j hj => ?_, fun p hp => ?_, fun k' hk' => ?_, fun w hw => ?_⟩
  · by_cases q : j = 5
    · rw [q, addWd_05, e, gI_sI, if_pos ⟨rfl, rfl⟩]
    · rw [addWd_0 _ _ _ _ _ q, e, gI_sI, if_neg (by omega)]; exact h1 j hj
  · rw [addWd_0 _ _ _ _ _ (by omega)] at hp
    rw [addWd_k _ _ _ _ _ (by omega) (by omega), addWd_k _ _ _ _ _ (by omega) (by omega), e, gI_sI, if_neg (by omega), gI_sI, if_neg (by omega)]; exact h2 p hp
  · rw [addWd_0 _ _ _ _ _ (by omega)] at hk'
    rw [e, gI_sI, if_neg (by omega), gI_sI, if_neg (by omega)]; exact h3 k' hk'
  · rw [addWd_05] at hw
    have nv : (addWd P s1 r b k).nm w = if w = P.F 0 5 then s1 else P.nm w := rfl
    have q15 : gI S' 15 w = gI S 15 w := by rw [e, gI_sI, if_neg (by omega)]
    have q16 : gI S' 16 w = gI S 16 w := by rw [e, gI_sI, if_neg (by omega)]
    have q17 : gI S' 17 w = gI S 17 w := by rw [e, gI_sI, if_neg (by omega)]
    have q14 : gJ S' 14 w = gJ S 14 w := by rw [e, gJ_sI]
    rw [nv, addWd_4, addWd_5, addWd_6, q15, q16, q17, q14]
    by_cases q : w = P.F 0 5
    · rw [if_pos q, if_pos q, if_pos q, if_pos q, q]; exact ⟨g15, g16, g17, hk1, g14⟩
    · rw [if_neg q, if_neg q, if_neg q, if_neg q]; exact h4 w (by omega)
