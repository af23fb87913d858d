/-! ===== pure: the class reads a word ===== -/
theorem e_addWord {sg : Nat → Nat} {t n s s1 r b k : Nat} {P : PS} {S : St} {Q : Int32 → St → Prop} (h12 : P.F 0 5 < 12) (h : PE sg t n s P S) (hk1 : tkind sg t s1 = 1) (hg : gJ S 20 (P.F 0 5) = lN (v32 sg t s1)) (hQ : ∀ S', frX prl S S' → PE sg t n s (addWd P s1 r b k) S' → Q 1 S') : w_X4_addWord 11 (nI r) (nI b) (nI k) S (fun S' => Q 1 S') := by
  obtain ⟨hc, hT, hN, h78⟩ := h
  have g5 := hT.1 5 (by omega)
  unfold w_X4_addWord
  rw [g5]
  refine e_put (p := 15) (by show _ < 12; omega) (by decide) ?_
  rw [gI_sI, if_neg (by omega), g5]
  refine e_put (p := 16) (by show _ < 12; omega) (by decide) ?_
  rw [gI_sI, if_neg (by omega), gI_sI, if_neg (by omega), g5]
  refine e_put (p := 17) (by show _ < 12; omega) (by decide) ?_
  rw [gI_sI, if_neg (by omega), gI_sI, if_neg (by omega), gI_sI, if_neg (by omega), g5, nI_1]
  intro S2 e2
  have f2 : frX [11, 15, 16, 17] S S2 := by rw [e2]; exact frX_sI (frX_sI (frX_sI (frX_sI (frX_refl _ _) (by simp)) (by simp)) (by simp)) (by simp)
  have st : ∀ c j, ¬ (c = 11 ∧ j = 5) → gI S2 c j = if c = 17 ∧ j = P.F 0 5 then nI k else if c = 16 ∧ j = P.F 0 5 then nI b else if c = 15 ∧ j = P.F 0 5 then nI r else gI S c j := fun c j hc' => by
    rw [e2, gI_sI, if_neg hc', gI_sI, gI_sI, gI_sI]
  refine hQ S2 (frX_sub f2 (by simp)) ⟨CurE_fr hc f2 (by simp), ⟨fun j hj => ?_, fun i j a1 a2 a3 => ?_, fun i j a1 a2 a3 => ?_, fun q a1 a2 => ?_⟩, fun w hw => ?_, by rw [frX_g f2 7 8 (by simp)]; exact h78⟩
  · by_cases e : j = 5
    · rw [e, addWd_05, e2, gI_sI, if_pos ⟨rfl, rfl⟩]
    · rw [addWd_0 _ _ _ _ _ e, st 11 j (fun q => e q.2), if_neg (by omega), if_neg (by omega), if_neg (by omega)]; exact hT.1 j hj
  · rw [addWd_0 _ _ _ _ _ (by omega)] at a3
    rw [addWd_k _ _ _ _ _ a1 a2, frX_g f2 (11 + i) j (by simp; omega)]; exact hT.2.1 i j a1 a2 a3
  · rw [addWd_05] at a3
    rw [st (11 + i) j (by omega)]
    have : i = 4 ∨ i = 5 ∨ i = 6 := by omega
    rcases this with rfl | rfl | rfl
    · rw [addWd_4, if_neg (by omega), if_neg (by omega)]
      by_cases e : j = P.F 0 5
      · rw [if_pos ⟨rfl, e⟩, if_pos e]
      · rw [if_neg (fun q => e q.2), if_neg e]; exact hT.2.2.1 4 j (by omega) (by omega) (by omega)
    · rw [addWd_5, if_neg (by omega)]
      by_cases e : j = P.F 0 5
      · rw [if_pos ⟨rfl, e⟩, if_pos e]
      · rw [if_neg (fun q => e q.2), if_neg (by omega), if_neg e]; exact hT.2.2.1 5 j (by omega) (by omega) (by omega)
    · rw [addWd_6]
      by_cases e : j = P.F 0 5
      · rw [if_pos ⟨rfl, e⟩, if_pos e]
      · rw [if_neg (fun q => e q.2), if_neg (by omega), if_neg (by omega), if_neg e]; exact hT.2.2.1 6 j (by omega) (by omega) (by omega)
  · rw [addWd_0 _ _ _ _ _ (by omega)] at a1
    rw [frX_g f2 14 q (by simp)]; exact hT.2.2.2 q a1 a2
  · rw [addWd_05] at hw
    have nv : (addWd P s1 r b k).nm w = if w = P.F 0 5 then s1 else P.nm w := rfl
    rw [nv, frX_gJ f2 20 w (by simp)]
    by_cases e : w = P.F 0 5
    · rw [if_pos e, e]; exact ⟨hk1, hg⟩
    · rw [if_neg e]; exact hN w (by omega)
