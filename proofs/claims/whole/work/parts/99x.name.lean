/-! ===== pure: a name is taken ===== -/
theorem name_kind {sg : Nat → Nat} {t s : Nat} (h : tkey sg t s = 3 ∨ 147 ≤ tkey sg t s) : tkind sg t s = 1 := by
  apply Classical.byContradiction
  intro q
  unfold tkey at h
  rw [if_neg q] at h
  split at h
  · omega
  · split at h
    · omega
    · split at h
      · rename_i k3; have := of_decide_eq_true (kind3 k3).2; omega
      · omega
theorem e_takeName {sg : Nat → Nat} {t n s : Nat} {P : PS} {S : St} {Q : Int32 → St → Prop} (h12 : P.F 0 5 < 12) (h : PE sg t n s P S)
    (hb1 : ¬ (tkey sg t s = 3 ∨ 147 ≤ tkey sg t s) → Q 0 (sI S 7 8 (nI (1 + 16 * s)))) (hb3 : (tkey sg t s = 3 ∨ 147 ≤ tkey sg t s) → dupN sg t P.nm (v32 sg t s) (P.F 0 5) = true → Q 0 (sI S 7 8 (nI (3 + 16 * s))))
    (ho : (tkey sg t s = 3 ∨ 147 ≤ tkey sg t s) → ¬ dupN sg t P.nm (v32 sg t s) (P.F 0 5) = true → ∀ S', frX prl S S' → PE sg t n (nxt sg t s) P S' → gJ S' 20 (P.F 0 5) = lN (v32 sg t s) → tkind sg t s = 1 → Q 1 S') : w_X8_takeName S Q := by
  have kk := tkey_lt sg t s
  obtain ⟨hc, hT, hN, h78⟩ := id h
  have lp : (tkey sg t s = 3 ∨ 147 ≤ tkey sg t s) → w_X8_takeName_26 Q 0 S := by
    intro hn
    have k1 := name_kind hn
    have lv := (v_27_32 k1).2.2.2
    have g6 := hc.2.2.2.2.2.1 k1
    have fin : ∀ j, j = P.F 0 5 → dupN sg t P.nm (v32 sg t s) j = false → w_X8_takeName_72 Q S := by
      intro j hj hd
      subst hj
      unfold w_X8_takeName_72
      rw [hT.1 5 (by omega), if_neg (nI_pos (by omega)), if_neg (show ¬ (12 : Int32) ≤ nI (P.F 0 5) from nI_ge (b := 12) h12 (by omega)), nI_clamp (by omega), g6]
      refine ⟨vp_in_nI h12 (by omega), fun S1 e1 => ?_⟩
      have f1 : frX [20] S S1 := by rw [e1]; exact frX_sJ (frX_refl _ _) (by simp)
      have c1 : CurE sg t n s S1 := CurE_fr hc f1 (by simp)
      unfold w_X8_takeName_113
      refine e_next c1 (fun S2 f2 c2 => ?_)
      refine ho hn (by rw [hd]; decide) S2 (frX_trans (frX_sub f1 (by simp)) (frX_sub f2.1 (by simp))) ⟨c2, TF_fr (frX_trans (frX_sub (m := [7, 20]) f1 (by simp)) (frX_sub f2.1 (by simp))) (fun x hx q => by simp at hx; omega) hT, fun w hw => ⟨(hN w hw).1, ?_⟩, ?_⟩ ?_ k1
      · rw [frX_gJ f2.1 20 w (by simp), e1, gJ_sJ, if_neg (by omega)]; exact (hN w hw).2
      · rw [f2.2 8 (by omega) (by omega), frX_g f1 7 8 (by simp)]; exact h78
      · rw [frX_gJ f2.1 20 _ (by simp), e1, gJ_sJ, if_pos ⟨rfl, rfl⟩]
    unfold w_X8_takeName_26
    refine loop1 (fun v S' => ∃ j, v = nI j ∧ j ≤ P.F 0 5 ∧ S' = S ∧ dupN sg t P.nm (v32 sg t s) j = false) (fun v _ => 12 - v.toNatClampNeg) ?_ _ ⟨0, rfl, Nat.zero_le _, rfl, rfl⟩
    rintro k x0 S' ⟨j, rfl, b1, rfl, b2⟩ hk
    unfold b_X8_takeName_26
    rw [hT.1 5 (by omega)]
    refine nI_if (by omega) (by omega) (fun q => fin j (by omega) b2) (fun q => ?_)
    rw [if_neg (show ¬ (12 : Int32) ≤ nI j from nI_ge (b := 12) (by omega) (by omega)), nI_clamp (by omega), (hN j q).2, g6]
    refine ⟨vp_in_nI (by omega) (by omega), ?_⟩
    have lj := (v_27_32 (hN j q).1).2.2.2
    by_cases e : v32 sg t (P.nm j) = v32 sg t s
    · rw [if_pos (by rw [e])]
      have mono : ∀ m, dupN sg t P.nm (v32 sg t s) (j + 1 + m) = true := by
        intro m
        induction m with
        | zero => show (dupN sg t P.nm (v32 sg t s) j || (v32 sg t (P.nm j) == v32 sg t s)) = true; rw [e]; simp
        | succ m ih => show (dupN sg t P.nm (v32 sg t s) (j + 1 + m) || _) = true; rw [ih]; simp
      have := mono (P.F 0 5 - (j + 1))
      rw [show j + 1 + (P.F 0 5 - (j + 1)) = P.F 0 5 by omega] at this
      exact e_wrong hc ⟨Or.inl rfl, by have q3 := hb3 hn this; rw [← n16] at q3; exact q3⟩
    · rw [if_neg (fun z => e ((pk_lEQ (by omega) (by omega)).mp z))]
      intro x hx
      rw [nI_1] at hx
      rw [hx]
      refine hk _ _ ⟨j + 1, rfl, by omega, rfl, ?_⟩ ?_
      · show (dupN sg t P.nm (v32 sg t s) j || (v32 sg t (P.nm j) == v32 sg t s)) = false
        rw [b2]; simpa using e
      · rw [nI_clamp (by omega), nI_clamp (by omega)]; omega
  unfold w_X8_takeName
  rw [hc.2.2.2.2.1]
  refine nI_ifEq (y := 3) (by omega) (by omega) (fun q => lp (Or.inl q)) (fun q => nI_if (x := 147) (by omega) (by omega) (fun q2 => lp (Or.inr q2)) (fun q2 => ?_))
  exact e_wrong hc ⟨Or.inl rfl, by have q3 := hb1 (by omega); rw [← n16] at q3; exact q3⟩
