/-! ===== pure: the reference reads a whole ===== -/
theorem NF_W {sg : Nat → Nat} {t p v : Nat} {P : PS} {S S1 S2 : St} (h : NF sg t P S) (e1 : S1 = sI S 13 p (nI v)) (e2 : S2 = sI S1 0 28 (nI (P.F 0 3 + 1))) : NF sg t (addW P p v) S2 := by
  obtain ⟨h1, h2, h3, h4⟩ := h
  have go : ∀ b j, ¬ (b = 0 ∧ j = 28) → b ≠ 13 → gI S2 b j = gI S b j := fun b j a1 a2 => by
    rw [e2, gI_sI, if_neg a1, e1, gI_sI, if_neg (fun q => a2 q.1)]
  refine ⟨fun j hj => ?_, fun q hq => ⟨?_, ?_⟩, fun k hk => ?_, fun w hw => ?_⟩
  · by_cases e : j = 3
    · rw [e, addW_03, e2, gI_sI, if_pos ⟨rfl, rfl⟩]
    · rw [addW_0 _ _ _ e, go _ _ (by omega) (by omega)]; exact h1 j hj
  · rw [addW_0 _ _ _ (by omega)] at hq
    rw [addW_k _ _ _ (by omega) (by omega), go _ _ (by omega) (by omega)]; exact (h2 q hq).1
  · rw [addW_0 _ _ _ (by omega)] at hq
    rw [addW_3, e2, gI_sI, if_neg (by omega), e1, gI_sI]
    show _ = nI (if q = p then v else P.F 3 q)
    by_cases e : q = p
    · rw [if_pos ⟨rfl, e⟩, if_pos e]
    · rw [if_neg (fun z => e z.2), if_neg e]; exact (h2 q hq).2
  · rw [addW_0 _ _ _ (by omega)] at hk
    rw [go _ _ (by omega) (by omega), go _ _ (by omega) (by omega)]; exact h3 k hk
  · rw [addW_0 _ _ _ (by omega)] at hw
    have hgJ : gJ S2 14 w = gJ S 14 w := by rw [e2, gJ_sI, e1, gJ_sI]
    rw [addW_k _ _ _ (by omega) (by omega), addW_k _ _ _ (by omega) (by omega), addW_k _ _ _ (by omega) (by omega), go _ _ (by omega) (by omega), go _ _ (by omega) (by omega), go _ _ (by omega) (by omega), hgJ]; exact h4 w hw
theorem m_readsWhole {sg : Nat → Nat} {t s : Nat} {P : PS} {S : St} {Q : Int32 → St → Prop} (hW : PSW P) (h : PM sg t s P S) (hb : ∀ f S', endP sg t (wholeP sg t s P) = .bad f → frR S S' → gI S' 0 9 = nI f → Q 0 S') (ho : ∀ s' P' S', endP sg t (wholeP sg t s P) = .ok s' P' → frR S S' → PM sg t s' P' S' → Q 1 S') : w_X12_readsWhole S Q := by
  have hn0 := hW.1.1
  have hn := hW.1.2.1
  have e0 : wholeP sg t s P = wholeP sg t s P := rfl
  conv at e0 => rhs; unfold wholeP
  have wrong : ∀ (f : Nat) (v : Int32) (S1 S' : St), wholeP sg t s P = .bad f → frR S S1 → v = nI f → S' = sI S1 0 9 v → Q 0 S' := by
    intro f v S1 S' e1 e2 e3 e4
    exact hb f S' (by rw [e1]; rfl) (frR_trans e2 (by rw [e4]; exact frR_s0 (by decide) (by omega))) (by rw [e4, gI_sI, if_pos ⟨rfl, rfl⟩, e3])
  unfold w_X12_readsWhole
  refine m_next h.1 (fun S1 f1 c1 => ?_)
  have p1 := PM_FT h f1 c1
  have r1 := frR_FT f1
  rw [show gI S1 0 25 = nI (P.F 0 0) from p1.2.1 0 (by omega), show (1 : Int32) = nI 1 from rfl, pk_sub hn0]
  have rk : numK sg t 0 (P.F 0 0 - 1) (ro9 P (v10 sg t (nxt sg t s))) (nxt sg t s) = if numK sg t 0 (P.F 0 0 - 1) none (nxt sg t s) = 0 ∧ 0 < P.F 3 (v10 sg t (nxt sg t s)) then 3 else numK sg t 0 (P.F 0 0 - 1) none (nxt sg t s) := by
    by_cases c : v10 sg t (nxt sg t s) < P.F 0 0 ∧ 0 < P.F 3 (v10 sg t (nxt sg t s))
    · rw [show ro9 P (v10 sg t (nxt sg t s)) = some (v10 sg t (nxt sg t s)) from by unfold ro9; rw [if_pos c], numK_some (Nat.zero_le _) (by omega)]
      by_cases d : numK sg t 0 (P.F 0 0 - 1) none (nxt sg t s) = 0
      · rw [if_pos ⟨d, rfl⟩, if_pos ⟨d, c.2⟩]
      · rw [if_neg (show ¬ (numK sg t 0 (P.F 0 0 - 1) none (nxt sg t s) = 0 ∧ _) from fun q => d q.1), if_neg (show ¬ (numK sg t 0 (P.F 0 0 - 1) none (nxt sg t s) = 0 ∧ _) from fun q => d q.1)]
    · rw [show ro9 P (v10 sg t (nxt sg t s)) = none from by unfold ro9; rw [if_neg c]]
      rw [if_neg (fun q => c ⟨by have := (numK_rng q.1).2; omega, q.2⟩)]
  rw [rk] at e0
  refine m_needsNumber (lo := 0) p1.1 (by omega) (by omega) (fun z => ?_) (fun z z2 => ?_)
  · rw [if_neg (show ¬ (numK sg t 0 (P.F 0 0 - 1) none (nxt sg t s) = 0 ∧ _) from fun q => z q.1), if_pos z] at e0
    rw [if_pos rfl]
    exact wrong _ _ S1 _ e0 r1 (n16 _ _) rfl
  · have hp : v10 sg t (nxt sg t s) < P.F 0 0 := by have := (numK_rng z).2; omega
    have g3 := (hW.2.2.1 _ hp).2.1
    rw [if_neg (by decide)]
    intro x hx
    rw [z2] at hx
    subst hx
    rw [nI_clamp (by omega), (p1.2.2.1 _ hp).2]
    refine ⟨vp_in_nI (by omega) (by omega), nI_if (y := 0) (by omega) (by omega) (fun q => ?_) (fun q => ?_)⟩
    · rw [if_neg (show ¬ (numK sg t 0 (P.F 0 0 - 1) none (nxt sg t s) = 0 ∧ 0 < _) from fun w => by omega), if_neg (by omega)] at e0
      refine m_next p1.1 (fun S2 f2 c2 => ?_)
      have p2 := PM_FT p1 f2 c2
      have r2 := frR_trans r1 (frR_FT f2)
      refine m_needsWord (i := 10) p2.1 (by omega) (by rfl) (fun y => ?_) (fun y S3 f3 c3 => ?_)
      · rw [if_pos y] at e0
        rw [if_pos rfl]
        exact wrong _ _ S2 _ e0 r2 (n16 1 _) rfl
      · rw [if_neg (fun w => w y)] at e0
        rw [if_neg (by decide)]
        have p3 := PM_FT p2 f3 c3
        have r3 := frR_trans r2 (frR_FT f3)
        refine m_needsNumber (lo := 1) (hi := 99) p3.1 (by omega) (by omega) (fun w => ?_) (fun w w2 => ?_)
        · rw [if_pos w] at e0
          rw [if_pos rfl]
          exact wrong _ _ S3 _ e0 r3 (n16 _ _) rfl
        · rw [if_neg (by omega)] at e0
          rw [if_neg (by decide)]
          refine ⟨vp_in_nI (by omega) (by omega), fun S4 e4 S5 e5 => ?_⟩
          rw [w2] at e4
          have g28 : gI S4 0 28 = nI (P.F 0 3) := by rw [e4, gI_sI, if_neg (by omega)]; exact p3.2.1 3 (by omega)
          rw [g28, nI_add] at e5
          have f4 : frX [13] S3 S4 := by rw [e4]; exact frX_sI (frX_refl _ _) (by simp)
          have p5 : PM sg t _ (addW P (v10 sg t (nxt sg t s)) (v10 sg t (nxt sg t (nxt sg t (nxt sg t s))))) S5 := ⟨by rw [e5]; exact CurM_s0 (by omega) (CurM_X f4 (by simp) p3.1), NF_W p3.2 e4 e5⟩
          have r5 : frR S S5 := frR_trans (frR_trans r3 (frR_X f4 (fun x hx => by simp at hx; omega))) (by rw [e5]; exact frR_s0 (by decide) (by omega))
          refine m_next p5.1 (fun S6 f6 c6 => ?_)
          exact m_lineEnd (PM_FT p5 f6 c6) (frR_trans r5 (frR_FT f6)) e0 hb ho
    · rw [if_pos (show numK sg t 0 (P.F 0 0 - 1) none (nxt sg t s) = 0 ∧ 0 < _ from ⟨z, q⟩), if_pos (by decide)] at e0
      exact m_fails9 (k := 3) p1.1 ⟨Or.inl rfl, wrong _ _ S1 _ e0 r1 (n16 3 _) rfl⟩
