/-! ===== pure: the reference reads a line of rhyme ===== -/
theorem m_readsRhyme {sg : Nat → Nat} {t s : Nat} {P : PS} {S : St} {Q : Int32 → St → Prop} (hW : PSW P) (h : PM sg t s P S) (hb : ∀ f S', endP sg t (rhymeP sg t s P) = .bad f → frR S S' → gI S' 0 9 = nI f → Q 0 S') (ho : ∀ s' P' S', endP sg t (rhymeP sg t s P) = .ok s' P' → frR S S' → PM sg t s' P' S' → Q 1 S') : w_X12_readsRhyme S Q := by
  have hn0 := hW.1.1
  have hn := hW.1.2.1
  have h8 := hW.1.2.2.2.1
  have e0 : rhymeP sg t s P = rhymeP sg t s P := rfl
  conv at e0 => rhs; unfold rhymeP
  have wrong : ∀ (f : Nat) (v : Int32) (S1 S' : St), rhymeP sg t s P = .bad f → frR S S1 → v = nI f → S' = sI S1 0 9 v → Q 0 S' := by
    intro f v S1 S' e1 e2 e3 e4
    exact hb f S' (by rw [e1]; rfl) (frR_trans e2 (by rw [e4]; exact frR_s0 (by decide) (by omega))) (by rw [e4, gI_sI, if_pos ⟨rfl, rfl⟩, e3])
  unfold w_X12_readsRhyme
  rw [show gI S 0 27 = nI (P.F 0 2) from h.2.1 2 (by omega)]
  refine nI_ifEq (y := 8) (by omega) (by omega) (fun q => ?_) (fun q => ?_)
  · rw [if_pos (by omega)] at e0
    exact m_fails9 (k := 5) h.1 ⟨Or.inl rfl, wrong (5 + 16 * s) _ S _ e0 (frR_refl S) (n16 5 s) rfl⟩
  rw [if_neg (by omega)] at e0
  refine m_next h.1 (fun S1 f1 c1 => ?_)
  have p1 := PM_FT h f1 c1
  have r1 := frR_FT f1
  rw [show gI S1 0 25 = nI (P.F 0 0) from p1.2.1 0 (by omega), show nI (P.F 0 0) - (1 : Int32) = nI (P.F 0 0 - 1) from pk_sub hn0]
  refine m_needsNumber (lo := 0) p1.1 (by omega) (by omega) (fun z => ?_) (fun z z2 => ?_)
  · rw [if_pos z] at e0
    rw [if_pos rfl]
    exact wrong _ _ S1 _ e0 r1 (n16 _ _) rfl
  rw [if_neg (by omega)] at e0
  rw [if_neg (by decide), show gI S1 0 27 = nI (P.F 0 2) from p1.2.1 2 (by omega)]
  refine ⟨vp_in_nI (by omega) (by omega), fun S2 e2 => ?_⟩
  rw [z2, nI_clamp (by omega)] at e2
  have va := (numK_rng z).2
  have x2 : frX [11] S1 S2 := by rw [e2]; exact frX_sI (frX_refl _ _) (by simp)
  have p2 : PM sg t (nxt sg t s) P S2 := by
    refine ⟨CurM_X x2 (by simp) p1.1, ?_⟩
    obtain ⟨h1, h2, h3, h4⟩ := p1.2
    refine ⟨fun j hj => by rw [frX_g x2 0 _ (by simp)]; exact h1 j hj, fun p hp => by rw [frX_g x2 10 p (by simp), frX_g x2 13 p (by simp)]; exact h2 p hp, fun k hk => ?_, fun w hw => by rw [frX_g x2 15 w (by simp), frX_g x2 16 w (by simp), frX_g x2 17 w (by simp), frX_gJ x2 14 w (by simp)]; exact h4 w hw⟩
    rw [e2, gI_sI, if_neg (by omega), gI_sI, if_neg (by omega)]; exact h3 k hk
  have r2 : frR S S2 := frR_trans r1 (frR_X x2 (fun x hx => by simp at hx; omega))
  have g2 : gI S2 11 (P.F 0 2) = nI (v10 sg t (nxt sg t s)) := by rw [e2, gI_sI, if_pos ⟨rfl, rfl⟩]
  refine m_next p2.1 (fun S3 f3 c3 => ?_)
  have p3 := PM_FT p2 f3 c3
  have r3 := frR_trans r2 (frR_FT f3)
  have g3 : gI S3 11 (P.F 0 2) = nI (v10 sg t (nxt sg t s)) := by rw [f3.1 11 _ (by omega)]; exact g2
  rw [show gI S3 0 25 = nI (P.F 0 0) from p3.2.1 0 (by omega), show nI (P.F 0 0) - (1 : Int32) = nI (P.F 0 0 - 1) from pk_sub hn0]
  rw [numK_some (Nat.zero_le _) va] at e0
  refine m_needsNumber (lo := 0) p3.1 (by omega) (by omega) (fun y => ?_) (fun y y2 => ?_)
  · rw [if_neg (show ¬ (numK sg t 0 (P.F 0 0 - 1) none (nxt sg t (nxt sg t s)) = 0 ∧ _) from fun w => y w.1), if_pos y] at e0
    rw [if_pos rfl]
    exact wrong _ _ S3 _ e0 r3 (n16 _ _) rfl
  have vb := (numK_rng y).2
  rw [if_neg (by decide), show gI S3 0 27 = nI (P.F 0 2) from p3.2.1 2 (by omega)]
  refine ⟨vp_in_nI (by omega) (by omega), fun S4 e4 => ?_⟩
  rw [y2, nI_clamp (by omega)] at e4
  have x4 : frX [12] S3 S4 := by rw [e4]; exact frX_sI (frX_refl _ _) (by simp)
  have r4 : frR S S4 := frR_trans r3 (frR_X x4 (fun x hx => by simp at hx; omega))
  have g27 : gI S4 0 27 = nI (P.F 0 2) := by rw [frX_g x4 0 27 (by simp)]; exact p3.2.1 2 (by omega)
  have g11 : gI S4 11 (P.F 0 2) = nI (v10 sg t (nxt sg t s)) := by rw [frX_g x4 11 _ (by simp)]; exact g3
  have g08 : gI S4 0 8 = nI (v10 sg t (nxt sg t (nxt sg t s))) := by rw [frX_g x4 0 8 (by simp)]; exact y2
  have c4 : CurM sg t (nxt sg t (nxt sg t s)) S4 := CurM_X x4 (by simp) p3.1
  rw [g27, nI_clamp (by omega), g11, g08]
  refine ⟨vp_in_nI (by omega) (by omega), ?_⟩
  refine nI_ifEq (by omega) (by omega) (fun w => ?_) (fun w => ?_)
  · rw [if_pos (show numK sg t 0 (P.F 0 0 - 1) none (nxt sg t (nxt sg t s)) = 0 ∧ _ from ⟨y, w⟩), if_pos (by decide)] at e0
    exact m_fails9 (k := 3) c4 ⟨Or.inl rfl, wrong _ _ S4 _ e0 r4 (n16 3 _) rfl⟩
  · rw [if_neg (show ¬ (numK sg t 0 (P.F 0 0 - 1) none (nxt sg t (nxt sg t s)) = 0 ∧ _) from fun u => w u.2), if_neg (by omega)] at e0
    intro S5 e5
    rw [nI_1] at e5
    have c5 : CurM sg t (nxt sg t (nxt sg t s)) S5 := by rw [e5]; exact CurM_s0 (by omega) c4
    have n5 : NF sg t (addR P (v10 sg t (nxt sg t s)) (v10 sg t (nxt sg t (nxt sg t s)))) S5 := by
      refine NF_R p3.2 (by rw [e5, gI_sI, if_pos ⟨rfl, rfl⟩]) (by rw [e5, gI_sI, if_neg (by omega)]; exact g11) (by rw [e5, gI_sI, if_neg (by omega), e4, gI_sI, if_pos ⟨rfl, rfl⟩]) (fun c j a1 a2 a3 => ?_) (fun w => by rw [e5, gJ_sI, e4, gJ_sI])
      rw [e5, gI_sI, if_neg (by omega), e4, gI_sI, if_neg a3]
    have r5 : frR S S5 := frR_trans r4 (by rw [e5]; exact frR_s0 (by decide) (by omega))
    refine m_next c5 (fun S6 f6 c6 => ?_)
    exact m_lineEnd ⟨c6, NF_FT f6 n5⟩ (frR_trans r5 (frR_FT f6)) e0 hb ho
