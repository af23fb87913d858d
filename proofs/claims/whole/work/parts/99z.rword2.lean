/-! ===== pure: the class reads a word, whole ===== -/
theorem e_readWord {sg : Nat → Nat} {t n s : Nat} {P : PS} {S : St} {Q : Int32 → St → Prop} (hW : PSW P) (h : PE sg t n s P S) (hb : ∀ f S', wordP sg t s P = .bad f → frX prl S S' → gI S' 7 8 = nI f → Q 0 S') (ho : ∀ s' P' S', wordP sg t s P = .ok s' P' → PSW P' → s' ≤ t → frX prl S S' → PE sg t n s' P' S' → Q 1 S') : w_X8_readWord S Q := by
  have hs := h.1.2.1
  have h12 := hW.1.2.2.2.2.2.2.1
  have e0 : wordP sg t s P = wordP sg t s P := rfl
  conv at e0 => rhs; unfold wordP
  have wrong : ∀ (f : Nat) (v : Int32) (S1 S' : St), wordP sg t s P = .bad f → frX prl S S1 → v = nI f → S' = sI S1 7 8 v → Q 0 S' := by
    intro f v S1 S' e1 e2 e3 e4
    refine hb f S' e1 (by rw [e4]; exact frX_sI e2 (by simp)) (by rw [e4, gI_sI, if_pos ⟨rfl, rfl⟩, e3])
  unfold w_X8_readWord
  rw [h.2.1.1 5 (by omega)]
  refine nI_ifLt (y := 12) (by omega) (by omega) (fun q => ?_) (fun q => ?_)
  · rw [if_neg (by omega)] at e0
    refine e_next h.1 (fun S1 f1 c1 => ?_)
    have p1 := PE_FH h f1 c1
    have r1 : frX prl S S1 := frX_sub f1.1 (by simp)
    refine e_takeName q p1 (fun z => ?_) (fun z z2 => ?_) (fun z z2 S2 r2 p2 g20 k1 => ?_)
    · rw [if_pos (show ¬ (tkey sg t (nxs sg t 1 s) = 3 ∨ 147 ≤ tkey sg t (nxs sg t 1 s)) from z)] at e0
      rw [if_pos rfl]
      exact wrong _ _ S1 _ e0 r1 rfl rfl
    · rw [if_neg (show ¬ ¬ (tkey sg t (nxs sg t 1 s) = 3 ∨ 147 ≤ tkey sg t (nxs sg t 1 s)) from fun w => w z), if_pos (show dupN sg t P.nm (v32 sg t (nxs sg t 1 s)) (P.F 0 5) = true from z2)] at e0
      rw [if_pos rfl]
      exact wrong _ _ S1 _ e0 r1 rfl rfl
    rw [if_neg (show ¬ ¬ (tkey sg t (nxs sg t 1 s) = 3 ∨ 147 ≤ tkey sg t (nxs sg t 1 s)) from fun w => w z), if_neg (show ¬ dupN sg t P.nm (v32 sg t (nxs sg t 1 s)) (P.F 0 5) = true from z2)] at e0
    rw [if_neg (by decide)]
    have p2 : PE sg t n (nxs sg t 2 s) P S2 := p2
    have R2 := frX_trans r1 r2
    refine e_takeKey (k := 136) p2.1 (by omega) (fun y => ?_) (fun y S3 f3 c3 => ?_)
    · rw [if_pos y] at e0
      rw [if_pos rfl]
      exact wrong _ _ S2 _ e0 R2 (n16 1 _) rfl
    rw [if_neg (fun w => w y)] at e0
    rw [if_neg (by decide)]
    have p3 : PE sg t n (nxs sg t 3 s) P S3 := PE_FH p2 f3 c3
    have R3 : frX prl S S3 := frX_trans R2 (frX_sub f3.1 (by simp))
    have g3 : gJ S3 20 (P.F 0 5) = _ := (frX_gJ f3.1 20 _ (by simp)).trans g20
    refine e_takeNumber (lo := 0) (hi := 99) (ro := none) p3.1 (by omega) (by omega) (fun r q => by cases q) (fun w => ?_) (fun w w2 w3 w4 S4 f4 c4 => ?_)
    · rw [if_pos w] at e0
      rw [if_pos rfl]
      exact wrong _ _ S3 _ e0 R3 (n16 _ _) rfl
    rw [if_neg (fun u => u w)] at e0
    rw [if_neg (by decide)]
    obtain ⟨p4, g77, r4⟩ := PE_7 p3 f4 c4
    have p4 : PE sg t n (nxs sg t 4 s) P S4 := p4
    have R4 := frX_trans R3 r4
    have g4 : gJ S4 20 (P.F 0 5) = _ := (frX_gJ f4.1 20 _ (by simp)).trans ((gJ_sI _ _ _ _ _ _).trans g3)
    intro x hx
    rw [g77] at hx
    subst hx
    refine e_takeKey (k := 141) p4.1 (by omega) (fun y => ?_) (fun y S5 f5 c5 => ?_)
    · rw [if_pos y] at e0
      rw [if_pos rfl]
      exact wrong _ _ S4 _ e0 R4 (n16 1 _) rfl
    rw [if_neg (fun w => w y)] at e0
    rw [if_neg (by decide)]
    have p5 : PE sg t n (nxs sg t 5 s) P S5 := PE_FH p4 f5 c5
    have R5 : frX prl S S5 := frX_trans R4 (frX_sub f5.1 (by simp))
    have g5 : gJ S5 20 (P.F 0 5) = _ := (frX_gJ f5.1 20 _ (by simp)).trans g4
    refine e_takeNumber (lo := 1) (hi := 9) (ro := none) p5.1 (by omega) (by omega) (fun r q => by cases q) (fun u => ?_) (fun u u2 u3 u4 S6 f6 c6 => ?_)
    · rw [if_pos u] at e0
      rw [if_pos rfl]
      exact wrong _ _ S5 _ e0 R5 (n16 _ _) rfl
    rw [if_neg (fun v => v u)] at e0
    rw [if_neg (by decide)]
    obtain ⟨p6, g67, r6⟩ := PE_7 p5 f6 c6
    have p6 : PE sg t n (nxs sg t 6 s) P S6 := p6
    have R6 := frX_trans R5 r6
    have g6 : gJ S6 20 (P.F 0 5) = _ := (frX_gJ f6.1 20 _ (by simp)).trans ((gJ_sI _ _ _ _ _ _).trans g5)
    intro x hx
    rw [g67] at hx
    subst hx
    refine e_takeKey (k := 142) p6.1 (by omega) (fun y => ?_) (fun y S7 f7 c7 => ?_)
    · rw [if_pos y] at e0
      rw [if_pos rfl]
      exact wrong _ _ S6 _ e0 R6 (n16 1 _) rfl
    rw [if_neg (fun w => w y)] at e0
    rw [if_neg (by decide)]
    have p7 : PE sg t n (nxs sg t 7 s) P S7 := PE_FH p6 f7 c7
    have R7 : frX prl S S7 := frX_trans R6 (frX_sub f7.1 (by simp))
    have g7 : gJ S7 20 (P.F 0 5) = _ := (frX_gJ f7.1 20 _ (by simp)).trans g6
    refine e_takeNumber (lo := 0) (hi := 99) (ro := none) p7.1 (by omega) (by omega) (fun r q => by cases q) (fun a => ?_) (fun a a2 a3 a4 S8 f8 c8 => ?_)
    · rw [if_pos a] at e0
      rw [if_pos rfl]
      exact wrong _ _ S7 _ e0 R7 (n16 _ _) rfl
    rw [if_neg (fun v => v a)] at e0
    rw [if_neg (by decide)]
    obtain ⟨p8, g87, r8⟩ := PE_7 p7 f8 c8
    have p8 : PE sg t n (nxs sg t 8 s) P S8 := p8
    have g8 : gJ S8 20 (P.F 0 5) = _ := (frX_gJ f8.1 20 _ (by simp)).trans ((gJ_sI _ _ _ _ _ _).trans g7)
    rw [g87]
    exact e_addWord q p8 k1 g8 (fun S9 f9 p9 => ho _ _ S9 e0 (addWd_W hW q w4 u4 a4) (nxs_le hs 8) (frX_trans (frX_trans R7 r8) f9) p9)
  · rw [if_pos q] at e0
    exact e_wrong h.1 ⟨Or.inl rfl, wrong (5 + 16 * s) _ S _ e0 (frX_refl _ _) (n16 5 s) rfl⟩
