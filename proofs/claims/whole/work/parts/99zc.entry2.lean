/-! ===== pure: the reference reads a word, whole ===== -/
theorem dupN_at {sg : Nat → Nat} {t v j : Nat} {nm : Nat → Nat} (e : v32 sg t (nm j) = v) : ∀ m, dupN sg t nm v (j + 1 + m) = true := by
  intro m
  induction m with
  | zero => show (dupN sg t nm v j || (v32 sg t (nm j) == v)) = true; rw [e]; simp
  | succ m ih => show (dupN sg t nm v (j + 1 + m) || _) = true; rw [ih]; simp
theorem m_readsEntry {sg : Nat → Nat} {t s : Nat} {P : PS} {S : St} {Q : Int32 → St → Prop} (hW : PSW P) (h : PM sg t s P S) (hb : ∀ f S', endP sg t (wordP sg t s P) = .bad f → frR S S' → gI S' 0 9 = nI f → Q 0 S') (ho : ∀ s' P' S', endP sg t (wordP sg t s P) = .ok s' P' → frR S S' → PM sg t s' P' S' → Q 1 S') : w_X12_readsEntry S Q := by
  have h12 := hW.1.2.2.2.2.2.2.1
  have e0 : wordP sg t s P = wordP sg t s P := rfl
  conv at e0 => rhs; unfold wordP
  have wrong : ∀ (f : Nat) (v : Int32) (S1 S' : St), wordP sg t s P = .bad f → frR S S1 → v = nI f → S' = sI S1 0 9 v → Q 0 S' := by
    intro f v S1 S' e1 e2 e3 e4
    exact hb f S' (by rw [e1]; rfl) (frR_trans e2 (by rw [e4]; exact frR_s0 (by decide) (by omega))) (by rw [e4, gI_sI, if_pos ⟨rfl, rfl⟩, e3])
  unfold w_X12_readsEntry
  rw [show gI S 0 30 = nI (P.F 0 5) from h.2.1 5 (by omega)]
  refine nI_ifEq (y := 12) (by omega) (by omega) (fun q => ?_) (fun q => ?_)
  · rw [if_pos (by omega)] at e0
    exact m_fails9 (k := 5) h.1 ⟨Or.inl rfl, wrong (5 + 16 * s) _ S _ e0 (frR_refl S) (n16 5 s) rfl⟩
  have q : P.F 0 5 < 12 := by omega
  rw [if_neg (by omega)] at e0
  refine m_next h.1 (fun S1 f1 c1 => ?_)
  have p1 : PM sg t (nxs sg t 1 s) P S1 := PM_FT h f1 c1
  have r1 := frR_FT f1
  refine m_isKept p1.1 (fun z => ?_) (fun z => ?_)
  · rw [if_pos z] at e0
    rw [if_neg (by decide)]
    exact m_fails9 (k := 1) p1.1 ⟨Or.inl rfl, wrong _ _ S1 _ e0 r1 (n16 1 _) rfl⟩
  rw [if_neg (show ¬ ¬ (tkey sg t (nxs sg t 1 s) = 3 ∨ 147 ≤ tkey sg t (nxs sg t 1 s)) from fun w => w z)] at e0
  rw [if_pos rfl]
  have k1 := name_kind z
  have g7 := p1.1.2.2.2.2.2.1 k1
  have lv := (v_27_32 k1).2.2.1
  unfold w_X12_readsEntry_34
  refine up1 (B := b_X12_readsEntry_34 Q) (P.F 0 5) (by omega) (fun j S' => S' = S1 ∧ dupN sg t P.nm (v32 sg t (nxs sg t 1 s)) j = false) ?_ ?_ 0 (by omega) ⟨rfl, rfl⟩
  · rintro k j S' hj ⟨rfl, b2⟩ hk
    unfold b_X12_readsEntry_34
    have hw := p1.2.2.2.2 j hj
    rw [show gI S' 0 30 = nI (P.F 0 5) from p1.2.1 5 (by omega), if_neg (nI_ge hj (by omega)), nI_clamp (by omega), hw.2.2.2.2, g7]
    refine ⟨vp_in_nI (by omega) (by omega), ?_⟩
    have lj := (v_27_32 hw.2.2.2.1).2.2.1
    by_cases e : v27 sg t (P.nm j) = v27 sg t (nxs sg t 1 s)
    · rw [if_pos (by rw [e])]
      have := dupN_at (nm := P.nm) (j := j) ((v27_eq hw.2.2.2.1 k1).mp e) (P.F 0 5 - (j + 1))
      rw [show j + 1 + (P.F 0 5 - (j + 1)) = P.F 0 5 by omega] at this
      rw [if_pos this] at e0
      exact m_fails9 (k := 3) p1.1 ⟨Or.inl rfl, wrong _ _ S' _ e0 r1 (n16 3 _) rfl⟩
    · rw [if_neg (fun y => e ((pk_lEQ (by omega) (by omega)).mp y))]
      intro x hx
      refine hk _ _ hx ⟨rfl, ?_⟩
      show (dupN sg t P.nm (v32 sg t (nxs sg t 1 s)) j || (v32 sg t (P.nm j) == v32 sg t (nxs sg t 1 s))) = false
      rw [b2]
      have : v32 sg t (P.nm j) ≠ v32 sg t (nxs sg t 1 s) := fun y => e ((v27_eq hw.2.2.2.1 k1).mpr y)
      simpa using this
  · rintro k S' ⟨rfl, b2⟩
    rw [if_neg (show ¬ dupN sg t P.nm (v32 sg t (nxs sg t 1 s)) (P.F 0 5) = true by rw [b2]; decide)] at e0
    unfold b_X12_readsEntry_34
    have F5 : ∀ {s' : Nat} {T : St}, PM sg t s' P T → gI T 0 30 = nI (P.F 0 5) := fun p => p.2.1 5 (by omega)
    rw [F5 p1, if_pos (nI_le (Nat.le_refl _) (by omega)), nI_clamp (by omega), g7]
    refine ⟨vp_in_nI q (by omega), fun S2 e2 => ?_⟩
    have p2 : PM sg t (nxs sg t 1 s) P S2 := by rw [e2]; exact PM_name p1
    have r2 : frR S S2 := frR_trans r1 (by rw [e2]; exact frR_name)
    have g2 : gJ S2 14 (P.F 0 5) = lN (v27 sg t (nxs sg t 1 s)) := by rw [e2, gJ_sJ, if_pos ⟨rfl, rfl⟩]
    refine m_next p2.1 (fun S3 f3 c3 => ?_)
    have p3 : PM sg t (nxs sg t 2 s) P S3 := PM_FT p2 f3 c3
    have r3 := frR_trans r2 (frR_FT f3)
    have g3 := (f3.2 14 (P.F 0 5) (by omega)).trans g2
    refine m_needsWord (i := 8) p3.1 (by omega) (by rfl) (fun y => ?_) (fun y S4 f4 c4 => ?_)
    · rw [if_pos y] at e0
      rw [if_pos rfl]
      exact wrong _ _ S3 _ e0 r3 (n16 1 _) rfl
    rw [if_neg (fun w => w y)] at e0
    rw [if_neg (by decide)]
    have p4 : PM sg t (nxs sg t 3 s) P S4 := PM_FT p3 f4 c4
    have r4 := frR_trans r3 (frR_FT f4)
    have g4 := (f4.2 14 (P.F 0 5) (by omega)).trans g3
    refine m_needsNumber (lo := 0) (hi := 99) p4.1 (by omega) (by omega) (fun w => ?_) (fun w w2 => ?_)
    · rw [if_pos w] at e0
      rw [if_pos rfl]
      exact wrong _ _ S4 _ e0 r4 (n16 _ _) rfl
    rw [if_neg (fun u => u w)] at e0
    rw [if_neg (by decide), F5 p4, nI_clamp (by omega), w2]
    refine ⟨vp_in_nI q (by omega), fun S5 e5 => ?_⟩
    have p5 : PM sg t (nxs sg t 3 s) P S5 := by rw [e5]; exact PM_row p4 (by omega)
    have r5 : frR S S5 := frR_trans r4 (by rw [e5]; exact frR_row (by omega))
    have g5 : gJ S5 14 (P.F 0 5) = lN (v27 sg t (nxs sg t 1 s)) := by rw [e5, gJ_sI]; exact g4
    have a5 : gI S5 15 (P.F 0 5) = nI (v10 sg t (nxs sg t 3 s)) := by rw [e5, gI_sI, if_pos ⟨rfl, rfl⟩]
    refine m_next p5.1 (fun S6 f6 c6 => ?_)
    have p6 : PM sg t (nxs sg t 4 s) P S6 := PM_FT p5 f6 c6
    have r6 := frR_trans r5 (frR_FT f6)
    have g6 := (f6.2 14 (P.F 0 5) (by omega)).trans g5
    have a6 := (f6.1 15 (P.F 0 5) (by omega)).trans a5
    refine m_needsWord (i := 13) p6.1 (by omega) (by rfl) (fun y => ?_) (fun y S7 f7 c7 => ?_)
    · rw [if_pos y] at e0
      rw [if_pos rfl]
      exact wrong _ _ S6 _ e0 r6 (n16 1 _) rfl
    rw [if_neg (fun w => w y)] at e0
    rw [if_neg (by decide)]
    have p7 : PM sg t (nxs sg t 5 s) P S7 := PM_FT p6 f7 c7
    have r7 := frR_trans r6 (frR_FT f7)
    have g7' := (f7.2 14 (P.F 0 5) (by omega)).trans g6
    have a7 := (f7.1 15 (P.F 0 5) (by omega)).trans a6
    refine m_needsNumber (lo := 1) (hi := 9) p7.1 (by omega) (by omega) (fun u => ?_) (fun u u2 => ?_)
    · rw [if_pos u] at e0
      rw [if_pos rfl]
      exact wrong _ _ S7 _ e0 r7 (n16 _ _) rfl
    rw [if_neg (fun v => v u)] at e0
    rw [if_neg (by decide), F5 p7, nI_clamp (by omega), u2]
    refine ⟨vp_in_nI q (by omega), fun S8 e8 => ?_⟩
    have p8 : PM sg t (nxs sg t 5 s) P S8 := by rw [e8]; exact PM_row p7 (by omega)
    have r8 : frR S S8 := frR_trans r7 (by rw [e8]; exact frR_row (by omega))
    have g8 : gJ S8 14 (P.F 0 5) = lN (v27 sg t (nxs sg t 1 s)) := by rw [e8, gJ_sI]; exact g7'
    have a8 : gI S8 15 (P.F 0 5) = nI (v10 sg t (nxs sg t 3 s)) := by rw [e8, gI_sI, if_neg (by omega)]; exact a7
    have b8 : gI S8 16 (P.F 0 5) = nI (v10 sg t (nxs sg t 5 s)) := by rw [e8, gI_sI, if_pos ⟨rfl, rfl⟩]
    refine m_next p8.1 (fun S9 f9 c9 => ?_)
    have p9 : PM sg t (nxs sg t 6 s) P S9 := PM_FT p8 f9 c9
    have r9 := frR_trans r8 (frR_FT f9)
    have g9 := (f9.2 14 (P.F 0 5) (by omega)).trans g8
    have a9 := (f9.1 15 (P.F 0 5) (by omega)).trans a8
    have b9 := (f9.1 16 (P.F 0 5) (by omega)).trans b8
    refine m_needsWord (i := 14) p9.1 (by omega) (by rfl) (fun y => ?_) (fun y T1 h1 d1 => ?_)
    · rw [if_pos y] at e0
      rw [if_pos rfl]
      exact wrong _ _ S9 _ e0 r9 (n16 1 _) rfl
    rw [if_neg (fun w => w y)] at e0
    rw [if_neg (by decide)]
    have P1 : PM sg t (nxs sg t 7 s) P T1 := PM_FT p9 h1 d1
    have R1 := frR_trans r9 (frR_FT h1)
    have G1 := (h1.2 14 (P.F 0 5) (by omega)).trans g9
    have A1 := (h1.1 15 (P.F 0 5) (by omega)).trans a9
    have B1 := (h1.1 16 (P.F 0 5) (by omega)).trans b9
    refine m_needsNumber (lo := 0) (hi := 99) P1.1 (by omega) (by omega) (fun a => ?_) (fun a a2 => ?_)
    · rw [if_pos a] at e0
      rw [if_pos rfl]
      exact wrong _ _ T1 _ e0 R1 (n16 _ _) rfl
    rw [if_neg (fun v => v a)] at e0
    rw [if_neg (by decide), F5 P1, nI_clamp (by omega), a2]
    refine ⟨vp_in_nI q (by omega), fun T2 e2' => ?_⟩
    have P2 : PM sg t (nxs sg t 7 s) P T2 := by rw [e2']; exact PM_row P1 (by omega)
    have R2 : frR S T2 := frR_trans R1 (by rw [e2']; exact frR_row (by omega))
    intro T3 e3'
    rw [F5 P2, nI_1] at e3'
    have n3 := NF_Wd (r := v10 sg t (nxs sg t 3 s)) (b := v10 sg t (nxs sg t 5 s)) (k := v10 sg t (nxs sg t 7 s)) P2.2 k1 (by rw [e2', gJ_sI]; exact G1) (by rw [e2', gI_sI, if_neg (by omega)]; exact A1) (by rw [e2', gI_sI, if_neg (by omega)]; exact B1) (by rw [e2', gI_sI, if_pos ⟨rfl, rfl⟩]) e3'
    have R3 : frR S T3 := frR_trans R2 (by rw [e3']; exact frR_s0 (by decide) (by omega))
    have C3 : CurM sg t (nxs sg t 7 s) T3 := by rw [e3']; exact CurM_s0 (by omega) P2.1
    refine m_next C3 (fun T4 f4' c4' => ?_)
    exact m_lineEnd (s := nxs sg t 8 s) ⟨c4', NF_FT f4' n3⟩ (frR_trans R3 (frR_FT f4')) e0 hb ho
