/-! ===== pure: the reference reads a step, whole ===== -/
theorem m_swapRow {n a b : Nat} {S : St} {Q : Int32 → St → Prop} (hn : n ≤ 12) (ha : a < n) (hb : b < n) (h25 : gI S 0 25 = nI n) (hQ : ∀ S', frX [33] S S' → (∀ p, p < n → gI S' 33 p = nI (srcP 135 n a b p)) → w_X12_readsStep_188 Q S') : w_X12_readsStep_133 Q (nI a) (nI b) 0 S := by
  unfold w_X12_readsStep_133
  refine up1 (B := b_X12_readsStep_133 Q (nI a) (nI b)) n (by omega) (fun j S' => frX [33] S S' ∧ ∀ p, p < j → gI S' 33 p = nI (srcP 135 n a b p)) ?_ ?_ 0 (by omega) ⟨frX_refl _ _, fun p hp => absurd hp (Nat.not_lt_zero _)⟩
  · rintro kk j S' hj ⟨c1, c2⟩ hkk
    have put : ∀ v, v = nI (srcP 135 n a b j) → w_X12_readsStep_172 kk (nI a) (nI b) (nI j) v (nI j) S' := by
      intro v hv
      unfold w_X12_readsStep_172
      rw [nI_clamp (by omega)]
      refine ⟨vp_in_nI (by omega) (by omega), fun S2 e2 x hx => hkk S2 x hx ⟨by rw [e2]; exact frX_sI c1 (by simp), fun p hp => ?_⟩⟩
      rw [e2, gI_sI]
      by_cases e : p = j
      · rw [if_pos ⟨rfl, e⟩, e, hv]
      · rw [if_neg (fun q => e q.2)]; exact c2 p (by omega)
    unfold b_X12_readsStep_133
    rw [frX_g c1 0 25 (by simp), h25, if_neg (nI_ge hj (by omega))]
    have s5 : srcP 135 n a b j = if j = a then b else if j = b then a else j := rfl
    refine nI_ifEq (by omega) (by omega) (fun q => put _ ?_) (fun q => nI_ifEq (by omega) (by omega) (fun q2 => put _ ?_) (fun q2 => put _ ?_))
    · rw [s5, if_pos q]
    · rw [s5, if_neg q, if_pos q2]
    · rw [s5, if_neg q, if_neg q2]
  · rintro kk S' ⟨c1, c2⟩
    unfold b_X12_readsStep_133
    rw [frX_g c1 0 25 (by simp), h25, if_pos (nI_le (Nat.le_refl _) (by omega))]
    exact hQ S' c1 c2
theorem PM_FT {sg : Nat → Nat} {t s s' : Nat} {P : PS} {S S' : St} (h : PM sg t s P S) (hf : FT S S') (hc : CurM sg t s' S') : PM sg t s' P S' := ⟨hc, NF_FT hf h.2⟩
theorem m_step4 {sg : Nat → Nat} {t s : Nat} {P : PS} {S S1 : St} {Q : Int32 → St → Prop} (hW : PSW P) (p1 : PM sg t (nxt sg t s) P S1) (r1 : frR S S1) (hb : ∀ f S', stepP sg t s P = .bad f → frR S S' → gI S' 0 9 = nI f → Q 0 S') (ho : ∀ s' P' S', stepP sg t s P = .ok s' P' → frR S S' → PM sg t s' P' S' → Q 1 S') (h8 : P.F 0 1 < 8) {m : Nat} (hm : tkey sg t s - 130 = m) (k4' : tkey sg t s = 134) : w_X12_needsNumber 0 11 S1 (fun r S2 => if r = 0 then Q 0 S2 else ∀ x, x = gI S2 0 8 → w_X12_nextToken S2 (fun S3 => w_X12_readsStep_62 Q (nI m) x S3)) := by
  have hn0 := hW.1.1
  have hn := hW.1.2.1
  have kk := tkey_lt sg t s
  have wrong : ∀ (f : Nat) (v : Int32) (S1 S' : St), stepP sg t s P = .bad f → frR S S1 → v = nI f → S' = sI S1 0 9 v → Q 0 S' := by
    intro f v S1 S' e1 e2 e3 e4
    exact hb f S' e1 (frR_trans e2 (by rw [e4]; exact frR_s0 (by decide) (by omega))) (by rw [e4, gI_sI, if_pos ⟨rfl, rfl⟩, e3])
  have e0 : stepP sg t s P = stepP sg t s P := rfl
  conv at e0 => rhs; unfold stepP
  rw [if_neg (by omega), if_neg (by omega)] at e0
  rw [if_neg (by omega), if_pos k4'] at e0
  refine m_needsNumber (lo := 0) (hi := 11) p1.1 (by omega) (by omega) (fun z => ?_) (fun z z2 => ?_)
  · rw [if_pos z] at e0
    rw [if_pos rfl]
    exact wrong _ _ S1 _ e0 r1 (n16 _ _) rfl
  · rw [if_neg (by omega)] at e0
    have v11 : v10 sg t (nxt sg t s) ≤ 11 := by
      have z' := z
      unfold numK at z'
      split at z'
      · split at z'
        · omega
        · split at z' <;> omega
      · omega
    rw [if_neg (by decide)]
    intro x hx
    rw [z2] at hx
    subst hx
    refine m_next p1.1 (fun S2 f2 c2 => ?_)
    have p2 := PM_FT p1 f2 c2
    have r2 := frR_trans r1 (frR_FT f2)
    unfold w_X12_readsStep_62
    rw [show m = 4 by omega, if_neg (by decide)]
    refine m_lays (k := 4) (by omega) hn v11 (p2.2.1 0 (by omega)) (fun S3 f3 g3 => ?_)
    have p3 : PM sg t _ P S3 := ⟨CurM_X f3 (by simp) p2.1, NF_X f3 (fun x hx => by simp at hx; omega) p2.2⟩
    have pm := src_pm (k := 134) (a := 0) hn v11 (by omega) (fun q => by omega)
    refine m_stepEnd (src := srcP 134 (P.F 0 0) 0 (v10 sg t (nxt sg t s))) hW p3 (fun p hp => ⟨pm.1 p hp, g3 p hp⟩) (fun S4 r4 p4 => ho _ _ S4 e0 (frR_trans (frR_trans r2 (frR_X f3 (fun x hx => by simp at hx; omega))) r4) p4)
theorem m_step5 {sg : Nat → Nat} {t s : Nat} {P : PS} {S S1 : St} {Q : Int32 → St → Prop} (hW : PSW P) (p1 : PM sg t (nxt sg t s) P S1) (r1 : frR S S1) (hb : ∀ f S', stepP sg t s P = .bad f → frR S S' → gI S' 0 9 = nI f → Q 0 S') (ho : ∀ s' P' S', stepP sg t s P = .ok s' P' → frR S S' → PM sg t s' P' S' → Q 1 S') (h8 : P.F 0 1 < 8) {m : Nat} (hm : tkey sg t s - 130 = m) (k5' : tkey sg t s = 135) : w_X12_readsStep_62 Q (nI m) 0 S1 := by
  have hn0 := hW.1.1
  have hn := hW.1.2.1
  have kk := tkey_lt sg t s
  have wrong : ∀ (f : Nat) (v : Int32) (S1 S' : St), stepP sg t s P = .bad f → frR S S1 → v = nI f → S' = sI S1 0 9 v → Q 0 S' := by
    intro f v S1 S' e1 e2 e3 e4
    exact hb f S' e1 (frR_trans e2 (by rw [e4]; exact frR_s0 (by decide) (by omega))) (by rw [e4, gI_sI, if_pos ⟨rfl, rfl⟩, e3])
  have e0 : stepP sg t s P = stepP sg t s P := rfl
  conv at e0 => rhs; unfold stepP
  rw [if_neg (by omega), if_neg (by omega)] at e0
  unfold w_X12_readsStep_62
  rw [if_pos (show nI m = 5 by rw [show m = 5 by omega]; rfl)]
  rw [if_pos k5'] at e0
  rw [show gI S1 0 25 = nI (P.F 0 0) from p1.2.1 0 (by omega), show (1 : Int32) = nI 1 from rfl, pk_sub hn0]
  refine m_needsNumber (lo := 0) p1.1 (by omega) (by omega) (fun z => ?_) (fun z z2 => ?_)
  · rw [if_pos z] at e0
    rw [if_pos rfl]
    exact wrong _ _ S1 _ e0 r1 (n16 _ _) rfl
  · rw [if_neg (by omega)] at e0
    have rng : ∀ s', numK sg t 0 (P.F 0 0 - 1) none s' = 0 → v10 sg t s' ≤ P.F 0 0 - 1 := by
      intro s' z'
      unfold numK at z'
      split at z'
      · split at z'
        · omega
        · split at z' <;> omega
      · omega
    have va := rng _ z
    rw [if_neg (by decide)]
    intro x hx
    rw [z2] at hx
    subst hx
    refine m_next p1.1 (fun S2 f2 c2 => ?_)
    have p2 := PM_FT p1 f2 c2
    have r2 := frR_trans r1 (frR_FT f2)
    rw [show gI S2 0 25 = nI (P.F 0 0) from p2.2.1 0 (by omega), pk_sub hn0]
    rw [numK_some (Nat.zero_le _) va] at e0
    refine m_needsNumber (lo := 0) p2.1 (by omega) (by omega) (fun y => ?_) (fun y y2 => ?_)
    · rw [if_neg (show ¬ (numK sg t 0 (P.F 0 0 - 1) none (nxt sg t (nxt sg t s)) = 0 ∧ _) from fun w => y w.1), if_pos y] at e0
      rw [if_pos rfl]
      exact wrong _ _ S2 _ e0 r2 (n16 _ _) rfl
    · have vb := rng _ y
      rw [if_neg (by decide)]
      intro x hx
      rw [y2] at hx
      subst hx
      refine nI_ifEq (by omega) (by omega) (fun w => ?_) (fun w => ?_)
      · rw [if_pos (show numK sg t 0 (P.F 0 0 - 1) none (nxt sg t (nxt sg t s)) = 0 ∧ _ from ⟨y, w⟩), if_pos (by decide)] at e0
        exact m_fails9 (k := 3) p2.1 ⟨Or.inl rfl, wrong _ _ S2 _ e0 r2 (n16 3 _) rfl⟩
      · rw [if_neg (show ¬ (numK sg t 0 (P.F 0 0 - 1) none (nxt sg t (nxt sg t s)) = 0 ∧ _) from fun u => w u.2), if_neg (by omega)] at e0
        refine m_next p2.1 (fun S3 f3 c3 => ?_)
        have p3 := PM_FT p2 f3 c3
        have r3 := frR_trans r2 (frR_FT f3)
        refine m_swapRow hn (by omega) (by omega) (p3.2.1 0 (by omega)) (fun S4 f4 g4 => ?_)
        have p4 : PM sg t _ P S4 := ⟨CurM_X f4 (by simp) p3.1, NF_X f4 (fun x hx => by simp at hx; omega) p3.2⟩
        have pm := src_pm (k := 135) (n := P.F 0 0) (a := v10 sg t (nxt sg t s)) (b := v10 sg t (nxt sg t (nxt sg t s))) hn (by omega) (by omega) (fun q => by omega)
        refine m_stepEnd (src := srcP 135 (P.F 0 0) (v10 sg t (nxt sg t s)) (v10 sg t (nxt sg t (nxt sg t s)))) hW p4 (fun p hp => ⟨pm.1 p hp, g4 p hp⟩) (fun S5 r5 p5 => ho _ _ S5 e0 (frR_trans (frR_trans r3 (frR_X f4 (fun x hx => by simp at hx; omega))) r5) p5)
theorem m_step6 {sg : Nat → Nat} {t s : Nat} {P : PS} {S S1 : St} {Q : Int32 → St → Prop} (hW : PSW P) (p1 : PM sg t (nxt sg t s) P S1) (r1 : frR S S1) (hb : ∀ f S', stepP sg t s P = .bad f → frR S S' → gI S' 0 9 = nI f → Q 0 S') (ho : ∀ s' P' S', stepP sg t s P = .ok s' P' → frR S S' → PM sg t s' P' S' → Q 1 S') (h8 : P.F 0 1 < 8) {m : Nat} (hm : tkey sg t s - 130 = m) (c : 130 ≤ tkey sg t s ∧ tkey sg t s < 134) : w_X12_readsStep_62 Q (nI m) 0 S1 := by
  have hn0 := hW.1.1
  have hn := hW.1.2.1
  have kk := tkey_lt sg t s
  have wrong : ∀ (f : Nat) (v : Int32) (S1 S' : St), stepP sg t s P = .bad f → frR S S1 → v = nI f → S' = sI S1 0 9 v → Q 0 S' := by
    intro f v S1 S' e1 e2 e3 e4
    exact hb f S' e1 (frR_trans e2 (by rw [e4]; exact frR_s0 (by decide) (by omega))) (by rw [e4, gI_sI, if_pos ⟨rfl, rfl⟩, e3])
  have e0 : stepP sg t s P = stepP sg t s P := rfl
  conv at e0 => rhs; unfold stepP
  rw [if_neg (by omega), if_neg (by omega)] at e0
  unfold w_X12_readsStep_62
  rw [if_neg (show ¬ nI m = 5 from fun q => by have := nI_inj (b := 5) (by omega) (by omega) q; omega)]
  rw [if_neg (by omega), if_neg (by omega)] at e0
  refine m_lays (b := 0) (by omega) hn (by omega) (p1.2.1 0 (by omega)) (fun S3 f3 g3 => ?_)
  have p3 : PM sg t _ P S3 := ⟨CurM_X f3 (by simp) p1.1, NF_X f3 (fun x hx => by simp at hx; omega) p1.2⟩
  have pm := src_pm (k := tkey sg t s) (n := P.F 0 0) (a := 0) (b := 0) hn (by omega) (by omega) (fun q => by omega)
  rw [show 130 + m = tkey sg t s by omega] at g3
  refine m_stepEnd (src := srcP (tkey sg t s) (P.F 0 0) 0 0) hW p3 (fun p hp => ⟨pm.1 p hp, g3 p hp⟩) (fun S4 r4 p4 => ho _ _ S4 e0 (frR_trans (frR_trans r1 (frR_X f3 (fun x hx => by simp at hx; omega))) r4) p4)
theorem m_step8 {sg : Nat → Nat} {t s : Nat} {P : PS} {S S1 : St} {Q : Int32 → St → Prop} (hW : PSW P) (p1 : PM sg t (nxt sg t s) P S1) (r1 : frR S S1) (hb : ∀ f S', stepP sg t s P = .bad f → frR S S' → gI S' 0 9 = nI f → Q 0 S') (ho : ∀ s' P' S', stepP sg t s P = .ok s' P' → frR S S' → PM sg t s' P' S' → Q 1 S') (h8 : P.F 0 1 < 8) {m : Nat} (hm : tkey sg t s - 130 = m) (c : 130 ≤ tkey sg t s ∧ tkey sg t s ≤ 135) : if nI m = (4 : Int32) then (w_X12_needsNumber 0 11 S1 (fun r S2 => if r = 0 then Q 0 S2 else ∀ x, x = gI S2 0 8 → w_X12_nextToken S2 (fun S3 => w_X12_readsStep_62 Q (nI m) x S3))) else w_X12_readsStep_62 Q (nI m) 0 S1 := by
  by_cases k4' : tkey sg t s = 134
  · rw [if_pos (show nI m = 4 by rw [show m = 4 by omega]; rfl)]
    exact m_step4 hW p1 r1 hb ho h8 hm k4'
  · rw [if_neg (show ¬ nI m = 4 from fun q => by have := nI_inj (b := 4) (by omega) (by omega) q; omega)]
    by_cases k5' : tkey sg t s = 135
    · exact m_step5 hW p1 r1 hb ho h8 hm k5'
    · exact m_step6 hW p1 r1 hb ho h8 hm (by omega)
theorem m_readsStep {sg : Nat → Nat} {t s : Nat} {P : PS} {S : St} {Q : Int32 → St → Prop} (hW : PSW P) (h : PM sg t s P S) (hb : ∀ f S', stepP sg t s P = .bad f → frR S S' → gI S' 0 9 = nI f → Q 0 S') (ho : ∀ s' P' S', stepP sg t s P = .ok s' P' → frR S S' → PM sg t s' P' S' → Q 1 S') : w_X12_readsStep S Q := by
  have hn0 := hW.1.1
  have hn := hW.1.2.1
  have h18 := hW.1.2.2.1
  have kk := tkey_lt sg t s
  have wrong : ∀ (f : Nat) (v : Int32) (S1 S' : St), stepP sg t s P = .bad f → frR S S1 → v = nI f → S' = sI S1 0 9 v → Q 0 S' := by
    intro f v S1 S' e1 e2 e3 e4
    exact hb f S' e1 (frR_trans e2 (by rw [e4]; exact frR_s0 (by decide) (by omega))) (by rw [e4, gI_sI, if_pos ⟨rfl, rfl⟩, e3])
  have e0 : stepP sg t s P = stepP sg t s P := rfl
  conv at e0 => rhs; unfold stepP
  unfold w_X12_readsStep
  refine m_stepKind h.1 ?_
  by_cases c : 130 ≤ tkey sg t s ∧ tkey sg t s ≤ 135
  · rw [if_neg (by omega)] at e0
    rw [if_pos c]
    generalize hm : tkey sg t s - 130 = m
    rw [if_pos (nI_pos' (by omega)), show gI S 0 26 = nI (P.F 0 1) from h.2.1 1 (by omega)]
    refine nI_ifEq (y := 8) (by omega) (by omega) (fun q => ?_) (fun q => ?_)
    · rw [if_pos (by omega)] at e0
      exact m_fails9 (k := 5) h.1 ⟨Or.inl rfl, wrong (5 + 16 * s) _ S _ e0 (frR_refl S) (n16 5 s) rfl⟩
    rw [if_neg (by omega)] at e0
    exact m_next h.1 (fun S1 f1 c1 => m_step8 hW (PM_FT h f1 c1) (frR_FT f1) hb ho (by omega) hm c)
  · rw [if_pos (by omega)] at e0
    rw [if_neg c, if_neg (by decide)]
    exact m_fails9 (k := 1) h.1 ⟨Or.inl rfl, wrong (1 + 16 * s) _ S _ e0 (frR_refl S) (n16 1 s) rfl⟩
