/-! ===== pure: the line of feet ===== -/
def setFt (P : PS) (v : Nat) : PS := (fun a b => if a = 0 ∧ b = 4 then v else P.F a b, P.2)
theorem setFt_0 (P : PS) (v : Nat) {j : Nat} (h : j ≠ 4) : (setFt P v).F 0 j = P.F 0 j := by
  show (if 0 = 0 ∧ j = 4 then v else P.F 0 j) = _
  rw [if_neg (fun q => h q.2)]
theorem setFt_4 (P : PS) (v : Nat) : (setFt P v).F 0 4 = v := by
  show (if 0 = 0 ∧ 4 = 4 then v else P.F 0 4) = _
  rw [if_pos ⟨rfl, rfl⟩]
theorem setFt_k (P : PS) (v : Nat) {k : Nat} (h : 1 ≤ k) : (setFt P v).F k = P.F k := by
  funext j
  show (if k = 0 ∧ j = 4 then v else P.F k j) = _
  rw [if_neg (by omega)]
theorem setFt_W {P : PS} {v : Nat} (hW : PSW P) (h : v ≤ 99) : PSW (setFt P v) := by
  obtain ⟨⟨a1, a2, a3, a4, a5, a6, a7, a8⟩, b, c, d, e⟩ := hW
  have z0 := setFt_0 P v (j := 0) (by omega)
  have z1 := setFt_0 P v (j := 1) (by omega)
  have z2 := setFt_0 P v (j := 2) (by omega)
  have z3 := setFt_0 P v (j := 3) (by omega)
  have z5 := setFt_0 P v (j := 5) (by omega)
  have z6 := setFt_0 P v (j := 6) (by omega)
  have y4 := setFt_4 P v
  have k1 := setFt_k P v (k := 1) (by omega)
  have k2 := setFt_k P v (k := 2) (by omega)
  have k3 := setFt_k P v (k := 3) (by omega)
  have k4 := setFt_k P v (k := 4) (by omega)
  have k5 := setFt_k P v (k := 5) (by omega)
  have k6 := setFt_k P v (k := 6) (by omega)
  have pw : PW (setFt P v).F (setFt P v).pa (setFt P v).pb := by
    unfold PW
    rw [z0, z2, k2]
    exact e
  unfold PSW
  rw [z0, z1, z2, z3, z5, z6, y4, k1, k2, k3, k4, k5, k6]
  exact ⟨⟨a1, a2, a3, a4, a5, h, a7, a8⟩, b, c, d, pw⟩
def feetP (sg : Nat → Nat) (t s : Nat) (P : PS) : PO :=
  if 0 < P.F 0 4 then .bad (3 + 16 * s)
  else if numK sg t 1 99 none (nxt sg t s) ≠ 0 then .bad (numK sg t 1 99 none (nxt sg t s) + 16 * nxt sg t s)
  else .ok (nxt sg t (nxt sg t s)) (setFt P (v10 sg t (nxt sg t s)))
theorem e_readFeet {sg : Nat → Nat} {t n s : Nat} {P : PS} {S : St} {Q : Int32 → St → Prop} (hW : PSW P) (h : PE sg t n s P S) (hb : ∀ f S', feetP sg t s P = .bad f → frX prl S S' → gI S' 7 8 = nI f → Q 0 S') (ho : ∀ s' P' S', feetP sg t s P = .ok s' P' → PSW P' → s' ≤ t → frX prl S S' → PE sg t n s' P' S' → Q 1 S') : w_X8_readFeet S Q := by
  have hs := h.1.2.1
  have h99 := hW.1.2.2.2.2.2.1
  have e0 : feetP sg t s P = feetP sg t s P := rfl
  conv at e0 => rhs; unfold feetP
  have wrong : ∀ (f : Nat) (v : Int32) (S1 S' : St), feetP sg t s P = .bad f → frX prl S S1 → v = nI f → S' = sI S1 7 8 v → Q 0 S' := by
    intro f v S1 S' e1 e2 e3 e4
    refine hb f S' e1 (by rw [e4]; exact frX_sI e2 (by simp)) (by rw [e4, gI_sI, if_pos ⟨rfl, rfl⟩, e3])
  unfold w_X8_readFeet
  rw [h.2.1.1 4 (by omega)]
  refine nI_if (y := 0) (by omega) (by omega) (fun q => ?_) (fun q => ?_)
  · rw [if_neg (by omega)] at e0
    refine e_next h.1 (fun S1 f1 c1 => ?_)
    have p1 := PE_FH h f1 c1
    have r1 : frX prl S S1 := frX_sub f1.1 (by simp)
    refine e_takeNumber (lo := 1) (hi := 99) (ro := none) c1 (by omega) (by omega) (fun r q => by cases q) (fun z => ?_) (fun z z2 z3 z4 S2 f2 c2 => ?_)
    · rw [if_pos z] at e0
      rw [if_pos rfl]
      exact wrong _ _ S1 _ e0 r1 (n16 _ _) rfl
    · rw [if_neg (by omega)] at e0
      rw [if_neg (by decide)]
      obtain ⟨p2, g77, r2⟩ := PE_7 p1 f2 c2
      intro S3 e3
      rw [g77] at e3
      have f3 : frX [11] S2 S3 := by rw [e3]; exact frX_sI (frX_refl _ _) (by simp)
      obtain ⟨hc, hT, hN, h78⟩ := p2
      refine ho _ _ S3 e0 (setFt_W hW z4) (nxt_le (nxt_le hs)) (frX_trans (frX_trans r1 r2) (frX_sub f3 (by simp))) ⟨CurE_fr hc f3 (by simp), ⟨fun j hj => ?_, fun k j a1 a2 a3 => ?_, fun k j a1 a2 a3 => ?_, fun p a1 a2 => ?_⟩, ?_, by rw [frX_g f3 7 8 (by simp)]; exact h78⟩
      · by_cases e : j = 4
        · rw [e, setFt_4, e3, gI_sI, if_pos ⟨rfl, rfl⟩]
        · rw [setFt_0 _ _ e, e3, gI_sI, if_neg (fun q => e q.2)]; exact hT.1 j hj
      · rw [setFt_0 _ _ (by omega)] at a3
        rw [setFt_k _ _ a1, frX_g f3 (11 + k) j (by simp; omega)]; exact hT.2.1 k j a1 a2 a3
      · rw [setFt_0 _ _ (by omega)] at a3
        rw [setFt_k _ _ (by omega), frX_g f3 (11 + k) j (by simp; omega)]; exact hT.2.2.1 k j a1 a2 a3
      · rw [setFt_0 _ _ (by omega)] at a1
        rw [frX_g f3 14 p (by simp)]; exact hT.2.2.2 p a1 a2
      · intro w hw
        rw [setFt_0 _ _ (by omega)] at hw
        have := hN w hw
        exact ⟨this.1, by rw [frX_gJ f3 20 w (by simp)]; exact this.2⟩
  · rw [if_pos q] at e0
    exact e_wrong h.1 ⟨Or.inl rfl, wrong (3 + 16 * s) _ S _ e0 (frX_refl _ _) (n16 3 s) rfl⟩
theorem NF_Ft {sg : Nat → Nat} {t v : Nat} {P : PS} {S : St} (h : NF sg t P S) : NF sg t (setFt P v) (sI S 0 29 (nI v)) := by
  obtain ⟨h1, h2, h3, h4⟩ := h
  refine ⟨fun j hj => ?_, fun p hp => ?_, fun k hk => ?_, fun w hw => ?_⟩
  · by_cases e : j = 4
    · rw [e, setFt_4, gI_sI, if_pos ⟨rfl, rfl⟩]
    · rw [setFt_0 _ _ e, gI_sI, if_neg (by omega)]; exact h1 j hj
  · rw [setFt_0 _ _ (by omega)] at hp
    rw [setFt_k _ _ (by omega), setFt_k _ _ (by omega), gI_sI, if_neg (by omega), gI_sI, if_neg (by omega)]; exact h2 p hp
  · rw [setFt_0 _ _ (by omega)] at hk
    rw [gI_sI, if_neg (by omega), gI_sI, if_neg (by omega)]; exact h3 k hk
  · rw [setFt_0 _ _ (by omega)] at hw
    rw [setFt_k _ _ (by omega), setFt_k _ _ (by omega), setFt_k _ _ (by omega), gI_sI, if_neg (by omega), gI_sI, if_neg (by omega), gI_sI, if_neg (by omega), gJ_sI]; exact h4 w hw
/-- the end of a line, for the reference -/
theorem m_lineEnd {sg : Nat → Nat} {t s : Nat} {P : PS} {o : PO} {S0 S : St} {Q : Int32 → St → Prop} (h : PM sg t s P S) (r : frR S0 S) (ho : o = .ok s P) (hb : ∀ f S', endP sg t o = .bad f → frR S0 S' → gI S' 0 9 = nI f → Q 0 S') (hq : ∀ s' P' S', endP sg t o = .ok s' P' → frR S0 S' → PM sg t s' P' S' → Q 1 S') : w_X12_ends S (fun x S' => (x = 0 ∨ x = 1) ∧ Q x S') := by
  subst ho
  refine m_ends h.1 (fun z => ⟨Or.inl rfl, ?_⟩) (fun z S4 f4 c4 => ⟨Or.inr rfl, ?_⟩)
  · refine hb (1 + 16 * s) _ ?_ (frR_trans r (frR_s0 (by decide) (by omega))) (by rw [gI_sI, if_pos ⟨rfl, rfl⟩]; exact n16 1 s)
    show (if tkey sg t s = 59 then _ else _) = _
    rw [if_neg z]
  · refine hq (nxt sg t s) P S4 ?_ (frR_trans r (frR_FT f4)) (PM_FT h f4 c4)
    show (if tkey sg t s = 59 then _ else _) = _
    rw [if_pos z]
theorem m_readsFeet {sg : Nat → Nat} {t s : Nat} {P : PS} {S : St} {Q : Int32 → St → Prop} (hW : PSW P) (h : PM sg t s P S) (hb : ∀ f S', endP sg t (feetP sg t s P) = .bad f → frR S S' → gI S' 0 9 = nI f → Q 0 S') (ho : ∀ s' P' S', endP sg t (feetP sg t s P) = .ok s' P' → frR S S' → PM sg t s' P' S' → Q 1 S') : w_X12_readsFeet S Q := by
  have h99 := hW.1.2.2.2.2.2.1
  have e0 : feetP sg t s P = feetP sg t s P := rfl
  conv at e0 => rhs; unfold feetP
  have wrong : ∀ (f : Nat) (v : Int32) (S1 S' : St), feetP sg t s P = .bad f → frR S S1 → v = nI f → S' = sI S1 0 9 v → Q 0 S' := by
    intro f v S1 S' e1 e2 e3 e4
    exact hb f S' (by rw [e1]; rfl) (frR_trans e2 (by rw [e4]; exact frR_s0 (by decide) (by omega))) (by rw [e4, gI_sI, if_pos ⟨rfl, rfl⟩, e3])
  unfold w_X12_readsFeet
  rw [show gI S 0 29 = nI (P.F 0 4) from h.2.1 4 (by omega)]
  refine nI_if (y := 0) (by omega) (by omega) (fun q => ?_) (fun q => ?_)
  · rw [if_neg (by omega)] at e0
    refine m_next h.1 (fun S1 f1 c1 => ?_)
    have p1 := PM_FT h f1 c1
    have r1 := frR_FT f1
    refine m_needsNumber (lo := 1) (hi := 99) p1.1 (by omega) (by omega) (fun z => ?_) (fun z z2 => ?_)
    · rw [if_pos z] at e0
      rw [if_pos rfl]
      exact wrong _ _ S1 _ e0 r1 (n16 _ _) rfl
    · rw [if_neg (by omega)] at e0
      rw [if_neg (by decide)]
      intro S2 e2
      rw [z2] at e2
      have p2 : PM sg t (nxt sg t s) (setFt P (v10 sg t (nxt sg t s))) S2 := by rw [e2]; exact ⟨CurM_s0 (by omega) p1.1, NF_Ft p1.2⟩
      have r2 : frR S S2 := frR_trans r1 (by rw [e2]; exact frR_s0 (by decide) (by omega))
      refine m_next p2.1 (fun S3 f3 c3 => ?_)
      exact m_lineEnd (PM_FT p2 f3 c3) (frR_trans r2 (frR_FT f3)) e0 hb ho
  · rw [if_pos q] at e0
    exact m_fails9 (k := 3) h.1 ⟨Or.inl rfl, wrong (3 + 16 * s) _ S _ e0 (frR_refl S) (n16 3 s) rfl⟩
