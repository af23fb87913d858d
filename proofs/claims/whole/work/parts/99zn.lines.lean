/-! ===== pure: a line of whatever kind; its sides ===== -/
def LnW (n6 t s : Nat) (o : PO) : Prop := ∀ s' P', o = .ok s' P' → PSW P' ∧ s ≤ s' ∧ s' ≤ t ∧ P'.F 0 6 = n6
theorem nxt_ge {sg : Nat → Nat} {t s : Nat} (hs : s ≤ t) : s ≤ nxt sg t s ∧ nxt sg t s ≤ t := by
  refine ⟨?_, nxt_le hs⟩
  have a := tend_le2 (sg := sg) hs
  have := (run_le (p := isBl) (sg := sg) a.2).1
  unfold nxt; omega
theorem LnW_bad {n6 t s f : Nat} : LnW n6 t s (.bad f) := fun s' P' e => by cases e
theorem LnW_ok {n6 t s s1 : Nat} {P1 : PS} (h : PSW P1) (h1 : s ≤ s1) (h2 : s1 ≤ t) (h6 : P1.F 0 6 = n6) : LnW n6 t s (.ok s1 P1) := fun s' P' e => by
  have h5 := Sum.inr.inj e
  have e1 : s1 = s' := congrArg Prod.fst h5
  have e2 : P1 = P' := congrArg Prod.snd h5
  subst e1; subst e2
  exact ⟨h, h1, h2, h6⟩
theorem stepP_ge {sg : Nat → Nat} {t s s' : Nat} {P P' : PS} (hs : s ≤ t) (h : stepP sg t s P = .ok s' P') : s ≤ s' ∧ P'.F 0 6 = P.F 0 6 := by
  have l1 := nxt_ge (sg := sg) hs
  have l2 := nxt_ge (sg := sg) l1.2
  have l3 := nxt_ge (sg := sg) l2.2
  have fin : ∀ s2 src, s ≤ s2 → PO.ok s2 (addS P src) = .ok s' P' → s ≤ s' ∧ P'.F 0 6 = P.F 0 6 := fun s2 src a e => by
    have e1 : s2 = s' := congrArg Prod.fst (Sum.inr.inj e)
    have e2 : addS P src = P' := congrArg Prod.snd (Sum.inr.inj e)
    rw [← e2]
    exact ⟨by omega, addS_0 P src (by omega)⟩
  have no : ∀ f, PO.bad f = .ok s' P' → s ≤ s' ∧ P'.F 0 6 = P.F 0 6 := fun f q => by cases q
  unfold stepP at h
  split at h
  · exact no _ h
  split at h
  · exact no _ h
  split at h
  · split at h
    · exact no _ h
    split at h
    · exact no _ h
    exact fin _ _ (by omega) h
  split at h
  · split at h
    · exact no _ h
    exact fin _ _ (by omega) h
  exact fin _ _ (by omega) h
theorem turnL_W {sg : Nat → Nat} {n6 t s0 : Nat} : ∀ f s P, PSW P → s0 ≤ s → s ≤ t → P.F 0 6 = n6 → LnW n6 t s0 (turnL sg t f s P) := by
  intro f
  induction f with
  | zero => intro s P _ _ _ _; exact LnW_bad
  | succ f ih =>
    intro s P hW h0 hs h6
    by_cases c : tkey sg t s = 59
    · rw [turnL_end c]; exact LnW_ok hW h0 hs h6
    · cases q : stepP sg t s P with
      | inl e => rw [turnL_bad c q]; exact LnW_bad
      | inr z =>
        obtain ⟨s2, P2⟩ := z
        rw [turnL_ok c q]
        obtain ⟨a1, a2, _, _⟩ := stepP_W hW hs q
        have := stepP_ge hs q
        exact ih s2 P2 a1 (by omega) a2 (by omega)
theorem turnP_W {sg : Nat → Nat} {t s : Nat} {P : PS} (hW : PSW P) (hs : s ≤ t) : LnW (P.F 0 6) t s (turnP sg t s P) := by
  have l1 := nxt_ge (sg := sg) hs
  unfold turnP
  cases q : stepP sg t (nxt sg t s) P with
  | inl e => exact LnW_bad
  | inr z =>
    obtain ⟨s2, P2⟩ := z
    obtain ⟨a1, a2, _, _⟩ := stepP_W hW l1.2 q
    have := stepP_ge l1.2 q
    exact turnL_W 9 s2 P2 a1 (by omega) a2 this.2
theorem feetP_W {sg : Nat → Nat} {t s : Nat} {P : PS} (hW : PSW P) (hs : s ≤ t) : LnW (P.F 0 6) t s (feetP sg t s P) := by
  have l1 := nxt_ge (sg := sg) hs
  have l2 := nxt_ge (sg := sg) l1.2
  unfold feetP
  split
  · exact LnW_bad
  split
  · exact LnW_bad
  rename_i c1 c2
  have := numK_rng (Classical.not_not.mp c2)
  exact LnW_ok (setFt_W hW this.2) (by omega) l2.2 (setFt_0 _ _ (by omega))
theorem wholeP_W {sg : Nat → Nat} {t s : Nat} {P : PS} (hW : PSW P) (hs : s ≤ t) : LnW (P.F 0 6) t s (wholeP sg t s P) := by
  have l1 := nxt_ge (sg := sg) hs
  have l2 := nxt_ge (sg := sg) l1.2
  have l3 := nxt_ge (sg := sg) l2.2
  have l4 := nxt_ge (sg := sg) l3.2
  have hn0 := hW.1.1
  unfold wholeP
  split
  · exact LnW_bad
  split
  · exact LnW_bad
  split
  · exact LnW_bad
  rename_i c1 c2 c3
  have a1 := numK_rng (Classical.not_not.mp c1)
  have a3 := numK_rng (Classical.not_not.mp c3)
  have hp : v10 sg t (nxt sg t s) < P.F 0 0 := by omega
  exact LnW_ok (addW_W hW hp a3 (ro9_0 (Classical.not_not.mp c1) hp)) (by omega) l4.2 (addW_0 _ _ _ (by omega))
theorem rhymeP_W {sg : Nat → Nat} {t s : Nat} {P : PS} (hW : PSW P) (hs : s ≤ t) : LnW (P.F 0 6) t s (rhymeP sg t s P) := by
  have l1 := nxt_ge (sg := sg) hs
  have l2 := nxt_ge (sg := sg) l1.2
  have l3 := nxt_ge (sg := sg) l2.2
  have hn0 := hW.1.1
  unfold rhymeP
  split
  · exact LnW_bad
  split
  · exact LnW_bad
  split
  · exact LnW_bad
  rename_i c0 c1 c2
  have a1 := numK_rng (Classical.not_not.mp c1)
  have a2 := numK_rng (Classical.not_not.mp c2)
  exact LnW_ok (addR_W hW (by omega) (by omega) (by omega) (numK_ne (Classical.not_not.mp c2))) (by omega) l3.2 (addR_0 _ _ _ (by omega))
theorem nxs_ge {sg : Nat → Nat} {t s : Nat} (hs : s ≤ t) : ∀ k, s ≤ nxs sg t k s
  | 0 => Nat.le_refl _
  | k + 1 => Nat.le_trans (nxs_ge hs k) (nxt_ge (nxs_le hs k)).1
theorem wordP_W {sg : Nat → Nat} {t s : Nat} {P : PS} (hW : PSW P) (hs : s ≤ t) : LnW (P.F 0 6) t s (wordP sg t s P) := by
  unfold wordP
  split
  · exact LnW_bad
  split
  · exact LnW_bad
  split
  · exact LnW_bad
  split
  · exact LnW_bad
  split
  · exact LnW_bad
  split
  · exact LnW_bad
  split
  · exact LnW_bad
  split
  · exact LnW_bad
  split
  · exact LnW_bad
  rename_i c0 _ _ _ c4 _ c6 _ c8
  have a4 := numK_rng (Classical.not_not.mp c4)
  have a6 := numK_rng (Classical.not_not.mp c6)
  have a8 := numK_rng (Classical.not_not.mp c8)
  exact LnW_ok (addWd_W hW (by omega) a4.2 a6.2 a8.2) (nxs_ge hs 8) (nxs_le hs 8) (addWd_0 _ _ _ _ _ (by omega))
def setBr (P : PS) : PS := (fun a b => if a = 0 ∧ b = 6 then P.F 0 6 + 1 else P.F a b, P.2)
theorem setBr_0 (P : PS) {j : Nat} (h : j ≠ 6) : (setBr P).F 0 j = P.F 0 j := by
  show (if 0 = 0 ∧ j = 6 then P.F 0 6 + 1 else P.F 0 j) = _
  rw [if_neg (fun q => h q.2)]
theorem setBr_6 (P : PS) : (setBr P).F 0 6 = P.F 0 6 + 1 := by
  show (if 0 = 0 ∧ 6 = 6 then P.F 0 6 + 1 else P.F 0 6) = _
  rw [if_pos ⟨rfl, rfl⟩]
theorem setBr_k (P : PS) {k : Nat} (h : 1 ≤ k) : (setBr P).F k = P.F k := by
  funext j
  show (if k = 0 ∧ j = 6 then P.F 0 6 + 1 else P.F k j) = _
  rw [if_neg (by omega)]
theorem setBr_W {P : PS} (hW : PSW P) (h : P.F 0 6 < 4) : PSW (setBr P) := by
  obtain ⟨⟨a1, a2, a3, a4, a5, a6, a7, a8⟩, b, c, d, e⟩ := hW
  have z0 := setBr_0 P (j := 0) (by omega)
  have z1 := setBr_0 P (j := 1) (by omega)
  have z2 := setBr_0 P (j := 2) (by omega)
  have z3 := setBr_0 P (j := 3) (by omega)
  have z4 := setBr_0 P (j := 4) (by omega)
  have z5 := setBr_0 P (j := 5) (by omega)
  have y6 := setBr_6 P
  have k1 := setBr_k P (k := 1) (by omega)
  have k2 := setBr_k P (k := 2) (by omega)
  have k3 := setBr_k P (k := 3) (by omega)
  have k4 := setBr_k P (k := 4) (by omega)
  have k5 := setBr_k P (k := 5) (by omega)
  have k6 := setBr_k P (k := 6) (by omega)
  have pw : PW (setBr P).F (setBr P).pa (setBr P).pb := by
    unfold PW
    rw [z0, z2, k2]
    exact e
  unfold PSW
  rw [z0, z1, z2, z3, z4, z5, y6, k1, k2, k3, k4, k5, k6]
  exact ⟨⟨a1, a2, a3, a4, a5, a6, a7, by omega⟩, b, c, d, pw⟩
def barP (sg : Nat → Nat) (t s : Nat) (P : PS) : BO := if 4 ≤ P.F 0 6 then Sum.inl (5 + 16 * s) else barT sg t (nxt sg t s)
theorem barT_W {sg : Nat → Nat} {t : Nat} : BWp t (barT sg t) := testsP_W (partP_W sg t 5)
abbrev fal : List Nat := [7, 8, 9, 11, 12, 13, 14, 15, 16, 17, 18, 19, 20]
theorem e_readBar {sg : Nat → Nat} {t n s : Nat} {P : PS} {L : List Nat} {S : St} {Q : Int32 → St → Prop} (hW : PSW P) (h : PE sg t n s P S) (hL : BE L S) (hl : L.length ≤ s) (hk0 : tkey sg t s ≠ 0) (hb : ∀ f S', barP sg t s P = Sum.inl f → frX fal S S' → gI S' 7 8 = nI f → Q 0 S') (ho : ∀ y S', barP sg t s P = Sum.inr y → frX fal S S' → PE sg t n y.1 (setBr P) S' → BE (L ++ (y.2.1 ++ [10059])) S' → Q 1 S') : w_X8_readBar S Q := by
  have hs := h.1.2.1
  have ht := h.1.1
  have h4 := hW.1.2.2.2.2.2.2.2
  obtain ⟨n1, n2⟩ := key_nxt (sg := sg) hs hk0
  have e0 : barP sg t s P = barP sg t s P := rfl
  conv at e0 => rhs; unfold barP
  unfold w_X8_readBar
  rw [h.2.1.1 6 (by omega)]
  refine nI_ifLt (y := 4) (by omega) (by omega) (fun q => ?_) (fun q => ?_)
  · rw [if_neg (by omega)] at e0
    refine e_next h.1 (fun S1 f1 c1 => ⟨6, by omega, ?_⟩)
    have p1 := PE_FH h f1 c1
    have b1 := BE_fr hL f1.1 (by simp)
    have r1 : frX fal S S1 := frX_sub f1.1 (by simp)
    refine e_readTests (v0 := nI 0) (partP_W sg t 5) (e_readPart 5 0 rfl) (nxt sg t s) L S1 _ p1 b1 (by omega) (fun f S2 u1 u2 u3 => ?_) (fun y S2 u1 u2 u3 u4 => ?_)
    · rw [if_pos rfl]
      exact hb f S2 (by rw [e0]; exact u1) (frX_trans r1 (frX_sub u2 (by simp))) u3
    · rw [if_neg (by decide)]
      have u1 : barT sg t (nxt sg t s) = Sum.inr y := u1
      obtain ⟨w1, w2, w3, w4⟩ := barT_W _ y n2 u1
      have ly : (L ++ y.2.1).length = L.length + y.2.1.length := List.length_append
      refine e_add (c := 10059) u4 (by omega) (by omega) (fun S3 f3 b3 => ?_)
      have p3 := PE_89 u3 f3
      intro S4 e4
      rw [p3.2.1.1 6 (by omega), nI_1] at e4
      have f4 : frX [11] S3 S4 := by rw [e4]; exact frX_sI (frX_refl _ _) (by simp)
      obtain ⟨hc, hT, hN, h78⟩ := p3
      refine ho y S4 (by rw [e0]; exact u1) (frX_trans r1 (frX_trans (frX_sub u2 (by simp)) (frX_trans (frX_sub f3 (by simp)) (frX_sub f4 (by simp))))) ⟨CurE_fr hc f4 (by simp), ⟨fun j hj => ?_, fun k j a1 a2 a3 => ?_, fun k j a1 a2 a3 => ?_, fun p a1 a2 => ?_⟩, ?_, by rw [frX_g f4 7 8 (by simp)]; exact h78⟩ ?_
      · by_cases e : j = 6
        · rw [e, setBr_6, e4, gI_sI, if_pos ⟨rfl, rfl⟩]
        · rw [setBr_0 _ e, e4, gI_sI, if_neg (fun q => e q.2)]; exact hT.1 j hj
      · rw [setBr_0 _ (by omega)] at a3
        rw [setBr_k _ a1, frX_g f4 (11 + k) j (by simp; omega)]; exact hT.2.1 k j a1 a2 a3
      · rw [setBr_0 _ (by omega)] at a3
        rw [setBr_k _ (by omega), frX_g f4 (11 + k) j (by simp; omega)]; exact hT.2.2.1 k j a1 a2 a3
      · rw [setBr_0 _ (by omega)] at a1
        rw [frX_g f4 14 p (by simp)]; exact hT.2.2.2 p a1 a2
      · intro w hw
        rw [setBr_0 _ (by omega)] at hw
        have := hN w hw
        exact ⟨this.1, by rw [frX_gJ f4 20 w (by simp)]; exact this.2⟩
      · rw [← List.append_assoc]
        exact BE_fr b3 f4 (by simp)
  · rw [if_pos (by omega)] at e0
    exact e_wrong h.1 ⟨Or.inl rfl, hb (5 + 16 * s) _ e0 (frX_sI (frX_refl _ _) (by simp)) (by rw [gI_sI, if_pos ⟨rfl, rfl⟩]; exact n16 5 s)⟩
/-- the codes of the bars so far, as the reference keeps them -/
def BMk (y : BX) (b c : Nat) (S : St) : Prop := ∃ a, gI S 18 b = nI a ∧ gI S 19 b = nI (a + y.2.2.1.length) ∧ a + y.2.2.1.length ≤ c ∧ ∀ j, j < y.2.2.1.length → gI S 20 (a + j) = nI (y.2.2.1.getD j 0)
def BM (bs : List BX) (s : Nat) (S : St) : Prop := ∃ c, gI S 0 43 = nI c ∧ c ≤ s ∧ ∀ b y, bs[b]? = some y → BMk y b c S
theorem BM_frR {bs : List BX} {s s' : Nat} {S S' : St} (h : BM bs s S) (f : frR S S') (hs : s ≤ s') : BM bs s' S' := by
  obtain ⟨c, h1, h2, h3⟩ := h
  refine ⟨c, by rw [f.2 0 43 (by omega)]; exact h1, by omega, fun b y hy => ?_⟩
  obtain ⟨a, k1, k2, k3, k4⟩ := h3 b y hy
  exact ⟨a, by rw [f.2 18 b (by omega)]; exact k1, by rw [f.2 19 b (by omega)]; exact k2, k3, fun j hj => by rw [f.2 20 _ (by omega)]; exact k4 j hj⟩
def endB (sg : Nat → Nat) (t : Nat) (o : BO) : BO := bnd o (fun y => if tkey sg t y.1 = 59 then Sum.inr (nxt sg t y.1, y.2) else Sum.inl (1 + 16 * y.1))
theorem m_readsBar {sg : Nat → Nat} {t s : Nat} {P : PS} {bs : List BX} {S : St} {Q : Int32 → St → Prop} (hW : PSW P) (h : PM sg t s P S) (hB : BM bs s S) (hbs : bs.length = P.F 0 6) (hk0 : tkey sg t s ≠ 0) (hb : ∀ f S', endB sg t (barP sg t s P) = Sum.inl f → frM S S' → gI S' 0 9 = nI f → Q 0 S') (ho : ∀ y S', endB sg t (barP sg t s P) = Sum.inr y → frM S S' → PM sg t y.1 (setBr P) S' → BM (bs ++ [(0, y.2)]) y.1 S' → Q 1 S') : w_X12_readsBar S Q := by
  have hs := h.1.2.1
  have ht : t ≤ 1000 := h.1.1.1
  have h4 := hW.1.2.2.2.2.2.2.2
  obtain ⟨n1, n2⟩ := key_nxt (sg := sg) hs hk0
  have e0 : barP sg t s P = barP sg t s P := rfl
  conv at e0 => rhs; unfold barP
  unfold w_X12_readsBar
  rw [show gI S 0 31 = nI (P.F 0 6) from h.2.1 6 (by omega)]
  refine nI_ifEq (y := 4) (by omega) (by omega) (fun q => ?_) (fun q => ?_)
  · rw [if_pos (by omega)] at e0
    exact m_fails9 (k := 5) h.1 ⟨Or.inl rfl, hb (5 + 16 * s) _ (by rw [e0]; rfl) (frR_s0 (j := 9) (by decide) (by omega)).1 (by rw [gI_sI, if_pos ⟨rfl, rfl⟩]; exact n16 5 s)⟩
  rw [if_neg (by omega)] at e0
  refine m_next h.1 (fun S1 f1 c1 => ?_)
  have p1 := PM_FT h f1 c1
  obtain ⟨c, hc1, hc2, hc3⟩ := BM_frR hB (frR_FT f1) (Nat.le_refl s)
  rw [show gI S1 0 31 = nI (P.F 0 6) from p1.2.1 6 (by omega), nI_clamp (by omega)]
  refine ⟨vp_in_nI (by omega) (by omega), fun S2 e2 => ?_⟩
  rw [hc1] at e2
  have x2 : frX [18] S1 S2 := by rw [e2]; exact frX_sI (frX_refl _ _) (by simp)
  have c2 : CurM sg t (nxt sg t s) S2 := CurM_X x2 (by simp) p1.1
  have n2' : NF sg t P S2 := by
    obtain ⟨h1, h2, h3, h4⟩ := p1.2
    exact ⟨fun j hj => by rw [frX_g x2 0 _ (by simp)]; exact h1 j hj, fun p hp => by rw [frX_g x2 10 p (by simp), frX_g x2 13 p (by simp)]; exact h2 p hp, fun k hk => by rw [frX_g x2 11 k (by simp), frX_g x2 12 k (by simp)]; exact h3 k hk, fun w hw => by rw [frX_g x2 15 w (by simp), frX_g x2 16 w (by simp), frX_g x2 17 w (by simp), frX_gJ x2 14 w (by simp)]; exact h4 w hw⟩
  have r2 : frM S S2 := frM_trans (frM_FT f1) (by rw [e2]; exact frM_row (frM_refl _) (by omega))
  obtain ⟨b1, b2⟩ := aut_bar (sg := sg) ht n2
  refine m_reads (base := c) c2 (by rw [frX_g x2 0 43 (by simp)]; exact hc1) (by omega) (fun f S3 u1 u2 u3 => ?_) (fun s' C S3 u1 u2 u3 u4 => ?_)
  · rw [if_pos rfl]
    refine hb f S3 ?_ (frM_trans r2 (FB_frM u2)) u3
    rw [e0]
    cases q2 : barT sg t (nxt sg t s) with
    | inl f0 =>
      rw [b1 f0 q2] at u1
      show Sum.inl f0 = _
      rw [Sum.inl.inj u1]
    | inr y =>
      rw [b2 y q2] at u1
      show (if tkey sg t y.1 = 59 then Sum.inr (nxt sg t y.1, y.2) else Sum.inl (1 + 16 * y.1)) = _
      by_cases z : tkey sg t y.1 = 59
      · rw [if_pos z] at u1; cases u1
      · rw [if_neg z] at u1 ⊢; rw [Sum.inl.inj u1]
  · rw [if_neg (by decide)]
    cases q2 : barT sg t (nxt sg t s) with
    | inl f0 => rw [b1 f0 q2] at u1; cases u1
    | inr y =>
      rw [b2 y q2] at u1
      by_cases z : tkey sg t y.1 = 59
      · rw [if_pos z] at u1
        have e1 : nxt sg t y.1 = s' := congrArg Prod.fst (Sum.inr.inj u1)
        have e2' : y.2.2.1 = C := congrArg Prod.snd (Sum.inr.inj u1)
        subst e1; subst e2'
        obtain ⟨w1, w2, w3, w4⟩ := barT_W _ y n2 q2
        obtain ⟨k3, k4⟩ := key_nxt (sg := sg) w2 (show tkey sg t y.1 ≠ 0 by omega)
        have n3 := NF_FB u2 n2'
        rw [show gI S3 0 31 = nI (P.F 0 6) from n3.1 6 (by omega), nI_clamp (by omega)]
        refine ⟨vp_in_nI (by omega) (by omega), fun S4 e4 S5 e5 => ?_⟩
        obtain ⟨d1, d2, d3, d4⟩ := u4
        rw [d1] at e4
        have g4 : gI S4 0 31 = nI (P.F 0 6) := by rw [e4, gI_sI, if_neg (by omega)]; exact n3.1 6 (by omega)
        rw [g4, nI_1, e4] at e5
        have er : endB sg t (barP sg t s P) = Sum.inr (nxt sg t y.1, y.2) := by
          rw [e0, q2]
          show (if tkey sg t y.1 = 59 then _ else _) = _
          rw [if_pos z]
        refine ho (nxt sg t y.1, y.2) S5 er (frM_trans r2 (frM_trans (FB_frM u2) ?_)) ⟨?_, ⟨fun j hj => ?_, fun p hp => ?_, fun k hk => ?_, fun w hw => ?_⟩⟩ ⟨c + y.2.2.1.length, ?_, ?_, fun b y' hy => ?_⟩
        · rw [e5]; exact frM_sI (frM_row (frM_refl _) (by omega)) (by decide)
        · rw [e5]; exact CurM_s0 (by omega) (CurM_X (frX_sI (frX_refl [19] S3) (by simp)) (by simp) u3)
        · by_cases e : j = 6
          · rw [e, setBr_6, e5, gI_sI, if_pos ⟨rfl, rfl⟩]
          · rw [setBr_0 _ e, e5, gI_sI, if_neg (by omega), gI_sI, if_neg (by omega)]; exact n3.1 j hj
        · rw [setBr_0 _ (by omega)] at hp
          rw [setBr_k _ (by omega), setBr_k _ (by omega), e5, gI_sI, if_neg (by omega), gI_sI, if_neg (by omega), gI_sI, if_neg (by omega), gI_sI, if_neg (by omega)]; exact n3.2.1 p hp
        · rw [setBr_0 _ (by omega)] at hk
          rw [e5, gI_sI, if_neg (by omega), gI_sI, if_neg (by omega), gI_sI, if_neg (by omega), gI_sI, if_neg (by omega)]; exact n3.2.2.1 k hk
        · rw [setBr_0 _ (by omega)] at hw
          rw [setBr_k _ (by omega), setBr_k _ (by omega), setBr_k _ (by omega), e5, gI_sI, if_neg (by omega), gI_sI, if_neg (by omega), gI_sI, if_neg (by omega), gI_sI, if_neg (by omega), gI_sI, if_neg (by omega), gI_sI, if_neg (by omega), gJ_sI, gJ_sI]; exact n3.2.2.2 w hw
        · rw [e5, gI_sI, if_neg (by omega), gI_sI, if_neg (by omega)]; exact d1
        · show c + y.2.2.1.length ≤ nxt sg t y.1; omega
        · have g18 : ∀ i, gI S5 18 i = if i = P.F 0 6 then nI c else gI S1 18 i := fun i => by
            rw [e5, gI_sI, if_neg (by omega), gI_sI, if_neg (by omega), u2.1 18 i (by omega) (by omega), e2, gI_sI]
            by_cases e : i = P.F 0 6
            · rw [if_pos ⟨rfl, e⟩, if_pos e]
            · rw [if_neg (fun q => e q.2), if_neg e]
          have g19 : ∀ i, gI S5 19 i = if i = P.F 0 6 then nI (c + y.2.2.1.length) else gI S1 19 i := fun i => by
            rw [e5, gI_sI, if_neg (by omega), gI_sI]
            by_cases e : i = P.F 0 6
            · rw [if_pos ⟨rfl, e⟩, if_pos e]
            · rw [if_neg (fun q => e q.2), if_neg e, u2.1 19 i (by omega) (by omega), frX_g x2 19 i (by simp)]
          have g20 : ∀ i, gI S5 20 i = gI S3 20 i := fun i => by rw [e5, gI_sI, if_neg (by omega), gI_sI, if_neg (by omega)]
          by_cases e : b < bs.length
          · rw [List.getElem?_append_left e] at hy
            obtain ⟨a, k1, k2, k3, k4⟩ := hc3 b y' hy
            refine ⟨a, by rw [g18, if_neg (by omega)]; exact k1, by rw [g19, if_neg (by omega)]; exact k2, by omega, fun j hj => ?_⟩
            rw [g20, d4 _ (by omega), frX_g x2 20 _ (by simp)]; exact k4 j hj
          · rw [List.getElem?_append_right (by omega)] at hy
            have e9 : b - bs.length = 0 := by
              apply Classical.byContradiction
              intro q
              obtain ⟨m, hm⟩ : ∃ m, b - bs.length = m + 1 := ⟨b - bs.length - 1, by omega⟩
              rw [hm] at hy; cases hy
            rw [e9] at hy
            have : (0, y.2) = y' := Option.some.inj hy
            subst this
            exact ⟨c, by rw [g18, if_pos (by omega)], by rw [g19, if_pos (by omega)], Nat.le_refl _, fun j hj => by rw [g20]; exact d3 j hj⟩
      · rw [if_neg z] at u1; cases u1
