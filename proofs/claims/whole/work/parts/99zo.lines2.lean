/-! ===== pure: line behind line ===== -/
abbrev RO : Type := Sum Nat (Nat × PS × List BX)
def toR (bs : List BX) (o : PO) : RO :=
  match o with
  | Sum.inl f => Sum.inl f
  | Sum.inr z => Sum.inr (z.1, z.2, bs)
def toB (P : PS) (bs : List BX) (o : BO) : RO :=
  match o with
  | Sum.inl f => Sum.inl f
  | Sum.inr y => Sum.inr (y.1, setBr P, bs ++ [(0, y.2)])
def lnP (sg : Nat → Nat) (t s : Nat) (P : PS) (bs : List BX) : RO :=
  if tkey sg t s = 129 then toR bs (turnP sg t s P)
  else if tkey sg t s = 136 then toR bs (rhymeP sg t s P)
  else if tkey sg t s = 137 then toR bs (wholeP sg t s P)
  else if tkey sg t s = 139 then toR bs (feetP sg t s P)
  else if tkey sg t s = 140 then toR bs (wordP sg t s P)
  else if tkey sg t s = 143 then toB P bs (barP sg t s P)
  else Sum.inl (1 + 16 * s)
def endR (sg : Nat → Nat) (t : Nat) (o : RO) : RO :=
  match o with
  | Sum.inl f => Sum.inl f
  | Sum.inr z => if tkey sg t z.1 = 59 then Sum.inr (nxt sg t z.1, z.2) else Sum.inl (1 + 16 * z.1)
def lineR (sg : Nat → Nat) (t s : Nat) (P : PS) (bs : List BX) : RO := endR sg t (lnP sg t s P bs)
theorem endR_toR {sg : Nat → Nat} {t : Nat} {bs : List BX} {o : PO} : endR sg t (toR bs o) = toR bs (endP sg t o) := by
  cases o with
  | inl f => rfl
  | inr z =>
    obtain ⟨s, P⟩ := z
    show (if tkey sg t s = 59 then _ else _) = toR bs (if tkey sg t s = 59 then _ else _)
    by_cases c : tkey sg t s = 59
    · rw [if_pos c, if_pos c]; rfl
    · rw [if_neg c, if_neg c]; rfl
theorem endR_toB {sg : Nat → Nat} {t : Nat} {P : PS} {bs : List BX} {o : BO} : endR sg t (toB P bs o) = toB P bs (endB sg t o) := by
  cases o with
  | inl f => rfl
  | inr y =>
    show (if tkey sg t y.1 = 59 then _ else _) = toB P bs (if tkey sg t y.1 = 59 then _ else _)
    by_cases c : tkey sg t y.1 = 59
    · rw [if_pos c, if_pos c]; rfl
    · rw [if_neg c, if_neg c]; rfl
def EL (bs : List BX) : List Nat := bs.flatMap (fun y => y.2.1 ++ [10059])
theorem EL_end (bs : List BX) (y : BX) : EL (bs ++ [y]) = EL bs ++ (y.2.1 ++ [10059]) := by
  unfold EL
  rw [List.flatMap_append]
  simp
def GB (y : BX) : Prop := (∀ ev r, rE ev (y.2.1 ++ (10059 :: r)) [] = if y.2.2.2 ev = 0 then rE ev r [] else some true) ∧ (∀ ev, runM ev y.2.2.1 [newF false] = some (y.2.2.2 ev)) ∧ CdW y
def LI (t s : Nat) (P : PS) (bs : List BX) : Prop := PSW P ∧ s ≤ t ∧ bs.length = P.F 0 6 ∧ (EL bs).length ≤ s ∧ ∀ y, y ∈ bs → GB y
theorem LI_R {sg : Nat → Nat} {t s s' : Nat} {P P' : PS} {bs bs' : List BX} {o : PO} (h : LI t s P bs) (ho : LnW (P.F 0 6) t s o) (e : toR bs o = Sum.inr (s', P', bs')) : LI t s' P' bs' ∧ s ≤ s' := by
  obtain ⟨h1, h2, h3, h4, h5⟩ := h
  cases o with
  | inl f => cases e
  | inr z =>
    obtain ⟨a, b⟩ := z
    have q := Sum.inr.inj e
    have e1 : a = s' := congrArg Prod.fst q
    have e2 : b = P' := congrArg (fun x => x.2.1) q
    have e3 : bs = bs' := congrArg (fun x => x.2.2) q
    subst e1; subst e2; subst e3
    obtain ⟨k1, k2, k3, k4⟩ := ho a b rfl
    exact ⟨⟨k1, k3, by omega, by omega, h5⟩, k2⟩
theorem lnP_W {sg : Nat → Nat} {t s s' : Nat} {P P' : PS} {bs bs' : List BX} (h : LI t s P bs) (e : lnP sg t s P bs = Sum.inr (s', P', bs')) : LI t s' P' bs' ∧ s ≤ s' := by
  have h0 := h
  obtain ⟨h1, h2, h3, h4, h5⟩ := h
  unfold lnP at e
  split at e
  · exact LI_R (sg := sg) h0 (turnP_W h1 h2) e
  split at e
  · exact LI_R (sg := sg) h0 (rhymeP_W h1 h2) e
  split at e
  · exact LI_R (sg := sg) h0 (wholeP_W h1 h2) e
  split at e
  · exact LI_R (sg := sg) h0 (feetP_W h1 h2) e
  split at e
  · exact LI_R (sg := sg) h0 (wordP_W h1 h2) e
  split at e
  · rename_i c
    obtain ⟨n1, n2⟩ := key_nxt (sg := sg) h2 (show tkey sg t s ≠ 0 by omega)
    unfold barP at e
    split at e
    · cases e
    rename_i c4
    cases u : barT sg t (nxt sg t s) with
    | inl f => rw [u] at e; cases e
    | inr y =>
      rw [u] at e
      obtain ⟨w1, w2, w3, w4⟩ := barT_W _ y n2 u
      have q := Sum.inr.inj e
      have e1 : y.1 = s' := congrArg Prod.fst q
      have e2 : setBr P = P' := congrArg (fun x => x.2.1) q
      have e3 : bs ++ [(0, y.2)] = bs' := congrArg (fun x => x.2.2) q
      subst e1; subst e2; subst e3
      refine ⟨⟨setBr_W h1 (by omega), w2, ?_, ?_, fun z hz => ?_⟩, by omega⟩
      · rw [setBr_6]; simp only [List.length_append, List.length_cons, List.length_nil]; omega
      · rw [EL_end]; simp only [List.length_append, List.length_cons, List.length_nil]; omega
      · rw [List.mem_append, List.mem_singleton] at hz
        rcases hz with hz | hz
        · exact h5 z hz
        · rw [hz]
          exact ⟨fun ev r => barT_E u ev r, fun ev => barT_M u ev, show CdW y from barT_C u⟩
  · cases e
theorem lineR_W {sg : Nat → Nat} {t s s' : Nat} {P P' : PS} {bs bs' : List BX} (h : LI t s P bs) (e : lineR sg t s P bs = Sum.inr (s', P', bs')) : LI t s' P' bs' ∧ s < s' := by
  unfold lineR at e
  cases u : lnP sg t s P bs with
  | inl f => rw [u] at e; cases e
  | inr z =>
    obtain ⟨a, b, c⟩ := z
    rw [u] at e
    obtain ⟨⟨k1, k2, k3, k4, k5⟩, k6⟩ := lnP_W h u
    have e : (if tkey sg t a = 59 then Sum.inr (nxt sg t a, b, c) else Sum.inl (1 + 16 * a)) = (Sum.inr (s', P', bs') : RO) := e
    by_cases q : tkey sg t a = 59
    · rw [if_pos q] at e
      have q9 := Sum.inr.inj e
      have e1 : nxt sg t a = s' := congrArg Prod.fst q9
      have e2 : b = P' := congrArg (fun x => x.2.1) q9
      have e3 : c = bs' := congrArg (fun x => x.2.2) q9
      subst e1; subst e2; subst e3
      obtain ⟨n1, n2⟩ := key_nxt (sg := sg) k2 (show tkey sg t a ≠ 0 by omega)
      exact ⟨⟨k1, n2, k3, by omega, k5⟩, by omega⟩
    · rw [if_neg q] at e; cases e
theorem e_readLine {sg : Nat → Nat} {t n s : Nat} {P : PS} {bs : List BX} {S : St} {Q : Int32 → St → Prop} (hI : LI t s P bs) (h : PE sg t n s P S) (hB : BE (EL bs) S) (hb : ∀ f S', lnP sg t s P bs = Sum.inl f → frX fal S S' → gI S' 7 8 = nI f → Q 0 S') (ho : ∀ s' P' bs' S', lnP sg t s P bs = Sum.inr (s', P', bs') → frX fal S S' → PE sg t n s' P' S' → BE (EL bs') S' → Q 1 S') : w_X8_readLine S Q := by
  have hW := hI.1
  have kk := tkey_lt sg t s
  have e0 : lnP sg t s P bs = lnP sg t s P bs := rfl
  conv at e0 => rhs; unfold lnP
  unfold w_X8_readLine
  rintro x4 rfl
  rw [h.1.2.2.2.2.1]
  have wrong : ¬ (tkey sg t s = 129 ∨ tkey sg t s = 136 ∨ tkey sg t s = 137 ∨ tkey sg t s = 139 ∨ tkey sg t s = 140 ∨ tkey sg t s = 143) → w_X8_isWrong (1 : Int32) S (fun r S' => (r = 0 ∨ r = 1) ∧ Q r S') := by
    intro q
    rw [if_neg (by omega), if_neg (by omega), if_neg (by omega), if_neg (by omega), if_neg (by omega), if_neg (by omega)] at e0
    exact e_wrong h.1 ⟨Or.inl rfl, hb _ _ e0 (frX_sI (frX_refl _ _) (by simp)) (by rw [gI_sI, if_pos ⟨rfl, rfl⟩]; exact n16 1 s)⟩
  have bad : ∀ (o : PO), lnP sg t s P bs = toR bs o → ∀ f S', o = .bad f → frX prl S S' → gI S' 7 8 = nI f → (((0 : Int32) = 0 ∨ (0 : Int32) = 1) ∧ Q 0 S') := fun o eo f S' q1 q2 q3 => ⟨Or.inl rfl, hb f S' (by rw [eo, q1]; rfl) (frX_sub q2 (by simp)) q3⟩
  have good : ∀ (o : PO), lnP sg t s P bs = toR bs o → ∀ s' P' S', o = .ok s' P' → PSW P' → s' ≤ t → frX prl S S' → PE sg t n s' P' S' → (((1 : Int32) = 0 ∨ (1 : Int32) = 1) ∧ Q 1 S') := fun o eo s' P' S' q1 _ _ q4 q5 => ⟨Or.inr rfl, ho s' P' bs S' (by rw [eo, q1]; rfl) (frX_sub q4 (by simp)) q5 (BE_fr hB q4 (by simp))⟩
  refine nI_ifEq (y := 129) (by omega) (by omega) (fun q => ?_) (fun q129 => ?_)
  · rw [if_pos q] at e0; exact e_readTurn hW h (bad _ e0) (good _ e0)
  refine nI_ifEq (y := 130) (by omega) (by omega) (fun q => wrong (by omega)) (fun q130 => ?_)
  refine nI_ifEq (y := 131) (by omega) (by omega) (fun q => wrong (by omega)) (fun q131 => ?_)
  refine nI_ifEq (y := 132) (by omega) (by omega) (fun q => wrong (by omega)) (fun q132 => ?_)
  refine nI_ifEq (y := 133) (by omega) (by omega) (fun q => wrong (by omega)) (fun q133 => ?_)
  refine nI_ifEq (y := 134) (by omega) (by omega) (fun q => wrong (by omega)) (fun q134 => ?_)
  refine nI_ifEq (y := 135) (by omega) (by omega) (fun q => wrong (by omega)) (fun q135 => ?_)
  rw [if_neg q129] at e0
  refine nI_ifEq (y := 136) (by omega) (by omega) (fun q => ?_) (fun q136 => ?_)
  · rw [if_pos q] at e0; exact e_readRhyme hW h (bad _ e0) (good _ e0)
  rw [if_neg q136] at e0
  refine nI_ifEq (y := 137) (by omega) (by omega) (fun q => ?_) (fun q137 => ?_)
  · rw [if_pos q] at e0; exact e_readWhole hW h (bad _ e0) (good _ e0)
  rw [if_neg q137] at e0
  refine nI_ifEq (y := 138) (by omega) (by omega) (fun q => wrong (by omega)) (fun q138 => ?_)
  refine nI_ifEq (y := 139) (by omega) (by omega) (fun q => ?_) (fun q139 => ?_)
  · rw [if_pos q] at e0; exact e_readFeet hW h (bad _ e0) (good _ e0)
  rw [if_neg q139] at e0
  refine nI_ifEq (y := 140) (by omega) (by omega) (fun q => ?_) (fun q140 => ?_)
  · rw [if_pos q] at e0; exact e_readWord hW h (bad _ e0) (good _ e0)
  rw [if_neg q140] at e0
  refine nI_ifEq (y := 141) (by omega) (by omega) (fun q => wrong (by omega)) (fun q141 => ?_)
  refine nI_ifEq (y := 142) (by omega) (by omega) (fun q => wrong (by omega)) (fun q142 => ?_)
  refine nI_ifEq (y := 143) (by omega) (by omega) (fun q => ?_) (fun q143 => wrong (by omega))
  rw [if_pos q] at e0
  refine e_readBar hW h hB hI.2.2.2.1 (by omega) (fun f S' q1 q2 q3 => ⟨Or.inl rfl, hb f S' (by rw [e0, q1]; rfl) q2 q3⟩) (fun y S' q1 q2 q3 q4 => ⟨Or.inr rfl, ho y.1 (setBr P) (bs ++ [(0, y.2)]) S' (by rw [e0, q1]; rfl) q2 q3 ?_⟩)
  rw [EL_end]; exact q4
def allL (sg : Nat → Nat) (t : Nat) : Nat → Nat → PS → List BX → Sum Nat (PS × List BX)
  | 0 => fun _ _ _ => Sum.inl 0
  | n + 1 => fun s P bs => if tkey sg t s = 0 then Sum.inr (P, bs) else (match lineR sg t s P bs with
    | Sum.inl f => Sum.inl f
    | Sum.inr z => allL sg t n z.1 z.2.1 z.2.2)
theorem allL_end {sg : Nat → Nat} {t n s : Nat} {P : PS} {bs : List BX} (h : tkey sg t s = 0) : allL sg t (n + 1) s P bs = Sum.inr (P, bs) := by
  unfold allL; rw [if_pos h]
theorem allL_bad {sg : Nat → Nat} {t n s f : Nat} {P : PS} {bs : List BX} (h : tkey sg t s ≠ 0) (e : lineR sg t s P bs = Sum.inl f) : allL sg t (n + 1) s P bs = Sum.inl f := by
  unfold allL; rw [if_neg h, e]
theorem allL_ok {sg : Nat → Nat} {t n s s' : Nat} {P P' : PS} {bs bs' : List BX} (h : tkey sg t s ≠ 0) (e : lineR sg t s P bs = Sum.inr (s', P', bs')) : allL sg t (n + 1) s P bs = allL sg t n s' P' bs' := by
  conv => lhs; unfold allL
  rw [if_neg h, e]
theorem e_lines {sg : Nat → Nat} {t n g s : Nat} {P : PS} {bs : List BX} {S : St} {Q : Int32 → St → Prop} (hs1 : 1 ≤ s) (hg : t + 1 ≤ g + s) (hI : LI t s P bs) (h : PE sg t n s P S) (hB : BE (EL bs) S) (hb : ∀ f S', allL sg t g s P bs = Sum.inl f → frX fal S S' → Q (nI f) S') (ho : ∀ P' bs' S', allL sg t g s P bs = Sum.inr (P', bs') → LI t t P' bs' → frX fal S S' → PE sg t n t P' S' → BE (EL bs') S' → w_X0_weigh 11 S' (fun S2 => Q (gI S2 7 8) S2)) : w_X8_read_92 Q 1 0 S := by
  have ht := h.1.1
  unfold w_X8_read_92
  refine loop2 (fun v1 v2 S2 => ∃ i, v2 = nI i ∧ i ≤ 1000 ∧ frX fal S S2 ∧ ((v1 = 0 ∧ ∃ f, allL sg t g s P bs = Sum.inl f ∧ gI S2 7 8 = nI f) ∨ (v1 = 1 ∧ ∃ g2 s2 P2 bs2, i < s2 ∧ t + 1 ≤ g2 + s2 ∧ allL sg t g s P bs = allL sg t g2 s2 P2 bs2 ∧ LI t s2 P2 bs2 ∧ PE sg t n s2 P2 S2 ∧ BE (EL bs2) S2))) (fun _ v2 _ => 1000 - v2.toNatClampNeg) ?_ _ _ ⟨0, rfl, by omega, frX_refl _ _, Or.inr ⟨rfl, g, s, P, bs, by omega, hg, rfl, hI, h, hB⟩⟩
  rintro k v1 v2 S2 ⟨i, rfl, hi, f2, h2⟩ hk
  unfold b_X8_read_92
  rcases h2 with ⟨rfl, f, e1, e2⟩ | ⟨rfl, g2, s2, P2, bs2, i1, i2, e1, e2, e3, e4⟩
  · have fin : w_X8_read_138 Q 0 S2 := by
      unfold w_X8_read_138
      rw [if_pos rfl, e2]; exact hb f S2 e1 f2
    refine nI_if (x := 1000) (by omega) (by omega) (fun _ => fin) (fun _ => ?_)
    rw [if_pos rfl]; exact fin
  · have hs2 := e2.2.1
    have kk := tkey_lt sg t s2
    obtain ⟨g3, rfl⟩ : ∃ g3, g2 = g3 + 1 := ⟨g2 - 1, by omega⟩
    rw [if_neg (show ¬ (1000 : Int32) ≤ nI i from nI_ge (b := 1000) (by omega) (by omega)), if_neg (by decide), e3.1.2.2.2.2.1]
    refine nI_ifEq (y := 0) (by omega) (by omega) (fun q => ?_) (fun q => ?_)
    · rw [allL_end q] at e1
      have es : s2 = t := (kind_end hs2).mp (tkey_fin.mp q)
      subst es
      unfold w_X8_read_138
      rw [if_neg (by decide)]
      exact ho P2 bs2 S2 e1 e2 f2 e3 e4
    · have again : ∀ (S3 : St) (f : Nat), lineR sg t s2 P2 bs2 = Sum.inl f → frX fal S2 S3 → gI S3 7 8 = nI f → w_X8_read_130 k (nI i) S3 := by
        intro S3 f q1 q2 q3
        unfold w_X8_read_130 w_X8_read_131
        intro x hx
        rw [nI_1] at hx
        rw [hx]
        refine hk _ _ _ ⟨i + 1, rfl, by omega, frX_trans f2 q2, Or.inl ⟨rfl, f, by rw [e1]; exact allL_bad q q1, q3⟩⟩ ?_
        rw [nI_clamp (by omega), nI_clamp (by omega)]; omega
      refine e_readLine e2 e3 e4 (fun f S3 q1 q2 q3 => ?_) (fun s3 P3 bs3 S3 q1 q2 q3 q4 => ?_)
      · rw [if_pos rfl]
        exact again S3 f (by unfold lineR; rw [q1]; rfl) q2 q3
      · rw [if_neg (by decide)]
        have el : lineR sg t s2 P2 bs2 = if tkey sg t s3 = 59 then Sum.inr (nxt sg t s3, P3, bs3) else Sum.inl (1 + 16 * s3) := by unfold lineR; rw [q1]; rfl
        refine e_takeKey (k := 59) q3.1 (by omega) (fun w => ?_) (fun w S4 f4 c4 => ?_)
        · rw [if_neg w] at el
          rw [if_pos rfl]
          exact again _ _ el (frX_trans q2 (frX_sI (frX_refl _ _) (by simp))) (by rw [gI_sI, if_pos ⟨rfl, rfl⟩]; exact n16 1 s3)
        · rw [if_pos w] at el
          rw [if_neg (by decide)]
          obtain ⟨j1, j2⟩ := lineR_W e2 el
          unfold w_X8_read_131
          intro x hx
          rw [nI_1] at hx
          rw [hx]
          refine hk _ _ _ ⟨i + 1, rfl, by omega, frX_trans f2 (frX_trans q2 (frX_sub f4.1 (by simp))), Or.inr ⟨rfl, g3, nxt sg t s3, P3, bs3, by omega, by omega, by rw [e1]; exact allL_ok q el, j1, PE_FH q3 f4 c4, BE_fr q4 f4.1 (by simp)⟩⟩ ?_
          rw [nI_clamp (by omega), nI_clamp (by omega)]; omega
theorem m_lines {sg : Nat → Nat} {t g s : Nat} {P : PS} {bs : List BX} {S : St} {Q : Int32 → St → Prop} (hg : t + 1 ≤ g + s) (hI : LI t s P bs) (h : PM sg t s P S) (hB : BM bs s S) (hb : ∀ f S', allL sg t g s P bs = Sum.inl f → frM S S' → gI S' 0 9 = nI f → Q 0 S') (ho : ∀ P' bs' S', allL sg t g s P bs = Sum.inr (P', bs') → LI t t P' bs' → frM S S' → PM sg t t P' S' → BM bs' t S' → Q 1 S') : w_X12_readsAll_128 Q S := by
  have ht : t ≤ 1000 := h.1.1.1
  unfold w_X12_readsAll_128
  refine loopG0 (fun g2 S2 => ∃ s2 P2 bs2, frM S S2 ∧ t + 1 ≤ g2 + s2 ∧ allL sg t g s P bs = allL sg t g2 s2 P2 bs2 ∧ LI t s2 P2 bs2 ∧ PM sg t s2 P2 S2 ∧ BM bs2 s2 S2) ?_ g ⟨s, P, bs, frM_refl S, hg, rfl, hI, h, hB⟩
  rintro k g2 S2 ⟨s2, P2, bs2, f2, i2, e1, e2, e3, e4⟩ hk
  have hs2 := e2.2.1
  have hW := e2.1
  have kk := tkey_lt sg t s2
  have kle := tkind_le sg t s2
  obtain ⟨g3, rfl⟩ : ∃ g3, g2 = g3 + 1 := ⟨g2 - 1, by omega⟩
  unfold b_X12_readsAll_128
  rw [e3.1.2.2.2.2.1]
  refine nI_ifEq (y := 0) (by omega) (by omega) (fun q => ?_) (fun q => ?_)
  · have q := tkey_fin.mpr q
    rw [allL_end q] at e1
    have es : s2 = t := (kind_end hs2).mp (tkey_fin.mp q)
    subst es
    exact ho P2 bs2 S2 e1 e2 f2 e3 e4
  have q0 : tkey sg t s2 ≠ 0 := fun z => q (tkey_fin.mp z)
  have el : lineR sg t s2 P2 bs2 = endR sg t (lnP sg t s2 P2 bs2) := rfl
  have ep : lnP sg t s2 P2 bs2 = lnP sg t s2 P2 bs2 := rfl
  conv at ep => rhs; unfold lnP
  have badX : ∀ f S3, lineR sg t s2 P2 bs2 = Sum.inl f → frM S2 S3 → gI S3 0 9 = nI f → w_X12_readsAll_242 Q k 0 S3 := by
    intro f S3 q1 q2 q3
    unfold w_X12_readsAll_242
    rw [if_pos rfl]
    exact hb f S3 (by rw [e1]; exact allL_bad q0 q1) (frM_trans f2 q2) q3
  have goodX : ∀ s3 P3 bs3 S3, lineR sg t s2 P2 bs2 = Sum.inr (s3, P3, bs3) → frM S2 S3 → PM sg t s3 P3 S3 → BM bs3 s3 S3 → w_X12_readsAll_242 Q k 1 S3 := by
    intro s3 P3 bs3 S3 q1 q2 q3 q4
    obtain ⟨j1, j2⟩ := lineR_W e2 q1
    unfold w_X12_readsAll_242
    rw [if_neg (by decide)]
    exact hk g3 S3 ⟨s3, P3, bs3, frM_trans f2 q2, by omega, by rw [e1]; exact allL_ok q0 q1, j1, q3, q4⟩ (by omega)
  have bad : ∀ (o : PO), lnP sg t s2 P2 bs2 = toR bs2 o → ∀ f S3, endP sg t o = .bad f → frR S2 S3 → gI S3 0 9 = nI f → w_X12_readsAll_242 Q k 0 S3 := fun o eo f S3 q1 q2 q3 => badX f S3 (by rw [el, eo, endR_toR, q1]; rfl) q2.1 q3
  have good : ∀ (o : PO), lnP sg t s2 P2 bs2 = toR bs2 o → ∀ s3 P3 S3, endP sg t o = .ok s3 P3 → frR S2 S3 → PM sg t s3 P3 S3 → w_X12_readsAll_242 Q k 1 S3 := fun o eo s3 P3 S3 q1 q2 q3 => by
    have q5 : lineR sg t s2 P2 bs2 = Sum.inr (s3, P3, bs2) := by rw [el, eo, endR_toR, q1]; rfl
    have := (lineR_W e2 q5).2
    exact goodX s3 P3 bs2 S3 q5 q2.1 q3 (BM_frR e4 q2 (by omega))
  refine m_isWord9 (i := 1) e3.1 (by omega) (by rfl) ?_
  by_cases c1 : tkey sg t s2 = 128 + 1
  · rw [if_pos c1, if_neg (by decide)]
    rw [if_pos c1] at ep
    exact m_readsTurn hW e3 (bad _ ep) (good _ ep)
  rw [if_neg c1, if_pos rfl]
  rw [if_neg c1] at ep
  refine m_isWord9 (i := 8) e3.1 (by omega) (by rfl) ?_
  by_cases c8 : tkey sg t s2 = 128 + 8
  · rw [if_pos c8, if_neg (by decide)]
    rw [if_pos c8] at ep
    exact m_readsRhyme hW e3 (bad _ ep) (good _ ep)
  rw [if_neg c8, if_pos rfl]
  rw [if_neg c8] at ep
  refine m_isWord9 (i := 9) e3.1 (by omega) (by rfl) ?_
  by_cases c9 : tkey sg t s2 = 128 + 9
  · rw [if_pos c9, if_neg (by decide)]
    rw [if_pos c9] at ep
    exact m_readsWhole hW e3 (bad _ ep) (good _ ep)
  rw [if_neg c9, if_pos rfl]
  rw [if_neg c9] at ep
  refine m_isWord9 (i := 11) e3.1 (by omega) (by rfl) ?_
  by_cases c11 : tkey sg t s2 = 128 + 11
  · rw [if_pos c11, if_neg (by decide)]
    rw [if_pos c11] at ep
    exact m_readsFeet hW e3 (bad _ ep) (good _ ep)
  rw [if_neg c11, if_pos rfl]
  rw [if_neg c11] at ep
  refine m_isWord9 (i := 12) e3.1 (by omega) (by rfl) ?_
  by_cases c12 : tkey sg t s2 = 128 + 12
  · rw [if_pos c12, if_neg (by decide)]
    rw [if_pos c12] at ep
    exact m_readsEntry hW e3 (bad _ ep) (good _ ep)
  rw [if_neg c12, if_pos rfl]
  rw [if_neg c12] at ep
  refine m_isWord9 (i := 15) e3.1 (by omega) (by rfl) ?_
  by_cases c15 : tkey sg t s2 = 128 + 15
  · rw [if_pos c15, if_neg (by decide)]
    rw [if_pos c15] at ep
    have eb : lineR sg t s2 P2 bs2 = toB P2 bs2 (endB sg t (barP sg t s2 P2)) := by rw [el, ep, endR_toB]
    exact m_readsBar hW e3 e4 e2.2.2.1 q0 (fun f S3 q1 q2 q3 => badX f S3 (by rw [eb, q1]; rfl) q2 q3) (fun y S3 q1 q2 q3 q4 => goodX y.1 (setBr P2) (bs2 ++ [(0, y.2)]) S3 (by rw [eb, q1]; rfl) q2 q3 q4)
  rw [if_neg c15, if_pos rfl]
  rw [if_neg c15] at ep
  exact m_fails9 (k := 1) e3.1 (badX (1 + 16 * s2) _ (by rw [el, ep]; rfl) (frR_s0 (j := 9) (by decide) (by omega)).1 (by rw [gI_sI, if_pos ⟨rfl, rfl⟩]; exact n16 1 s2))
