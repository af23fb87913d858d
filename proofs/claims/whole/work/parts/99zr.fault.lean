/-! ===== pure: a fault is never 0 ===== -/
def FOK (t f : Nat) : Prop := 1 ≤ f ∧ f ≤ 5 + 16 * t
def PBad (t : Nat) (o : PO) : Prop := ∀ f, o = .bad f → FOK t f
theorem PBad_b {t f : Nat} (h : 1 ≤ f ∧ f ≤ 5 + 16 * t) : PBad t (.bad f) := fun g e => by
  have := Sum.inl.inj e; subst this; exact h
theorem PBad_o {t s : Nat} {P : PS} : PBad t (.ok s P) := fun g e => by cases e
theorem numK_le (sg : Nat → Nat) (t lo hi : Nat) (ro : Option Nat) (s : Nat) : numK sg t lo hi ro s ≤ 4 := by
  unfold numK
  split
  · split
    · omega
    · split <;> omega
  · omega
theorem stepP_B {sg : Nat → Nat} {t s : Nat} {P : PS} (hs : s ≤ t) : PBad t (stepP sg t s P) := by
  have l1 := nxt_ge (sg := sg) hs
  have l2 := nxt_ge (sg := sg) l1.2
  have n1 := numK_le sg t 0 (P.F 0 0 - 1) none (nxt sg t s)
  have n2 := numK_le sg t 0 (P.F 0 0 - 1) (some (v10 sg t (nxt sg t s))) (nxt sg t (nxt sg t s))
  have n3 := numK_le sg t 0 11 none (nxt sg t s)
  unfold stepP
  split
  · exact PBad_b (by omega)
  split
  · exact PBad_b (by omega)
  split
  · split
    · exact PBad_b (by omega)
    split
    · exact PBad_b (by omega)
    exact PBad_o
  split
  · split
    · exact PBad_b (by omega)
    exact PBad_o
  exact PBad_o
theorem turnL_B {sg : Nat → Nat} {t : Nat} : ∀ f s P, PSW P → s ≤ t → PBad t (turnL sg t f s P) := by
  intro f
  induction f with
  | zero => intro s P _ hs; exact PBad_b (by omega)
  | succ f ih =>
    intro s P hW hs
    by_cases c : tkey sg t s = 59
    · rw [turnL_end c]; exact PBad_o
    · cases q : stepP sg t s P with
      | inl e => rw [turnL_bad c q]; have b := stepP_B (sg := sg) (P := P) hs; rw [q] at b; exact b
      | inr z =>
        obtain ⟨s2, P2⟩ := z
        rw [turnL_ok c q]
        obtain ⟨a1, a2, _, _⟩ := stepP_W hW hs q
        exact ih s2 P2 a1 a2
theorem turnP_B {sg : Nat → Nat} {t s : Nat} {P : PS} (hW : PSW P) (hs : s ≤ t) : PBad t (turnP sg t s P) := by
  have l1 := nxt_ge (sg := sg) hs
  have b := stepP_B (sg := sg) (P := P) l1.2
  unfold turnP
  cases q : stepP sg t (nxt sg t s) P with
  | inl e => rw [q] at b; exact b
  | inr z =>
    obtain ⟨s2, P2⟩ := z
    obtain ⟨a1, a2, _, _⟩ := stepP_W hW l1.2 q
    exact turnL_B 9 s2 P2 a1 a2
theorem feetP_B {sg : Nat → Nat} {t s : Nat} {P : PS} (hs : s ≤ t) : PBad t (feetP sg t s P) := by
  have l1 := nxt_ge (sg := sg) hs
  have n1 := numK_le sg t 1 99 none (nxt sg t s)
  unfold feetP
  split
  · exact PBad_b (by omega)
  split
  · exact PBad_b (by omega)
  exact PBad_o
theorem wholeP_B {sg : Nat → Nat} {t s : Nat} {P : PS} (hs : s ≤ t) : PBad t (wholeP sg t s P) := by
  have l1 := nxt_ge (sg := sg) hs
  have l2 := nxt_ge (sg := sg) l1.2
  have l3 := nxt_ge (sg := sg) l2.2
  have n1 := numK_le sg t 0 (P.F 0 0 - 1) (ro9 P (v10 sg t (nxt sg t s))) (nxt sg t s)
  have n2 := numK_le sg t 1 99 none (nxt sg t (nxt sg t (nxt sg t s)))
  unfold wholeP
  split
  · exact PBad_b (by omega)
  split
  · exact PBad_b (by omega)
  split
  · exact PBad_b (by omega)
  exact PBad_o
theorem rhymeP_B {sg : Nat → Nat} {t s : Nat} {P : PS} (hs : s ≤ t) : PBad t (rhymeP sg t s P) := by
  have l1 := nxt_ge (sg := sg) hs
  have l2 := nxt_ge (sg := sg) l1.2
  have n1 := numK_le sg t 0 (P.F 0 0 - 1) none (nxt sg t s)
  have n2 := numK_le sg t 0 (P.F 0 0 - 1) (some (v10 sg t (nxt sg t s))) (nxt sg t (nxt sg t s))
  unfold rhymeP
  split
  · exact PBad_b (by omega)
  split
  · exact PBad_b (by omega)
  split
  · exact PBad_b (by omega)
  exact PBad_o
theorem wordP_B {sg : Nat → Nat} {t s : Nat} {P : PS} (hs : s ≤ t) : PBad t (wordP sg t s P) := by
  have l := nxs_le (sg := sg) hs
  have l1 := l 1
  have l2 := l 2
  have l3 := l 3
  have l4 := l 4
  have l5 := l 5
  have l6 := l 6
  have l7 := l 7
  have n1 := numK_le sg t 0 99 none (nxs sg t 3 s)
  have n2 := numK_le sg t 1 9 none (nxs sg t 5 s)
  have n3 := numK_le sg t 0 99 none (nxs sg t 7 s)
  unfold wordP
  split
  · exact PBad_b (by omega)
  split
  · exact PBad_b (by omega)
  split
  · exact PBad_b (by omega)
  split
  · exact PBad_b (by omega)
  split
  · exact PBad_b (by omega)
  split
  · exact PBad_b (by omega)
  split
  · exact PBad_b (by omega)
  split
  · exact PBad_b (by omega)
  split
  · exact PBad_b (by omega)
  exact PBad_o
def BBad (t : Nat) (p : Nat → BO) : Prop := ∀ s f, s ≤ t → p s = Sum.inl f → FOK t f
theorem lvP_B {sg : Nat → Nat} {t n : Nat} {ok : Nat → Bool} {p : Nat → BO} (hok : okN ok) (hW : BWp t p) (h : BBad t p) : BBad t (lvP sg t ok p n) := by
  have chain : ∀ n x f, x.1 ≤ t → chP sg t ok p n x = Sum.inl f → FOK t f := by
    intro n
    induction n with
    | zero => intro x f _ e; cases e
    | succ n ih =>
      intro x f hx e
      cases q : ok (tkey sg t x.1) with
      | false => rw [chP_no (Or.inr q)] at e; cases e
      | true =>
        rw [chP_go q] at e
        obtain ⟨k1, k2⟩ := key_nxt (sg := sg) hx (hok _ q)
        cases u : p (nxt sg t x.1) with
        | inl g => rw [bnd_l u] at e; have := Sum.inl.inj e; subst this; exact h _ _ k2 u
        | inr z =>
          rw [bnd_r u] at e
          refine ih _ f ?_ e
          exact (hW _ z k2 u).2.1
  intro s f hs e
  unfold lvP at e
  cases u : p s with
  | inl g => rw [bnd_l u] at e; have := Sum.inl.inj e; subst this; exact h _ _ hs u
  | inr z => rw [bnd_r u] at e; exact chain n z f (hW _ z hs u).2.1 e
theorem testsP_B {sg : Nat → Nat} {t : Nat} {p : Nat → BO} (hW : BWp t p) (h : BBad t p) : BBad t (testsP sg t p) :=
  lvP_B okB_N (testP_W hW) (lvP_B okT_N (sumP_W hW) (lvP_B okS_N (prodP_W hW) (lvP_B okP_N hW h)))
theorem partP_B (sg : Nat → Nat) (t : Nat) : ∀ d, BBad t (partP sg t d) := by
  intro d
  induction d with
  | zero =>
    intro s f hs e
    unfold partP at e
    split at e
    · have := Sum.inl.inj e; subst this; unfold FOK; omega
    · have := Sum.inl.inj e; subst this; unfold FOK; omega
  | succ d ih =>
    intro s f hs e
    unfold partP at e
    split at e
    · cases e
    split at e
    · obtain ⟨k1, k2⟩ := key_nxt (sg := sg) hs (by omega)
      cases u : partP sg t d (nxt sg t s) with
      | inl g => rw [bnd_l u] at e; have := Sum.inl.inj e; subst this; exact ih _ _ k2 u
      | inr z => rw [bnd_r u] at e; cases e
    split at e
    · obtain ⟨k1, k2⟩ := key_nxt (sg := sg) hs (by omega)
      cases u : testsP sg t (partP sg t d) (nxt sg t s) with
      | inl g => rw [bnd_l u] at e; have := Sum.inl.inj e; subst this; exact testsP_B (partP_W sg t d) ih _ _ k2 u
      | inr z =>
        rw [bnd_r u] at e
        have := (testsP_W (partP_W sg t d) _ z k2 u).2.1
        split at e
        · cases e
        · have := Sum.inl.inj e; subst this; unfold FOK; omega
    split at e
    · cases e
    · have := Sum.inl.inj e; subst this; unfold FOK; omega
theorem toR_B {t f : Nat} {bs : List BX} {o : PO} (h : PBad t o) (e : toR bs o = Sum.inl f) : FOK t f := by
  cases o with
  | inl g => exact h f (by rw [show g = f from Sum.inl.inj e])
  | inr z => cases e
theorem lnP_B {sg : Nat → Nat} {t s f : Nat} {P : PS} {bs : List BX} (h : LI t s P bs) (e : lnP sg t s P bs = Sum.inl f) : FOK t f := by
  obtain ⟨h1, h2, h3, h4, h5⟩ := h
  unfold lnP at e
  split at e
  · exact toR_B (turnP_B h1 h2) e
  split at e
  · exact toR_B (rhymeP_B h2) e
  split at e
  · exact toR_B (wholeP_B h2) e
  split at e
  · exact toR_B (feetP_B h2) e
  split at e
  · exact toR_B (wordP_B h2) e
  split at e
  · rename_i c
    obtain ⟨n1, n2⟩ := key_nxt (sg := sg) h2 (show tkey sg t s ≠ 0 by omega)
    unfold barP at e
    split at e
    · have := Sum.inl.inj e; subst this; unfold FOK; omega
    · cases u : barT sg t (nxt sg t s) with
      | inl g => rw [u] at e; have := Sum.inl.inj e; subst this; exact testsP_B (partP_W sg t 5) (partP_B sg t 5) _ _ n2 u
      | inr y => rw [u] at e; cases e
  · have := Sum.inl.inj e; subst this; unfold FOK; omega
theorem lineR_B {sg : Nat → Nat} {t s f : Nat} {P : PS} {bs : List BX} (h : LI t s P bs) (e : lineR sg t s P bs = Sum.inl f) : FOK t f := by
  unfold lineR at e
  cases u : lnP sg t s P bs with
  | inl g => rw [u] at e; have := Sum.inl.inj e; subst this; exact lnP_B h u
  | inr z =>
    obtain ⟨a, b, c⟩ := z
    rw [u] at e
    have k := (lnP_W h u).1.2.1
    have e : (if tkey sg t a = 59 then Sum.inr (nxt sg t a, b, c) else Sum.inl (1 + 16 * a)) = (Sum.inl f : RO) := e
    by_cases q : tkey sg t a = 59
    · rw [if_pos q] at e; cases e
    · rw [if_neg q] at e; have := Sum.inl.inj e; subst this; unfold FOK; omega
theorem allL_B {sg : Nat → Nat} {t f : Nat} : ∀ n s P bs, t + 1 ≤ n + s → LI t s P bs → allL sg t n s P bs = Sum.inl f → FOK t f := by
  intro n
  induction n with
  | zero => intro s P bs a h; exact absurd h.2.1 (by omega)
  | succ n ih =>
    intro s P bs a h e
    by_cases c : tkey sg t s = 0
    · rw [allL_end c] at e; cases e
    · cases u : lineR sg t s P bs with
      | inl g => rw [allL_bad c u] at e; have := Sum.inl.inj e; subst this; exact lineR_B h u
      | inr z =>
        obtain ⟨s', P', bs'⟩ := z
        rw [allL_ok c u] at e
        obtain ⟨j1, j2⟩ := lineR_W h u
        exact ih s' P' bs' (by omega) j1 e
theorem readP_B {sg : Nat → Nat} {t f : Nat} (e : readP sg t = Sum.inl f) : FOK t f := by
  have l0 : tst sg t 0 ≤ t := (run_le (p := isBl) (sg := sg) (show 0 ≤ t by omega)).2
  have l1 := nxt_ge (sg := sg) l0
  have l2 := nxt_ge (sg := sg) l1.2
  have l3 := nxt_ge (sg := sg) l2.2
  have n1 := numK_le sg t 1 12 none (nxt sg t (tst sg t 0))
  unfold readP at e
  split at e
  · have := Sum.inl.inj e; subst this; unfold FOK; omega
  split at e
  · have := Sum.inl.inj e; subst this; unfold FOK; omega
  split at e
  · have := Sum.inl.inj e; subst this; unfold FOK; omega
  rename_i c1 c2 c3
  have rg := numK_rng (Classical.not_not.mp c2)
  exact allL_B _ _ _ _ (by omega) (LI_0 l3.2 rg.1 rg.2) e
