/-! ===== pure: the reference's way through a bar comes to the same ===== -/
abbrev AS : Type := List (Nat × Bool)
abbrev AO : Type := Sum Nat (Nat × List Nat)
def popN : AS → AS
  | [] => []
  | [x] => [x]
  | x :: y :: r => if x.1 = 1 then popN (y :: r) else x :: y :: r
def autM (sg : Nat → Nat) (t : Nat) : Nat → AS → Bool → Nat → List Nat → AO
  | 0 => fun _ _ _ _ => Sum.inl 0
  | g + 1 => fun st w s C =>
    if w = true then
      (if tkey sg t s = 2 ∨ tkey sg t s = 144 ∨ tkey sg t s = 40 ∨ 147 ≤ tkey sg t s then
        (if st.length = 6 then Sum.inl (5 + 16 * s)
        else if tkey sg t s = 144 then autM sg t g ((1, false) :: st) true (nxt sg t s) (C ++ [30])
        else if tkey sg t s = 40 then autM sg t g ((2, false) :: st) true (nxt sg t s) (C ++ [28])
        else autM sg t g (popN st) false (nxt sg t s) (C ++ [if tkey sg t s = 2 then 100 + v10 sg t s else tkey sg t s - 146]))
      else Sum.inl (1 + 16 * s))
    else if tkey sg t s = 43 ∨ tkey sg t s = 45 ∨ tkey sg t s = 42 then autM sg t g st true (nxt sg t s) (C ++ [opM (tkey sg t s)])
    else (match st with
      | [] => Sum.inl 0
      | x :: r =>
        if (tkey sg t s = 60 ∨ tkey sg t s = 61) ∧ x.2 = false then autM sg t g ((x.1, true) :: r) true (nxt sg t s) (C ++ [opM (tkey sg t s)])
        else if tkey sg t s = 145 ∨ tkey sg t s = 146 then autM sg t g ((x.1, false) :: r) true (nxt sg t s) (C ++ [opM (tkey sg t s)])
        else if tkey sg t s = 41 ∧ r ≠ [] then autM sg t g (popN r) false (nxt sg t s) (C ++ [29])
        else if tkey sg t s = 59 ∧ r = [] then Sum.inr (nxt sg t s, C)
        else Sum.inl (1 + 16 * s))
theorem popN_id {o : Nat} {c : Bool} {r : AS} (h : o ≠ 1 ∨ r = []) : popN ((o, c) :: r) = (o, c) :: r := by
  cases r with
  | nil => rfl
  | cons y r =>
    rcases h with h | h
    · show (if o = 1 then _ else _) = _; rw [if_neg h]
    · cases h
theorem popN_not {c : Bool} {st : AS} (h : st ≠ []) : popN ((1, c) :: st) = popN st := by
  cases st with
  | nil => exact absurd rfl h
  | cons y r => show (if 1 = 1 then _ else _) = _; rw [if_pos rfl]
def AA (sg : Nat → Nat) (t d : Nat) (p : Nat → BO) : Prop := ∀ g st s C, st ≠ [] → st.length + d = 6 → s ≤ t → t + 1 ≤ g + s →
  (∀ f, p s = Sum.inl f → autM sg t g st true s C = Sum.inl f) ∧ (∀ y, p s = Sum.inr y → ∃ g', t + 1 ≤ g' + y.1 ∧ autM sg t g st true s C = autM sg t g' (popN st) false y.1 (C ++ y.2.2.1))
def AL (sg : Nat → Nat) (t d : Nat) (X : Nat → Prop) (p : Nat → BO) : Prop := ∀ g o c r s C, (o ≠ 1 ∨ r = []) → r.length + 1 + d = 6 → s ≤ t → t + 1 ≤ g + s →
  (∀ f, p s = Sum.inl f → autM sg t g ((o, c) :: r) true s C = Sum.inl f) ∧ (∀ y, p s = Sum.inr y → X (tkey sg t y.1) ∧ ∃ g', t + 1 ≤ g' + y.1 ∧ autM sg t g ((o, c) :: r) true s C = autM sg t g' ((o, c) :: r) false y.1 (C ++ y.2.2.1))
def AB (sg : Nat → Nat) (t d : Nat) (X : Nat → Bool → Prop) (p : Nat → BO) : Prop := ∀ g o r s C, (o ≠ 1 ∨ r = []) → r.length + 1 + d = 6 → s ≤ t → t + 1 ≤ g + s →
  (∀ f, p s = Sum.inl f → autM sg t g ((o, false) :: r) true s C = Sum.inl f) ∧ (∀ y, p s = Sum.inr y → ∃ c', X (tkey sg t y.1) c' ∧ ∃ g', t + 1 ≤ g' + y.1 ∧ autM sg t g ((o, false) :: r) true s C = autM sg t g' ((o, c') :: r) false y.1 (C ++ y.2.2.1))
theorem AL_of {sg : Nat → Nat} {t d : Nat} {p : Nat → BO} (h : AA sg t d p) : AL sg t d (fun _ => True) p := by
  intro g o c r s C h1 h2 h3 h4
  obtain ⟨a, b⟩ := h g ((o, c) :: r) s C (by simp) (by simp only [List.length_cons]; omega) h3 h4
  refine ⟨a, fun y hy => ⟨trivial, ?_⟩⟩
  obtain ⟨g', k1, k2⟩ := b y hy
  rw [popN_id h1] at k2
  exact ⟨g', k1, k2⟩
theorem aut_op {sg : Nat → Nat} {t g s : Nat} {st : AS} {C : List Nat} (h : tkey sg t s = 43 ∨ tkey sg t s = 45 ∨ tkey sg t s = 42) : autM sg t (g + 1) st false s C = autM sg t g st true (nxt sg t s) (C ++ [opM (tkey sg t s)]) := by
  conv => lhs; unfold autM
  rw [if_neg (by decide), if_pos h]
theorem AL_lv {sg : Nat → Nat} {t d : Nat} {X : Nat → Prop} {p : Nat → BO} {ok : Nat → Bool} (ht : t ≤ 1000) (hW : BWp t p) (h : AL sg t d X p) (hok : ∀ k, ok k = true → k = 43 ∨ k = 45 ∨ k = 42) : AL sg t d (fun k => X k ∧ ok k = false) (lvP sg t ok p 1000) := by
  intro g o c r s C h1 h2 h3 h4
  have chain : ∀ n x g1, t < x.1 + n → x.1 ≤ t → X (tkey sg t x.1) → t + 1 ≤ g1 + x.1 → autM sg t g ((o, c) :: r) true s C = autM sg t g1 ((o, c) :: r) false x.1 (C ++ x.2.2.1) →
      (∀ f, chP sg t ok p n x = Sum.inl f → autM sg t g ((o, c) :: r) true s C = Sum.inl f) ∧ (∀ y, chP sg t ok p n x = Sum.inr y → (X (tkey sg t y.1) ∧ ok (tkey sg t y.1) = false) ∧ ∃ g', t + 1 ≤ g' + y.1 ∧ autM sg t g ((o, c) :: r) true s C = autM sg t g' ((o, c) :: r) false y.1 (C ++ y.2.2.1)) := by
    intro n
    induction n with
    | zero => intro x g1 a1 a2; omega
    | succ n ih =>
      intro x g1 a1 a2 a3 a4 a5
      cases q : ok (tkey sg t x.1) with
      | false =>
        rw [chP_no (Or.inr q)]
        refine ⟨fun f e => (by cases e), fun y e => ?_⟩
        have := Sum.inr.inj e
        subst this
        exact ⟨⟨a3, q⟩, g1, a4, a5⟩
      | true =>
        have kq := hok _ q
        obtain ⟨k1, k2⟩ := key_nxt (sg := sg) a2 (by omega)
        obtain ⟨g2, rfl⟩ : ∃ g2, g1 = g2 + 1 := ⟨g1 - 1, by omega⟩
        rw [aut_op kq] at a5
        obtain ⟨b1, b2⟩ := h g2 o c r (nxt sg t x.1) ((C ++ x.2.2.1) ++ [opM (tkey sg t x.1)]) h1 h2 k2 (by omega)
        rw [chP_go q]
        cases u : p (nxt sg t x.1) with
        | inl f0 =>
          refine ⟨fun f e => ?_, fun y e => ?_⟩
          · rw [bnd_l rfl] at e
            rw [a5, b1 f0 u]; rw [Sum.inl.inj e]
          · rw [bnd_l rfl] at e; cases e
        | inr z =>
          rw [bnd_r rfl]
          obtain ⟨w1, w2, w3, w4⟩ := hW _ z k2 u
          obtain ⟨x1, g3, x2, x3⟩ := b2 z u
          refine ih _ g3 ?_ w2 x1 x2 ?_
          · show t < z.1 + n; omega
          · rw [a5, x3]
            show autM sg t g3 ((o, c) :: r) false z.1 _ = autM sg t g3 ((o, c) :: r) false z.1 (C ++ (x.2.2.1 ++ (opM (tkey sg t x.1) :: z.2.2.1)))
            congr 1
            simp only [List.append_assoc, List.cons_append, List.nil_append]
  obtain ⟨b1, b2⟩ := h g o c r s C h1 h2 h3 h4
  unfold lvP
  cases u : p s with
  | inl f0 =>
    refine ⟨fun f e => ?_, fun y e => ?_⟩
    · rw [bnd_l rfl] at e
      rw [b1 f0 u]; rw [Sum.inl.inj e]
    · rw [bnd_l rfl] at e; cases e
  | inr z =>
    rw [bnd_r rfl]
    obtain ⟨w1, w2, w3, w4⟩ := hW _ z h3 u
    obtain ⟨x1, g3, x2, x3⟩ := b2 z u
    exact chain 1000 z g3 (by omega) w2 x1 x2 x3
def Xs (k : Nat) : Prop := (True ∧ okP k = false) ∧ okS k = false
theorem AL_sum {sg : Nat → Nat} {t d : Nat} {p : Nat → BO} (ht : t ≤ 1000) (hW : BWp t p) (h : AA sg t d p) : AL sg t d Xs (sumP sg t p) :=
  AL_lv ht (prodP_W hW) (AL_lv ht hW (AL_of h) (fun k q => by have := of_decide_eq_true q; omega)) (fun k q => by have := of_decide_eq_true q; omega)
def Xt (k : Nat) (c : Bool) : Prop := Xs k ∧ (c = false → okT k = false)
theorem Xs_no {k : Nat} (h : Xs k) : ¬ (k = 43 ∨ k = 45 ∨ k = 42) := by
  have a := of_decide_eq_false h.1.2
  have b := of_decide_eq_false h.2
  omega
theorem AB_test {sg : Nat → Nat} {t d : Nat} {p : Nat → BO} (ht : t ≤ 1000) (hW : BWp t p) (h : AA sg t d p) : AB sg t d Xt (testP sg t p) := by
  have hs := AL_sum ht hW h
  have hW2 : BWp t (sumP sg t p) := sumP_W hW
  intro g o r s C h1 h2 h3 h4
  obtain ⟨b1, b2⟩ := hs g o false r s C h1 h2 h3 h4
  have e0 : testP sg t p s = bnd (sumP sg t p s) (chP sg t okT (sumP sg t p) 1) := rfl
  rw [e0]
  cases u : sumP sg t p s with
  | inl f0 =>
    refine ⟨fun f e => ?_, fun y e => ?_⟩
    · rw [bnd_l rfl] at e
      rw [b1 f0 u]; rw [Sum.inl.inj e]
    · rw [bnd_l rfl] at e; cases e
  | inr x =>
    rw [bnd_r rfl]
    obtain ⟨w1, w2, w3, w4⟩ := hW2 _ x h3 u
    obtain ⟨x1, g1, x2, x3⟩ := b2 x u
    cases q : okT (tkey sg t x.1) with
    | false =>
      rw [chP_no (Or.inr q)]
      refine ⟨fun f e => (by cases e), fun y e => ?_⟩
      have := Sum.inr.inj e
      subst this
      exact ⟨false, ⟨x1, fun _ => q⟩, g1, x2, x3⟩
    | true =>
      have kq := of_decide_eq_true q
      obtain ⟨k1, k2⟩ := key_nxt (sg := sg) w2 (by omega)
      obtain ⟨g2, rfl⟩ : ∃ g2, g1 = g2 + 1 := ⟨g1 - 1, by omega⟩
      have a5 : autM sg t (g2 + 1) ((o, false) :: r) false x.1 (C ++ x.2.2.1) = autM sg t g2 ((o, true) :: r) true (nxt sg t x.1) ((C ++ x.2.2.1) ++ [opM (tkey sg t x.1)]) := by
        conv => lhs; unfold autM
        rw [if_neg (by decide), if_neg (by omega)]
        show (if (tkey sg t x.1 = 60 ∨ tkey sg t x.1 = 61) ∧ false = false then _ else _) = _
        rw [if_pos ⟨kq, rfl⟩]
      obtain ⟨c1, c2⟩ := hs g2 o true r (nxt sg t x.1) ((C ++ x.2.2.1) ++ [opM (tkey sg t x.1)]) h1 h2 k2 (by omega)
      rw [chP_go q]
      cases u2 : sumP sg t p (nxt sg t x.1) with
      | inl f0 =>
        refine ⟨fun f e => ?_, fun y e => ?_⟩
        · rw [bnd_l rfl] at e
          rw [x3, a5, c1 f0 u2]; rw [Sum.inl.inj e]
        · rw [bnd_l rfl] at e; cases e
      | inr z =>
        rw [bnd_r rfl]
        obtain ⟨y1, g3, y2, y3⟩ := c2 z u2
        refine ⟨fun f e => (by cases e), fun y e => ?_⟩
        have := Sum.inr.inj e
        subst this
        refine ⟨true, ⟨y1, fun w => by cases w⟩, g3, y2, ?_⟩
        rw [x3, a5, y3]
        show autM sg t g3 ((o, true) :: r) false z.1 _ = autM sg t g3 ((o, true) :: r) false z.1 (C ++ (x.2.2.1 ++ (opM (tkey sg t x.1) :: z.2.2.1)))
        congr 1
        simp only [List.append_assoc, List.cons_append, List.nil_append]
def Xb (k : Nat) (c : Bool) : Prop := Xt k c ∧ okB k = false
theorem AB_tests {sg : Nat → Nat} {t d : Nat} {p : Nat → BO} (ht : t ≤ 1000) (hW : BWp t p) (h : AA sg t d p) : AB sg t d Xb (testsP sg t p) := by
  have hs := AB_test ht hW h
  have hW2 : BWp t (testP sg t p) := testP_W hW
  intro g o r s C h1 h2 h3 h4
  have chain : ∀ n x g1 c1, t < x.1 + n → x.1 ≤ t → Xt (tkey sg t x.1) c1 → t + 1 ≤ g1 + x.1 → autM sg t g ((o, false) :: r) true s C = autM sg t g1 ((o, c1) :: r) false x.1 (C ++ x.2.2.1) →
      (∀ f, chP sg t okB (testP sg t p) n x = Sum.inl f → autM sg t g ((o, false) :: r) true s C = Sum.inl f) ∧ (∀ y, chP sg t okB (testP sg t p) n x = Sum.inr y → ∃ c', Xb (tkey sg t y.1) c' ∧ ∃ g', t + 1 ≤ g' + y.1 ∧ autM sg t g ((o, false) :: r) true s C = autM sg t g' ((o, c') :: r) false y.1 (C ++ y.2.2.1)) := by
    intro n
    induction n with
    | zero => intro x g1 c1 a1 a2; omega
    | succ n ih =>
      intro x g1 c1 a1 a2 a3 a4 a5
      cases q : okB (tkey sg t x.1) with
      | false =>
        rw [chP_no (Or.inr q)]
        refine ⟨fun f e => (by cases e), fun y e => ?_⟩
        have := Sum.inr.inj e
        subst this
        exact ⟨c1, ⟨a3, q⟩, g1, a4, a5⟩
      | true =>
        have kq := of_decide_eq_true q
        obtain ⟨k1, k2⟩ := key_nxt (sg := sg) a2 (by omega)
        obtain ⟨g2, rfl⟩ : ∃ g2, g1 = g2 + 1 := ⟨g1 - 1, by omega⟩
        have a6 : autM sg t (g2 + 1) ((o, c1) :: r) false x.1 (C ++ x.2.2.1) = autM sg t g2 ((o, false) :: r) true (nxt sg t x.1) ((C ++ x.2.2.1) ++ [opM (tkey sg t x.1)]) := by
          conv => lhs; unfold autM
          rw [if_neg (by decide), if_neg (by omega)]
          show (if (tkey sg t x.1 = 60 ∨ tkey sg t x.1 = 61) ∧ c1 = false then _ else _) = _
          rw [if_neg (by omega), if_pos kq]
        rw [a6] at a5
        obtain ⟨b1, b2⟩ := hs g2 o r (nxt sg t x.1) ((C ++ x.2.2.1) ++ [opM (tkey sg t x.1)]) h1 h2 k2 (by omega)
        rw [chP_go q]
        cases u : testP sg t p (nxt sg t x.1) with
        | inl f0 =>
          refine ⟨fun f e => ?_, fun y e => ?_⟩
          · rw [bnd_l rfl] at e
            rw [a5, b1 f0 u]; rw [Sum.inl.inj e]
          · rw [bnd_l rfl] at e; cases e
        | inr z =>
          rw [bnd_r rfl]
          obtain ⟨w1, w2, w3, w4⟩ := hW2 _ z k2 u
          obtain ⟨c2, x1, g3, x2, x3⟩ := b2 z u
          refine ih _ g3 c2 ?_ w2 x1 x2 ?_
          · show t < z.1 + n; omega
          · rw [a5, x3]
            show autM sg t g3 ((o, c2) :: r) false z.1 _ = autM sg t g3 ((o, c2) :: r) false z.1 (C ++ (x.2.2.1 ++ (opM (tkey sg t x.1) :: z.2.2.1)))
            congr 1
            simp only [List.append_assoc, List.cons_append, List.nil_append]
  obtain ⟨b1, b2⟩ := hs g o r s C h1 h2 h3 h4
  have e0 : testsP sg t p s = bnd (testP sg t p s) (chP sg t okB (testP sg t p) 1000) := rfl
  rw [e0]
  cases u : testP sg t p s with
  | inl f0 =>
    refine ⟨fun f e => ?_, fun y e => ?_⟩
    · rw [bnd_l rfl] at e
      rw [b1 f0 u]; rw [Sum.inl.inj e]
    · rw [bnd_l rfl] at e; cases e
  | inr z =>
    rw [bnd_r rfl]
    obtain ⟨w1, w2, w3, w4⟩ := hW2 _ z h3 u
    obtain ⟨c2, x1, g3, x2, x3⟩ := b2 z u
    exact chain 1000 z g3 c2 (by omega) w2 x1 x2 x3
theorem aut_end {sg : Nat → Nat} {t g s o : Nat} {c : Bool} {r : AS} {C : List Nat} (h : Xb (tkey sg t s) c) : autM sg t (g + 1) ((o, c) :: r) false s C = if tkey sg t s = 41 ∧ r ≠ [] then autM sg t g (popN r) false (nxt sg t s) (C ++ [29]) else if tkey sg t s = 59 ∧ r = [] then Sum.inr (nxt sg t s, C) else Sum.inl (1 + 16 * s) := by
  have a := Xs_no h.1.1
  have b : ¬ ((tkey sg t s = 60 ∨ tkey sg t s = 61) ∧ c = false) := fun q => of_decide_eq_false (h.1.2 q.2) q.1
  have d : ¬ (tkey sg t s = 145 ∨ tkey sg t s = 146) := of_decide_eq_false h.2
  conv => lhs; unfold autM
  rw [if_neg (by decide), if_neg a]
  show (if (tkey sg t s = 60 ∨ tkey sg t s = 61) ∧ c = false then _ else _) = _
  rw [if_neg b, if_neg d]
theorem AA_part {sg : Nat → Nat} {t : Nat} (ht : t ≤ 1000) : ∀ d, AA sg t d (partP sg t d) := by
  intro d
  induction d with
  | zero =>
    intro g st s C h0 h1 h2 h3
    obtain ⟨g2, rfl⟩ : ∃ g2, g = g2 + 1 := ⟨g - 1, by omega⟩
    have e0 : partP sg t 0 s = if tkey sg t s = 2 ∨ tkey sg t s = 144 ∨ tkey sg t s = 40 ∨ 147 ≤ tkey sg t s then Sum.inl (5 + 16 * s) else Sum.inl (1 + 16 * s) := rfl
    have e1 : autM sg t (g2 + 1) st true s C = if tkey sg t s = 2 ∨ tkey sg t s = 144 ∨ tkey sg t s = 40 ∨ 147 ≤ tkey sg t s then Sum.inl (5 + 16 * s) else Sum.inl (1 + 16 * s) := by
      conv => lhs; unfold autM
      rw [if_pos rfl, if_pos (show st.length = 6 by omega)]
    rw [e0, e1]
    by_cases q : tkey sg t s = 2 ∨ tkey sg t s = 144 ∨ tkey sg t s = 40 ∨ 147 ≤ tkey sg t s
    · rw [if_pos q, if_pos q]
      exact ⟨fun f e => by rw [Sum.inl.inj e], fun y e => by cases e⟩
    · rw [if_neg q, if_neg q]
      exact ⟨fun f e => by rw [Sum.inl.inj e], fun y e => by cases e⟩
  | succ d ih =>
    intro g st s C h0 h1 h2 h3
    have hWd := partP_W sg t d
    obtain ⟨g2, rfl⟩ : ∃ g2, g = g2 + 1 := ⟨g - 1, by omega⟩
    have e0 : partP sg t (d + 1) s = partP sg t (d + 1) s := rfl
    conv at e0 => rhs; unfold partP
    have e1 : autM sg t (g2 + 1) st true s C = autM sg t (g2 + 1) st true s C := rfl
    conv at e1 => rhs; unfold autM
    rw [if_pos rfl, if_neg (show ¬ st.length = 6 by omega)] at e1
    rw [e0, e1]
    by_cases q2 : tkey sg t s = 2
    · obtain ⟨k1, k2⟩ := key_nxt (sg := sg) h2 (by omega)
      rw [if_pos q2, if_pos (Or.inl q2), if_neg (by omega), if_neg (by omega), if_pos q2]
      refine ⟨fun f e => (by cases e), fun y e => ?_⟩
      have := Sum.inr.inj e
      subst this
      exact ⟨g2, by show t + 1 ≤ g2 + nxt sg t s; omega, rfl⟩
    rw [if_neg q2]
    by_cases q144 : tkey sg t s = 144
    · obtain ⟨k1, k2⟩ := key_nxt (sg := sg) h2 (by omega)
      rw [if_pos q144, if_pos (Or.inr (Or.inl q144)), if_pos q144]
      obtain ⟨b1, b2⟩ := ih g2 ((1, false) :: st) (nxt sg t s) (C ++ [30]) (by simp) (by simp only [List.length_cons]; omega) k2 (by omega)
      cases u : partP sg t d (nxt sg t s) with
      | inl f0 =>
        refine ⟨fun f e => ?_, fun y e => ?_⟩
        · rw [bnd_l rfl] at e
          rw [b1 f0 u]; rw [Sum.inl.inj e]
        · rw [bnd_l rfl] at e; cases e
      | inr z =>
        rw [bnd_r rfl]
        obtain ⟨g3, x2, x3⟩ := b2 z u
        refine ⟨fun f e => (by cases e), fun y e => ?_⟩
        have := Sum.inr.inj e
        subst this
        refine ⟨g3, x2, ?_⟩
        rw [x3, popN_not h0]
        show autM sg t g3 (popN st) false z.1 _ = autM sg t g3 (popN st) false z.1 (C ++ (30 :: z.2.2.1))
        congr 1
        simp only [List.append_assoc, List.cons_append, List.nil_append]
    rw [if_neg q144]
    by_cases q40 : tkey sg t s = 40
    · obtain ⟨k1, k2⟩ := key_nxt (sg := sg) h2 (by omega)
      rw [if_pos q40, if_pos (Or.inr (Or.inr (Or.inl q40))), if_neg q144, if_pos q40]
      obtain ⟨b1, b2⟩ := AB_tests ht hWd ih g2 2 st (nxt sg t s) (C ++ [28]) (Or.inl (by omega)) (by omega) k2 (by omega)
      cases u : testsP sg t (partP sg t d) (nxt sg t s) with
      | inl f0 =>
        refine ⟨fun f e => ?_, fun y e => ?_⟩
        · rw [bnd_l rfl] at e
          rw [b1 f0 u]; rw [Sum.inl.inj e]
        · rw [bnd_l rfl] at e; cases e
      | inr z =>
        rw [bnd_r rfl]
        obtain ⟨w1, w2, w3, w4⟩ := testsP_W hWd _ z k2 u
        obtain ⟨c1, x1, g3, x2, x3⟩ := b2 z u
        obtain ⟨g4, rfl⟩ : ∃ g4, g3 = g4 + 1 := ⟨g3 - 1, by omega⟩
        rw [x3, aut_end x1]
        by_cases q41 : tkey sg t z.1 = 41
        · obtain ⟨k3, k4⟩ := key_nxt (sg := sg) w2 (by omega)
          rw [if_pos q41, if_pos ⟨q41, h0⟩]
          refine ⟨fun f e => (by cases e), fun y e => ?_⟩
          have := Sum.inr.inj e
          subst this
          refine ⟨g4, by show t + 1 ≤ g4 + nxt sg t z.1; omega, ?_⟩
          show autM sg t g4 (popN st) false (nxt sg t z.1) _ = autM sg t g4 (popN st) false (nxt sg t z.1) (C ++ (28 :: (z.2.2.1 ++ [29])))
          congr 1
          simp only [List.append_assoc, List.cons_append, List.nil_append]
        · rw [if_neg q41, if_neg (fun w => q41 w.1), if_neg (fun w => h0 w.2)]
          exact ⟨fun f e => by rw [Sum.inl.inj e], fun y e => by cases e⟩
    rw [if_neg q40]
    by_cases q147 : 147 ≤ tkey sg t s
    · obtain ⟨k1, k2⟩ := key_nxt (sg := sg) h2 (by omega)
      rw [if_pos q147, if_pos (Or.inr (Or.inr (Or.inr q147))), if_neg q144, if_neg q40, if_neg q2]
      refine ⟨fun f e => (by cases e), fun y e => ?_⟩
      have := Sum.inr.inj e
      subst this
      exact ⟨g2, by show t + 1 ≤ g2 + nxt sg t s; omega, rfl⟩
    · rw [if_neg q147, if_neg (by omega)]
      exact ⟨fun f e => by rw [Sum.inl.inj e], fun y e => by cases e⟩
/-- what a bar's line comes to in the reference: behind it its end is taken -/
theorem aut_bar {sg : Nat → Nat} {t s : Nat} (ht : t ≤ 1000) (hs : s ≤ t) :
    (∀ f, barT sg t s = Sum.inl f → autM sg t (t + 1) [(0, false)] true s [] = Sum.inl f) ∧ (∀ y, barT sg t s = Sum.inr y → autM sg t (t + 1) [(0, false)] true s [] = if tkey sg t y.1 = 59 then Sum.inr (nxt sg t y.1, y.2.2.1) else Sum.inl (1 + 16 * y.1)) := by
  obtain ⟨b1, b2⟩ := AB_tests ht (partP_W sg t 5) (AA_part ht 5) (t + 1) 0 [] s [] (Or.inr rfl) rfl hs (by omega)
  refine ⟨b1, fun y hy => ?_⟩
  obtain ⟨w1, w2, w3, w4⟩ := testsP_W (partP_W sg t 5) _ y hs hy
  obtain ⟨c1, x1, g3, x2, x3⟩ := b2 y hy
  obtain ⟨g4, rfl⟩ : ∃ g4, g3 = g4 + 1 := ⟨g3 - 1, by omega⟩
  rw [x3, aut_end x1, if_neg (fun w => w.2 rfl)]
  by_cases q : tkey sg t y.1 = 59
  · rw [if_pos q, if_pos ⟨q, rfl⟩]; rfl
  · rw [if_neg q, if_neg (fun w => q w.1)]
