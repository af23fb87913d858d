/-! ===== pure: what the codes of a bar come to, on the class's stack and in the reference's rows ===== -/
theorem chP_ind {sg : Nat → Nat} {t : Nat} {ok : Nat → Bool} {p : Nat → BO} {Pr : BX → Prop} (hst : ∀ x y s, Pr x → p s = Sum.inr y → ok (tkey sg t x.1) = true → Pr (y.1, x.2.1 ++ (y.2.1 ++ [10000 + tkey sg t x.1]), x.2.2.1 ++ (opM (tkey sg t x.1) :: y.2.2.1), fun e => jnV (tkey sg t x.1) (x.2.2.2 e) (y.2.2.2 e))) : ∀ n x y, Pr x → chP sg t ok p n x = Sum.inr y → Pr y := by
  intro n
  induction n with
  | zero => intro x y h e; have : x = y := Sum.inr.inj e; subst this; exact h
  | succ n ih =>
    intro x y h e
    unfold chP at e
    split at e
    · rename_i c
      cases q : p (nxt sg t x.1) with
      | inl f => rw [bnd_l q] at e; cases e
      | inr z => rw [bnd_r q] at e; exact ih _ _ (hst x z _ h q c) e
    · have : x = y := Sum.inr.inj e; subst this; exact h
theorem lvP_ind {sg : Nat → Nat} {t : Nat} {ok : Nat → Bool} {p : Nat → BO} {Pr : BX → Prop} {n s : Nat} {y : BX} (h0 : ∀ s y, p s = Sum.inr y → Pr y) (hst : ∀ x y s, Pr x → p s = Sum.inr y → ok (tkey sg t x.1) = true → Pr (y.1, x.2.1 ++ (y.2.1 ++ [10000 + tkey sg t x.1]), x.2.2.1 ++ (opM (tkey sg t x.1) :: y.2.2.1), fun e => jnV (tkey sg t x.1) (x.2.2.2 e) (y.2.2.2 e))) (e : lvP sg t ok p n s = Sum.inr y) : Pr y := by
  unfold lvP at e
  cases q : p s with
  | inl f => rw [bnd_l q] at e; cases e
  | inr z => rw [bnd_r q] at e; exact chP_ind hst n z y (h0 s z q) e
def rE (ev : EV) : List Nat → List Int32 → Option Bool
  | [], _ => some false
  | c :: r, st =>
    if c < 10000 then (if st.length < 32 then rE ev r (nI c :: st) else none)
    else if 10147 ≤ c then (if st.length < 32 then rE ev r (ev (c - 10146) :: st) else none)
    else if c = 10144 then (match st with
      | a :: q => rE ev r ((if a = 0 then 1 else 0) :: q)
      | [] => none)
    else if c = 10059 then (match st with
      | a :: q => if a = 0 then rE ev r q else some true
      | [] => none)
    else (match st with
      | b :: a :: q => rE ev r (jnV (c - 10000) a b :: q)
      | _ => none)
def EvE (m : Nat) (y : BX) : Prop := ∀ ev r st, st.length ≤ m → rE ev (y.2.1 ++ r) st = rE ev r (y.2.2.2 ev :: st)
def okC (ok : Nat → Bool) : Prop := ∀ k, ok k = true → k < 147 ∧ k ≠ 144 ∧ k ≠ 59
theorem okP_C : okC okP := fun k h => by have := of_decide_eq_true h; omega
theorem okS_C : okC okS := fun k h => by have := of_decide_eq_true h; omega
theorem okT_C : okC okT := fun k h => by have := of_decide_eq_true h; omega
theorem okB_C : okC okB := fun k h => by have := of_decide_eq_true h; omega
theorem lvP_E {sg : Nat → Nat} {t m n : Nat} {ok : Nat → Bool} {p : Nat → BO} (ho : okC ok) (hp : ∀ s y, p s = Sum.inr y → EvE (m + 1) y) : ∀ s y, lvP sg t ok p n s = Sum.inr y → EvE m y := by
  intro s y e
  refine lvP_ind (Pr := EvE m) (fun s y q ev r st h => hp s y q ev r st (by omega)) ?_ e
  intro x z s' hx hz c ev r st h
  obtain ⟨c1, c2, c3⟩ := ho _ c
  show rE ev ((x.2.1 ++ (z.2.1 ++ [10000 + tkey sg t x.1])) ++ r) st = rE ev r (jnV (tkey sg t x.1) (x.2.2.2 ev) (z.2.2.2 ev) :: st)
  rw [List.append_assoc, hx ev _ st h, List.append_assoc, hp s' z hz ev _ _ (by simp only [List.length_cons]; omega)]
  show rE ev ((10000 + tkey sg t x.1) :: r) (z.2.2.2 ev :: x.2.2.2 ev :: st) = _
  conv => lhs; unfold rE
  rw [if_neg (by omega), if_neg (by omega), if_neg (by omega), if_neg (by omega), show 10000 + tkey sg t x.1 - 10000 = tkey sg t x.1 by omega]
theorem testsP_E {sg : Nat → Nat} {t m : Nat} {p : Nat → BO} (hp : ∀ s y, p s = Sum.inr y → EvE (m + 4) y) : ∀ s y, testsP sg t p s = Sum.inr y → EvE m y :=
  lvP_E okB_C (lvP_E okT_C (lvP_E okS_C (lvP_E okP_C hp)))
theorem partP_E (sg : Nat → Nat) (t : Nat) : ∀ d m, m + 4 * d ≤ 31 → ∀ s y, partP sg t d s = Sum.inr y → EvE m y := by
  intro d
  induction d with
  | zero =>
    intro m hm s y e
    unfold partP at e
    split at e <;> cases e
  | succ d ih =>
    intro m hm s y e
    unfold partP at e
    split at e
    · rename_i c
      have lv := v10_lt (tkey_num.mp c)
      have := Sum.inr.inj e
      subst this
      intro ev r st h
      show rE ev (v10 sg t s :: r) st = rE ev r (nI (v10 sg t s) :: st)
      conv => lhs; unfold rE
      rw [if_pos lv, if_pos (by omega)]
    · split at e
      · cases q : partP sg t d (nxt sg t s) with
        | inl f => rw [bnd_l q] at e; cases e
        | inr z =>
          rw [bnd_r q] at e
          have hz := ih m (by omega) _ z q
          have := Sum.inr.inj e
          subst this
          intro ev r st h
          show rE ev ((z.2.1 ++ [10144]) ++ r) st = rE ev r ((if z.2.2.2 ev = 0 then 1 else 0) :: st)
          rw [List.append_assoc, hz ev _ st h]
          show rE ev (10144 :: r) (z.2.2.2 ev :: st) = _
          conv => lhs; unfold rE
          rw [if_neg (by omega), if_neg (by omega), if_pos rfl]
      · split at e
        · cases q : testsP sg t (partP sg t d) (nxt sg t s) with
          | inl f => rw [bnd_l q] at e; cases e
          | inr z =>
            rw [bnd_r q] at e
            have hz := testsP_E (m := m) (ih (m + 4) (by omega)) _ z q
            split at e
            · have := Sum.inr.inj e
              subst this
              exact hz
            · cases e
        · split at e
          · rename_i c
            have := Sum.inr.inj e
            subst this
            intro ev r st h
            show rE ev ((10000 + tkey sg t s) :: r) st = rE ev r (ev (tkey sg t s - 146) :: st)
            conv => lhs; unfold rE
            rw [if_neg (by omega), if_pos (by omega), if_pos (by omega), show 10000 + tkey sg t s - 10146 = tkey sg t s - 146 by omega]
          · cases e
/-- the reference's row of a depth: is a product open, its last part, and what is open ahead of it: the sum, what it is held against, what it is joined with; is the depth a not's -/
abbrev Fr : Type := Bool × Option Int32 × (Int32 → Int32) × (Int32 → Int32) × (Int32 → Int32) × Bool
def newF (nt : Bool) : Fr := (false, none, fun x => x, fun x => x, fun x => x, nt)
def mulF (f : Fr) (v : Int32) : Option Fr :=
  if f.1 = true then f.2.1.bind (fun c => some (true, some (c * v), f.2.2)) else some (false, some v, f.2.2)
def putM (v : Int32) : List Fr → Option (List Fr)
  | [] => none
  | f :: [] => (mulF f v).bind (fun g => some [g])
  | f :: g :: r => if f.2.2.2.2.2 = true then putM (if v = 0 then 1 else 0) (g :: r) else (mulF f v).bind (fun h => some (h :: g :: r))
def finF (f : Fr) (c : Int32) : Int32 := f.2.2.2.2.1 (f.2.2.2.1 (f.2.2.1 c))
def opF (k : Nat) (f : Fr) (c : Int32) : Fr :=
  if k = 20 then (false, f.2.1, (fun x => f.2.2.1 c + x), f.2.2.2)
  else if k = 21 then (false, f.2.1, (fun x => f.2.2.1 c - x), f.2.2.2)
  else if k = 22 then (true, f.2)
  else if k = 24 then (false, f.2.1, (fun x => x), (fun x => if x ≤ f.2.2.1 c then 0 else 1), f.2.2.2.2)
  else if k = 25 then (false, f.2.1, (fun x => x), (fun x => if f.2.2.1 c = x then 1 else 0), f.2.2.2.2)
  else if k = 26 then (false, f.2.1, (fun x => x), (fun x => x), (fun x => jnV 145 (finF f c) x), f.2.2.2.2.2)
  else (false, f.2.1, (fun x => x), (fun x => x), (fun x => jnV 146 (finF f c) x), f.2.2.2.2.2)
def runM (ev : EV) : List Nat → List Fr → Option Int32
  | [], st => (match st with
    | [f] => f.2.1.bind (fun c => some (finF f c))
    | _ => none)
  | k :: r, st =>
    if k = 28 ∨ k = 30 then (if st.length ≤ 6 then runM ev r (newF (decide (k = 30)) :: st) else none)
    else if k = 29 then (match st with
      | f :: q => f.2.1.bind (fun c => (putM (finF f c) q).bind (runM ev r))
      | [] => none)
    else if 20 ≤ k ∧ k ≤ 27 then (match st with
      | f :: q => f.2.1.bind (fun c => runM ev r (opF k f c :: q))
      | [] => none)
    else (putM (if 100 ≤ k then nI (k - 100) else ev k) st).bind (runM ev r)
/-- a part: it is put at the row's end -/
def MvA (d : Nat) (y : BX) : Prop := ∀ ev r st, st ≠ [] → st.length + d ≤ 6 → runM ev (y.2.2.1 ++ r) st = (putM (y.2.2.2 ev) st).bind (runM ev r)
def MvP (d : Nat) (y : BX) : Prop := ∀ ev r c0 u w a nt q, (nt = true → q = []) → q.length + 1 + d ≤ 6 → ∃ tb, runM ev (y.2.2.1 ++ r) ((false, c0, u, w, a, nt) :: q) = runM ev r ((tb, some (y.2.2.2 ev), u, w, a, nt) :: q)
def MvS (d : Nat) (y : BX) : Prop := ∀ ev r c0 w a nt q, (nt = true → q = []) → q.length + 1 + d ≤ 6 → ∃ tb c u, u c = y.2.2.2 ev ∧ runM ev (y.2.2.1 ++ r) ((false, c0, (fun x => x), w, a, nt) :: q) = runM ev r ((tb, some c, u, w, a, nt) :: q)
def MvT (d : Nat) (y : BX) : Prop := ∀ ev r c0 a nt q, (nt = true → q = []) → q.length + 1 + d ≤ 6 → ∃ tb c u w, w (u c) = y.2.2.2 ev ∧ runM ev (y.2.2.1 ++ r) ((false, c0, (fun x => x), (fun x => x), a, nt) :: q) = runM ev r ((tb, some c, u, w, a, nt) :: q)
def MvB (d : Nat) (y : BX) : Prop := ∀ ev r c0 nt q, (nt = true → q = []) → q.length + 1 + d ≤ 6 → ∃ tb c u w a, a (w (u c)) = y.2.2.2 ev ∧ runM ev (y.2.2.1 ++ r) ((false, c0, (fun x => x), (fun x => x), (fun x => x), nt) :: q) = runM ev r ((tb, some c, u, w, a, nt) :: q)
theorem putM_top {v : Int32} {f : Fr} {q : List Fr} (h : f.2.2.2.2.2 = true → q = []) : putM v (f :: q) = (mulF f v).bind (fun g => some (g :: q)) := by
  cases q with
  | nil => rfl
  | cons g r =>
    show (if f.2.2.2.2.2 = true then _ else _) = _
    rw [if_neg (fun e => by cases h e)]
theorem runM_op {ev : EV} {k : Nat} {r : List Nat} {tb : Bool} {c : Int32} {z : (Int32 → Int32) × (Int32 → Int32) × (Int32 → Int32) × Bool} {q : List Fr} (hk : 20 ≤ k ∧ k ≤ 27) : runM ev (k :: r) ((tb, some c, z) :: q) = runM ev r (opF k (tb, some c, z) c :: q) := by
  conv => lhs; unfold runM
  rw [if_neg (by omega), if_neg (by omega), if_pos hk]
  rfl
theorem prodP_M {sg : Nat → Nat} {t d : Nat} {p : Nat → BO} (hp : ∀ s y, p s = Sum.inr y → MvA d y) : ∀ s y, prodP sg t p s = Sum.inr y → MvP d y := by
  intro s y e
  refine lvP_ind (Pr := MvP d) ?_ ?_ e
  · intro s y hy ev r c0 u w a nt q hn hq
    refine ⟨false, ?_⟩
    rw [hp s y hy ev r _ (by simp) (by simp only [List.length_cons]; omega), putM_top hn]
    rfl
  · intro x z s' hx hz c ev r c0 u w a nt q hn hq
    have ck := of_decide_eq_true c
    obtain ⟨tb, e1⟩ := hx ev (opM (tkey sg t x.1) :: (z.2.2.1 ++ r)) c0 u w a nt q hn hq
    refine ⟨true, ?_⟩
    show runM ev ((x.2.2.1 ++ (opM (tkey sg t x.1) :: z.2.2.1)) ++ r) _ = runM ev r ((true, some (jnV (tkey sg t x.1) (x.2.2.2 ev) (z.2.2.2 ev)), u, w, a, nt) :: q)
    rw [List.append_assoc, List.cons_append, e1, ck]
    show runM ev (22 :: (z.2.2.1 ++ r)) _ = _
    rw [runM_op (by omega)]
    show runM ev (z.2.2.1 ++ r) ((true, some (x.2.2.2 ev), u, w, a, nt) :: q) = _
    rw [hp s' z hz ev r _ (by simp) (by simp only [List.length_cons]; omega), putM_top hn]
    rfl
theorem sumP_M {sg : Nat → Nat} {t d : Nat} {p : Nat → BO} (hp : ∀ s y, p s = Sum.inr y → MvA d y) : ∀ s y, sumP sg t p s = Sum.inr y → MvS d y := by
  intro s y e
  refine lvP_ind (Pr := MvS d) ?_ ?_ e
  · intro s y hy ev r c0 w a nt q hn hq
    obtain ⟨tb, e1⟩ := prodP_M hp s y hy ev r c0 (fun x => x) w a nt q hn hq
    exact ⟨tb, _, _, rfl, e1⟩
  · intro x z s' hx hz c ev r c0 w a nt q hn hq
    have ck := of_decide_eq_true c
    obtain ⟨tb, c1, u1, hu, e1⟩ := hx ev (opM (tkey sg t x.1) :: (z.2.2.1 ++ r)) c0 w a nt q hn hq
    show ∃ (tb : Bool) (c : Int32) (u : Int32 → Int32), u c = jnV (tkey sg t x.1) (x.2.2.2 ev) (z.2.2.2 ev) ∧ runM ev ((x.2.2.1 ++ (opM (tkey sg t x.1) :: z.2.2.1)) ++ r) _ = _
    rcases ck with ck | ck
    · rw [ck] at e1 ⊢
      rw [show runM ev (opM 43 :: (z.2.2.1 ++ r)) _ = _ from runM_op (by decide)] at e1
      obtain ⟨tb2, e2⟩ := prodP_M hp s' z hz ev r (some c1) (fun x => u1 c1 + x) w a nt q hn hq
      refine ⟨tb2, z.2.2.2 ev, fun x => u1 c1 + x, by rw [hu]; rfl, ?_⟩
      rw [List.append_assoc, List.cons_append, e1]
      exact e2
    · rw [ck] at e1 ⊢
      rw [show runM ev (opM 45 :: (z.2.2.1 ++ r)) _ = _ from runM_op (by decide)] at e1
      obtain ⟨tb2, e2⟩ := prodP_M hp s' z hz ev r (some c1) (fun x => u1 c1 - x) w a nt q hn hq
      refine ⟨tb2, z.2.2.2 ev, fun x => u1 c1 - x, by rw [hu]; rfl, ?_⟩
      rw [List.append_assoc, List.cons_append, e1]
      exact e2
theorem testP_M {sg : Nat → Nat} {t d : Nat} {p : Nat → BO} (hp : ∀ s y, p s = Sum.inr y → MvA d y) : ∀ s y, testP sg t p s = Sum.inr y → MvT d y := by
  intro s y e
  unfold testP lvP at e
  cases q1 : sumP sg t p s with
  | inl f => rw [bnd_l q1] at e; cases e
  | inr x =>
    rw [bnd_r q1] at e
    have hx := sumP_M hp s x q1
    unfold chP at e
    split at e
    · rename_i c
      have ck := of_decide_eq_true c
      cases q2 : sumP sg t p (nxt sg t x.1) with
      | inl f => rw [bnd_l q2] at e; cases e
      | inr z =>
        rw [bnd_r q2] at e
        have hz := sumP_M hp _ z q2
        have := Sum.inr.inj e
        subst this
        intro ev r c0 a nt q hn hq
        obtain ⟨tb, c1, u1, hu, e1⟩ := hx ev (opM (tkey sg t x.1) :: (z.2.2.1 ++ r)) c0 (fun x => x) a nt q hn hq
        show ∃ (tb : Bool) (c : Int32) (u w : Int32 → Int32), w (u c) = jnV (tkey sg t x.1) (x.2.2.2 ev) (z.2.2.2 ev) ∧ runM ev ((x.2.2.1 ++ (opM (tkey sg t x.1) :: z.2.2.1)) ++ r) _ = _
        rcases ck with ck | ck
        · rw [ck] at e1 ⊢
          rw [show runM ev (opM 60 :: (z.2.2.1 ++ r)) _ = _ from runM_op (by decide)] at e1
          obtain ⟨tb2, c2, u2, hu2, e2⟩ := hz ev r (some c1) (fun x => if x ≤ u1 c1 then 0 else 1) a nt q hn hq
          refine ⟨tb2, c2, u2, fun x => if x ≤ u1 c1 then 0 else 1, by rw [hu, hu2]; rfl, ?_⟩
          rw [List.append_assoc, List.cons_append, e1]
          exact e2
        · rw [ck] at e1 ⊢
          rw [show runM ev (opM 61 :: (z.2.2.1 ++ r)) _ = _ from runM_op (by decide)] at e1
          obtain ⟨tb2, c2, u2, hu2, e2⟩ := hz ev r (some c1) (fun x => if u1 c1 = x then 1 else 0) a nt q hn hq
          refine ⟨tb2, c2, u2, fun x => if u1 c1 = x then 1 else 0, by rw [hu, hu2]; rfl, ?_⟩
          rw [List.append_assoc, List.cons_append, e1]
          exact e2
    · have := Sum.inr.inj e
      subst this
      intro ev r c0 a nt q hn hq
      obtain ⟨tb, c1, u1, hu, e1⟩ := hx ev r c0 (fun x => x) a nt q hn hq
      exact ⟨tb, c1, u1, fun x => x, hu, e1⟩
theorem testsP_M {sg : Nat → Nat} {t d : Nat} {p : Nat → BO} (hp : ∀ s y, p s = Sum.inr y → MvA d y) : ∀ s y, testsP sg t p s = Sum.inr y → MvB d y := by
  intro s y e
  refine lvP_ind (Pr := MvB d) ?_ ?_ e
  · intro s y hy ev r c0 nt q hn hq
    obtain ⟨tb, c1, u1, w1, hu, e1⟩ := testP_M hp s y hy ev r c0 (fun x => x) nt q hn hq
    exact ⟨tb, c1, u1, w1, fun x => x, hu, e1⟩
  · intro x z s' hx hz c ev r c0 nt q hn hq
    have ck := of_decide_eq_true c
    obtain ⟨tb, c1, u1, w1, a1, hu, e1⟩ := hx ev (opM (tkey sg t x.1) :: (z.2.2.1 ++ r)) c0 nt q hn hq
    show ∃ (tb : Bool) (c : Int32) (u w a : Int32 → Int32), a (w (u c)) = jnV (tkey sg t x.1) (x.2.2.2 ev) (z.2.2.2 ev) ∧ runM ev ((x.2.2.1 ++ (opM (tkey sg t x.1) :: z.2.2.1)) ++ r) _ = _
    rcases ck with ck | ck
    · rw [ck] at e1 ⊢
      rw [show runM ev (opM 145 :: (z.2.2.1 ++ r)) _ = _ from runM_op (by decide)] at e1
      obtain ⟨tb2, c2, u2, w2, hu2, e2⟩ := testP_M hp s' z hz ev r (some c1) (fun x => jnV 145 (a1 (w1 (u1 c1))) x) nt q hn hq
      refine ⟨tb2, c2, u2, w2, fun x => jnV 145 (a1 (w1 (u1 c1))) x, by rw [hu, hu2], ?_⟩
      rw [List.append_assoc, List.cons_append, e1]
      exact e2
    · rw [ck] at e1 ⊢
      rw [show runM ev (opM 146 :: (z.2.2.1 ++ r)) _ = _ from runM_op (by decide)] at e1
      obtain ⟨tb2, c2, u2, w2, hu2, e2⟩ := testP_M hp s' z hz ev r (some c1) (fun x => jnV 146 (a1 (w1 (u1 c1))) x) nt q hn hq
      refine ⟨tb2, c2, u2, w2, fun x => jnV 146 (a1 (w1 (u1 c1))) x, by rw [hu, hu2], ?_⟩
      rw [List.append_assoc, List.cons_append, e1]
      exact e2
theorem partP_M (sg : Nat → Nat) (t : Nat) : ∀ d s y, partP sg t d s = Sum.inr y → MvA d y := by
  intro d
  induction d with
  | zero =>
    intro s y e
    unfold partP at e
    split at e <;> cases e
  | succ d ih =>
    intro s y e
    have kk := tkey_lt sg t s
    unfold partP at e
    split at e
    · have := Sum.inr.inj e
      subst this
      intro ev r st h0 h
      show runM ev ((100 + v10 sg t s) :: r) st = _
      conv => lhs; unfold runM
      rw [if_neg (by omega), if_neg (by omega), if_neg (by omega), if_pos (by omega), show 100 + v10 sg t s - 100 = v10 sg t s by omega]
    · split at e
      · cases q : partP sg t d (nxt sg t s) with
        | inl f => rw [bnd_l q] at e; cases e
        | inr z =>
          rw [bnd_r q] at e
          have hz := ih _ z q
          have := Sum.inr.inj e
          subst this
          intro ev r st h0 h
          show runM ev (30 :: (z.2.2.1 ++ r)) st = (putM (if z.2.2.2 ev = 0 then 1 else 0) st).bind (runM ev r)
          conv => lhs; unfold runM
          rw [if_pos (Or.inr rfl), if_pos (by omega), hz ev r _ (by simp) (by simp only [List.length_cons]; omega)]
          cases st with
          | nil => exact absurd rfl h0
          | cons f st => rfl
      · split at e
        · cases q : testsP sg t (partP sg t d) (nxt sg t s) with
          | inl f => rw [bnd_l q] at e; cases e
          | inr z =>
            rw [bnd_r q] at e
            have hz := testsP_M ih _ z q
            split at e
            · have := Sum.inr.inj e
              subst this
              intro ev r st h0 h
              show runM ev (28 :: ((z.2.2.1 ++ [29]) ++ r)) st = (putM (z.2.2.2 ev) st).bind (runM ev r)
              conv => lhs; unfold runM
              rw [if_pos (Or.inl rfl), if_pos (by omega), List.append_assoc]
              obtain ⟨tb, c, u, w, a, hu, e1⟩ := hz ev ([29] ++ r) none false st (fun q => by cases q) (by omega)
              rw [show newF (decide (28 = 30)) = (false, none, (fun x => x), (fun x => x), (fun x => x), false) from rfl, e1]
              show runM ev (29 :: r) _ = _
              conv => lhs; unfold runM
              rw [if_neg (by omega), if_pos rfl, ← hu]
              rfl
            · cases e
        · split at e
          · rename_i c
            have := Sum.inr.inj e
            subst this
            intro ev r st h0 h
            show runM ev ((tkey sg t s - 146) :: r) st = _
            conv => lhs; unfold runM
            rw [if_neg (by omega), if_neg (by omega), if_neg (by omega), if_neg (by omega)]
          · cases e
def barT (sg : Nat → Nat) (t s : Nat) : BO := testsP sg t (partP sg t 5) s
theorem barT_E {sg : Nat → Nat} {t s : Nat} {y : BX} (h : barT sg t s = Sum.inr y) (ev : EV) (r : List Nat) : rE ev (y.2.1 ++ (10059 :: r)) [] = if y.2.2.2 ev = 0 then rE ev r [] else some true := by
  rw [testsP_E (m := 0) (partP_E sg t 5 4 (by omega)) s y h ev _ [] (Nat.le_refl _)]
  conv => lhs; unfold rE
  rw [if_neg (by omega), if_neg (by omega), if_neg (by omega), if_pos rfl]
theorem barT_M {sg : Nat → Nat} {t s : Nat} {y : BX} (h : barT sg t s = Sum.inr y) (ev : EV) : runM ev y.2.2.1 [newF false] = some (y.2.2.2 ev) := by
  obtain ⟨tb, c, u, w, a, hu, e1⟩ := testsP_M (partP_M sg t 5) s y h ev [] none false [] (fun q => by cases q) (by decide)
  rw [List.append_nil] at e1
  rw [show newF false = (false, none, (fun x => x), (fun x => x), (fun x => x), false) from rfl, e1, ← hu]
  rfl
