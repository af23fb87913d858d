/-! ===== pure: a bar as both read it: codes of both and what it comes to ===== -/
abbrev EV : Type := Nat → Int32
abbrev BX : Type := Nat × List Nat × List Nat × (EV → Int32)
abbrev BO : Type := Sum Nat BX
def opM (k : Nat) : Nat := if k = 43 then 20 else if k = 45 then 21 else if k = 42 then 22 else if k = 60 then 24 else if k = 61 then 25 else if k = 145 then 26 else 27
def jnV (k : Nat) (a b : Int32) : Int32 :=
  if k = 42 then a * b else if k = 43 then a + b else if k = 45 then a - b else if k = 60 then (if b ≤ a then 0 else 1) else if k = 61 then (if a = b then 1 else 0)
  else if k = 145 then (if a = 0 then 0 else if b = 0 then 0 else 1) else (if a = 0 then (if b = 0 then 0 else 1) else 1)
def bnd (o : BO) (f : BX → BO) : BO :=
  match o with
  | Sum.inl e => Sum.inl e
  | Sum.inr x => f x
theorem bnd_l {e : Nat} {f : BX → BO} {o : BO} (h : o = Sum.inl e) : bnd o f = Sum.inl e := by rw [h]; rfl
theorem bnd_r {x : BX} {f : BX → BO} {o : BO} (h : o = Sum.inr x) : bnd o f = f x := by rw [h]; rfl
def chP (sg : Nat → Nat) (t : Nat) (ok : Nat → Bool) (p : Nat → BO) : Nat → BX → BO
  | 0, x => Sum.inr x
  | n + 1, x => if ok (tkey sg t x.1) = true then bnd (p (nxt sg t x.1)) (fun y => chP sg t ok p n (y.1, x.2.1 ++ (y.2.1 ++ [10000 + tkey sg t x.1]), x.2.2.1 ++ (opM (tkey sg t x.1) :: y.2.2.1), fun e => jnV (tkey sg t x.1) (x.2.2.2 e) (y.2.2.2 e))) else Sum.inr x
def lvP (sg : Nat → Nat) (t : Nat) (ok : Nat → Bool) (p : Nat → BO) (n s : Nat) : BO := bnd (p s) (chP sg t ok p n)
def okP (k : Nat) : Bool := decide (k = 42)
def okS (k : Nat) : Bool := decide (k = 43 ∨ k = 45)
def okT (k : Nat) : Bool := decide (k = 60 ∨ k = 61)
def okB (k : Nat) : Bool := decide (k = 145 ∨ k = 146)
def prodP (sg : Nat → Nat) (t : Nat) (p : Nat → BO) (s : Nat) : BO := lvP sg t okP p 1000 s
def sumP (sg : Nat → Nat) (t : Nat) (p : Nat → BO) (s : Nat) : BO := lvP sg t okS (prodP sg t p) 1000 s
def testP (sg : Nat → Nat) (t : Nat) (p : Nat → BO) (s : Nat) : BO := lvP sg t okT (sumP sg t p) 1 s
def testsP (sg : Nat → Nat) (t : Nat) (p : Nat → BO) (s : Nat) : BO := lvP sg t okB (testP sg t p) 1000 s
def partP (sg : Nat → Nat) (t : Nat) : Nat → Nat → BO
  | 0 => fun s => if tkey sg t s = 2 ∨ tkey sg t s = 144 ∨ tkey sg t s = 40 ∨ 147 ≤ tkey sg t s then Sum.inl (5 + 16 * s) else Sum.inl (1 + 16 * s)
  | d + 1 => fun s =>
    if tkey sg t s = 2 then Sum.inr (nxt sg t s, [v10 sg t s], [100 + v10 sg t s], fun _ => nI (v10 sg t s))
    else if tkey sg t s = 144 then bnd (partP sg t d (nxt sg t s)) (fun y => Sum.inr (y.1, y.2.1 ++ [10144], 30 :: y.2.2.1, fun e => if y.2.2.2 e = 0 then 1 else 0))
    else if tkey sg t s = 40 then bnd (testsP sg t (partP sg t d) (nxt sg t s)) (fun y => if tkey sg t y.1 = 41 then Sum.inr (nxt sg t y.1, y.2.1, 28 :: (y.2.2.1 ++ [29]), y.2.2.2) else Sum.inl (1 + 16 * y.1))
    else if 147 ≤ tkey sg t s then Sum.inr (nxt sg t s, [10000 + tkey sg t s], [tkey sg t s - 146], fun e => e (tkey sg t s - 146))
    else Sum.inl (1 + 16 * s)
/-- what is read lies within the text, and is no shorter than its codes -/
def BWp (t : Nat) (p : Nat → BO) : Prop := ∀ s y, s ≤ t → p s = Sum.inr y → s < y.1 ∧ y.1 ≤ t ∧ s + y.2.1.length ≤ y.1 ∧ s + y.2.2.1.length ≤ y.1
theorem key_lt {sg : Nat → Nat} {t s : Nat} (hs : s ≤ t) (h : tkey sg t s ≠ 0) : s < t := by
  rcases Nat.lt_or_eq_of_le hs with q | q
  · exact q
  · exact absurd (tkey_fin.mpr ((kind_end hs).mpr q)) h
theorem key_nxt {sg : Nat → Nat} {t s : Nat} (hs : s ≤ t) (h : tkey sg t s ≠ 0) : s < nxt sg t s ∧ nxt sg t s ≤ t := ⟨nxt_lt (key_lt hs h), nxt_le hs⟩
def okN (ok : Nat → Bool) : Prop := ∀ k, ok k = true → k ≠ 0
theorem okP_N : okN okP := fun k h => by have := of_decide_eq_true h; omega
theorem okS_N : okN okS := fun k h => by have := of_decide_eq_true h; omega
theorem okT_N : okN okT := fun k h => by have := of_decide_eq_true h; omega
theorem okB_N : okN okB := fun k h => by have := of_decide_eq_true h; omega
theorem chP_W {sg : Nat → Nat} {t : Nat} {ok : Nat → Bool} {p : Nat → BO} (hp : BWp t p) (ho : okN ok) {s : Nat} : ∀ n x y, s < x.1 → x.1 ≤ t → s + x.2.1.length ≤ x.1 → s + x.2.2.1.length ≤ x.1 → chP sg t ok p n x = Sum.inr y → s < y.1 ∧ y.1 ≤ t ∧ s + y.2.1.length ≤ y.1 ∧ s + y.2.2.1.length ≤ y.1 := by
  intro n
  induction n with
  | zero =>
    intro x y h1 h2 h3 h4 e
    have : x = y := Sum.inr.inj e
    subst this; exact ⟨h1, h2, h3, h4⟩
  | succ n ih =>
    intro x y h1 h2 h3 h4 e
    unfold chP at e
    split at e
    · rename_i c
      obtain ⟨k1, k2⟩ := key_nxt h2 (ho _ c)
      cases q : p (nxt sg t x.1) with
      | inl f => rw [bnd_l q] at e; cases e
      | inr z =>
        rw [bnd_r q] at e
        obtain ⟨w1, w2, w3, w4⟩ := hp _ _ k2 q
        refine ih _ _ ?_ ?_ ?_ ?_ e
        · show s < z.1; omega
        · exact w2
        · show s + (x.2.1 ++ (z.2.1 ++ [10000 + tkey sg t x.1])).length ≤ z.1
          simp only [List.length_append, List.length_cons, List.length_nil]; omega
        · show s + (x.2.2.1 ++ (opM (tkey sg t x.1) :: z.2.2.1)).length ≤ z.1
          simp only [List.length_append, List.length_cons]; omega
    · have : x = y := Sum.inr.inj e
      subst this; exact ⟨h1, h2, h3, h4⟩
theorem lvP_W {sg : Nat → Nat} {t : Nat} {ok : Nat → Bool} {p : Nat → BO} {n : Nat} (hp : BWp t p) (ho : okN ok) : BWp t (lvP sg t ok p n) := by
  intro s y hs e
  unfold lvP at e
  cases q : p s with
  | inl f => rw [bnd_l q] at e; cases e
  | inr z =>
    rw [bnd_r q] at e
    obtain ⟨w1, w2, w3, w4⟩ := hp _ _ hs q
    exact chP_W hp ho n z y w1 w2 w3 w4 e
theorem prodP_W {sg : Nat → Nat} {t : Nat} {p : Nat → BO} (hp : BWp t p) : BWp t (prodP sg t p) := lvP_W hp okP_N
theorem sumP_W {sg : Nat → Nat} {t : Nat} {p : Nat → BO} (hp : BWp t p) : BWp t (sumP sg t p) := lvP_W (prodP_W hp) okS_N
theorem testP_W {sg : Nat → Nat} {t : Nat} {p : Nat → BO} (hp : BWp t p) : BWp t (testP sg t p) := lvP_W (sumP_W hp) okT_N
theorem testsP_W {sg : Nat → Nat} {t : Nat} {p : Nat → BO} (hp : BWp t p) : BWp t (testsP sg t p) := lvP_W (testP_W hp) okB_N
theorem partP_W (sg : Nat → Nat) (t : Nat) : ∀ d, BWp t (partP sg t d) := by
  intro d
  induction d with
  | zero =>
    intro s y hs e
    unfold partP at e
    split at e <;> cases e
  | succ d ih =>
    intro s y hs e
    unfold partP at e
    split at e
    · rename_i c
      obtain ⟨k1, k2⟩ := key_nxt (sg := sg) hs (by omega)
      have := Sum.inr.inj e
      subst this
      exact ⟨k1, k2, by show s + 1 ≤ nxt sg t s; omega, by show s + 1 ≤ nxt sg t s; omega⟩
    · split at e
      · rename_i c
        obtain ⟨k1, k2⟩ := key_nxt (sg := sg) hs (by omega)
        cases q : partP sg t d (nxt sg t s) with
        | inl f => rw [bnd_l q] at e; cases e
        | inr z =>
          rw [bnd_r q] at e
          obtain ⟨w1, w2, w3, w4⟩ := ih _ _ k2 q
          have := Sum.inr.inj e
          subst this
          refine ⟨?_, w2, ?_, ?_⟩
          · show s < z.1; omega
          · show s + (z.2.1 ++ [10144]).length ≤ z.1
            simp only [List.length_append, List.length_cons, List.length_nil]; omega
          · show s + (30 :: z.2.2.1).length ≤ z.1
            simp only [List.length_cons]; omega
      · split at e
        · rename_i c
          obtain ⟨k1, k2⟩ := key_nxt (sg := sg) hs (by omega)
          cases q : testsP sg t (partP sg t d) (nxt sg t s) with
          | inl f => rw [bnd_l q] at e; cases e
          | inr z =>
            rw [bnd_r q] at e
            obtain ⟨w1, w2, w3, w4⟩ := testsP_W ih _ _ k2 q
            split at e
            · rename_i c2
              obtain ⟨k3, k4⟩ := key_nxt (sg := sg) w2 (by omega)
              have := Sum.inr.inj e
              subst this
              refine ⟨?_, k4, ?_, ?_⟩
              · show s < nxt sg t z.1; omega
              · show s + z.2.1.length ≤ nxt sg t z.1; omega
              · show s + (28 :: (z.2.2.1 ++ [29])).length ≤ nxt sg t z.1
                simp only [List.length_append, List.length_cons, List.length_nil]; omega
            · cases e
        · split at e
          · rename_i c
            obtain ⟨k1, k2⟩ := key_nxt (sg := sg) hs (by omega)
            have := Sum.inr.inj e
            subst this
            exact ⟨k1, k2, by show s + 1 ≤ nxt sg t s; omega, by show s + 1 ≤ nxt sg t s; omega⟩
          · cases e
