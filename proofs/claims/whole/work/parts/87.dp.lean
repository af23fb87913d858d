/-! ===== pure: the fewest changes, word by word over sets of ends ===== -/
theorem tb_x (x k i : Nat) : (x ^^^ 2 ^ k).testBit i = (x.testBit i ^^ decide (k = i)) := by rw [Nat.testBit_xor, tb_one]
theorem x_back {x k : Nat} (h : x.testBit k = true) : (x ^^^ 2 ^ k) ||| 2 ^ k = x := by
  refine Nat.eq_of_testBit_eq (fun i => ?_)
  rw [tb_set, tb_x]
  by_cases e : k = i
  · subst e; simp [h]
  · simp [e]
theorem x_off {x k : Nat} (h : x.testBit k = true) : (x ^^^ 2 ^ k).testBit k = false := by rw [tb_x, h]; simp
theorem x_lt {x k : Nat} (h : x.testBit k = true) : x ^^^ 2 ^ k < x := by
  have h1 : x ^^^ 2 ^ k ≤ x := by
    have := Nat.left_le_or (n := x ^^^ 2 ^ k) (m := 2 ^ k)
    rwa [x_back h] at this
  rcases Nat.lt_or_ge (x ^^^ 2 ^ k) x with q | q
  · exact q
  · have e : x ^^^ 2 ^ k = x := by omega
    have := x_off h
    rw [e, h] at this; cases this
theorem x_set {b k : Nat} (h : b.testBit k = false) : (b ||| 2 ^ k) ^^^ 2 ^ k = b ∧ (b ||| 2 ^ k).testBit k = true := by
  refine ⟨Nat.eq_of_testBit_eq (fun i => ?_), by rw [tb_set]; simp⟩
  rw [tb_x, tb_set]
  by_cases e : k = i
  · subst e; simp [h]
  · simp [e]
def gok (g : Nat → Option Nat) (e w : Nat) : Bool := match g e with
  | none => true
  | some v => v == w
def tm (ch : Nat → Nat → Nat) (g : Nat → Option Nat) (w : Nat) (old : Nat → Nat) (x k : Nat) : Nat :=
  if x.testBit k && gok g k w && decide (old (x ^^^ 2 ^ k) < 1000) then old (x ^^^ 2 ^ k) + ch k w else 1000
def mnP (ch : Nat → Nat → Nat) (g : Nat → Option Nat) (w : Nat) (old : Nat → Nat) (x : Nat) (P : Nat → Bool) : Nat → Nat
  | 0 => old x
  | k + 1 => Nat.min (mnP ch g w old x P k) (if P k then tm ch g w old x k else 1000)
abbrev mid (ch : Nat → Nat → Nat) (g : Nat → Option Nat) (n w : Nat) (old : Nat → Nat) (x : Nat) : Nat := mnP ch g w old x (fun _ => true) n
theorem mnP_le {ch : Nat → Nat → Nat} {g : Nat → Option Nat} {w : Nat} {old : Nat → Nat} {x : Nat} {P : Nat → Bool} : ∀ m, mnP ch g w old x P m ≤ old x
  | 0 => Nat.le_refl _
  | m + 1 => Nat.le_trans (Nat.min_le_left _ _) (mnP_le m)
theorem mnP_tm {ch : Nat → Nat → Nat} {g : Nat → Option Nat} {w : Nat} {old : Nat → Nat} {x : Nat} {P : Nat → Bool} {k : Nat} (hk : P k = true) : ∀ m, k < m → mnP ch g w old x P m ≤ tm ch g w old x k
  | 0, h => absurd h (Nat.not_lt_zero _)
  | m + 1, h => by
    by_cases e : k = m
    · subst e
      refine Nat.le_trans (Nat.min_le_right _ _) ?_
      rw [if_pos hk]; exact Nat.le_refl _
    · exact Nat.le_trans (Nat.min_le_left _ _) (mnP_tm hk m (by omega))
theorem min_cases (a b : Nat) : Nat.min a b = a ∨ Nat.min a b = b := by
  rcases Nat.le_total a b with h | h
  · exact Or.inl (Nat.min_eq_left h)
  · exact Or.inr (Nat.min_eq_right h)
theorem mnP_cases {ch : Nat → Nat → Nat} {g : Nat → Option Nat} {w : Nat} {old : Nat → Nat} {x : Nat} {P : Nat → Bool} : ∀ m, mnP ch g w old x P m = old x ∨ mnP ch g w old x P m = 1000 ∨ ∃ k, k < m ∧ P k = true ∧ mnP ch g w old x P m = tm ch g w old x k
  | 0 => Or.inl rfl
  | m + 1 => by
    show Nat.min _ _ = _ ∨ Nat.min _ _ = _ ∨ ∃ k, _ ∧ _ ∧ Nat.min _ _ = _
    rcases min_cases (mnP ch g w old x P m) (if P m then tm ch g w old x m else 1000) with h | h
    · rw [h]
      rcases mnP_cases (ch := ch) (g := g) (w := w) (old := old) (x := x) (P := P) m with q | q | ⟨k, k1, k2, k3⟩
      · exact Or.inl q
      · exact Or.inr (Or.inl q)
      · exact Or.inr (Or.inr ⟨k, by omega, k2, k3⟩)
    · rw [h]
      by_cases c : P m = true
      · rw [if_pos c]; exact Or.inr (Or.inr ⟨m, by omega, c, rfl⟩)
      · rw [if_neg c]; exact Or.inr (Or.inl rfl)
theorem mnP_congr {ch : Nat → Nat → Nat} {g : Nat → Option Nat} {w : Nat} {old : Nat → Nat} {x : Nat} {P R : Nat → Bool} : ∀ m, (∀ k, k < m → (if P k then tm ch g w old x k else 1000) = (if R k then tm ch g w old x k else 1000)) → mnP ch g w old x P m = mnP ch g w old x R m
  | 0, _ => rfl
  | m + 1, h => by unfold mnP; rw [mnP_congr m (fun k hk => h k (by omega)), h m (by omega)]
/-- one more place is looked at -/
theorem mnP_add {ch : Nat → Nat → Nat} {g : Nat → Option Nat} {w : Nat} {old : Nat → Nat} {x k0 : Nat} {P R : Nat → Bool} (hR : R k0 = true) (hP : P k0 = false) (hs : ∀ k, k ≠ k0 → R k = P k) (ho : old x ≤ 1000) : ∀ m, k0 < m → mnP ch g w old x R m = Nat.min (mnP ch g w old x P m) (tm ch g w old x k0)
  | 0, h => absurd h (Nat.not_lt_zero _)
  | m + 1, h => by
    unfold mnP
    by_cases e : k0 = m
    · subst e
      rw [if_pos hR, if_neg (by rw [hP]; decide)]
      have : mnP ch g w old x R k0 = mnP ch g w old x P k0 := mnP_congr k0 (fun k hk => by rw [hs k (by omega)])
      rw [this]
      have hle : mnP ch g w old x P k0 ≤ 1000 := Nat.le_trans (mnP_le k0) ho
      rw [show Nat.min (mnP ch g w old x P k0) 1000 = mnP ch g w old x P k0 from Nat.min_eq_left hle]
    · rw [mnP_add hR hP hs ho m (by omega), hs m (by omega)]
      show min (min _ _) _ = min (min _ _) _
      rw [Nat.min_assoc, Nat.min_assoc]
      congr 1
      exact Nat.min_comm _ _
theorem mnP_none {ch : Nat → Nat → Nat} {g : Nat → Option Nat} {w : Nat} {old : Nat → Nat} {x : Nat} {P : Nat → Bool} (ho : old x ≤ 1000) : ∀ m, (∀ k, k < m → P k = true → tm ch g w old x k = 1000) → mnP ch g w old x P m = old x
  | 0, _ => rfl
  | m + 1, h => by
    unfold mnP
    rw [mnP_none ho m (fun k hk => h k (by omega))]
    have : (if P m then tm ch g w old x m else 1000) = 1000 := by
      by_cases c : P m = true
      · rw [if_pos c]; exact h m (by omega) c
      · rw [if_neg c]
    rw [this]
    exact Nat.min_eq_left ho
/-- each class wholly in the set or not at all -/
def unb (n : Nat) (L : Nat → Nat) (x : Nat) : Bool := (List.range n).all (fun e => x.testBit e == x.testBit (L e))
theorem unb_iff {n : Nat} {L : Nat → Nat} {x : Nat} : unb n L x = true ↔ ∀ e, e < n → x.testBit e = x.testBit (L e) := by
  unfold unb
  rw [List.all_eq_true]
  constructor
  · intro h e he
    exact eq_of_beq (h e (List.mem_range.mpr he))
  · intro h e he
    rw [h e (List.mem_range.mp he)]
    exact beq_self_eq_true _
def dp (n W : Nat) (L r4 : Nat → Nat) (ch : Nat → Nat → Nat) (g : Nat → Option Nat) (π : Nat → Nat) : Nat → Nat → Nat
  | 0, x => if x = 0 then 0 else 1000
  | i + 1, x => if i + 1 < W ∧ r4 (π i) ≠ r4 (π (i + 1)) ∧ unb n L x = false then 1000 else mid ch g n (π i) (dp n W L r4 ch g π i) x
/-- the ends of a set x are given words among the first i, at cost c -/
def PA (n W : Nat) (L r4 : Nat → Nat) (ch : Nat → Nat → Nat) (g : Nat → Option Nat) (π : Nat → Nat) (i x c : Nat) : Prop := ∃ a : Nat → Nat,
  (∀ e, x.testBit e = true → e < n ∧ (∃ j, j < i ∧ a e = π j) ∧ gok g e (a e) = true) ∧
  (∀ e e', x.testBit e = true → x.testBit e' = true → a e = a e' → e = e') ∧
  (∀ e e', x.testBit e = true → e' < n → L e' = L e → (x.testBit e' = true ∧ r4 (a e') = r4 (a e)) ∨ (x.testBit e' = false ∧ r4 (a e) = r4 (π (Nat.min i (W - 1))))) ∧
  c = smW (fun e => if x.testBit e then ch e (a e) else 0) n
theorem smW_one {g h : Nat → Nat} {k v : Nat} (hk : g k = h k + v) (hs : ∀ j, j ≠ k → g j = h j) : ∀ m, k < m → smW g m = smW h m + v
  | 0, q => absurd q (Nat.not_lt_zero _)
  | m + 1, q => by
    unfold smW
    by_cases e : k = m
    · subst e
      rw [smW_congr k (fun j hj => hs j (by omega)), hk]; omega
    · rw [smW_one hk hs m (by omega), hs m (by omega)]; omega
theorem PA_le {n W : Nat} {L r4 : Nat → Nat} {ch : Nat → Nat → Nat} {g : Nat → Option Nat} {π : Nat → Nat} {i x c : Nat} (hch : ∀ e w, ch e w ≤ 60) (h : PA n W L r4 ch g π i x c) : c ≤ n * 60 := by
  obtain ⟨a, -, -, -, rfl⟩ := h
  refine smW_le _ (fun e _ => ?_)
  split
  · exact hch _ _
  · exact Nat.zero_le _
theorem dp_PA {n W : Nat} {L r4 : Nat → Nat} {ch : Nat → Nat → Nat} {g : Nat → Option Nat} {π : Nat → Nat} (hn : n ≤ 7) (hch : ∀ e w, ch e w ≤ 60) (hL : ∀ e, e < n → L e < n ∧ L (L e) = L e) (hπ : Pm W π) (hs : ∀ i j, i ≤ j → j < W → r4 (π i) ≤ r4 (π j)) :
    ∀ i, i ≤ W → ∀ x, x < 2 ^ n → (∀ c, PA n W L r4 ch g π i x c → dp n W L r4 ch g π i x ≤ c) ∧ (dp n W L r4 ch g π i x < 1000 → PA n W L r4 ch g π i x (dp n W L r4 ch g π i x)) ∧ dp n W L r4 ch g π i x ≤ 1000
  | 0, _, x, hx => by
    have e : dp n W L r4 ch g π 0 x = if x = 0 then 0 else 1000 := rfl
    rw [e]
    refine ⟨fun c hc => ?_, fun h => ?_, by split <;> omega⟩
    · obtain ⟨a, h1, -, -, -⟩ := hc
      by_cases q : x = 0
      · rw [if_pos q]; exact Nat.zero_le _
      · obtain ⟨k, hk, hb⟩ := tb_pos hx q
        obtain ⟨-, ⟨j, hj, -⟩, -⟩ := h1 k hb
        exact absurd hj (Nat.not_lt_zero _)
    · by_cases q : x = 0
      · rw [if_pos q]
        subst q
        refine ⟨fun _ => 0, fun e he => ?_, fun e e' he => ?_, fun e e' he => ?_, (smW_zero n (fun w _ => by rw [Nat.zero_testBit]; rfl)).symm⟩
        all_goals rw [Nat.zero_testBit] at he; cases he
      · rw [if_neg q] at h; omega
  | i + 1, hi, x, hx => by
    have ih := dp_PA (g := g) hn hch hL hπ hs i (by omega)
    have hde : dp n W L r4 ch g π (i + 1) x = if i + 1 < W ∧ r4 (π i) ≠ r4 (π (i + 1)) ∧ unb n L x = false then 1000 else mid ch g n (π i) (dp n W L r4 ch g π i) x := rfl
    have hmi : Nat.min i (W - 1) = i := Nat.min_eq_left (by omega)
    have hmi1 : r4 (π i) ≤ r4 (π (Nat.min (i + 1) (W - 1))) ∧ Nat.min (i + 1) (W - 1) < W := by
      rcases Nat.lt_or_ge (i + 1) W with q | q
      · rw [show Nat.min (i + 1) (W - 1) = i + 1 from Nat.min_eq_left (by omega)]
        exact ⟨hs i (i + 1) (by omega) q, q⟩
      · rw [show Nat.min (i + 1) (W - 1) = i by
          rw [show Nat.min (i + 1) (W - 1) = W - 1 from Nat.min_eq_right (by omega)]; omega]
        exact ⟨Nat.le_refl _, by omega⟩
    have hdo : ∀ y, y < 2 ^ n → dp n W L r4 ch g π i y ≤ 1000 := fun y hy => (ih y hy).2.2
    refine ⟨fun c hc => ?_, fun h => ?_, ?_⟩
    · -- what can be reached is found
      have hcl := PA_le hch hc
      obtain ⟨a, h1, h2, h3, h4⟩ := hc
      have hnd : ¬ (i + 1 < W ∧ r4 (π i) ≠ r4 (π (i + 1)) ∧ unb n L x = false) := by
        rintro ⟨q1, q2, q3⟩
        have hm : Nat.min (i + 1) (W - 1) = i + 1 := Nat.min_eq_left (by omega)
        have key : ∀ e, x.testBit e = true → r4 (a e) = r4 (π (i + 1)) → False := by
          intro e he hr
          obtain ⟨-, ⟨j, hj, hj2⟩, -⟩ := h1 e he
          rw [hj2] at hr
          have a1 := hs j i (by omega) (by omega)
          have a2 := hs i (i + 1) (by omega) q1
          exact q2 (by omega)
        have : unb n L x = true := unb_iff.mpr (fun e he => by
          obtain ⟨l1, l2⟩ := hL e he
          cases c1 : x.testBit e with
          | true =>
            cases c2 : x.testBit (L e) with
            | true => rfl
            | false =>
              rcases h3 e (L e) c1 l1 l2 with q | q
              · rw [c2] at q; exact absurd q.1 (by decide)
              · rw [hm] at q; exact (key e c1 q.2).elim
          | false =>
            cases c2 : x.testBit (L e) with
            | false => rfl
            | true =>
              rcases h3 (L e) e c2 he l2.symm with q | q
              · rw [c1] at q; exact absurd q.1 (by decide)
              · rw [hm] at q; exact (key (L e) c2 q.2).elim)
        rw [this] at q3; cases q3
      rw [hde, if_neg hnd]
      by_cases ce : ∃ e0, x.testBit e0 = true ∧ a e0 = π i
      · obtain ⟨e0, he0, ha0⟩ := ce
        have hen := (h1 e0 he0).1
        have hsum := smW_one (g := fun e => if x.testBit e then ch e (a e) else 0) (h := fun e => if (x ^^^ 2 ^ e0).testBit e then ch e (a e) else 0) (k := e0) (v := ch e0 (π i)) (by rw [if_pos he0, x_off he0, ha0]; simp) (fun j hj => by
          rw [tb_x, decide_eq_false (fun q => hj q.symm), Bool.xor_false]) n hen
        have hy : x ^^^ 2 ^ e0 < 2 ^ n := Nat.lt_trans (x_lt he0) hx
        have hb : ∀ e, (x ^^^ 2 ^ e0).testBit e = true → x.testBit e = true ∧ e ≠ e0 := by
          intro e he
          rw [tb_x] at he
          by_cases q : e0 = e
          · subst q; rw [he0] at he; simp at he
          · simp [q] at he; exact ⟨he, fun z => q z.symm⟩
        have hpa : PA n W L r4 ch g π i (x ^^^ 2 ^ e0) (smW (fun e => if (x ^^^ 2 ^ e0).testBit e then ch e (a e) else 0) n) := by
          refine ⟨a, fun e he => ?_, fun e e' he he' => h2 e e' (hb e he).1 (hb e' he').1, fun e e' he he' hl => ?_, rfl⟩
          · obtain ⟨p1, p2⟩ := hb e he
            obtain ⟨q1, ⟨j, j1, j2⟩, q3⟩ := h1 e p1
            refine ⟨q1, ⟨j, ?_, j2⟩, q3⟩
            rcases Nat.lt_or_ge j i with z | z
            · exact z
            · exfalso
              have : j = i := by omega
              subst this
              exact p2 (h2 e e0 p1 he0 (by rw [j2, ha0]))
          · obtain ⟨p1, p2⟩ := hb e he
            rw [hmi]
            obtain ⟨-, ⟨j, j1, j2⟩, -⟩ := h1 e p1
            rcases h3 e e' p1 he' hl with ⟨q1, q2⟩ | ⟨q1, q2⟩
            · by_cases z : e' = e0
              · subst z
                exact Or.inr ⟨x_off he0, by rw [← q2, ha0]⟩
              · refine Or.inl ⟨?_, q2⟩
                rw [tb_x, q1, decide_eq_false (fun t => z t.symm)]; rfl
            · refine Or.inr ⟨?_, ?_⟩
              · rw [tb_x, q1]
                have : e0 ≠ e' := fun t => by rw [← t, he0] at q1; cases q1
                simp [this]
              · have a1 := hs j i (by omega) (by omega)
                rw [← j2] at a1
                omega
        have hle := (ih _ hy).1 _ hpa
        have hPl := PA_le hch hpa
        have ht : tm ch g (π i) (dp n W L r4 ch g π i) x e0 = dp n W L r4 ch g π i (x ^^^ 2 ^ e0) + ch e0 (π i) := by
          unfold tm
          rw [if_pos]
          have := (h1 e0 he0).2.2
          rw [ha0] at this
          rw [he0, this, decide_eq_true (show dp n W L r4 ch g π i (x ^^^ 2 ^ e0) < 1000 by omega)]
          rfl
        have := mnP_tm (ch := ch) (g := g) (w := π i) (old := dp n W L r4 ch g π i) (x := x) (P := fun _ => true) (k := e0) rfl n hen
        rw [ht] at this
        rw [h4, hsum]
        exact Nat.le_trans this (by omega)
      · have hpa : PA n W L r4 ch g π i x c := by
          refine ⟨a, fun e he => ?_, h2, fun e e' he he' hl => ?_, h4⟩
          · obtain ⟨q1, ⟨j, j1, j2⟩, q3⟩ := h1 e he
            refine ⟨q1, ⟨j, ?_, j2⟩, q3⟩
            rcases Nat.lt_or_ge j i with z | z
            · exact z
            · exact absurd ⟨e, he, by rw [j2, show j = i by omega]⟩ ce
          · rw [hmi]
            obtain ⟨-, ⟨j, j1, j2⟩, -⟩ := h1 e he
            rcases h3 e e' he he' hl with q | ⟨q1, q2⟩
            · exact Or.inl q
            · refine Or.inr ⟨q1, ?_⟩
              have a1 := hs j i (by omega) (by omega)
              rw [← j2] at a1
              omega
        exact Nat.le_trans (mnP_le n) ((ih x hx).1 c hpa)
    · -- what is found can be reached
      rw [hde] at h ⊢
      by_cases cd : i + 1 < W ∧ r4 (π i) ≠ r4 (π (i + 1)) ∧ unb n L x = false
      · rw [if_pos cd] at h; omega
      · rw [if_neg cd] at h ⊢
        -- an end left out of its class is so in the last group alone
        have next : ∀ e e', x.testBit e = true → x.testBit e' = false → e < n → e' < n → L e' = L e → ∀ v, v = r4 (π i) → v = r4 (π (Nat.min (i + 1) (W - 1))) := by
          intro e e' he he' hen hen' hl v hv
          rcases Nat.lt_or_ge (i + 1) W with q | q
          · rw [show Nat.min (i + 1) (W - 1) = i + 1 from Nat.min_eq_left (by omega)]
            by_cases z : r4 (π i) = r4 (π (i + 1))
            · omega
            · exfalso
              have hu : unb n L x = true := by
                cases hq : unb n L x with
                | true => rfl
                | false => exact absurd ⟨q, z, hq⟩ cd
              have u := unb_iff.mp hu
              have u1 := u e hen
              have u2 := u e' hen'
              rw [he] at u1
              rw [he', hl, ← u1] at u2
              cases u2
          · rw [show Nat.min (i + 1) (W - 1) = i by
              rw [show Nat.min (i + 1) (W - 1) = W - 1 from Nat.min_eq_right (by omega)]; omega]
            exact hv
        rcases mnP_cases (ch := ch) (g := g) (w := π i) (old := dp n W L r4 ch g π i) (x := x) (P := fun _ => true) n with q | q | ⟨k, k1, -, k3⟩
        · rw [show mid ch g n (π i) (dp n W L r4 ch g π i) x = dp n W L r4 ch g π i x from q] at h ⊢
          obtain ⟨a, h1, h2, h3, h4⟩ := (ih x hx).2.1 h
          refine ⟨a, fun e he => ?_, h2, fun e e' he he' hl => ?_, h4⟩
          · obtain ⟨p1, ⟨j, j1, j2⟩, p3⟩ := h1 e he
            exact ⟨p1, ⟨j, by omega, j2⟩, p3⟩
          · rcases h3 e e' he he' hl with p | ⟨p1, p2⟩
            · exact Or.inl p
            · rw [hmi] at p2
              exact Or.inr ⟨p1, next e e' he p1 (h1 e he).1 he' hl _ p2⟩
        · rw [show mid ch g n (π i) (dp n W L r4 ch g π i) x = 1000 from q] at h
          omega
        · rw [show mid ch g n (π i) (dp n W L r4 ch g π i) x = tm ch g (π i) (dp n W L r4 ch g π i) x k from k3] at h ⊢
          unfold tm at h ⊢
          by_cases ct : (x.testBit k && gok g k (π i) && decide (dp n W L r4 ch g π i (x ^^^ 2 ^ k) < 1000)) = true
          · rw [if_pos ct] at h ⊢
            rw [Bool.and_eq_true, Bool.and_eq_true] at ct
            obtain ⟨⟨ct1, ct2⟩, ct3⟩ := ct
            have ct3 := of_decide_eq_true ct3
            have hy : x ^^^ 2 ^ k < 2 ^ n := Nat.lt_trans (x_lt ct1) hx
            obtain ⟨a, h1, h2, h3, h4⟩ := (ih _ hy).2.1 ct3
            have hb : ∀ e, e ≠ k → x.testBit e = true → (x ^^^ 2 ^ k).testBit e = true := by
              intro e hk he
              rw [tb_x, he, decide_eq_false (fun t => hk t.symm)]; rfl
            have hb2 : ∀ e, e ≠ k → (x ^^^ 2 ^ k).testBit e = x.testBit e := by
              intro e hk
              rw [tb_x, decide_eq_false (fun t => hk t.symm), Bool.xor_false]
            have hnew : ∀ e, e ≠ k → x.testBit e = true → a e ≠ π i := by
              intro e hk he q
              obtain ⟨-, ⟨j, j1, j2⟩, -⟩ := h1 e (hb e hk he)
              have := hπ.2 j i (by omega) (by omega) (by rw [← j2, q])
              omega
            refine ⟨fun e => if e = k then π i else a e, fun e he => ?_, fun e e' he he' hh => ?_, fun e e' he he' hl => ?_, ?_⟩
            · dsimp only
              by_cases q : e = k
              · subst q; rw [if_pos rfl]; exact ⟨k1, ⟨i, by omega, rfl⟩, ct2⟩
              · rw [if_neg q]
                obtain ⟨p1, ⟨j, j1, j2⟩, p3⟩ := h1 e (hb e q he)
                exact ⟨p1, ⟨j, by omega, j2⟩, p3⟩
            · dsimp only at hh
              by_cases q : e = k
              · by_cases q' : e' = k
                · rw [q, q']
                · rw [if_pos q, if_neg q'] at hh
                  exact absurd hh.symm (hnew e' q' he')
              · by_cases q' : e' = k
                · rw [if_neg q, if_pos q'] at hh
                  exact absurd hh (hnew e q he)
                · rw [if_neg q, if_neg q'] at hh
                  exact h2 e e' (hb e q he) (hb e' q' he') hh
            · dsimp only
              by_cases q : e = k
              · subst q
                rw [if_pos rfl]
                by_cases q' : e' = e
                · subst q'; exact Or.inl ⟨he, by rw [if_pos rfl]⟩
                · rw [if_neg q']
                  cases hx' : x.testBit e' with
                  | true =>
                    refine Or.inl ⟨rfl, ?_⟩
                    rcases h3 e' e (hb e' q' hx') k1 hl.symm with p | ⟨p1, p2⟩
                    · rw [x_off ct1] at p; exact absurd p.1 (by decide)
                    · rw [hmi] at p2; exact p2
                  | false => exact Or.inr ⟨rfl, next e e' he hx' k1 he' hl _ rfl⟩
              · rw [if_neg q]
                by_cases q' : e' = k
                · subst q'
                  rw [if_pos rfl]
                  refine Or.inl ⟨ct1, ?_⟩
                  rcases h3 e e' (hb e q he) he' hl with p | ⟨p1, p2⟩
                  · rw [x_off ct1] at p; exact absurd p.1 (by decide)
                  · rw [hmi] at p2; exact p2.symm
                · rw [if_neg q']
                  rcases h3 e e' (hb e q he) he' hl with ⟨p1, p2⟩ | ⟨p1, p2⟩
                  · rw [hb2 e' q'] at p1; exact Or.inl ⟨p1, p2⟩
                  · rw [hb2 e' q'] at p1
                    rw [hmi] at p2
                    exact Or.inr ⟨p1, next e e' he p1 (h1 e (hb e q he)).1 he' hl _ p2⟩
            · rw [h4]
              refine (smW_one (k := k) (v := ch k (π i)) ?_ (fun j hj => ?_) n k1).symm
              · dsimp only
                rw [if_pos ct1, x_off ct1, if_pos rfl]; simp
              · dsimp only
                rw [hb2 j hj, if_neg hj]
          · rw [if_neg ct] at h; omega
    · rw [hde]
      split
      · exact Nat.le_refl _
      · exact Nat.le_trans (mnP_le n) (hdo x hx)
