/-! ===== pure: the class's namer ===== -/
/-- what the namer's search rests on -/
def NS (F H : Fm) (o : Nat) (S : St) : Prop := FE 21 F S ∧ FE o H S ∧ (∀ p, p < F 0 0 → gI S 58 p = tn F (F 0 0) p ∧ gI S 59 p = tn H (F 0 0) p) ∧ gR S 56 6 = some o
def frN (S S' : St) : Prop := frX [56, 57] S S' ∧ gR S' 56 6 = gR S 56 6
theorem frN_refl (S : St) : frN S S := ⟨frX_refl _ _, rfl⟩
theorem frN_trans {S T U : St} (h : frN S T) (k : frN T U) : frN S U := ⟨frX_trans h.1 k.1, k.2.trans h.2⟩
theorem frN_57 {S T : St} {j : Nat} {v : Int32} (h : frN S T) : frN S (sI T 57 j v) := ⟨frX_sI h.1 (by decide), h.2⟩
theorem frN_56 {S T : St} {j : Nat} {v : Int32} (h : frN S T) : frN S (sI T 56 j v) := ⟨frX_sI h.1 (by decide), h.2⟩
theorem NS_fr {F H : Fm} {o : Nat} {S S' : St} (ho : okO o) (hf : frN S S') (h : NS F H o S) : NS F H o S' := by
  obtain ⟨h1, h2, h3, h4⟩ := h
  refine ⟨FEo_fr (Or.inl rfl) hf.1 (by simp) h1, FEo_fr ho hf.1 (by simp) h2, fun p hp => ?_, by rw [hf.2]; exact h4⟩
  rw [frX_g hf.1 58 p (by decide), frX_g hf.1 59 p (by decide)]
  exact h3 p hp
/-- the names given so far are good together -/
def PQ (F H : Fm) (N : Nat → Option Nat) : Prop := ∀ p, p < F 0 0 → ∀ y, N p = some y → y < F 0 0 ∧ F 3 p = H 3 y ∧ ∀ q, q < F 0 0 → ∀ z, N q = some z → (p ≠ q → y ≠ z) ∧ (F 2 p).testBit q = (H 2 y).testBit z
/-- whole cycles are named -/
def CLo (F H : Fm) (N : Nat → Option Nat) : Prop := ∀ p, p < F 0 0 → ∀ y, N p = some y → N (F 1 p) = some (H 1 y)
def TT (F : Fm) (N : Nat → Option Nat) (T : Nat) : Prop := T < 2 ^ 12 ∧ ∀ x, T.testBit x = true ↔ ∃ p, p < F 0 0 ∧ N p = some x
def ext (F : Fm) (N : Nat → Option Nat) (τ : Nat → Nat) : Prop := ∀ q, q < F 0 0 → ∀ y, N q = some y → τ q = y
def fitC (F H : Fm) (N : Nat → Option Nat) (p x : Nat) : Prop := tn F (F 0 0) p = tn H (F 0 0) x ∧ F 3 p = H 3 x ∧ ∀ q, q < F 0 0 → ∀ y, N q = some y → (F 2 p).testBit q = (H 2 x).testBit y
theorem gN_m1 {N : Nat → Option Nat} {q : Nat} (h : ∀ y, N q = some y → y < 2 ^ 31) {A B : Prop} (h0 : N q = none → A) (h1 : ∀ y, N q = some y → B) : if gN (N q) = (-1 : Int32) then A else B := by
  cases c : N q with
  | none => rw [show gN none = (-1 : Int32) from rfl, if_pos rfl]; exact h0 c
  | some y =>
    have hy := h y c
    rw [show gN (some y) = nI y from rfl, if_neg (show ¬ nI y = (-1 : Int32) from fun q => nI_pos (n := y) hy (by rw [q]; decide))]
    exact h1 y c
theorem e_fits {F H : Fm} {o p x : Nat} {N : Nat → Option Nat} {S : St} {Q : Int32 → St → Prop} (ho : okO o) (h4 : isE4 o) (hF : FW F) (hH : FW H) (hn0 : H 0 0 = F 0 0) (hS : NS F H o S) (hN : ∀ q, q < F 0 0 → gI S 57 q = gN (N q)) (hPQ : PQ F H N) (hp : p < F 0 0) (hx : x < F 0 0)
    (h1 : fitC F H N p x → Q 1 S) (h0 : ¬ fitC F H N p x → Q 0 S) : w_X7_fits (nI p) (nI x) S Q := by
  have hn := hF.1.2.1
  obtain ⟨⟨l1, l2, l3⟩, -⟩ := okO_ln ho
  obtain ⟨hE, hEH, ht, hR⟩ := hS
  have b2 := pow12 hn (hF.2.2.1 p hp).1
  have hnH := hH.1.2.1
  have b3 := pow12 hnH (hH.2.2.1 x (by omega)).1
  have ev1 := (hF.2.2.1 p hp).2.1
  have ev2 := (hH.2.2.1 x (by omega)).2.1
  unfold w_X7_fits
  refine e_cell (by show p < 12; omega) (by decide) (e_cell (by show x < 12; omega) (by decide) ?_)
  rw [(ht p hp).1, (ht x hx).2]
  by_cases c1 : tn F (F 0 0) p = tn H (F 0 0) x
  · rw [if_pos c1]
    refine e_cell (by show p < 12; omega) (by decide) ⟨o, hR, h4, e_cell (by omega) (by omega) ?_⟩
    rw [show gI S 24 p = nI (F 3 p) from hE.2.1 3 p (by omega) (by omega) hp, hEH.2.1 3 x (by omega) (by omega) (by omega)]
    refine nI_ifEq (by omega) (by omega) (fun c2 => ?_) (fun c2 => h0 (fun z => c2 z.2.1))
    refine up1 (B := b_X7_fits_48 (nI p) (nI x) Q) (F 0 0) (by omega) (fun q S' => S' = S ∧ ∀ q', q' < q → ∀ y, N q' = some y → (F 2 p).testBit q' = (H 2 x).testBit y) ?_ ?_ 0 (by omega) ⟨rfl, fun q hq => absurd hq (Nat.not_lt_zero _)⟩
    · rintro kk q S' hq ⟨rfl, hall⟩ hkk
      unfold b_X7_fits_48
      rw [hE.1 0 (by omega), if_neg (nI_ge hq (by omega))]
      refine e_cell (by show q < 12; omega) (by decide) ?_
      rw [hN q hq]
      refine gN_m1 (fun y hy => by have := (hPQ q hq y hy).1; omega) (fun c => ?_) (fun y c => ?_)
      · intro t ht'
        refine hkk _ _ ht' ⟨rfl, fun q' hq' y hy => ?_⟩
        by_cases e : q' = q
        · subst e; rw [c] at hy; cases hy
        · exact hall q' (by omega) y hy
      · have hy := (hPQ q hq y c).1
        refine e_cell (by show p < 12; omega) (by decide) ⟨o, hR, h4, e_cell (by omega) (by omega) ?_⟩
        rw [show gI S' 23 p = nI (F 2 p) from hE.2.1 2 p (by omega) (by omega) hp, hEH.2.1 2 x (by omega) (by omega) (by omega), c, show gN (some y) = nI y from rfl, bN_shr (by omega) (by omega), bN_shr (by omega) (by omega)]
        by_cases e : (F 2 p).testBit q = (H 2 x).testBit y
        · rw [e, if_pos rfl]
          intro t ht'
          refine hkk _ _ ht' ⟨rfl, fun q' hq' y' hy' => ?_⟩
          by_cases e2 : q' = q
          · subst e2; rw [c] at hy'; cases hy'; exact e
          · exact hall q' (by omega) y' hy'
        · rw [if_neg (by
            cases h1 : (F 2 p).testBit q <;> cases h2 : (H 2 x).testBit y
            · rw [h1, h2] at e; exact absurd rfl e
            · decide
            · decide
            · rw [h1, h2] at e; exact absurd rfl e)]
          exact h0 (fun z => e (z.2.2 q hq y c))
    · rintro kk S' ⟨rfl, hall⟩
      unfold b_X7_fits_48
      rw [hE.1 0 (by omega), if_pos (nI_le (Nat.le_refl _) (by omega))]
      exact h1 ⟨c1, c2, hall⟩
  · rw [if_neg c1]
    exact h0 (fun z => c1 z.1)
/-- behind i names more along a cycle -/
def NI (F H : Fm) (N : Nat → Option Nat) (p x : Nat) : Nat → Nat → Option Nat
  | 0 => N
  | i + 1 => fun q => if q = it (F 1) i p then some (it (H 1) i x) else NI F H N p x i q
def TI (H : Fm) (T x : Nat) : Nat → Nat
  | 0 => T
  | i + 1 => TI H T x i ||| 2 ^ it (H 1) i x
theorem NI_in {F H : Fm} {N : Nat → Option Nat} {p x : Nat} (hF : Pm (F 0 0) (F 1)) (hp : p < F 0 0) : ∀ i, i ≤ cyc (F 0 0) (F 1) p → ∀ j, j < i → NI F H N p x i (it (F 1) j p) = some (it (H 1) j x)
  | 0, _, j, hj => absurd hj (Nat.not_lt_zero _)
  | i + 1, hi, j, hj => by
    show (if _ then _ else _) = _
    by_cases c : j = i
    · subst c; rw [if_pos rfl]
    · rw [if_neg (fun q => it_ne hF hp (show j < i by omega) (by omega) q)]
      exact NI_in hF hp i (by omega) j (by omega)
theorem NI_out {F H : Fm} {N : Nat → Option Nat} {p x q : Nat} : ∀ i, (∀ j, j < i → it (F 1) j p ≠ q) → NI F H N p x i q = N q
  | 0, _ => rfl
  | i + 1, h => by
    show (if _ then _ else _) = _
    rw [if_neg (fun e => h i (by omega) e.symm)]
    exact NI_out i (fun j hj => h j (by omega))
theorem NI_cases {F H : Fm} {N : Nat → Option Nat} {p x q : Nat} (hF : Pm (F 0 0) (F 1)) (hp : p < F 0 0) {i : Nat} (hi : i ≤ cyc (F 0 0) (F 1) p) : (∃ j, j < i ∧ it (F 1) j p = q ∧ NI F H N p x i q = some (it (H 1) j x)) ∨ ((∀ j, j < i → it (F 1) j p ≠ q) ∧ NI F H N p x i q = N q) := by
  by_cases c : ∃ j, j < i ∧ it (F 1) j p = q
  · obtain ⟨j, h1, h2⟩ := c
    exact Or.inl ⟨j, h1, h2, by rw [← h2]; exact NI_in hF hp i hi j h1⟩
  · have : ∀ j, j < i → it (F 1) j p ≠ q := fun j h1 h2 => c ⟨j, h1, h2⟩
    exact Or.inr ⟨this, NI_out i this⟩
theorem it_H {F H : Fm} (hH : FW H) (hn0 : H 0 0 = F 0 0) {x : Nat} (hx : x < F 0 0) (j : Nat) : it (H 1) j x < F 0 0 := by
  have := it_lt hH.2.1 (p := x) (by omega) j
  omega
theorem TI_bit {H : Fm} {T x y : Nat} : ∀ i, (TI H T x i).testBit y = true ↔ T.testBit y = true ∨ ∃ j, j < i ∧ it (H 1) j x = y
  | 0 => ⟨Or.inl, fun h => h.elim id (fun ⟨j, h, _⟩ => absurd h (Nat.not_lt_zero _))⟩
  | i + 1 => by
    show (TI H T x i ||| 2 ^ _).testBit y = true ↔ _
    rw [tb_set, Bool.or_eq_true, TI_bit i, decide_eq_true_iff]
    constructor
    · rintro ((h | ⟨j, h1, h2⟩) | h)
      · exact Or.inl h
      · exact Or.inr ⟨j, by omega, h2⟩
      · exact Or.inr ⟨i, by omega, h⟩
    · rintro (h | ⟨j, h1, h2⟩)
      · exact Or.inl (Or.inl h)
      · by_cases e : j = i
        · subst e; exact Or.inr h2
        · exact Or.inl (Or.inr ⟨j, by omega, h2⟩)
theorem TI_lt {F H : Fm} (hn : F 0 0 ≤ 12) (hH : FW H) (hn0 : H 0 0 = F 0 0) {T x : Nat} (hx : x < F 0 0) (hT : T < 2 ^ 12) : ∀ i, TI H T x i < 2 ^ 12
  | 0 => hT
  | i + 1 => or_lt (TI_lt hn hH hn0 hx hT i) (Nat.pow_lt_pow_right (by omega) (by have := it_H hH hn0 hx i; omega))
theorem sym2 {G : Fm} (hG : FW G) {a b : Nat} (ha : a < G 0 0) (hb : b < G 0 0) : (G 2 a).testBit b = (G 2 b).testBit a := by
  cases c : (G 2 a).testBit b with
  | true => exact (((hG.2.2.1 a ha).2.2 b c).2.2).symm
  | false =>
    cases d : (G 2 b).testBit a with
    | false => rfl
    | true => rw [((hG.2.2.1 b hb).2.2 a d).2.2] at c; cases c
/-- the cycle of an unnamed place is unnamed -/
theorem cl_none {F H : Fm} {N : Nat → Option Nat} (hF : Pm (F 0 0) (F 1)) (hC : CLo F H N) {p : Nat} (hp : p < F 0 0) (h : N p = none) (k : Nat) : N (it (F 1) k p) = none := by
  have up : ∀ j q y, q < F 0 0 → N q = some y → ∃ z, N (it (F 1) j q) = some z := by
    intro j
    induction j with
    | zero => intro q y _ hq; exact ⟨y, hq⟩
    | succ j ih =>
      intro q y hq hy
      obtain ⟨z, hz⟩ := ih q y hq hy
      exact ⟨_, hC _ (it_lt hF hq j) z hz⟩
  cases c : N (it (F 1) k p) with
  | none => rfl
  | some y =>
    obtain ⟨j, hj⟩ := inC_back hF hp k
    obtain ⟨z, hz⟩ := up j _ y (it_lt hF hp k) c
    rw [hj, h] at hz
    cases hz
theorem PQ_step {F H : Fm} {N : Nat → Option Nat} {T p0 x0 : Nat} (hF : FW F) (hH : FW H) (hn0 : H 0 0 = F 0 0) (hPQ : PQ F H N) (hp : p0 < F 0 0) (hx : x0 < F 0 0) (hfit : fitC F H N p0 x0) (hT : ∀ q, q < F 0 0 → N q ≠ some x0) : PQ F H (fun q => if q = p0 then some x0 else N q) := by
  intro p hpn y hy
  dsimp only at hy
  by_cases c : p = p0
  · subst c
    rw [if_pos rfl] at hy
    cases hy
    refine ⟨hx, hfit.2.1, fun q hq z hz => ?_⟩
    dsimp only at hz
    by_cases d : q = p
    · subst d
      rw [if_pos rfl] at hz
      cases hz
      exact ⟨fun t => absurd rfl t, by rw [irr2 hF hp, irr2 hH (by omega)]⟩
    · rw [if_neg d] at hz
      exact ⟨fun _ e => hT q hq (by rw [e]; exact hz), hfit.2.2 q hq z hz⟩
  · rw [if_neg c] at hy
    obtain ⟨h1, h2, h3⟩ := hPQ p hpn y hy
    refine ⟨h1, h2, fun q hq z hz => ?_⟩
    dsimp only at hz
    by_cases d : q = p0
    · subst d
      rw [if_pos rfl] at hz
      cases hz
      refine ⟨fun _ e => hT p hpn (by rw [← e]; exact hy), ?_⟩
      rw [sym2 hF hpn hq, sym2 hH (a := y) (by omega) (by omega)]
      exact hfit.2.2 p hpn y hy
    · rw [if_neg d] at hz
      exact h3 q hq z hz
/-- a renaming that names p x names p's cycle so -/
theorem ext_NI {F H : Fm} {N : Nat → Option Nat} {p x : Nat} {τ : Nat → Nat} (hF : Pm (F 0 0) (F 1)) (hp : p < F 0 0) (hτ : Ren F H τ) (he : ext F N τ) (hx : τ p = x) : ∀ i, ext F (NI F H N p x i) τ
  | 0 => he
  | i + 1 => fun q hq y hy => by
    have hy : (if q = it (F 1) i p then some (it (H 1) i x) else NI F H N p x i q) = some y := hy
    by_cases c : q = it (F 1) i p
    · rw [if_pos c] at hy
      cases hy
      rw [c, Ren_it hF hτ hp i, hx]
    · rw [if_neg c] at hy
      exact ext_NI hF hp hτ he hx i q hq y hy
theorem TT_NI {F H : Fm} {N : Nat → Option Nat} {T p x i : Nat} (hn : F 0 0 ≤ 12) (hF : Pm (F 0 0) (F 1)) (hH : FW H) (hn0 : H 0 0 = F 0 0) (hC : CLo F H N) (hT : TT F N T) (hp : p < F 0 0) (hx : x < F 0 0) (hN : N p = none) (hi : i ≤ cyc (F 0 0) (F 1) p) : TT F (NI F H N p x i) (TI H T x i) := by
  refine ⟨TI_lt hn hH hn0 hx hT.1 i, fun y => ?_⟩
  rw [TI_bit, hT.2]
  constructor
  · rintro (⟨q, h1, h2⟩ | ⟨j, h1, h2⟩)
    · refine ⟨q, h1, ?_⟩
      rw [NI_out i (fun j _ e => by
        have := cl_none hF hC hp hN j
        rw [e, h2] at this; cases this)]
      exact h2
    · exact ⟨it (F 1) j p, it_lt hF hp j, by rw [NI_in hF hp i hi j h1, h2]⟩
  · rintro ⟨q, h1, h2⟩
    rcases NI_cases (H := H) (N := N) (x := x) (q := q) hF hp hi with ⟨j, j1, j2, j3⟩ | ⟨j1, j2⟩
    · rw [j3] at h2
      exact Or.inr ⟨j, j1, by simpa using h2⟩
    · rw [j2] at h2
      exact Or.inl ⟨q, h1, h2⟩
theorem e_givesCycle {F H : Fm} {o p x T : Nat} {N : Nat → Option Nat} {S : St} {Q : Int32 → St → Prop} (ho : okO o) (h4 : isE4 o) (hF : FW F) (hH : FW H) (hn0 : H 0 0 = F 0 0) (hS : NS F H o S) (hN : ∀ q, q < F 0 0 → gI S 57 q = gN (N q)) (hTs : gI S 56 7 = nI T) (hPQ : PQ F H N) (hC : CLo F H N) (hT : TT F N T) (hp : p < F 0 0) (hx : x < F 0 0) (hNp : N p = none)
    (h1 : ∀ S' N' T', frN S S' → (∀ q, q < F 0 0 → gI S' 57 q = gN (N' q)) → gI S' 56 7 = nI T' → PQ F H N' → CLo F H N' → TT F N' T' → N' p = some x → (∀ q, q < F 0 0 → N q ≠ none → N' q = N q) → (∀ τ, Ren F H τ → ext F N τ → τ p = x → ext F N' τ) → (∀ τ, ext F N' τ → ext F N τ ∧ τ p = x) → N' = NI F H N p x (cyc (F 0 0) (F 1) p) → T' = TI H T x (cyc (F 0 0) (F 1) p) → (∀ j, j < cyc (F 0 0) (F 1) p → (TI H T x j).testBit (it (H 1) j x) = false) → Q 1 S')
    (h0 : ∀ S' i, frN S S' → i ≤ cyc (F 0 0) (F 1) p → (∀ q, q < F 0 0 → gI S' 57 q = gN (NI F H N p x i q)) → gI S' 56 7 = nI (TI H T x i) → (∀ j, j < i → (TI H T x j).testBit (it (H 1) j x) = false) → (∀ τ, Ren F H τ → ext F N τ → τ p ≠ x) → Q 0 S') :
    w_X7_givesCycle (nI p) (nI x) S Q := by
  have hn := hF.1.2.1
  have hf := hF.2.1
  obtain ⟨c1, c2, c3, c4⟩ := cyc_spec hf hp
  obtain ⟨⟨l1, l2, l3⟩, -⟩ := okO_ln ho
  refine loopG3 (B := b_X7_givesCycle_8 Q) (fun g v3 v4 v5 S' => frN S S' ∧ ∃ i, i ≤ cyc (F 0 0) (F 1) p ∧ g = cyc (F 0 0) (F 1) p - i ∧ v3 = nI (it (F 1) i p) ∧ v4 = nI (it (H 1) i x) ∧ v5 = nI i ∧ (∀ q, q < F 0 0 → gI S' 57 q = gN (NI F H N p x i q)) ∧ gI S' 56 7 = nI (TI H T x i) ∧ PQ F H (NI F H N p x i) ∧ ∀ j, j < i → (TI H T x j).testBit (it (H 1) j x) = false) ?_ (cyc (F 0 0) (F 1) p) _ _ _ ⟨frN_refl S, 0, by omega, rfl, rfl, rfl, rfl, hN, hTs, hPQ, fun j hj => absurd hj (Nat.not_lt_zero _)⟩
  rintro kk g v3 v4 v5 S' ⟨hfr, i, hi, rfl, rfl, rfl, rfl, i57, i56, iPQ, ich⟩ hkk
  unfold b_X7_givesCycle_8
  have hS' := NS_fr ho hfr hS
  have hE' := hS'.1
  have hpi := it_lt hf hp i
  have hxi := it_H hH hn0 hx i
  have hTT := TT_NI (x := x) hn hf hH hn0 hC hT hp hx hNp hi
  rw [hE'.1 0 (by omega)]
  by_cases ic : i = cyc (F 0 0) (F 1) p
  · -- the whole cycle is named
    have hpp : it (F 1) i p = p := by rw [ic]; exact c1
    have hNp' : NI F H N p x i p = some x := by
      have := NI_in (H := H) (N := N) (x := x) hf hp i hi 0 (by omega)
      exact this
    have fin : w_X7_givesCycle_111 Q (nI (it (F 1) i p)) (nI (it (H 1) i x)) S' := by
      unfold w_X7_givesCycle_111
      refine e_cell (by show it (F 1) i p < 12; omega) (by decide) ?_
      rw [hpp, i57 p hp, hNp', show gN (some x) = nI x from rfl]
      refine nI_ifEq (by omega) (by omega) (fun c => ?_) (fun c => ?_)
      · refine h1 S' _ _ hfr i57 i56 iPQ ?_ hTT hNp' (fun q hq hne => ?_) (fun τ a b d => ext_NI hf hp a b d i) (fun τ a => ?_) (by rw [ic]) (by rw [ic]) (by rw [← ic]; exact ich)
        · intro q hq y hy
          rcases NI_cases (H := H) (N := N) (x := x) (q := q) hf hp hi with ⟨j, j1, j2, j3⟩ | ⟨j1, j2⟩
          · rw [j3] at hy
            cases hy
            rw [← j2]
            show NI F H N p x i (it (F 1) (j + 1) p) = some (it (H 1) (j + 1) x)
            by_cases e : j + 1 = i
            · rw [e, hpp, hNp', ← c]
            · exact NI_in hf hp i hi (j + 1) (by omega)
          · rw [j2] at hy
            have hcl := hC q hq y hy
            rw [NI_out i (fun j _ e => by
              have := cl_none hf hC hp hNp j
              rw [e, hcl] at this; cases this)]
            exact hcl
        · rw [NI_out i (fun j _ e => hne (by rw [← e]; exact cl_none hf hC hp hNp j))]
        · refine ⟨fun q hq y hy => a q hq y ?_, a p hp x hNp'⟩
          rw [NI_out i (fun j _ e => by
            have := cl_none hf hC hp hNp j
            rw [e, hy] at this; cases this)]
          exact hy
      · refine h0 S' i hfr hi i57 i56 ich (fun τ hτ he e => c ?_)
        have := Ren_it hf hτ hp i
        rw [hpp, e] at this
        exact this
    by_cases e : F 0 0 ≤ i
    · rw [if_pos (nI_le e (by omega))]; exact fin
    · rw [if_neg (nI_ge (by omega) (by omega))]
      refine e_cell (by show it (F 1) i p < 12; omega) (by decide) ?_
      rw [hpp, i57 p hp, hNp', show gN (some x) = nI x from rfl, if_neg (show ¬ nI x = (-1 : Int32) from fun q => nI_pos (n := x) (by omega) (by rw [q]; decide))]
      rw [hpp] at fin
      exact fin
  · have hic : i < cyc (F 0 0) (F 1) p := by omega
    have hnone : NI F H N p x i (it (F 1) i p) = none := by
      rw [NI_out i (fun j hj => it_ne hf hp hj hic)]
      exact cl_none hf hC hp hNp i
    rw [if_neg (nI_ge (by omega) (by omega))]
    refine e_cell (by show it (F 1) i p < 12; omega) (by decide) ?_
    rw [i57 _ hpi, hnone, show gN none = (-1 : Int32) from rfl, if_pos rfl, i56]
    have hTl := hTT.1
    refine bN_if (by omega) (by omega) (fun ct => ?_) (fun ct => ?_)
    · refine e_fits ho h4 hF hH hn0 hS' i57 iPQ hpi hxi (fun cf => ?_) (fun cf => ?_)
      · rw [if_neg (by decide)]
        refine e_put (by show it (F 1) i p < 12; omega) (by decide) ?_
        intro S2 hS2
        rw [gI_sI, if_neg (by omega), i56, bN_one (by omega), bN_or] at hS2
        have hfr2 : frN S S2 := by rw [hS2]; exact frN_56 (frN_57 hfr)
        have hS2' := NS_fr ho hfr2 hS
        refine e_cell (by show it (F 1) i p < 12; omega) (by decide) ⟨o, hS2'.2.2.2, h4, e_cell (by omega) (by omega) ?_⟩
        rw [show gI S2 22 (it (F 1) i p) = nI (F 1 (it (F 1) i p)) from hS2'.1.2.1 1 _ (by omega) (by omega) hpi, hS2'.2.1.2.1 1 _ (by omega) (by omega) (by omega)]
        intro y hy
        have hy2 : y = nI (i + 1) := hy.trans (nI_1 i)
        subst hy2
        refine hkk (cyc (F 0 0) (F 1) p - (i + 1)) _ _ _ _ ⟨hfr2, i + 1, by omega, rfl, rfl, rfl, rfl, fun q hq => ?_, ?_, ?_, fun j hj => ?_⟩ (by omega)
        · rw [hS2, gI_sI, if_neg (by omega), gI_sI]
          show _ = gN (if _ then _ else _)
          by_cases c : q = it (F 1) i p
          · rw [if_pos ⟨rfl, c⟩, if_pos c]; rfl
          · rw [if_neg (fun z => c z.2), if_neg c]; exact i57 q hq
        · rw [hS2, gI_sI, if_pos ⟨rfl, rfl⟩]; rfl
        · refine PQ_step (T := T) hF hH hn0 iPQ hpi hxi cf (fun q hq e => ?_)
          have := (hTT.2 _).mpr ⟨q, hq, e⟩
          rw [ct] at this; cases this
        · by_cases c : j = i
          · subst c; exact ct
          · exact ich j (by omega)
      · rw [if_pos rfl]
        refine h0 S' i hfr hi i57 i56 ich (fun τ hτ he e => cf ?_)
        have hx2 := ext_NI hf hp hτ he e i
        have hti : τ (it (F 1) i p) = it (H 1) i x := by rw [Ren_it hf hτ hp i, e]
        refine ⟨by rw [tn_ren hf hn0 hτ _ _ hpi, hti], by rw [hτ.2.2.1 _ hpi, hti], fun q hq y hy => ?_⟩
        rw [hτ.2.2.2.2 _ q hpi hq, hti, hx2 q hq y hy]
    · refine h0 S' i hfr hi i57 i56 ich (fun τ hτ he e => ?_)
      have hx2 := ext_NI hf hp hτ he e i
      have hti : τ (it (F 1) i p) = it (H 1) i x := by rw [Ren_it hf hτ hp i, e]
      obtain ⟨q, hq, hqe⟩ := (hTT.2 _).mp ct
      have h2 := hx2 q hq _ hqe
      rw [← hti] at h2
      have := hτ.2.1 q _ hq hpi h2
      rw [this, hnone] at hqe
      cases hqe
theorem i_clr {T x : Nat} (hx : x < 12) (h : T.testBit x = true) : nI T &&& (nI (2 ^ x) ^^^ (-1 : Int32)) = nI (T ^^^ 2 ^ x) := by
  apply Int32.toBitVec_inj.1
  show BitVec.ofNat 32 T &&& (BitVec.ofNat 32 (2 ^ x) ^^^ BitVec.allOnes 32) = BitVec.ofNat 32 (T ^^^ 2 ^ x)
  apply BitVec.eq_of_getLsbD_eq
  intro i hi
  simp only [BitVec.getLsbD_and, BitVec.getLsbD_xor, BitVec.getLsbD_ofNat, BitVec.getLsbD_allOnes, hi, decide_true, Bool.true_and, tb_x, tb_one]
  by_cases e : x = i
  · subst e; simp [h]
  · simp [e]
/-- the names of a cycle but for the first k are taken back -/
theorem e_takeCycleBack {F H : Fm} {o p x T i : Nat} {N : Nat → Option Nat} {S : St} {Q : St → Prop} (ho : okO o) (hF : FW F) (hH : FW H) (hn0 : H 0 0 = F 0 0) (hS : NS F H o S) (hC : CLo F H N) (hT : TT F N T) (hp : p < F 0 0) (hx : x < F 0 0) (hNp : N p = none) (hi : i ≤ cyc (F 0 0) (F 1) p) (h57 : ∀ q, q < F 0 0 → gI S 57 q = gN (NI F H N p x i q)) (h56 : gI S 56 7 = nI (TI H T x i)) (hch : ∀ j, j < i → (TI H T x j).testBit (it (H 1) j x) = false)
    (hQ : ∀ S', frN S S' → (∀ q, q < F 0 0 → gI S' 57 q = gN (N q)) → gI S' 56 7 = nI T → Q S') : w_X7_takeCycleBack (nI p) S Q := by
  have hn := hF.1.2.1
  have hf := hF.2.1
  obtain ⟨c1, c2, c3, c4⟩ := cyc_spec hf hp
  have hne : ∀ j k, j < i → k < i → it (H 1) j x = it (H 1) k x → j = k := by
    have key : ∀ j k, j < k → k < i → it (H 1) j x ≠ it (H 1) k x := by
      intro j k hjk hki e
      have := hch k hki
      have h2 := (TI_bit (H := H) (T := T) (x := x) (y := it (H 1) k x) k).mpr (Or.inr ⟨j, hjk, e⟩)
      rw [this] at h2; cases h2
    intro j k hj hk e
    rcases Nat.lt_trichotomy j k with q | q | q
    · exact absurd e (key j k q hk)
    · exact q
    · exact absurd e.symm (key k j q hj)
  have hnT : ∀ j, j < i → T.testBit (it (H 1) j x) = false := by
    intro j hj
    cases c : T.testBit (it (H 1) j x) with
    | false => rfl
    | true =>
      have := (TI_bit (H := H) (T := T) (x := x) (y := it (H 1) j x) j).mpr (Or.inl c)
      rw [hch j hj] at this; cases this
  refine loopG2 (B := b_X7_takeCycleBack_4 Q) (fun g v2 v3 S' => frN S S' ∧ ∃ k U, k ≤ i ∧ g = i - k ∧ v2 = nI (it (F 1) k p) ∧ v3 = nI k ∧ (∀ q, q < F 0 0 → (∀ j, j < k → it (F 1) j p ≠ q) → gI S' 57 q = gN (NI F H N p x i q)) ∧ (∀ j, j < k → gI S' 57 (it (F 1) j p) = -1) ∧ gI S' 56 7 = nI U ∧ U < 2 ^ 12 ∧ ∀ y, U.testBit y = true ↔ T.testBit y = true ∨ ∃ j, k ≤ j ∧ j < i ∧ it (H 1) j x = y) ?_ i _ _ ⟨frN_refl S, 0, TI H T x i, by omega, rfl, rfl, rfl, fun q hq _ => h57 q hq, fun j hj => absurd hj (Nat.not_lt_zero _), h56, TI_lt hn hH hn0 hx hT.1 i, fun y => by
    rw [TI_bit]
    exact ⟨fun h => h.imp id (fun ⟨j, a, b⟩ => ⟨j, by omega, a, b⟩), fun h => h.imp id (fun ⟨j, _, a, b⟩ => ⟨j, a, b⟩)⟩⟩
  rintro kk g v2 v3 S' ⟨hfr, k, U, hk, rfl, rfl, rfl, k57, kcl, k56, kU, kb⟩ hkk
  unfold b_X7_takeCycleBack_4
  have hE' := (NS_fr ho hfr hS).1
  have hpk := it_lt hf hp k
  -- all are taken back
  have fin : k = i → Q S' := by
    intro e
    subst e
    have hUT : U = T := Nat.eq_of_testBit_eq (fun y => by
      cases a : T.testBit y with
      | true => exact (kb y).mpr (Or.inl a)
      | false =>
        cases b : U.testBit y with
        | false => rfl
        | true =>
          rcases (kb y).mp b with q | ⟨j, j1, j2, -⟩
          · rw [a] at q; cases q
          · omega)
    refine hQ S' hfr (fun q hq => ?_) (by rw [k56, hUT])
    by_cases c : ∃ j, j < k ∧ it (F 1) j p = q
    · obtain ⟨j, j1, j2⟩ := c
      rw [← j2, kcl j j1, cl_none hf hC hp hNp j]; rfl
    · have hno : ∀ j, j < k → it (F 1) j p ≠ q := fun j a b => c ⟨j, a, b⟩
      rw [k57 q hq hno, NI_out k hno]
  rw [hE'.1 0 (by omega)]
  by_cases e : F 0 0 ≤ k
  · rw [if_pos (nI_le e (by omega))]
    exact fin (by omega)
  · rw [if_neg (nI_ge (by omega) (by omega))]
    refine e_cell (by show it (F 1) k p < 12; omega) (by decide) ?_
    by_cases ek : k = i
    · have hm : gI S' 57 (it (F 1) k p) = -1 := by
        by_cases ec : k = cyc (F 0 0) (F 1) p
        · have := kcl 0 (by omega)
          rw [ec, c1]; exact this
        · rw [k57 _ hpk (fun j hj => it_ne hf hp hj (by omega)), ek, NI_out i (fun j hj => it_ne hf hp hj (by omega)), cl_none hf hC hp hNp i]; rfl
      rw [hm, if_pos rfl]
      exact fin ek
    · have hxk := it_H hH hn0 hx k
      have hv : gI S' 57 (it (F 1) k p) = nI (it (H 1) k x) := by
        rw [k57 _ hpk (fun j hj => it_ne hf hp hj (by omega)), NI_in hf hp i hi k (by omega)]; rfl
      rw [hv, if_neg (show ¬ nI (it (H 1) k x) = (-1 : Int32) from fun q => nI_pos (n := it (H 1) k x) (by omega) (by rw [q]; decide))]
      refine e_cell (by show it (F 1) k p < 12; omega) (by decide) ?_
      rw [hv]
      intro S2 hS2
      have hbit : U.testBit (it (H 1) k x) = true := (kb _).mpr (Or.inr ⟨k, Nat.le_refl _, by omega, rfl⟩)
      rw [k56, bN_one (by omega), i_clr (by omega) hbit] at hS2
      refine e_put (by show it (F 1) k p < 12; omega) (by decide) ?_
      have hfr2 : frN S (sI S2 57 (it (F 1) k p) (-1)) := by rw [hS2]; exact frN_57 (frN_56 hfr)
      have hE2 := (NS_fr ho hfr2 hS).1
      refine e_cell (by show it (F 1) k p < 12; omega) (by decide) ?_
      rw [show gI (sI S2 57 (it (F 1) k p) (-1)) 22 (it (F 1) k p) = nI (F 1 (it (F 1) k p)) from hE2.2.1 1 _ (by omega) (by omega) hpk]
      intro y hy
      have hy2 : y = nI (k + 1) := hy.trans (nI_1 k)
      subst hy2
      refine hkk (i - (k + 1)) _ _ _ ⟨hfr2, k + 1, U ^^^ 2 ^ it (H 1) k x, by omega, rfl, rfl, rfl, fun q hq hno => ?_, fun j hj => ?_, ?_, ?_, fun y => ?_⟩ (by omega)
      · rw [gI_sI, if_neg (fun z => hno k (by omega) z.2.symm), hS2, gI_sI, if_neg (by omega)]
        exact k57 q hq (fun j hj => hno j (by omega))
      · rw [gI_sI]
        by_cases c : it (F 1) j p = it (F 1) k p
        · rw [if_pos ⟨rfl, c⟩]
        · rw [if_neg (fun z => c z.2), hS2, gI_sI, if_neg (by omega)]
          refine kcl j ?_
          have : j ≠ k := fun z => c (by rw [z])
          omega
      · rw [gI_sI, if_neg (by omega), hS2, gI_sI, if_pos ⟨rfl, rfl⟩]
      · exact Nat.lt_trans (x_lt hbit) kU
      · rw [tb_x]
        by_cases c : it (H 1) k x = y
        · subst c
          rw [hbit]
          simp only [decide_true, Bool.xor_self, Bool.false_eq_true, false_iff]
          rintro (q | ⟨j, j1, j2, j3⟩)
          · rw [hnT k (by omega)] at q; cases q
          · have := hne j k j2 (by omega) j3
            omega
        · rw [decide_eq_false c, Bool.xor_false, kb]
          exact ⟨fun h => h.imp id (fun ⟨j, j1, j2, j3⟩ => ⟨j, by
            have : j ≠ k := fun z => c (by rw [← z]; exact j3)
            omega, j2, j3⟩), fun h => h.imp id (fun ⟨j, j1, j2, j3⟩ => ⟨j, by omega, j2, j3⟩)⟩
