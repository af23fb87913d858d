/-! ===== pure: iterates, turnings, cycles, their least common multiple ===== -/
theorem fb_holes : ∀ (m n : Nat) (f : Nat → Nat), (∀ i, i < n → f i < m) → (∀ i j, i < j → j < n → f i ≠ f j) → n ≤ m := by
  intro m
  induction m with
  | zero =>
    intro n f h1 _
    rcases Nat.eq_zero_or_pos n with h | h
    · omega
    · exact absurd (h1 0 h) (Nat.not_lt_zero _)
  | succ m ih =>
    intro n f h1 h2
    by_cases hx : ∃ i, i < n ∧ f i = m
    · obtain ⟨a, ha, hfa⟩ := hx
      have hg := ih (n - 1) (fun i => if i < a then f i else f (i + 1)) (by
        intro i hi
        by_cases q : i < a
        · simp only [if_pos q]
          have b1 := h1 i (by omega)
          have b2 := h2 i a q ha
          omega
        · simp only [if_neg q]
          have b1 := h1 (i + 1) (by omega)
          have b2 := h2 a (i + 1) (by omega) (by omega)
          omega) (by
        intro i j hij hj
        by_cases q : i < a
        · by_cases r : j < a
          · simp only [if_pos q, if_pos r]
            exact h2 i j hij (by omega)
          · simp only [if_pos q, if_neg r]
            exact h2 i (j + 1) (by omega) (by omega)
        · have r : ¬ j < a := by omega
          simp only [if_neg q, if_neg r]
          exact h2 (i + 1) (j + 1) (by omega) (by omega))
      omega
    · have hg := ih n f (fun i hi => by
        have b1 := h1 i hi
        have b2 : f i ≠ m := fun e => hx ⟨i, hi, e⟩
        omega) h2
      omega
theorem fb_twice {m n : Nat} {f : Nat → Nat} (h : ∀ i, i < n → f i < m) (hm : m < n) : ∃ i j, i < j ∧ j < n ∧ f i = f j := by
  refine Classical.byContradiction fun hx => ?_
  have := fb_holes m n f h (fun i j hij hj e => hx ⟨i, j, hij, hj, e⟩)
  omega
theorem fb_onto {n : Nat} {f : Nat → Nat} (h : ∀ i, i < n → f i < n) (h2 : ∀ i j, i < j → j < n → f i ≠ f j) {y : Nat} (hy : y < n) : ∃ i, i < n ∧ f i = y := by
  refine Classical.byContradiction fun hx => ?_
  have := fb_holes n (n + 1) (fun i => if i < n then f i else y) (by
    intro i hi
    by_cases q : i < n
    · simp only [if_pos q]; exact h i q
    · simp only [if_neg q]; exact hy) (by
    intro i j hij hj
    by_cases q : j < n
    · simp only [if_pos q, if_pos (show i < n by omega)]
      exact h2 i j hij q
    · simp only [if_neg q, if_pos (show i < n by omega)]
      exact fun e => hx ⟨i, by omega, e⟩)
  omega
def it (f : Nat → Nat) : Nat → Nat → Nat
  | 0, p => p
  | k + 1, p => f (it f k p)
theorem it_add (f : Nat → Nat) (a b p : Nat) : it f (a + b) p = it f a (it f b p) := by
  induction a with
  | zero => rw [Nat.zero_add]; rfl
  | succ a ih => rw [Nat.succ_add]; show f (it f (a + b) p) = f (it f a (it f b p)); rw [ih]
theorem it_succ (f : Nat → Nat) (k p : Nat) : it f (k + 1) p = it f k (f p) := it_add f k 1 p
/-- a turning of n places -/
def Pm (n : Nat) (f : Nat → Nat) : Prop := (∀ i, i < n → f i < n) ∧ ∀ i j, i < n → j < n → f i = f j → i = j
theorem it_lt {n : Nat} {f : Nat → Nat} (h : Pm n f) {p : Nat} (hp : p < n) : ∀ k, it f k p < n
  | 0 => hp
  | k + 1 => h.1 _ (it_lt h hp k)
theorem it_inj {n : Nat} {f : Nat → Nat} (h : Pm n f) {p q : Nat} (hp : p < n) (hq : q < n) : ∀ k, it f k p = it f k q → p = q
  | 0, e => e
  | k + 1, e => it_inj h hp hq k (h.2 _ _ (it_lt h hp k) (it_lt h hq k) e)
theorem it_onto {n : Nat} {f : Nat → Nat} (h : Pm n f) (k : Nat) {q : Nat} (hq : q < n) : ∃ p, p < n ∧ it f k p = q :=
  fb_onto (f := fun p => it f k p) (fun i hi => it_lt h hi k) (fun i j hij hj e => by
    have := it_inj h (by omega) hj k e
    omega) hq
/-- the first place from k on, m places looked at -/
def fnd (P : Nat → Bool) : Nat → Nat → Nat
  | 0, k => k
  | m + 1, k => if P k then k else fnd P m (k + 1)
theorem fnd_spec (P : Nat → Bool) : ∀ (m k : Nat), (∃ L, k ≤ L ∧ L < k + m ∧ P L = true) → P (fnd P m k) = true ∧ k ≤ fnd P m k ∧ fnd P m k < k + m ∧ ∀ j, k ≤ j → j < fnd P m k → P j = false
  | 0, k, ⟨L, h1, h2, _⟩ => absurd h2 (by omega)
  | m + 1, k, ⟨L, h1, h2, h3⟩ => by
    unfold fnd
    by_cases hk : P k = true
    · rw [if_pos hk]
      exact ⟨hk, Nat.le_refl _, by omega, fun j a b => by omega⟩
    · rw [if_neg hk]
      have hne : L ≠ k := fun e => hk (e ▸ h3)
      obtain ⟨g1, g2, g3, g4⟩ := fnd_spec P m (k + 1) ⟨L, by omega, by omega, h3⟩
      refine ⟨g1, by omega, by omega, fun j a b => ?_⟩
      by_cases hj : j = k
      · subst hj; simpa using hk
      · exact g4 j (by omega) b
theorem fnd_congr {P Q : Nat → Bool} : ∀ (m k : Nat), (∀ j, k ≤ j → j < k + m → P j = Q j) → fnd P m k = fnd Q m k
  | 0, _, _ => rfl
  | m + 1, k, h => by
    unfold fnd
    rw [h k (Nat.le_refl _) (by omega), fnd_congr m (k + 1) (fun j a b => h j (by omega) (by omega))]
/-- how long the cycle of p is -/
def cyc (n : Nat) (f : Nat → Nat) (p : Nat) : Nat := fnd (fun L => it f L p == p) n 1
theorem cyc_ex {n : Nat} {f : Nat → Nat} (h : Pm n f) {p : Nat} (hp : p < n) : ∃ L, 1 ≤ L ∧ L < 1 + n ∧ it f L p = p := by
  obtain ⟨i, j, hij, hj, e⟩ := fb_twice (m := n) (n := n + 1) (f := fun k => it f k p) (fun i _ => it_lt h hp i) (Nat.lt_succ_self n)
  refine ⟨j - i, by omega, by omega, ?_⟩
  have e2 : it f j p = it f i (it f (j - i) p) := by rw [← it_add]; congr 1; omega
  exact (it_inj h hp (it_lt h hp _) i (by rw [← e2]; exact e)).symm
theorem cyc_spec {n : Nat} {f : Nat → Nat} (h : Pm n f) {p : Nat} (hp : p < n) : it f (cyc n f p) p = p ∧ 1 ≤ cyc n f p ∧ cyc n f p ≤ n ∧ ∀ j, 1 ≤ j → j < cyc n f p → it f j p ≠ p := by
  obtain ⟨L, h1, h2, h3⟩ := cyc_ex h hp
  obtain ⟨g1, g2, g3, g4⟩ := fnd_spec (fun L => it f L p == p) n 1 ⟨L, h1, h2, by simpa using h3⟩
  refine ⟨by simpa [cyc] using g1, g2, by unfold cyc; omega, fun j a b e => ?_⟩
  have := g4 j a b
  simp [e] at this
theorem cyc_step {n : Nat} {f : Nat → Nat} (h : Pm n f) {p : Nat} (hp : p < n) : cyc n f (f p) = cyc n f p := by
  refine fnd_congr n 1 (fun j _ _ => ?_)
  have e : it f j (f p) = f (it f j p) := by rw [← it_succ]; rfl
  show (it f j (f p) == f p) = (it f j p == p)
  rw [e]
  by_cases hx : it f j p = p
  · rw [hx, beq_self_eq_true, beq_self_eq_true]
  · have hy : f (it f j p) ≠ f p := fun e2 => hx (h.2 _ _ (it_lt h hp j) hp e2)
    rw [beq_false_of_ne hy, beq_false_of_ne hx]
theorem cyc_it {n : Nat} {f : Nat → Nat} (h : Pm n f) {p : Nat} (hp : p < n) : ∀ k, cyc n f (it f k p) = cyc n f p
  | 0 => rfl
  | k + 1 => (cyc_step h (it_lt h hp k)).trans (cyc_it h hp k)
theorem it_mul {n : Nat} {f : Nat → Nat} (h : Pm n f) {p : Nat} (hp : p < n) : ∀ m, it f (cyc n f p * m) p = p
  | 0 => rfl
  | m + 1 => by rw [Nat.mul_succ, it_add, (cyc_spec h hp).1, it_mul h hp m]
theorem it_mod {n : Nat} {f : Nat → Nat} (h : Pm n f) {p : Nat} (hp : p < n) (k : Nat) : it f (k % cyc n f p) p = it f k p := by
  have e : it f k p = it f (k % cyc n f p) (it f (cyc n f p * (k / cyc n f p)) p) := by rw [← it_add, Nat.mod_add_div]
  rw [e, it_mul h hp]
theorem it_ne {n : Nat} {f : Nat → Nat} (h : Pm n f) {p : Nat} (hp : p < n) {i j : Nat} (hij : i < j) (hj : j < cyc n f p) : it f i p ≠ it f j p := by
  intro e
  have e2 : it f j p = it f i (it f (j - i) p) := by rw [← it_add]; congr 1; omega
  exact (cyc_spec h hp).2.2.2 (j - i) (by omega) (by omega) (it_inj h hp (it_lt h hp _) i (by rw [← e2]; exact e)).symm
/-- the round: all is as at first behind so many -/
def rndU (n : Nat) (f : Nat → Nat) : Nat → Nat
  | 0 => 1
  | m + 1 => Nat.lcm (rndU n f m) (cyc n f m)
abbrev rnd (n : Nat) (f : Nat → Nat) : Nat := rndU n f n
theorem cyc_dvd {n : Nat} {f : Nat → Nat} (h : Pm n f) (hn : n ≤ 12) {p : Nat} (hp : p < n) : cyc n f p ∣ 27720 := by
  obtain ⟨-, h1, h2, -⟩ := cyc_spec h hp
  have key : ∀ c, c < 13 → 1 ≤ c → c ∣ 27720 := by decide
  exact key _ (by omega) h1
theorem rndU_dvd {n : Nat} {f : Nat → Nat} (h : Pm n f) (hn : n ≤ 12) : ∀ m, m ≤ n → rndU n f m ∣ 27720
  | 0, _ => Nat.one_dvd _
  | m + 1, hm => Nat.lcm_dvd (rndU_dvd h hn m (by omega)) (cyc_dvd h hn (by omega))
theorem rndU_pos {n : Nat} {f : Nat → Nat} (h : Pm n f) : ∀ m, m ≤ n → 0 < rndU n f m
  | 0, _ => Nat.one_pos
  | m + 1, hm => Nat.lcm_pos (rndU_pos h m (by omega)) (cyc_spec h (by omega)).2.1
theorem cyc_dvd_rnd {n : Nat} {f : Nat → Nat} : ∀ m p, p < m → cyc n f p ∣ rndU n f m
  | m + 1, p, hp => by
    by_cases e : p = m
    · subst e; exact Nat.dvd_lcm_right _ _
    · exact Nat.dvd_trans (cyc_dvd_rnd m p (by omega)) (Nat.dvd_lcm_left _ _)
theorem rnd_le {n : Nat} {f : Nat → Nat} (h : Pm n f) (hn : n ≤ 12) {m : Nat} (hm : m ≤ n) : rndU n f m ≤ 27720 := Nat.le_of_dvd (by decide) (rndU_dvd h hn m hm)
theorem it_rnd {n : Nat} {f : Nat → Nat} (h : Pm n f) {p : Nat} (hp : p < n) : it f (rnd n f) p = p := by
  rw [← it_mod h hp, Nat.mod_eq_zero_of_dvd (cyc_dvd_rnd n p hp)]; rfl
