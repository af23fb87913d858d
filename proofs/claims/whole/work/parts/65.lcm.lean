/-! ===== pure: a least common multiple from greatest prime powers ===== -/
/-- the product of g over 2 .. m+1 -/
def prd (g : Nat → Nat) : Nat → Nat
  | 0 => 1
  | m + 1 => prd g m * g (m + 2)
theorem prd_congr {g h : Nat → Nat} : ∀ m, (∀ q, 2 ≤ q → q < m + 2 → g q = h q) → prd g m = prd h m
  | 0, _ => rfl
  | m + 1, e => by unfold prd; rw [prd_congr m (fun q a b => e q a (by omega)), e (m + 2) (by omega) (by omega)]
theorem prd_one {g : Nat → Nat} : ∀ m, (∀ q, 2 ≤ q → q < m + 2 → g q = 1) → prd g m = 1
  | 0, _ => rfl
  | m + 1, e => by unfold prd; rw [prd_one m (fun q a b => e q a (by omega)), e (m + 2) (by omega) (by omega)]
theorem prd_cop {g : Nat → Nat} {x : Nat} : ∀ m, (∀ q, 2 ≤ q → q < m + 2 → Nat.Coprime (g q) x) → Nat.Coprime (prd g m) x
  | 0, _ => Nat.coprime_one_left x
  | m + 1, e => Nat.Coprime.mul_left (prd_cop m (fun q a b => e q a (by omega))) (e (m + 2) (by omega) (by omega))
theorem lcm_mul_cop {a b A B : Nat} (h1 : Nat.Coprime a A) (h2 : Nat.Coprime a B) (h3 : Nat.Coprime b A) (h4 : Nat.Coprime b B) : Nat.lcm (A * a) (B * b) = Nat.lcm A B * Nat.lcm a b := by
  refine Nat.dvd_antisymm ?_ ?_
  · refine Nat.lcm_dvd ?_ ?_
    · exact Nat.mul_dvd_mul (Nat.dvd_lcm_left A B) (Nat.dvd_lcm_left a b)
    · exact Nat.mul_dvd_mul (Nat.dvd_lcm_right A B) (Nat.dvd_lcm_right a b)
  · have c1 : Nat.Coprime a (Nat.lcm A B) := Nat.Coprime.coprime_dvd_right (Nat.lcm_dvd (Nat.dvd_mul_right A B) (Nat.dvd_mul_left B A)) (Nat.Coprime.mul_right h1 h2)
    have c2 : Nat.Coprime b (Nat.lcm A B) := Nat.Coprime.coprime_dvd_right (Nat.lcm_dvd (Nat.dvd_mul_right A B) (Nat.dvd_mul_left B A)) (Nat.Coprime.mul_right h3 h4)
    have c3 : Nat.Coprime (Nat.lcm a b) (Nat.lcm A B) := Nat.Coprime.coprime_dvd_left (Nat.lcm_dvd (Nat.dvd_mul_right a b) (Nat.dvd_mul_left b a)) (Nat.Coprime.mul_left c1 c2)
    refine Nat.Coprime.mul_dvd_of_dvd_of_dvd c3.symm ?_ ?_
    · refine Nat.lcm_dvd ?_ ?_
      · exact Nat.dvd_trans (Nat.dvd_mul_right A a) (Nat.dvd_lcm_left _ _)
      · exact Nat.dvd_trans (Nat.dvd_mul_right B b) (Nat.dvd_lcm_right _ _)
    · refine Nat.lcm_dvd ?_ ?_
      · exact Nat.dvd_trans (Nat.dvd_mul_left a A) (Nat.dvd_lcm_left _ _)
      · exact Nat.dvd_trans (Nat.dvd_mul_left b B) (Nat.dvd_lcm_right _ _)
/-- a power of q, which is a prime or the power is the 0th -/
def ppw (q x : Nat) : Prop := ∃ e, x = q ^ e ∧ (e = 0 ∨ ∀ d, 2 ≤ d → d < q → ¬ d ∣ q)
theorem ppw_one (q : Nat) : ppw q 1 := ⟨0, rfl, Or.inl rfl⟩
theorem ppw_cop {p q x y : Nat} (hp : 2 ≤ p) (hq : 2 ≤ q) (hne : p ≠ q) (hx : ppw p x) (hy : ppw q y) : Nat.Coprime x y := by
  obtain ⟨e, rfl, h1⟩ := hx
  obtain ⟨d, rfl, h2⟩ := hy
  rcases h1 with rfl | h1
  · exact Nat.coprime_one_left _
  rcases h2 with rfl | h2
  · exact Nat.coprime_one_right _
  refine Nat.Coprime.pow _ _ ?_
  have g1 := Nat.gcd_dvd_left p q
  have g2 := Nat.gcd_dvd_right p q
  have l1 := Nat.le_of_dvd (by omega) g1
  have l2 := Nat.le_of_dvd (by omega) g2
  have g0 : 0 < Nat.gcd p q := Nat.gcd_pos_of_pos_left _ (by omega)
  rcases Nat.lt_or_ge p q with a | a
  · by_cases e1 : Nat.gcd p q = 1
    · exact e1
    · exact absurd g2 (h2 _ (by omega) (by omega))
  · by_cases e1 : Nat.gcd p q = 1
    · exact e1
    · exact absurd g1 (h1 _ (by omega) (by omega))
theorem ppw_max {q x y : Nat} (hq : 2 ≤ q) (hx : ppw q x) (hy : ppw q y) : Nat.lcm x y = Nat.max x y ∧ ppw q (Nat.max x y) := by
  obtain ⟨e, rfl, h1⟩ := hx
  obtain ⟨d, rfl, h2⟩ := hy
  rcases Nat.le_total e d with a | a
  · have le : q ^ e ≤ q ^ d := Nat.pow_le_pow_right (by omega) a
    rw [show Nat.max (q ^ e) (q ^ d) = q ^ d from Nat.max_eq_right le]
    exact ⟨Nat.lcm_eq_right (Nat.pow_dvd_pow q a), d, rfl, h2⟩
  · have le : q ^ d ≤ q ^ e := Nat.pow_le_pow_right (by omega) a
    rw [show Nat.max (q ^ e) (q ^ d) = q ^ e from Nat.max_eq_left le]
    exact ⟨Nat.lcm_eq_left (Nat.pow_dvd_pow q a), e, rfl, h1⟩
theorem lcm_prd {g h : Nat → Nat} : ∀ m, (∀ q, 2 ≤ q → q < m + 2 → ppw q (g q) ∧ ppw q (h q)) → Nat.lcm (prd g m) (prd h m) = prd (fun q => Nat.max (g q) (h q)) m
  | 0, _ => Nat.lcm_self 1
  | m + 1, e => by
    have ih := lcm_prd m (fun q a b => e q a (by omega))
    obtain ⟨a1, a2⟩ := e (m + 2) (by omega) (by omega)
    show Nat.lcm (prd g m * g (m + 2)) (prd h m * h (m + 2)) = prd _ m * Nat.max (g (m + 2)) (h (m + 2))
    have cg : ∀ x, ppw (m + 2) x → Nat.Coprime x (prd g m) := fun x hx => (prd_cop m (fun q a b => ppw_cop a (by omega) (by omega) (e q a (by omega)).1 hx)).symm
    have ch : ∀ x, ppw (m + 2) x → Nat.Coprime x (prd h m) := fun x hx => (prd_cop m (fun q a b => ppw_cop a (by omega) (by omega) (e q a (by omega)).2 hx)).symm
    rw [lcm_mul_cop (cg _ a1) (ch _ a1) (cg _ a2) (ch _ a2), ih, (ppw_max (by omega) a1 a2).1]
/-- q divides what has no divisor below q: q is a prime -/
theorem prime_of {q r : Nat} (h : ∀ d, 2 ≤ d → d < q → ¬ d ∣ r) (hq : q ∣ r) : ∀ d, 2 ≤ d → d < q → ¬ d ∣ q :=
  fun d a b c => h d a b (Nat.dvd_trans c hq)
