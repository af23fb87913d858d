/-! ===== pure: the spiral ===== -/
def spf (n p : Nat) : Nat := if p % 2 = 0 then n - 1 - p / 2 else p / 2
theorem spf_pm (n : Nat) : Pm n (spf n) := by
  refine ⟨fun i hi => ?_, fun i j hi hj e => ?_⟩
  · unfold spf; split <;> omega
  · unfold spf at e
    split at e <;> split at e <;> omega
theorem spf_two {n p : Nat} (hp : p < n) : 2 * (spf n p + 1) = p + 1 ∨ 2 * (spf n p + 1) = 2 * n + 1 - (p + 1) := by
  unfold spf; split <;> omega
theorem spf_pow {n p : Nat} (hp : p < n) : ∀ k, ((2 * n + 1 : Nat) : Int) ∣ 2 ^ k * ((it (spf n) k p + 1 : Nat) : Int) - ((p + 1 : Nat) : Int) ∨ ((2 * n + 1 : Nat) : Int) ∣ 2 ^ k * ((it (spf n) k p + 1 : Nat) : Int) + ((p + 1 : Nat) : Int)
  | 0 => Or.inl ⟨0, by simp [it]⟩
  | k + 1 => by
    have hi := it_lt (spf_pm n) hp k
    have ih := spf_pow hp k
    have e : it (spf n) (k + 1) p = spf n (it (spf n) k p) := rfl
    rw [e]
    have t := spf_two hi
    generalize it (spf n) k p = y at *
    have hpow : (2 : Int) ^ (k + 1) * ((spf n y + 1 : Nat) : Int) = 2 ^ k * ((2 * (spf n y + 1) : Nat) : Int) := by
      rw [Int.pow_succ, Int.mul_assoc]; rfl
    rw [hpow]
    rcases t with t | t
    · rw [t]; exact ih
    · rw [t, Int.ofNat_sub (by omega), Int.mul_sub]
      have hN : ((2 * n + 1 : Nat) : Int) ∣ 2 ^ k * ((2 * n + 1 : Nat) : Int) := Int.dvd_mul_left _ _
      rcases ih with ih | ih
      · right
        have := Int.dvd_sub hN ih
        rwa [show ∀ a b c : Int, a - (b - c) = a - b + c from fun a b c => by omega] at this
      · left
        have := Int.dvd_sub hN ih
        rwa [show ∀ a b c : Int, a - (b + c) = a - b - c from fun a b c => by omega] at this
theorem spf_back {n L : Nat} (h0 : it (spf n) L 0 = 0) (hn : 0 < n) {p : Nat} (hp : p < n) : it (spf n) L p = p := by
  have a := spf_pow hn L
  have b := spf_pow hp L
  have hi := it_lt (spf_pm n) hp L
  rw [h0] at a
  generalize it (spf n) L p = y at *
  generalize (2 : Int) ^ L = w at *
  have key : ((2 * n + 1 : Nat) : Int) ∣ ((y + 1 : Nat) : Int) - ((p + 1 : Nat) : Int) ∨ ((2 * n + 1 : Nat) : Int) ∣ ((y + 1 : Nat) : Int) + ((p + 1 : Nat) : Int) := by
    have e1 : w * ((0 + 1 : Nat) : Int) = w := by simp
    rw [e1] at a
    rcases a with ⟨c, hc⟩ | ⟨c, hc⟩
    · have hw : w = ((2 * n + 1 : Nat) : Int) * c + 1 := by simp at hc ⊢; omega
      rw [hw, Int.add_mul, Int.one_mul, Int.mul_assoc] at b
      have hN : ((2 * n + 1 : Nat) : Int) ∣ ((2 * n + 1 : Nat) : Int) * (c * ((y + 1 : Nat) : Int)) := Int.dvd_mul_right _ _
      rcases b with b | b
      · left
        have := Int.dvd_sub b hN
        rwa [show ∀ a b c : Int, a + b - c - a = b - c from fun a b c => by omega] at this
      · right
        have := Int.dvd_sub b hN
        rwa [show ∀ a b c : Int, a + b + c - a = b + c from fun a b c => by omega] at this
    · have hw : w = ((2 * n + 1 : Nat) : Int) * c - 1 := by simp at hc ⊢; omega
      rw [hw, Int.sub_mul, Int.one_mul, Int.mul_assoc] at b
      have hN : ((2 * n + 1 : Nat) : Int) ∣ ((2 * n + 1 : Nat) : Int) * (c * ((y + 1 : Nat) : Int)) := Int.dvd_mul_right _ _
      rcases b with b | b
      · right
        have := Int.dvd_sub hN b
        rwa [show ∀ a b c : Int, a - (a - b - c) = b + c from fun a b c => by omega] at this
      · left
        have := Int.dvd_sub hN b
        rwa [show ∀ a b c : Int, a - (a - b + c) = b - c from fun a b c => by omega] at this
  rcases key with ⟨c, hc⟩ | ⟨c, hc⟩
  · have : c = 0 := by
      rcases Int.lt_trichotomy c 0 with q | q | q
      · have : ((2 * n + 1 : Nat) : Int) * c ≤ ((2 * n + 1 : Nat) : Int) * (-1) := Int.mul_le_mul_of_nonneg_left (by omega) (by omega)
        omega
      · exact q
      · have : ((2 * n + 1 : Nat) : Int) * 1 ≤ ((2 * n + 1 : Nat) : Int) * c := Int.mul_le_mul_of_nonneg_left (by omega) (by omega)
        omega
    rw [this] at hc
    omega
  · exfalso
    by_cases q : c < 1
    · have : ((2 * n + 1 : Nat) : Int) * c ≤ ((2 * n + 1 : Nat) : Int) * 0 := Int.mul_le_mul_of_nonneg_left (by omega) (by omega)
      omega
    · have : ((2 * n + 1 : Nat) : Int) * 1 ≤ ((2 * n + 1 : Nat) : Int) * c := Int.mul_le_mul_of_nonneg_left (by omega) (by omega)
      omega
