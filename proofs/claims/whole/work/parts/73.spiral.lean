/-! ===== pure: the spiral ===== -/
def spf (n p : Nat) : Nat := if p % 2 = 0 then n - 1 - p / 2 else p / 2
theorem spf_pm (n : Nat) : Pm n (spf n) := by
  refine ⟨fun i hi => ?_, fun i j hi hj e => ?_⟩
  · unfold spf; split <;> omega
  · unfold spf at e
    split at e <;> split at e <;> omega
theorem spf_two {n p : Nat} (hp : p < n) : 2 * (spf n p + 1) = p + 1 ∨ 2 * (spf n p + 1) = 2 * n + 1 - (p + 1) := by
  unfold spf; split <;> omega
theorem spf_pow {n p : Nat} (hp : p < n) : ∀ k, ((2 * n + 1 : Nat) : Int) ∣ 2 ^ k * ((it (spf n) k p + 1 : Nat) : Int) - ((p + 1 : Nat) : Int) ∨ ((2 * n + 1 : Nat) : Int) ∣ 2 ^ k * ((it (spf n) k p + 1 : Nat) : Int) + ((p + 1 : Nat) : Int)
  | 0 => Or.inl ⟨0, by simp [it]⟩
  | k + 1 => by
    have hi := it_lt (spf_pm n) hp k
    have ih := spf_pow hp k
    have e : it (spf n) (k + 1) p = spf n (it (spf n) k p) := rfl
    rw [e]
    have t := spf_two hi
    generalize it (spf n) k p = y at *
    have hpow : (2 : Int) ^ (k + 1) * ((spf n y + 1 : Nat) : Int) = 2 ^ k * ((2 * (spf n y + 1) : Nat) : Int) := by
      rw [Int.pow_succ, Int.mul_assoc]; rfl
    rw [hpow]
    rcases t with t | t
    · rw [t]; exact ih
    · rw [t, Int.ofNat_sub (by omega), Int.mul_sub]
      have hN : ((2 * n + 1 : Nat) : Int) ∣ 2 ^ k * ((2 * n + 1 : Nat) : Int) := Int.dvd_mul_left _ _
      rcases ih with ih | ih
      · right
        have := Int.dvd_sub hN ih
        rwa [show ∀ a b c : Int, a - (b - c) = a - b + c from fun a b c => by omega] at this
      · left
        have := Int.dvd_sub hN ih
        rwa [show ∀ a b c : Int, a - (b + c) = a - b - c from fun a b c => by omega] at this
