/-! ===== pure: the spiral ===== -/
def spf (n p : Nat) : Nat := if p % 2 = 0 then n - 1 - p / 2 else p / 2
theorem spf_pm (n : Nat) : Pm n (spf n) := by
  refine ⟨fun i hi => ?_, fun i j hi hj e => ?_⟩
  · unfold spf; split <;> omega
  · unfold spf at e
    split at e <;> split at e <;> omega
