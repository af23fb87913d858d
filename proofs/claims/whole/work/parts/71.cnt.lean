/-! ===== pure: counting ===== -/
theorem cnt_zero {P : Nat → Bool} : ∀ n, (∀ x, x < n → P x = false) → cnt P n = 0
  | 0, _ => rfl
  | n + 1, h => by unfold cnt; rw [cnt_zero n (fun x hx => h x (by omega)), h n (by omega)]; rfl
theorem cnt_remove {P : Nat → Bool} {a : Nat} (ha : P a = true) : ∀ n, a < n → cnt P n = cnt (fun x => P x && (x != a)) n + 1
  | n + 1, h => by
    unfold cnt
    by_cases e : a = n
    · subst e
      rw [ha, cnt_congr (P := P) (Q := fun x => P x && (x != a)) a (fun x hx => by
        have : x ≠ a := by omega
        simp [this])]
      simp
    · rw [cnt_remove ha n (by omega)]
      have : n ≠ a := fun e2 => e e2.symm
      simp only [show (n != a) = true by simp [this], Bool.and_true]
      omega
theorem cnt_enum : ∀ (m n : Nat) (P : Nat → Bool) (e : Nat → Nat), (∀ k, k < m → e k < n ∧ P (e k) = true) → (∀ i j, i < j → j < m → e i ≠ e j) → (∀ x, x < n → P x = true → ∃ k, k < m ∧ e k = x) → cnt P n = m
  | 0, n, P, e, _, _, h3 => cnt_zero n (fun x hx => by
      cases h : P x with
      | false => rfl
      | true => obtain ⟨k, hk, _⟩ := h3 x hx h; exact absurd hk (Nat.not_lt_zero _))
  | m + 1, n, P, e, h1, h2, h3 => by
    obtain ⟨a1, a2⟩ := h1 m (by omega)
    rw [cnt_remove a2 n a1]
    rw [cnt_enum m n (fun x => P x && (x != e m)) e ?_ (fun i j hij hj => h2 i j hij (by omega)) ?_]
    · intro k hk
      obtain ⟨b1, b2⟩ := h1 k (by omega)
      have := h2 k m hk (by omega)
      exact ⟨b1, by simp [b2, this]⟩
    · intro x hx hP
      simp only [Bool.and_eq_true, bne_iff_ne, ne_eq] at hP
      obtain ⟨k, hk, hkx⟩ := h3 x hx hP.1
      have : k ≠ m := fun e2 => hP.2 (by rw [← hkx, e2])
      exact ⟨k, by omega, hkx⟩
theorem cnt_or {P A B : Nat → Bool} : ∀ n, (∀ x, x < n → P x = (A x || B x) ∧ ¬ (A x = true ∧ B x = true)) → cnt P n = cnt A n + cnt B n
  | 0, _ => rfl
  | n + 1, h => by
    have ih := cnt_or n (fun x hx => h x (by omega))
    obtain ⟨h1, h2⟩ := h n (by omega)
    unfold cnt
    rw [ih, h1]
    cases ea : A n <;> cases eb : B n
    · simp
    · simp; omega
    · simp; omega
    · exact absurd ⟨ea, eb⟩ h2
theorem cnt_rep {n : Nat} {f : Nat → Nat} (h : Pm n f) {p : Nat} (hp : p < n) (hr : rep n f p = p) : cnt (fun x => rep n f x == p) n = cyc n f p := by
  obtain ⟨c1, c2, c3, c4⟩ := cyc_spec h hp
  refine cnt_enum (cyc n f p) n _ (fun k => it f k p) (fun k hk => ⟨it_lt h hp k, ?_⟩) (fun i j hij hj => it_ne h hp hij hj) (fun x hx hx2 => ?_)
  · simp [rep_it h hp, hr]
  · have e : rep n f p = rep n f x := by rw [hr]; exact (eq_of_beq hx2).symm
    obtain ⟨k, hk⟩ := (rep_eq h hp hx).mp e
    exact ⟨k % cyc n f p, Nat.mod_lt _ (by omega), by show it f _ p = x; rw [it_mod h hp]; exact hk⟩
/-- as many places of length L as L times the cycles of it -/
theorem cnt_len {n : Nat} {f : Nat → Nat} (h : Pm n f) (L : Nat) : cnt (fun x => cyc n f x == L) n = L * cnt (fun p => rep n f p == p && cyc n f p == L) n := by
  have key : ∀ m, m ≤ n → cnt (fun x => cyc n f x == L && decide (rep n f x < m)) n = L * cnt (fun p => rep n f p == p && cyc n f p == L) m := by
    intro m
    induction m with
    | zero =>
      intro _
      rw [cnt_zero n (fun x hx => by simp)]
      rfl
    | succ m ih =>
      intro hm
      rw [cnt_or (A := fun x => cyc n f x == L && decide (rep n f x < m)) (B := fun x => cyc n f x == L && rep n f x == m) n (fun x hx => ⟨?_, ?_⟩), ih (by omega)]
      · show _ = L * (cnt _ m + _)
        rw [Nat.mul_add]
        congr 1
        by_cases e : rep n f m = m ∧ cyc n f m = L
        · rw [if_pos (by simp [e.1, e.2]), Nat.mul_one]
          refine Eq.trans (cnt_congr n (fun x hx => ?_)) ((cnt_rep h (by omega) e.1).trans e.2)
          by_cases e2 : rep n f x = m
          · have : cyc n f x = cyc n f m := by rw [← rep_cyc h hx, e2]
            simp [e2, this, e.2]
          · simp [e2]
        · rw [if_neg (by simpa using e), Nat.mul_zero]
          refine cnt_zero n (fun x hx => ?_)
          by_cases e2 : rep n f x = m
          · have e3 : rep n f m = m := by rw [← e2]; exact rep_rep h hx
            have e4 : cyc n f x = cyc n f m := by rw [← rep_cyc h hx, e2]
            have : cyc n f x ≠ L := fun e5 => e ⟨e3, e4.symm.trans e5⟩
            simp [this]
          · simp [e2]
      · by_cases e2 : rep n f x = m
        · simp [e2]
        · have : (decide (rep n f x < m + 1)) = decide (rep n f x < m) := by
            by_cases e3 : rep n f x < m
            · simp [e3, Nat.lt_succ_of_lt e3]
            · simp [e3, show ¬ rep n f x < m + 1 by omega]
          simp [e2, this]
      · simp; omega
  rw [← key n (Nat.le_refl _)]
  exact cnt_congr n (fun x hx => by simp [rep_lt h hx])
