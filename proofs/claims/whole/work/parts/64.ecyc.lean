/-! ===== pure: the class's cycles ===== -/
def eg : Nat → Nat → Nat → Nat
  | 0, x, _ => x
  | k + 1, x, y => if y = 0 then x else eg k y (x % y)
theorem eg_z (k x : Nat) : eg k x 0 = x := by cases k <;> simp [eg]
theorem eg_s {k x y : Nat} (h : y ≠ 0) : eg (k + 1) x y = eg k y (x % y) := by simp [eg, h]
theorem eg_gcd : ∀ d x y k, y < 2 ^ d → 2 * d + 1 ≤ k → eg k x y = Nat.gcd x y := by
  intro d
  induction d with
  | zero =>
    intro x y k hy hk
    have : y = 0 := by omega
    subst this
    rw [eg_z, Nat.gcd_zero_right]
  | succ d ih =>
    intro x y k hy hk
    by_cases e : y = 0
    · subst e; rw [eg_z, Nat.gcd_zero_right]
    · obtain ⟨k1, rfl⟩ : ∃ k1, k = k1 + 1 := ⟨k - 1, by omega⟩
      rw [eg_s e]
      have hr : x % y < y := Nat.mod_lt _ (by omega)
      have hg : Nat.gcd x y = Nat.gcd y (x % y) := by rw [Nat.gcd_comm x y, Nat.gcd_rec y x, Nat.gcd_comm]
      rw [hg]
      by_cases q : x % y < 2 ^ d
      · exact ih _ _ _ q (by omega)
      · have hp : 0 < 2 ^ d := Nat.two_pow_pos d
        obtain ⟨k2, rfl⟩ : ∃ k2, k1 = k2 + 1 := ⟨k1 - 1, by omega⟩
        have e2 : x % y ≠ 0 := by omega
        rw [eg_s e2]
        have hg2 : Nat.gcd y (x % y) = Nat.gcd (x % y) (y % (x % y)) := by rw [Nat.gcd_comm y, Nat.gcd_rec (x % y) y, Nat.gcd_comm]
        rw [hg2]
        refine ih _ _ _ ?_ (by omega)
        have h2 : 2 ^ (d + 1) = 2 * 2 ^ d := by rw [Nat.pow_succ, Nat.mul_comm]
        have : y % (x % y) = y - (x % y) := by
          rw [Nat.mod_eq_sub_mod (by omega), Nat.mod_eq_of_lt (by omega)]
        omega
theorem e_leastMultiple {S : St} {Q : Int64 → St → Prop} {a b : Nat} (ha0 : 0 < a) (ha : a < 2 ^ 62) (hb0 : 0 < b) (hb : b < 2 ^ 31) (hQ : Q (lN (Nat.lcm a b)) S) : w_X1_leastMultiple (lN a) (lN b) S Q := by
  have hend : ∀ x, x = Nat.gcd a b → w_X1_leastMultiple_44 (lN a) (lN b) Q (lN x) S := by
    intro x hx
    have g0 : 0 < Nat.gcd a b := Nat.gcd_pos_of_pos_left _ ha0
    have g1 : Nat.gcd a b ≤ a := Nat.gcd_le_left _ ha0
    have hne : ¬ lN x = (0 : Int64) := fun e => by
      have := (pk_lEQ (a := x) (b := 0) (by omega) (by omega)).mp e
      omega
    unfold w_X1_leastMultiple_44
    rw [if_neg hne]
    refine ⟨hne, ?_⟩
    rw [pk_lDiv (by omega) (by omega) (by omega), lN_mul, hx]
    have : a / Nat.gcd a b * b = Nat.lcm a b := by
      rw [Nat.lcm, Nat.div_mul_right_comm]
      exact Nat.gcd_dvd_left _ _
    rw [this]
    exact hQ
  refine loop3 (B := b_X1_leastMultiple_9 (lN a) (lN b) Q) (fun v4 v6 v8 S' => S' = S ∧ ∃ x y k, k ≤ 100 ∧ x < 2 ^ 62 ∧ y < 2 ^ 31 ∧ eg (100 - k) x y = Nat.gcd a b ∧ v4 = lN x ∧ v6 = lN y ∧ v8 = nI k) (fun _ _ v8 _ => 100 - v8.toNatClampNeg) ?_ _ _ _ ⟨rfl, a, b, 0, by omega, ha, hb, eg_gcd 31 _ _ _ hb (by omega), rfl, rfl, rfl⟩
  rintro kk x0 x1 x2 S' ⟨rfl, x, y, k, hk, hx, hy, hg, rfl, rfl, rfl⟩ hkk
  unfold b_X1_leastMultiple_9
  by_cases e : 100 ≤ k
  · rw [if_pos (show (100 : Int32) ≤ nI k from nI_le (a := 100) e (by omega))]
    rw [show 100 - k = 0 by omega] at hg
    exact hend _ hg
  · rw [if_neg (show ¬ (100 : Int32) ≤ nI k from nI_ge (b := 100) (by omega) (by omega))]
    by_cases e2 : y = 0
    · subst e2
      rw [if_pos (show lN 0 = (0 : Int64) from rfl)]
      rw [eg_z] at hg
      exact hend _ hg
    · have hne : ¬ lN y = (0 : Int64) := fun e => by
        have := (pk_lEQ (a := y) (b := 0) (by omega) (by omega)).mp e
        omega
      rw [if_neg hne]
      refine ⟨hne, fun x1 hx1 x2 hx2 => ?_⟩
      rw [pk_lRem (by omega) (by omega) (by omega)] at hx1
      have hx3 : x2 = nI (k + 1) := hx2.trans (nI_1 k)
      subst hx1; subst hx3
      have hm : x % y < y := Nat.mod_lt _ (by omega)
      refine hkk _ _ _ _ ⟨rfl, y, x % y, k + 1, by omega, by omega, by omega, ?_, rfl, rfl, rfl⟩ ?_
      · rw [← hg, show 100 - k = (100 - (k + 1)) + 1 by omega, eg_s e2]
      · show 100 - (nI (k + 1)).toNatClampNeg < 100 - (nI k).toNatClampNeg
        rw [nI_clamp (by omega), nI_clamp (by omega)]
        omega
/-- the cycles' object o and its row of lengths, all else as in S -/
def cycS (S : St) (o : Nat) (n num lon sta : Int32) (per : Int64) (g : Nat → Int32) : St :=
  (fun b j => if b = o ∧ j = 1 then n else if b = o ∧ j = 2 then num else if b = o ∧ j = 3 then lon else if b = o ∧ j = 4 then sta else if b = o + 1 ∧ j < lnE (o + 1) then g j else S.1 b j,
   fun b j => if b = o ∧ j = 5 then per else S.2.1 b j, S.2.2)
theorem gI_cycS (S : St) (o : Nat) (n u l t : Int32) (p : Int64) (g : Nat → Int32) (b j : Nat) : gI (cycS S o n u l t p g) b j = if b = o ∧ j = 1 then n else if b = o ∧ j = 2 then u else if b = o ∧ j = 3 then l else if b = o ∧ j = 4 then t else if b = o + 1 ∧ j < lnE (o + 1) then g j else gI S b j := rfl
theorem gJ_cycS (S : St) (o : Nat) (n u l t : Int32) (p : Int64) (g : Nat → Int32) (b j : Nat) : gJ (cycS S o n u l t p g) b j = if b = o ∧ j = 5 then p else gJ S b j := rfl
theorem cycS_num (S : St) (o : Nat) (n u l t : Int32) (p : Int64) (g : Nat → Int32) (v : Int32) : sI (cycS S o n u l t p g) o 2 v = cycS S o n v l t p g := by
  refine Prod.ext ?_ rfl
  funext b j
  simp only [sI, cycS]
  by_cases h : b = o <;> by_cases e : j = 2 <;> simp [h, e]
theorem cycS_lon (S : St) (o : Nat) (n u l t : Int32) (p : Int64) (g : Nat → Int32) (v : Int32) : sI (cycS S o n u l t p g) o 3 v = cycS S o n u v t p g := by
  refine Prod.ext ?_ rfl
  funext b j
  simp only [sI, cycS]
  by_cases h : b = o <;> by_cases e : j = 3 <;> simp [h, e]
theorem cycS_sta (S : St) (o : Nat) (n u l t : Int32) (p : Int64) (g : Nat → Int32) (v : Int32) : sI (cycS S o n u l t p g) o 4 v = cycS S o n u l v p g := by
  refine Prod.ext ?_ rfl
  funext b j
  simp only [sI, cycS]
  by_cases h : b = o <;> by_cases e : j = 4 <;> simp [h, e]
theorem cycS_per (S : St) (o : Nat) (n u l t : Int32) (p : Int64) (g : Nat → Int32) (v : Int64) : sJ (cycS S o n u l t p g) o 5 v = cycS S o n u l t v g := by
  refine Prod.ext rfl (Prod.ext ?_ rfl)
  funext b j
  simp only [sJ, cycS]
  by_cases h : b = o <;> by_cases e : j = 5 <;> simp [h, e]
theorem cycS_row (S : St) (o : Nat) (n u l t : Int32) (p : Int64) (g : Nat → Int32) (k : Nat) (hk : k < lnE (o + 1)) (v : Int32) : sI (cycS S o n u l t p g) (o + 1) k v = cycS S o n u l t p (fun j => if j = k then v else g j) := by
  refine Prod.ext ?_ rfl
  funext b j
  simp only [sI, cycS]
  by_cases h : b = o + 1
  · have : ¬ o + 1 = o := by omega
    by_cases e : j = k
    · subst e; simp [h, this, hk]
    · simp [h, e, this]
  · simp [h]
theorem cycS_start (S : St) (o : Nat) (n : Int32) : setRow (sJ (sI (sI (sI (sI S o 1 n) o 2 0) o 3 0) o 4 0) o 5 1) (o + 1) (lnE (o + 1)) (fun _ => 0) = cycS S o n 0 0 0 1 (fun _ => 0) := by
  refine Prod.ext ?_ (Prod.ext ?_ rfl)
  · funext b j
    simp only [sI, sJ, setRow, cycS]
    by_cases h : b = o
    · have : ¬ o = o + 1 := by omega
      by_cases e1 : j = 1
      · subst e1; simp [h, this]
      · by_cases e2 : j = 2
        · subst e2; simp [h, this]
        · by_cases e3 : j = 3
          · subst e3; simp [h, this]
          · by_cases e4 : j = 4
            · subst e4; simp [h, this]
            · simp [h, this, e1, e2, e3, e4]
    · simp [h]
  · funext b j
    simp only [sI, sJ, setRow, cycS]
