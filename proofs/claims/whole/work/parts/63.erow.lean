/-! ===== pure: the class's rows: cell, put, copyRow, blank ===== -/
theorem e_cell {p i : Nat} {S : St} {Q : Int32 → St → Prop} (hl : i < lnE p) (hb : lnE p < 2 ^ 31) (hQ : Q (gI S p i) S) : w_X11_cell p (nI i) S Q := by
  unfold w_X11_cell
  rw [if_neg (nI_pos (by omega)), if_neg (nI_ge hl hb)]
  refine ⟨vp_in_nI hl hb, ?_⟩
  rw [nI_clamp (by omega)]
  exact hQ
theorem e_put {p i : Nat} {v : Int32} {S : St} {Q : St → Prop} (hl : i < lnE p) (hb : lnE p < 2 ^ 31) (hQ : Q (sI S p i v)) : w_X11_put p (nI i) v S Q := by
  unfold w_X11_put
  rw [if_neg (nI_pos (by omega)), if_neg (nI_ge hl hb)]
  refine ⟨vp_in_nI hl hb, fun S1 e => ?_⟩
  rw [nI_clamp (by omega)] at e
  rw [e]
  exact hQ
/-- a row whose first m places hold g -/
def setRow (S : St) (a m : Nat) (g : Nat → Int32) : St := (fun b j => if b = a ∧ j < m then g j else S.1 b j, S.2)
theorem gI_setRow (S : St) (a m : Nat) (g : Nat → Int32) (b j : Nat) : gI (setRow S a m g) b j = if b = a ∧ j < m then g j else gI S b j := rfl
theorem gJ_setRow (S : St) (a m : Nat) (g : Nat → Int32) (b j : Nat) : gJ (setRow S a m g) b j = gJ S b j := rfl
theorem gR_setRow (S : St) (a m : Nat) (g : Nat → Int32) (b j : Nat) : gR (setRow S a m g) b j = gR S b j := rfl
theorem setRow_0 (S : St) (a : Nat) (g : Nat → Int32) : setRow S a 0 g = S := by
  refine Prod.ext ?_ rfl
  funext b j
  simp [setRow]
theorem setRow_succ (S : St) (a m : Nat) (g : Nat → Int32) : sI (setRow S a m g) a m (g m) = setRow S a (m + 1) g := by
  refine Prod.ext ?_ rfl
  funext b j
  simp only [sI, setRow]
  by_cases hb : b = a
  · by_cases hj : j = m
    · subst hj; simp [hb]
    · by_cases hl : j < m
      · simp [hb, hj, hl, Nat.lt_succ_of_lt hl]
      · have : ¬ j < m + 1 := by omega
        simp [hb, hj, hl, this]
  · simp [hb]
theorem e_copyRow {a b : Nat} {S : St} {Q : St → Prop} (hab : a ≠ b) (ha : lnE a < 2 ^ 31) (hb : lnE b < 2 ^ 31) (hQ : Q (setRow S b (Nat.min (lnE a) (lnE b)) (gI S a))) : w_X11_copyRow a b S Q := by
  refine loop1 (B := b_X11_copyRow_2 a b Q) (fun v S' => ∃ k, k ≤ Nat.min (lnE a) (lnE b) ∧ v = nI k ∧ S' = setRow S b k (gI S a)) (fun v _ => Nat.min (lnE a) (lnE b) - v.toNatClampNeg) ?_ _ ⟨0, Nat.zero_le _, rfl, (setRow_0 S b _).symm⟩
  rintro k x0 S' ⟨j, h1, rfl, rfl⟩ hk
  have m1 : Nat.min (lnE a) (lnE b) ≤ lnE a := Nat.min_le_left _ _
  have m2 : Nat.min (lnE a) (lnE b) ≤ lnE b := Nat.min_le_right _ _
  unfold b_X11_copyRow_2
  by_cases e1 : lnE a ≤ j
  · rw [if_pos (nI_le e1 (by omega))]
    rw [show j = Nat.min (lnE a) (lnE b) by omega]
    exact hQ
  · rw [if_neg (nI_ge (by omega) ha)]
    by_cases e2 : lnE b ≤ j
    · rw [if_pos (nI_le e2 (by omega))]
      rw [show j = Nat.min (lnE a) (lnE b) by omega]
      exact hQ
    · rw [if_neg (nI_ge (by omega) hb)]
      refine ⟨vp_in_nI (by omega) ha, vp_in_nI (by omega) hb, fun S1 hS1 x hx => ?_⟩
      rw [nI_clamp (by omega), gI_setRow, if_neg (fun e => hab e.1), setRow_succ] at hS1
      have hx2 : x = nI (j + 1) := hx.trans (nI_1 j)
      subst hx2; subst hS1
      have hmin : j < Nat.min (lnE a) (lnE b) := Nat.lt_min.mpr ⟨by omega, by omega⟩
      refine hk _ _ ⟨j + 1, hmin, rfl, rfl⟩ ?_
      show _ - (nI (j + 1)).toNatClampNeg < _ - (nI j).toNatClampNeg
      rw [nI_clamp (by omega), nI_clamp (by omega)]
      omega
theorem e_blank {a : Nat} {v : Int32} {S : St} {Q : St → Prop} (ha : lnE a < 2 ^ 31) (hQ : Q (setRow S a (lnE a) (fun _ => v))) : w_X11_blank a v S Q := by
  refine loop1 (B := b_X11_blank_2 a v Q) (fun x S' => ∃ k, k ≤ lnE a ∧ x = nI k ∧ S' = setRow S a k (fun _ => v)) (fun x _ => lnE a - x.toNatClampNeg) ?_ _ ⟨0, Nat.zero_le _, rfl, (setRow_0 S a _).symm⟩
  rintro k x0 S' ⟨j, h1, rfl, rfl⟩ hk
  unfold b_X11_blank_2
  by_cases e1 : lnE a ≤ j
  · rw [if_pos (nI_le e1 (by omega))]
    rw [show j = lnE a by omega]
    exact hQ
  · rw [if_neg (nI_ge (by omega) ha)]
    refine ⟨vp_in_nI (by omega) ha, fun S1 hS1 x hx => ?_⟩
    rw [nI_clamp (by omega)] at hS1
    have hS2 : S1 = setRow S a (j + 1) (fun _ => v) := hS1.trans (setRow_succ S a j (fun _ => v))
    have hx2 : x = nI (j + 1) := hx.trans (nI_1 j)
    subst hx2; subst hS2
    refine hk _ _ ⟨j + 1, by omega, rfl, rfl⟩ ?_
    show _ - (nI (j + 1)).toNatClampNeg < _ - (nI j).toNatClampNeg
    rw [nI_clamp (by omega), nI_clamp (by omega)]
    omega
