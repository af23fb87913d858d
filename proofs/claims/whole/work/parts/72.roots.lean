/-! ===== pure: roots agree ===== -/
/-- the roots of the lengths below L -/
def rtp (n : Nat) (f : Nat → Nat) : Nat → Int64
  | 0 => 1
  | L + 1 => rtp n f L * rts (od (L + 1)) (lN (L + 1)) (cnt (fun p => rep n f p == p && cyc n f p == L + 1) n)
theorem e_ofLength {n L : Nat} {f g : Nat → Nat} {S : St} {Q : Int32 → St → Prop} (H : ET n f g S) (hL : 1 ≤ L) (hL2 : L < 2 ^ 31) (hQ : Q (nI (cnt (fun p => rep n f p == p && cyc n f p == L) n)) S) : w_X1_ofLength 35 (nI L) S Q := by
  obtain ⟨hn, h, -, -, -, -, -, -, r36, f1, -⟩ := H
  refine loop2 (B := b_X1_ofLength_4 35 (nI L) Q) (fun v2 v3 S' => S' = S ∧ ∃ m, m ≤ n ∧ v2 = nI (cnt (fun x => cyc n f x == L) m) ∧ v3 = nI m) (fun _ v3 _ => n - v3.toNatClampNeg) ?_ _ _ ⟨rfl, 0, Nat.zero_le _, rfl, rfl⟩
  rintro kk x0 x1 S' ⟨rfl, m, hm, rfl, rfl⟩ hkk
  unfold b_X1_ofLength_4
  rw [f1]
  by_cases e : m = n
  · subst e
    have hc := cnt_le (fun x => cyc m f x == L) m
    rw [if_pos (nI_le (Nat.le_refl _) (by omega)), if_pos (show (1 : Int32) ≤ nI L from nI_le (a := 1) hL hL2)]
    refine ⟨nI_ne0 (by omega) hL2, ?_⟩
    rw [pk_div (by omega) (by omega) hL2, cnt_len h, Nat.mul_div_cancel_left _ (by omega)]
    exact hQ
  · have hmn : m < n := by omega
    obtain ⟨c1, c2, c3, c4⟩ := cyc_spec h hmn
    rw [if_neg (nI_ge hmn (by omega))]
    refine e_cell (by show m < 12; omega) (by decide) ?_
    rw [r36 m hmn]
    have fin : ∀ z : Nat, z = (if cyc n f m = L then 1 else 0) → w_X1_ofLength_30 35 (nI L) kk (nI m) (nI z) (nI (cnt (fun x => cyc n f x == L) m)) S' := by
      intro z hz x hx y hy
      have hy2 : y = nI (m + 1) := hy.trans (nI_1 m)
      rw [nI_add] at hx
      have : cnt (fun x => cyc n f x == L) m + z = cnt (fun x => cyc n f x == L) (m + 1) := by
        rw [hz]; show _ = cnt _ m + _; simp
      rw [this] at hx
      subst hx; subst hy2
      refine hkk _ _ _ ⟨rfl, m + 1, hmn, rfl, rfl⟩ ?_
      show n - (nI (m + 1)).toNatClampNeg < n - (nI m).toNatClampNeg
      rw [nI_clamp (by omega), nI_clamp (by omega)]
      omega
    by_cases e2 : cyc n f m = L
    · rw [if_pos (by rw [e2])]; exact fin 1 (by rw [if_pos e2])
    · rw [if_neg (fun e3 => e2 (nI_inj (by omega) hL2 e3))]; exact fin 0 (by rw [if_neg e2])
theorem e_roots {n : Nat} {f g : Nat → Nat} {S : St} {Q : Int64 → St → Prop} (H : ET n f g S) (hQ : Q (rtp n f n) S) : w_X11_roots S Q := by
  have hn := H.1
  have r21 := H.2.2.2.1
  refine loop2 (B := b_X11_roots_4 Q) (fun v1 v3 S' => S' = S ∧ ∃ L, L ≤ n ∧ v1 = rtp n f L ∧ v3 = nI (L + 1)) (fun _ v3 _ => n + 1 - v3.toNatClampNeg) ?_ _ _ ⟨rfl, 0, Nat.zero_le _, rfl, rfl⟩
  rintro kk x0 x1 S' ⟨rfl, L, hL, rfl, rfl⟩ hkk
  unfold b_X11_roots_4
  rw [r21]
  by_cases e : L = n
  · subst e
    rw [if_pos (nI_lt (by omega) (by omega))]
    exact hQ
  · rw [if_neg (nI_nlt (by omega) (by omega))]
    refine e_ofLength H (by omega) (by omega) ?_
    have hc := cnt_le (fun p => rep n f p == p && cyc n f p == L + 1) n
    refine e_rootsOfAlike (by omega) (by omega) ?_
    intro x hx y hy
    have hy2 : y = nI (L + 1 + 1) := hy.trans (nI_1 (L + 1))
    subst hy2; subst hx
    refine hkk _ _ _ ⟨rfl, L + 1, by omega, rfl, rfl⟩ ?_
    show n + 1 - (nI (L + 1 + 1)).toNatClampNeg < n + 1 - (nI (L + 1)).toNatClampNeg
    rw [nI_clamp (by omega), nI_clamp (by omega)]
    omega
