/-! ===== pure: roots of m cycles alike ===== -/
def rts (o L : Int64) : Nat → Int64
  | 0 => 1
  | 1 => o
  | m + 2 => rts o L (m + 1) * o + rts o L m * lN (m + 1) * L
def od (l : Nat) : Int64 := if l % 2 = 1 then 1 else 0
theorem e_rootsOfAlike {S : St} {Q : Int64 → St → Prop} {l m : Nat} (hl : l < 2 ^ 31) (hm : m < 2 ^ 30) (hQ : Q (rts (od l) (lN l) m) S) : w_X11_rootsOfAlike (nI l) (nI m) S Q := by
  intro x hx
  have ho : x = od l := by
    rw [hx, pk_andN (by omega) 1 (by decide)]
    unfold od
    have : l % 2 ^ 1 = 0 ∨ l % 2 ^ 1 = 1 := by omega
    rcases this with e | e
    · rw [e, if_neg (by omega)]; rfl
    · rw [e, if_pos (by omega)]; rfl
  rw [ho]
  refine loop3 (B := b_X11_rootsOfAlike_14 (nI l) (nI m) Q (od l)) (fun v4 v6 v8 S' => S' = S ∧ ∃ k, k ≤ m ∧ v8 = nI (k + 1) ∧ v6 = rts (od l) (lN l) k ∧ (k = 0 → v4 = 0) ∧ ∀ j, k = j + 1 → v4 = rts (od l) (lN l) j) (fun _ _ v8 _ => m + 1 - v8.toNatClampNeg) ?_ _ _ _ ⟨rfl, 0, Nat.zero_le _, rfl, rfl, fun _ => rfl, fun j e => by omega⟩
  rintro kk x0 x1 x2 S' ⟨rfl, k, hk, rfl, rfl, h0, h1⟩ hkk
  unfold b_X11_rootsOfAlike_14
  by_cases e : k = m
  · subst e
    rw [if_pos (nI_lt (by omega) (by omega))]
    exact hQ
  · rw [if_neg (nI_nlt (by omega) (by omega))]
    intro y hy z hz
    have hz2 : z = nI (k + 1 + 1) := hz.trans (nI_1 (k + 1))
    subst hz2
    rw [nI_pred, nI_l (by omega), nI_l hl] at hy
    have hy2 : y = rts (od l) (lN l) (k + 1) := by
      rw [hy]
      cases k with
      | zero =>
        rw [h0 rfl]
        show (1 : Int64) * od l + 0 * lN 0 * lN l = od l
        rw [Int64.zero_mul, Int64.zero_mul, Int64.one_mul, Int64.add_zero]
      | succ j =>
        rw [h1 j rfl]
        rfl
    subst hy2
    refine hkk _ _ _ _ ⟨rfl, k + 1, by omega, rfl, rfl, fun e => by omega, fun j e => ?_⟩ ?_
    · rw [show j = k by omega]
    · show m + 1 - (nI (k + 1 + 1)).toNatClampNeg < m + 1 - (nI (k + 1)).toNatClampNeg
      rw [nI_clamp (by omega), nI_clamp (by omega)]
      omega
theorem m_rootsOf {l : Nat} (hl : l < 2 ^ 31) : ∀ d m, m < d → m < 2 ^ 30 → ∀ (S : St) (Q : Int64 → St → Prop), Q (rts (od l) (lN l) m) S → w_X12_rootsOf d (nI l) (nI m) S Q
  | 0, m, h, _ => absurd h (Nat.not_lt_zero _)
  | d + 1, m, h, hm => by
    intro S Q hQ
    show u_X12_rootsOf (w_X12_rootsOf d) (nI l) (nI m) S Q
    unfold u_X12_rootsOf
    have hrem : nI l - nI l / (2 : Int32) * (2 : Int32) = nI (l % 2) := pk_rem (d := 2) hl (by omega) (by omega)
    rw [hrem]
    match m with
    | 0 => rw [if_pos nI_0]; exact hQ
    | 1 =>
      rw [if_neg (by decide)]
      by_cases e : l % 2 = 1
      · rw [e, if_pos (show nI 1 = (1 : Int32) from rfl)]
        refine m_rootsOf hl d 0 (by omega) (by omega) S _ ?_
        show w_X12_rootsOf_24 _ _ _ _ _ _
        unfold w_X12_rootsOf_24
        rw [if_neg (by decide)]
        have : od l = 1 := if_pos e
        rw [show rts (od l) (lN l) 1 = 1 from this] at hQ
        exact hQ
      · rw [show l % 2 = 0 by omega, if_neg (by decide)]
        unfold w_X12_rootsOf_24
        rw [if_neg (by decide)]
        have : od l = 0 := if_neg e
        rw [show rts (od l) (lN l) 1 = 0 from this] at hQ
        exact hQ
    | m + 2 =>
      rw [if_neg (nI_ne0 (by omega) (by omega))]
      have p1 : nI (m + 2) - 1 = nI (m + 1) := nI_pred (m + 1)
      have p2 : nI (m + 2) - (2 : Int32) = nI m := pk_sub (a := m + 2) (b := 2) (by omega)
      have tail : ∀ t, t = rts (od l) (lN l) (m + 1) * od l → w_X12_rootsOf_24 (nI l) (nI (m + 2)) (w_X12_rootsOf d) Q t S := by
        intro t ht
        unfold w_X12_rootsOf_24
        rw [if_pos (show (2 : Int32) ≤ nI (m + 2) from nI_le (a := 2) (by omega) (by omega)), p1, p2]
        refine m_rootsOf hl d m (by omega) (by omega) S _ ?_
        rw [nI_l (by omega), nI_l hl, ht]
        have : lN (m + 1) * lN l * rts (od l) (lN l) m = rts (od l) (lN l) m * lN (m + 1) * lN l := by
          rw [Int64.mul_comm, ← Int64.mul_assoc]
        rw [this]
        exact hQ
      by_cases e : l % 2 = 1
      · rw [e, if_pos (show nI 1 = (1 : Int32) from rfl), p1]
        refine m_rootsOf hl d (m + 1) (by omega) (by omega) S _ ?_
        refine tail _ ?_
        rw [show od l = 1 from if_pos e, Int64.mul_one]
      · rw [show l % 2 = 0 by omega, if_neg (by decide)]
        refine tail _ ?_
        rw [show od l = 0 from if_neg e, Int64.mul_zero]
