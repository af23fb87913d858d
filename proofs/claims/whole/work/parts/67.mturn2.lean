/-! ===== pure: the reference's least places, meetings, rounds ===== -/
/-- a loop of one value with a count that the value does not show -/
theorem loopG1 {α0 : Type} {B : (α0 → St → Prop) → α0 → St → Prop} (I : Nat → α0 → St → Prop)
    (h : ∀ (k : α0 → St → Prop) g x0 S, I g x0 S → (∀ g' y0 S', I g' y0 S' → g' < g → k y0 S') → B k x0 S) (g : Nat) (x0 : α0) {S : St} (h0 : I g x0 S) : ∃ n, lpn (fun _ _ => False) B n x0 S := by
  have key : ∀ n g x0 S, I g x0 S → g < n → lpn (fun _ _ => False) B n x0 S := by
    intro n
    induction n with
    | zero => intro g x0 S _ hlt; exact absurd hlt (Nat.not_lt_zero _)
    | succ n ih => intro g x0 S hI hlt; exact h _ g x0 S hI (fun g' y0 S' h1 h2 => ih g' y0 S' h1 (by omega))
  exact ⟨_, key (g + 1) g x0 S h0 (Nat.lt_succ_self _)⟩
theorem m_isLeast {S : St} {Q : Int32 → St → Prop} {n : Nat} {f : Nat → Nat} (hn : n ≤ 12) (h : Pm n f) (hf : ∀ i, i < n → gI S 2 i = nI (f i)) {p : Nat} (hp : p < n) (hQ : Q (if rep n f p = p then 1 else 0) S) : w_X12_isLeast (nI p) S Q := by
  obtain ⟨c1, c2, c3, c4⟩ := cyc_spec h hp
  obtain ⟨⟨k0, hk0⟩, r2, r3⟩ := rep_spec h hp
  refine ⟨vp_in_nI (by omega) (by omega), fun x hx => ?_⟩
  rw [nI_clamp (by omega), hf _ hp] at hx
  subst hx
  refine loopG1 (B := b_X12_isLeast_7 (nI p) Q) (fun d v S' => S' = S ∧ ∃ k, 1 ≤ k ∧ k ≤ cyc n f p ∧ d = n - k ∧ v = nI (it f k p) ∧ ∀ j, j < k → p ≤ it f j p) ?_ (n - 1) _ ⟨rfl, 1, by omega, c2, rfl, rfl, ?_⟩
  · rintro kk d x0 S' ⟨rfl, k, k1, k2, rfl, rfl, hall⟩ hkk
    have hi := it_lt h hp k
    unfold b_X12_isLeast_7
    by_cases e : it f k p = p
    · rw [if_pos (by rw [e])]
      have hkc : k = cyc n f p := by
        rcases Nat.lt_or_ge k (cyc n f p) with x | x
        · exact absurd e (c4 k k1 x)
        · omega
      have : rep n f p = p := by
        have h1 := hall (k0 % cyc n f p) (by rw [hkc]; exact Nat.mod_lt _ (by omega))
        rw [it_mod h hp, hk0] at h1
        omega
      rw [if_pos this] at hQ
      exact hQ
    · rw [if_neg (fun e2 => e (nI_inj (by omega) (by omega) e2))]
      by_cases e2 : p ≤ it f k p
      · rw [if_pos (nI_le e2 (by omega))]
        refine ⟨vp_in_nI (by omega) (by omega), fun x hx => ?_⟩
        rw [nI_clamp (by omega), hf _ hi] at hx
        subst hx
        have : k ≠ cyc n f p := fun e3 => e (by rw [e3]; exact c1)
        refine hkk (n - (k + 1)) _ _ ⟨rfl, k + 1, by omega, by omega, rfl, rfl, ?_⟩ (by omega)
        intro j hj
        rcases Nat.lt_or_ge j k with x | x
        · exact hall j x
        · rw [show j = k by omega]; exact e2
      · rw [if_neg (nI_ge (by omega) (by omega))]
        have := r3 k
        rw [if_neg (show ¬ rep n f p = p by omega)] at hQ
        exact hQ
  · intro j hj
    rw [show j = 0 by omega]
    exact Nat.le_refl p
/-- the first stanza at which the end of place q stands at place p -/
theorem m_meets {S : St} {Q : Int32 → St → Prop} {n : Nat} {f : Nat → Nat} (hn : n ≤ 12) (h : Pm n f) (hf : ∀ i, i < n → gI S 2 i = nI (f i)) {p q : Nat} (hp : p < n) (hq : q < n)
    (h1 : (∀ k, it f k q ≠ p) → Q (-1) S) (h2 : ∀ k, k < cyc n f q → it f k q = p → Q (nI k) S) : w_X12_meets_25 (nI p) (nI q) Q (0 : Int32) S := by
  obtain ⟨c1, c2, c3, c4⟩ := cyc_spec h hq
  refine loop1 (B := b_X12_meets_25 (nI p) (nI q) Q) (fun v S' => S' = S ∧ ∃ k, k ≤ cyc n f q ∧ v = nI k ∧ ∀ j, j < k → it f j q ≠ p) (fun v _ => n - v.toNatClampNeg) ?_ _ ⟨rfl, 0, Nat.zero_le _, rfl, fun j hj => absurd hj (Nat.not_lt_zero _)⟩
  rintro kk x0 S' ⟨rfl, k, hk, rfl, hall⟩ hkk
  refine m_cycleOf hn h hf hq ?_
  by_cases e : k = cyc n f q
  · rw [if_pos (nI_le (by omega) (by omega))]
    refine h1 (fun j hj => hall (j % cyc n f q) (by rw [e]; exact Nat.mod_lt _ (by omega)) ?_)
    rw [it_mod h hq]; exact hj
  · rw [if_neg (nI_ge (by omega) (by omega)), nI_l (by omega)]
    refine m_endAt hn h hf hq (by omega) ?_
    have hi := it_lt h hq k
    by_cases e2 : it f k q = p
    · rw [if_pos (by rw [e2])]
      exact h2 k (by omega) e2
    · rw [if_neg (fun e3 => e2 (nI_inj (by omega) (by omega) e3))]
      intro x hx
      have hx2 : x = nI (k + 1) := hx.trans (nI_1 k)
      subst hx2
      refine hkk _ _ ⟨rfl, k + 1, by omega, rfl, ?_⟩ ?_
      · intro j hj
        rcases Nat.lt_or_ge j k with x | x
        · exact hall j x
        · rw [show j = k by omega]; exact e2
      · show n - (nI (k + 1)).toNatClampNeg < n - (nI k).toNatClampNeg
        rw [nI_clamp (by omega), nI_clamp (by omega)]
        omega
theorem m_maxI {a b : Nat} (ha : a < 2 ^ 31) (hb : b < 2 ^ 31) : (if nI a < nI b then nI b else nI a) = nI (Nat.max a b) := by
  by_cases e : a < b
  · rw [if_pos (nI_lt e hb), show Nat.max a b = b from Nat.max_eq_right (by omega)]
  · rw [if_neg (nI_nlt (by omega) ha), show Nat.max a b = a from Nat.max_eq_left (by omega)]
theorem m_round26 {S : St} {Q : Int32 → St → Prop} {n : Nat} {f : Nat → Nat} {w : Int32} (hn : n ≤ 12) (h : Pm n f) (hf : ∀ i, i < n → gI S 2 i = nI (f i)) (he : gI S 0 10 = nI n)
    (hQ : if w = 0 then Q (nI (rnd n f)) S else if w = (1 : Int32) then Q (nI (ncyc n f n)) S else if w = (2 : Int32) then Q (nI (mxU (cyc n f) n)) S else if w = (3 : Int32) then Q (nI (nfix f n)) S else Q (nI ((n - ncyc n f n) % 2)) S) : w_X12_round_26 w Q (0 : Int32) (0 : Int32) (0 : Int32) (0 : Int32) S := by
  refine loop4 (B := b_X12_round_26 w Q) (fun v2 v3 v4 v5 S' => S' = S ∧ ∃ m, m ≤ n ∧ v2 = nI (ncyc n f m) ∧ v3 = nI (mxU (cyc n f) m) ∧ v4 = nI (nfix f m) ∧ v5 = nI m) (fun _ _ _ v5 _ => n - v5.toNatClampNeg) ?_ _ _ _ _ ⟨rfl, 0, Nat.zero_le _, rfl, rfl, rfl, rfl⟩
  rintro kk x0 x1 x2 x3 S' ⟨rfl, m, hm, rfl, rfl, rfl, rfl⟩ hkk
  unfold b_X12_round_26
  rw [he]
  by_cases e : m = n
  · subst e
    rw [if_pos (nI_le (Nat.le_refl _) (by omega))]
    by_cases e0 : w = 0
    · rw [if_pos e0] at hQ ⊢
      exact m_roundIs hn h hf he hQ
    · rw [if_neg e0] at hQ ⊢
      by_cases e1 : w = (1 : Int32)
      · rw [if_pos e1] at hQ ⊢; exact hQ
      · rw [if_neg e1] at hQ ⊢
        by_cases e2 : w = (2 : Int32)
        · rw [if_pos e2] at hQ ⊢; exact hQ
        · rw [if_neg e2] at hQ ⊢
          by_cases e3 : w = (3 : Int32)
          · rw [if_pos e3] at hQ ⊢; exact hQ
          · rw [if_neg e3] at hQ ⊢
            have hc := cnt_le (fun p => rep m f p == p) m
            rw [pk_sub hc]
            have : nI (m - cnt (fun p => rep m f p == p) m) - nI (m - cnt (fun p => rep m f p == p) m) / 2 * 2 = nI ((m - cnt (fun p => rep m f p == p) m) % 2) := pk_rem (d := 2) (by omega) (by omega) (by omega)
            rw [this]
            exact hQ
  · have hmn : m < n := by omega
    obtain ⟨c1, c2, c3, c4⟩ := cyc_spec h hmn
    have hmx : mxU (cyc n f) m ≤ n := mxU_le m (fun p hp => (cyc_spec h (show p < n by omega)).2.2.1)
    rw [if_neg (nI_ge hmn (by omega))]
    refine m_isLeast hn h hf hmn ?_
    have tail : ∀ z : Nat, z = (if rep n f m = m then 1 else 0) → w_X12_round_50 w kk (nI (mxU (cyc n f) m)) (nI (nfix f m)) (nI m) (nI z) (nI (ncyc n f m)) S' := by
      intro z hz x hx
      rw [nI_add] at hx
      refine m_cycleOf hn h hf hmn ?_
      intro y hy
      rw [m_maxI (by omega) (by omega)] at hy
      refine ⟨vp_in_nI (by omega) (by omega), ?_⟩
      rw [nI_clamp (by omega), hf _ hmn]
      have fin : ∀ z2 : Nat, z2 = (if f m = m then 1 else 0) → w_X12_round_82 w kk x y (nI m) (nI z2) (nI (nfix f m)) S' := by
        intro z2 hz2 x2 hx2 x3 hx3
        rw [nI_add] at hx2
        have hx4 : x3 = nI (m + 1) := hx3.trans (nI_1 m)
        subst hx4
        have en : ncyc n f m + z = ncyc n f (m + 1) := by
          rw [hz]; show _ = ncyc n f m + _; simp
        have ef : nfix f m + z2 = nfix f (m + 1) := by
          rw [hz2]; show _ = nfix f m + _; simp
        rw [en] at hx
        rw [ef] at hx2
        subst hx; subst hx2; subst hy
        refine hkk _ _ _ _ _ ⟨rfl, m + 1, hmn, rfl, rfl, rfl, rfl⟩ ?_
        show n - (nI (m + 1)).toNatClampNeg < n - (nI m).toNatClampNeg
        rw [nI_clamp (by omega), nI_clamp (by omega)]
        omega
      have hfm := h.1 m hmn
      by_cases e2 : f m = m
      · rw [if_pos (by rw [e2])]
        exact fin 1 (by rw [if_pos e2])
      · rw [if_neg (fun e3 => e2 (nI_inj (by omega) (by omega) e3))]
        exact fin 0 (by rw [if_neg e2])
    by_cases e2 : rep n f m = m
    · rw [if_pos e2, if_neg (by decide)]
      exact tail 1 (by rw [if_pos e2])
    · rw [if_neg e2, if_pos rfl]
      exact tail 0 (by rw [if_neg e2])
