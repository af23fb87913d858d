/-! ===== pure: the reference's turning: cycleOf, goesTo, endAt, whereIs, gcd, roundIs ===== -/
theorem nI_inj {a b : Nat} (ha : a < 2 ^ 31) (hb : b < 2 ^ 31) (h : nI a = nI b) : a = b := (nI_eq ha hb).mp h
theorem m_cycleOf {S : St} {Q : Int32 → St → Prop} {n : Nat} {f : Nat → Nat} {p : Nat} (hn : n ≤ 12) (h : Pm n f) (hf : ∀ i, i < n → gI S 2 i = nI (f i)) (hp : p < n) (hQ : Q (nI (cyc n f p)) S) : w_X12_cycleOf (nI p) S Q := by
  obtain ⟨c1, c2, c3, c4⟩ := cyc_spec h hp
  refine ⟨vp_in_nI (by omega) (by omega), fun x hx => ?_⟩
  rw [nI_clamp (by omega), hf p hp] at hx
  subst hx
  refine loop2 (B := b_X12_cycleOf_9 (nI p) Q) (fun v2 v3 S' => S' = S ∧ ∃ k, 1 ≤ k ∧ k ≤ cyc n f p ∧ v2 = nI k ∧ v3 = nI (it f k p)) (fun v2 _ _ => cyc n f p - v2.toNatClampNeg) ?_ _ _ ⟨rfl, 1, Nat.le_refl _, c2, rfl, rfl⟩
  rintro k x0 x1 S' ⟨rfl, j, h1, h2, rfl, rfl⟩ hk
  have hj := it_lt h hp j
  unfold b_X12_cycleOf_9
  by_cases e : it f j p = p
  · have ej : j = cyc n f p := by
      rcases Nat.lt_or_ge j (cyc n f p) with q | q
      · exact absurd e (c4 j h1 q)
      · omega
    rw [if_pos (by rw [e]), ej]
    exact hQ
  · rw [if_neg (fun e2 => e (nI_inj (by omega) (by omega) e2))]
    intro x hx
    refine ⟨vp_in_nI (by omega) (by omega), fun y hy => ?_⟩
    rw [nI_clamp (by omega), hf _ hj] at hy
    have hlt : j < cyc n f p := Nat.lt_of_le_of_ne h2 (fun e2 => e (e2 ▸ c1))
    have hx2 : x = nI (j + 1) := hx.trans (nI_1 j)
    subst hx2; subst hy
    refine hk _ _ _ ⟨rfl, j + 1, by omega, by omega, rfl, rfl⟩ ?_
    show cyc n f p - (nI (j + 1)).toNatClampNeg < cyc n f p - (nI j).toNatClampNeg
    rw [nI_clamp (by omega), nI_clamp (by omega)]
    omega
theorem m_goesTo {S : St} {Q : Int32 → St → Prop} {n : Nat} {f : Nat → Nat} {p q : Nat} (hn : n ≤ 12) (h : Pm n f) (hf : ∀ i, i < n → gI S 2 i = nI (f i)) (hp : p < n) (hq : q < n) (he : f q = p) (hQ : Q (nI q) S) : w_X12_goesTo (nI p) S Q := by
  refine loop1 (B := b_X12_goesTo_2 (nI p) Q) (fun v2 S' => S' = S ∧ ∃ k, k ≤ q ∧ v2 = nI k) (fun v2 _ => q - v2.toNatClampNeg) ?_ _ ⟨rfl, 0, Nat.zero_le _, rfl⟩
  rintro k x0 S' ⟨rfl, j, h1, rfl⟩ hk
  have hfj := h.1 j (by omega)
  refine ⟨vp_in_nI (by omega) (by omega), ?_⟩
  rw [nI_clamp (by omega), hf _ (by omega)]
  by_cases e : f j = p
  · have ej : j = q := h.2 _ _ (by omega) hq (e.trans he.symm)
    rw [if_pos (by rw [e]), ej]
    exact hQ
  · rw [if_neg (fun e2 => e (nI_inj (by omega) (by omega) e2))]
    intro x hx
    have hx2 : x = nI (j + 1) := hx.trans (nI_1 j)
    subst hx2
    have hne : j ≠ q := fun e2 => e (by rw [e2]; exact he)
    refine hk _ _ ⟨rfl, j + 1, by omega, rfl⟩ ?_
    show q - (nI (j + 1)).toNatClampNeg < q - (nI j).toNatClampNeg
    rw [nI_clamp (by omega), nI_clamp (by omega)]
    omega
theorem m_endLoop {S : St} {Q : Int32 → St → Prop} {n : Nat} {f : Nat → Nat} (hn : n ≤ 12) (h : Pm n f) (hf : ∀ i, i < n → gI S 2 i = nI (f i)) {p k : Nat} (hp : p < n) (hk : k < 2 ^ 31) (hQ : Q (nI (it f k p)) S) : w_X12_endAt_14 Q (nI p) (nI k) S := by
  refine loop2 (B := b_X12_endAt_14 Q) (fun v4 v5 S' => S' = S ∧ ∃ j, j ≤ k ∧ v5 = nI (k - j) ∧ v4 = nI (it f j p)) (fun _ v5 _ => v5.toNatClampNeg) ?_ _ _ ⟨rfl, 0, Nat.zero_le _, rfl, rfl⟩
  rintro kk x0 x1 S' ⟨rfl, j, h1, rfl, rfl⟩ hkk
  have hj := it_lt h hp j
  unfold b_X12_endAt_14
  by_cases e : j = k
  · subst e
    rw [if_pos (by rw [Nat.sub_self]; decide)]
    exact hQ
  · rw [if_neg (nI_nle (by omega) (by omega))]
    refine ⟨vp_in_nI (by omega) (by omega), fun x hx y hy => ?_⟩
    rw [nI_clamp (by omega), hf _ hj] at hx
    have hy2 : y = nI (k - (j + 1)) := by
      rw [hy, show k - j = (k - (j + 1)) + 1 by omega]
      exact pk_m1 _
    subst hx; subst hy2
    refine hkk _ _ _ ⟨rfl, j + 1, by omega, rfl, rfl⟩ ?_
    show (nI (k - (j + 1))).toNatClampNeg < (nI (k - j)).toNatClampNeg
    rw [nI_clamp (by omega), nI_clamp (by omega)]
    omega
theorem m_endAt {S : St} {Q : Int32 → St → Prop} {n : Nat} {f : Nat → Nat} (hn : n ≤ 12) (h : Pm n f) (hf : ∀ i, i < n → gI S 2 i = nI (f i)) {p s : Nat} (hp : p < n) (hs : s < 2 ^ 62) (hQ : Q (nI (it f s p)) S) : w_X12_endAt (lN s) (nI p) S Q := by
  obtain ⟨c1, c2, c3, c4⟩ := cyc_spec h hp
  refine m_cycleOf hn h hf hp ?_
  have e1 : (nI (cyc n f p)).toInt64 = lN (cyc n f p) := nI_l (by omega)
  rw [e1]
  refine ⟨fun e => ?_, fun x hx => ?_⟩
  · have := (pk_lEQ (a := cyc n f p) (b := 0) (by omega) (by omega)).mp e
    omega
  · have hm : s % cyc n f p < cyc n f p := Nat.mod_lt _ (by omega)
    rw [pk_lRem (by omega) (by omega) (by omega), lN_i] at hx
    subst hx
    refine m_endLoop hn h hf hp (by omega) ?_
    rw [it_mod h hp]
    exact hQ
theorem m_whereIs {S : St} {Q : Int32 → St → Prop} {n : Nat} {f : Nat → Nat} (hn : n ≤ 12) (h : Pm n f) (hf : ∀ i, i < n → gI S 2 i = nI (f i)) {e p s : Nat} (hp : p < n) (hs : s < 2 ^ 62) (he : it f s p = e) (hQ : Q (nI p) S) : w_X12_whereIs (lN s) (nI e) S Q := by
  refine loop1 (B := b_X12_whereIs_3 (lN s) (nI e) Q) (fun v S' => S' = S ∧ ∃ k, k ≤ p ∧ v = nI k) (fun v _ => p - v.toNatClampNeg) ?_ _ ⟨rfl, 0, Nat.zero_le _, rfl⟩
  rintro k x0 S' ⟨rfl, j, h1, rfl⟩ hk
  have h2 := it_lt h (show j < n by omega) s
  have h3 := it_lt h hp s
  refine m_endAt hn h hf (by omega) hs ?_
  by_cases e1 : it f s j = e
  · have ej : j = p := it_inj h (by omega) hp s (e1.trans he.symm)
    rw [if_pos (by rw [e1]), ej]
    exact hQ
  · rw [if_neg (fun e2 => e1 (nI_inj (by omega) (by omega) e2))]
    intro x hx
    have hx2 : x = nI (j + 1) := hx.trans (nI_1 j)
    subst hx2
    have hne : j ≠ p := fun e2 => e1 (by rw [e2]; exact he)
    refine hk _ _ ⟨rfl, j + 1, by omega, rfl⟩ ?_
    show p - (nI (j + 1)).toNatClampNeg < p - (nI j).toNatClampNeg
    rw [nI_clamp (by omega), nI_clamp (by omega)]
    omega
theorem m_gcd {S : St} {Q : Int32 → St → Prop} {a b : Nat} (ha : a < 2 ^ 31) (hb : b < 2 ^ 31) (hQ : Q (nI (Nat.gcd a b)) S) : w_X12_gcd (nI a) (nI b) S Q := by
  refine loop2 (B := b_X12_gcd_4 Q) (fun x y S' => S' = S ∧ ∃ u v, u < 2 ^ 31 ∧ v < 2 ^ 31 ∧ Nat.gcd u v = Nat.gcd a b ∧ x = nI u ∧ y = nI v) (fun _ y _ => y.toNatClampNeg) ?_ _ _ ⟨rfl, a, b, ha, hb, rfl, rfl, rfl⟩
  rintro k x0 x1 S' ⟨rfl, u, v, hu, hv, hg, rfl, rfl⟩ hk
  unfold b_X12_gcd_4
  by_cases e : v = 0
  · subst e
    rw [if_pos nI_0]
    rw [Nat.gcd_zero_right] at hg
    rw [hg]; exact hQ
  · have hv0 : ¬ nI v = 0 := nI_ne0 (by omega) hv
    rw [if_neg hv0]
    refine ⟨hv0, fun x hx => ?_⟩
    rw [pk_rem hu (by omega) hv] at hx
    subst hx
    have hm : u % v < v := Nat.mod_lt _ (by omega)
    refine hk _ _ _ ⟨rfl, v, u % v, hv, by omega, ?_, rfl, rfl⟩ ?_
    · rw [← hg, Nat.gcd_comm u v, Nat.gcd_rec v u, Nat.gcd_comm]
    · show (nI (u % v)).toNatClampNeg < (nI v).toNatClampNeg
      rw [nI_clamp (by omega), nI_clamp hv]
      exact hm
theorem m_roundIs {S : St} {Q : Int32 → St → Prop} {n : Nat} {f : Nat → Nat} (hn : n ≤ 12) (h : Pm n f) (hf : ∀ i, i < n → gI S 2 i = nI (f i)) (he : gI S 0 10 = nI n) (hQ : Q (nI (rnd n f)) S) : w_X12_roundIs S Q := by
  refine loop2 (B := b_X12_roundIs_4 Q) (fun v1 v2 S' => S' = S ∧ ∃ m, m ≤ n ∧ v1 = nI (rndU n f m) ∧ v2 = nI m) (fun _ v2 _ => n - v2.toNatClampNeg) ?_ _ _ ⟨rfl, 0, Nat.zero_le _, rfl, rfl⟩
  rintro k x0 x1 S' ⟨rfl, m, h1, rfl, rfl⟩ hk
  unfold b_X12_roundIs_4
  rw [he]
  by_cases e : m = n
  · subst e
    rw [if_pos (nI_le (Nat.le_refl _) (by omega))]
    exact hQ
  · have hm : m < n := by omega
    rw [if_neg (nI_ge hm (by omega))]
    obtain ⟨c1, c2, c3, c4⟩ := cyc_spec h hm
    have r1 := rnd_le h hn (show m ≤ n by omega)
    have r2 := rnd_le h hn (show m + 1 ≤ n by omega)
    have r0 := rndU_pos h m (by omega)
    have g0 : 0 < Nat.gcd (rndU n f m) (cyc n f m) := Nat.gcd_pos_of_pos_left _ r0
    have g1 : Nat.gcd (rndU n f m) (cyc n f m) ≤ rndU n f m := Nat.gcd_le_left _ r0
    refine m_cycleOf hn h hf hm (m_gcd (by omega) (by omega) ⟨nI_ne0 g0 (by omega), m_cycleOf hn h hf hm ?_⟩)
    intro x hx y hy
    have hx2 : x = nI (rndU n f (m + 1)) := by
      rw [hx, pk_div (by omega) g0 (by omega), pk_mul]
      congr 1
      show _ = Nat.lcm (rndU n f m) (cyc n f m)
      rw [Nat.lcm, Nat.div_mul_right_comm]
      exact Nat.gcd_dvd_left _ _
    have hy2 : y = nI (m + 1) := hy.trans (nI_1 m)
    subst hx2; subst hy2
    refine hk _ _ _ ⟨rfl, m + 1, by omega, rfl, rfl⟩ ?_
    show n - (nI (m + 1)).toNatClampNeg < n - (nI m).toNatClampNeg
    rw [nI_clamp (by omega), nI_clamp (by omega)]
    omega
