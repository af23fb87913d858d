/-! ===== pure: roots agree ===== -/
/-- the roots of the lengths below L -/
def rtp (n : Nat) (f : Nat → Nat) : Nat → Int64
  | 0 => 1
  | L + 1 => rtp n f L * rts (od (L + 1)) (lN (L + 1)) (cnt (fun p => rep n f p == p && cyc n f p == L + 1) n)
theorem e_ofLength {n L : Nat} {f g : Nat → Nat} {S : St} {Q : Int32 → St → Prop} (H : ET n f g S) (hL : 1 ≤ L) (hL2 : L < 2 ^ 31) (hQ : Q (nI (cnt (fun p => rep n f p == p && cyc n f p == L) n)) S) : w_X1_ofLength 35 (nI L) S Q := by
  obtain ⟨hn, h, -, -, -, -, -, -, r36, f1, -⟩ := H
  refine loop2 (B := b_X1_ofLength_4 35 (nI L) Q) (fun v2 v3 S' => S' = S ∧ ∃ m, m ≤ n ∧ v2 = nI (cnt (fun x => cyc n f x == L) m) ∧ v3 = nI m) (fun _ v3 _ => n - v3.toNatClampNeg) ?_ _ _ ⟨rfl, 0, Nat.zero_le _, rfl, rfl⟩
  rintro kk x0 x1 S' ⟨rfl, m, hm, rfl, rfl⟩ hkk
  unfold b_X1_ofLength_4
  rw [f1]
  by_cases e : m = n
  · subst e
    have hc := cnt_le (fun x => cyc m f x == L) m
    rw [if_pos (nI_le (Nat.le_refl _) (by omega)), if_pos (show (1 : Int32) ≤ nI L from nI_le (a := 1) hL hL2)]
    refine ⟨nI_ne0 (by omega) hL2, ?_⟩
    rw [pk_div (by omega) (by omega) hL2, cnt_len h, Nat.mul_div_cancel_left _ (by omega)]
    exact hQ
  · have hmn : m < n := by omega
    obtain ⟨c1, c2, c3, c4⟩ := cyc_spec h hmn
    rw [if_neg (nI_ge hmn (by omega))]
    refine e_cell (by show m < 12; omega) (by decide) ?_
    rw [r36 m hmn]
    have fin : ∀ z : Nat, z = (if cyc n f m = L then 1 else 0) → w_X1_ofLength_30 35 (nI L) kk (nI m) (nI z) (nI (cnt (fun x => cyc n f x == L) m)) S' := by
      intro z hz x hx y hy
      have hy2 : y = nI (m + 1) := hy.trans (nI_1 m)
      rw [nI_add] at hx
      have : cnt (fun x => cyc n f x == L) m + z = cnt (fun x => cyc n f x == L) (m + 1) := by
        rw [hz]; show _ = cnt _ m + _; simp
      rw [this] at hx
      subst hx; subst hy2
      refine hkk _ _ _ ⟨rfl, m + 1, hmn, rfl, rfl⟩ ?_
      show n - (nI (m + 1)).toNatClampNeg < n - (nI m).toNatClampNeg
      rw [nI_clamp (by omega), nI_clamp (by omega)]
      omega
    by_cases e2 : cyc n f m = L
    · rw [if_pos (by rw [e2])]; exact fin 1 (by rw [if_pos e2])
    · rw [if_neg (fun e3 => e2 (nI_inj (by omega) hL2 e3))]; exact fin 0 (by rw [if_neg e2])
theorem e_roots {n : Nat} {f g : Nat → Nat} {S : St} {Q : Int64 → St → Prop} (H : ET n f g S) (hQ : Q (rtp n f n) S) : w_X11_roots S Q := by
  have hn := H.1
  have r21 := H.2.2.2.1
  refine loop2 (B := b_X11_roots_4 Q) (fun v1 v3 S' => S' = S ∧ ∃ L, L ≤ n ∧ v1 = rtp n f L ∧ v3 = nI (L + 1)) (fun _ v3 _ => n + 1 - v3.toNatClampNeg) ?_ _ _ ⟨rfl, 0, Nat.zero_le _, rfl, rfl⟩
  rintro kk x0 x1 S' ⟨rfl, L, hL, rfl, rfl⟩ hkk
  unfold b_X11_roots_4
  rw [r21]
  by_cases e : L = n
  · subst e
    rw [if_pos (nI_lt (by omega) (by omega))]
    exact hQ
  · rw [if_neg (nI_nlt (by omega) (by omega))]
    refine e_ofLength H (by omega) (by omega) ?_
    have hc := cnt_le (fun p => rep n f p == p && cyc n f p == L + 1) n
    refine e_rootsOfAlike (by omega) (by omega) ?_
    intro x hx y hy
    have hy2 : y = nI (L + 1 + 1) := hy.trans (nI_1 (L + 1))
    subst hy2; subst hx
    refine hkk _ _ _ ⟨rfl, L + 1, by omega, rfl, rfl⟩ ?_
    show n + 1 - (nI (L + 1 + 1)).toNatClampNeg < n + 1 - (nI (L + 1)).toNatClampNeg
    rw [nI_clamp (by omega), nI_clamp (by omega)]
    omega
theorem m_roots {n : Nat} {f : Nat → Nat} {S : St} {Q : Int64 → St → Prop} (hn : n ≤ 12) (h : Pm n f) (HM : MT n f S) (hQ : Q (rtp n f n) S) : w_X12_roots_9 Q (1 : Int64) (1 : Int32) S := by
  obtain ⟨m0, m2⟩ := HM
  refine loop2 (B := b_X12_roots_9 Q) (fun v1 v3 S' => S' = S ∧ ∃ L, L ≤ n ∧ v1 = rtp n f L ∧ v3 = nI (L + 1)) (fun _ v3 _ => n + 1 - v3.toNatClampNeg) ?_ _ _ ⟨rfl, 0, Nat.zero_le _, rfl, rfl⟩
  rintro kk x0 x1 S' ⟨rfl, L, hL, rfl, rfl⟩ hkk
  unfold b_X12_roots_9
  rw [m0]
  by_cases e : L = n
  · subst e
    rw [if_pos (nI_lt (by omega) (by omega))]
    exact hQ
  · rw [if_neg (nI_nlt (by omega) (by omega))]
    refine loop2 (B := b_X12_roots_23 kk (rtp n f L) (nI (L + 1))) (fun v4 v5 S2 => S2 = S' ∧ ∃ m, m ≤ n ∧ v4 = nI (cnt (fun p => rep n f p == p && cyc n f p == L + 1) m) ∧ v5 = nI m) (fun _ v5 _ => n - v5.toNatClampNeg) ?_ _ _ ⟨rfl, 0, Nat.zero_le _, rfl, rfl⟩
    rintro k2 y0 y1 S2 ⟨rfl, m, hm, rfl, rfl⟩ hk2
    unfold b_X12_roots_23
    rw [m0]
    by_cases e1 : m = n
    · subst e1
      have hc := cnt_le (fun p => rep m f p == p && cyc m f p == L + 1) m
      rw [if_pos (nI_le (Nat.le_refl _) (by omega))]
      refine ⟨13, by omega, m_rootsOf (by omega) 13 _ (by omega) (by omega) _ _ ?_⟩
      intro x hx y hy
      have hy2 : y = nI (L + 1 + 1) := hy.trans (nI_1 (L + 1))
      subst hy2; subst hx
      refine hkk _ _ _ ⟨rfl, L + 1, by omega, rfl, rfl⟩ ?_
      show m + 1 - (nI (L + 1 + 1)).toNatClampNeg < m + 1 - (nI (L + 1)).toNatClampNeg
      rw [nI_clamp (by omega), nI_clamp (by omega)]
      omega
    · have hmn : m < n := by omega
      obtain ⟨c1, c2, c3, c4⟩ := cyc_spec h hmn
      rw [if_neg (nI_ge hmn (by omega))]
      refine m_isLeast hn h m2 hmn ?_
      have fin : ∀ z : Nat, z = (if rep n f m = m ∧ cyc n f m = L + 1 then 1 else 0) → w_X12_roots_58 k2 (rtp n f L) (nI (L + 1)) (nI m) (nI z) (nI (cnt (fun p => rep n f p == p && cyc n f p == L + 1) m)) S2 := by
        intro z hz x hx y hy
        have hy2 : y = nI (m + 1) := hy.trans (nI_1 m)
        rw [nI_add] at hx
        have : cnt (fun p => rep n f p == p && cyc n f p == L + 1) m + z = cnt (fun p => rep n f p == p && cyc n f p == L + 1) (m + 1) := by
          rw [hz]; show _ = cnt _ m + _; simp
        rw [this] at hx
        subst hx; subst hy2
        refine hk2 _ _ _ ⟨rfl, m + 1, hmn, rfl, rfl⟩ ?_
        show n - (nI (m + 1)).toNatClampNeg < n - (nI m).toNatClampNeg
        rw [nI_clamp (by omega), nI_clamp (by omega)]
        omega
      by_cases e2 : rep n f m = m
      · rw [if_pos e2, if_neg (by decide)]
        refine m_cycleOf hn h m2 hmn ?_
        by_cases e3 : cyc n f m = L + 1
        · rw [if_pos (by rw [e3])]; exact fin 1 (by rw [if_pos ⟨e2, e3⟩])
        · rw [if_neg (fun e4 => e3 (nI_inj (by omega) (by omega) e4))]
          exact fin 0 (by rw [if_neg (fun q => e3 q.2)])
      · rw [if_neg e2, if_pos rfl]
        exact fin 0 (by rw [if_neg (fun q => e2 q.1)])
theorem c_roots {n : Nat} {f g : Nat → Nat} {SE SM : St} {K : Int64 → Int64 → St → St → Prop} (HE : ET n f g SE) (HM : MT n f SM) (hK : ∀ r, K r r SE (sI SM 0 0 0)) : w_X11_roots SE (fun r S1 => w_X12_roots SM (fun r' S2 => K r r' S1 S2)) := by
  refine e_roots HE ?_
  intro S2 hS2; subst hS2
  exact m_roots HE.1 HE.2.1 (MT_thr HM) (hK _)
