/-! ===== pure: spiral agrees ===== -/
theorem prd_set {h : Nat → Nat} {q x : Nat} (hq : 2 ≤ q) (h1 : h q = 1) : ∀ m, q < m + 2 → prd (fun j => if j = q then x else h j) m = prd h m * x
  | 0, hm => absurd hm (by omega)
  | m + 1, hm => by
    unfold prd
    by_cases e : q = m + 2
    · subst e
      rw [if_pos rfl, h1, Nat.mul_one, prd_congr m (fun j a b => if_neg (by omega))]
    · rw [prd_set hq h1 m (by omega), if_neg (by omega), Nat.mul_right_comm]
theorem prd_dvd {g : Nat → Nat} {m : Nat} : ∀ n, m ≤ n → prd g m ∣ prd g n
  | 0, h => by rw [show m = 0 by omega]; exact Nat.dvd_refl _
  | n + 1, h => by
    by_cases e : m = n + 1
    · rw [e]; exact Nat.dvd_refl _
    · exact Nat.dvd_trans (prd_dvd n (by omega)) (Nat.dvd_mul_right _ _)
theorem ppw_pos {q x : Nat} (hq : 2 ≤ q) (h : ppw q x) : 0 < x := by
  obtain ⟨e, rfl, -⟩ := h
  exact Nat.pow_pos (by omega)
/-- the factor loop of the reference's spiral: from powers g to the greatest of them and those of L -/
theorem m_factor {p0 p1 v3 v4 v5 : Int32} {k85 : Int32 → Int32 → Int32 → St → Prop} {L : Nat} {g : Nat → Nat} {S : St} (hL : 1 ≤ L) (hL2 : L ≤ 200) (hg : ∀ q, 2 ≤ q → q < 201 → ppw q (g q) ∧ g q ≤ 200) (hS : ∀ q, 2 ≤ q → q < 201 → gI S 36 q = nI (g q))
    (hk : ∀ h : Nat → Nat, (∀ q, 2 ≤ q → q < 201 → ppw q (h q) ∧ h q ≤ 200) → prd h 199 = L → ∀ S', (∀ b j, b ≠ 36 → gI S' b j = gI S b j) → (∀ q, 2 ≤ q → q < 201 → gI S' 36 q = nI (Nat.max (g q) (h q))) → ∀ x, x = v5 + 1 → k85 v3 v4 x S') :
    w_X12_spiral_169 p0 p1 k85 v3 v4 v5 (nI L) (2 : Int32) S := by
  refine loopG2 (B := b_X12_spiral_169 p0 p1 k85 v3 v4 v5) (fun c v6 v7 S' => ∃ r q h, 1 ≤ r ∧ 2 ≤ q ∧ q ≤ 201 ∧ c = 201 - q ∧ v6 = nI r ∧ v7 = nI q ∧ (∀ d, 2 ≤ d → d < q → ¬ d ∣ r) ∧ (∀ j, 2 ≤ j → j < 201 → ppw j (h j) ∧ h j ≤ 200) ∧ (∀ j, q ≤ j → h j = 1) ∧ prd h 199 * r = L ∧ (∀ b j, b ≠ 36 → gI S' b j = gI S b j) ∧ (∀ j, 2 ≤ j → j < 201 → gI S' 36 j = nI (Nat.max (g j) (h j)))) ?_ 199 _ _ ⟨L, 2, fun _ => 1, hL, by omega, by omega, rfl, rfl, rfl, fun d a b => by omega, fun j _ _ => ⟨ppw_one j, Nat.le_of_ble_eq_true rfl⟩, fun _ _ => rfl, by rw [prd_one 199 (fun _ _ _ => rfl), Nat.one_mul], fun _ _ _ => rfl, fun j a b => ?_⟩
  · rintro kk c x0 x1 S' ⟨r, q, h, hr, hq, hq2, rfl, rfl, rfl, hd, hh, hh1, hp, hf, hrow⟩ hkk
    have hpos : 0 < prd h 199 := Nat.pos_of_ne_zero (fun e => by rw [e, Nat.zero_mul] at hp; omega)
    have hrL : r ≤ L := by rw [← hp]; exact Nat.le_mul_of_pos_left r hpos
    unfold b_X12_spiral_169
    refine nI_if (x := r) (y := 1) (by omega) (by omega) (fun e => ?_) (fun e => ?_)
    · intro x hx
      refine hk h hh ?_ S' hf hrow x hx
      rw [show r = 1 by omega, Nat.mul_one] at hp
      exact hp
    · have hqr : q ≤ r := by
        rcases Nat.lt_or_ge r q with a | a
        · exact absurd (Nat.dvd_refl r) (hd r (by omega) a)
        · exact a
      refine loopG2 (B := b_X12_spiral_178 p0 p1 kk v3 v4 v5 (nI q)) (fun c v6 v8 S2 => S2 = S' ∧ ∃ r2 e, 1 ≤ r2 ∧ r2 = c ∧ v6 = nI r2 ∧ v8 = nI (q ^ e) ∧ r2 * q ^ e = r ∧ (e = 0 ∨ q ∣ r)) ?_ r _ _ ⟨rfl, r, 0, hr, rfl, rfl, rfl, by simp, Or.inl rfl⟩
      rintro k2 c x0 x1 S2 ⟨rfl, r2, e2, hr2, hrc, rfl, rfl, hprod, hpr⟩ hk2
      subst hrc
      have hqe : 0 < q ^ e2 := Nat.pow_pos (by omega)
      have hr2r : r2 ≤ r := by rw [← hprod]; exact Nat.le_mul_of_pos_right _ hqe
      have hqer : q ^ e2 ≤ r := by rw [← hprod]; exact Nat.le_mul_of_pos_left _ (by omega)
      have hq0 : ¬ nI q = 0 := nI_ne0 (by omega) (by omega)
      refine ⟨hq0, ?_⟩
      rw [pk_rem (by omega) (by omega) (by omega)]
      by_cases ed : r2 % q = 0
      · rw [if_pos (by rw [ed]; exact nI_0)]
        refine ⟨hq0, fun x hx y hy => ?_⟩
        rw [pk_div (by omega) (by omega) (by omega)] at hx
        rw [pk_mul] at hy
        subst hx; subst hy
        have hdv : q ∣ r2 := Nat.dvd_of_mod_eq_zero ed
        have hmul : r2 / q * q = r2 := Nat.div_mul_cancel hdv
        have hlt : r2 / q < r2 := Nat.div_lt_self (by omega) (by omega)
        have hp1 : 1 ≤ r2 / q := Nat.pos_of_ne_zero (fun e => by rw [e, Nat.zero_mul] at hmul; omega)
        refine hk2 _ _ _ _ ⟨rfl, r2 / q, e2 + 1, hp1, rfl, rfl, by rw [Nat.pow_succ], ?_, ?_⟩ hlt
        · rw [Nat.pow_succ, Nat.mul_comm (q ^ e2) q, ← Nat.mul_assoc, hmul]; exact hprod
        · right; rw [← hprod]; exact Nat.dvd_trans hdv (Nat.dvd_mul_right _ _)
      · rw [if_neg (by
          have := Nat.mod_lt r2 (show q > 0 by omega)
          exact nI_ne0 (by omega) (by omega))]
        have hin : vp_in (nI q) 201 := vp_in_nI (by omega) (by omega)
        refine ⟨hin, hin, fun S3 hS3 y hy => ?_⟩
        rw [nI_clamp (by omega), hrow q hq (by omega), hh1 q (Nat.le_refl _)] at hS3
        have hgq := hg q hq (by omega)
        have hgp := ppw_pos hq hgq.1
        rw [show Nat.max (g q) 1 = g q from Nat.max_eq_left (by omega)] at hS3
        rw [m_maxI (by omega) (by omega)] at hS3
        have hy2 : y = nI (q + 1) := hy.trans (nI_1 q)
        subst hy2; subst hS3
        have hppw : ppw q (q ^ e2) := ⟨e2, rfl, hpr.imp id (fun hdv => prime_of hd hdv)⟩
        refine hkk (201 - (q + 1)) _ _ _ ⟨r2, q + 1, fun j => if j = q then q ^ e2 else h j, hr2, by omega, by omega, rfl, rfl, rfl, ?_, ?_, ?_, ?_, ?_, ?_⟩ (by omega)
        · intro d d1 d2 d3
          by_cases ed2 : d = q
          · rw [ed2] at d3; exact ed (Nat.mod_eq_zero_of_dvd d3)
          · refine hd d d1 (by omega) ?_
            rw [← hprod]; exact Nat.dvd_trans d3 (Nat.dvd_mul_right _ _)
        · intro j j1 j2
          dsimp only
          by_cases ej : j = q
          · subst ej; rw [if_pos rfl]; exact ⟨hppw, by omega⟩
          · rw [if_neg ej]; exact hh j j1 j2
        · intro j hj
          dsimp only
          rw [if_neg (by omega)]; exact hh1 j (by omega)
        · rw [prd_set hq (hh1 q (Nat.le_refl _)) 199 (by omega), Nat.mul_assoc, Nat.mul_comm (q ^ e2) r2, hprod]; exact hp
        · intro b j hb
          rw [gI_sI, if_neg (fun q => hb q.1)]; exact hf b j hb
        · intro j j1 j2
          rw [gI_sI]
          dsimp only
          by_cases ej : j = q
          · subst ej; rw [if_pos ⟨rfl, rfl⟩, if_pos rfl]
          · rw [if_neg (fun q => ej q.2), if_neg ej]; exact hrow j j1 j2
  · rw [hS j a b]
    have := ppw_pos a (hg j a b).1
    rw [show Nat.max (g j) 1 = g j from Nat.max_eq_left (by omega)]
/-- what the reference's spiral answers -/
theorem m_spiral85 {n : Nat} {w : Int32} {Q : Int32 → St → Prop} {S : St} (hn0 : 0 < n) (hn : n ≤ 200) (hw : ¬ w < 0) (hw2 : ¬ 2 < w) (hseen : ∀ x, x < 200 → gI S 35 x = 0) (hpow : ∀ q, q < 201 → gI S 36 q = 1)
    (hQ : ∀ S', frM S S' → if w = 0 then Q (nI (ncyc n (spf n) n)) S' else if w = (1 : Int32) then Q (nI (mxU (cyc n (spf n)) n)) S' else Q (nI (rnd n (spf n))) S') :
    w_X12_spiral_85 (nI n) w Q (0 : Int32) (0 : Int32) (0 : Int32) S := by
  have h := spf_pm n
  refine up3 (B := b_X12_spiral_85 (nI n) w Q) n (by omega) (fun p v3 v4 S' => frM S S' ∧ v3 = nI (ncyc n (spf n) p) ∧ v4 = nI (mxU (cyc n (spf n)) p) ∧ (∀ x, x < n → gI S' 35 x = if rep n (spf n) x < p then 1 else 0) ∧ ∃ g : Nat → Nat, (∀ q, 2 ≤ q → q < 201 → ppw q (g q) ∧ g q ≤ 200) ∧ (∀ q, 2 ≤ q → q < 201 → gI S' 36 q = nI (g q)) ∧ prd g 199 = rndU n (spf n) p) ?_ ?_ 0 _ _ (by omega) ⟨frM_refl S, rfl, rfl, fun x hx => ?_, fun _ => 1, fun q _ _ => ⟨ppw_one q, Nat.le_of_ble_eq_true rfl⟩, fun q _ q2 => hpow q q2, prd_one 199 (fun _ _ _ => rfl)⟩
  · rintro kk p v3 v4 S' hp ⟨hfr, rfl, rfl, hse, g, hg, hrow, hprd⟩ hkk
    obtain ⟨c1, c2, c3, c4⟩ := cyc_spec h hp
    have hnc : ncyc n (spf n) (p + 1) = ncyc n (spf n) p + (if rep n (spf n) p = p then 1 else 0) := by
      show ncyc n (spf n) p + _ = _
      simp
    have hrle := (rep_spec h hp).2.1
    unfold b_X12_spiral_85
    rw [if_neg (nI_ge hp (by omega))]
    by_cases er : rep n (spf n) p < p
    · refine loopG2 (B := b_X12_spiral_98 (nI n) w kk (nI (ncyc n (spf n) p)) (nI (mxU (cyc n (spf n)) p)) (nI p)) (fun _ v6 v7 S2 => S2 = S' ∧ v6 = 0 ∧ v7 = nI p) ?_ 0 _ _ ⟨rfl, rfl, rfl⟩
      rintro k2 _ x0 x1 S2 ⟨rfl, rfl, rfl⟩ _
      refine ⟨vp_in_nI (by omega) (by omega), ?_⟩
      rw [nI_clamp (by omega), hse p hp, if_pos er, if_neg (by decide), if_pos rfl]
      intro x hx
      refine hkk _ _ _ _ hx ⟨hfr, ?_, ?_, ?_, g, hg, hrow, ?_⟩
      · rw [hnc, if_neg (by omega)]; rfl
      · rw [mxU_old h hp er]
      · intro y hy
        rw [hse y hy]
        have : rep n (spf n) y ≠ p := fun e3 => by
          have := rep_rep h hy
          rw [e3] at this
          omega
        by_cases e4 : rep n (spf n) y < p
        · rw [if_pos e4, if_pos (by omega)]
        · rw [if_neg e4, if_neg (by omega)]
      · rw [rndU_old h hp er]; exact hprd
    · have er2 : rep n (spf n) p = p := by omega
      refine loopG2 (B := b_X12_spiral_98 (nI n) w kk (nI (ncyc n (spf n) p)) (nI (mxU (cyc n (spf n)) p)) (nI p)) (fun c v6 v7 S2 => frM S S2 ∧ ∃ k, k ≤ cyc n (spf n) p ∧ c = cyc n (spf n) p - k ∧ v6 = nI k ∧ v7 = nI (it (spf n) k p) ∧ (∀ b j, b ≠ 35 → gI S2 b j = gI S' b j) ∧ (∀ x, x < n → (∃ i, i < k ∧ it (spf n) i p = x) → gI S2 35 x = 1) ∧ (∀ x, x < n → ¬ (∃ i, i < k ∧ it (spf n) i p = x) → gI S2 35 x = gI S' 35 x)) ?_ (cyc n (spf n) p) _ _ ⟨hfr, 0, by omega, by omega, rfl, rfl, fun _ _ _ => rfl, fun x hx ⟨i, hi, _⟩ => absurd hi (Nat.not_lt_zero _), fun _ _ _ => rfl⟩
      rintro k2 c x0 x1 S2 ⟨hfr2, k, hk, rfl, rfl, rfl, ho, hs1, hs2⟩ hk2
      have hi := it_lt h hp k
      refine ⟨vp_in_nI (by omega) (by omega), ?_⟩
      rw [nI_clamp (by omega)]
      by_cases ek : k = cyc n (spf n) p
      · have hin : gI S2 35 (it (spf n) k p) = 1 := hs1 _ hi ⟨0, by omega, by rw [ek, c1]; rfl⟩
        rw [hin, if_neg (by decide), if_neg (nI_ne0 (by omega) (by omega))]
        intro x hx y hy
        have hmx : mxU (cyc n (spf n)) p ≤ n := mxU_le p (fun j hj => (cyc_spec h (show j < n by omega)).2.2.1)
        rw [m_maxI (by omega) (by omega)] at hy
        have hx2 : x = nI (ncyc n (spf n) (p + 1)) := by rw [hx, hnc, if_pos er2]; exact nI_1 _
        have hy2 : y = nI (mxU (cyc n (spf n)) (p + 1)) := by rw [hy, ek]; rfl
        rw [hx2, hy2, ek]
        refine m_factor c2 (by omega) hg (fun q q1 q2 => (ho 36 q (by decide)).trans (hrow q q1 q2)) ?_
        intro hh hh1 hh2 S3 hS3 hrow3 x3 hx3
        refine hkk _ _ _ _ hx3 ⟨?_, rfl, rfl, ?_, fun q => Nat.max (g q) (hh q), ?_, hrow3, ?_⟩
        · intro b j hb
          rw [hS3 b j (fun e => by rw [e] at hb; exact absurd hb (by simp [kM]))]
          exact hfr2 b j hb
        · intro y hy
          rw [hS3 35 y (by decide)]
          by_cases ey : ∃ i, i < k ∧ it (spf n) i p = y
          · rw [hs1 y hy ey]
            obtain ⟨i, _, rfl⟩ := ey
            rw [rep_it h hp, er2, if_pos (by omega)]
          · rw [hs2 y hy ey, hse y hy]
            have : rep n (spf n) y ≠ p := fun e7 => by
              obtain ⟨i, hi2⟩ := (rep_eq h hp hy).mp (er2.trans e7.symm)
              refine ey ⟨i % cyc n (spf n) p, ?_, by rw [it_mod h hp]; exact hi2⟩
              rw [ek]; exact Nat.mod_lt _ (by omega)
            by_cases e4 : rep n (spf n) y < p
            · rw [if_pos e4, if_pos (by omega)]
            · rw [if_neg e4, if_neg (by omega)]
        · intro q q1 q2
          have a1 := hg q q1 q2
          have a2 := hh1 q q1 q2
          exact ⟨(ppw_max q1 a1.1 a2.1).2, Nat.max_le.mpr ⟨a1.2, a2.2⟩⟩
        · rw [← lcm_prd 199 (fun q q1 q2 => ⟨(hg q q1 q2).1, (hh1 q q1 q2).1⟩), hprd, hh2]; rfl
      · have hno : ¬ ∃ i, i < k ∧ it (spf n) i p = it (spf n) k p := fun ⟨i, hi2, he⟩ => it_ne h hp hi2 (by omega) he
        have hrp : rep n (spf n) (it (spf n) k p) = p := by rw [rep_it h hp]; exact er2
        rw [hs2 _ hi hno, hse _ hi, if_neg (show ¬ rep n (spf n) (it (spf n) k p) < p by omega), if_pos rfl]
        refine ⟨vp_in_nI (by omega) (by omega), fun S3 hS3 x hx => ?_⟩
        have hx2 : x = nI (k + 1) := hx.trans (nI_1 k)
        subst hx2
        have next : ∀ y, y = nI (spf n (it (spf n) k p)) → k2 (nI (k + 1)) y S3 := by
          intro y hy
          subst hy; subst hS3
          refine hk2 (cyc n (spf n) p - (k + 1)) _ _ _ ⟨frM_row hfr2 (by omega), k + 1, by omega, rfl, rfl, rfl, ?_, ?_, ?_⟩ (by omega)
          · intro b j hb
            rw [gI_sI, if_neg (fun q => hb q.1)]; exact ho b j hb
          · rintro x hx ⟨i, hi2, he⟩
            rw [gI_sI]
            by_cases ex : x = it (spf n) k p
            · rw [if_pos ⟨rfl, ex⟩]
            · rw [if_neg (fun q => ex q.2)]
              refine hs1 x hx ⟨i, ?_, he⟩
              have : i ≠ k := fun e => ex (by rw [← he, e])
              omega
          · intro x hx hnx
            rw [gI_sI, if_neg (fun q => hnx ⟨k, by omega, q.2.symm⟩)]
            exact hs2 x hx (fun ⟨i, hi2, he⟩ => hnx ⟨i, by omega, he⟩)
        have hr2 : nI (it (spf n) k p) - nI (it (spf n) k p) / (2 : Int32) * (2 : Int32) = nI (it (spf n) k p % 2) := pk_rem (d := 2) (by omega) (by omega) (by omega)
        have hd2 : nI (it (spf n) k p) / (2 : Int32) = nI (it (spf n) k p / 2) := pk_div (d := 2) (by omega) (by omega) (by omega)
        rw [hr2]
        by_cases eo : it (spf n) k p % 2 = 0
        · rw [if_pos (by rw [eo]; exact nI_0)]
          intro y hy
          refine next y ?_
          have h1 : nI n - (1 : Int32) = nI (n - 1) := pk_sub (a := n) (b := 1) (by omega)
          rw [hy, hd2, h1, pk_sub (by omega)]
          rw [show spf n (it (spf n) k p) = n - 1 - it (spf n) k p / 2 from if_pos eo]
        · rw [if_neg (nI_ne0 (by omega) (by omega))]
          intro y hy
          refine next y ?_
          rw [hy, hd2]
          rw [show spf n (it (spf n) k p) = it (spf n) k p / 2 from if_neg eo]
  · rintro kk v3 v4 S' ⟨hfr, rfl, rfl, -, g, hg, hrow, hprd⟩
    unfold b_X12_spiral_85
    rw [if_pos (nI_le (Nat.le_refl _) (by omega))]
    have hq := hQ S' hfr
    by_cases e2 : (2 : Int32) ≤ w
    · rw [if_pos e2]
      have w2 : w = 2 := Int32.le_antisymm (Int32.not_lt.mp hw2) e2
      subst w2
      rw [if_neg (by decide), if_neg (by decide)] at hq
      have hr := spf_rnd_le hn0 (Nat.le_refl n)
      have hr0 := rndU_pos h n (Nat.le_refl n)
      refine up2 (B := b_X12_spiral_256 Q) 201 (by omega) (fun q v5 S2 => 2 ≤ q ∧ S2 = S' ∧ v5 = lN (prd g (q - 2))) ?_ ?_ 2 _ (by omega) ⟨by omega, rfl, rfl⟩
      · rintro k3 q v5 S2 hq2 ⟨q1, rfl, rfl⟩ hk3
        unfold b_X12_spiral_256
        rw [if_neg (show ¬ (200 : Int32) < nI q from nI_nlt (a := 200) (by omega) (by omega))]
        refine ⟨vp_in_nI (by omega) (by omega), fun x hx y hy => ?_⟩
        rw [nI_clamp (by omega), hrow q q1 hq2, nI_l (by have := (hg q q1 hq2).2; omega), lN_mul] at hx
        have he : prd g (q - 2) * g q = prd g (q - 1) := by
          rw [show q - 1 = (q - 2) + 1 by omega]
          show _ = prd g (q - 2) * g (q - 2 + 2)
          rw [show q - 2 + 2 = q by omega]
        have hle : prd g (q - 1) ≤ n := Nat.le_trans (Nat.le_of_dvd (by rw [hprd]; exact hr0) (prd_dvd 199 (by omega))) (by rw [hprd]; exact hr)
        rw [he, show (1000000007 : Int64) = lN 1000000007 from rfl, pk_lRem (by omega) (by omega) (by omega), Nat.mod_eq_of_lt (by omega)] at hx
        refine hk3 _ _ _ hy ⟨by omega, rfl, ?_⟩
        rw [hx, show q + 1 - 2 = q - 1 by omega]
      · rintro k3 v5 S2 ⟨-, rfl, rfl⟩
        unfold b_X12_spiral_256
        rw [if_pos (show (200 : Int32) < nI 201 from nI_lt (a := 200) (by omega) (by omega)), lN_i, show 201 - 2 = 199 from rfl, hprd]
        exact hq
    · rw [if_neg e2]
      by_cases e0 : w = 0
      · rw [if_pos e0] at hq ⊢; exact hq
      · rw [if_neg e0] at hq ⊢
        have w1 : w = 1 := by
          have a1 : ¬ w < 0 := hw
          have a2 : ¬ (2 : Int32) ≤ w := e2
          rw [Int32.lt_iff_toInt_lt] at a1
          rw [Int32.le_iff_toInt_le] at a2
          have b : w.toInt ≠ 0 := fun e => e0 (Int32.toInt_inj.mp e)
          refine Int32.toInt_inj.mp ?_
          have t0 : (0 : Int32).toInt = 0 := by decide
          have t1 : (1 : Int32).toInt = 1 := by decide
          have t2 : (2 : Int32).toInt = 2 := by decide
          omega
        rw [if_pos w1] at hq; exact hq
  · rw [if_neg (by omega)]; exact hseen x (by omega)
theorem m_spiral {n : Nat} {w : Int32} {Q : Int32 → St → Prop} {S : St} (hn0 : 0 < n) (hn : n ≤ 200)
    (h0 : (w < 0 ∨ 2 < w) → Q (-1) (sI S 0 0 0))
    (hQ : ¬ (w < 0 ∨ 2 < w) → ∀ S', frM S S' → if w = 0 then Q (nI (ncyc n (spf n) n)) S' else if w = (1 : Int32) then Q (nI (mxU (cyc n (spf n)) n)) S' else Q (nI (rnd n (spf n))) S') :
    w_X12_spiral (nI n) w S Q := by
  intro S2 hS2
  have hf2 : frM S S2 := by rw [hS2]; exact frM_sI (frM_refl S) rfl
  refine m_within (fun hx => absurd hx ?_) (fun _ _ => ?_)
  · rintro (a | a)
    · exact absurd a (nI_nlt (b := 1) hn0 (by omega))
    · exact absurd a (nI_nlt (a := 200) hn (by omega))
  rw [if_neg (by decide)]
  refine m_within (fun hx => ?_) (fun a1 a2 => ?_)
  · rw [if_pos rfl, hS2]; exact h0 hx
  rw [if_neg (by decide)]
  refine up1 (B := b_X12_spiral_35 (nI n) w Q (0 : Int32) (0 : Int32)) 201 (by omega) (fun q S' => frM S S' ∧ ∀ j, j < q → gI S' 36 j = 1) ?_ ?_ 0 (by omega) ⟨hf2, fun j hj => absurd hj (Nat.not_lt_zero _)⟩
  · rintro kk q S' hq ⟨hf, hr⟩ hkk
    unfold b_X12_spiral_35
    rw [if_neg (show ¬ (200 : Int32) < nI q from nI_nlt (a := 200) (by omega) (by omega))]
    refine ⟨vp_in_nI (by omega) (by omega), fun S3 hS3 y hy => ?_⟩
    rw [nI_clamp (by omega)] at hS3
    subst hS3
    refine hkk _ _ hy ⟨frM_row hf (by omega), fun j hj => ?_⟩
    rw [gI_sI]
    by_cases e : j = q
    · rw [if_pos ⟨rfl, e⟩]
    · rw [if_neg (fun x => e x.2)]; exact hr j (by omega)
  · rintro kk S' ⟨hf, hr⟩
    unfold b_X12_spiral_35
    rw [if_pos (show (200 : Int32) < nI 201 from nI_lt (a := 200) (by omega) (by omega))]
    refine up1 (B := b_X12_spiral_60 (nI n) w Q (0 : Int32) (0 : Int32)) 200 (by omega) (fun q S' => frM S S' ∧ (∀ j, j < 201 → gI S' 36 j = 1) ∧ ∀ j, j < q → gI S' 35 j = 0) ?_ ?_ 0 (by omega) ⟨hf, hr, fun j hj => absurd hj (Nat.not_lt_zero _)⟩
    · rintro kk q S' hq ⟨hf, hr, hz⟩ hkk
      unfold b_X12_spiral_60
      rw [if_neg (show ¬ (200 : Int32) ≤ nI q from nI_ge (b := 200) (by omega) (by omega))]
      refine ⟨vp_in_nI (by omega) (by omega), fun S3 hS3 y hy => ?_⟩
      rw [nI_clamp (by omega)] at hS3
      subst hS3
      refine hkk _ _ hy ⟨frM_row hf (by omega), fun j hj => ?_, fun j hj => ?_⟩
      · rw [gI_sI, if_neg (by omega)]; exact hr j hj
      · rw [gI_sI]
        by_cases e : j = q
        · rw [if_pos ⟨rfl, e⟩]
        · rw [if_neg (fun x => e x.2)]; exact hz j (by omega)
    · rintro kk S' ⟨hf, hr, hz⟩
      unfold b_X12_spiral_60
      rw [if_pos (show (200 : Int32) ≤ nI 200 from nI_le (a := 200) (Nat.le_refl _) (by omega))]
      exact m_spiral85 hn0 hn a1 a2 hz hr (fun S3 hf3 => hQ (fun x => x.elim a1 a2) S3 (frM_trans hf hf3))
theorem e_spiral {n : Nat} {w : Int32} {Q : Int32 → St → Prop} {S : St} (hn0 : 0 < n) (hn : n ≤ 200)
    (hQ : ∀ S', frX [120, 121, 122] S S' → if w = 0 then Q (nI (ncyc n (spf n) n)) S' else if w = (1 : Int32) then Q (nI (mxU (cyc n (spf n)) n)) S' else if w = (2 : Int32) then Q (nI (rnd n (spf n))) S' else Q (-1) S') :
    w_X11_spiral (nI n) w S Q := by
  have h := spf_pm n
  unfold w_X11_spiral
  rw [if_neg (show ¬ nI n < 1 from nI_nlt (b := 1) hn0 (by omega)), if_pos (show nI n ≤ 200 from nI_le (b := 200) hn (by omega))]
  refine up1 (B := b_X11_spiral_16 (nI n) w Q) n (by omega) (fun p S' => frX [120, 121, 122] S S' ∧ ∀ j, j < p → gI S' 122 j = nI (spf n j)) ?_ ?_ 0 (by omega) ⟨frX_refl _ _, fun j hj => absurd hj (Nat.not_lt_zero _)⟩
  · rintro kk p S' hp ⟨hf, hr⟩ hkk
    unfold b_X11_spiral_16
    rw [if_neg (nI_ge hp (by omega))]
    refine e_spiralSource hn hp (e_put (by show p < 200; omega) (by decide) ?_)
    intro x hx
    refine hkk _ _ hx ⟨frX_sI hf (by decide), fun j hj => ?_⟩
    rw [gI_sI]
    by_cases e : j = p
    · subst e; rw [if_pos ⟨rfl, rfl⟩]
    · rw [if_neg (fun q => e q.2)]; exact hr j (by omega)
  · rintro kk S' ⟨hf, hr⟩
    unfold b_X11_spiral_16
    rw [if_pos (nI_le (Nat.le_refl _) (by omega))]
    have hle : rnd n (spf n) ≤ n := spf_rnd_le hn0 (Nat.le_refl n)
    refine e_follow (f := spf n) (by decide) (by decide) (by show n ≤ 200; exact hn) (by decide) (by show n ≤ 200; exact hn) (by decide) h hr (fun m hm => by have := spf_rnd_le hn0 hm; omega) ?_
    have hq := hQ _ (frX_cyc (o := 120) (n := nI n) (u := nI (ncyc n (spf n) n)) (lo := nI (mxU (cyc n (spf n)) n)) (t := nI (nfix (spf n) n)) (p := lN (rnd n (spf n))) (g := fun j => if j < n then nI (cyc n (spf n) j) else 0) hf (by decide) (by decide))
    rw [cycS_g2, cycS_g3, cycS_g5]
    by_cases e0 : w = 0
    · rw [if_pos e0] at hq ⊢; exact hq
    · rw [if_neg e0] at hq ⊢
      by_cases e1 : w = (1 : Int32)
      · rw [if_pos e1] at hq ⊢; exact hq
      · rw [if_neg e1] at hq ⊢
        by_cases e2 : w = (2 : Int32)
        · rw [if_pos e2] at hq ⊢
          rw [show (1000000007 : Int64) = lN 1000000007 from rfl, pk_lRem (by omega) (by omega) (by omega), Nat.mod_eq_of_lt (by omega), lN_i]
          exact hq
        · rw [if_neg e2] at hq ⊢; exact hq
theorem c_spiral {SE SM : St} {K : Int32 → Int32 → St → St → Prop} {a w : Int32} (hK : ∀ r S1 S2, frX [120, 121, 122] SE S1 → frM SM S2 → K r r S1 S2) : w_X11_spiral a w SE (fun r S1 => w_X12_spiral a w SM (fun r' S2 => K r r' S1 S2)) := by
  have f0 : frM SM (sI SM 0 0 0) := frM_sI (frM_refl _) rfl
  by_cases a0 : a < 1
  · unfold w_X11_spiral
    rw [if_pos a0]
    intro S2 hS2; subst hS2
    refine m_within (fun _ => ?_) (fun x _ => absurd a0 x)
    rw [if_pos rfl]
    exact hK _ _ _ (frX_refl _ _) f0
  by_cases a2 : a ≤ 200
  · obtain ⟨j, hj, rfl⟩ := nI_of (x := a) (fun e => a0 (by
      rw [Int32.lt_iff_toInt_lt] at e ⊢
      have t0 : (0 : Int32).toInt = 0 := by decide
      have t1 : (1 : Int32).toInt = 1 := by decide
      omega))
    have hj0 : 0 < j := by
      rcases Nat.eq_zero_or_pos j with e | e
      · subst e; exact absurd (by decide) a0
      · exact e
    have hj2 : j ≤ 200 := (nI_leI (b := 200) hj (by omega)).mp a2
    refine e_spiral hj0 hj2 (fun S1 hf => ?_)
    have hm : ∀ r, (∀ S', frM SM S' → if w = 0 then K r (nI (ncyc j (spf j) j)) S1 S' else if w = (1 : Int32) then K r (nI (mxU (cyc j (spf j)) j)) S1 S' else K r (nI (rnd j (spf j))) S1 S') → ¬ (w < 0 ∨ 2 < w) → w_X12_spiral (nI j) w SM (fun r' S2 => K r r' S1 S2) := by
      intro r hr hw
      exact m_spiral hj0 hj2 (fun x => absurd x hw) (fun _ => hr)
    by_cases e0 : w = 0
    · rw [if_pos e0]
      exact hm _ (fun S' hf' => by rw [if_pos e0]; exact hK _ _ _ hf hf') (by subst e0; decide)
    · rw [if_neg e0]
      by_cases e1 : w = (1 : Int32)
      · rw [if_pos e1]
        exact hm _ (fun S' hf' => by rw [if_neg e0, if_pos e1]; exact hK _ _ _ hf hf') (by subst e1; decide)
      · rw [if_neg e1]
        by_cases e2 : w = (2 : Int32)
        · rw [if_pos e2]
          exact hm _ (fun S' hf' => by rw [if_neg e0, if_neg e1]; exact hK _ _ _ hf hf') (by subst e2; decide)
        · rw [if_neg e2]
          refine m_spiral hj0 hj2 (fun _ => hK _ _ _ hf f0) (fun hw => absurd ?_ hw)
          have t0 : (0 : Int32).toInt = 0 := by decide
          have t1 : (1 : Int32).toInt = 1 := by decide
          have t2 : (2 : Int32).toInt = 2 := by decide
          have b0 : w.toInt ≠ 0 := fun e => e0 (Int32.toInt_inj.mp e)
          have b1 : w.toInt ≠ 1 := fun e => e1 (Int32.toInt_inj.mp e)
          have b2 : w.toInt ≠ 2 := fun e => e2 (Int32.toInt_inj.mp e)
          rw [Int32.lt_iff_toInt_lt, Int32.lt_iff_toInt_lt]
          omega
  · unfold w_X11_spiral
    rw [if_neg a0, if_neg a2]
    intro S2 hS2; subst hS2
    refine m_within (fun _ => ?_) (fun _ x => absurd (Int32.not_lt.mp x) a2)
    rw [if_pos rfl]
    exact hK _ _ _ (frX_refl _ _) f0
