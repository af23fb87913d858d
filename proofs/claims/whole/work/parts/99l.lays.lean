/-! ===== pure: the reference's step ===== -/
def thS (n : Nat) : Nat → Nat × Nat
  | 0 => (0, 0)
  | p + 1 => if (thS n p).2 + 3 < n then ((thS n p).1, (thS n p).2 + 3) else ((thS n p).1 + 1, (thS n p).1 + 1)
theorem thS_ok : ∀ n, n < 13 → ∀ p, p < 12 → p < n → (thS n p).2 = srcP 133 n 0 0 p := by decide +kernel
theorem thS_lt : ∀ n, n < 13 → ∀ p, p < 13 → (thS n p).1 < 100 ∧ (thS n p).2 < 100 := by decide +kernel
theorem ly_ok : ∀ n, n < 13 → ∀ b, b < 12 → ∀ p, p < 12 → p < n → ((nI p - (nI b - nI b / nI n * nI n)) + nI n) - ((nI p - (nI b - nI b / nI n * nI n)) + nI n) / nI n * nI n = nI (srcP 134 n 0 b p) := by decide +kernel
theorem m_lays {k n b : Nat} {S : St} {Q : St → Prop} (hk : k ≤ 4) (hn : n ≤ 12) (hb : b ≤ 11) (h25 : gI S 0 25 = nI n) (hQ : ∀ S', frX [33] S S' → (∀ p, p < n → gI S' 33 p = nI (srcP (130 + k) n 0 b p)) → Q S') : w_X12_lays (nI k) (nI b) S Q := by
  intro x4 hx4
  rw [h25] at hx4
  subst hx4
  unfold w_X12_lays_14
  refine up3 (B := b_X12_lays_14 (nI k) (nI b) Q (nI n)) n (by omega) (fun j a c S' => frX [33] S S' ∧ (∀ p, p < j → gI S' 33 p = nI (srcP (130 + k) n 0 b p)) ∧ (k = 3 → a = nI (thS n j).1 ∧ c = nI (thS n j).2)) ?_ ?_ 0 0 0 (by omega) ⟨frX_refl _ _, fun p hp => absurd hp (Nat.not_lt_zero _), fun _ => ⟨rfl, rfl⟩⟩
  · rintro kk j a c S' hj ⟨c1, c2, c3⟩ hkk
    unfold b_X12_lays_14
    rw [if_neg (nI_ge hj (by omega))]
    rintro half rfl
    have hv : vp_in (nI j) 12 := vp_in_nI (by omega) (by omega)
    have put : ∀ (v : Int32) (S2 : St), v = nI (srcP (130 + k) n 0 b j) → S2 = sI S' 33 (nI j).toNatClampNeg v → frX [33] S S2 ∧ ∀ p, p < j + 1 → gI S2 33 p = nI (srcP (130 + k) n 0 b p) := by
      intro v S2 e1 e2
      rw [nI_clamp (by omega)] at e2
      refine ⟨by rw [e2]; exact frX_sI c1 (by simp), fun p hp => ?_⟩
      rw [e2, gI_sI]
      by_cases e : p = j
      · rw [if_pos ⟨rfl, e⟩, e, e1]
      · rw [if_neg (fun q => e q.2)]; exact c2 p (by omega)
    have rem2 : nI j - nI j / (2 : Int32) * (2 : Int32) = nI (j % 2) := pk_rem (d := 2) (by omega) (by omega) (by omega)
    have half2 : nI j / (2 : Int32) = nI (j / 2) := pk_div (d := 2) (by omega) (by omega) (by omega)
    rw [rem2, half2]
    have : k = 0 ∨ k = 1 ∨ k = 2 ∨ k = 3 ∨ k = 4 := by omega
    rcases this with rfl | rfl | rfl | rfl | rfl
    · rw [if_pos (by rfl)]
      have tail : ∀ (a' c' : Int32) (S2 : St), frX [33] S S2 → (∀ p, p < j + 1 → gI S2 33 p = nI (srcP (130 + 0) n 0 b p)) → w_X12_lays_55 (nI 0) (nI b) kk (nI n) a' c' (nI j) (nI (j / 2)) S2 := by
        intro a' c' S2 z1 z2
        unfold w_X12_lays_55
        rw [if_neg (by decide)]
        unfold w_X12_lays_73
        rw [if_neg (by decide)]
        unfold w_X12_lays_105
        rw [if_neg (by decide)]
        unfold w_X12_lays_135
        rw [if_neg (by decide)]
        intro x hx
        exact hkk a' c' S2 x hx ⟨z1, z2, fun q => by omega⟩
      refine nI_ifEq (x := j % 2) (y := 0) (by omega) (by omega) (fun q => ?_) (fun q => ?_)
      · unfold w_X12_lays_54
        refine ⟨hv, fun S2 e2 => ?_⟩
        obtain ⟨z1, z2⟩ := put _ S2 (by
          rw [show (1 : Int32) = nI 1 from rfl, pk_sub (by omega), pk_sub (by omega)]
          show _ = nI (spf n j)
          unfold spf; rw [if_pos q]) e2
        exact tail a c S2 z1 z2
      · unfold w_X12_lays_54
        refine ⟨hv, fun S2 e2 => ?_⟩
        obtain ⟨z1, z2⟩ := put _ S2 (by
          show _ = nI (spf n j)
          unfold spf; rw [if_neg q]) e2
        exact tail a c S2 z1 z2
    · rw [if_neg (by decide)]
      unfold w_X12_lays_55
      rw [if_pos (by rfl)]
      refine ⟨hv, fun S2 e2 => ?_⟩
      obtain ⟨z1, z2⟩ := put _ S2 (by rw [show (1 : Int32) = nI 1 from rfl, pk_sub (by omega), pk_sub (by omega)]; rfl) e2
      unfold w_X12_lays_73
      rw [if_neg (by decide)]
      unfold w_X12_lays_105
      rw [if_neg (by decide)]
      unfold w_X12_lays_135
      rw [if_neg (by decide)]
      intro x hx
      exact hkk a c S2 x hx ⟨z1, z2, fun q => by omega⟩
    · rw [if_neg (by decide)]
      unfold w_X12_lays_55
      rw [if_neg (by decide)]
      unfold w_X12_lays_73
      rw [if_pos (by rfl), rem2]
      refine nI_ifEq (x := j % 2) (y := 0) (by omega) (by omega) (fun q => ?_) (fun q => ?_)
      · unfold w_X12_lays_104
        refine ⟨hv, fun S2 e2 => ?_⟩
        obtain ⟨z1, z2⟩ := put _ S2 (by
          show _ = nI (if j % 2 = 0 then j / 2 else (n + 1) / 2 + j / 2)
          rw [if_pos q]) e2
        unfold w_X12_lays_105
        rw [if_neg (by decide)]
        unfold w_X12_lays_135
        rw [if_neg (by decide)]
        intro x hx
        exact hkk a c S2 x hx ⟨z1, z2, fun q => by omega⟩
      · unfold w_X12_lays_104
        refine ⟨hv, fun S2 e2 => ?_⟩
        obtain ⟨z1, z2⟩ := put _ S2 (by
          show _ = nI (if j % 2 = 0 then j / 2 else (n + 1) / 2 + j / 2)
          rw [if_neg q, nI_1, show (2 : Int32) = nI 2 from rfl, pk_div (by omega) (by omega) (by omega), nI_add]) e2
        unfold w_X12_lays_105
        rw [if_neg (by decide)]
        unfold w_X12_lays_135
        rw [if_neg (by decide)]
        intro x hx
        exact hkk a c S2 x hx ⟨z1, z2, fun q => by omega⟩
    · obtain ⟨d1, d2⟩ := c3 rfl
      subst d1; subst d2
      have tl := thS_lt n (by omega) j (by omega)
      rw [if_neg (by decide)]
      unfold w_X12_lays_55
      rw [if_neg (by decide)]
      unfold w_X12_lays_73
      rw [if_neg (by decide)]
      unfold w_X12_lays_105
      rw [if_pos (by rfl)]
      refine ⟨hv, fun S2 e2 => ?_⟩
      obtain ⟨z1, z2⟩ := put _ S2 (by rw [thS_ok n (by omega) j (by omega) hj]; rfl) e2
      rintro x rfl
      rw [show (3 : Int32) = nI 3 from rfl, nI_add]
      have st : thS n (j + 1) = if (thS n j).2 + 3 < n then ((thS n j).1, (thS n j).2 + 3) else ((thS n j).1 + 1, (thS n j).1 + 1) := rfl
      refine nI_ifLt (by omega) (by omega) (fun q => ?_) (fun q => ?_)
      · rw [if_pos q] at st
        unfold w_X12_lays_135
        rw [if_neg (by decide)]
        intro y hy
        exact hkk _ _ S2 y hy ⟨z1, z2, fun _ => by rw [st]; exact ⟨rfl, rfl⟩⟩
      · rw [if_neg (by omega)] at st
        rintro w rfl
        rw [nI_1]
        unfold w_X12_lays_135
        rw [if_neg (by decide)]
        intro y hy
        exact hkk _ _ S2 y hy ⟨z1, z2, fun _ => by rw [st]; exact ⟨rfl, rfl⟩⟩
    · have hn0 : ¬ nI n = 0 := nI_ne0 (by omega) (by omega)
      rw [if_neg (by decide)]
      unfold w_X12_lays_55
      rw [if_neg (by decide)]
      unfold w_X12_lays_73
      rw [if_neg (by decide)]
      unfold w_X12_lays_105
      rw [if_neg (by decide)]
      unfold w_X12_lays_135
      rw [if_pos (by rfl)]
      refine ⟨hn0, hn0, hv, fun S2 e2 => ?_⟩
      obtain ⟨z1, z2⟩ := put _ S2 (ly_ok n (by omega) b (by omega) j (by omega) hj) e2
      intro x hx
      exact hkk a c S2 x hx ⟨z1, z2, fun q => by omega⟩
  · rintro kk a c S' ⟨c1, c2, c3⟩
    unfold b_X12_lays_14
    rw [if_pos (nI_le (Nat.le_refl _) (by omega))]
    exact hQ S' c1 c2
theorem m_turns {n : Nat} {src f : Nat → Nat} {S : St} {Q : St → Prop} (hn : n ≤ 12) (h25 : gI S 0 25 = nI n) (hs : ∀ p, p < n → src p < n ∧ gI S 33 p = nI (src p)) (hf : ∀ p, p < n → gI S 10 p = nI (f p)) (hQ : ∀ S', frX [10, 34] S S' → (∀ p, p < n → gI S' 10 p = nI (f (src p))) → Q S') : w_X12_turns S Q := by
  unfold w_X12_turns w_X12_turns_2
  refine up1 (B := b_X12_turns_2 Q) n (by omega) (fun j S' => frX [34] S S' ∧ ∀ p, p < j → gI S' 34 p = nI (f (src p))) ?_ ?_ 0 (by omega) ⟨frX_refl _ _, fun p hp => absurd hp (Nat.not_lt_zero _)⟩
  · rintro kk j S' hj ⟨c1, c2⟩ hkk
    have hv : vp_in (nI j) 12 := vp_in_nI (by omega) (by omega)
    obtain ⟨a1, a2⟩ := hs j hj
    unfold b_X12_turns_2
    rw [frX_g c1 0 25 (by simp), h25, if_neg (nI_ge hj (by omega)), nI_clamp (by omega), frX_g c1 33 j (by simp), a2, nI_clamp (by omega), frX_g c1 10 _ (by simp), hf _ a1]
    refine ⟨hv, vp_in_nI (by omega) (by omega), hv, fun S2 e2 x hx => hkk S2 x hx ⟨by rw [e2]; exact frX_sI c1 (by simp), fun p hp => ?_⟩⟩
    rw [e2, gI_sI]
    by_cases e : p = j
    · rw [if_pos ⟨rfl, e⟩, e]
    · rw [if_neg (fun q => e q.2)]; exact c2 p (by omega)
  · rintro kk S1 ⟨c1, c2⟩
    unfold b_X12_turns_2
    rw [frX_g c1 0 25 (by simp), h25, if_pos (nI_le (Nat.le_refl _) (by omega))]
    unfold w_X12_turns_35
    refine up1 (B := b_X12_turns_35 Q) n (by omega) (fun j S' => frX [10] S1 S' ∧ ∀ p, p < j → gI S' 10 p = nI (f (src p))) ?_ ?_ 0 (by omega) ⟨frX_refl _ _, fun p hp => absurd hp (Nat.not_lt_zero _)⟩
    · rintro kk j S' hj ⟨d1, d2⟩ hkk
      have hv : vp_in (nI j) 12 := vp_in_nI (by omega) (by omega)
      unfold b_X12_turns_35
      rw [frX_g d1 0 25 (by simp), frX_g c1 0 25 (by simp), h25, if_neg (nI_ge hj (by omega)), nI_clamp (by omega), frX_g d1 34 j (by simp), c2 j hj]
      refine ⟨hv, hv, fun S2 e2 x hx => hkk S2 x hx ⟨by rw [e2]; exact frX_sI d1 (by simp), fun p hp => ?_⟩⟩
      rw [e2, gI_sI]
      by_cases e : p = j
      · rw [if_pos ⟨rfl, e⟩, e]
      · rw [if_neg (fun q => e q.2)]; exact d2 p (by omega)
    · rintro kk S' ⟨d1, d2⟩
      unfold b_X12_turns_35
      rw [frX_g d1 0 25 (by simp), frX_g c1 0 25 (by simp), h25, if_pos (nI_le (Nat.le_refl _) (by omega))]
      exact hQ S' (frX_trans (frX_sub c1 (by simp)) (frX_sub d1 (by simp))) d2
