/-! ===== pure: the class cuts words, numbers, signs ===== -/
def TK1 (sg : Nat → Nat) (t s m : Nat) (S S' : St) : Prop := frX [1, 3, 4, 5] S S' ∧ gI S' 1 5 = gI S 1 5 ∧ gI S' 1 6 = nI (m + 1) ∧ (∀ j, gI S' 3 j = if j = m then nI (tkey sg t s) else gI S 3 j) ∧ (∀ j, gI S' 4 j = if j = m then nI s else gI S 4 j) ∧ (∀ j, j ≠ m → gJ S' 5 j = gJ S 5 j) ∧ (tkind sg t s = 1 → gJ S' 5 m = lN (v32 sg t s)) ∧ (tkind sg t s = 2 → gJ S' 5 m = lN (v10 sg t s))
theorem e_addTK {sg : Nat → Nat} {t s m : Nat} {v : Int64} {S : St} {Q : St → Prop} (hm : m ≤ 1000) (h6 : gI S 1 6 = nI m) (h1 : tkind sg t s = 1 → v = lN (v32 sg t s)) (h2 : tkind sg t s = 2 → v = lN (v10 sg t s)) (hQ : ∀ S', TK1 sg t s m S S' → Q S') : w_X10_addToken (nI s) (nI (tkey sg t s)) v S Q := by
  refine e_addToken9 hm h6 (fun S' a1 a2 a3 a4 a5 a6 => hQ S' ⟨a1, a2, a3, a4, a5, fun j hj => by rw [a6, if_neg hj], fun q => by rw [a6, if_pos rfl, h1 q], fun q => by rw [a6, if_pos rfl, h2 q]⟩)
theorem e_cutWord {sg : Nat → Nat} {t s m : Nat} {S : St} {Q : Int32 → St → Prop} (hS : SgE t sg S) (hK : KW S) (hs : s < t) (hl : isL (sg s) = true) (hm : m ≤ 1000) (h6 : gI S 1 6 = nI m) (hQ : ∀ S', TK1 sg t s m S S' → Q (nI (tend sg t s)) S') : w_X10_cutWord (nI s) S Q := by
  have ht := hS.1
  have te : tend sg t s = run isL sg t s := by unfold tend; rw [if_pos hs, if_pos hl]
  have tk : tkind sg t s = if run isL sg t s - s ≤ 8 then 1 else 4 := by unfold tkind; rw [if_pos hs, if_pos hl]
  have fin : ∀ (n : Nat) (v2 : Int64), s + n ≤ t → run isL sg t s = s + n → (∀ k, k < n → isL (sg (s + k)) = true) → (n ≤ 8 → v2 = lN (valB 32 96 sg s n)) → w_X10_cutWord_43 (nI s) Q v2 (nI (s + n)) S := by
    intro n v2 b1 b2 b3 b4
    unfold w_X10_cutWord_43
    rw [pk_sub (by omega), show s + n - s = n by omega]
    rw [te, b2] at hQ
    rw [b2, show s + n - s = n by omega] at tk
    have vv : v32 sg t s = valB 32 96 sg s n := by unfold v32; rw [te, b2, show s + n - s = n by omega]
    refine nI_if (y := 8) (by omega) (by omega) (fun q => ?_) (fun q => ?_)
    · rw [if_pos q] at tk
      rw [b4 q]
      have hb : valB 32 96 sg s n < 2 ^ 40 := Nat.lt_of_lt_of_le (valB_lt n b3) (by
        show 32 ^ n ≤ 2 ^ 40
        exact Nat.pow_le_pow_right (n := 32) (by omega) q)
      refine e_keyOf hK (by omega) ?_
      have ky : wkey (valB 32 96 sg s n) = tkey sg t s := by unfold tkey; rw [tk, if_neg (by omega), if_pos rfl, vv]
      rw [ky]
      unfold w_X10_cutWord_63
      refine e_addTK hm h6 (fun _ => by rw [vv]) (fun q => by omega) (fun S' h => hQ S' h)
    · rw [if_neg (by omega)] at tk
      have ky : (1 : Int32) = nI (tkey sg t s) := by unfold tkey; rw [tk]; rfl
      rw [ky]
      unfold w_X10_cutWord_63
      exact e_addTK hm h6 (fun q => by omega) (fun q => by omega) (fun S' h => hQ S' h)
  unfold w_X10_cutWord w_X10_cutWord_5
  refine loop2 (fun v2 v4 S' => S' = S ∧ ∃ n, s + n ≤ t ∧ v4 = nI (s + n) ∧ run isL sg t s = run isL sg t (s + n) ∧ (∀ k, k < n → isL (sg (s + k)) = true) ∧ (n ≤ 8 → v2 = lN (valB 32 96 sg s n))) (fun _ v4 _ => t - v4.toNatClampNeg) ?_ _ _ ⟨rfl, 0, by omega, rfl, rfl, fun k hk => absurd hk (Nat.not_lt_zero _), fun _ => rfl⟩
  rintro k v2 v4 S' ⟨rfl, n, b1, rfl, b2, b3, b4⟩ hk
  unfold b_X10_cutWord_5
  rw [hS.2.1]
  refine nI_if (by omega) (by omega) (fun q => fin n v2 b1 (by rw [b2]; exact run_end q) b3 b4) (fun q => ?_)
  have sm := sg_small hS q
  refine e_signAt9 hS q (e_isLetter9 sm ?_)
  by_cases c : isL (sg (s + n)) = true
  · rw [if_pos c, if_neg (by decide)]
    refine e_signAt9 hS q ?_
    unfold w_X10_withLetter
    intro x hx
    rw [nI_1] at hx
    rw [hx]
    have cc := of_decide_eq_true c
    refine hk _ _ _ ⟨rfl, n + 1, by omega, rfl, by rw [b2, run_go q c]; rfl, fun j hj => ?_, fun h8 => ?_⟩ ?_
    · rcases Nat.lt_or_eq_of_le (Nat.lt_succ_iff.mp hj) with a | a
      · exact b3 j a
      · rw [a]; exact c
    · have hb : valB 32 96 sg s n < 2 ^ 40 := Nat.lt_of_lt_of_le (valB_lt n b3) (by
        show 32 ^ n ≤ 2 ^ 40
        exact Nat.pow_le_pow_right (n := 32) (by omega) (show n ≤ 8 by omega))
      rw [b4 (by omega)]
      exact lN_pack (by omega) cc.1 cc.2
    · show t - (nI (s + n + 1)).toNatClampNeg < t - (nI (s + n)).toNatClampNeg
      rw [nI_clamp (by omega), nI_clamp (by omega)]; omega
  · rw [if_neg c, if_pos rfl]
    exact fin n v2 b1 (by rw [b2]; exact run_stop c) b3 b4
theorem valB10_lt {sg : Nat → Nat} {i : Nat} : ∀ n, (∀ k, k < n → isD (sg (i + k)) = true) → valB 10 48 sg i n < 10 ^ n := by
  intro n
  induction n with
  | zero => intro _; exact Nat.one_pos
  | succ n ih =>
    intro h
    have h1 := ih (fun k hk => h k (by omega))
    have h2 := of_decide_eq_true (h n (by omega))
    show valB 10 48 sg i n * 10 + (sg (i + n) - 48) < 10 ^ (n + 1)
    rw [Nat.pow_succ]
    omega
theorem e_cutNumber {sg : Nat → Nat} {t s m : Nat} {S : St} {Q : Int32 → St → Prop} (hS : SgE t sg S) (hs : s < t) (hl : ¬ isL (sg s) = true) (hd : isD (sg s) = true) (hm : m ≤ 1000) (h6 : gI S 1 6 = nI m) (hQ : ∀ S', TK1 sg t s m S S' → Q (nI (tend sg t s)) S') : w_X10_cutNumber (nI s) S Q := by
  have ht := hS.1
  have te : tend sg t s = run isD sg t s := by unfold tend; rw [if_pos hs, if_neg hl, if_pos hd]
  have tk : tkind sg t s = if run isD sg t s - s ≤ 4 then 2 else 4 := by unfold tkind; rw [if_pos hs, if_neg hl, if_pos hd]
  have fin : ∀ (n : Nat) (v2 : Int64), s + n ≤ t → run isD sg t s = s + n → (∀ k, k < n → isD (sg (s + k)) = true) → v2 = lN (valB 10 48 sg s n) → w_X10_cutNumber_50 (nI s) Q v2 (nI (s + n)) S := by
    intro n v2 b1 b2 b3 b4
    unfold w_X10_cutNumber_50
    rw [pk_sub (by omega), show s + n - s = n by omega]
    rw [te, b2] at hQ
    rw [b2, show s + n - s = n by omega] at tk
    have vv : v10 sg t s = valB 10 48 sg s n := by unfold v10; rw [te, b2, show s + n - s = n by omega]
    refine nI_if (y := 4) (by omega) (by omega) (fun q => ?_) (fun q => ?_)
    · rw [if_pos q] at tk
      have ky : (2 : Int32) = nI (tkey sg t s) := by unfold tkey; rw [tk]; rfl
      rw [ky]
      unfold w_X10_cutNumber_65
      refine e_addTK hm h6 (fun q => by omega) (fun _ => by rw [vv, b4]) (fun S' h => hQ S' h)
    · rw [if_neg (by omega)] at tk
      have ky : (1 : Int32) = nI (tkey sg t s) := by unfold tkey; rw [tk]; rfl
      rw [ky]
      unfold w_X10_cutNumber_65
      exact e_addTK hm h6 (fun q => by omega) (fun q => by omega) (fun S' h => hQ S' h)
  unfold w_X10_cutNumber w_X10_cutNumber_5
  refine loop2 (fun v2 v4 S' => S' = S ∧ ∃ n, s + n ≤ t ∧ v4 = nI (s + n) ∧ run isD sg t s = run isD sg t (s + n) ∧ (∀ k, k < n → isD (sg (s + k)) = true) ∧ v2 = lN (valB 10 48 sg s n)) (fun _ v4 _ => t - v4.toNatClampNeg) ?_ _ _ ⟨rfl, 0, by omega, rfl, rfl, fun k hk => absurd hk (Nat.not_lt_zero _), rfl⟩
  rintro k v2 v4 S' ⟨rfl, n, b1, rfl, b2, b3, b4⟩ hk
  unfold b_X10_cutNumber_5
  rw [hS.2.1]
  refine nI_if (by omega) (by omega) (fun q => fin n v2 b1 (by rw [b2]; exact run_end q) b3 b4) (fun q => ?_)
  have sm := sg_small hS q
  refine e_signAt9 hS q (e_isDigit9 sm ?_)
  by_cases c : isD (sg (s + n)) = true
  · rw [if_pos c, if_neg (by decide)]
    refine e_signAt9 hS q ?_
    intro y hy x hx
    rw [nI_1] at hx
    rw [hx]
    have cc := of_decide_eq_true c
    refine hk _ _ _ ⟨rfl, n + 1, by omega, rfl, by rw [b2, run_go q c]; rfl, fun j hj => ?_, ?_⟩ ?_
    · rcases Nat.lt_or_eq_of_le (Nat.lt_succ_iff.mp hj) with a | a
      · exact b3 j a
      · rw [a]; exact c
    · rw [hy, b4, nI_l (by omega), show (10 : Int64) = lN 10 from rfl, show (48 : Int64) = lN 48 from rfl, lN_mul, lN_add, lN_sub (by omega)]
      show _ = lN (valB 10 48 sg s n * 10 + (sg (s + n) - 48))
      congr 1; omega
    · show t - (nI (s + n + 1)).toNatClampNeg < t - (nI (s + n)).toNatClampNeg
      rw [nI_clamp (by omega), nI_clamp (by omega)]; omega
  · rw [if_neg c, if_pos rfl]
    exact fin n v2 b1 (by rw [b2]; exact run_stop c) b3 b4
theorem e_cutToken {sg : Nat → Nat} {t s m : Nat} {S : St} {Q : Int32 → St → Prop} (hS : SgE t sg S) (hK : KW S) (hs : s < t) (hm : m ≤ 1000) (h6 : gI S 1 6 = nI m) (hB : isBl (sg s) = true → Q (nI (s + 1)) S) (hQ : ¬ isBl (sg s) = true → ∀ S', TK1 sg t s m S S' → Q (nI (tend sg t s)) S') : w_X10_cutToken (nI s) S Q := by
  have sm := sg_small hS hs
  unfold w_X10_cutToken
  refine e_signAt9 hS hs (e_isLetter9 sm ?_)
  by_cases c : isL (sg s) = true
  · have cc := of_decide_eq_true c
    rw [if_pos c, if_neg (by decide)]
    exact e_cutWord hS hK hs c hm h6 (hQ (fun q => by have := of_decide_eq_true q; omega))
  rw [if_neg c, if_pos rfl]
  refine e_isDigit9 sm ?_
  by_cases d : isD (sg s) = true
  · have cc := of_decide_eq_true d
    rw [if_pos d, if_neg (by decide)]
    exact e_cutNumber hS hs c d hm h6 (hQ (fun q => by have := of_decide_eq_true q; omega))
  rw [if_neg d, if_pos rfl]
  refine e_isBlank9 sm ?_
  by_cases b : isBl (sg s) = true
  · rw [if_pos b, if_neg (by decide), nI_1]; exact hB b
  rw [if_neg b, if_pos rfl]
  have te : tend sg t s = s + 1 := by unfold tend; rw [if_pos hs, if_neg c, if_neg d]
  have tk : tkind sg t s = if isSg (sg s) = true then 3 else 4 := by unfold tkind; rw [if_pos hs, if_neg c, if_neg d]
  refine e_isSign9 sm ?_
  by_cases g : isSg (sg s) = true
  · rw [if_pos g] at tk
    rw [if_pos g, if_neg (by decide)]
    have ky : sg s = tkey sg t s := by unfold tkey; rw [tk]; rfl
    unfold w_X10_cutToken_53
    rw [congrArg nI ky, nI_1, ← te]
    exact e_addTK hm h6 (fun q => by omega) (fun q => by omega) (fun S' h => hQ b S' h)
  · rw [if_neg g] at tk
    rw [if_neg g, if_pos rfl]
    have ky : (1 : Int32) = nI (tkey sg t s) := by unfold tkey; rw [tk]; rfl
    unfold w_X10_cutToken_53
    rw [nI_1, ← te, ky]
    exact e_addTK hm h6 (fun q => by omega) (fun q => by omega) (fun S' h => hQ b S' h)
theorem tend_le {sg : Nat → Nat} {t s : Nat} (hs : s < t) : s < tend sg t s ∧ tend sg t s ≤ t := by
  unfold tend
  rw [if_pos hs]
  split
  · rename_i c; rw [run_go hs c]; have := run_le (p := isL) (sg := sg) (t := t) (i := s + 1) (by omega); omega
  · split
    · rename_i c; rw [run_go hs c]; have := run_le (p := isD) (sg := sg) (t := t) (i := s + 1) (by omega); omega
    · omega
theorem SgE_TK {sg : Nat → Nat} {t s m : Nat} {S S' : St} (h : SgE t sg S) (q : TK1 sg t s m S S') : SgE t sg S' := by
  obtain ⟨h1, h2, h3⟩ := h
  refine ⟨h1, by rw [q.2.1]; exact h2, fun j hj => ⟨(h3 j hj).1, ?_⟩⟩
  rw [frX_g q.1 2 j (by simp)]; exact (h3 j hj).2
theorem AR_TK {sg : Nat → Nat} {t s m : Nat} {S S' : St} (h : AR sg t m S) (hs : s = tst sg t m) (q : TK1 sg t s m S S') : AR sg t (m + 1) S' := by
  obtain ⟨q1, q2, q3, q4, q5, q6, q7, q8⟩ := q
  intro j hj
  by_cases e : j = m
  · subst e; subst hs
    refine ⟨by rw [q4, if_pos rfl], by rw [q5, if_pos rfl], q7, q8⟩
  · obtain ⟨a, b, c, d⟩ := h j (by omega)
    exact ⟨by rw [q4, if_neg e]; exact a, by rw [q5, if_neg e]; exact b, fun z => by rw [q6 j e]; exact c z, fun z => by rw [q6 j e]; exact d z⟩
/-- what cut leaves: n tokens and the finish -/
def CUT (sg : Nat → Nat) (t n : Nat) (S : St) : Prop := n ≤ 1000 ∧ tst sg t n = t ∧ (∀ j, j < n → tst sg t j < t) ∧ gI S 1 6 = nI (n + 1) ∧ AR sg t (n + 1) S
theorem e_cut {sg : Nat → Nat} {t : Nat} {S : St} {Q : St → Prop} (hS : SgE t sg S) (hK : KW S) (hQ : ∀ S' n, frX [1, 3, 4, 5] S S' → gI S' 1 5 = 0 → CUT sg t n S' → Q S') : w_X10_cut S Q := by
  have ht := hS.1
  have fin : ∀ (m : Nat) (S1 : St), m ≤ 1000 → tst sg t m = t → (∀ j, j < m → tst sg t j < t) → gI S1 1 6 = nI m → AR sg t m S1 → SgE t sg S1 → frX [1, 3, 4, 5] S S1 → w_X10_cut_36 Q S1 := by
    intro m S1 b1 b2 b3 b4 b5 b6 b7
    unfold w_X10_cut_36
    rw [b6.2.1]
    have tk : tkind sg t t = 0 := by unfold tkind; rw [if_neg (by omega)]
    have ky : (0 : Int32) = nI (tkey sg t t) := by unfold tkey; rw [tk, if_pos rfl]; rfl
    rw [ky]
    refine e_addTK b1 b4 (fun q => by omega) (fun q => by omega) (fun S2 h => ?_)
    intro S3 h3
    have g3 : ∀ a j, ¬ (a = 1 ∧ j = 5) → gI S3 a j = gI S2 a j := fun a j z => by rw [h3, gI_sI, if_neg z]
    have h6 := AR_TK b5 b2.symm h
    refine hQ S3 m (by rw [h3]; exact frX_sI (frX_trans b7 h.1) (by simp)) (by rw [h3, gI_sI, if_pos ⟨rfl, rfl⟩]; exact ky.symm) ⟨b1, b2, b3, by rw [g3 _ _ (by omega)]; exact h.2.2.1, fun j hj => ?_⟩
    obtain ⟨a, b, c, d⟩ := h6 j hj
    exact ⟨by rw [g3 _ _ (by omega)]; exact a, by rw [g3 _ _ (by omega)]; exact b, fun z => by rw [h3, gJ_sI]; exact c z, fun z => by rw [h3, gJ_sI]; exact d z⟩
  unfold w_X10_cut
  intro S0 h0
  have hS0 : SgE t sg S0 := ⟨ht, by rw [h0, gI_sI, if_neg (by omega)]; exact hS.2.1, fun j hj => ⟨(hS.2.2 j hj).1, by rw [h0, gI_sI, if_neg (by omega)]; exact (hS.2.2 j hj).2⟩⟩
  have f0 : frX [1, 3, 4, 5] S S0 := by rw [h0]; exact frX_sI (frX_refl _ _) (by simp)
  unfold w_X10_cut_9
  refine loop2 (fun v1 v2 S1 => ∃ m b i, v1 = nI b ∧ v2 = nI i ∧ i ≤ b ∧ m ≤ b ∧ b ≤ t ∧ tst sg t m = run isBl sg t b ∧ (∀ j, j < m → tst sg t j < t) ∧ gI S1 1 6 = nI m ∧ AR sg t m S1 ∧ SgE t sg S1 ∧ frX [1, 3, 4, 5] S S1) (fun v1 _ _ => t - v1.toNatClampNeg) ?_ _ _ ⟨0, 0, 0, rfl, rfl, Nat.le_refl _, Nat.le_refl _, Nat.zero_le _, rfl, fun j hj => absurd hj (Nat.not_lt_zero _), by rw [h0, gI_sI, if_pos ⟨rfl, rfl⟩]; rfl, fun j hj => absurd hj (Nat.not_lt_zero _), hS0, f0⟩
  rintro k v1 v2 S1 ⟨m, b, i, rfl, rfl, b1, b2, b3, b4, b5, b6, b7, b8, b9⟩ hk
  unfold b_X10_cut_9
  rw [b8.2.1]
  have done : b = t → w_X10_cut_36 Q S1 := fun q => fin m S1 (by omega) (by rw [b4, q]; exact run_end (Nat.le_refl _)) b5 b6 b7 b8 b9
  refine nI_if (x := 1000) (by omega) (by omega) (fun q => done (by omega)) (fun q => ?_)
  refine nI_if (by omega) (by omega) (fun q2 => done (by omega)) (fun q2 => ?_)
  refine e_cutToken b8 (KW_fr b9 (by simp) hK) q2 (by omega) b6 (fun c x hx => ?_) (fun c S2 h2 x hx => ?_)
  · rw [hx, nI_1]
    refine hk _ _ _ ⟨m, b + 1, i + 1, rfl, rfl, by omega, by omega, by omega, by rw [b4, run_go q2 c], b5, b6, b7, b8, b9⟩ ?_
    rw [nI_clamp (by omega), nI_clamp (by omega)]; omega
  · have hb : tst sg t m = b := by rw [b4]; exact run_stop c
    have tl := tend_le (sg := sg) q2
    rw [hx, nI_1]
    refine hk _ _ _ ⟨m + 1, tend sg t b, i + 1, rfl, rfl, by omega, by omega, by omega, ?_, fun j hj => ?_, h2.2.2.1, AR_TK b7 hb.symm h2, SgE_TK b8 h2, frX_trans b9 h2.1⟩ ?_
    · show run isBl sg t (tend sg t (tst sg t m)) = _
      rw [hb]
    · by_cases e : j = m
      · rw [e, hb]; exact q2
      · exact b5 j (by omega)
    · rw [nI_clamp (by omega), nI_clamp (by omega)]; omega
