/-! ===== pure: the tokens of a tape; the class cuts them all ===== -/
def isL (s : Nat) : Bool := decide (97 ≤ s ∧ s ≤ 122)
def isD (s : Nat) : Bool := decide (48 ≤ s ∧ s ≤ 57)
def isBl (s : Nat) : Bool := decide (s = 10 ∨ s = 32)
def isSg (s : Nat) : Bool := decide ((40 ≤ s ∧ s ≤ 43) ∨ s = 45 ∨ (59 ≤ s ∧ s ≤ 61))
def runF (p : Nat → Bool) (sg : Nat → Nat) : Nat → Nat → Nat
  | 0, i => i
  | n + 1, i => if p (sg i) = true then runF p sg n (i + 1) else i
def run (p : Nat → Bool) (sg : Nat → Nat) (t i : Nat) : Nat := runF p sg (t - i) i
theorem run_end {p : Nat → Bool} {sg : Nat → Nat} {t i : Nat} (h : t ≤ i) : run p sg t i = i := by
  unfold run; rw [show t - i = 0 by omega]; rfl
theorem run_go {p : Nat → Bool} {sg : Nat → Nat} {t i : Nat} (h : i < t) (hp : p (sg i) = true) : run p sg t i = run p sg t (i + 1) := by
  unfold run; rw [show t - i = (t - (i + 1)) + 1 by omega]; show (if p (sg i) = true then _ else _) = _; rw [if_pos hp]
theorem run_stop {p : Nat → Bool} {sg : Nat → Nat} {t i : Nat} (hp : ¬ p (sg i) = true) : run p sg t i = i := by
  unfold run
  cases t - i with
  | zero => rfl
  | succ n => show (if p (sg i) = true then _ else _) = _; rw [if_neg hp]
theorem runF_le (p : Nat → Bool) (sg : Nat → Nat) : ∀ n i, i ≤ runF p sg n i ∧ runF p sg n i ≤ i + n := by
  intro n
  induction n with
  | zero => intro i; exact ⟨Nat.le_refl _, Nat.le_refl _⟩
  | succ n ih =>
    intro i
    show i ≤ (if p (sg i) = true then runF p sg n (i + 1) else i) ∧ (if p (sg i) = true then runF p sg n (i + 1) else i) ≤ _
    split
    · have := ih (i + 1); omega
    · omega
theorem run_le {p : Nat → Bool} {sg : Nat → Nat} {t i : Nat} (h : i ≤ t) : i ≤ run p sg t i ∧ run p sg t i ≤ t := by
  have := runF_le p sg (t - i) i
  unfold run; omega
theorem runF_at (p : Nat → Bool) (sg : Nat → Nat) : ∀ n i, runF p sg n i < i + n → ¬ p (sg (runF p sg n i)) = true := by
  intro n
  induction n with
  | zero => intro i h; exact absurd h (by have := (runF_le p sg 0 i).1; omega)
  | succ n ih =>
    intro i
    show (if p (sg i) = true then runF p sg n (i + 1) else i) < _ → ¬ p (sg (if p (sg i) = true then runF p sg n (i + 1) else i)) = true
    split
    · intro h; exact ih (i + 1) (by omega)
    · rename_i q; intro _; exact q
theorem run_at {p : Nat → Bool} {sg : Nat → Nat} {t i : Nat} (hi : i ≤ t) (h : run p sg t i < t) : ¬ p (sg (run p sg t i)) = true := by
  unfold run at *; exact runF_at p sg (t - i) i (by omega)
def valB (b o : Nat) (sg : Nat → Nat) (i : Nat) : Nat → Nat
  | 0 => 0
  | n + 1 => valB b o sg i n * b + (sg (i + n) - o)
def tend (sg : Nat → Nat) (t s : Nat) : Nat := if s < t then (if isL (sg s) = true then run isL sg t s else if isD (sg s) = true then run isD sg t s else s + 1) else s
def tkind (sg : Nat → Nat) (t s : Nat) : Nat := if s < t then (if isL (sg s) = true then (if run isL sg t s - s ≤ 8 then 1 else 4) else if isD (sg s) = true then (if run isD sg t s - s ≤ 4 then 2 else 4) else if isSg (sg s) = true then 3 else 4) else 0
def tps (sg : Nat → Nat) (t : Nat) : Nat → Nat
  | 0 => 0
  | m + 1 => tend sg t (run isBl sg t (tps sg t m))
/-- where token m starts -/
def tst (sg : Nat → Nat) (t m : Nat) : Nat := run isBl sg t (tps sg t m)
def v32 (sg : Nat → Nat) (t s : Nat) : Nat := valB 32 96 sg s (tend sg t s - s)
def v10 (sg : Nat → Nat) (t s : Nat) : Nat := valB 10 48 sg s (tend sg t s - s)
def kfF (v : Nat) : Nat → Nat → Nat
  | 0, i => i
  | n + 1, i => if kw i = v then i else kfF v n (i + 1)
def kfind (v : Nat) : Nat := kfF v 24 0
def wkey (v : Nat) : Nat := if kfind v < 24 then 128 + kfind v else 3
def tkey (sg : Nat → Nat) (t s : Nat) : Nat := if tkind sg t s = 0 then 0 else if tkind sg t s = 1 then wkey (v32 sg t s) else if tkind sg t s = 2 then 2 else if tkind sg t s = 3 then sg s else 1
def AR (sg : Nat → Nat) (t m : Nat) (S : St) : Prop := ∀ j, j < m → gI S 3 j = nI (tkey sg t (tst sg t j)) ∧ gI S 4 j = nI (tst sg t j) ∧ (tkind sg t (tst sg t j) = 1 → gJ S 5 j = lN (v32 sg t (tst sg t j))) ∧ (tkind sg t (tst sg t j) = 2 → gJ S 5 j = lN (v10 sg t (tst sg t j)))
def SgE (t : Nat) (sg : Nat → Nat) (S : St) : Prop := t ≤ 1000 ∧ gI S 1 5 = nI t ∧ ∀ j, j < t → (sg j = 10 ∨ (32 ≤ sg j ∧ sg j ≤ 126)) ∧ gI S 2 j = nI (sg j)
theorem sg_small {t : Nat} {sg : Nat → Nat} {S : St} (h : SgE t sg S) {j : Nat} (hj : j < t) : sg j < 127 := by
  have := (h.2.2 j hj).1; omega
theorem lN_pack {v c : Nat} (hv : v < 2 ^ 50) (hc : 97 ≤ c) (hc2 : c ≤ 122) : (lN v <<< (((5 : Int32)).toInt64 &&& 63)) ||| (((nI c - (97 : Int32)) + (1 : Int32)).toInt64) = lN (v * 32 + (c - 96)) := by
  have e1 : (nI c - (97 : Int32)) + (1 : Int32) = nI (c - 96) := by
    rw [show (97 : Int32) = nI 97 from rfl, pk_sub hc, nI_1, show c - 97 + 1 = c - 96 by omega]
  rw [e1, nI_l (by omega), show ((5 : Int32)).toInt64 &&& 63 = (5 : Int64) from by decide]
  apply Int64.toBitVec_inj.mp
  rw [Int64.toBitVec_or, Int64.toBitVec_shiftLeft, show ((5 : Int64).toBitVec.smod 64) = 5#64 from by decide]
  apply BitVec.eq_of_toNat_eq
  have t1 : ∀ n, n < 2 ^ 64 → (lN n).toBitVec.toNat = n := fun n hn => Nat.mod_eq_of_lt hn
  rw [BitVec.toNat_or, BitVec.shiftLeft_eq', BitVec.toNat_shiftLeft, t1 _ (by omega), t1 _ (by omega), t1 _ (by omega), Nat.shiftLeft_eq, show (5#64).toNat = 5 from rfl, Nat.mod_eq_of_lt (by omega), Nat.mul_comm v, ← Nat.two_pow_add_eq_or_of_lt (by omega : c - 96 < 2 ^ 5)]
theorem valB_lt {sg : Nat → Nat} {i : Nat} : ∀ n, (∀ k, k < n → isL (sg (i + k)) = true) → valB 32 96 sg i n < 32 ^ n := by
  intro n
  induction n with
  | zero => intro _; exact Nat.one_pos
  | succ n ih =>
    intro h
    have h1 := ih (fun k hk => h k (by omega))
    have h2 := of_decide_eq_true (h n (by omega))
    show valB 32 96 sg i n * 32 + (sg (i + n) - 96) < 32 ^ (n + 1)
    rw [Nat.pow_succ]
    omega
theorem kfF_spec (v : Nat) : ∀ n i, i + n = 24 → (i ≤ kfF v n i ∧ kfF v n i ≤ 24 ∧ (∀ j, i ≤ j → j < kfF v n i → kw j ≠ v) ∧ (kfF v n i < 24 → kw (kfF v n i) = v)) := by
  intro n
  induction n with
  | zero => intro i h; exact ⟨Nat.le_refl _, by show i ≤ 24; omega, fun j a b => absurd b (by show ¬ j < i; omega), fun q => absurd q (by show ¬ i < 24; omega)⟩
  | succ n ih =>
    intro i h
    show i ≤ (if kw i = v then i else kfF v n (i + 1)) ∧ (if kw i = v then i else kfF v n (i + 1)) ≤ 24 ∧ (∀ j, i ≤ j → j < (if kw i = v then i else kfF v n (i + 1)) → kw j ≠ v) ∧ ((if kw i = v then i else kfF v n (i + 1)) < 24 → kw (if kw i = v then i else kfF v n (i + 1)) = v)
    by_cases e : kw i = v
    · rw [if_pos e]; exact ⟨Nat.le_refl _, by omega, fun j a b => by omega, fun _ => e⟩
    · rw [if_neg e]
      obtain ⟨a, b, c, d⟩ := ih (i + 1) (by omega)
      refine ⟨by omega, b, fun j j1 j2 => ?_, d⟩
      by_cases q : j = i
      · rw [q]; exact e
      · exact c j (by omega) j2
theorem kw_lt : ∀ i, i < 24 → kw i < 2 ^ 50 := by decide +kernel
theorem e_keyOf {v : Nat} {S : St} {Q : Int32 → St → Prop} (hK : KW S) (hv : v < 2 ^ 63) (hQ : Q (nI (wkey v)) S) : w_X10_keyOf (lN v) S Q := by
  obtain ⟨_, k2, k3, k4⟩ := kfF_spec v 24 0 rfl
  unfold w_X10_keyOf w_X10_keyOf_2
  refine up1 (B := b_X10_keyOf_2 (lN v) Q) 24 (by omega) (fun j S' => S' = S ∧ j ≤ kfind v) ?_ ?_ 0 (by omega) ⟨rfl, Nat.zero_le _⟩
  · rintro k j S' hj ⟨rfl, hl⟩ hk
    unfold b_X10_keyOf_2
    rw [if_neg (show ¬ (24 : Int32) ≤ nI j from nI_ge (b := 24) hj (by omega)), nI_clamp (by omega), hK j hj]
    refine ⟨vp_in_nI hj (by omega), ?_⟩
    have kl := kw_lt j hj
    by_cases e : kw j = v
    · rw [e, if_pos rfl]
      have ej : kfind v = j := by
        rcases Nat.lt_or_eq_of_le hl with q | q
        · exact absurd e (k3 j (Nat.zero_le _) q)
        · exact q.symm
      have : (128 : Int32) + nI j = nI (wkey v) := by
        unfold wkey; rw [ej, if_pos hj, ← nI_add]; rfl
      rw [this]; exact hQ
    · rw [if_neg (fun q => e ((pk_lEQ (by omega) hv).mp q))]
      intro x hx
      refine hk _ _ hx ⟨rfl, ?_⟩
      rcases Nat.lt_or_eq_of_le hl with q | q
      · exact q
      · exact absurd (by rw [q]; exact k4 (by show kfind v < 24; omega)) e
  · rintro k S' ⟨rfl, hl⟩
    unfold b_X10_keyOf_2
    rw [if_pos (by decide)]
    have : wkey v = 3 := by unfold wkey; rw [if_neg (by omega)]
    rw [this] at hQ; exact hQ
theorem e_signAt9 {t : Nat} {sg : Nat → Nat} {i : Nat} {S : St} {Q : Int32 → St → Prop} (h : SgE t sg S) (hi : i < t) (hQ : Q (nI (sg i)) S) : w_X10_signAt (nI i) S Q := by
  have := h.1
  unfold w_X10_signAt
  rw [if_neg (nI_pos (by omega)), h.2.1, if_neg (nI_ge hi (by omega)), if_neg (show ¬ (1000 : Int32) ≤ nI i from nI_ge (b := 1000) (by omega) (by omega)), nI_clamp (by omega), (h.2.2 i hi).2]
  exact ⟨vp_in_nI (by omega) (by omega), hQ⟩
theorem e_isLetter9 {s : Nat} {S : St} {Q : Int32 → St → Prop} (hs : s < 127) (hQ : Q (if isL s = true then 1 else 0) S) : w_X10_isLetter (nI s) S Q := by
  unfold w_X10_isLetter
  refine nI_ifLt (y := 97) (by omega) (by omega) (fun q => ?_) (fun q => nI_ifLt (x := 122) (by omega) (by omega) (fun q2 => ?_) (fun q2 => ?_))
  · rw [if_neg (by simp [isL]; omega)] at hQ; exact hQ
  · rw [if_neg (by simp [isL]; omega)] at hQ; exact hQ
  · rw [if_pos (by simp [isL]; omega)] at hQ; exact hQ
theorem e_isDigit9 {s : Nat} {S : St} {Q : Int32 → St → Prop} (hs : s < 127) (hQ : Q (if isD s = true then 1 else 0) S) : w_X10_isDigit (nI s) S Q := by
  unfold w_X10_isDigit
  refine nI_ifLt (y := 48) (by omega) (by omega) (fun q => ?_) (fun q => nI_ifLt (x := 57) (by omega) (by omega) (fun q2 => ?_) (fun q2 => ?_))
  · rw [if_neg (by simp [isD]; omega)] at hQ; exact hQ
  · rw [if_neg (by simp [isD]; omega)] at hQ; exact hQ
  · rw [if_pos (by simp [isD]; omega)] at hQ; exact hQ
theorem e_isBlank9 {s : Nat} {S : St} {Q : Int32 → St → Prop} (hs : s < 127) (hQ : Q (if isBl s = true then 1 else 0) S) : w_X10_isBlank (nI s) S Q := by
  unfold w_X10_isBlank
  refine nI_ifEq (y := 10) (by omega) (by omega) (fun q => ?_) (fun q => nI_ifEq (y := 32) (by omega) (by omega) (fun q2 => ?_) (fun q2 => ?_))
  · rw [if_pos (by simp [isBl]; omega)] at hQ; exact hQ
  · rw [if_pos (by simp [isBl]; omega)] at hQ; exact hQ
  · rw [if_neg (by simp [isBl]; omega)] at hQ; exact hQ
theorem e_isSign9 {s : Nat} {S : St} {Q : Int32 → St → Prop} (hs : s < 127) (hQ : Q (if isSg s = true then 1 else 0) S) : w_X10_isSign (nI s) S Q := by
  unfold w_X10_isSign
  have go : ¬ (40 ≤ s ∧ s ≤ 43 ∨ s = 45) → w_X10_isSign_18 (nI s) Q S := by
    intro hn
    unfold w_X10_isSign_18
    refine nI_ifLt (y := 59) (by omega) (by omega) (fun q => ?_) (fun q => nI_ifLt (x := 61) (by omega) (by omega) (fun q2 => ?_) (fun q2 => ?_))
    · rw [if_neg (by simp [isSg]; omega)] at hQ; exact hQ
    · rw [if_neg (by simp [isSg]; omega)] at hQ; exact hQ
    · rw [if_pos (by simp [isSg]; omega)] at hQ; exact hQ
  refine nI_ifLt (y := 40) (by omega) (by omega) (fun q => go (by omega)) (fun q => nI_ifLt (x := 45) (by omega) (by omega) (fun q2 => go (by omega)) (fun q2 => nI_ifEq (y := 44) (by omega) (by omega) (fun q3 => go (by omega)) (fun q3 => ?_)))
  rw [if_pos (by simp [isSg]; omega)] at hQ; exact hQ
theorem e_addToken9 {m : Nat} {s k : Int32} {v : Int64} {S : St} {Q : St → Prop} (hm : m ≤ 1000) (h6 : gI S 1 6 = nI m)
    (hQ : ∀ S', frX [1, 3, 4, 5] S S' → gI S' 1 5 = gI S 1 5 → gI S' 1 6 = nI (m + 1) → (∀ j, gI S' 3 j = if j = m then k else gI S 3 j) → (∀ j, gI S' 4 j = if j = m then s else gI S 4 j) → (∀ j, gJ S' 5 j = if j = m then v else gJ S 5 j) → Q S') : w_X10_addToken s k v S Q := by
  unfold w_X10_addToken
  rw [h6, if_neg (nI_pos (by omega)), if_neg (show ¬ (1001 : Int32) ≤ nI m from nI_ge (b := 1001) (by omega) (by omega))]
  refine ⟨vp_in_nI (by omega) (by omega), fun S1 e1 => ?_⟩
  rw [nI_clamp (by omega)] at e1
  have a1 : gI S1 1 6 = nI m := by rw [e1, gI_sJ]; exact h6
  rw [a1]
  refine e_put (by show m < 1001; omega) (by decide) ?_
  rw [gI_sI, if_neg (by omega), a1]
  refine e_put (by show m < 1001; omega) (by decide) ?_
  rw [gI_sI, if_neg (by omega), gI_sI, if_neg (by omega), a1, nI_1]
  intro S2 e2
  refine hQ S2 ?_ ?_ ?_ (fun j => ?_) (fun j => ?_) (fun j => ?_)
  · rw [e2, e1]; exact frX_sI (frX_sI (frX_sI (frX_sJ (frX_refl _ _) (by simp)) (by simp)) (by simp)) (by simp)
  · rw [e2, gI_sI, if_neg (by omega), gI_sI, if_neg (by omega), gI_sI, if_neg (by omega), e1, gI_sJ]
  · rw [e2, gI_sI, if_pos ⟨rfl, rfl⟩]
  · rw [e2, gI_sI, if_neg (by omega), gI_sI, if_neg (by omega), gI_sI, e1, gI_sJ]; simp
  · rw [e2, gI_sI, if_neg (by omega), gI_sI, gI_sI, if_neg (show ¬ (4 = 3 ∧ j = m) by omega), e1, gI_sJ]; simp
  · rw [e2, gJ_sI, gJ_sI, gJ_sI, e1, gJ_sJ]; simp
