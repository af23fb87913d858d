/-! ===== pure: both hold a token; words and signs told apart by both alike ===== -/
def tob (a b : Nat) : Nat → Nat → Nat
  | 0, _ => 0
  | f + 1, v => if v = 0 then 0 else tob a b f (v / a) * b + v % a
theorem tob_valB {sg : Nat → Nat} {s a b : Nat} (ha : 27 ≤ a) : ∀ n f, n ≤ f → (∀ k, k < n → isL (sg (s + k)) = true) → tob a b f (valB a 96 sg s n) = valB b 96 sg s n := by
  intro n
  induction n with
  | zero =>
    intro f _ _
    cases f with
    | zero => rfl
    | succ f => show (if (0 : Nat) = 0 then 0 else _) = 0; rw [if_pos rfl]
  | succ n ih =>
    intro f hf h
    obtain ⟨f', rfl⟩ : ∃ f', f = f' + 1 := ⟨f - 1, by omega⟩
    have d := of_decide_eq_true (h n (by omega))
    have i1 := ih f' (by omega) (fun k hk => h k (by omega))
    show (if valB a 96 sg s n * a + (sg (s + n) - 96) = 0 then 0 else tob a b f' ((valB a 96 sg s n * a + (sg (s + n) - 96)) / a) * b + (valB a 96 sg s n * a + (sg (s + n) - 96)) % a) = valB b 96 sg s n * b + (sg (s + n) - 96)
    have e1 : (valB a 96 sg s n * a + (sg (s + n) - 96)) / a = valB a 96 sg s n := by
      rw [Nat.add_comm, Nat.add_mul_div_right _ _ (by omega), Nat.div_eq_of_lt (by omega), Nat.zero_add]
    have e2 : (valB a 96 sg s n * a + (sg (s + n) - 96)) % a = sg (s + n) - 96 := by
      rw [Nat.add_comm, Nat.add_mul_mod_self_right, Nat.mod_eq_of_lt (by omega)]
    rw [if_neg (by omega), e1, e2, i1]
def k27 (i : Nat) : Nat := [108748, 409469, 281322597, 40187, 115575085, 291420064, 10261586, 390787, 9741983, 12391871, 3094387, 121898, 464134, 1162585, 223456, 1503, 10631, 1111, 423, 385418, 279875, 247516, 10266284, 774500].getD i 0
theorem k27_tob : ∀ i, i < 24 → tob 32 27 9 (kw i) = k27 i ∧ tob 27 32 9 (k27 i) = kw i := by decide +kernel
theorem k27_lt : ∀ i, i < 24 → k27 i < 2 ^ 50 := by decide +kernel
theorem kw_inj : ∀ i, i < 24 → ∀ j, j < 24 → kw i = kw j → i = j := by decide +kernel
theorem kind1 {sg : Nat → Nat} {t s : Nat} (h : tkind sg t s = 1) : s < t ∧ isL (sg s) = true ∧ tend sg t s = run isL sg t s ∧ tend sg t s - s ≤ 8 := by
  unfold tkind at h
  split at h
  · rename_i a
    split at h
    · rename_i b
      have te : tend sg t s = run isL sg t s := by unfold tend; rw [if_pos a, if_pos b]
      split at h
      · rename_i c; exact ⟨a, b, te, by rw [te]; exact c⟩
      · omega
    · split at h
      · split at h <;> omega
      · split at h <;> omega
  · omega
theorem runF_all (p : Nat → Bool) (sg : Nat → Nat) : ∀ n i k, k < runF p sg n i - i → p (sg (i + k)) = true := by
  intro n
  induction n with
  | zero => intro i k h; exact absurd h (by show ¬ k < i - i; omega)
  | succ n ih =>
    intro i k
    show k < (if p (sg i) = true then runF p sg n (i + 1) else i) - i → _
    split
    · rename_i q
      intro h
      cases k with
      | zero => exact q
      | succ k =>
        have := ih (i + 1) k (by omega)
        rw [show i + (k + 1) = i + 1 + k by omega]; exact this
    · intro h; omega
theorem run_all {p : Nat → Bool} {sg : Nat → Nat} {t i k : Nat} (h : k < run p sg t i - i) : p (sg (i + k)) = true := runF_all p sg _ i k h
theorem v_27_32 {sg : Nat → Nat} {t s : Nat} (h : tkind sg t s = 1) : tob 32 27 9 (v32 sg t s) = v27 sg t s ∧ tob 27 32 9 (v27 sg t s) = v32 sg t s ∧ v27 sg t s < 2 ^ 40 ∧ v32 sg t s < 2 ^ 40 := by
  obtain ⟨h1, h2, h3, h4⟩ := kind1 h
  have all : ∀ k, k < tend sg t s - s → isL (sg (s + k)) = true := fun k hk => run_all (t := t) (by rw [← h3]; exact hk)
  unfold v27 v32
  generalize tend sg t s - s = n at h4 all
  have l32 : valB 32 96 sg s n < 2 ^ 40 := Nat.lt_of_lt_of_le (valB_lt n all) (by
    show 32 ^ n ≤ 2 ^ 40
    exact Nat.pow_le_pow_right (n := 32) (by omega) h4)
  have l27 : ∀ n, (∀ k, k < n → isL (sg (s + k)) = true) → valB 27 96 sg s n ≤ valB 32 96 sg s n := by
    intro n
    induction n with
    | zero => intro _; exact Nat.le_refl _
    | succ n ih =>
      intro q
      have := ih (fun k hk => q k (by omega))
      show valB 27 96 sg s n * 27 + _ ≤ valB 32 96 sg s n * 32 + _
      omega
  exact ⟨tob_valB (by omega) n 9 (by omega) all, tob_valB (by omega) n 9 (by omega) all, Nat.lt_of_le_of_lt (l27 n all) l32, l32⟩
theorem kfind_eq {v i : Nat} (hi : i < 24) : kfind v = i ↔ kw i = v := by
  obtain ⟨_, k2, k3, k4⟩ := kfF_spec v 24 0 rfl
  constructor
  · intro e
    have := k4 (by show kfind v < 24; omega)
    rw [show kfF v 24 0 = i from e] at this; exact this
  · intro e
    have h1 : kfind v ≤ i := by
      apply Nat.le_of_not_lt
      intro q; exact k3 i (Nat.zero_le _) q e
    have h2 := k4 (by show kfind v < 24; omega)
    exact kw_inj _ (by show kfind v < 24; omega) _ hi (h2.trans e.symm)
theorem tkey_word {sg : Nat → Nat} {t s i : Nat} (hi : i < 24) : tkey sg t s = 128 + i ↔ (tkind sg t s = 1 ∧ v27 sg t s = k27 i) := by
  have big : tkind sg t s = 3 → sg s < 128 := by
    intro h
    unfold tkind at h
    split at h
    · split at h
      · split at h <;> omega
      · split at h
        · split at h <;> omega
        · split at h
          · rename_i q; have := of_decide_eq_true q; omega
          · omega
    · omega
  constructor
  · intro h
    unfold tkey at h
    split at h
    · omega
    · split at h
      · rename_i k1
        obtain ⟨a, b, _, _⟩ := v_27_32 k1
        refine ⟨k1, ?_⟩
        unfold wkey at h
        split at h
        · have : kw i = v32 sg t s := (kfind_eq hi).mp (by omega)
          rw [← a, ← this]; exact (k27_tob i hi).1
        · omega
      · split at h
        · omega
        · split at h
          · rename_i q; have := big q; omega
          · omega
  · rintro ⟨k1, e⟩
    obtain ⟨a, b, _, _⟩ := v_27_32 k1
    have : kw i = v32 sg t s := by rw [← b, e]; exact (k27_tob i hi).2.symm
    have := (kfind_eq hi).mpr this
    unfold tkey
    rw [if_neg (by omega), if_pos k1]
    unfold wkey
    rw [this, if_pos hi]
theorem wkey_big (v : Nat) : wkey v = 3 ∨ (128 ≤ wkey v ∧ wkey v < 152) := by
  unfold wkey
  split
  · right; omega
  · left; rfl
theorem kind3 {sg : Nat → Nat} {t s : Nat} (h : tkind sg t s = 3) : s < t ∧ isSg (sg s) = true := by
  unfold tkind at h
  split at h
  · rename_i a
    split at h
    · split at h <;> omega
    · split at h
      · split at h <;> omega
      · split at h
        · rename_i q; exact ⟨a, q⟩
        · omega
  · omega
theorem tkey_sign {sg : Nat → Nat} {t s c : Nat} (hc : isSg c = true) : tkey sg t s = c ↔ (tkind sg t s = 3 ∧ sg s = c) := by
  have c1 : 40 ≤ c ∧ c ≤ 61 := by have := of_decide_eq_true hc; omega
  constructor
  · intro h
    unfold tkey at h
    split at h
    · omega
    · split at h
      · have := wkey_big (v32 sg t s); omega
      · split at h
        · omega
        · split at h
          · rename_i q; exact ⟨q, h⟩
          · omega
  · rintro ⟨k, e⟩
    unfold tkey
    rw [if_neg (by omega), if_neg (by omega), if_neg (by omega), if_pos k]; exact e
theorem tkind_le (sg : Nat → Nat) (t s : Nat) : tkind sg t s ≤ 4 := by
  unfold tkind
  split
  · split
    · split <;> omega
    · split
      · split <;> omega
      · split <;> omega
  · omega
theorem tkey_num {sg : Nat → Nat} {t s : Nat} : tkey sg t s = 2 ↔ tkind sg t s = 2 := by
  have := wkey_big (v32 sg t s)
  constructor
  · intro h
    unfold tkey at h
    split at h
    · omega
    · split at h
      · omega
      · split at h
        · assumption
        · split at h
          · rename_i q; have := of_decide_eq_true (kind3 q).2; omega
          · omega
  · intro k
    unfold tkey
    rw [if_neg (by omega), if_neg (by omega), if_pos k]
theorem tkey_fin {sg : Nat → Nat} {t s : Nat} : tkey sg t s = 0 ↔ tkind sg t s = 0 := by
  have := wkey_big (v32 sg t s)
  constructor
  · intro h
    unfold tkey at h
    split at h
    · assumption
    · split at h
      · omega
      · split at h
        · omega
        · split at h
          · rename_i q; have := of_decide_eq_true (kind3 q).2; omega
          · omega
  · intro k
    unfold tkey
    rw [if_pos k]
theorem tkey_lt (sg : Nat → Nat) (t s : Nat) : tkey sg t s < 152 := by
  have := wkey_big (v32 sg t s)
  unfold tkey
  split
  · omega
  · split
    · omega
    · split
      · omega
      · split
        · rename_i q; have := of_decide_eq_true (kind3 q).2; omega
        · omega
theorem v10_lt {sg : Nat → Nat} {t s : Nat} (h : tkind sg t s = 2) : v10 sg t s < 10000 := by
  have key : isD (sg s) = true ∧ tend sg t s = run isD sg t s ∧ run isD sg t s - s ≤ 4 := by
    unfold tkind at h
    split at h
    · rename_i a
      split at h
      · split at h <;> omega
      · rename_i b
        split at h
        · rename_i c
          split at h
          · rename_i d; exact ⟨c, by unfold tend; rw [if_pos a, if_neg b, if_pos c], d⟩
          · omega
        · split at h <;> omega
    · omega
  obtain ⟨_, k2, k3⟩ := key
  have := valB10_lt (tend sg t s - s) (fun k hk => run_all (t := t) (p := isD) (sg := sg) (i := s) (by rw [← k2]; exact hk))
  refine Nat.lt_of_lt_of_le this ?_
  show 10 ^ (tend sg t s - s) ≤ 10 ^ 4
  exact Nat.pow_le_pow_right (n := 10) (by omega) (by rw [k2]; exact k3)
def nxt (sg : Nat → Nat) (t s : Nat) : Nat := run isBl sg t (tend sg t s)
theorem tend_le2 {sg : Nat → Nat} {t s : Nat} (hs : s ≤ t) : s ≤ tend sg t s ∧ tend sg t s ≤ t := by
  rcases Nat.lt_or_eq_of_le hs with h | h
  · have := tend_le (sg := sg) h; omega
  · unfold tend; rw [if_neg (by omega)]; omega
theorem nxt_le {sg : Nat → Nat} {t s : Nat} (hs : s ≤ t) : nxt sg t s ≤ t := (run_le (tend_le2 hs).2).2
theorem nxt_end (sg : Nat → Nat) (t : Nat) : nxt sg t t = t := by
  unfold nxt tend; rw [if_neg (by omega)]; exact run_end (Nat.le_refl _)
theorem nxt_lt {sg : Nat → Nat} {t s : Nat} (hs : s < t) : s < nxt sg t s := by
  have := tend_le (sg := sg) hs
  have := (run_le (p := isBl) (sg := sg) (tend_le (sg := sg) hs).2).1
  unfold nxt; omega
theorem kind_end {sg : Nat → Nat} {t s : Nat} (hs : s ≤ t) : tkind sg t s = 0 ↔ s = t := by
  constructor
  · intro h
    apply Classical.byContradiction
    intro q
    unfold tkind at h
    rw [if_pos (by omega)] at h
    split at h
    · split at h <;> omega
    · split at h
      · split at h <;> omega
      · split at h <;> omega
  · rintro rfl; unfold tkind; rw [if_neg (by omega)]
/-- the class holds the token at s -/
def CurE (sg : Nat → Nat) (t n s : Nat) (S : St) : Prop := t ≤ 1000 ∧ s ≤ t ∧ CUT sg t n S ∧ (∃ i, i ≤ n ∧ tst sg t i = s ∧ gI S 7 4 = nI i) ∧ gI S 7 5 = nI (tkey sg t s) ∧ (tkind sg t s = 1 → gJ S 7 6 = lN (v32 sg t s)) ∧ (tkind sg t s = 2 → gJ S 7 6 = lN (v10 sg t s))
/-- the reference holds the token at s -/
def CurM (sg : Nat → Nat) (t s : Nat) (S : St) : Prop := SgM t sg S ∧ s ≤ t ∧ TM sg t s S
theorem m_next {sg : Nat → Nat} {t s : Nat} {S : St} {Q : St → Prop} (h : CurM sg t s S) (hQ : ∀ S', FT S S' → CurM sg t (nxt sg t s) S' → Q S') : w_X12_nextToken S Q := by
  obtain ⟨h1, h2, h3⟩ := h
  exact m_nextToken h1 (tend_le2 h2).2 h3.1 (fun S' q1 q2 => hQ S' q1 ⟨SgM_FT h1 q1, nxt_le h2, q2⟩)
theorem CUT_fr {sg : Nat → Nat} {t n : Nat} {l : List Nat} {S S' : St} (hf : frX l S S') (hl : 1 ∉ l ∧ 3 ∉ l ∧ 4 ∉ l ∧ 5 ∉ l) (h : CUT sg t n S) : CUT sg t n S' := by
  obtain ⟨h1, h2, h3, h4, h5⟩ := h
  refine ⟨h1, h2, h3, by rw [frX_g hf 1 6 hl.1]; exact h4, fun j hj => ?_⟩
  obtain ⟨a, b, c, d⟩ := h5 j hj
  exact ⟨by rw [frX_g hf 3 j hl.2.1]; exact a, by rw [frX_g hf 4 j hl.2.2.1]; exact b, fun q => by rw [frX_gJ hf 5 j hl.2.2.2]; exact c q, fun q => by rw [frX_gJ hf 5 j hl.2.2.2]; exact d q⟩
/-- only the token in hand is another -/
def FH (S S' : St) : Prop := frX [7] S S' ∧ ∀ j, j ≠ 4 → j ≠ 5 → gI S' 7 j = gI S 7 j
theorem e_holdAt {sg : Nat → Nat} {t n i : Nat} {S : St} {Q : St → Prop} (ht : t ≤ 1000) (hC : CUT sg t n S) (hi : i ≤ n) (hs : tst sg t i ≤ t) (hQ : ∀ S', FH S S' → CurE sg t n (tst sg t i) S' → Q S') : w_X8_holdToken (nI i) S Q := by
  have hC0 := hC
  obtain ⟨h1, h2, h3, h4, h5⟩ := hC
  obtain ⟨a, b, c, d⟩ := h5 i (by omega)
  unfold w_X8_holdToken
  rw [if_neg (nI_pos (by omega)), h4, if_neg (nI_ge (by omega) (by omega)), if_neg (show ¬ (1001 : Int32) ≤ nI i from nI_ge (b := 1001) (by omega) (by omega))]
  intro S1 e1
  unfold w_X11_cell
  rw [if_neg (nI_pos (by omega)), if_neg (show ¬ nI (lnE 3) ≤ nI i from nI_ge (b := 1001) (by omega) (by omega)), nI_clamp (by omega)]
  refine ⟨vp_in_nI (show i < 1001 by omega) (by decide), ?_⟩
  intro S2 e2
  refine ⟨vp_in_nI (by omega) (by omega), fun S3 e3 => ?_⟩
  have k1 : gI S1 3 i = nI (tkey sg t (tst sg t i)) := by rw [e1, gI_sI, if_neg (by omega)]; exact a
  have hf : frX [7] S S3 := by rw [e3, e2, e1]; exact frX_sJ (frX_sI (frX_sI (frX_refl _ _) (by simp)) (by simp)) (by simp)
  refine hQ S3 ⟨hf, fun j j4 j5 => ?_⟩ ⟨ht, hs, CUT_fr hf (by simp) hC0, ⟨i, hi, rfl, ?_⟩, ?_, fun q => ?_, fun q => ?_⟩
  · rw [e3, gI_sJ, e2, gI_sI, if_neg (fun q => j5 q.2), e1, gI_sI, if_neg (fun q => j4 q.2)]
  · rw [e3, gI_sJ, e2, gI_sI, if_neg (by omega), e1, gI_sI, if_pos ⟨rfl, rfl⟩]
  · rw [e3, gI_sJ, e2, gI_sI, if_pos ⟨rfl, rfl⟩]; exact k1
  · rw [e3, gJ_sJ, if_pos ⟨rfl, rfl⟩, e2, gJ_sI, e1, gJ_sI]; exact c q
  · rw [e3, gJ_sJ, if_pos ⟨rfl, rfl⟩, e2, gJ_sI, e1, gJ_sI]; exact d q
theorem FH_refl (S : St) : FH S S := ⟨frX_refl _ _, fun _ _ _ => rfl⟩
theorem FH_trans {S T U : St} (h : FH S T) (g : FH T U) : FH S U := ⟨frX_trans h.1 g.1, fun j a b => (g.2 j a b).trans (h.2 j a b)⟩
theorem e_next {sg : Nat → Nat} {t n s : Nat} {S : St} {Q : St → Prop} (h : CurE sg t n s S) (hQ : ∀ S', FH S S' → CurE sg t n (nxt sg t s) S' → Q S') : w_X8_holdToken ((gI S 7 4) + (1 : Int32)) S Q := by
  have h0 := h
  obtain ⟨ht, hs, hC, ⟨i, hi, rfl, h4⟩, h5, h6, h7⟩ := h
  rw [h4, nI_1]
  by_cases c : i < n
  · exact e_holdAt ht hC (by omega) (nxt_le hs) hQ
  · have e : i = n := by omega
    subst e
    have hn := hC.1
    unfold w_X8_holdToken
    rw [if_neg (nI_pos (by omega)), hC.2.2.2.1, if_pos (nI_le (Nat.le_refl _) (by omega))]
    have := hC.2.1
    refine hQ S (FH_refl S) ?_
    have e2 : nxt sg t (tst sg t i) = tst sg t i := by rw [this, nxt_end]
    rw [e2]; exact h0
theorem e_wrong {sg : Nat → Nat} {t n s : Nat} {k : Int32} {S : St} {Q : Int32 → St → Prop} (h : CurE sg t n s S) (hQ : Q 0 (sI S 7 8 (k + (16 : Int32) * nI s))) : w_X8_isWrong k S Q := by
  obtain ⟨ht, hs, hC, ⟨i, hi, rfl, h4⟩, h5, h6, h7⟩ := h
  have hn := hC.1
  unfold w_X8_isWrong w_X11_cell
  rw [h4, if_neg (nI_pos (by omega)), if_neg (show ¬ nI (lnE 4) ≤ nI i from nI_ge (b := 1001) (by omega) (by omega)), nI_clamp (by omega), (hC.2.2.2.2 i (by omega)).2.1]
  refine ⟨vp_in_nI (show i < 1001 by omega) (by decide), ?_⟩
  rintro S' rfl
  exact hQ
theorem m_fails9 {sg : Nat → Nat} {t s : Nat} {k : Int32} {S : St} {Q : Int32 → St → Prop} (h : CurM sg t s S) (hQ : Q 0 (sI S 0 9 (k + (16 : Int32) * nI s))) : w_X12_fails k S Q := by
  rintro S' e
  rw [h.2.2.2.1] at e
  subst e; exact hQ
theorem m_isWord9 {sg : Nat → Nat} {t s i : Nat} {w : Int64} {S : St} {Q : Int32 → St → Prop} (h : CurM sg t s S) (hi : i < 24) (hw : w = lN (k27 i)) (hQ : Q (if tkey sg t s = 128 + i then 1 else 0) S) : w_X12_isWord w S Q := by
  obtain ⟨h1, h2, a, b, c, d, e⟩ := h
  have kle := tkind_le sg t s
  unfold w_X12_isWord
  rw [c]
  refine nI_ifEq (y := 1) (by omega) (by omega) (fun k1 => ?_) (fun k1 => ?_)
  · rw [d k1, hw]
    obtain ⟨_, _, l1, l2⟩ := v_27_32 k1
    have l3 := k27_lt i hi
    by_cases q : v27 sg t s = k27 i
    · rw [if_pos ((tkey_word hi).mpr ⟨k1, q⟩)] at hQ
      rw [if_pos (by rw [q])]; exact hQ
    · rw [if_neg (fun z => q ((tkey_word hi).mp z).2)] at hQ
      rw [if_neg (fun z => q ((pk_lEQ (by omega) (by omega)).mp z))]; exact hQ
  · rw [if_neg (fun z => k1 ((tkey_word hi).mp z).1)] at hQ
    exact hQ
theorem m_isSign9 {sg : Nat → Nat} {t s c : Nat} {S : St} {Q : Int32 → St → Prop} (h : CurM sg t s S) (hc : isSg c = true) (hQ : Q (if tkey sg t s = c then 1 else 0) S) : w_X12_isSign (nI c) S Q := by
  obtain ⟨h1, h2, a, b, k, d, e⟩ := h
  have kle := tkind_le sg t s
  have c1 : 40 ≤ c ∧ c ≤ 61 := by have := of_decide_eq_true hc; omega
  have ht := h1.1
  unfold w_X12_isSign
  rw [k]
  refine nI_ifEq (y := 3) (by omega) (by omega) (fun k1 => ?_) (fun k1 => ?_)
  · have hs := (kind3 k1).1
    rw [b, nI_clamp (by omega), (h1.2.2 s hs).2]
    have sm := (h1.2.2 s hs).1
    refine ⟨vp_in_nI (by omega) (by omega), ?_⟩
    refine nI_ifEq (by omega) (by omega) (fun q => ?_) (fun q => ?_)
    · rw [if_pos ((tkey_sign hc).mpr ⟨k1, q⟩)] at hQ; exact hQ
    · rw [if_neg (fun z => q ((tkey_sign hc).mp z).2)] at hQ; exact hQ
  · rw [if_neg (fun z => k1 ((tkey_sign hc).mp z).1)] at hQ
    exact hQ
