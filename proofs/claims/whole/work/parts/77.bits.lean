/-! ===== pure: bits of small ints; labels of what hangs together ===== -/
theorem sl_n : ∀ n, n < 32 → ((nI n &&& 31).toBitVec.smod 32).toNat = n := by decide +kernel
theorem tb_mod (x b : Nat) : x / 2 ^ b % 2 = if x.testBit b then 1 else 0 := by
  rw [Nat.testBit_eq_decide_div_mod_eq]
  have := Nat.mod_lt (x / 2 ^ b) (show 2 > 0 by omega)
  by_cases e : x / 2 ^ b % 2 = 1
  · simp [e]
  · simp [e]; omega
theorem bN_shr {x b : Nat} (hx : x < 2 ^ 31) (hb : b < 32) : (nI x >>> (nI b &&& 31)) &&& (1 : Int32) = if x.testBit b then 1 else 0 := by
  rw [pk_shrN hx _ b (sl_n b hb)]
  have hd : x / 2 ^ b ≤ x := Nat.div_le_self _ _
  rw [pk_andN (by omega) 1 (by decide), show (2 : Nat) ^ 1 = 2 from rfl, tb_mod]
  split <;> rfl
theorem bN_shr0 {x b : Nat} (hx : x < 2 ^ 31) (hb : b < 32) : ((nI x >>> (nI b &&& 31)) &&& (1 : Int32) = 0) ↔ x.testBit b = false := by
  rw [bN_shr hx hb]
  cases x.testBit b <;> simp
theorem bN_if {x b : Nat} {A B : Prop} (hx : x < 2 ^ 31) (hb : b < 32) (h0 : x.testBit b = false → A) (h1 : x.testBit b = true → B) : if (nI x >>> (nI b &&& 31)) &&& (1 : Int32) = 0 then A else B := by
  by_cases e : x.testBit b = true
  · rw [if_neg (fun q => by rw [(bN_shr0 hx hb).mp q] at e; cases e)]; exact h1 e
  · rw [if_pos ((bN_shr0 hx hb).mpr (by simpa using e))]; exact h0 (by simpa using e)
theorem bN_one {b : Nat} (hb : b < 31) : (1 : Int32) <<< (nI b &&& 31) = nI (2 ^ b) := by
  have h2 : 2 ^ b < 2 ^ 31 := Nat.pow_lt_pow_right (by omega) hb
  have := pk_shlN (n := 1) (nI b &&& 31) b (sl_n b (by omega)) (by omega)
  rw [Nat.one_mul] at this
  exact this
theorem bN_or (a b : Nat) : nI a ||| nI b = nI (a ||| b) := by
  apply Int32.toBitVec_inj.1
  show BitVec.ofNat 32 a ||| BitVec.ofNat 32 b = BitVec.ofNat 32 (a ||| b)
  apply BitVec.eq_of_getLsbD_eq
  intro i hi
  simp [hi]
theorem bN_and (a b : Nat) : nI a &&& nI b = nI (a &&& b) := by
  apply Int32.toBitVec_inj.1
  show BitVec.ofNat 32 a &&& BitVec.ofNat 32 b = BitVec.ofNat 32 (a &&& b)
  apply BitVec.eq_of_getLsbD_eq
  intro i hi
  simp [hi]
theorem tb_big {x n i : Nat} (hx : x < 2 ^ n) (hi : n ≤ i) : x.testBit i = false := Nat.testBit_lt_two_pow (Nat.lt_of_lt_of_le hx (Nat.pow_le_pow_right (by omega) hi))
theorem tb_lt {x n : Nat} (h : ∀ i, n ≤ i → x.testBit i = false) : x < 2 ^ n := Nat.lt_pow_two_of_testBit x (fun i hi => h i hi)
theorem tb_one (b i : Nat) : (2 ^ b).testBit i = decide (b = i) := Nat.testBit_two_pow
theorem tb_set (x b i : Nat) : (x ||| 2 ^ b).testBit i = (x.testBit i || decide (b = i)) := by rw [Nat.testBit_or, tb_one]
theorem or_lt {x y n : Nat} (hx : x < 2 ^ n) (hy : y < 2 ^ n) : x ||| y < 2 ^ n := Nat.or_lt_two_pow hx hy
theorem and_lt {x y n : Nat} (hx : x < 2 ^ n) : x &&& y < 2 ^ n := Nat.lt_of_le_of_lt Nat.and_le_left hx
theorem tb_full (n i : Nat) : (2 ^ n - 1).testBit i = decide (i < n) := Nat.testBit_two_pow_sub_one n i
theorem tb_zero {x n : Nat} (hx : x < 2 ^ n) (h : ∀ i, i < n → x.testBit i = false) : x = 0 := by
  refine Nat.eq_of_testBit_eq (fun i => ?_)
  rw [Nat.zero_testBit]
  by_cases e : i < n
  · exact h i e
  · exact tb_big hx (by omega)
theorem tb_pos {x n : Nat} (hx : x < 2 ^ n) (h : x ≠ 0) : ∃ i, i < n ∧ x.testBit i = true := by
  refine Classical.byContradiction fun q => h (tb_zero hx (fun i hi => ?_))
  cases e : x.testBit i
  · rfl
  · exact absurd ⟨i, hi, e⟩ q
/-! labels: each end's label is the least end that it hangs together with -/
def Lab (R : Nat → Nat → Prop) (n : Nat) (L : Nat → Nat) : Prop :=
  (∀ e, e < n → L e ≤ e ∧ L (L e) = L e) ∧ (∀ a b, R a b → L a = L b) ∧ ∀ G : Nat → Nat, (∀ a b, R a b → G a = G b) → ∀ a, a < n → G (L a) = G a
theorem Lab_init {R : Nat → Nat → Prop} {n : Nat} {L : Nat → Nat} (hL : ∀ e, e < n → L e = e) (hR : ∀ a b, ¬ R a b) : Lab R n L :=
  ⟨fun e he => by rw [hL e he, hL e he]; exact ⟨Nat.le_refl _, rfl⟩, fun a b h => absurd h (hR a b), fun G _ a ha => by rw [hL a ha]⟩
theorem Lab_lt {R : Nat → Nat → Prop} {n : Nat} {L : Nat → Nat} (h : Lab R n L) {e : Nat} (he : e < n) : L e < n := Nat.lt_of_le_of_lt (h.1 e he).1 he
theorem Lab_join {R R2 : Nat → Nat → Prop} {n : Nat} {L L2 : Nat → Nat} {a b : Nat} (h : Lab R n L) (ha : a < n) (hb : b < n) (hR : ∀ x y, R2 x y ↔ R x y ∨ (x = a ∧ y = b)) (hRn : ∀ x y, R x y → x < n ∧ y < n)
    (hL : ∀ e, e < n → L2 e = if L e = Nat.max (L a) (L b) then Nat.min (L a) (L b) else L e) : Lab R2 n L2 := by
  have la := Lab_lt h ha
  have lb := Lab_lt h hb
  have ia := (h.1 a ha).2
  have ib := (h.1 b hb).2
  have hmin : L (Nat.min (L a) (L b)) = Nat.min (L a) (L b) := by
    rcases Nat.le_total (L a) (L b) with q | q
    · rw [show Nat.min (L a) (L b) = L a from Nat.min_eq_left q]; exact ia
    · rw [show Nat.min (L a) (L b) = L b from Nat.min_eq_right q]; exact ib
  have hmm : Nat.min (L a) (L b) ≤ Nat.max (L a) (L b) := Nat.le_trans (Nat.min_le_left _ _) (Nat.le_max_left _ _)
  have hmn : Nat.min (L a) (L b) < n := Nat.lt_of_le_of_lt (Nat.min_le_left _ _) la
  have key : ∀ e, e < n → L2 e ≤ L e ∧ (L e = L a → L2 e = Nat.min (L a) (L b)) ∧ (L e = L b → L2 e = Nat.min (L a) (L b)) := by
    intro e he
    rw [hL e he]
    refine ⟨?_, fun q => ?_, fun q => ?_⟩
    · split
      · omega
      · exact Nat.le_refl _
    · rw [q]
      split
      · rfl
      · rename_i ne
        rcases Nat.le_total (L a) (L b) with q | q
        · exact (Nat.min_eq_left q).symm
        · exact absurd (Nat.max_eq_left q).symm ne
    · rw [q]
      split
      · rfl
      · rename_i ne
        rcases Nat.le_total (L a) (L b) with q | q
        · exact absurd (Nat.max_eq_right q).symm ne
        · exact (Nat.min_eq_right q).symm
  refine ⟨fun e he => ⟨Nat.le_trans (key e he).1 (h.1 e he).1, ?_⟩, fun x y hxy => ?_, fun G hG e he => ?_⟩
  · have h2 := hL e he
    by_cases q : L e = Nat.max (L a) (L b)
    · rw [if_pos q] at h2
      rw [h2, hL _ hmn, hmin]
      split
      · rfl
      · rfl
    · rw [if_neg q] at h2
      rw [h2, hL _ (Lab_lt h he), (h.1 e he).2, if_neg q]
  · rcases (hR x y).mp hxy with q | ⟨rfl, rfl⟩
    · obtain ⟨hx, hy⟩ := hRn x y q
      rw [hL x hx, hL y hy, h.2.1 x y q]
    · rw [(key x ha).2.1 rfl, (key y hb).2.2 rfl]
  · have hG1 : ∀ x y, R x y → G x = G y := fun x y q => hG x y ((hR x y).mpr (Or.inl q))
    have hab : G a = G b := hG a b ((hR a b).mpr (Or.inr ⟨rfl, rfl⟩))
    have g1 := h.2.2 G hG1
    rw [hL e he]
    split
    · rename_i q
      have e1 : G (L a) = G a := g1 a ha
      have e2 : G (L b) = G b := g1 b hb
      have e3 : G (L e) = G e := g1 e he
      rw [q] at e3
      rcases Nat.le_total (L a) (L b) with r | r
      · rw [show Nat.min (L a) (L b) = L a from Nat.min_eq_left r]
        rw [show Nat.max (L a) (L b) = L b from Nat.max_eq_right r] at e3
        rw [e1, hab, ← e2, e3]
      · rw [show Nat.min (L a) (L b) = L b from Nat.min_eq_right r]
        rw [show Nat.max (L a) (L b) = L a from Nat.max_eq_left r] at e3
        rw [e2, ← hab, ← e1, e3]
    · exact g1 e he
/-- two labels of relations that tie the same ends are alike -/
theorem Lab_uniq {R R2 : Nat → Nat → Prop} {n : Nat} {L L2 : Nat → Nat} (h : Lab R n L) (h2 : Lab R2 n L2) (h12 : ∀ x y, R x y → R2 x y ∨ R2 y x) (h21 : ∀ x y, R2 x y → R x y ∨ R y x) : ∀ e, e < n → L e = L2 e := by
  have c1 : ∀ x y, R x y → L2 x = L2 y := fun x y q => (h12 x y q).elim (h2.2.1 x y) (fun r => (h2.2.1 y x r).symm)
  have c2 : ∀ x y, R2 x y → L x = L y := fun x y q => (h21 x y q).elim (h.2.1 x y) (fun r => (h.2.1 y x r).symm)
  intro e he
  have a1 := h.2.2 L2 c1 e he
  have a2 := h2.2.2 L c2 e he
  have l1 := (h2.1 _ (Lab_lt h he)).1
  have l2 := (h.1 _ (Lab_lt h2 he)).1
  omega
theorem Lab_congr {R R2 : Nat → Nat → Prop} {n : Nat} {L : Nat → Nat} (h : Lab R n L) (h12 : ∀ x y, R x y → R2 x y ∨ R2 y x) (h21 : ∀ x y, R2 x y → R x y ∨ R y x) : Lab R2 n L :=
  ⟨h.1, fun a b q => (h21 a b q).elim (h.2.1 a b) (fun r => (h.2.1 b a r).symm), fun G hG => h.2.2 G (fun a b q => (h12 a b q).elim (hG a b) (fun r => (hG b a r).symm))⟩
