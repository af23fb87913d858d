/-! ===== pure: the class's cycles ===== -/
def eg : Nat → Nat → Nat → Nat
  | 0, x, _ => x
  | k + 1, x, y => if y = 0 then x else eg k y (x % y)
theorem eg_z (k x : Nat) : eg k x 0 = x := by cases k <;> simp [eg]
theorem eg_s {k x y : Nat} (h : y ≠ 0) : eg (k + 1) x y = eg k y (x % y) := by simp [eg, h]
theorem eg_gcd : ∀ d x y k, y < 2 ^ d → 2 * d + 1 ≤ k → eg k x y = Nat.gcd x y := by
  intro d
  induction d with
  | zero =>
    intro x y k hy hk
    have : y = 0 := by omega
    subst this
    rw [eg_z, Nat.gcd_zero_right]
  | succ d ih =>
    intro x y k hy hk
    by_cases e : y = 0
    · subst e; rw [eg_z, Nat.gcd_zero_right]
    · obtain ⟨k1, rfl⟩ : ∃ k1, k = k1 + 1 := ⟨k - 1, by omega⟩
      rw [eg_s e]
      have hr : x % y < y := Nat.mod_lt _ (by omega)
      have hg : Nat.gcd x y = Nat.gcd y (x % y) := by rw [Nat.gcd_comm x y, Nat.gcd_rec y x, Nat.gcd_comm]
      rw [hg]
      by_cases q : x % y < 2 ^ d
      · exact ih _ _ _ q (by omega)
      · have hp : 0 < 2 ^ d := Nat.two_pow_pos d
        obtain ⟨k2, rfl⟩ : ∃ k2, k1 = k2 + 1 := ⟨k1 - 1, by omega⟩
        have e2 : x % y ≠ 0 := by omega
        rw [eg_s e2]
        have hg2 : Nat.gcd y (x % y) = Nat.gcd (x % y) (y % (x % y)) := by rw [Nat.gcd_comm y, Nat.gcd_rec (x % y) y, Nat.gcd_comm]
        rw [hg2]
        refine ih _ _ _ ?_ (by omega)
        have h2 : 2 ^ (d + 1) = 2 * 2 ^ d := by rw [Nat.pow_succ, Nat.mul_comm]
        have : y % (x % y) = y - (x % y) := by
          rw [Nat.mod_eq_sub_mod (by omega), Nat.mod_eq_of_lt (by omega)]
        omega
theorem e_leastMultiple {S : St} {Q : Int64 → St → Prop} {a b : Nat} (ha0 : 0 < a) (ha : a < 2 ^ 62) (hb0 : 0 < b) (hb : b < 2 ^ 31) (hQ : Q (lN (Nat.lcm a b)) S) : w_X1_leastMultiple (lN a) (lN b) S Q := by
  have hend : ∀ x, x = Nat.gcd a b → w_X1_leastMultiple_44 (lN a) (lN b) Q (lN x) S := by
    intro x hx
    have g0 : 0 < Nat.gcd a b := Nat.gcd_pos_of_pos_left _ ha0
    have g1 : Nat.gcd a b ≤ a := Nat.gcd_le_left _ ha0
    have hne : ¬ lN x = (0 : Int64) := fun e => by
      have := (pk_lEQ (a := x) (b := 0) (by omega) (by omega)).mp e
      omega
    unfold w_X1_leastMultiple_44
    rw [if_neg hne]
    refine ⟨hne, ?_⟩
    rw [pk_lDiv (by omega) (by omega) (by omega), lN_mul, hx]
    have : a / Nat.gcd a b * b = Nat.lcm a b := by
      rw [Nat.lcm, Nat.div_mul_right_comm]
      exact Nat.gcd_dvd_left _ _
    rw [this]
    exact hQ
  refine loop3 (B := b_X1_leastMultiple_9 (lN a) (lN b) Q) (fun v4 v6 v8 S' => S' = S ∧ ∃ x y k, k ≤ 100 ∧ x < 2 ^ 62 ∧ y < 2 ^ 31 ∧ eg (100 - k) x y = Nat.gcd a b ∧ v4 = lN x ∧ v6 = lN y ∧ v8 = nI k) (fun _ _ v8 _ => 100 - v8.toNatClampNeg) ?_ _ _ _ ⟨rfl, a, b, 0, by omega, ha, hb, eg_gcd 31 _ _ _ hb (by omega), rfl, rfl, rfl⟩
  rintro kk x0 x1 x2 S' ⟨rfl, x, y, k, hk, hx, hy, hg, rfl, rfl, rfl⟩ hkk
  unfold b_X1_leastMultiple_9
  by_cases e : 100 ≤ k
  · rw [if_pos (show (100 : Int32) ≤ nI k from nI_le (a := 100) e (by omega))]
    rw [show 100 - k = 0 by omega] at hg
    exact hend _ hg
  · rw [if_neg (show ¬ (100 : Int32) ≤ nI k from nI_ge (b := 100) (by omega) (by omega))]
    by_cases e2 : y = 0
    · subst e2
      rw [if_pos (show lN 0 = (0 : Int64) from rfl)]
      rw [eg_z] at hg
      exact hend _ hg
    · have hne : ¬ lN y = (0 : Int64) := fun e => by
        have := (pk_lEQ (a := y) (b := 0) (by omega) (by omega)).mp e
        omega
      rw [if_neg hne]
      refine ⟨hne, fun x1 hx1 x2 hx2 => ?_⟩
      rw [pk_lRem (by omega) (by omega) (by omega)] at hx1
      have hx3 : x2 = nI (k + 1) := hx2.trans (nI_1 k)
      subst hx1; subst hx3
      have hm : x % y < y := Nat.mod_lt _ (by omega)
      refine hkk _ _ _ _ ⟨rfl, y, x % y, k + 1, by omega, by omega, by omega, ?_, rfl, rfl, rfl⟩ ?_
      · rw [← hg, show 100 - k = (100 - (k + 1)) + 1 by omega, eg_s e2]
      · show 100 - (nI (k + 1)).toNatClampNeg < 100 - (nI k).toNatClampNeg
        rw [nI_clamp (by omega), nI_clamp (by omega)]
        omega
/-- the cycles' object o and its row of lengths, all else as in S -/
def cycS (S : St) (o : Nat) (n num lon sta : Int32) (per : Int64) (g : Nat → Int32) : St :=
  (fun b j => if b = o ∧ j = 1 then n else if b = o ∧ j = 2 then num else if b = o ∧ j = 3 then lon else if b = o ∧ j = 4 then sta else if b = o + 1 ∧ j < lnE (o + 1) then g j else S.1 b j,
   fun b j => if b = o ∧ j = 5 then per else S.2.1 b j, S.2.2)
theorem gI_cycS (S : St) (o : Nat) (n u l t : Int32) (p : Int64) (g : Nat → Int32) (b j : Nat) : gI (cycS S o n u l t p g) b j = if b = o ∧ j = 1 then n else if b = o ∧ j = 2 then u else if b = o ∧ j = 3 then l else if b = o ∧ j = 4 then t else if b = o + 1 ∧ j < lnE (o + 1) then g j else gI S b j := rfl
theorem gJ_cycS (S : St) (o : Nat) (n u l t : Int32) (p : Int64) (g : Nat → Int32) (b j : Nat) : gJ (cycS S o n u l t p g) b j = if b = o ∧ j = 5 then p else gJ S b j := rfl
theorem cycS_num (S : St) (o : Nat) (n u l t : Int32) (p : Int64) (g : Nat → Int32) (v : Int32) : sI (cycS S o n u l t p g) o 2 v = cycS S o n v l t p g := by
  refine Prod.ext ?_ rfl
  funext b j
  simp only [sI, cycS]
  by_cases h : b = o <;> by_cases e : j = 2 <;> simp [h, e]
theorem cycS_lon (S : St) (o : Nat) (n u l t : Int32) (p : Int64) (g : Nat → Int32) (v : Int32) : sI (cycS S o n u l t p g) o 3 v = cycS S o n u v t p g := by
  refine Prod.ext ?_ rfl
  funext b j
  simp only [sI, cycS]
  by_cases h : b = o <;> by_cases e : j = 3 <;> simp [h, e]
theorem cycS_sta (S : St) (o : Nat) (n u l t : Int32) (p : Int64) (g : Nat → Int32) (v : Int32) : sI (cycS S o n u l t p g) o 4 v = cycS S o n u l v p g := by
  refine Prod.ext ?_ rfl
  funext b j
  simp only [sI, cycS]
  by_cases h : b = o <;> by_cases e : j = 4 <;> simp [h, e]
theorem cycS_per (S : St) (o : Nat) (n u l t : Int32) (p : Int64) (g : Nat → Int32) (v : Int64) : sJ (cycS S o n u l t p g) o 5 v = cycS S o n u l t v g := by
  refine Prod.ext rfl (Prod.ext ?_ rfl)
  funext b j
  simp only [sJ, cycS]
  by_cases h : b = o <;> by_cases e : j = 5 <;> simp [h, e]
theorem cycS_row (S : St) (o : Nat) (n u l t : Int32) (p : Int64) (g : Nat → Int32) (k : Nat) (hk : k < lnE (o + 1)) (v : Int32) : sI (cycS S o n u l t p g) (o + 1) k v = cycS S o n u l t p (fun j => if j = k then v else g j) := by
  refine Prod.ext ?_ rfl
  funext b j
  simp only [sI, cycS]
  by_cases h : b = o + 1
  · have : ¬ o + 1 = o := by omega
    by_cases e : j = k
    · subst e; simp [h, this, hk]
    · simp [h, e, this]
  · simp [h]
theorem cycS_start (S : St) (o : Nat) (n : Int32) : setRow (sJ (sI (sI (sI (sI S o 1 n) o 2 0) o 3 0) o 4 0) o 5 1) (o + 1) (lnE (o + 1)) (fun _ => 0) = cycS S o n 0 0 0 1 (fun _ => 0) := by
  refine Prod.ext ?_ (Prod.ext ?_ rfl)
  · funext b j
    simp only [sI, sJ, setRow, cycS]
    by_cases h : b = o
    · have : ¬ o = o + 1 := by omega
      by_cases e1 : j = 1
      · subst e1; simp [h, this]
      · by_cases e2 : j = 2
        · subst e2; simp [h, this]
        · by_cases e3 : j = 3
          · subst e3; simp [h, this]
          · by_cases e4 : j = 4
            · subst e4; simp [h, this]
            · simp [h, this, e1, e2, e3, e4]
    · simp [h]
  · funext b j
    simp only [sI, sJ, setRow, cycS]
theorem cycS_g1 (S : St) (o : Nat) (n u l t : Int32) (p : Int64) (g : Nat → Int32) : gI (cycS S o n u l t p g) o 1 = n := by rw [gI_cycS, if_pos ⟨rfl, rfl⟩]
theorem cycS_g2 (S : St) (o : Nat) (n u l t : Int32) (p : Int64) (g : Nat → Int32) : gI (cycS S o n u l t p g) o 2 = u := by rw [gI_cycS, if_neg (by omega), if_pos ⟨rfl, rfl⟩]
theorem cycS_g3 (S : St) (o : Nat) (n u l t : Int32) (p : Int64) (g : Nat → Int32) : gI (cycS S o n u l t p g) o 3 = l := by rw [gI_cycS, if_neg (by omega), if_neg (by omega), if_pos ⟨rfl, rfl⟩]
theorem cycS_g4 (S : St) (o : Nat) (n u l t : Int32) (p : Int64) (g : Nat → Int32) : gI (cycS S o n u l t p g) o 4 = t := by rw [gI_cycS, if_neg (by omega), if_neg (by omega), if_neg (by omega), if_pos ⟨rfl, rfl⟩]
theorem cycS_g5 (S : St) (o : Nat) (n u l t : Int32) (p : Int64) (g : Nat → Int32) : gJ (cycS S o n u l t p g) o 5 = p := by rw [gJ_cycS, if_pos ⟨rfl, rfl⟩]
theorem cycS_gr (S : St) (o : Nat) (n u l t : Int32) (p : Int64) (g : Nat → Int32) {j : Nat} (hj : j < lnE (o + 1)) : gI (cycS S o n u l t p g) (o + 1) j = g j := by rw [gI_cycS, if_neg (by omega), if_neg (by omega), if_neg (by omega), if_neg (by omega), if_pos ⟨rfl, hj⟩]
theorem cycS_go (S : St) (o : Nat) (n u l t : Int32) (p : Int64) (g : Nat → Int32) {b j : Nat} (h : b ≠ o) (h1 : b ≠ o + 1) : gI (cycS S o n u l t p g) b j = gI S b j := by rw [gI_cycS, if_neg (by omega), if_neg (by omega), if_neg (by omega), if_neg (by omega), if_neg (by omega)]
theorem e_addPut {o a n q L : Nat} {f : Nat → Nat} {S : St} {Q : St → Prop} {u l t p : Int32} {per : Int64} {g : Nat → Int32} (hao : a ≠ o) (hao1 : a ≠ o + 1) (hla : n ≤ lnE a) (hla2 : lnE a < 2 ^ 31) (hlo : n ≤ lnE (o + 1)) (hlo2 : lnE (o + 1) < 2 ^ 31) (h : Pm n f) (hf : ∀ i, i < n → gI S a i = nI (f i)) (hq : q < n) (hL : L < 2 ^ 31) (hp : p = nI q)
    (hQ : ∀ g1 : Nat → Int32, (∀ j, (∃ i, i < L ∧ it f i q = j) → g1 j = nI L) → (∀ j, ¬ (∃ i, i < L ∧ it f i q = j) → g1 j = g j) →
      (if nI L = (1 : Int32) then w_X1_addCycle_114 o Q (nI L) (1 : Int32) t (cycS S o (nI n) (u + 1) (if l < nI L then nI L else l) t per g1) else w_X1_addCycle_114 o Q (nI L) (0 : Int32) t (cycS S o (nI n) (u + 1) (if l < nI L then nI L else l) t per g1))) :
    w_X1_addCycle_47 o a Q (nI L) p (0 : Int32) (cycS S o (nI n) u l t per g) := by
  subst hp
  refine loop2 (B := b_X1_addCycle_47 o a Q (nI L)) (fun v4 v5 S' => ∃ k g1, k ≤ L ∧ v4 = nI (it f k q) ∧ v5 = nI k ∧ S' = cycS S o (nI n) u l t per g1 ∧ (∀ j, (∃ i, i < k ∧ it f i q = j) → g1 j = nI L) ∧ (∀ j, ¬ (∃ i, i < k ∧ it f i q = j) → g1 j = g j)) (fun _ v5 _ => L - v5.toNatClampNeg) ?_ _ _ ⟨0, g, Nat.zero_le _, rfl, rfl, rfl, fun j ⟨i, hi, _⟩ => absurd hi (Nat.not_lt_zero _), fun _ _ => rfl⟩
  rintro kk x0 x1 S' ⟨k, g1, hk, rfl, rfl, rfl, h1, h2⟩ hkk
  unfold b_X1_addCycle_47
  by_cases e : k = L
  · subst e
    rw [if_pos (nI_le (Nat.le_refl _) hL)]
    rintro S1 hS1 S2 hS2
    rw [cycS_g2, cycS_num] at hS1
    subst hS1
    rw [cycS_g3, cycS_lon] at hS2
    subst hS2
    rw [cycS_g4]
    exact hQ g1 h1 h2
  · rw [if_neg (nI_ge (by omega) hL)]
    have hi := it_lt h hq k
    refine e_put (by omega) hlo2 (e_cell (by omega) hla2 ?_)
    intro x hx
    have hx2 : x = nI (k + 1) := hx.trans (nI_1 k)
    subst hx2
    rw [cycS_row _ _ _ _ _ _ _ _ _ (by omega), cycS_go _ _ _ _ _ _ _ _ hao hao1, hf _ hi]
    refine hkk _ _ _ ⟨k + 1, _, by omega, rfl, rfl, rfl, ?_, ?_⟩ ?_
    · rintro j ⟨i, hi2, hij⟩
      show (if j = it f k q then nI L else g1 j) = nI L
      by_cases ej : j = it f k q
      · rw [if_pos ej]
      · rw [if_neg ej]
        refine h1 j ⟨i, ?_, hij⟩
        have : i ≠ k := fun e => ej (by rw [← hij, e])
        omega
    · intro j hj
      show (if j = it f k q then nI L else g1 j) = g j
      rw [if_neg (fun ej => hj ⟨k, by omega, ej.symm⟩)]
      exact h2 j (fun ⟨i, hi2, hij⟩ => hj ⟨i, by omega, hij⟩)
    · show L - (nI (k + 1)).toNatClampNeg < L - (nI k).toNatClampNeg
      rw [nI_clamp (by omega), nI_clamp (by omega)]
      omega
theorem e_addCycle {o a n q u l t : Nat} {f : Nat → Nat} {S : St} {Q : St → Prop} {per : Nat} {g : Nat → Int32} (hao : a ≠ o) (hao1 : a ≠ o + 1) (hla : n ≤ lnE a) (hla2 : lnE a < 2 ^ 31) (hlo : n ≤ lnE (o + 1)) (hlo2 : lnE (o + 1) < 2 ^ 31) (hn : n < 2 ^ 31) (hl : l < 2 ^ 31) (h : Pm n f) (hf : ∀ i, i < n → gI S a i = nI (f i)) (hq : q < n) (hp0 : 0 < per) (hp : per < 2 ^ 62)
    (hQ : ∀ g1 : Nat → Int32, (∀ j, (∃ i, it f i q = j) → g1 j = nI (cyc n f q)) → (∀ j, ¬ (∃ i, it f i q = j) → g1 j = g j) →
      Q (cycS S o (nI n) (nI (u + 1)) (nI (Nat.max l (cyc n f q))) (nI (t + if cyc n f q = 1 then 1 else 0)) (lN (Nat.lcm per (cyc n f q))) g1)) :
    w_X1_addCycle o a (nI q) (cycS S o (nI n) (nI u) (nI l) (nI t) (lN per) g) Q := by
  obtain ⟨c1, c2, c3, c4⟩ := cyc_spec h hq
  have key : w_X1_addCycle_47 o a Q (nI (cyc n f q)) (nI (it f (cyc n f q) q)) (0 : Int32) (cycS S o (nI n) (nI u) (nI l) (nI t) (lN per) g) := by
    refine e_addPut (q := q) hao hao1 hla hla2 hlo hlo2 h hf hq (by omega) (by rw [c1]) ?_
    intro g1 h1 h2
    have hmx : (if nI l < nI (cyc n f q) then nI (cyc n f q) else nI l) = nI (Nat.max l (cyc n f q)) := by
      by_cases e : l < cyc n f q
      · rw [if_pos (nI_lt e (by omega)), show Nat.max l (cyc n f q) = cyc n f q from Nat.max_eq_right (by omega)]
      · rw [if_neg (nI_nlt (by omega) (by omega)), show Nat.max l (cyc n f q) = l from Nat.max_eq_left (by omega)]
    have hu : nI u + 1 = nI (u + 1) := nI_1 u
    have hany : ∀ j, (∃ i, i < cyc n f q ∧ it f i q = j) ↔ ∃ i, it f i q = j := fun j =>
      ⟨fun ⟨i, _, e⟩ => ⟨i, e⟩, fun ⟨i, e⟩ => ⟨i % cyc n f q, Nat.mod_lt _ (by omega), by rw [it_mod h hq]; exact e⟩⟩
    have hQ1 := hQ g1 (fun j hj => h1 j ((hany j).mpr hj)) (fun j hj => h2 j (fun e => hj ((hany j).mp e)))
    have fin : ∀ z : Nat, z = (if cyc n f q = 1 then 1 else 0) → w_X1_addCycle_114 o Q (nI (cyc n f q)) (nI z) (nI t) (cycS S o (nI n) (nI (u + 1)) (nI (Nat.max l (cyc n f q))) (nI t) (lN per) g1) := by
      intro z hz
      unfold w_X1_addCycle_114
      intro S1 hS1
      rw [nI_add, cycS_sta] at hS1
      subst hS1
      rw [cycS_g5, nI_l (by omega)]
      refine e_leastMultiple hp0 hp (by omega) (by omega) ?_
      intro S2 hS2
      rw [cycS_per, hz] at hS2
      subst hS2
      exact hQ1
    rw [hmx, hu]
    by_cases e : cyc n f q = 1
    · rw [if_pos (show nI (cyc n f q) = (1 : Int32) by rw [e]; rfl)]
      exact fin 1 (by rw [if_pos e])
    · rw [if_neg (show ¬ nI (cyc n f q) = (1 : Int32) from fun e1 => e (nI_inj (b := 1) (by omega) (by omega) e1))]
      exact fin 0 (by rw [if_neg e])
  unfold w_X1_addCycle
  refine e_cell (by omega) hla2 ?_
  rw [cycS_go _ _ _ _ _ _ _ _ hao hao1, hf _ hq]
  refine loop3 (B := b_X1_addCycle_12 o a (nI q) Q) (fun v3 v4 v5 S' => S' = cycS S o (nI n) (nI u) (nI l) (nI t) (lN per) g ∧ ∃ k, 1 ≤ k ∧ k ≤ cyc n f q ∧ v3 = nI k ∧ v4 = nI (it f k q) ∧ v5 = nI k) (fun v3 _ _ _ => n - v3.toNatClampNeg) ?_ _ _ _ ⟨rfl, 1, by omega, c2, rfl, rfl, rfl⟩
  rintro kk x0 x1 x2 S' ⟨rfl, k, k1, k2, rfl, rfl, rfl⟩ hkk
  unfold b_X1_addCycle_12
  rw [cycS_g1]
  have hi := it_lt h hq k
  by_cases e : n ≤ k
  · rw [if_pos (nI_le e (by omega))]
    have : k = cyc n f q := by omega
    rw [this]; exact key
  · rw [if_neg (nI_ge (by omega) hn)]
    by_cases e2 : it f k q = q
    · rw [if_pos (by rw [e2])]
      have : k = cyc n f q := by
        rcases Nat.lt_or_ge k (cyc n f q) with x | x
        · exact absurd e2 (c4 k k1 x)
        · omega
      rw [this]; exact key
    · rw [if_neg (fun e3 => e2 (nI_inj (by omega) (by omega) e3))]
      intro x hx
      refine e_cell (by omega) hla2 ?_
      intro y hy
      rw [cycS_go _ _ _ _ _ _ _ _ hao hao1, hf _ hi]
      have hx2 : x = nI (k + 1) := hx.trans (nI_1 k)
      have hy2 : y = nI (k + 1) := hy.trans (nI_1 k)
      subst hx2; subst hy2
      have : k ≠ cyc n f q := fun e4 => e2 (by rw [e4]; exact c1)
      refine hkk _ _ _ _ ⟨rfl, k + 1, by omega, by omega, rfl, rfl, rfl⟩ ?_
      show n - (nI (k + 1)).toNatClampNeg < n - (nI k).toNatClampNeg
      rw [nI_clamp (by omega), nI_clamp (by omega)]
      omega
theorem e_follow {o a n : Nat} {f : Nat → Nat} {S : St} {Q : St → Prop} (hao : a ≠ o) (hao1 : a ≠ o + 1) (hla : n ≤ lnE a) (hla2 : lnE a < 2 ^ 31) (hlo : n ≤ lnE (o + 1)) (hlo2 : lnE (o + 1) < 2 ^ 31) (h : Pm n f) (hf : ∀ i, i < n → gI S a i = nI (f i)) (hper : ∀ m, m ≤ n → rndU n f m < 2 ^ 62)
    (hQ : Q (cycS S o (nI n) (nI (ncyc n f n)) (nI (mxU (cyc n f) n)) (nI (nfix f n)) (lN (rnd n f)) (fun j => if j < n then nI (cyc n f j) else 0))) :
    w_X1_follow o a (nI n) S Q := by
  unfold w_X1_follow
  intro S1 hS1 S2 hS2 S3 hS3 S4 hS4 S5 hS5
  subst hS1; subst hS2; subst hS3; subst hS4; subst hS5
  refine e_blank hlo2 ?_
  rw [cycS_start]
  refine loop1 (B := b_X1_follow_35 o a Q) (fun v3 S' => ∃ q g, q ≤ n ∧ v3 = nI q ∧ S' = cycS S o (nI n) (nI (ncyc n f q)) (nI (mxU (cyc n f) q)) (nI (nfix f q)) (lN (rndU n f q)) g ∧ (∀ j, j < n → g j = nI (if rep n f j < q then cyc n f j else 0)) ∧ ∀ j, n ≤ j → g j = 0) (fun v3 _ => n - v3.toNatClampNeg) ?_ _ ⟨0, _, Nat.zero_le _, rfl, rfl, fun j _ => rfl, fun _ _ => rfl⟩
  rintro kk x0 S' ⟨q, g, hq, rfl, rfl, h1, h2⟩ hkk
  unfold b_X1_follow_35
  rw [cycS_g1]
  by_cases e : q = n
  · subst e
    rw [if_pos (nI_le (Nat.le_refl _) (by omega))]
    have : g = fun j => if j < q then nI (cyc q f j) else 0 := by
      funext j
      by_cases hj : j < q
      · rw [if_pos hj, h1 j hj, if_pos (rep_lt h hj)]
      · rw [if_neg hj, h2 j (by omega)]
    rw [this]
    exact hQ
  · have hqn : q < n := by omega
    obtain ⟨c1, c2, c3, c4⟩ := cyc_spec h hqn
    rw [if_neg (nI_ge hqn (by omega))]
    refine e_cell (by omega) hlo2 ?_
    rw [cycS_gr _ _ _ _ _ _ _ _ (by omega), h1 q hqn]
    have hrle := (rep_spec h hqn).2.1
    have hmes : n - (nI (q + 1)).toNatClampNeg < n - (nI q).toNatClampNeg := by
      rw [nI_clamp (by omega), nI_clamp (by omega)]
      omega
    have hfx : nfix f (q + 1) = nfix f q + (if f q = q then 1 else 0) := by
      show nfix f q + _ = _
      simp
    have hnc : ncyc n f (q + 1) = ncyc n f q + (if rep n f q = q then 1 else 0) := by
      show ncyc n f q + _ = _
      simp
    by_cases e2 : rep n f q < q
    · rw [if_pos e2, if_neg (nI_ne0 c2 (by omega))]
      intro x hx
      have hx2 : x = nI (q + 1) := hx.trans (nI_1 q)
      subst hx2
      have nf : ¬ f q = q := fun e3 => by have := fix_rep h hqn e3; omega
      rw [← mxU_old h hqn e2, ← rndU_old h hqn e2, show nfix f q = nfix f (q + 1) by rw [hfx, if_neg nf]; rfl, show ncyc n f q = ncyc n f (q + 1) by rw [hnc, if_neg (by omega)]; rfl]
      refine hkk _ _ ⟨q + 1, g, hqn, rfl, rfl, ?_, h2⟩ hmes
      intro j hj
      rw [h1 j hj]
      have : rep n f j ≠ q := fun e3 => by
        have := rep_rep h hj
        rw [e3] at this
        omega
      by_cases e4 : rep n f j < q
      · rw [if_pos e4, if_pos (by omega)]
      · rw [if_neg e4, if_neg (by omega)]
    · have er : rep n f q = q := by omega
      rw [if_neg e2, if_pos (show nI 0 = 0 from nI_0)]
      have hb : mxU (cyc n f) q ≤ n := mxU_le q (fun p hp => (cyc_spec h (show p < n by omega)).2.2.1)
      refine e_addCycle hao hao1 hla hla2 hlo hlo2 (by omega) (by omega) h hf hqn (rndU_pos h q (by omega)) (hper q (by omega)) ?_
      intro g1 k1 k2 x hx
      have hx2 : x = nI (q + 1) := hx.trans (nI_1 q)
      subst hx2
      have hst : nfix f q + (if cyc n f q = 1 then 1 else 0) = nfix f (q + 1) := by
        rw [hfx]
        by_cases e5 : f q = q
        · rw [if_pos e5, if_pos ((cyc_one h hqn).mpr e5)]
        · rw [if_neg e5, if_neg (fun e6 => e5 ((cyc_one h hqn).mp e6))]
      rw [hst, show ncyc n f q + 1 = ncyc n f (q + 1) by rw [hnc, if_pos er]]
      refine hkk _ _ ⟨q + 1, g1, hqn, rfl, rfl, ?_, ?_⟩ hmes
      · intro j hj
        by_cases e5 : ∃ i, it f i q = j
        · have e6 : rep n f j = q := ((rep_eq h hqn hj).mpr e5).symm.trans er
          rw [k1 j e5, if_pos (by omega)]
          obtain ⟨i, rfl⟩ := e5
          rw [cyc_it h hqn]
        · have e6 : rep n f j ≠ q := fun e7 => e5 ((rep_eq h hqn hj).mp (er.trans e7.symm))
          rw [k2 j e5, h1 j hj]
          by_cases e4 : rep n f j < q
          · rw [if_pos e4, if_pos (by omega)]
          · rw [if_neg e4, if_neg (by omega)]
      · intro j hj
        rw [k2 j (fun ⟨i, hi⟩ => by have := it_lt h hqn i; omega)]
        exact h2 j hj
