/-! ===== pure: the class walks a cycle ===== -/
theorem lN_1' (n : Nat) : lN n + (1 : Int64) = lN (n + 1) := lN_1 n
theorem e_walk {b n p s c : Nat} {g : Nat → Nat} {S : St} {Q : Int32 → St → Prop} (hb : n ≤ lnE b) (hb2 : lnE b < 2 ^ 31) (hn : n ≤ 12) (hg : ∀ i, i < n → g i < n) (hr : ∀ i, i < n → gI S b i = nI (g i)) (hp : p < n) (h36 : lnE 36 = 12) (hc0 : 0 < c) (hc1 : c ≤ 12) (hc : gI S 36 p = nI c) (hs : s < 2 ^ 62) (hQ : Q (nI (it g (s % c) p)) S) : w_X9_walk b (lN s) (nI p) S Q := by
  unfold w_X9_walk
  refine e_cell (by omega) (by omega) ?_
  rw [hc, if_pos (show (1 : Int32) ≤ nI c from nI_le (a := 1) hc0 (by omega)), nI_l (by omega)]
  refine ⟨fun e => ?_, ?_⟩
  · have := (pk_lEQ (a := c) (b := 0) (by omega) (by omega)).mp e
    omega
  rw [pk_lRem (by omega) hc0 (by omega)]
  have hm : s % c < c := Nat.mod_lt _ hc0
  have hlt : ∀ k, it g k p < n := fun k => by
    induction k with
    | zero => exact hp
    | succ k ih => exact hg _ ih
  refine loop2 (B := b_X9_walk_38 b Q (lN (s % c))) (fun v8 v9 S' => S' = S ∧ ∃ k, k ≤ s % c ∧ v8 = nI (it g k p) ∧ v9 = lN k) (fun _ v9 _ => s % c - v9.toInt.toNat) ?_ _ _ ⟨rfl, 0, Nat.zero_le _, rfl, rfl⟩
  rintro kk x0 x1 S' ⟨rfl, k, hk, rfl, rfl⟩ hkk
  unfold b_X9_walk_38
  by_cases e : k < s % c
  · rw [if_pos ((pk_lLT (by omega) (by omega)).mpr e)]
    have := hlt k
    refine e_cell (by omega) hb2 ?_
    intro x hx
    rw [lN_1'] at hx
    subst hx
    rw [hr _ (hlt k)]
    refine hkk _ _ _ ⟨rfl, k + 1, e, rfl, rfl⟩ ?_
    show s % c - (lN (k + 1)).toInt.toNat < s % c - (lN k).toInt.toNat
    rw [pk_lT (by omega), pk_lT (by omega)]
    omega
  · rw [if_neg (fun e2 => e ((pk_lLT (by omega) (by omega)).mp e2))]
    rw [show s % c = k by omega] at hQ
    exact hQ
theorem it_back {n : Nat} {f g : Nat → Nat} (h : Pm n f) (hg : ∀ i, i < n → g (f i) = i) {q : Nat} (hq : q < n) : ∀ k, it g k (it f k q) = q
  | 0 => rfl
  | k + 1 => by
    rw [it_succ g k]
    show it g k (g (f (it f k q))) = q
    rw [hg _ (it_lt h hq k)]
    exact it_back h hg hq k
theorem inv_lt {n : Nat} {f g : Nat → Nat} (h : Pm n f) (hg : ∀ i, i < n → g (f i) = i) {p : Nat} (hp : p < n) : g p < n := by
  obtain ⟨q, hq, e⟩ := it_onto h 1 hp
  have e2 : f q = p := e
  rw [← e2, hg q hq]; exact hq
/-- the class's turning: n, f -/
def ET (n : Nat) (f g : Nat → Nat) (S : St) : Prop :=
  n ≤ 12 ∧ Pm n f ∧ (∀ i, i < n → g (f i) = i) ∧ gI S 21 0 = nI n ∧ gI S 34 7 = nI n ∧ (∀ i, i < n → gI S 22 i = nI (f i)) ∧ (∀ i, i < n → gI S 37 i = nI (f i)) ∧ (∀ i, i < n → gI S 38 i = nI (g i)) ∧ (∀ i, i < n → gI S 36 i = nI (cyc n f i)) ∧ gI S 35 1 = nI n ∧ gI S 35 2 = nI (ncyc n f n) ∧ gI S 35 3 = nI (mxU (cyc n f) n) ∧ gI S 35 4 = nI (nfix f n) ∧ gJ S 35 5 = lN (rnd n f)
theorem e_endAt {n p s : Nat} {f g : Nat → Nat} {S : St} {Q : Int32 → St → Prop} (H : ET n f g S) (hp : p < n) (hs : s < 2 ^ 62) (hQ : Q (nI (it f s p)) S) : w_X9_endAt (lN s) (nI p) S Q := by
  obtain ⟨hn, h, hg, -, -, -, r37, -, r36, -⟩ := H
  obtain ⟨c1, c2, c3, c4⟩ := cyc_spec h hp
  refine e_walk (by show n ≤ 12; exact hn) (by decide) hn h.1 r37 hp rfl c2 (by omega) (r36 p hp) hs ?_
  rw [it_mod h hp]
  exact hQ
theorem e_placeOf {n p s e : Nat} {f g : Nat → Nat} {S : St} {Q : Int32 → St → Prop} (H : ET n f g S) (hp : p < n) (hs : s < 2 ^ 62) (he : it f s p = e) (hQ : Q (nI p) S) : w_X9_placeOf (lN s) (nI e) S Q := by
  obtain ⟨hn, h, hg, -, -, -, -, r38, r36, -⟩ := H
  have hen : e < n := by rw [← he]; exact it_lt h hp s
  obtain ⟨c1, c2, c3, c4⟩ := cyc_spec h hen
  refine e_walk (by show n ≤ 12; exact hn) (by decide) hn (fun i hi => inv_lt h hg hi) r38 hen rfl c2 (by omega) (r36 e hen) hs ?_
  have hcc : cyc n f e = cyc n f p := by rw [← he]; exact cyc_it h hp s
  have : it f (s % cyc n f e) p = e := by rw [hcc, it_mod h hp, he]
  rw [show it g (s % cyc n f e) e = p by
    have hb := it_back h hg hp (s % cyc n f e)
    rw [this] at hb
    exact hb]
  exact hQ
