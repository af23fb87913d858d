/-! ===== pure: the least place of a cycle; counts; the longest ===== -/
/-- is x in q's cycle -/
def inC (n : Nat) (f : Nat → Nat) (q x : Nat) : Bool := (List.range n).any fun k => it f k q == x
theorem inC_iff {n : Nat} {f : Nat → Nat} (h : Pm n f) {q x : Nat} (hq : q < n) : inC n f q x = true ↔ ∃ k, it f k q = x := by
  unfold inC
  rw [List.any_eq_true]
  constructor
  · rintro ⟨k, -, hk⟩
    exact ⟨k, by simpa using hk⟩
  · rintro ⟨k, hk⟩
    obtain ⟨c1, c2, c3, c4⟩ := cyc_spec h hq
    refine ⟨k % cyc n f q, List.mem_range.mpr (Nat.lt_of_lt_of_le (Nat.mod_lt _ c2) c3), ?_⟩
    rw [it_mod h hq]
    simpa using hk
theorem inC_self {n : Nat} {f : Nat → Nat} (h : Pm n f) {q : Nat} (hq : q < n) : inC n f q q = true := (inC_iff h hq).mpr ⟨0, rfl⟩
theorem inC_it {n : Nat} {f : Nat → Nat} (h : Pm n f) {q : Nat} (hq : q < n) (k : Nat) : inC n f q (it f k q) = true := (inC_iff h hq).mpr ⟨k, rfl⟩
theorem inC_back {n : Nat} {f : Nat → Nat} (h : Pm n f) {q : Nat} (hq : q < n) (k : Nat) : ∃ j, it f j (it f k q) = q := by
  obtain ⟨c1, c2, c3, c4⟩ := cyc_spec h hq
  refine ⟨cyc n f q * k - k, ?_⟩
  rw [← it_add, Nat.sub_add_cancel (Nat.le_mul_of_pos_left k c2)]
  exact it_mul h hq k
theorem inC_congr {n : Nat} {f : Nat → Nat} (h : Pm n f) {q : Nat} (hq : q < n) (k x : Nat) : inC n f (it f k q) x = inC n f q x := by
  have h2 := it_lt h hq k
  rw [Bool.eq_iff_iff, inC_iff h h2, inC_iff h hq]
  constructor
  · rintro ⟨j, rfl⟩
    exact ⟨j + k, it_add f j k q⟩
  · rintro ⟨j, rfl⟩
    obtain ⟨i, hi⟩ := inC_back h hq k
    exact ⟨j + i, by rw [it_add, hi]⟩
/-- the least place of q's cycle -/
def rep (n : Nat) (f : Nat → Nat) (q : Nat) : Nat := fnd (inC n f q) n 0
theorem rep_spec {n : Nat} {f : Nat → Nat} (h : Pm n f) {q : Nat} (hq : q < n) : (∃ k, it f k q = rep n f q) ∧ rep n f q ≤ q ∧ ∀ k, rep n f q ≤ it f k q := by
  obtain ⟨g1, g2, g3, g4⟩ := fnd_spec (inC n f q) n 0 ⟨q, Nat.zero_le _, by omega, inC_self h hq⟩
  have key : ∀ k, rep n f q ≤ it f k q := fun k => by
    rcases Nat.lt_or_ge (it f k q) (rep n f q) with a | a
    · have := g4 _ (Nat.zero_le _) a
      rw [inC_it h hq k] at this
      cases this
    · exact a
  exact ⟨(inC_iff h hq).mp g1, key 0, key⟩
theorem rep_it {n : Nat} {f : Nat → Nat} (h : Pm n f) {q : Nat} (hq : q < n) (k : Nat) : rep n f (it f k q) = rep n f q :=
  fnd_congr n 0 (fun j _ _ => inC_congr h hq k j)
theorem rep_lt {n : Nat} {f : Nat → Nat} (h : Pm n f) {q : Nat} (hq : q < n) : rep n f q < n := Nat.lt_of_le_of_lt (rep_spec h hq).2.1 hq
theorem rep_rep {n : Nat} {f : Nat → Nat} (h : Pm n f) {q : Nat} (hq : q < n) : rep n f (rep n f q) = rep n f q := by
  obtain ⟨⟨k, hk⟩, -, -⟩ := rep_spec h hq
  have := rep_it h hq k
  rw [hk] at this
  exact this
theorem rep_cyc {n : Nat} {f : Nat → Nat} (h : Pm n f) {q : Nat} (hq : q < n) : cyc n f (rep n f q) = cyc n f q := by
  obtain ⟨⟨k, hk⟩, -, -⟩ := rep_spec h hq
  rw [← hk]
  exact cyc_it h hq k
/-- those of one cycle are what comes of its least place -/
theorem rep_eq {n : Nat} {f : Nat → Nat} (h : Pm n f) {p q : Nat} (hp : p < n) (hq : q < n) : rep n f p = rep n f q ↔ ∃ k, it f k p = q := by
  constructor
  · intro e
    obtain ⟨⟨k, hk⟩, -, -⟩ := rep_spec h hp
    obtain ⟨⟨j, hj⟩, -, -⟩ := rep_spec h hq
    obtain ⟨i, hi⟩ := inC_back h hq j
    refine ⟨i + k, ?_⟩
    rw [it_add, hk, e, ← hj, hi]
  · rintro ⟨k, rfl⟩
    exact (rep_it h hp k).symm
/-- how many of the first m -/
def cnt (P : Nat → Bool) : Nat → Nat
  | 0 => 0
  | m + 1 => cnt P m + (if P m then 1 else 0)
theorem cnt_le (P : Nat → Bool) : ∀ m, cnt P m ≤ m
  | 0 => Nat.le_refl _
  | m + 1 => by have := cnt_le P m; unfold cnt; split <;> omega
theorem cnt_congr {P Q : Nat → Bool} : ∀ m, (∀ j, j < m → P j = Q j) → cnt P m = cnt Q m
  | 0, _ => rfl
  | m + 1, h => by unfold cnt; rw [cnt_congr m (fun j hj => h j (by omega)), h m (by omega)]
/-- the longest among the first m -/
def mxU (g : Nat → Nat) : Nat → Nat
  | 0 => 0
  | m + 1 => Nat.max (mxU g m) (g m)
theorem mxU_ge (g : Nat → Nat) : ∀ m p, p < m → g p ≤ mxU g m
  | m + 1, p, hp => by
    unfold mxU
    by_cases e : p = m
    · subst e; exact Nat.le_max_right _ _
    · exact Nat.le_trans (mxU_ge g m p (by omega)) (Nat.le_max_left _ _)
theorem mxU_le {g : Nat → Nat} {b : Nat} : ∀ m, (∀ p, p < m → g p ≤ b) → mxU g m ≤ b
  | 0, _ => Nat.zero_le _
  | m + 1, h => Nat.max_le.mpr ⟨mxU_le m (fun p hp => h p (by omega)), h m (by omega)⟩
/-- a cycle is counted by its least place -/
abbrev ncyc (n : Nat) (f : Nat → Nat) (m : Nat) : Nat := cnt (fun p => rep n f p == p) m
abbrev nfix (f : Nat → Nat) (m : Nat) : Nat := cnt (fun p => f p == p) m
theorem mxU_old {n : Nat} {f : Nat → Nat} (h : Pm n f) {p : Nat} (hp : p < n) (hr : rep n f p < p) : mxU (cyc n f) (p + 1) = mxU (cyc n f) p := by
  have := mxU_ge (cyc n f) p _ hr
  rw [rep_cyc h hp] at this
  exact Nat.max_eq_left this
theorem rndU_old {n : Nat} {f : Nat → Nat} (h : Pm n f) {p : Nat} (hp : p < n) (hr : rep n f p < p) : rndU n f (p + 1) = rndU n f p := by
  have := cyc_dvd_rnd (n := n) (f := f) p _ hr
  rw [rep_cyc h hp] at this
  show Nat.lcm (rndU n f p) (cyc n f p) = rndU n f p
  exact Nat.lcm_eq_left this
theorem cyc_one {n : Nat} {f : Nat → Nat} (h : Pm n f) {p : Nat} (hp : p < n) : cyc n f p = 1 ↔ f p = p := by
  obtain ⟨c1, c2, c3, c4⟩ := cyc_spec h hp
  constructor
  · intro e; rw [e] at c1; exact c1
  · intro e
    rcases Nat.lt_or_ge 1 (cyc n f p) with q | q
    · exact absurd e (c4 1 (Nat.le_refl _) q)
    · omega
theorem fix_rep {n : Nat} {f : Nat → Nat} (h : Pm n f) {p : Nat} (hp : p < n) (e : f p = p) : rep n f p = p := by
  obtain ⟨⟨k, hk⟩, -, -⟩ := rep_spec h hp
  have : ∀ j, it f j p = p := fun j => by
    induction j with
    | zero => rfl
    | succ j ih => show f (it f j p) = p; rw [ih, e]
  rw [← hk, this]
