theorem cyc_dvd_of {n : Nat} {f : Nat → Nat} (h : Pm n f) {p L : Nat} (hp : p < n) (e : it f L p = p) : cyc n f p ∣ L := by
  obtain ⟨c1, c2, c3, c4⟩ := cyc_spec h hp
  have hm : L % cyc n f p < cyc n f p := Nat.mod_lt _ (by omega)
  have e2 := it_mod h hp L
  rw [e] at e2
  by_cases q : L % cyc n f p = 0
  · exact Nat.dvd_of_mod_eq_zero q
  · exact absurd e2 (c4 _ (by omega) hm)
theorem spf_rnd {n : Nat} (hn : 0 < n) : ∀ m, m ≤ n → rndU n (spf n) m ∣ cyc n (spf n) 0
  | 0, _ => Nat.one_dvd _
  | m + 1, hm => Nat.lcm_dvd (spf_rnd hn m (by omega)) (cyc_dvd_of (spf_pm n) (by omega) (spf_back (cyc_spec (spf_pm n) hn).1 hn (by omega)))
theorem spf_rnd_le {n : Nat} (hn : 0 < n) {m : Nat} (hm : m ≤ n) : rndU n (spf n) m ≤ n := by
  obtain ⟨c1, c2, c3, c4⟩ := cyc_spec (spf_pm n) hn
  have := Nat.le_of_dvd (by omega) (spf_rnd hn m hm)
  omega
theorem e_spiralSource {n p : Nat} {S : St} {Q : Int32 → St → Prop} (hn : n ≤ 200) (hp : p < n) (hQ : Q (nI (spf n p)) S) : w_X11_spiralSource (nI n) (nI p) S Q := by
  unfold w_X11_spiralSource
  have hd : nI p / (2 : Int32) = nI (p / 2) := pk_div (d := 2) (by omega) (by omega) (by omega)
  rw [pk_andN (by omega) 1 (by decide), hd]
  unfold spf at hQ
  by_cases e : p % 2 = 0
  · rw [if_pos (by rw [show p % 2 ^ 1 = 0 by omega]; rfl)]
    rw [if_pos e] at hQ
    have h1 : nI n - (1 : Int32) = nI (n - 1) := pk_sub (a := n) (b := 1) (by omega)
    rw [h1, pk_sub (by omega)]
    exact hQ
  · rw [if_neg (by rw [show p % 2 ^ 1 = 1 by omega]; decide)]
    rw [if_neg e] at hQ
    exact hQ
