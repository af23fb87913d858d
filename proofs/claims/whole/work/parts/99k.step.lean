/-! ===== pure: one step of a turning ===== -/
def srcP (k n a b p : Nat) : Nat :=
  if k = 130 then spf n p else if k = 131 then n - 1 - p else if k = 132 then (if p % 2 = 0 then p / 2 else (n + 1) / 2 + p / 2)
  else if k = 133 then (if p < (n + 2) / 3 then 3 * p else if p < (n + 2) / 3 + (n + 1) / 3 then 3 * (p - (n + 2) / 3) + 1 else 3 * (p - ((n + 2) / 3 + (n + 1) / 3)) + 2)
  else if k = 134 then (p + n - b % n) % n else if p = a then b else if p = b then a else p
theorem src_lt3 : ∀ n, n < 13 → ∀ p, p < 12 → p < n → srcP 133 n 0 0 p < n := by decide +kernel
theorem src_in3 : ∀ n, n < 13 → ∀ p, p < 12 → ∀ q, q < 12 → (p < n ∧ q < n ∧ srcP 133 n 0 0 p = srcP 133 n 0 0 q) → p = q := by decide +kernel
theorem src_lt4 : ∀ n, n < 13 → ∀ b, b < 12 → ∀ p, p < 12 → p < n → srcP 134 n 0 b p < n := by decide +kernel
theorem src_in4 : ∀ n, n < 13 → ∀ b, b < 12 → ∀ p, p < 12 → p < n → (srcP 134 n 0 b p + b) % n = p := by decide +kernel
theorem src_pm {k n a b : Nat} (hn : n ≤ 12) (hb : b ≤ 11) (hs : 130 ≤ k ∧ k ≤ 135) (h : k = 135 → a < n ∧ b < n) : Pm n (srcP k n a b) := by
  have : k = 130 ∨ k = 131 ∨ k = 132 ∨ k = 133 ∨ k = 134 ∨ k = 135 := by omega
  rcases this with rfl | rfl | rfl | rfl | rfl | rfl
  · exact spf_pm n
  · exact ⟨fun i hi => by show n - 1 - i < n; omega, fun i j hi hj e => by
      have e : n - 1 - i = n - 1 - j := e
      omega⟩
  · refine ⟨fun i hi => ?_, fun i j hi hj e => ?_⟩
    · show (if i % 2 = 0 then i / 2 else (n + 1) / 2 + i / 2) < n
      split <;> omega
    · have e : (if i % 2 = 0 then i / 2 else (n + 1) / 2 + i / 2) = (if j % 2 = 0 then j / 2 else (n + 1) / 2 + j / 2) := e
      split at e <;> split at e <;> omega
  · exact ⟨fun i hi => src_lt3 n (by omega) i (by omega) hi, fun i j hi hj e => src_in3 n (by omega) i (by omega) j (by omega) ⟨hi, hj, e⟩⟩
  · exact ⟨fun i hi => src_lt4 n (by omega) b (by omega) i (by omega) hi, fun i j hi hj e => by
      have e : srcP 134 n 0 b i = srcP 134 n 0 b j := e
      have z1 := src_in4 n (by omega) b (by omega) i (by omega) hi
      have z2 := src_in4 n (by omega) b (by omega) j (by omega) hj
      rw [e] at z1; exact z1.symm.trans z2⟩
  · obtain ⟨ha, hb'⟩ := h rfl
    refine ⟨fun i hi => ?_, fun i j hi hj e => ?_⟩
    · show (if i = a then b else if i = b then a else i) < n
      split
      · exact hb'
      · split <;> omega
    · have e : (if i = a then b else if i = b then a else i) = (if j = a then b else if j = b then a else j) := e
      split at e <;> split at e <;> (try split at e) <;> (try split at e) <;> omega
def fmI (A N : Int32) : Int32 := if 0 ≤ A ^^^ N then A - A / N * N else if A - A / N * N = 0 then A - A / N * N else A - A / N * N + N
theorem fm_ok : ∀ n, n < 13 → ∀ b, b < 12 → ∀ p, p < 12 → p < n → fmI (nI p - nI b) (nI n) = nI (srcP 134 n 0 b p) := by decide +kernel
theorem e_floorMod {A N : Int32} {S : St} {Q : Int32 → St → Prop} (hN : ¬ N = 0) (hQ : Q (fmI A N) S) : w_J9_floorMod_7cf53 A N S Q := by
  refine ⟨hN, ?_⟩
  rintro x rfl
  unfold fmI at hQ
  by_cases c : 0 ≤ A ^^^ N
  · rw [if_pos c] at hQ ⊢; exact hQ
  · rw [if_neg c] at hQ ⊢
    by_cases d : A - A / N * N = 0
    · rw [if_pos d] at hQ ⊢; exact hQ
    · rw [if_neg d] at hQ ⊢; exact hQ
theorem e_sourceOf {k n a b p : Nat} {A B : Int32} {S : St} {Q : Int32 → St → Prop} (hn : n ≤ 12) (hp : p < n) (hk : 130 ≤ k ∧ k ≤ 135) (hb : b ≤ 11) (h0 : gI S 11 0 = nI n) (hA : k = 135 → A = nI a ∧ a < n) (hB : 134 ≤ k → B = nI b) (hQ : Q (nI (srcP k n a b p)) S) : w_X4_sourceOf 11 (nI k) (nI p) A B S Q := by
  unfold w_X4_sourceOf
  have nk : ∀ c, c < 2 ^ 31 → k ≠ c → ¬ nI k = nI c := fun c hc q z => q (nI_inj (by omega) hc z)
  have : k = 130 ∨ k = 131 ∨ k = 132 ∨ k = 133 ∨ k = 134 ∨ k = 135 := by omega
  rw [h0]
  rcases this with rfl | rfl | rfl | rfl | rfl | rfl
  · rw [if_pos (by rfl)]
    exact e_spiralSource (by omega) hp hQ
  · rw [if_neg (by decide), if_pos (by rfl), show (1 : Int32) = nI 1 from rfl, pk_sub (by omega), pk_sub (by omega)]
    exact hQ
  · rw [if_neg (by decide), if_neg (by decide), if_pos (by rfl), pk_andN (by omega) 1 (by decide), show (2 : Int32) = nI 2 from rfl, show (1 : Int32) = nI 1 from rfl, pk_div (by omega) (by omega) (by omega), nI_add, pk_div (by omega) (by omega) (by omega), nI_add]
    have hQ : Q (nI (if p % 2 = 0 then p / 2 else (n + 1) / 2 + p / 2)) S := hQ
    refine nI_ifEq (x := p % 2 ^ 1) (y := 0) (by omega) (by omega) (fun q => ?_) (fun q => ?_)
    · rw [if_pos (by omega)] at hQ; exact hQ
    · rw [if_neg (by omega)] at hQ; exact hQ
  · rw [if_neg (by decide), if_neg (by decide), if_neg (by decide), if_pos (by rfl)]
    unfold w_X4_thirdsSource
    rw [h0]
    intro x8 e8 x19 e19
    rw [show (2 : Int32) = nI 2 from rfl, show (3 : Int32) = nI 3 from rfl, nI_add, pk_div (by omega) (by omega) (by omega)] at e8
    rw [show (1 : Int32) = nI 1 from rfl, show (3 : Int32) = nI 3 from rfl, nI_add, pk_div (by omega) (by omega) (by omega), e8, nI_add] at e19
    rw [e8, e19]
    have hQ : Q (nI (if p < (n + 2) / 3 then 3 * p else if p < (n + 2) / 3 + (n + 1) / 3 then 3 * (p - (n + 2) / 3) + 1 else 3 * (p - ((n + 2) / 3 + (n + 1) / 3)) + 2)) S := hQ
    refine nI_if (by omega) (by omega) (fun q => nI_if (by omega) (by omega) (fun q2 => ?_) (fun q2 => ?_)) (fun q => ?_)
    · rw [if_neg (by omega), if_neg (by omega)] at hQ
      rw [pk_sub q2, show (3 : Int32) = nI 3 from rfl, show (2 : Int32) = nI 2 from rfl, pk_mul, nI_add]; exact hQ
    · rw [if_neg (by omega), if_pos q2] at hQ
      rw [pk_sub q, show (3 : Int32) = nI 3 from rfl, show (1 : Int32) = nI 1 from rfl, pk_mul, nI_add]; exact hQ
    · rw [if_pos q] at hQ
      rw [show (3 : Int32) = nI 3 from rfl, pk_mul]; exact hQ
  · rw [if_neg (by decide), if_neg (by decide), if_neg (by decide), if_neg (by decide), if_pos (by rfl), if_pos (show (1 : Int32) ≤ nI n from nI_le (a := 1) (by omega) (by omega)), hB (by omega)]
    refine e_floorMod (nI_ne0 (by omega) (by omega)) ?_
    rw [fm_ok n (by omega) b (by omega) p (by omega) hp]
    exact hQ
  · obtain ⟨hA1, hA2⟩ := hA rfl
    rw [if_neg (by decide), if_neg (by decide), if_neg (by decide), if_neg (by decide), if_neg (by decide), hA1, hB (by omega)]
    have hQ : Q (nI (if p = a then b else if p = b then a else p)) S := hQ
    refine nI_ifEq (by omega) (by omega) (fun q => ?_) (fun q => nI_ifEq (by omega) (by omega) (fun q2 => ?_) (fun q2 => ?_))
    · rw [if_pos q] at hQ; exact hQ
    · rw [if_neg q, if_pos q2] at hQ; exact hQ
    · rw [if_neg q, if_neg q2] at hQ; exact hQ
theorem e_addStep {k n a b st : Nat} {A B : Int32} {f : Nat → Nat} {S : St} {Q : St → Prop} (hn : n ≤ 12) (hk : 130 ≤ k ∧ k ≤ 135) (hb : b ≤ 11) (hs : Pm n (srcP k n a b)) (h0 : gI S 11 0 = nI n) (h1 : gI S 11 1 = nI st) (hf : ∀ p, p < n → gI S 12 p = nI (f p)) (hA : k = 135 → A = nI a ∧ a < n) (hB : 134 ≤ k → B = nI b)
    (hQ : ∀ S', frX [11, 12, 19] S S' → (∀ j, j ≠ 1 → gI S' 11 j = gI S 11 j) → gI S' 11 1 = nI (st + 1) → (∀ p, p < n → gI S' 12 p = nI (f (srcP k n a b p))) → Q S') : w_X4_addStep 11 (nI k) A B S Q := by
  unfold w_X4_addStep w_X4_addStep_3
  refine up1 (B := b_X4_addStep_3 11 (nI k) A B Q) n (by omega) (fun j S' => frX [19] S S' ∧ ∀ p, p < j → gI S' 19 p = nI (f (srcP k n a b p))) ?_ ?_ 0 (by omega) ⟨frX_refl _ _, fun p hp => absurd hp (Nat.not_lt_zero _)⟩
  · rintro kk j S' hj ⟨c1, c2⟩ hkk
    unfold b_X4_addStep_3
    have g0 : gI S' 11 0 = nI n := by rw [frX_g c1 11 0 (by simp)]; exact h0
    rw [g0, if_neg (nI_ge hj (by omega))]
    refine e_sourceOf hn hj hk hb g0 hA hB ?_
    have hl := hs.1 j hj
    refine e_cell (p := 12) (by show _ < 12; omega) (by decide) ?_
    rw [frX_g c1 12 _ (by simp), hf _ hl]
    refine e_put (p := 19) (by show j < 12; omega) (by decide) ?_
    intro x hx
    refine hkk _ _ hx ⟨frX_sI c1 (by simp), fun p hp => ?_⟩
    rw [gI_sI]
    by_cases e : p = j
    · rw [if_pos ⟨rfl, e⟩, e]
    · rw [if_neg (fun q => e q.2)]; exact c2 p (by omega)
  · rintro kk S' ⟨c1, c2⟩
    unfold b_X4_addStep_3
    have g0 : gI S' 11 0 = nI n := by rw [frX_g c1 11 0 (by simp)]; exact h0
    rw [g0, if_pos (nI_le (Nat.le_refl _) (by omega))]
    refine e_copyRow (a := 19) (b := 12) (by omega) (by decide) (by decide) ?_
    have mn : Nat.min (lnE 19) (lnE 12) = 12 := by decide
    rw [mn]
    intro S2 e2
    rw [gI_setRow, if_neg (by omega), frX_g c1 11 1 (by simp), h1, nI_1] at e2
    refine hQ S2 ?_ (fun j hj => ?_) ?_ (fun p hp => ?_)
    · rw [e2]; exact frX_sI (frX_row (frX_sub c1 (by simp)) (by simp)) (by simp)
    · rw [e2, gI_sI, if_neg (fun q => hj q.2), gI_setRow, if_neg (by omega)]; exact frX_g c1 11 j (by simp)
    · rw [e2, gI_sI, if_pos ⟨rfl, rfl⟩]
    · rw [e2, gI_sI, if_neg (by omega), gI_setRow, if_pos ⟨rfl, by omega⟩]; exact c2 p hp
