/-! ===== pure: renamings; sums over all places; tints that no renaming changes ===== -/
/-- F and H are the same but for the names of their lines, by σ -/
def Ren (F H : Fm) (σ : Nat → Nat) : Prop :=
  (∀ p, p < F 0 0 → σ p < F 0 0) ∧ (∀ p q, p < F 0 0 → q < F 0 0 → σ p = σ q → p = q) ∧ (∀ p, p < F 0 0 → F 3 p = H 3 (σ p)) ∧ (∀ p, p < F 0 0 → σ (F 1 p) = H 1 (σ p)) ∧ ∀ p q, p < F 0 0 → q < F 0 0 → (F 2 p).testBit q = (H 2 (σ p)).testBit (σ q)
/-- the first renaming of those that meet R -/
def RnL (F H : Fm) (R : (Nat → Nat) → Prop) (σ : Nat → Nat) : Prop :=
  Ren F H σ ∧ R σ ∧ ∀ τ, Ren F H τ → R τ → ∀ k, k < F 0 0 → agr σ τ k → σ k ≤ τ k
theorem RnL_uniq {F H : Fm} {R : (Nat → Nat) → Prop} {σ τ : Nat → Nat} (h : RnL F H R σ) (h' : RnL F H R τ) : ∀ e, e < F 0 0 → σ e = τ e := by
  have key : ∀ k e, e < k → e < F 0 0 → σ e = τ e := by
    intro k
    induction k with
    | zero => intro e he; omega
    | succ k ih =>
      intro e he hen
      by_cases c : e = k
      · subst c
        have a := h.2.2 τ h'.1 h'.2.1 e hen (fun o ho => (ih o ho (by omega)).symm)
        have b := h'.2.2 σ h.1 h.2.1 e hen (fun o ho => ih o ho (by omega))
        omega
      · exact ih e (by omega) hen
  exact fun e he => key (e + 1) e (Nat.lt_succ_self e) he
theorem Ren_pm {F H : Fm} {σ : Nat → Nat} (h : Ren F H σ) : Pm (F 0 0) σ := ⟨h.1, h.2.1⟩
theorem Ren_it {F H : Fm} {σ : Nat → Nat} (hF : Pm (F 0 0) (F 1)) (h : Ren F H σ) {p : Nat} (hp : p < F 0 0) : ∀ k, σ (it (F 1) k p) = it (H 1) k (σ p)
  | 0 => rfl
  | k + 1 => by
    show σ (F 1 (it (F 1) k p)) = H 1 (it (H 1) k (σ p))
    rw [h.2.2.2.1 _ (it_lt hF hp k), Ren_it hF h hp k]
/-- a sum over the first m places -/
def sumI (g : Nat → Int32) : Nat → Int32
  | 0 => 0
  | m + 1 => sumI g m + g m
theorem sumI_congr {g h : Nat → Int32} : ∀ m, (∀ q, q < m → g q = h q) → sumI g m = sumI h m
  | 0, _ => rfl
  | m + 1, e => by unfold sumI; rw [sumI_congr m (fun q hq => e q (by omega)), e m (by omega)]
theorem sumI_upd {g h : Nat → Int32} {j : Nat} (hs : ∀ q, q ≠ j → h q = g q) : ∀ m, j < m → sumI h m + g j = sumI g m + h j
  | 0, e => absurd e (Nat.not_lt_zero _)
  | m + 1, e => by
    unfold sumI
    by_cases c : j = m
    · subst c
      rw [sumI_congr j (fun q hq => hs q (by omega)), Int32.add_assoc, Int32.add_assoc, Int32.add_comm (h j)]
    · rw [hs m (fun q => c q.symm), Int32.add_assoc, Int32.add_comm (g m), ← Int32.add_assoc, sumI_upd hs m (by omega), Int32.add_assoc, Int32.add_comm (h j), ← Int32.add_assoc]
theorem sumI_perm {g : Nat → Int32} : ∀ (m : Nat) (σ : Nat → Nat), Pm m σ → sumI (fun q => g (σ q)) m = sumI g m
  | 0, _, _ => rfl
  | m + 1, σ, h => by
    obtain ⟨j, hj, hjm⟩ := it_onto h 1 (show m < m + 1 by omega)
    have hjm : σ j = m := hjm
    have hp : Pm m (fun q => if q = j then σ m else σ q) := by
      refine ⟨fun i hi => ?_, fun i k hi hk e => ?_⟩
      · dsimp only
        have hne : ∀ x, x < m + 1 → x ≠ j → σ x < m := fun x hx hxj => by
          have := h.1 x hx
          have : σ x ≠ m := fun q => hxj (h.2 x j hx hj (by rw [q, hjm]))
          omega
        by_cases c : i = j
        · rw [if_pos c]; exact hne m (by omega) (by omega)
        · rw [if_neg c]; exact hne i (by omega) c
      · dsimp only at e
        by_cases c : i = j
        · by_cases d : k = j
          · omega
          · rw [if_pos c, if_neg d] at e
            have := h.2 m k (by omega) (by omega) e
            omega
        · by_cases d : k = j
          · rw [if_neg c, if_pos d] at e
            have := h.2 i m (by omega) (by omega) e
            omega
          · rw [if_neg c, if_neg d] at e
            exact h.2 i k (by omega) (by omega) e
    have ih := sumI_perm m _ hp (g := g)
    unfold sumI
    by_cases c : j = m
    · subst c
      rw [hjm]
      congr 1
      rw [← ih]
      exact sumI_congr j (fun q hq => by rw [if_neg (by omega)])
    · have hu := sumI_upd (g := fun q => g (σ q)) (h := fun q => g (if q = j then σ m else σ q)) (j := j) (fun q hq => by rw [if_neg hq]) m (by omega)
      rw [ih] at hu
      rw [hjm, if_pos rfl] at hu
      exact hu.symm
def sprd (t : Int32) : Int32 := ((t ^^^ (((t).toUInt32 >>> (((15 : Int32)).toUInt32 &&& Int32.toUInt32 31)).toInt32)) * (73471 : Int32)) + (5 : Int32)
/-- a place's tint behind so many mixings -/
def tn (F : Fm) : Nat → Nat → Int32
  | 0, p => nI (cyc (F 0 0) (F 1) p) * (128 : Int32) + nI (F 3 p)
  | k + 1, p => (sprd (tn F k p) * (31 : Int32) + sprd (tn F k (F 1 p)) * (18 : Int32)) + sumI (fun q => if (F 2 p).testBit q then sprd (tn F k q) else 0) (F 0 0)
theorem cyc_ren {F H : Fm} {σ : Nat → Nat} (hF : Pm (F 0 0) (F 1)) (h : Ren F H σ) {p : Nat} (hp : p < F 0 0) : cyc (F 0 0) (F 1) p = cyc (F 0 0) (H 1) (σ p) := by
  refine fnd_congr _ _ (fun j _ _ => ?_)
  show (it (F 1) j p == p) = (it (H 1) j (σ p) == σ p)
  rw [← Ren_it hF h hp j]
  by_cases c : it (F 1) j p = p
  · rw [c, beq_self_eq_true, beq_self_eq_true]
  · rw [beq_false_of_ne c, beq_false_of_ne (fun q => c (h.2.1 _ _ (it_lt hF hp j) hp q))]
theorem tn_ren {F H : Fm} {σ : Nat → Nat} (hF : Pm (F 0 0) (F 1)) (hn : H 0 0 = F 0 0) (h : Ren F H σ) : ∀ k p, p < F 0 0 → tn F k p = tn H k (σ p)
  | 0, p, hp => by
    show _ = nI (cyc (H 0 0) (H 1) (σ p)) * (128 : Int32) + nI (H 3 (σ p))
    rw [hn, ← cyc_ren hF h hp, ← h.2.2.1 p hp]
    rfl
  | k + 1, p, hp => by
    show (sprd (tn F k p) * (31 : Int32) + sprd (tn F k (F 1 p)) * (18 : Int32)) + sumI _ _ = (sprd (tn H k (σ p)) * (31 : Int32) + sprd (tn H k (H 1 (σ p))) * (18 : Int32)) + sumI _ (H 0 0)
    rw [← tn_ren hF hn h k p hp, ← h.2.2.2.1 p hp, ← tn_ren hF hn h k (F 1 p) (hF.1 p hp), hn]
    congr 1
    rw [← sumI_perm (g := fun q => if (H 2 (σ p)).testBit q then sprd (tn H k q) else 0) (F 0 0) σ (Ren_pm h)]
    exact sumI_congr _ (fun q hq => by rw [h.2.2.2.2 p q hp hq, tn_ren hF hn h k q hq])
/-- how many places have a tint -/
theorem tint_cnt {F H : Fm} {σ : Nat → Nat} (hF : Pm (F 0 0) (F 1)) (hn : H 0 0 = F 0 0) (h : Ren F H σ) (k : Nat) (x : Int32) : sumI (fun q => if tn F k q = x then 1 else 0) (F 0 0) = sumI (fun q => if tn H k q = x then 1 else 0) (F 0 0) := by
  rw [← sumI_perm (g := fun q => if tn H k q = x then 1 else 0) (F 0 0) σ (Ren_pm h)]
  exact sumI_congr _ (fun q hq => by rw [tn_ren hF hn h k q hq])
/-- the conditions by which the reference names places below m -/
def PC (F H : Fm) (g : Nat → Nat) (m : Nat) : Prop := ∀ p, p < m → g p < F 0 0 ∧ F 3 p = H 3 (g p) ∧ (F 1 p = p ↔ H 1 (g p) = g p) ∧
  ∀ o, o < p → g o ≠ g p ∧ (F 2 o).testBit p = (H 2 (g o)).testBit (g p) ∧ (F 1 p = o ↔ H 1 (g p) = g o) ∧ (F 1 o = p ↔ H 1 (g o) = g p)
theorem PC_congr {F H : Fm} {g h : Nat → Nat} {m : Nat} (e : ∀ o, o < m → h o = g o) (hp : PC F H g m) : PC F H h m := by
  intro p hpm
  obtain ⟨h1, h2, h3, h4⟩ := hp p hpm
  rw [e p hpm]
  refine ⟨h1, h2, h3, fun o ho => ?_⟩
  rw [e o (by omega)]
  exact h4 o ho
theorem PC_ren {F H : Fm} {g : Nat → Nat} (hF : FW F) (hH : FW H) (hn : H 0 0 = F 0 0) (h : PC F H g (F 0 0)) : Ren F H g := by
  have inj : ∀ p q, p < F 0 0 → q < F 0 0 → g p = g q → p = q := by
    intro p q hp hq e
    rcases Nat.lt_trichotomy p q with c | c | c
    · exact absurd e ((h q hq).2.2.2 p c).1
    · exact c
    · exact absurd e.symm ((h p hp).2.2.2 q c).1
  have sym : ∀ (G : Fm), FW G → ∀ a b, a < G 0 0 → b < G 0 0 → (G 2 a).testBit b = (G 2 b).testBit a := by
    intro G hG a b ha hb
    cases c : (G 2 a).testBit b with
    | true => exact (((hG.2.2.1 a ha).2.2 b c).2.2).symm
    | false =>
      cases d : (G 2 b).testBit a with
      | false => rfl
      | true => rw [((hG.2.2.1 b hb).2.2 a d).2.2] at c; cases c
  have irr : ∀ (G : Fm), FW G → ∀ a, a < G 0 0 → (G 2 a).testBit a = false := by
    intro G hG a ha
    cases c : (G 2 a).testBit a with
    | false => rfl
    | true => exact absurd rfl ((hG.2.2.1 a ha).2.2 a c).2.1
  refine ⟨fun p hp => (h p hp).1, inj, fun p hp => (h p hp).2.1, fun p hp => ?_, fun p q hp hq => ?_⟩
  · have hf := hF.2.1.1 p hp
    rcases Nat.lt_trichotomy (F 1 p) p with c | c | c
    · exact (((h p hp).2.2.2 _ c).2.2.1.mp rfl).symm
    · rw [c]; exact ((h p hp).2.2.1.mp c).symm
    · exact (((h _ hf).2.2.2 p c).2.2.2.mp rfl).symm
  · rcases Nat.lt_trichotomy p q with c | c | c
    · exact ((h q hq).2.2.2 p c).2.1
    · subst c
      rw [irr F hF p hp, irr H hH (g p) (by rw [hn]; exact (h p hp).1)]
    · rw [sym F hF p q hp hq, sym H hH (g p) (g q) (by rw [hn]; exact (h p hp).1) (by rw [hn]; exact (h q hq).1)]
      exact ((h p hp).2.2.2 q c).2.1
theorem Ren_PC {F H : Fm} {σ : Nat → Nat} (hF : Pm (F 0 0) (F 1)) (h : Ren F H σ) {m : Nat} (hm : m ≤ F 0 0) : PC F H σ m := by
  intro p hp
  have hp' : p < F 0 0 := by omega
  have hf : ∀ x y, x < F 0 0 → y < F 0 0 → (F 1 x = y ↔ H 1 (σ x) = σ y) := by
    intro x y hx hy
    rw [← h.2.2.2.1 x hx]
    exact ⟨fun e => by rw [e], fun e => h.2.1 _ _ (hF.1 x hx) hy e⟩
  refine ⟨h.1 p hp', h.2.2.1 p hp', hf p p hp' hp', fun o ho => ⟨fun e => ?_, h.2.2.2.2 o p (by omega) hp', hf p o hp' (by omega), hf o p (by omega) hp'⟩⟩
  have := h.2.1 o p (by omega) hp' e
  omega
