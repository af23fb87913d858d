/-! ===== pure: a line of rhyme keeps what is well-formed ===== -/
def addR (P : PS) (a b : Nat) : PS := (fun i j => if i = 0 ∧ j = 2 then P.F 0 2 + 1 else if i = 2 ∧ j = a then P.F 2 a ||| 2 ^ b else if i = 2 ∧ j = b then P.F 2 b ||| 2 ^ a else P.F i j, fun k => if k = P.F 0 2 then a else P.pa k, fun k => if k = P.F 0 2 then b else P.pb k, P.nm)
theorem addR_0 (P : PS) (a b : Nat) {j : Nat} (h : j ≠ 2) : (addR P a b).F 0 j = P.F 0 j := by
  show (if 0 = 0 ∧ j = 2 then P.F 0 2 + 1 else if 0 = 2 ∧ j = a then P.F 2 a ||| 2 ^ b else if 0 = 2 ∧ j = b then P.F 2 b ||| 2 ^ a else P.F 0 j) = _
  rw [if_neg (fun q => h q.2), if_neg (by omega), if_neg (by omega)]
theorem addR_02 (P : PS) (a b : Nat) : (addR P a b).F 0 2 = P.F 0 2 + 1 := by
  show (if 0 = 0 ∧ 2 = 2 then P.F 0 2 + 1 else if 0 = 2 ∧ 2 = a then P.F 2 a ||| 2 ^ b else if 0 = 2 ∧ 2 = b then P.F 2 b ||| 2 ^ a else P.F 0 2) = _
  rw [if_pos ⟨rfl, rfl⟩]
theorem addR_2 (P : PS) (a b j : Nat) : (addR P a b).F 2 j = if j = a then P.F 2 a ||| 2 ^ b else if j = b then P.F 2 b ||| 2 ^ a else P.F 2 j := by
  show (if 2 = 0 ∧ j = 2 then P.F 0 2 + 1 else if 2 = 2 ∧ j = a then P.F 2 a ||| 2 ^ b else if 2 = 2 ∧ j = b then P.F 2 b ||| 2 ^ a else P.F 2 j) = _
  rw [if_neg (by omega)]
  by_cases e : j = a
  · rw [if_pos ⟨rfl, e⟩, if_pos e]
  · rw [if_neg (fun q => e q.2), if_neg e]
    by_cases d : j = b
    · rw [if_pos ⟨rfl, d⟩, if_pos d]
    · rw [if_neg (fun q => d q.2), if_neg d]
theorem addR_k (P : PS) (a b : Nat) {k : Nat} (h : 1 ≤ k) (h2 : k ≠ 2) : (addR P a b).F k = P.F k := by
  funext j
  show (if k = 0 ∧ j = 2 then P.F 0 2 + 1 else if k = 2 ∧ j = a then P.F 2 a ||| 2 ^ b else if k = 2 ∧ j = b then P.F 2 b ||| 2 ^ a else P.F k j) = _
  rw [if_neg (by omega), if_neg (by omega), if_neg (by omega)]
theorem tb9 (x b j : Nat) : (x ||| 2 ^ b).testBit j = true ↔ x.testBit j = true ∨ b = j := by
  rw [Nat.testBit_or, Nat.testBit_two_pow, Bool.or_eq_true, decide_eq_true_iff]
theorem addR_tb {P : PS} {a b c j : Nat} (hab : a ≠ b) : ((addR P a b).F 2 c).testBit j = true ↔ (P.F 2 c).testBit j = true ∨ (c = a ∧ j = b) ∨ (c = b ∧ j = a) := by
  rw [addR_2]
  by_cases e : c = a
  · subst e
    rw [if_pos rfl, tb9]
    exact ⟨fun q => q.elim Or.inl (fun z => Or.inr (Or.inl ⟨rfl, z.symm⟩)), fun q => q.elim Or.inl (fun z => z.elim (fun y => Or.inr y.2.symm) (fun y => absurd y.1 hab))⟩
  · rw [if_neg e]
    by_cases d : c = b
    · subst d
      rw [if_pos rfl, tb9]
      exact ⟨fun q => q.elim Or.inl (fun z => Or.inr (Or.inr ⟨rfl, z.symm⟩)), fun q => q.elim Or.inl (fun z => z.elim (fun y => absurd y.1 e) (fun y => Or.inr y.2.symm))⟩
    · rw [if_neg d]
      exact ⟨Or.inl, fun q => q.elim id (fun z => z.elim (fun y => absurd y.1 e) (fun y => absurd y.1 d))⟩
theorem addR_W {P : PS} {a b : Nat} (hW : PSW P) (h8 : P.F 0 2 < 8) (ha : a < P.F 0 0) (hb : b < P.F 0 0) (hab : a ≠ b) : PSW (addR P a b) := by
  obtain ⟨⟨a1, a2, a3, a4, a5, a6, a7, a8⟩, bb, c, d, e1, e2⟩ := hW
  have z0 := addR_0 P a b (j := 0) (by omega)
  have z1 := addR_0 P a b (j := 1) (by omega)
  have z3 := addR_0 P a b (j := 3) (by omega)
  have z4 := addR_0 P a b (j := 4) (by omega)
  have z5 := addR_0 P a b (j := 5) (by omega)
  have z6 := addR_0 P a b (j := 6) (by omega)
  have y2 := addR_02 P a b
  have k1 := addR_k P a b (k := 1) (by omega) (by omega)
  have k3 := addR_k P a b (k := 3) (by omega) (by omega)
  have k4 := addR_k P a b (k := 4) (by omega) (by omega)
  have k5 := addR_k P a b (k := 5) (by omega) (by omega)
  have k6 := addR_k P a b (k := 6) (by omega) (by omega)
  have pv : ∀ k, (addR P a b).pa k = if k = P.F 0 2 then a else P.pa k := fun _ => rfl
  have qv : ∀ k, (addR P a b).pb k = if k = P.F 0 2 then b else P.pb k := fun _ => rfl
  have pw : PW (addR P a b).F (addR P a b).pa (addR P a b).pb := by
    unfold PW
    rw [z0, y2]
    refine ⟨fun k hk => ?_, fun u v hu hv => ?_⟩
    · rw [pv, qv]
      by_cases e : k = P.F 0 2
      · rw [if_pos e, if_pos e]; exact ⟨ha, hb, hab⟩
      · rw [if_neg e, if_neg e]; exact e1 k (by omega)
    · rw [addR_tb hab, e2 u v hu hv]
      constructor
      · rintro (⟨k, hk, h⟩ | h)
        · refine ⟨k, by omega, ?_⟩
          rw [pv, qv, if_neg (by omega), if_neg (by omega)]; exact h
        · refine ⟨P.F 0 2, by omega, ?_⟩
          rw [pv, qv, if_pos rfl, if_pos rfl]
          rcases h with ⟨x, y⟩ | ⟨x, y⟩
          · exact Or.inl ⟨x.symm, y.symm⟩
          · exact Or.inr ⟨y.symm, x.symm⟩
      · rintro ⟨k, hk, h⟩
        rw [pv, qv] at h
        by_cases e : k = P.F 0 2
        · rw [if_pos e, if_pos e] at h
          right
          rcases h with ⟨x, y⟩ | ⟨x, y⟩
          · exact Or.inl ⟨x.symm, y.symm⟩
          · exact Or.inr ⟨y.symm, x.symm⟩
        · rw [if_neg e, if_neg e] at h
          exact Or.inl ⟨k, by omega, h⟩
  unfold PSW
  rw [z0, z1, z3, z4, z5, z6, y2, k1, k3, k4, k5, k6]
  refine ⟨⟨a1, a2, a3, by omega, a5, a6, a7, a8⟩, bb, fun u hu => ⟨?_, (c u hu).2.1, fun v hv => ?_⟩, d, pw⟩
  · rw [addR_2]
    split
    · exact Nat.or_lt_two_pow (c a ha).1 (Nat.pow_lt_pow_right (by omega) hb)
    · split
      · exact Nat.or_lt_two_pow (c b hb).1 (Nat.pow_lt_pow_right (by omega) ha)
      · exact (c u hu).1
  · rw [addR_tb hab]
    rcases (addR_tb hab).mp hv with h | ⟨x, y⟩ | ⟨x, y⟩
    · obtain ⟨w1, w2, w3⟩ := (c u hu).2.2 v h
      exact ⟨w1, w2, Or.inl w3⟩
    · subst x; subst y; exact ⟨hb, fun q => hab q.symm, Or.inr (Or.inr ⟨rfl, rfl⟩)⟩
    · subst x; subst y; exact ⟨ha, hab, Or.inr (Or.inl ⟨rfl, rfl⟩)⟩
