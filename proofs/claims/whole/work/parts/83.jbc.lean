/-! ===== pure: bits by a test; the JDK's bitCount ===== -/
/-- the numbers below m of which P holds, as bits -/
def bso (P : Nat → Bool) : Nat → Nat
  | 0 => 0
  | m + 1 => bso P m ||| (if P m then 2 ^ m else 0)
theorem bso_bit (P : Nat → Bool) (i : Nat) : ∀ m, (bso P m).testBit i = (decide (i < m) && P i)
  | 0 => by simp [bso]
  | m + 1 => by
    unfold bso
    rw [Nat.testBit_or, bso_bit P i m]
    by_cases e : i = m
    · subst e
      by_cases c : P i = true
      · rw [if_pos c, tb_one]; simp [c]
      · rw [if_neg c]; simp [c]
    · have h1 : (if P m = true then 2 ^ m else 0).testBit i = false := by
        split
        · rw [tb_one]; simp; omega
        · exact Nat.zero_testBit _
      rw [h1, Bool.or_false]
      by_cases q : i < m
      · simp [q, show i < m + 1 by omega]
      · simp [q, show ¬ i < m + 1 by omega]
theorem bso_lt (P : Nat → Bool) (m : Nat) : bso P m < 2 ^ m := tb_lt (fun i hi => by rw [bso_bit]; simp; omega)
theorem cnt_cut (P : Nat → Bool) (m : Nat) : ∀ N, m ≤ N → cnt (fun k => decide (k < m) && P k) N = cnt P m
  | 0, h => by rw [show m = 0 by omega]; rfl
  | N + 1, h => by
    by_cases e : m = N + 1
    · subst e
      exact cnt_congr _ (fun j hj => by simp [hj])
    · show cnt _ N + _ = _
      rw [cnt_cut P m N (by omega)]
      simp; omega
theorem pc_bso (P : Nat → Bool) {m : Nat} (hm : m ≤ 12) : pc (bso P m) = cnt P m := by
  unfold pc
  rw [← cnt_cut P m 12 hm]
  exact cnt_congr _ (fun j _ => bso_bit P j m)
theorem cnt_smW (P : Nat → Bool) : ∀ m, cnt P m = smW (fun w => if P w then 1 else 0) m
  | 0 => rfl
  | m + 1 => by unfold cnt smW; rw [cnt_smW P m]
def jbc (p0 : Int32) : Int32 :=
  let x9 := p0 - ((((p0).toUInt32 >>> (((1 : Int32)).toUInt32 &&& Int32.toUInt32 31)).toInt32) &&& (1431655765 : Int32))
  let x23 := (x9 &&& (858993459 : Int32)) + ((((x9).toUInt32 >>> (((2 : Int32)).toUInt32 &&& Int32.toUInt32 31)).toInt32) &&& (858993459 : Int32))
  let x33 := (x23 + (((x23).toUInt32 >>> (((4 : Int32)).toUInt32 &&& Int32.toUInt32 31)).toInt32)) &&& (252645135 : Int32)
  let x40 := x33 + (((x33).toUInt32 >>> (((8 : Int32)).toUInt32 &&& Int32.toUInt32 31)).toInt32)
  let x47 := x40 + (((x40).toUInt32 >>> (((16 : Int32)).toUInt32 &&& Int32.toUInt32 31)).toInt32)
  x47 &&& (63 : Int32)
def lob (x : Nat) : Nat := fnd (fun i => x.testBit i) 12 0
theorem jbc_pc64 : ∀ y, y < 64 → ∀ x, x < 64 → jbc (nI (64 * y + x)) = nI (pc (64 * y + x)) := by decide +kernel
theorem jbc_lob64 : ∀ y, y < 64 → ∀ x, x < 64 → 64 * y + x ≠ 0 → jbc ((nI (64 * y + x) &&& (- nI (64 * y + x))) - 1) = nI (lob (64 * y + x)) := by decide +kernel
theorem jbc_pc {x : Nat} (h : x < 4096) : jbc (nI x) = nI (pc x) := by
  have := jbc_pc64 (x / 64) (by omega) (x % 64) (by omega)
  rwa [show 64 * (x / 64) + x % 64 = x by omega] at this
theorem jbc_lob {x : Nat} (h : x < 4096) (h0 : x ≠ 0) : jbc ((nI x &&& (- nI x)) - 1) = nI (lob x) := by
  have := jbc_lob64 (x / 64) (by omega) (x % 64) (by omega)
  rw [show 64 * (x / 64) + x % 64 = x by omega] at this
  exact this h0
theorem e_bitCount {x : Int32} {S : St} {Q : Int32 → St → Prop} (hQ : Q (jbc x) S) : w_J6_bitCount_0f7a4 x S Q := by
  intro a ha b hb c hc d hd e he
  subst ha; subst hb; subst hc; subst hd; subst he
  exact hQ
