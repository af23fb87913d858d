/-! ===== pure: the reference tells kept words ===== -/
theorem kept_step {sg : Nat → Nat} {t s i : Nat} {w : Int64} {A B : Prop} (k1 : tkind sg t s = 1) (hi : i < 24) (hw : w = lN (k27 i)) (ha : tkey sg t s = 128 + i → A) (hb : tkey sg t s ≠ 128 + i → B) : if lN (v27 sg t s) = w then A else B := by
  obtain ⟨_, _, l1, _⟩ := v_27_32 k1
  have l3 := k27_lt i hi
  rw [hw]
  by_cases q : v27 sg t s = k27 i
  · rw [if_pos (by rw [q])]; exact ha ((tkey_word hi).mpr ⟨k1, q⟩)
  · rw [if_neg (fun z => q ((pk_lEQ (by omega) (by omega)).mp z))]; exact hb (fun z => q ((tkey_word hi).mp z).2)
theorem m_isKept {sg : Nat → Nat} {t s : Nat} {S : St} {Q : Int32 → St → Prop} (h : CurM sg t s S) (h1 : ¬ (tkey sg t s = 3 ∨ 147 ≤ tkey sg t s) → Q 1 S) (h0 : (tkey sg t s = 3 ∨ 147 ≤ tkey sg t s) → Q 0 S) : w_X12_isKept S Q := by
  obtain ⟨_, _, _, _, c, d, _⟩ := h
  have kle := tkind_le sg t s
  unfold w_X12_isKept
  rw [c]
  refine nI_ifEq (y := 1) (by omega) (by omega) (fun k1 => ?_) (fun k1 => h1 (fun q => k1 (name_kind q)))
  rw [d k1]
  refine kept_step (i := 0) k1 (by omega) (by rfl) (fun q => h1 (by omega)) (fun n0 => ?_)
  refine kept_step (i := 1) k1 (by omega) (by rfl) (fun q => h1 (by omega)) (fun n1 => ?_)
  refine kept_step (i := 2) k1 (by omega) (by rfl) (fun q => h1 (by omega)) (fun n2 => ?_)
  refine kept_step (i := 3) k1 (by omega) (by rfl) (fun q => h1 (by omega)) (fun n3 => ?_)
  refine kept_step (i := 4) k1 (by omega) (by rfl) (fun q => h1 (by omega)) (fun n4 => ?_)
  refine kept_step (i := 5) k1 (by omega) (by rfl) (fun q => h1 (by omega)) (fun n5 => ?_)
  refine kept_step (i := 6) k1 (by omega) (by rfl) (fun q => h1 (by omega)) (fun n6 => ?_)
  refine kept_step (i := 7) k1 (by omega) (by rfl) (fun q => h1 (by omega)) (fun n7 => ?_)
  refine kept_step (i := 8) k1 (by omega) (by rfl) (fun q => h1 (by omega)) (fun n8 => ?_)
  refine kept_step (i := 9) k1 (by omega) (by rfl) (fun q => h1 (by omega)) (fun n9 => ?_)
  refine kept_step (i := 10) k1 (by omega) (by rfl) (fun q => h1 (by omega)) (fun n10 => ?_)
  refine kept_step (i := 11) k1 (by omega) (by rfl) (fun q => h1 (by omega)) (fun n11 => ?_)
  refine kept_step (i := 12) k1 (by omega) (by rfl) (fun q => h1 (by omega)) (fun n12 => ?_)
  refine kept_step (i := 13) k1 (by omega) (by rfl) (fun q => h1 (by omega)) (fun n13 => ?_)
  refine kept_step (i := 14) k1 (by omega) (by rfl) (fun q => h1 (by omega)) (fun n14 => ?_)
  refine kept_step (i := 15) k1 (by omega) (by rfl) (fun q => h1 (by omega)) (fun n15 => ?_)
  refine kept_step (i := 16) k1 (by omega) (by rfl) (fun q => h1 (by omega)) (fun n16 => ?_)
  refine kept_step (i := 17) k1 (by omega) (by rfl) (fun q => h1 (by omega)) (fun n17 => ?_)
  refine kept_step (i := 18) k1 (by omega) (by rfl) (fun q => h1 (by omega)) (fun n18 => ?_)
  refine h0 ?_
  have wb := wkey_big (v32 sg t s)
  have e : tkey sg t s = wkey (v32 sg t s) := by unfold tkey; rw [if_neg (by omega), if_pos k1]
  omega
