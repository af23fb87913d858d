/-! ===== the machine: EndsRound is made ===== -/
def rf9 : List (Nat × Nat × Nat) → St → St
  | [], S => S
  | x :: l, S => rf9 l (sR S x.1 x.2.1 (some x.2.2))
def zS0 : St := (fun _ _ => 0, fun _ _ => 0, fun _ _ => none)
theorem IR_z {n : Nat} : IR n zS0 := ⟨fun _ _ _ => ⟨rfl, rfl, rfl⟩, fun _ _ r h => by cases h⟩
theorem IR_z0 : IR 1 zS0 := IR_z
theorem z_X0 {S : St} {Q : St → Prop} (h : ∀ S', S' = rf9 [(8, 0, 9), (8, 2, 10)] S → Q S') : w_X0_init S Q := by
  unfold w_X0_init
  rintro S1 rfl S2 rfl
  exact h _ rfl
theorem z_X1 {o : Nat} {p : Int32} {S : St} {Q : St → Prop} (h1 : (1 : Int32) ≤ p) (h2 : ¬ p < 0) (h3 : p.toNatClampNeg = lnE (o + 1)) (h : ∀ S', S' = rf9 [(o, 0, o + 1)] S → Q S') : w_X1_init o p S Q := by
  unfold w_X1_init
  rw [if_pos h1]
  refine ⟨h2, h3, ?_⟩
  rintro S1 rfl
  exact h _ rfl
theorem z_X2 {o : Nat} {S : St} {Q : St → Prop} (h : ∀ S', S' = rf9 [(o, 0, o + 1), (o, 1, o + 2), (o, 2, o + 3)] S → Q S') : w_X2_init o S Q := by
  unfold w_X2_init
  rintro S1 rfl S2 rfl S3 rfl
  exact h _ rfl
theorem z_X4 {o : Nat} {S : St} {Q : St → Prop} (h : ∀ S', S' = rf9 [(o, 7, o + 1), (o, 8, o + 2), (o, 9, o + 3), (o, 10, o + 4), (o, 11, o + 5), (o, 12, o + 6), (o, 13, o + 7), (o, 14, o + 8)] S → Q S') : w_X4_init o S Q := by
  unfold w_X4_init
  rintro S1 rfl S2 rfl S3 rfl S4 rfl S5 rfl S6 rfl S7 rfl S8 rfl
  exact h _ rfl
theorem z_X5 {o : Nat} {S : St} {Q : St → Prop} (h : ∀ S', S' = rf9 [(o + 1, 7, o + 1 + 1), (o + 1, 8, o + 1 + 2), (o + 1, 9, o + 1 + 3), (o + 1, 10, o + 1 + 4), (o + 1, 11, o + 1 + 5), (o + 1, 12, o + 1 + 6), (o + 1, 13, o + 1 + 7), (o + 1, 14, o + 1 + 8), (o, 0, o + 1), (o + 10, 0, o + 10 + 1), (o + 10, 1, o + 10 + 2), (o + 10, 2, o + 10 + 3), (o, 1, o + 10)] S → Q S') : w_X5_init o S Q := by
  unfold w_X5_init
  refine z_X4 ?_
  rintro S1 rfl S2 rfl
  refine z_X2 ?_
  rintro S3 rfl S4 rfl
  exact h _ rfl
theorem z_X3 {S : St} {Q : St → Prop} (h : ∀ S', S' = rf9 [(43, 2, 44), (43, 3, 45), (43, 4, 46), (43, 5, 47), (43, 6, 48), (43, 7, 49), (43, 0, 21), (43, 1, 34)] S → Q S') : w_X3_init S Q := by
  unfold w_X3_init
  rintro S1 rfl S2 rfl S3 rfl S4 rfl S5 rfl S6 rfl S7 rfl S8 rfl
  exact h _ rfl
theorem z_X6 {S : St} {Q : St → Prop} (h : ∀ S', S' = rf9 [(50, 3, 51), (50, 4, 52), (50, 5, 53), (50, 6, 54), (50, 7, 55), (50, 0, 21), (50, 1, 34), (50, 2, 30)] S → Q S') : w_X6_init S Q := by
  unfold w_X6_init
  rintro S1 rfl S2 rfl S3 rfl S4 rfl S5 rfl S6 rfl S7 rfl S8 rfl
  exact h _ rfl
theorem z_X7 {S : St} {Q : St → Prop} (h : ∀ S', S' = rf9 [(56, 0, 57), (56, 1, 58), (56, 2, 59), (56, 3, 60), (61, 0, 62), (56, 4, 61), (56, 5, 21), (56, 6, 21)] S → Q S') : w_X7_init S Q := by
  unfold w_X7_init
  rintro S1 rfl S2 rfl S3 rfl S4 rfl
  refine z_X1 (by decide) (by decide) (by decide) ?_
  rintro S5 rfl S6 rfl S7 rfl S8 rfl
  exact h _ rfl
theorem z_X8 {S : St} {Q : St → Prop} (h : ∀ S', S' = rf9 [(8, 0, 9), (8, 2, 10), (7, 1, 8), (11, 7, 12), (11, 8, 13), (11, 9, 14), (11, 10, 15), (11, 11, 16), (11, 12, 17), (11, 13, 18), (11, 14, 19), (7, 2, 11), (7, 3, 20), (7, 0, 1)] S → Q S') : w_X8_init S Q := by
  unfold w_X8_init
  refine z_X0 ?_
  rintro S1 rfl S2 rfl
  refine z_X4 ?_
  rintro S3 rfl S4 rfl S5 rfl S6 rfl
  exact h _ rfl
theorem z_X9 {S : St} {Q : St → Prop} (h : ∀ S', S' = rf9 [(35, 0, 36), (34, 0, 35), (34, 1, 37), (34, 2, 38), (34, 3, 39), (34, 4, 40), (34, 5, 41), (34, 6, 42)] S → Q S') : w_X9_init S Q := by
  unfold w_X9_init
  refine z_X1 (by decide) (by decide) (by decide) ?_
  rintro S1 rfl S2 rfl S3 rfl S4 rfl S5 rfl S6 rfl S7 rfl S8 rfl
  exact h _ rfl
theorem z_X10 {S : St} {Q : St → Prop} (h : ∀ S', S' = wkS (rf9 [(1, 0, 2), (1, 1, 3), (1, 2, 4), (1, 3, 5), (1, 4, 6)] S) 24 → Q S') : w_X10_init S Q := by
  unfold w_X10_init
  rintro S1 rfl S2 rfl S3 rfl S4 rfl S5 rfl S6 rfl
  exact h _ rfl
abbrev rm_X11_init : Room := { frames := 5, cells := 122, slots := 8378, locals := 109 }
def zS1 : St := wkS (rf9 [(1, 0, 2), (1, 1, 3), (1, 2, 4), (1, 3, 5), (1, 4, 6)] zS0) 24
def zS2 : St := sR zS1 0 0 (some 1)
def zS3 : St := rf9 [(8, 0, 9), (8, 2, 10), (7, 1, 8), (11, 7, 12), (11, 8, 13), (11, 9, 14), (11, 10, 15), (11, 11, 16), (11, 12, 17), (11, 13, 18), (11, 14, 19), (7, 2, 11), (7, 3, 20), (7, 0, 1)] zS2
def zS4 : St := sR zS3 0 1 (some 7)
def zS5 : St := rf9 [(21, 7, 22), (21, 8, 23), (21, 9, 24), (21, 10, 25), (21, 11, 26), (21, 12, 27), (21, 13, 28), (21, 14, 29)] zS4
def zS6 : St := sR zS5 0 2 (some 21)
def zS7 : St := rf9 [(30, 0, 31), (30, 1, 32), (30, 2, 33)] zS6
def zS8 : St := sR zS7 0 3 (some 30)
def zS9 : St := rf9 [(35, 0, 36), (34, 0, 35), (34, 1, 37), (34, 2, 38), (34, 3, 39), (34, 4, 40), (34, 5, 41), (34, 6, 42)] zS8
def zS10 : St := sR zS9 0 4 (some 34)
def zS11 : St := rf9 [(43, 2, 44), (43, 3, 45), (43, 4, 46), (43, 5, 47), (43, 6, 48), (43, 7, 49), (43, 0, 21), (43, 1, 34)] zS10
def zS12 : St := sR zS11 0 5 (some 43)
def zS13 : St := rf9 [(50, 3, 51), (50, 4, 52), (50, 5, 53), (50, 6, 54), (50, 7, 55), (50, 0, 21), (50, 1, 34), (50, 2, 30)] zS12
def zS14 : St := sR zS13 0 6 (some 50)
def zS15 : St := rf9 [(56, 0, 57), (56, 1, 58), (56, 2, 59), (56, 3, 60), (61, 0, 62), (56, 4, 61), (56, 5, 21), (56, 6, 21)] zS14
def zS16 : St := sR zS15 0 7 (some 56)
def zS17 : St := sR zS16 0 8 (some 63)
def zS18 : St := rf9 [(65, 7, 66), (65, 8, 67), (65, 9, 68), (65, 10, 69), (65, 11, 70), (65, 12, 71), (65, 13, 72), (65, 14, 73), (64, 0, 65), (74, 0, 75), (74, 1, 76), (74, 2, 77), (64, 1, 74)] zS17
def zS19 : St := sR zS18 63 0 (some 64)
def zS20 : St := rf9 [(79, 7, 80), (79, 8, 81), (79, 9, 82), (79, 10, 83), (79, 11, 84), (79, 12, 85), (79, 13, 86), (79, 14, 87), (78, 0, 79), (88, 0, 89), (88, 1, 90), (88, 2, 91), (78, 1, 88)] zS19
def zS21 : St := sR zS20 63 1 (some 78)
def zS22 : St := rf9 [(93, 7, 94), (93, 8, 95), (93, 9, 96), (93, 10, 97), (93, 11, 98), (93, 12, 99), (93, 13, 100), (93, 14, 101), (92, 0, 93), (102, 0, 103), (102, 1, 104), (102, 2, 105), (92, 1, 102)] zS21
def zS23 : St := sR zS22 63 2 (some 92)
def zS24 : St := rf9 [(107, 7, 108), (107, 8, 109), (107, 9, 110), (107, 10, 111), (107, 11, 112), (107, 12, 113), (107, 13, 114), (107, 14, 115), (106, 0, 107), (116, 0, 117), (116, 1, 118), (116, 2, 119), (106, 1, 116)] zS23
def zS25 : St := sR zS24 63 3 (some 106)
def zS26 : St := rf9 [(120, 0, 121)] zS25
def zS27 : St := sR zS26 0 9 (some 120)
def zS28 : St := sR zS27 0 10 (some 122)

/-- all its references, in the order in which they were set -/
def rfL : List (Nat × Nat × Nat) := [(1, 0, 2), (1, 1, 3), (1, 2, 4), (1, 3, 5), (1, 4, 6)] ++ [(0, 0, 1), (8, 0, 9), (8, 2, 10), (7, 1, 8), (11, 7, 12), (11, 8, 13), (11, 9, 14), (11, 10, 15), (11, 11, 16), (11, 12, 17), (11, 13, 18), (11, 14, 19), (7, 2, 11), (7, 3, 20), (7, 0, 1), (0, 1, 7), (21, 7, 22), (21, 8, 23), (21, 9, 24), (21, 10, 25), (21, 11, 26), (21, 12, 27), (21, 13, 28), (21, 14, 29), (0, 2, 21), (30, 0, 31), (30, 1, 32), (30, 2, 33), (0, 3, 30), (35, 0, 36), (34, 0, 35), (34, 1, 37), (34, 2, 38), (34, 3, 39), (34, 4, 40), (34, 5, 41), (34, 6, 42), (0, 4, 34), (43, 2, 44), (43, 3, 45), (43, 4, 46), (43, 5, 47), (43, 6, 48), (43, 7, 49), (43, 0, 21), (43, 1, 34), (0, 5, 43), (50, 3, 51), (50, 4, 52), (50, 5, 53), (50, 6, 54), (50, 7, 55), (50, 0, 21), (50, 1, 34), (50, 2, 30), (0, 6, 50), (56, 0, 57), (56, 1, 58), (56, 2, 59), (56, 3, 60), (61, 0, 62), (56, 4, 61), (56, 5, 21), (56, 6, 21), (0, 7, 56), (0, 8, 63), (65, 7, 66), (65, 8, 67), (65, 9, 68), (65, 10, 69), (65, 11, 70), (65, 12, 71), (65, 13, 72), (65, 14, 73), (64, 0, 65), (74, 0, 75), (74, 1, 76), (74, 2, 77), (64, 1, 74), (63, 0, 64), (79, 7, 80), (79, 8, 81), (79, 9, 82), (79, 10, 83), (79, 11, 84), (79, 12, 85), (79, 13, 86), (79, 14, 87), (78, 0, 79), (88, 0, 89), (88, 1, 90), (88, 2, 91), (78, 1, 88), (63, 1, 78), (93, 7, 94), (93, 8, 95), (93, 9, 96), (93, 10, 97), (93, 11, 98), (93, 12, 99), (93, 13, 100), (93, 14, 101), (92, 0, 93), (102, 0, 103), (102, 1, 104), (102, 2, 105), (92, 1, 102), (63, 2, 92), (107, 7, 108), (107, 8, 109), (107, 9, 110), (107, 10, 111), (107, 11, 112), (107, 12, 113), (107, 13, 114), (107, 14, 115), (106, 0, 107), (116, 0, 117), (116, 1, 118), (116, 2, 119), (106, 1, 116), (63, 3, 106), (120, 0, 121), (0, 9, 120), (0, 10, 122)]
theorem rf9_app (l m : List (Nat × Nat × Nat)) (S : St) : rf9 (l ++ m) S = rf9 m (rf9 l S) := by
  induction l generalizing S with
  | nil => rfl
  | cons x l ih => exact ih _
set_option maxRecDepth 100000 in
theorem zS_eq : zS28 = wkS (rf9 rfL zS0) 24 := rfl
theorem rf9_none : ∀ (l : List (Nat × Nat × Nat)) (S : St) (a k : Nat), (∀ x, x ∈ l → ¬ (a = x.1 ∧ k = x.2.1)) → gR (rf9 l S) a k = gR S a k := by
  intro l
  induction l with
  | nil => intro _ _ _ _; rfl
  | cons x l ih =>
    intro S a k h
    show gR (rf9 l (sR S x.1 x.2.1 (some x.2.2))) a k = _
    rw [ih _ a k (fun y hy => h y (List.mem_cons_of_mem _ hy)), gR_sR, if_neg (h x List.mem_cons_self)]
theorem zR_small : ∀ a, a < 123 → ∀ k, k < 60 → ¬ (a = 56 ∧ k = 6) → gR zS28 a k = R0E a k := by decide +kernel
theorem rfL_small : ∀ x, x ∈ rfL → x.1 < 123 ∧ x.2.1 < 60 := by decide +kernel
theorem R0EL_len : R0EL.length ≤ 123 ∧ ∀ r, r ∈ R0EL → r.length ≤ 60 := by decide +kernel
theorem zR_ok : RCE zS28 := by
  intro a k hn
  by_cases h : a < 123 ∧ k < 60
  · exact zR_small a h.1 k h.2 hn
  · have e1 : gR zS28 a k = none := by
      rw [zS_eq]
      show gR (rf9 rfL zS0) a k = none
      rw [rf9_none rfL zS0 a k (fun x hx q => h ⟨by have := (rfL_small x hx).1; omega, by have := (rfL_small x hx).2; omega⟩)]
      rfl
    have e2 : R0E a k = none := by
      unfold R0E
      obtain ⟨l1, l2⟩ := R0EL_len
      by_cases ha : a < R0EL.length
      · have hm : R0EL.getD a [] ∈ R0EL := by
          show (R0EL[a]?).getD [] ∈ R0EL
          rw [List.getElem?_eq_getElem ha]
          exact List.getElem_mem ha
        have := l2 _ hm
        show ((R0EL.getD a [])[k]?).getD none = none
        rw [List.getElem?_eq_none (by omega)]; rfl
      · have : R0EL.getD a [] = [] := by
          show (R0EL[a]?).getD [] = []
          rw [List.getElem?_eq_none (by omega)]; rfl
        rw [this]; rfl
    rw [e1, e2]
def F1 : Fm := (P0 1).F
theorem F1_W : FW F1 ∧ PW F1 (fun _ => 0) (fun _ => 0) := by
  obtain ⟨⟨a1, a2, a3, a4, a5, a6, a7, a8⟩, b, c, d, e⟩ := P0_W (n := 1) (by omega) (by omega)
  exact ⟨⟨⟨a1, a2, a3, a4, by have := cz_le ((P0 1).F 3) ((P0 1).F 0 0); show (P0 1).F 0 3 ≤ 12; omega, a6, a7, a8⟩, b, c, fun w hw => absurd hw (by show ¬ w < (P0 1).F 0 5; rw [P0_0 1 (by omega)]; omega)⟩, e⟩
def QB9 (S : St) : Prop := frX [21, 22, 23, 24] zS28 S ∧ FE 21 F1 S
theorem zB_ok {Q : St → Prop} (h : ∀ S', QB9 S' → Q S') : w_X4_begin 21 (1 : Int32) zS28 Q := by
  have hQ : ∀ S', frX [21, 22, 23, 24] zS28 S' → FE 21 F1 S' → Q S' := fun S' a b => h S' ⟨a, b⟩
  unfold w_X4_begin
  intro S1 e1 S2 e2 S3 e3 S4 e4 S5 e5 S6 e6 S7 e7
  have f7 : frX [21, 22, 23, 24] zS28 S7 := by
    rw [e7, e6, e5, e4, e3, e2, e1]
    exact frX_sI (frX_sI (frX_sI (frX_sI (frX_sI (frX_sI (frX_sI (frX_refl _ _) (by simp)) (by simp)) (by simp)) (by simp)) (by simp)) (by simp)) (by simp)
  have g7 : ∀ j, j < 7 → gI S7 21 j = nI (F1 0 j) := by
    intro j hj
    rw [e7, e6, e5, e4, e3, e2, e1]
    have : j = 0 ∨ j = 1 ∨ j = 2 ∨ j = 3 ∨ j = 4 ∨ j = 5 ∨ j = 6 := by omega
    rcases this with rfl | rfl | rfl | rfl | rfl | rfl | rfl <;> simp [gI_sI, F1, P0] <;> rfl
  unfold w_X4_begin_37
  refine up1 (B := b_X4_begin_37 21 Q) 12 (by omega) (fun p S' => frX [21, 22, 23, 24] zS28 S' ∧ (∀ j, gI S' 21 j = gI S7 21 j) ∧ ∀ q, q < p → gI S' 22 q = nI q) ?_ ?_ 0 (by omega) ⟨f7, fun _ => rfl, fun q hq => absurd hq (by omega)⟩
  · rintro k p S' hp ⟨f1, h1, h2⟩ hk
    unfold b_X4_begin_37
    rw [if_neg (show ¬ (12 : Int32) ≤ nI p from nI_ge (b := 12) hp (by omega))]
    refine e_put (p := 21 + 1) (show p < 12 from hp) (by decide) ?_
    rintro x hx
    refine hk _ x hx ⟨frX_sI f1 (by simp), fun j => by rw [gI_sI, if_neg (by omega)]; exact h1 j, fun q hq => ?_⟩
    rw [gI_sI]
    by_cases e : q = p
    · rw [if_pos ⟨rfl, e⟩, e]
    · rw [if_neg (fun z => e z.2)]; exact h2 q (by omega)
  · rintro k S' ⟨f1, h1, h2⟩
    unfold b_X4_begin_37
    rw [if_pos (by decide)]
    refine e_blank (by decide) ?_
    refine e_blank (by decide) ?_
    have z13 : ∀ j, j < 12 → gI (setRow (setRow S' (21 + 2) (lnE (21 + 2)) (fun _ => 0)) (21 + 3) (lnE (21 + 3)) (fun _ => 0)) 23 j = 0 := fun j hj => by
      rw [gI_setRow, if_neg (by omega), gI_setRow, if_pos ⟨rfl, hj⟩]
    have z14 : ∀ j, j < 12 → gI (setRow (setRow S' (21 + 2) (lnE (21 + 2)) (fun _ => 0)) (21 + 3) (lnE (21 + 3)) (fun _ => 0)) 24 j = 0 := fun j hj => by
      rw [gI_setRow, if_pos ⟨rfl, hj⟩]
    refine hQ _ (frX_row (frX_row f1 (by simp)) (by simp)) ⟨fun j hj => ?_, fun k j a1 a2 a3 => ?_, fun k j a1 a2 a3 => ?_⟩
    · rw [gI_setRow, if_neg (by omega), gI_setRow, if_neg (by omega), h1]; exact g7 j hj
    · have a3 : j < 1 := a3
      have : k = 1 ∨ k = 2 ∨ k = 3 := by omega
      rcases this with rfl | rfl | rfl
      · rw [gI_setRow, if_neg (by omega), gI_setRow, if_neg (by omega)]; exact h2 j (by omega)
      · rw [show F1 2 j = 0 from P0_k 1 j (by omega)]; exact z13 j (by omega)
      · rw [show F1 3 j = 0 from P0_k 1 j (by omega)]; exact z14 j (by omega)
    · exact absurd a3 (by show ¬ j < (P0 1).F 0 5; rw [P0_0 1 (by omega)]; omega)
/-- the class behind its constructor -/
def QC9 (S : St) : Prop := ∃ L, FE 21 F1 S ∧ EZ F1 L S ∧ FI F1 L S ∧ MI F1 L D0 S ∧ DE 30 D0 S ∧ gI S 1 5 = 0 ∧ (∀ m, m < 4 → gI S (64 + 14 * m) 2 = 0) ∧ KW S
theorem zF_ok {S : St} (h : QB9 S) : w_X9_follow 21 S QC9 := by
  obtain ⟨f1, h1⟩ := h
  refine e_stanzas F1_W.1 h1 (fun S' L f2 h2 => ?_)
  have f : frX [21, 22, 23, 24, 34, 35, 36, 37, 38, 39, 40, 41, 42] zS28 S' := frX_trans (frX_sub f1 (by simp)) (frX_sub f2 (by simp))
  have z : ∀ a k, a ∉ [21, 22, 23, 24, 34, 35, 36, 37, 38, 39, 40, 41, 42] → gI S' a k = 0 := fun a k ha => by rw [frX_g f a k ha]; rfl
  refine ⟨L, FE21_fr f2 (by simp) h1, h2, ⟨Or.inl (z 43 9 (by simp)), Or.inl (z 43 10 (by simp)), Or.inl (z 43 11 (by simp)), Or.inl (z 43 14 (by simp))⟩, Or.inl (z 50 8 (by simp)), ⟨z 30 3 (by simp), fun k j _ _ hj => absurd hj (by show ¬ j < 0; omega)⟩, z 1 5 (by simp), fun m hm => z _ 2 (by simp; omega), fun i hi => ?_⟩
  rw [frX_gJ f 6 i (by simp)]
  show (if 6 = 6 ∧ i < 24 then lN (kw i) else (0 : Int64)) = lN (kw i)
  rw [if_pos ⟨rfl, hi⟩]
def MetAE (aK aV : Nat) (l : Launch) (y : MethodName) (ws : List Cond) (rm : Room) (mc ms : Nat) (S : St) (Q : St → Prop) : Prop :=
  ∀ (D : va_G) (cy : Nat → ClassId) (ad : Nat → Nat) (X : va_W) (sz : Nat), Met l y ws rm (va_Pc [.ref (ad 0)] (fun U => PreB D cy ad X sz shE 1 S U ∧ SPre aK aV (va_A (X ++ wl cy ad shE 1 S) sz) U ∧ vk_R RX10 29 TX aK U ∧ va_AO "EndsRound$Mark" U))
    (va_Qv (fun u : (Nat → Nat) × St => (∀ i, i < 1 → u.1 i = ad i) ∧ Q u.2 ∧ RCE u.2) (fun u t => va_P D vwCl (X ++ wl cy u.1 shE 123 u.2) t.heap ∧ va_D (va_A (X ++ wl cy ad shE 1 S) sz) (X ++ wl cy u.1 shE 123 u.2)) (va_A (X ++ wl cy ad shE 1 S) sz)) mc ms (va_A (X ++ wl cy ad shE 1 S) sz)
def QAE (G : GC) (mc ms : Nat) (Q : St → Prop) : Prop :=
  GQ G = MQ (Gb G) (va_Qv (fun u : (Nat → Nat) × St => (∀ i, i < 1 → u.1 i = Gad G i) ∧ Q u.2 ∧ RCE u.2) (fun u t => va_P (GD G) vwCl (GX G ++ wl (Gcy G) u.1 (Gsh G) 123 u.2) t.heap ∧ va_D (GA G) (GX G ++ wl (Gcy G) u.1 (Gsh G) 123 u.2)) (GA G)) (Ga G) (Gs G) mc ms (GA G) ∧ (Gme G).name = "<init>"
theorem MetAE_of {aK aV : Nat} {l : Launch} {y : MethodName} {rm : Room} {mc ms : Nat} {S : St} {Q : St → Prop} {cc : ByteArray} {maxL : Nat} {ret : Option FieldType}
    (hy : plainFor y = true) (hnm : y.name = "<init>") (hlen : ∀ a : Nat, (lg_sl [Value.ref a]).length ≤ maxL)
    (body : ∀ G : GC, Cx (gset G (Gad G) 1 0 0) cc BIG y.cls maxL ret rm shE 1 → Gl G = l → QAE G mc ms Q → SPre aK aV (GA G) (Gs G) → vk_R RX10 29 TX aK (Gs G) → va_AO "EndsRound$Mark" (Gs G) → Go (gset G (Gad G) 1 0 0) maxL 0 [] (lv_args 0 [.ref (Gad G 0)]) S) : MetAE aK aV l y (wB y cc maxL ret) rm mc ms S Q := by
  intro D cy ad X sz
  refine Met_ofWF (cc := cc) (maxL := maxL) (ret := ret) hy rfl ?_
  intro p e s m args below meth c s₁ B hml hv
  obtain ⟨rfl, ⟨hsz, hP, hK, hD0, hN⟩, hSP, hZ, hAO⟩ := hv
  subst hsz
  rw [lg_entry_eq]
  exact body (p, l, e, rm, s, m, ([.ref (ad 0)] : List Value).toArray, below, meth, c, MQ below (va_Qv (fun u : (Nat → Nat) × St => (∀ i, i < 1 → u.1 i = ad i) ∧ Q u.2 ∧ RCE u.2) (fun u t => va_P D vwCl (X ++ wl cy u.1 shE 123 u.2) t.heap ∧ va_D (va_A (X ++ wl cy ad shE 1 S) s.heap.size) (X ++ wl cy u.1 shE 123 u.2)) (va_A (X ++ wl cy ad shE 1 S) s.heap.size)) ([.ref (ad 0)] : List Value).toArray s mc ms (va_A (X ++ wl cy ad shE 1 S) s.heap.size), D, cy, ad, X, va_A (X ++ wl cy ad shE 1 S) s.heap.size, shE, 1, 0, 0)
    ⟨B.exec, B.bytes, hml, findClass_of_methodNamed B.named, fun w h => atoms_spec (ws := wB y cc maxL ret) B.pre w (List.mem_cons_of_mem _ h), B.notSynchronized, B.returns, hK, fun _ h => Or.inr h, hN, rfl, rfl, rfl, Nat.zero_le _, Nat.zero_le _⟩ rfl ⟨rfl, (name_of_methodNamed B.named B.method).1.trans hnm⟩ hSP hZ hAO
    s.heap [] _ hP hD0.self va_S.rf (lv_entry [.ref (ad 0)] (hlen (ad 0)))
section GoMake3
variable {G : GC} {cc : ByteArray} {own : String} {nL : Nat} {ret : Option FieldType} {rm : Room} {sh : Nat → Nat × Nat} {n : Nat} {pc q : Nat} {stF : (Nat → Nat) → List Value} {lvF : (Nat → Nat) → List (Nat × Value)} {st st0 : List Value} {lv : List (Nat × Value)} {S : St}
theorem Go_retAE {ad : Nat → Nat} {k w mc ms : Nat} {Q : St → Prop} (C : Cx (gset G ad 123 k w) cc BIG own nL none rm shE 123) (hQ : QAE G mc ms Q) (hag : ∀ i, i < 1 → ad i = Gad G i) (hR : RCE S) (hw : Q S) (hk : k ≤ mc) (hwm : w ≤ ms) (hdg : decode cc pc = .ok (.return_, 1)) : Go (gset G ad 123 k w) nL pc [] lv S := by
  intro H locs ls hP hD hS hl
  show W (Gp G) (Gl G) (Ge G) (GRm G) (Gs G) (Gm G) (Ga G) (Gb G) (Gme G) (Gc G) H locs k w (GQ G) _
  rw [hQ.1]
  refine W.widen hk hwm ?_
  exact W.vret C.1 C.2.1 C.2.2.2.2.2.2.1 (fun t ht hW => ⟨⟨(ad, S), rfl, ⟨hag, hw, hR⟩, by rw [ht]; exact hP, hD⟩, hS.F ht⟩) hS.2.2 hdg C.2.2.2.2.2.1
theorem Go_newa_m (C : Cx G cc BIG own nL ret rm sh n) {x : Int32} {len idx : Nat} (hcl : Cond.classLink own idx "EndsRound$Mark" ∈ BIG) (hAO : va_AO "EndsRound$Mark" (Gs G)) (hx : ¬ x < 0) (hlen : x.toNatClampNeg = len) (hbytes : len * 4 ≤ 536870912)
    (hsh : sh n = (17, len)) (hI : IR n S) (hst : stF (Gad G) = st) (hlv : lvF (Gad G) = lv) (hs1 : ∀ ad, (∀ i, i < n → ad i = Gad G i) → stF ad = st) (hl1 : ∀ ad, (∀ i, i < n → ad i = Gad G i) → lvF ad = lv)
    (hk : Gk G + 1 ≤ rm.cells) (hw : Gw G + len ≤ rm.slots) (hdg : decode cc pc = .ok (.anewarray idx, 3)) (hq : pc + 3 = q)
    (kk : ∀ ad, (∀ i, i < n → ad i = Gad G i) → IR (n + 1) S → Go (gset G ad (n + 1) (Gk G + 1) (Gw G + len)) nL q (.ref (ad n) :: stF ad) (lvF ad) S) : Go G nL pc (.int x :: st) lv S := by
  subst hq
  have C' := C
  obtain ⟨-, -, -, -, -, -, -, -, -, -, hrm, hshe, hN, -, -⟩ := C'
  subst hshe; subst hN; subst hrm
  intro H locs ls hP hD hS hl
  refine va_newq C.1 C.2.1 C.2.2.2.1 (C.2.2.2.2.1 _ hcl) hAO C.2.2.2.2.2.2.2.1 hP hD hS C.2.2.2.2.2.2.2.2.1 hx hlen hbytes hk hw hdg (fun q1 cA H1 hK1 hP1 hD1 hS1 => ?_)
  have hcA : cA = Gcy G 4 := by
    obtain ⟨_, _, _, _, _, h1⟩ := (hK1.2 5 (cA, .object "EndsRound$Mark") rfl).2
    obtain ⟨_, _, _, _, _, h2⟩ := (hK1.2 4 (Gcy G 4, .object "EndsRound$Mark") rfl).2
    exact Option.some.inj (h1.symm.trans h2)
  subst hcA
  have hag : ∀ i, i < GN G → (fun i => if i = GN G then q1 else Gad G i) i = Gad G i := fun i hi => by simp [Nat.ne_of_lt hi]
  have hce : cellOf (Gcy G) (fun i => if i = GN G then q1 else Gad G i) (Gsh G) S (GN G) = .inl (Gcy G 4, (len, .inr (.inr (.inr (.inr (fun _ => none)))))) := by
    rw [cell_m (N := GN G + 1) ⟨Nat.lt_succ_self _, hsh⟩]
    have e : (fun j => (gR S (GN G) j).map (fun i => if i = GN G then q1 else Gad G i)) = fun _ => none := by funext j; rw [(hI.1 (GN G) j (Nat.le_refl _)).2.2]; rfl
    rw [e]
  rw [wl_push hI hce] at hP1 hD1
  have h := kk (fun i => if i = GN G then q1 else Gad G i) hag (hI.mono (Nat.le_succ _)) H1 locs ls hP1 hD1 hS1 (by rw [hl1 _ hag]; exact hl)
  rw [hs1 _ hag] at h
  simpa using h
theorem preAS_blind {av : List Value} {D : va_G} {cy : Nat → ClassId} {ad : Nat → Nat} {X : va_W} {sz : Nat} {S : St} {aK aV : Nat} : FrameBlind (va_Pc av (fun U => PreB D cy ad X sz sh n S U ∧ SPre aK aV (va_A (X ++ wl cy ad sh n S) sz) U ∧ vk_R RX10 29 TX aK U)) :=
  fun a U g mk q => by
    obtain ⟨q0, ⟨q1, q2, q3, q4, q5⟩, q6, q7⟩ := q
    exact ⟨q0, ⟨q1, q2, va_K.moved (u := U) (U := U.calling g mk a) (Vm.Alike.refl U.vm) q3, q4, NW.same (s := U) (U := U.calling g mk a) rfl q5⟩, SPre.go (s := U) (U := U.calling g mk a) (H := U.heap) (locs := []) q6 va_S.rf (fun _ h => h) rfl (Vm.Alike.refl U.vm), vk_R.same (u := U) (U := U.calling g mk a) rfl q7⟩
theorem Go_callI_AS {aK aV : Nat} (hSP : SPre aK aV (GA G) (Gs G)) (hZ : vk_R RX10 29 TX aK (Gs G)) (C : Cx G cc BIG own nL ret rm sh n) {y : MethodName} {rmy : Room} {o n' mc ms : Nat} {av : (Nat → Nat) → List Value} {Q1 : St → Prop} {bytes : ByteArray} {maxL idx n9 : Nat} (hM : MetAS aK aV (Gl G) y (wB y bytes maxL none) rmy sh n n' mc ms (fun ad => .ref (ad o) :: av ad) S Q1)
    (hlk : Cond.methodLink own idx y ∈ BIG) (hini : Cond.initialized y.cls ∈ BIG) (hins : Cond.instanceMethod y ∈ BIG) (hcode : Cond.code y bytes maxL none ∈ BIG) (hnm : y.name = "<init>") (hd : y.cls ≠ "java/lang/invoke/MethodHandle" ∧ y.cls ≠ "java/lang/invoke/VarHandle" ∧ (parseMethodDescriptor y.desc).map (fun d => d.parameters.length) = some n9) (hr0 : rmy.cells = mc ∧ rmy.slots = ms) (hroom : rmy.frames + 1 ≤ rm.frames ∧ 8 + (maxL + 11) + rmy.locals ≤ rm.locals) (hlen : (av (Gad G)).length = n9) (hst : (av (Gad G)).reverse ++ .ref (Gad G o) :: st = st0) (hW : (st.map fun v => v.category).sum ≤ 8)
    (hstF : stF (Gad G) = st) (hs1 : ∀ ad, (∀ i, i < n → ad i = Gad G i) → stF ad = st) (hl1 : ∀ ad, (∀ i, i < n → ad i = Gad G i) → lvF ad = lv)
    (hk : Gk G + mc ≤ rm.cells) (hw : Gw G + ms ≤ rm.slots) (hdg : decode cc pc = .ok (.invokespecial idx, 3)) (hq : pc + 3 = q)
    (k : ∀ ad S', (∀ i, i < n → ad i = Gad G i) → Q1 S' → IR n' S' → Go (gset G ad n' (Gk G + mc) (Gw G + ms)) nL q (stF ad) (lvF ad) S') : Go G nL pc st0 lv S := by
  subst hq; subst hst
  have C' := C
  obtain ⟨-, -, -, -, -, -, -, -, -, -, hrm, hsh, hN, -, -⟩ := C'
  subst hsh; subst hN; subst hrm
  intro H locs ls hP hD hS hl
  have hA1 : ∀ q, va_A (Wd G S) H.size q → GA G q := inA (D := GD G) hD C.2.2.2.2.2.2.2.2.1 hS.1
  have pre : ∀ U : State, U.heap = H → (Gs G).WarmedH U.vm → va_Pc (Value.ref (Gad G o) :: av (Gad G)) (fun U => PreB (GD G) (Gcy G) (Gad G) (GX G) H.size (Gsh G) (GN G) S U ∧ SPre aK aV (va_A (GX G ++ wl (Gcy G) (Gad G) (Gsh G) (GN G) S) H.size) U ∧ vk_R RX10 29 TX aK U) (Value.ref (Gad G o) :: av (Gad G)).toArray U := fun U hU hW => ⟨rfl, ⟨by rw [hU], by rw [hU]; exact hP, va_K.moved hW.alike C.2.2.2.2.2.2.2.1, hD.weaken (fun _ _ _ _ => trivial), NW.warm hW C.2.2.2.2.2.2.2.2.2.1⟩, SPre.go hSP hS hA1 hU hW.alike, vk_R.warm hW hZ⟩
  refine va_callv (va_runI (As := av (Gad G)) (rest := st) ⟨C.1, C.2.1, C.2.2.1, C.2.2.2.1, C.2.2.2.2.1⟩ (hM (GD G) (Gcy G) (Gad G) (GX G) H.size) (cwI n9 C.2.2.2.2.1 (gdN hcode) rfl hr0.1 hr0.2 (C.2.2.2.2.1 _ hini) (C.2.2.2.2.1 _ hlk) (C.2.2.2.2.1 _ hins) hnm hd hroom) ⟨preAS_blind, pre⟩ rfl hlen hl.1 rfl (lv_room hW) hdg ⟨hk, hw⟩) hS (fun q _ h => hA1 q h) hA1 (fun u t H1 locs1 ht hvm hw2 hB hz hk2 hS1 => ?_)
  obtain ⟨hag, hq1, hI1⟩ := hw2
  have hP1 := hB.1
  rw [ht] at hP1
  have h := k u.1 u.2 hag hq1 hI1 H1 locs1 ls hP1 (hB.2.weaken (fun k q hk h => hA1 _ h)) hS1 (by rw [hl1 _ hag]; exact hl)
  rw [hs1 _ hag] at h
  exact h
end GoMake3
set_option maxRecDepth 100000 in
set_option maxHeartbeats 16000000 in
theorem c_X11_init (l : Launch) {aK aV : Nat} : MetAE aK aV l yX11_init (wB yX11_init cX11_init 2 none) rm_X11_init 122 8378 zS0 QC9 := by
  refine MetAE_of (cc := cX11_init) (maxL := 2) (ret := none) (plainFor_of_name (by decide)) rfl (fun _ => Nat.le_of_ble_eq_true rfl) (fun G C hl hQ hSP hZ hAO => ?_)
  subst hl
  have C : Cx (gset G (Gad G) 1 0 0) cX11_init BIG RX11 2 none rm_X11_init shE 1 := C
  have hI : IR 1 zS0 := IR_z0
  show Go (gset G (Gad G) 1 0 0) 2 0 [] [(0, .ref (Gad G 0))] zS0
  refine Go_aload_n (q := 1) C 0 rfl dX11_init_0 rfl ?_
  refine Go_objinit (q := 4) C wm_1_11 wm_1_12 wm_1_13 (by decide) (Nat.le_of_ble_eq_true rfl) dX11_init_1 rfl ?_
  refine Go_aload_n (q := 5) C 0 rfl dX11_init_4 rfl ?_
  refine Go_new (n := 1) (q := 8) (stF := fun ad => [.ref (ad (0))]) (lvF := fun ad => [(0, .ref (ad (0)))]) C ci10 iw_10 (by decide +kernel) wm_1_14 wm_1_15 wm_1_16 kE_1.2 hI rfl rfl (fun adz hz => by have g0 : adz (0) = (Gad G) (0) := hz (0) (by omega); simp only [g0]) (fun adz hz => by have g0 : adz (0) = (Gad G) (0) := hz (0) (by omega); simp only [g0]) (by exact Nat.le_of_ble_eq_true rfl) (by exact Nat.le_of_ble_eq_true rfl) dX11_init_5 rfl (fun ad5_0 hg5_0 hI => ?_)
  have hag : ∀ i, i < 1 → ad5_0 i = Gad G i := fun i hi => (hg5_0 i (by omega)).trans (rfl)
  have C1 : Cx (gset G ad5_0 (2) (1) (7)) cX11_init BIG RX11 2 none rm_X11_init shE (2) := Cx_gset C (by exact Nat.le_of_ble_eq_true rfl) (by exact Nat.le_of_ble_eq_true rfl)
  show Go (gset G ad5_0 (2) (1) (7)) 2 _ [.ref (ad5_0 (1)), .ref (ad5_0 (0))] [(0, .ref (ad5_0 (0)))] zS0
  refine Go_dup (q := 9) C1 rfl dX11_init_8 rfl ?_
  refine Go_callI_AS hSP hZ (n := 2) (n' := 7) (o := 1) (av := fun ad => []) (st := [.ref (ad5_0 (1)), .ref (ad5_0 (0))]) (stF := fun ad => [.ref (ad (1)), .ref (ad (0))]) (lvF := fun ad => [(0, .ref (ad (0)))]) (C := C1) (hM := c_X10_init (Gl G) (aK := aK) (aV := aV) (Q := fun S9 => S9 = zS1) hI (z_X10 (fun S9 e9 => e9))) (hlk := wm_3_8) (hini := wm_1_16) (hins := wm_3_9) (hcode := wm_3_10) (hnm := rfl) (n9 := 0) (hd := by decide +kernel) (hr0 := ⟨rfl, rfl⟩) (hroom := ⟨by decide, by decide⟩) (hlen := rfl) (hst := rfl) (hW := Nat.le_of_ble_eq_true rfl) (hstF := rfl) (hs1 := (fun adz hz => by have g0 : adz (1) = ad5_0 (1) := hz (1) (by omega); have g1 : adz (0) = ad5_0 (0) := hz (0) (by omega); simp only [g0, g1])) (hl1 := (fun adz hz => by have g0 : adz (0) = ad5_0 (0) := hz (0) (by omega); simp only [g0])) (hk := by exact Nat.le_of_ble_eq_true rfl) (hw := by exact Nat.le_of_ble_eq_true rfl) (hdg := dX11_init_9) (q := 12) (hq := rfl) (fun ad9_1 S9 hg9_1 hw hI => ?_)
  have hw : S9 = zS1 := hw
  subst hw
  have hag : ∀ i, i < 1 → ad9_1 i = Gad G i := fun i hi => (hg9_1 i (by omega)).trans (hag i hi)
  have C2 : Cx (gset G ad9_1 (7) (6) (4034)) cX11_init BIG RX11 2 none rm_X11_init shE (7) := Cx_gset C (by exact Nat.le_of_ble_eq_true rfl) (by exact Nat.le_of_ble_eq_true rfl)
  show Go (gset G ad9_1 (7) (6) (4034)) 2 _ [.ref (ad9_1 (1)), .ref (ad9_1 (0))] [(0, .ref (ad9_1 (0)))] zS1
  refine Go_putF (k := 0) (q := 15) C2 hQ.2 ci11 iw_11 (okn kE_0 (by omega)) rfl wm_1_17 rfl rfl rfl (ci11.2.2.2.1 0 (by decide)) rfl rfl dX11_init_12 rfl (fun S9 e9 => ?_)
  have e9 : S9 = zS2 := e9
  subst e9
  have hI := irR (rfl : zS2 = sR zS1 0 0 (some 1)) (by omega) (by omega) hI
  refine Go_aload_n (q := 16) C2 0 rfl dX11_init_15 rfl ?_
  refine Go_new (n := 7) (q := 19) (stF := fun ad => [.ref (ad (0))]) (lvF := fun ad => [(0, .ref (ad (0)))]) C2 ci8 iw_8 (by decide +kernel) wm_1_18 wm_1_19 wm_1_20 kE_7.2 hI rfl rfl (fun adz hz => by have g0 : adz (0) = ad9_1 (0) := hz (0) (by omega); simp only [g0]) (fun adz hz => by have g0 : adz (0) = ad9_1 (0) := hz (0) (by omega); simp only [g0]) (by exact Nat.le_of_ble_eq_true rfl) (by exact Nat.le_of_ble_eq_true rfl) dX11_init_16 rfl (fun ad16_2 hg16_2 hI => ?_)
  have hag : ∀ i, i < 1 → ad16_2 i = Gad G i := fun i hi => (hg16_2 i (by omega)).trans (hag i hi)
  have C3 : Cx (gset G ad16_2 (8) (7) (4043)) cX11_init BIG RX11 2 none rm_X11_init shE (8) := Cx_gset C (by exact Nat.le_of_ble_eq_true rfl) (by exact Nat.le_of_ble_eq_true rfl)
  show Go (gset G ad16_2 (8) (7) (4043)) 2 _ [.ref (ad16_2 (7)), .ref (ad16_2 (0))] [(0, .ref (ad16_2 (0)))] zS2
  refine Go_dup (q := 20) C3 rfl dX11_init_19 rfl ?_
  refine Go_aload_n (q := 21) C3 0 rfl dX11_init_20 rfl ?_
  refine Go_getA (q := 24) (k := 0) C3 ci11 iw_11 (okn kE_0 (by omega)) (show gR zS2 0 0 = some 1 by decide +kernel) rfl wm_1_17 rfl dX11_init_21 rfl ?_
  refine Go_callI_A (n := 8) (n' := 21) (o := 7) (av := fun ad => [.ref (ad (1))]) (st := [.ref (ad16_2 (7)), .ref (ad16_2 (0))]) (stF := fun ad => [.ref (ad (7)), .ref (ad (0))]) (lvF := fun ad => [(0, .ref (ad (0)))]) (C := C3) (hM := c_X8_init (Gl G) (Q := fun S9 => S9 = zS3) hI (z_X8 (fun S9 e9 => e9))) (hlk := wm_6_1) (hini := wm_1_20) (hins := wm_6_2) (hcode := wm_6_3) (hnm := rfl) (n9 := 1) (hd := by decide +kernel) (hr0 := ⟨rfl, rfl⟩) (hroom := ⟨by decide, by decide⟩) (hlen := rfl) (hst := rfl) (hW := Nat.le_of_ble_eq_true rfl) (hstF := rfl) (hs1 := (fun adz hz => by have g0 : adz (7) = ad16_2 (7) := hz (7) (by omega); have g1 : adz (0) = ad16_2 (0) := hz (0) (by omega); simp only [g0, g1])) (hl1 := (fun adz hz => by have g0 : adz (0) = ad16_2 (0) := hz (0) (by omega); simp only [g0])) (hk := by exact Nat.le_of_ble_eq_true rfl) (hw := by exact Nat.le_of_ble_eq_true rfl) (hdg := dX11_init_24) (q := 27) (hq := rfl) (fun ad24_3 S9 hg24_3 hw hI => ?_)
  have hw : S9 = zS3 := hw
  subst hw
  have hag : ∀ i, i < 1 → ad24_3 i = Gad G i := fun i hi => (hg24_3 i (by omega)).trans (hag i hi)
  have C4 : Cx (gset G ad24_3 (21) (20) (5202)) cX11_init BIG RX11 2 none rm_X11_init shE (21) := Cx_gset C (by exact Nat.le_of_ble_eq_true rfl) (by exact Nat.le_of_ble_eq_true rfl)
  show Go (gset G ad24_3 (21) (20) (5202)) 2 _ [.ref (ad24_3 (7)), .ref (ad24_3 (0))] [(0, .ref (ad24_3 (0)))] zS3
  refine Go_putF (k := 1) (q := 30) C4 hQ.2 ci11 iw_11 (okn kE_0 (by omega)) rfl wm_1_21 rfl rfl rfl (ci11.2.2.2.1 1 (by decide)) rfl rfl dX11_init_27 rfl (fun S9 e9 => ?_)
  have e9 : S9 = zS4 := e9
  subst e9
  have hI := irR (rfl : zS4 = sR zS3 0 1 (some 7)) (by omega) (by omega) hI
  refine Go_aload_n (q := 31) C4 0 rfl dX11_init_30 rfl ?_
  refine Go_new (n := 21) (q := 34) (stF := fun ad => [.ref (ad (0))]) (lvF := fun ad => [(0, .ref (ad (0)))]) C4 ci4 iw_4 (by decide +kernel) wm_1_22 wm_1_23 wm_2_0 kE_21.2 hI rfl rfl (fun adz hz => by have g0 : adz (0) = ad24_3 (0) := hz (0) (by omega); simp only [g0]) (fun adz hz => by have g0 : adz (0) = ad24_3 (0) := hz (0) (by omega); simp only [g0]) (by exact Nat.le_of_ble_eq_true rfl) (by exact Nat.le_of_ble_eq_true rfl) dX11_init_31 rfl (fun ad31_4 hg31_4 hI => ?_)
  have hag : ∀ i, i < 1 → ad31_4 i = Gad G i := fun i hi => (hg31_4 i (by omega)).trans (hag i hi)
  have C5 : Cx (gset G ad31_4 (22) (21) (5217)) cX11_init BIG RX11 2 none rm_X11_init shE (22) := Cx_gset C (by exact Nat.le_of_ble_eq_true rfl) (by exact Nat.le_of_ble_eq_true rfl)
  show Go (gset G ad31_4 (22) (21) (5217)) 2 _ [.ref (ad31_4 (21)), .ref (ad31_4 (0))] [(0, .ref (ad31_4 (0)))] zS4
  refine Go_dup (q := 35) C5 rfl dX11_init_34 rfl ?_
  refine Go_callIN_A (n := 22) (n' := 30) (o := 21) (av := fun ad => []) (st := [.ref (ad31_4 (21)), .ref (ad31_4 (0))]) (stF := fun ad => [.ref (ad (21)), .ref (ad (0))]) (lvF := fun ad => [(0, .ref (ad (0)))]) (C := C5) (hM := c_X4_init (Gl G) isE4_21 (Q := fun S9 => S9 = zS5) hI (z_X4 (fun S9 e9 => e9))) (host := "EndsRound") (hnw := nw_68) (hini := wm_2_0) (hins := wm_6_18) (hcode := wm_6_19) (hnm := rfl) (n9 := 0) (hd := by decide +kernel) (hr0 := ⟨rfl, rfl⟩) (hroom := ⟨by decide, by decide⟩) (hlen := rfl) (hst := rfl) (hW := Nat.le_of_ble_eq_true rfl) (hstF := rfl) (hs1 := (fun adz hz => by have g0 : adz (21) = ad31_4 (21) := hz (21) (by omega); have g1 : adz (0) = ad31_4 (0) := hz (0) (by omega); simp only [g0, g1])) (hl1 := (fun adz hz => by have g0 : adz (0) = ad31_4 (0) := hz (0) (by omega); simp only [g0])) (hk := by exact Nat.le_of_ble_eq_true rfl) (hw := by exact Nat.le_of_ble_eq_true rfl) (hdg := dX11_init_35) (q := 38) (hq := rfl) (fun ad35_5 S9 hg35_5 hw hI => ?_)
  have hw : S9 = zS5 := hw
  subst hw
  have hag : ∀ i, i < 1 → ad35_5 i = Gad G i := fun i hi => (hg35_5 i (by omega)).trans (hag i hi)
  have C6 : Cx (gset G ad35_5 (30) (29) (5313)) cX11_init BIG RX11 2 none rm_X11_init shE (30) := Cx_gset C (by exact Nat.le_of_ble_eq_true rfl) (by exact Nat.le_of_ble_eq_true rfl)
  show Go (gset G ad35_5 (30) (29) (5313)) 2 _ [.ref (ad35_5 (21)), .ref (ad35_5 (0))] [(0, .ref (ad35_5 (0)))] zS5
  refine Go_putF (k := 2) (q := 41) C6 hQ.2 ci11 iw_11 (okn kE_0 (by omega)) rfl wm_2_1 rfl rfl rfl (ci11.2.2.2.1 2 (by decide)) rfl rfl dX11_init_38 rfl (fun S9 e9 => ?_)
  have e9 : S9 = zS6 := e9
  subst e9
  have hI := irR (rfl : zS6 = sR zS5 0 2 (some 21)) (by omega) (by omega) hI
  refine Go_aload_n (q := 42) C6 0 rfl dX11_init_41 rfl ?_
  refine Go_new (n := 30) (q := 45) (stF := fun ad => [.ref (ad (0))]) (lvF := fun ad => [(0, .ref (ad (0)))]) C6 ci2 iw_2 (by decide +kernel) wm_2_2 wm_2_3 wm_2_4 kE_30.2 hI rfl rfl (fun adz hz => by have g0 : adz (0) = ad35_5 (0) := hz (0) (by omega); simp only [g0]) (fun adz hz => by have g0 : adz (0) = ad35_5 (0) := hz (0) (by omega); simp only [g0]) (by exact Nat.le_of_ble_eq_true rfl) (by exact Nat.le_of_ble_eq_true rfl) dX11_init_42 rfl (fun ad42_6 hg42_6 hI => ?_)
  have hag : ∀ i, i < 1 → ad42_6 i = Gad G i := fun i hi => (hg42_6 i (by omega)).trans (hag i hi)
  have C7 : Cx (gset G ad42_6 (31) (30) (5317)) cX11_init BIG RX11 2 none rm_X11_init shE (31) := Cx_gset C (by exact Nat.le_of_ble_eq_true rfl) (by exact Nat.le_of_ble_eq_true rfl)
  show Go (gset G ad42_6 (31) (30) (5317)) 2 _ [.ref (ad42_6 (30)), .ref (ad42_6 (0))] [(0, .ref (ad42_6 (0)))] zS6
  refine Go_dup (q := 46) C7 rfl dX11_init_45 rfl ?_
  refine Go_callIN_A (n := 31) (n' := 34) (o := 30) (av := fun ad => []) (st := [.ref (ad42_6 (30)), .ref (ad42_6 (0))]) (stF := fun ad => [.ref (ad (30)), .ref (ad (0))]) (lvF := fun ad => [(0, .ref (ad (0)))]) (C := C7) (hM := c_X2_init (Gl G) isE2_30 (Q := fun S9 => S9 = zS7) hI (z_X2 (fun S9 e9 => e9))) (host := "EndsRound") (hnw := nw_69) (hini := wm_2_4) (hins := wm_7_5) (hcode := wm_7_6) (hnm := rfl) (n9 := 0) (hd := by decide +kernel) (hr0 := ⟨rfl, rfl⟩) (hroom := ⟨by decide, by decide⟩) (hlen := rfl) (hst := rfl) (hW := Nat.le_of_ble_eq_true rfl) (hstF := rfl) (hs1 := (fun adz hz => by have g0 : adz (30) = ad42_6 (30) := hz (30) (by omega); have g1 : adz (0) = ad42_6 (0) := hz (0) (by omega); simp only [g0, g1])) (hl1 := (fun adz hz => by have g0 : adz (0) = ad42_6 (0) := hz (0) (by omega); simp only [g0])) (hk := by exact Nat.le_of_ble_eq_true rfl) (hw := by exact Nat.le_of_ble_eq_true rfl) (hdg := dX11_init_46) (q := 49) (hq := rfl) (fun ad46_7 S9 hg46_7 hw hI => ?_)
  have hw : S9 = zS7 := hw
  subst hw
  have hag : ∀ i, i < 1 → ad46_7 i = Gad G i := fun i hi => (hg46_7 i (by omega)).trans (hag i hi)
  have C8 : Cx (gset G ad46_7 (34) (33) (5497)) cX11_init BIG RX11 2 none rm_X11_init shE (34) := Cx_gset C (by exact Nat.le_of_ble_eq_true rfl) (by exact Nat.le_of_ble_eq_true rfl)
  show Go (gset G ad46_7 (34) (33) (5497)) 2 _ [.ref (ad46_7 (30)), .ref (ad46_7 (0))] [(0, .ref (ad46_7 (0)))] zS7
  refine Go_putF (k := 3) (q := 52) C8 hQ.2 ci11 iw_11 (okn kE_0 (by omega)) rfl wm_2_5 rfl rfl rfl (ci11.2.2.2.1 3 (by decide)) rfl rfl dX11_init_49 rfl (fun S9 e9 => ?_)
  have e9 : S9 = zS8 := e9
  subst e9
  have hI := irR (rfl : zS8 = sR zS7 0 3 (some 30)) (by omega) (by omega) hI
  refine Go_aload_n (q := 53) C8 0 rfl dX11_init_52 rfl ?_
  refine Go_new (n := 34) (q := 56) (stF := fun ad => [.ref (ad (0))]) (lvF := fun ad => [(0, .ref (ad (0)))]) C8 ci9 iw_9 (by decide +kernel) wm_2_6 wm_2_7 wm_2_8 kE_34.2 hI rfl rfl (fun adz hz => by have g0 : adz (0) = ad46_7 (0) := hz (0) (by omega); simp only [g0]) (fun adz hz => by have g0 : adz (0) = ad46_7 (0) := hz (0) (by omega); simp only [g0]) (by exact Nat.le_of_ble_eq_true rfl) (by exact Nat.le_of_ble_eq_true rfl) dX11_init_53 rfl (fun ad53_8 hg53_8 hI => ?_)
  have hag : ∀ i, i < 1 → ad53_8 i = Gad G i := fun i hi => (hg53_8 i (by omega)).trans (hag i hi)
  have C9 : Cx (gset G ad53_8 (35) (34) (5505)) cX11_init BIG RX11 2 none rm_X11_init shE (35) := Cx_gset C (by exact Nat.le_of_ble_eq_true rfl) (by exact Nat.le_of_ble_eq_true rfl)
  show Go (gset G ad53_8 (35) (34) (5505)) 2 _ [.ref (ad53_8 (34)), .ref (ad53_8 (0))] [(0, .ref (ad53_8 (0)))] zS8
  refine Go_dup (q := 57) C9 rfl dX11_init_56 rfl ?_
  refine Go_callIN_A (n := 35) (n' := 43) (o := 34) (av := fun ad => []) (st := [.ref (ad53_8 (34)), .ref (ad53_8 (0))]) (stF := fun ad => [.ref (ad (34)), .ref (ad (0))]) (lvF := fun ad => [(0, .ref (ad (0)))]) (C := C9) (hM := c_X9_init (Gl G) (Q := fun S9 => S9 = zS9) hI (z_X9 (fun S9 e9 => e9))) (host := "EndsRound") (hnw := nw_70) (hini := wm_2_8) (hins := wm_7_11) (hcode := wm_7_12) (hnm := rfl) (n9 := 0) (hd := by decide +kernel) (hr0 := ⟨rfl, rfl⟩) (hroom := ⟨by decide, by decide⟩) (hlen := rfl) (hst := rfl) (hW := Nat.le_of_ble_eq_true rfl) (hstF := rfl) (hs1 := (fun adz hz => by have g0 : adz (34) = ad53_8 (34) := hz (34) (by omega); have g1 : adz (0) = ad53_8 (0) := hz (0) (by omega); simp only [g0, g1])) (hl1 := (fun adz hz => by have g0 : adz (0) = ad53_8 (0) := hz (0) (by omega); simp only [g0])) (hk := by exact Nat.le_of_ble_eq_true rfl) (hw := by exact Nat.le_of_ble_eq_true rfl) (hdg := dX11_init_57) (q := 60) (hq := rfl) (fun ad57_9 S9 hg57_9 hw hI => ?_)
  have hw : S9 = zS9 := hw
  subst hw
  have hag : ∀ i, i < 1 → ad57_9 i = Gad G i := fun i hi => (hg57_9 i (by omega)).trans (hag i hi)
  have C10 : Cx (gset G ad57_9 (43) (42) (5915)) cX11_init BIG RX11 2 none rm_X11_init shE (43) := Cx_gset C (by exact Nat.le_of_ble_eq_true rfl) (by exact Nat.le_of_ble_eq_true rfl)
  show Go (gset G ad57_9 (43) (42) (5915)) 2 _ [.ref (ad57_9 (34)), .ref (ad57_9 (0))] [(0, .ref (ad57_9 (0)))] zS9
  refine Go_putF (k := 4) (q := 63) C10 hQ.2 ci11 iw_11 (okn kE_0 (by omega)) rfl wm_2_9 rfl rfl rfl (ci11.2.2.2.1 4 (by decide)) rfl rfl dX11_init_60 rfl (fun S9 e9 => ?_)
  have e9 : S9 = zS10 := e9
  subst e9
  have hI := irR (rfl : zS10 = sR zS9 0 4 (some 34)) (by omega) (by omega) hI
  refine Go_aload_n (q := 64) C10 0 rfl dX11_init_63 rfl ?_
  refine Go_new (n := 43) (q := 67) (stF := fun ad => [.ref (ad (0))]) (lvF := fun ad => [(0, .ref (ad (0)))]) C10 ci3 iw_3 (by decide +kernel) wm_2_10 wm_2_11 wm_2_12 kE_43.2 hI rfl rfl (fun adz hz => by have g0 : adz (0) = ad57_9 (0) := hz (0) (by omega); simp only [g0]) (fun adz hz => by have g0 : adz (0) = ad57_9 (0) := hz (0) (by omega); simp only [g0]) (by exact Nat.le_of_ble_eq_true rfl) (by exact Nat.le_of_ble_eq_true rfl) dX11_init_64 rfl (fun ad64_10 hg64_10 hI => ?_)
  have hag : ∀ i, i < 1 → ad64_10 i = Gad G i := fun i hi => (hg64_10 i (by omega)).trans (hag i hi)
  have C11 : Cx (gset G ad64_10 (44) (43) (5930)) cX11_init BIG RX11 2 none rm_X11_init shE (44) := Cx_gset C (by exact Nat.le_of_ble_eq_true rfl) (by exact Nat.le_of_ble_eq_true rfl)
  show Go (gset G ad64_10 (44) (43) (5930)) 2 _ [.ref (ad64_10 (43)), .ref (ad64_10 (0))] [(0, .ref (ad64_10 (0)))] zS10
  refine Go_dup (q := 68) C11 rfl dX11_init_67 rfl ?_
  refine Go_aload_n (q := 69) C11 0 rfl dX11_init_68 rfl ?_
  refine Go_getA (q := 72) (k := 2) C11 ci11 iw_11 (okn kE_0 (by omega)) (show gR zS10 0 2 = some 21 by decide +kernel) rfl wm_2_1 rfl dX11_init_69 rfl ?_
  refine Go_aload_n (q := 73) C11 0 rfl dX11_init_72 rfl ?_
  refine Go_getA (q := 76) (k := 4) C11 ci11 iw_11 (okn kE_0 (by omega)) (show gR zS10 0 4 = some 34 by decide +kernel) rfl wm_2_9 rfl dX11_init_73 rfl ?_
  refine Go_callI_A (n := 44) (n' := 50) (o := 43) (av := fun ad => [.ref (ad (21)), .ref (ad (34))]) (st := [.ref (ad64_10 (43)), .ref (ad64_10 (0))]) (stF := fun ad => [.ref (ad (43)), .ref (ad (0))]) (lvF := fun ad => [(0, .ref (ad (0)))]) (C := C11) (hM := c_X3_init (Gl G) (Q := fun S9 => S9 = zS11) hI (z_X3 (fun S9 e9 => e9))) (hlk := wm_8_3) (hini := wm_2_12) (hins := wm_8_4) (hcode := wm_8_5) (hnm := rfl) (n9 := 2) (hd := by decide +kernel) (hr0 := ⟨rfl, rfl⟩) (hroom := ⟨by decide, by decide⟩) (hlen := rfl) (hst := rfl) (hW := Nat.le_of_ble_eq_true rfl) (hstF := rfl) (hs1 := (fun adz hz => by have g0 : adz (43) = ad64_10 (43) := hz (43) (by omega); have g1 : adz (0) = ad64_10 (0) := hz (0) (by omega); simp only [g0, g1])) (hl1 := (fun adz hz => by have g0 : adz (0) = ad64_10 (0) := hz (0) (by omega); simp only [g0])) (hk := by exact Nat.le_of_ble_eq_true rfl) (hw := by exact Nat.le_of_ble_eq_true rfl) (hdg := dX11_init_76) (q := 79) (hq := rfl) (fun ad76_11 S9 hg76_11 hw hI => ?_)
  have hw : S9 = zS11 := hw
  subst hw
  have hag : ∀ i, i < 1 → ad76_11 i = Gad G i := fun i hi => (hg76_11 i (by omega)).trans (hag i hi)
  have C12 : Cx (gset G ad76_11 (50) (49) (6145)) cX11_init BIG RX11 2 none rm_X11_init shE (50) := Cx_gset C (by exact Nat.le_of_ble_eq_true rfl) (by exact Nat.le_of_ble_eq_true rfl)
  show Go (gset G ad76_11 (50) (49) (6145)) 2 _ [.ref (ad76_11 (43)), .ref (ad76_11 (0))] [(0, .ref (ad76_11 (0)))] zS11
  refine Go_putF (k := 5) (q := 82) C12 hQ.2 ci11 iw_11 (okn kE_0 (by omega)) rfl wm_2_13 rfl rfl rfl (ci11.2.2.2.1 5 (by decide)) rfl rfl dX11_init_79 rfl (fun S9 e9 => ?_)
  have e9 : S9 = zS12 := e9
  subst e9
  have hI := irR (rfl : zS12 = sR zS11 0 5 (some 43)) (by omega) (by omega) hI
  refine Go_aload_n (q := 83) C12 0 rfl dX11_init_82 rfl ?_
  refine Go_new (n := 50) (q := 86) (stF := fun ad => [.ref (ad (0))]) (lvF := fun ad => [(0, .ref (ad (0)))]) C12 ci6 iw_6 (by decide +kernel) wm_2_14 wm_2_15 wm_2_16 kE_50.2 hI rfl rfl (fun adz hz => by have g0 : adz (0) = ad76_11 (0) := hz (0) (by omega); simp only [g0]) (fun adz hz => by have g0 : adz (0) = ad76_11 (0) := hz (0) (by omega); simp only [g0]) (by exact Nat.le_of_ble_eq_true rfl) (by exact Nat.le_of_ble_eq_true rfl) dX11_init_83 rfl (fun ad83_12 hg83_12 hI => ?_)
  have hag : ∀ i, i < 1 → ad83_12 i = Gad G i := fun i hi => (hg83_12 i (by omega)).trans (hag i hi)
  have C13 : Cx (gset G ad83_12 (51) (50) (6155)) cX11_init BIG RX11 2 none rm_X11_init shE (51) := Cx_gset C (by exact Nat.le_of_ble_eq_true rfl) (by exact Nat.le_of_ble_eq_true rfl)
  show Go (gset G ad83_12 (51) (50) (6155)) 2 _ [.ref (ad83_12 (50)), .ref (ad83_12 (0))] [(0, .ref (ad83_12 (0)))] zS12
  refine Go_dup (q := 87) C13 rfl dX11_init_86 rfl ?_
  refine Go_aload_n (q := 88) C13 0 rfl dX11_init_87 rfl ?_
  refine Go_getA (q := 91) (k := 2) C13 ci11 iw_11 (okn kE_0 (by omega)) (show gR zS12 0 2 = some 21 by decide +kernel) rfl wm_2_1 rfl dX11_init_88 rfl ?_
  refine Go_aload_n (q := 92) C13 0 rfl dX11_init_91 rfl ?_
  refine Go_getA (q := 95) (k := 4) C13 ci11 iw_11 (okn kE_0 (by omega)) (show gR zS12 0 4 = some 34 by decide +kernel) rfl wm_2_9 rfl dX11_init_92 rfl ?_
  refine Go_aload_n (q := 96) C13 0 rfl dX11_init_95 rfl ?_
  refine Go_getA (q := 99) (k := 3) C13 ci11 iw_11 (okn kE_0 (by omega)) (show gR zS12 0 3 = some 30 by decide +kernel) rfl wm_2_5 rfl dX11_init_96 rfl ?_
  refine Go_callI_A (n := 51) (n' := 56) (o := 50) (av := fun ad => [.ref (ad (21)), .ref (ad (34)), .ref (ad (30))]) (st := [.ref (ad83_12 (50)), .ref (ad83_12 (0))]) (stF := fun ad => [.ref (ad (50)), .ref (ad (0))]) (lvF := fun ad => [(0, .ref (ad (0)))]) (C := C13) (hM := c_X6_init (Gl G) (Q := fun S9 => S9 = zS13) hI (z_X6 (fun S9 e9 => e9))) (hlk := wm_8_15) (hini := wm_2_16) (hins := wm_8_16) (hcode := wm_8_17) (hnm := rfl) (n9 := 3) (hd := by decide +kernel) (hr0 := ⟨rfl, rfl⟩) (hroom := ⟨by decide, by decide⟩) (hlen := rfl) (hst := rfl) (hW := Nat.le_of_ble_eq_true rfl) (hstF := rfl) (hs1 := (fun adz hz => by have g0 : adz (50) = ad83_12 (50) := hz (50) (by omega); have g1 : adz (0) = ad83_12 (0) := hz (0) (by omega); simp only [g0, g1])) (hl1 := (fun adz hz => by have g0 : adz (0) = ad83_12 (0) := hz (0) (by omega); simp only [g0])) (hk := by exact Nat.le_of_ble_eq_true rfl) (hw := by exact Nat.le_of_ble_eq_true rfl) (hdg := dX11_init_99) (q := 102) (hq := rfl) (fun ad99_13 S9 hg99_13 hw hI => ?_)
  have hw : S9 = zS13 := hw
  subst hw
  have hag : ∀ i, i < 1 → ad99_13 i = Gad G i := fun i hi => (hg99_13 i (by omega)).trans (hag i hi)
  have C14 : Cx (gset G ad99_13 (56) (55) (6514)) cX11_init BIG RX11 2 none rm_X11_init shE (56) := Cx_gset C (by exact Nat.le_of_ble_eq_true rfl) (by exact Nat.le_of_ble_eq_true rfl)
  show Go (gset G ad99_13 (56) (55) (6514)) 2 _ [.ref (ad99_13 (50)), .ref (ad99_13 (0))] [(0, .ref (ad99_13 (0)))] zS13
  refine Go_putF (k := 6) (q := 105) C14 hQ.2 ci11 iw_11 (okn kE_0 (by omega)) rfl wm_2_17 rfl rfl rfl (ci11.2.2.2.1 6 (by decide)) rfl rfl dX11_init_102 rfl (fun S9 e9 => ?_)
  have e9 : S9 = zS14 := e9
  subst e9
  have hI := irR (rfl : zS14 = sR zS13 0 6 (some 50)) (by omega) (by omega) hI
  refine Go_aload_n (q := 106) C14 0 rfl dX11_init_105 rfl ?_
  refine Go_new (n := 56) (q := 109) (stF := fun ad => [.ref (ad (0))]) (lvF := fun ad => [(0, .ref (ad (0)))]) C14 ci7 iw_7 (by decide +kernel) wm_2_18 wm_2_19 wm_2_20 kE_56.2 hI rfl rfl (fun adz hz => by have g0 : adz (0) = ad99_13 (0) := hz (0) (by omega); simp only [g0]) (fun adz hz => by have g0 : adz (0) = ad99_13 (0) := hz (0) (by omega); simp only [g0]) (by exact Nat.le_of_ble_eq_true rfl) (by exact Nat.le_of_ble_eq_true rfl) dX11_init_106 rfl (fun ad106_14 hg106_14 hI => ?_)
  have hag : ∀ i, i < 1 → ad106_14 i = Gad G i := fun i hi => (hg106_14 i (by omega)).trans (hag i hi)
  have C15 : Cx (gset G ad106_14 (57) (56) (6522)) cX11_init BIG RX11 2 none rm_X11_init shE (57) := Cx_gset C (by exact Nat.le_of_ble_eq_true rfl) (by exact Nat.le_of_ble_eq_true rfl)
  show Go (gset G ad106_14 (57) (56) (6522)) 2 _ [.ref (ad106_14 (56)), .ref (ad106_14 (0))] [(0, .ref (ad106_14 (0)))] zS14
  refine Go_dup (q := 110) C15 rfl dX11_init_109 rfl ?_
  refine Go_aload_n (q := 111) C15 0 rfl dX11_init_110 rfl ?_
  refine Go_getA (q := 114) (k := 2) C15 ci11 iw_11 (okn kE_0 (by omega)) (show gR zS14 0 2 = some 21 by decide +kernel) rfl wm_2_1 rfl dX11_init_111 rfl ?_
  refine Go_callI_A (n := 57) (n' := 63) (o := 56) (av := fun ad => [.ref (ad (21))]) (st := [.ref (ad106_14 (56)), .ref (ad106_14 (0))]) (stF := fun ad => [.ref (ad (56)), .ref (ad (0))]) (lvF := fun ad => [(0, .ref (ad (0)))]) (C := C15) (hM := c_X7_init (Gl G) (Q := fun S9 => S9 = zS15) hI (z_X7 (fun S9 e9 => e9))) (hlk := wm_9_3) (hini := wm_2_20) (hins := wm_9_4) (hcode := wm_9_5) (hnm := rfl) (n9 := 1) (hd := by decide +kernel) (hr0 := ⟨rfl, rfl⟩) (hroom := ⟨by decide, by decide⟩) (hlen := rfl) (hst := rfl) (hW := Nat.le_of_ble_eq_true rfl) (hstF := rfl) (hs1 := (fun adz hz => by have g0 : adz (56) = ad106_14 (56) := hz (56) (by omega); have g1 : adz (0) = ad106_14 (0) := hz (0) (by omega); simp only [g0, g1])) (hl1 := (fun adz hz => by have g0 : adz (0) = ad106_14 (0) := hz (0) (by omega); simp only [g0])) (hk := by exact Nat.le_of_ble_eq_true rfl) (hw := by exact Nat.le_of_ble_eq_true rfl) (hdg := dX11_init_114) (q := 117) (hq := rfl) (fun ad114_15 S9 hg114_15 hw hI => ?_)
  have hw : S9 = zS15 := hw
  subst hw
  have hag : ∀ i, i < 1 → ad114_15 i = Gad G i := fun i hi => (hg114_15 i (by omega)).trans (hag i hi)
  have C16 : Cx (gset G ad114_15 (63) (62) (6776)) cX11_init BIG RX11 2 none rm_X11_init shE (63) := Cx_gset C (by exact Nat.le_of_ble_eq_true rfl) (by exact Nat.le_of_ble_eq_true rfl)
  show Go (gset G ad114_15 (63) (62) (6776)) 2 _ [.ref (ad114_15 (56)), .ref (ad114_15 (0))] [(0, .ref (ad114_15 (0)))] zS15
  refine Go_putF (k := 7) (q := 120) C16 hQ.2 ci11 iw_11 (okn kE_0 (by omega)) rfl wm_2_21 rfl rfl rfl (ci11.2.2.2.1 7 (by decide)) rfl rfl dX11_init_117 rfl (fun S9 e9 => ?_)
  have e9 : S9 = zS16 := e9
  subst e9
  have hI := irR (rfl : zS16 = sR zS15 0 7 (some 56)) (by omega) (by omega) hI
  refine Go_aload_n (q := 121) C16 0 rfl dX11_init_120 rfl ?_
  refine Go_iconst (q := 122) (v := (4 : Int32)) C16 dX11_init_121 rfl rfl ?_
  refine Go_newa_m (n := 63) (len := 4) (q := 125) (stF := fun ad => [.ref (ad (0))]) (lvF := fun ad => [(0, .ref (ad (0)))]) C16 wm_2_22 hAO (by decide) rfl (by decide) kE_63.2 hI rfl rfl (fun adz hz => by have g0 : adz (0) = ad114_15 (0) := hz (0) (by omega); simp only [g0]) (fun adz hz => by have g0 : adz (0) = ad114_15 (0) := hz (0) (by omega); simp only [g0]) (by exact Nat.le_of_ble_eq_true rfl) (by exact Nat.le_of_ble_eq_true rfl) dX11_init_122 rfl (fun ad122_16 hg122_16 hI => ?_)
  have hag : ∀ i, i < 1 → ad122_16 i = Gad G i := fun i hi => (hg122_16 i (by omega)).trans (hag i hi)
  have C17 : Cx (gset G ad122_16 (64) (63) (6780)) cX11_init BIG RX11 2 none rm_X11_init shE (64) := Cx_gset C (by exact Nat.le_of_ble_eq_true rfl) (by exact Nat.le_of_ble_eq_true rfl)
  show Go (gset G ad122_16 (64) (63) (6780)) 2 _ [.ref (ad122_16 (63)), .ref (ad122_16 (0))] [(0, .ref (ad122_16 (0)))] zS16
  refine Go_putF (k := 8) (q := 128) C17 hQ.2 ci11 iw_11 (okn kE_0 (by omega)) rfl wm_2_23 rfl rfl rfl (ci11.2.2.2.1 8 (by decide)) rfl rfl dX11_init_125 rfl (fun S9 e9 => ?_)
  have e9 : S9 = zS17 := e9
  subst e9
  have hI := irR (rfl : zS17 = sR zS16 0 8 (some 63)) (by omega) (by omega) hI
  refine Go_iconst (q := 129) (v := (0 : Int32)) C17 dX11_init_128 rfl rfl ?_
  refine Go_istore_n (q := 130) (lv' := [(1, .int (0 : Int32)), (0, .ref (ad122_16 (0)))]) C17 rfl dX11_init_129 (by decide) rfl rfl ?_
  refine Go_iload_n (q := 131) C17 0 rfl dX11_init_130 rfl ?_
  refine Go_iconst (q := 132) (v := (4 : Int32)) C17 dX11_init_131 rfl rfl ?_
  refine Go_icmp_ge (t := 154) (q := 135) C17 dec_if dX11_init_132 rfl rfl (fun h => absurd h (by decide)) (fun _ => ?_)
  refine Go_aload_n (q := 136) C17 1 rfl dX11_init_135 rfl ?_
  refine Go_getA (q := 139) (k := 8) C17 ci11 iw_11 (okn kE_0 (by omega)) (show gR zS17 0 8 = some 63 by decide +kernel) rfl wm_2_23 rfl dX11_init_136 rfl ?_
  refine Go_iload_n (q := 140) C17 0 rfl dX11_init_139 rfl ?_
  refine Go_new (n := 64) (q := 143) (stF := fun ad => [.int (0 : Int32), .ref (ad (63))]) (lvF := fun ad => [(1, .int (0 : Int32)), (0, .ref (ad (0)))]) C17 ci5 iw_5 (by decide +kernel) wm_2_22 wm_3_0 wm_3_1 kE_64.2 hI rfl rfl (fun adz hz => by have g0 : adz (63) = ad122_16 (63) := hz (63) (by omega); simp only [g0]) (fun adz hz => by have g0 : adz (0) = ad122_16 (0) := hz (0) (by omega); simp only [g0]) (by exact Nat.le_of_ble_eq_true rfl) (by exact Nat.le_of_ble_eq_true rfl) dX11_init_140 rfl (fun ad140_17 hg140_17 hI => ?_)
  have hag : ∀ i, i < 1 → ad140_17 i = Gad G i := fun i hi => (hg140_17 i (by omega)).trans (hag i hi)
  have C18 : Cx (gset G ad140_17 (65) (64) (6783)) cX11_init BIG RX11 2 none rm_X11_init shE (65) := Cx_gset C (by exact Nat.le_of_ble_eq_true rfl) (by exact Nat.le_of_ble_eq_true rfl)
  show Go (gset G ad140_17 (65) (64) (6783)) 2 _ [.ref (ad140_17 (64)), .int (0 : Int32), .ref (ad140_17 (63))] [(1, .int (0 : Int32)), (0, .ref (ad140_17 (0)))] zS17
  refine Go_dup (q := 144) C18 rfl dX11_init_143 rfl ?_
  refine Go_callIN_A (n := 65) (n' := 78) (o := 64) (av := fun ad => []) (st := [.ref (ad140_17 (64)), .int (0 : Int32), .ref (ad140_17 (63))]) (stF := fun ad => [.ref (ad (64)), .int (0 : Int32), .ref (ad (63))]) (lvF := fun ad => [(1, .int (0 : Int32)), (0, .ref (ad (0)))]) (C := C18) (hM := c_X5_init (Gl G) isE5_64 (Q := fun S9 => S9 = zS18) hI (z_X5 (fun S9 e9 => e9))) (host := "EndsRound") (hnw := nw_71) (hini := wm_3_1) (hins := wm_9_16) (hcode := wm_9_17) (hnm := rfl) (n9 := 0) (hd := by decide +kernel) (hr0 := ⟨rfl, rfl⟩) (hroom := ⟨by decide, by decide⟩) (hlen := rfl) (hst := rfl) (hW := Nat.le_of_ble_eq_true rfl) (hstF := rfl) (hs1 := (fun adz hz => by have g0 : adz (64) = ad140_17 (64) := hz (64) (by omega); have g1 : adz (63) = ad140_17 (63) := hz (63) (by omega); simp only [g0, g1])) (hl1 := (fun adz hz => by have g0 : adz (0) = ad140_17 (0) := hz (0) (by omega); simp only [g0])) (hk := by exact Nat.le_of_ble_eq_true rfl) (hw := by exact Nat.le_of_ble_eq_true rfl) (hdg := dX11_init_144) (q := 147) (hq := rfl) (fun ad144_18 S9 hg144_18 hw hI => ?_)
  have hw : S9 = zS18 := hw
  subst hw
  have hag : ∀ i, i < 1 → ad144_18 i = Gad G i := fun i hi => (hg144_18 i (by omega)).trans (hag i hi)
  have C19 : Cx (gset G ad144_18 (78) (77) (7078)) cX11_init BIG RX11 2 none rm_X11_init shE (78) := Cx_gset C (by exact Nat.le_of_ble_eq_true rfl) (by exact Nat.le_of_ble_eq_true rfl)
  show Go (gset G ad144_18 (78) (77) (7078)) 2 _ [.ref (ad144_18 (64)), .int (0 : Int32), .ref (ad144_18 (63))] [(1, .int (0 : Int32)), (0, .ref (ad144_18 (0)))] zS18
  refine Go_aastore (q := 148) (len := 4) C19 (okn kE_63 (by omega)) (okn kE_64 (by omega)) (vp_in_nI (n := 0) (N := 4) (by omega) (by omega)) dX11_init_147 rfl (fun S9 e9 => ?_)
  have e9 : S9 = zS19 := e9
  subst e9
  have hI := irR (rfl : zS19 = sR zS18 63 0 (some 64)) (by omega) (by omega) hI
  refine Go_iinc (q := 151) (kp := 0) (v := (1 : Int32)) (lv' := [(1, .int (1 : Int32)), (0, .ref (ad144_18 (0)))]) C19 dX11_init_148 rfl (by decide) (by decide) rfl rfl ?_
  refine Go_goto (q := 130) C19 dX11_init_151 rfl ?_
  refine Go_iload_n (q := 131) C19 0 rfl dX11_init_130 rfl ?_
  refine Go_iconst (q := 132) (v := (4 : Int32)) C19 dX11_init_131 rfl rfl ?_
  refine Go_icmp_ge (t := 154) (q := 135) C19 dec_if dX11_init_132 rfl rfl (fun h => absurd h (by decide)) (fun _ => ?_)
  refine Go_aload_n (q := 136) C19 1 rfl dX11_init_135 rfl ?_
  refine Go_getA (q := 139) (k := 8) C19 ci11 iw_11 (okn kE_0 (by omega)) (show gR zS19 0 8 = some 63 by decide +kernel) rfl wm_2_23 rfl dX11_init_136 rfl ?_
  refine Go_iload_n (q := 140) C19 0 rfl dX11_init_139 rfl ?_
  refine Go_new (n := 78) (q := 143) (stF := fun ad => [.int (1 : Int32), .ref (ad (63))]) (lvF := fun ad => [(1, .int (1 : Int32)), (0, .ref (ad (0)))]) C19 ci5 iw_5 (by decide +kernel) wm_2_22 wm_3_0 wm_3_1 kE_78.2 hI rfl rfl (fun adz hz => by have g0 : adz (63) = ad144_18 (63) := hz (63) (by omega); simp only [g0]) (fun adz hz => by have g0 : adz (0) = ad144_18 (0) := hz (0) (by omega); simp only [g0]) (by exact Nat.le_of_ble_eq_true rfl) (by exact Nat.le_of_ble_eq_true rfl) dX11_init_140 rfl (fun ad140_19 hg140_19 hI => ?_)
  have hag : ∀ i, i < 1 → ad140_19 i = Gad G i := fun i hi => (hg140_19 i (by omega)).trans (hag i hi)
  have C20 : Cx (gset G ad140_19 (79) (78) (7081)) cX11_init BIG RX11 2 none rm_X11_init shE (79) := Cx_gset C (by exact Nat.le_of_ble_eq_true rfl) (by exact Nat.le_of_ble_eq_true rfl)
  show Go (gset G ad140_19 (79) (78) (7081)) 2 _ [.ref (ad140_19 (78)), .int (1 : Int32), .ref (ad140_19 (63))] [(1, .int (1 : Int32)), (0, .ref (ad140_19 (0)))] zS19
  refine Go_dup (q := 144) C20 rfl dX11_init_143 rfl ?_
  refine Go_callIN_A (n := 79) (n' := 92) (o := 78) (av := fun ad => []) (st := [.ref (ad140_19 (78)), .int (1 : Int32), .ref (ad140_19 (63))]) (stF := fun ad => [.ref (ad (78)), .int (1 : Int32), .ref (ad (63))]) (lvF := fun ad => [(1, .int (1 : Int32)), (0, .ref (ad (0)))]) (C := C20) (hM := c_X5_init (Gl G) isE5_78 (Q := fun S9 => S9 = zS20) hI (z_X5 (fun S9 e9 => e9))) (host := "EndsRound") (hnw := nw_71) (hini := wm_3_1) (hins := wm_9_16) (hcode := wm_9_17) (hnm := rfl) (n9 := 0) (hd := by decide +kernel) (hr0 := ⟨rfl, rfl⟩) (hroom := ⟨by decide, by decide⟩) (hlen := rfl) (hst := rfl) (hW := Nat.le_of_ble_eq_true rfl) (hstF := rfl) (hs1 := (fun adz hz => by have g0 : adz (78) = ad140_19 (78) := hz (78) (by omega); have g1 : adz (63) = ad140_19 (63) := hz (63) (by omega); simp only [g0, g1])) (hl1 := (fun adz hz => by have g0 : adz (0) = ad140_19 (0) := hz (0) (by omega); simp only [g0])) (hk := by exact Nat.le_of_ble_eq_true rfl) (hw := by exact Nat.le_of_ble_eq_true rfl) (hdg := dX11_init_144) (q := 147) (hq := rfl) (fun ad144_20 S9 hg144_20 hw hI => ?_)
  have hw : S9 = zS20 := hw
  subst hw
  have hag : ∀ i, i < 1 → ad144_20 i = Gad G i := fun i hi => (hg144_20 i (by omega)).trans (hag i hi)
  have C21 : Cx (gset G ad144_20 (92) (91) (7376)) cX11_init BIG RX11 2 none rm_X11_init shE (92) := Cx_gset C (by exact Nat.le_of_ble_eq_true rfl) (by exact Nat.le_of_ble_eq_true rfl)
  show Go (gset G ad144_20 (92) (91) (7376)) 2 _ [.ref (ad144_20 (78)), .int (1 : Int32), .ref (ad144_20 (63))] [(1, .int (1 : Int32)), (0, .ref (ad144_20 (0)))] zS20
  refine Go_aastore (q := 148) (len := 4) C21 (okn kE_63 (by omega)) (okn kE_78 (by omega)) (vp_in_nI (n := 1) (N := 4) (by omega) (by omega)) dX11_init_147 rfl (fun S9 e9 => ?_)
  have e9 : S9 = zS21 := e9
  subst e9
  have hI := irR (rfl : zS21 = sR zS20 63 1 (some 78)) (by omega) (by omega) hI
  refine Go_iinc (q := 151) (kp := 0) (v := (2 : Int32)) (lv' := [(1, .int (2 : Int32)), (0, .ref (ad144_20 (0)))]) C21 dX11_init_148 rfl (by decide) (by decide) rfl rfl ?_
  refine Go_goto (q := 130) C21 dX11_init_151 rfl ?_
  refine Go_iload_n (q := 131) C21 0 rfl dX11_init_130 rfl ?_
  refine Go_iconst (q := 132) (v := (4 : Int32)) C21 dX11_init_131 rfl rfl ?_
  refine Go_icmp_ge (t := 154) (q := 135) C21 dec_if dX11_init_132 rfl rfl (fun h => absurd h (by decide)) (fun _ => ?_)
  refine Go_aload_n (q := 136) C21 1 rfl dX11_init_135 rfl ?_
  refine Go_getA (q := 139) (k := 8) C21 ci11 iw_11 (okn kE_0 (by omega)) (show gR zS21 0 8 = some 63 by decide +kernel) rfl wm_2_23 rfl dX11_init_136 rfl ?_
  refine Go_iload_n (q := 140) C21 0 rfl dX11_init_139 rfl ?_
  refine Go_new (n := 92) (q := 143) (stF := fun ad => [.int (2 : Int32), .ref (ad (63))]) (lvF := fun ad => [(1, .int (2 : Int32)), (0, .ref (ad (0)))]) C21 ci5 iw_5 (by decide +kernel) wm_2_22 wm_3_0 wm_3_1 kE_92.2 hI rfl rfl (fun adz hz => by have g0 : adz (63) = ad144_20 (63) := hz (63) (by omega); simp only [g0]) (fun adz hz => by have g0 : adz (0) = ad144_20 (0) := hz (0) (by omega); simp only [g0]) (by exact Nat.le_of_ble_eq_true rfl) (by exact Nat.le_of_ble_eq_true rfl) dX11_init_140 rfl (fun ad140_21 hg140_21 hI => ?_)
  have hag : ∀ i, i < 1 → ad140_21 i = Gad G i := fun i hi => (hg140_21 i (by omega)).trans (hag i hi)
  have C22 : Cx (gset G ad140_21 (93) (92) (7379)) cX11_init BIG RX11 2 none rm_X11_init shE (93) := Cx_gset C (by exact Nat.le_of_ble_eq_true rfl) (by exact Nat.le_of_ble_eq_true rfl)
  show Go (gset G ad140_21 (93) (92) (7379)) 2 _ [.ref (ad140_21 (92)), .int (2 : Int32), .ref (ad140_21 (63))] [(1, .int (2 : Int32)), (0, .ref (ad140_21 (0)))] zS21
  refine Go_dup (q := 144) C22 rfl dX11_init_143 rfl ?_
  refine Go_callIN_A (n := 93) (n' := 106) (o := 92) (av := fun ad => []) (st := [.ref (ad140_21 (92)), .int (2 : Int32), .ref (ad140_21 (63))]) (stF := fun ad => [.ref (ad (92)), .int (2 : Int32), .ref (ad (63))]) (lvF := fun ad => [(1, .int (2 : Int32)), (0, .ref (ad (0)))]) (C := C22) (hM := c_X5_init (Gl G) isE5_92 (Q := fun S9 => S9 = zS22) hI (z_X5 (fun S9 e9 => e9))) (host := "EndsRound") (hnw := nw_71) (hini := wm_3_1) (hins := wm_9_16) (hcode := wm_9_17) (hnm := rfl) (n9 := 0) (hd := by decide +kernel) (hr0 := ⟨rfl, rfl⟩) (hroom := ⟨by decide, by decide⟩) (hlen := rfl) (hst := rfl) (hW := Nat.le_of_ble_eq_true rfl) (hstF := rfl) (hs1 := (fun adz hz => by have g0 : adz (92) = ad140_21 (92) := hz (92) (by omega); have g1 : adz (63) = ad140_21 (63) := hz (63) (by omega); simp only [g0, g1])) (hl1 := (fun adz hz => by have g0 : adz (0) = ad140_21 (0) := hz (0) (by omega); simp only [g0])) (hk := by exact Nat.le_of_ble_eq_true rfl) (hw := by exact Nat.le_of_ble_eq_true rfl) (hdg := dX11_init_144) (q := 147) (hq := rfl) (fun ad144_22 S9 hg144_22 hw hI => ?_)
  have hw : S9 = zS22 := hw
  subst hw
  have hag : ∀ i, i < 1 → ad144_22 i = Gad G i := fun i hi => (hg144_22 i (by omega)).trans (hag i hi)
  have C23 : Cx (gset G ad144_22 (106) (105) (7674)) cX11_init BIG RX11 2 none rm_X11_init shE (106) := Cx_gset C (by exact Nat.le_of_ble_eq_true rfl) (by exact Nat.le_of_ble_eq_true rfl)
  show Go (gset G ad144_22 (106) (105) (7674)) 2 _ [.ref (ad144_22 (92)), .int (2 : Int32), .ref (ad144_22 (63))] [(1, .int (2 : Int32)), (0, .ref (ad144_22 (0)))] zS22
  refine Go_aastore (q := 148) (len := 4) C23 (okn kE_63 (by omega)) (okn kE_92 (by omega)) (vp_in_nI (n := 2) (N := 4) (by omega) (by omega)) dX11_init_147 rfl (fun S9 e9 => ?_)
  have e9 : S9 = zS23 := e9
  subst e9
  have hI := irR (rfl : zS23 = sR zS22 63 2 (some 92)) (by omega) (by omega) hI
  refine Go_iinc (q := 151) (kp := 0) (v := (3 : Int32)) (lv' := [(1, .int (3 : Int32)), (0, .ref (ad144_22 (0)))]) C23 dX11_init_148 rfl (by decide) (by decide) rfl rfl ?_
  refine Go_goto (q := 130) C23 dX11_init_151 rfl ?_
  refine Go_iload_n (q := 131) C23 0 rfl dX11_init_130 rfl ?_
  refine Go_iconst (q := 132) (v := (4 : Int32)) C23 dX11_init_131 rfl rfl ?_
  refine Go_icmp_ge (t := 154) (q := 135) C23 dec_if dX11_init_132 rfl rfl (fun h => absurd h (by decide)) (fun _ => ?_)
  refine Go_aload_n (q := 136) C23 1 rfl dX11_init_135 rfl ?_
  refine Go_getA (q := 139) (k := 8) C23 ci11 iw_11 (okn kE_0 (by omega)) (show gR zS23 0 8 = some 63 by decide +kernel) rfl wm_2_23 rfl dX11_init_136 rfl ?_
  refine Go_iload_n (q := 140) C23 0 rfl dX11_init_139 rfl ?_
  refine Go_new (n := 106) (q := 143) (stF := fun ad => [.int (3 : Int32), .ref (ad (63))]) (lvF := fun ad => [(1, .int (3 : Int32)), (0, .ref (ad (0)))]) C23 ci5 iw_5 (by decide +kernel) wm_2_22 wm_3_0 wm_3_1 kE_106.2 hI rfl rfl (fun adz hz => by have g0 : adz (63) = ad144_22 (63) := hz (63) (by omega); simp only [g0]) (fun adz hz => by have g0 : adz (0) = ad144_22 (0) := hz (0) (by omega); simp only [g0]) (by exact Nat.le_of_ble_eq_true rfl) (by exact Nat.le_of_ble_eq_true rfl) dX11_init_140 rfl (fun ad140_23 hg140_23 hI => ?_)
  have hag : ∀ i, i < 1 → ad140_23 i = Gad G i := fun i hi => (hg140_23 i (by omega)).trans (hag i hi)
  have C24 : Cx (gset G ad140_23 (107) (106) (7677)) cX11_init BIG RX11 2 none rm_X11_init shE (107) := Cx_gset C (by exact Nat.le_of_ble_eq_true rfl) (by exact Nat.le_of_ble_eq_true rfl)
  show Go (gset G ad140_23 (107) (106) (7677)) 2 _ [.ref (ad140_23 (106)), .int (3 : Int32), .ref (ad140_23 (63))] [(1, .int (3 : Int32)), (0, .ref (ad140_23 (0)))] zS23
  refine Go_dup (q := 144) C24 rfl dX11_init_143 rfl ?_
  refine Go_callIN_A (n := 107) (n' := 120) (o := 106) (av := fun ad => []) (st := [.ref (ad140_23 (106)), .int (3 : Int32), .ref (ad140_23 (63))]) (stF := fun ad => [.ref (ad (106)), .int (3 : Int32), .ref (ad (63))]) (lvF := fun ad => [(1, .int (3 : Int32)), (0, .ref (ad (0)))]) (C := C24) (hM := c_X5_init (Gl G) isE5_106 (Q := fun S9 => S9 = zS24) hI (z_X5 (fun S9 e9 => e9))) (host := "EndsRound") (hnw := nw_71) (hini := wm_3_1) (hins := wm_9_16) (hcode := wm_9_17) (hnm := rfl) (n9 := 0) (hd := by decide +kernel) (hr0 := ⟨rfl, rfl⟩) (hroom := ⟨by decide, by decide⟩) (hlen := rfl) (hst := rfl) (hW := Nat.le_of_ble_eq_true rfl) (hstF := rfl) (hs1 := (fun adz hz => by have g0 : adz (106) = ad140_23 (106) := hz (106) (by omega); have g1 : adz (63) = ad140_23 (63) := hz (63) (by omega); simp only [g0, g1])) (hl1 := (fun adz hz => by have g0 : adz (0) = ad140_23 (0) := hz (0) (by omega); simp only [g0])) (hk := by exact Nat.le_of_ble_eq_true rfl) (hw := by exact Nat.le_of_ble_eq_true rfl) (hdg := dX11_init_144) (q := 147) (hq := rfl) (fun ad144_24 S9 hg144_24 hw hI => ?_)
  have hw : S9 = zS24 := hw
  subst hw
  have hag : ∀ i, i < 1 → ad144_24 i = Gad G i := fun i hi => (hg144_24 i (by omega)).trans (hag i hi)
  have C25 : Cx (gset G ad144_24 (120) (119) (7972)) cX11_init BIG RX11 2 none rm_X11_init shE (120) := Cx_gset C (by exact Nat.le_of_ble_eq_true rfl) (by exact Nat.le_of_ble_eq_true rfl)
  show Go (gset G ad144_24 (120) (119) (7972)) 2 _ [.ref (ad144_24 (106)), .int (3 : Int32), .ref (ad144_24 (63))] [(1, .int (3 : Int32)), (0, .ref (ad144_24 (0)))] zS24
  refine Go_aastore (q := 148) (len := 4) C25 (okn kE_63 (by omega)) (okn kE_106 (by omega)) (vp_in_nI (n := 3) (N := 4) (by omega) (by omega)) dX11_init_147 rfl (fun S9 e9 => ?_)
  have e9 : S9 = zS25 := e9
  subst e9
  have hI := irR (rfl : zS25 = sR zS24 63 3 (some 106)) (by omega) (by omega) hI
  refine Go_iinc (q := 151) (kp := 0) (v := (4 : Int32)) (lv' := [(1, .int (4 : Int32)), (0, .ref (ad144_24 (0)))]) C25 dX11_init_148 rfl (by decide) (by decide) rfl rfl ?_
  refine Go_goto (q := 130) C25 dX11_init_151 rfl ?_
  refine Go_iload_n (q := 131) C25 0 rfl dX11_init_130 rfl ?_
  refine Go_iconst (q := 132) (v := (4 : Int32)) C25 dX11_init_131 rfl rfl ?_
  refine Go_icmp_ge (t := 154) (q := 135) C25 dec_if dX11_init_132 rfl rfl (fun _ => ?_) (fun h => absurd (by decide) h)
  refine Go_aload_n (q := 155) C25 1 rfl dX11_init_154 rfl ?_
  refine Go_new (n := 120) (q := 158) (stF := fun ad => [.ref (ad (0))]) (lvF := fun ad => [(1, .int (4 : Int32)), (0, .ref (ad (0)))]) C25 ci1 iw_1 (by decide +kernel) wm_3_2 wm_3_3 wm_3_4 kE_120.2 hI rfl rfl (fun adz hz => by have g0 : adz (0) = ad144_24 (0) := hz (0) (by omega); simp only [g0]) (fun adz hz => by have g0 : adz (0) = ad144_24 (0) := hz (0) (by omega); simp only [g0]) (by exact Nat.le_of_ble_eq_true rfl) (by exact Nat.le_of_ble_eq_true rfl) dX11_init_155 rfl (fun ad155_25 hg155_25 hI => ?_)
  have hag : ∀ i, i < 1 → ad155_25 i = Gad G i := fun i hi => (hg155_25 i (by omega)).trans (hag i hi)
  have C26 : Cx (gset G ad155_25 (121) (120) (7978)) cX11_init BIG RX11 2 none rm_X11_init shE (121) := Cx_gset C (by exact Nat.le_of_ble_eq_true rfl) (by exact Nat.le_of_ble_eq_true rfl)
  show Go (gset G ad155_25 (121) (120) (7978)) 2 _ [.ref (ad155_25 (120)), .ref (ad155_25 (0))] [(1, .int (4 : Int32)), (0, .ref (ad155_25 (0)))] zS25
  refine Go_dup (q := 159) C26 rfl dX11_init_158 rfl ?_
  refine Go_sipush (q := 162) (v := (200 : Int32)) C26 dX11_init_159 rfl rfl ?_
  refine Go_callI_A (n := 121) (n' := 122) (o := 120) (av := fun ad => [.int (200 : Int32)]) (st := [.ref (ad155_25 (120)), .ref (ad155_25 (0))]) (stF := fun ad => [.ref (ad (120)), .ref (ad (0))]) (lvF := fun ad => [(1, .int (4 : Int32)), (0, .ref (ad (0)))]) (C := C26) (hM := c_X1_init (Gl G) isE1_120 (Q := fun S9 => S9 = zS26) hI (z_X1 (o := 120) (p := (200 : Int32)) (by decide) (by decide) (by decide) (fun S9 e9 => e9))) (hlk := wm_9_23) (hini := wm_3_4) (hins := wm_7_23) (hcode := wm_8_0) (hnm := rfl) (n9 := 1) (hd := by decide +kernel) (hr0 := ⟨rfl, rfl⟩) (hroom := ⟨by decide, by decide⟩) (hlen := rfl) (hst := rfl) (hW := Nat.le_of_ble_eq_true rfl) (hstF := rfl) (hs1 := (fun adz hz => by have g0 : adz (120) = ad155_25 (120) := hz (120) (by omega); have g1 : adz (0) = ad155_25 (0) := hz (0) (by omega); simp only [g0, g1])) (hl1 := (fun adz hz => by have g0 : adz (0) = ad155_25 (0) := hz (0) (by omega); simp only [g0])) (hk := by exact Nat.le_of_ble_eq_true rfl) (hw := by exact Nat.le_of_ble_eq_true rfl) (hdg := dX11_init_162) (q := 165) (hq := rfl) (fun ad162_26 S9 hg162_26 hw hI => ?_)
  have hw : S9 = zS26 := hw
  subst hw
  have hag : ∀ i, i < 1 → ad162_26 i = Gad G i := fun i hi => (hg162_26 i (by omega)).trans (hag i hi)
  have C27 : Cx (gset G ad162_26 (122) (121) (8178)) cX11_init BIG RX11 2 none rm_X11_init shE (122) := Cx_gset C (by exact Nat.le_of_ble_eq_true rfl) (by exact Nat.le_of_ble_eq_true rfl)
  show Go (gset G ad162_26 (122) (121) (8178)) 2 _ [.ref (ad162_26 (120)), .ref (ad162_26 (0))] [(1, .int (4 : Int32)), (0, .ref (ad162_26 (0)))] zS26
  refine Go_putF (k := 9) (q := 168) C27 hQ.2 ci11 iw_11 (okn kE_0 (by omega)) rfl wm_3_5 rfl rfl rfl (ci11.2.2.2.1 9 (by decide)) rfl rfl dX11_init_165 rfl (fun S9 e9 => ?_)
  have e9 : S9 = zS27 := e9
  subst e9
  have hI := irR (rfl : zS27 = sR zS26 0 9 (some 120)) (by omega) (by omega) hI
  refine Go_aload_n (q := 169) C27 1 rfl dX11_init_168 rfl ?_
  refine Go_sipush (q := 172) (v := (200 : Int32)) C27 dX11_init_169 rfl rfl ?_
  refine Go_newa_i (n := 122) (len := 200) (q := 174) (stF := fun ad => [.ref (ad (0))]) (lvF := fun ad => [(1, .int (4 : Int32)), (0, .ref (ad (0)))]) C27 wm_3_6 (by decide) rfl (by decide) kE_122.2 hI rfl rfl (fun adz hz => by have g0 : adz (0) = ad162_26 (0) := hz (0) (by omega); simp only [g0]) (fun adz hz => by have g0 : adz (0) = ad162_26 (0) := hz (0) (by omega); simp only [g0]) (by exact Nat.le_of_ble_eq_true rfl) (by exact Nat.le_of_ble_eq_true rfl) dX11_init_172 rfl (fun ad172_27 hg172_27 hI => ?_)
  have hag : ∀ i, i < 1 → ad172_27 i = Gad G i := fun i hi => (hg172_27 i (by omega)).trans (hag i hi)
  have C28 : Cx (gset G ad172_27 (123) (122) (8378)) cX11_init BIG RX11 2 none rm_X11_init shE (123) := Cx_gset C (by exact Nat.le_of_ble_eq_true rfl) (by exact Nat.le_of_ble_eq_true rfl)
  show Go (gset G ad172_27 (123) (122) (8378)) 2 _ [.ref (ad172_27 (122)), .ref (ad172_27 (0))] [(1, .int (4 : Int32)), (0, .ref (ad172_27 (0)))] zS27
  refine Go_putF (k := 10) (q := 177) C28 hQ.2 ci11 iw_11 (okn kE_0 (by omega)) rfl wm_3_7 rfl rfl rfl (ci11.2.2.2.1 10 (by decide)) rfl rfl dX11_init_174 rfl (fun S9 e9 => ?_)
  have e9 : S9 = zS28 := e9
  subst e9
  have hI := irR (rfl : zS28 = sR zS27 0 10 (some 122)) (by omega) (by omega) hI
  refine Go_aload_n (q := 178) C28 1 rfl dX11_init_177 rfl ?_
  refine Go_getA (q := 181) (k := 2) C28 ci11 iw_11 (okn kE_0 (by omega)) (show gR zS28 0 2 = some 21 by decide +kernel) rfl wm_2_1 rfl dX11_init_178 rfl ?_
  refine Go_iconst (q := 182) (v := (1 : Int32)) C28 dX11_init_181 rfl rfl ?_
  refine Go_callV_V (Q1 := QB9) (av := (fun ad => [.int (1 : Int32)])) (st := []) (C := C28) (hM := c_X4_begin (Gl G) isE4_21 zR_ok (zB_ok (fun S9 h9 => h9))) (hlk := wm_10_0) (hini := wm_2_0) (hins := wm_10_1) (hsel := wm_10_2) (hcode := wm_10_3) (ho := kE_21) (hci := rfl) (hc13 := by decide) (n := 1) (hd := by decide +kernel) (hr0 := ⟨rfl, rfl⟩) (hroom := ⟨by decide, by decide⟩) (hlen := rfl) (hst := rfl) (hW := Nat.le_of_ble_eq_true rfl) (hdg := dX11_init_182) (q := 185) (hq := rfl) (fun S9 hw hR => ?_)
  refine Go_aload_n (q := 186) C28 1 rfl dX11_init_185 rfl ?_
  refine Go_getA (q := 189) (k := 4) C28 ci11 iw_11 kE_0 (hR 0 4 (by omega)) rfl wm_2_9 rfl dX11_init_186 rfl ?_
  refine Go_aload_n (q := 190) C28 1 rfl dX11_init_189 rfl ?_
  refine Go_getA (q := 193) (k := 2) C28 ci11 iw_11 kE_0 (hR 0 2 (by omega)) rfl wm_2_1 rfl dX11_init_190 rfl ?_
  refine Go_callV_V (Q1 := QC9) (av := (fun ad => [.ref (ad (21))])) (st := []) (C := C28) (hM := c_X9_follow (Gl G) isE4_21 hR (zF_ok hw)) (hlk := wm_10_15) (hini := wm_2_8) (hins := wm_10_16) (hsel := wm_10_17) (hcode := wm_10_18) (ho := kE_34) (hci := rfl) (hc13 := by decide) (n := 1) (hd := by decide +kernel) (hr0 := ⟨rfl, rfl⟩) (hroom := ⟨by decide, by decide⟩) (hlen := rfl) (hst := rfl) (hW := Nat.le_of_ble_eq_true rfl) (hdg := dX11_init_193) (q := 196) (hq := rfl) (fun S9 hw hR => ?_)
  exact Go_retAE C28 hQ hag hR hw (by exact Nat.le_of_ble_eq_true rfl) (by exact Nat.le_of_ble_eq_true rfl) dX11_init_196
