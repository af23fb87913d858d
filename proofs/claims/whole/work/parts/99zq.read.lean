/-! ===== pure: a text is read, by both ===== -/
def P0 (n : Nat) : PS := ((fun i j => if i = 0 then (if j = 0 then n else 0) else if i = 1 then j else 0), (fun _ => 0), (fun _ => 0), fun _ => 0)
theorem P0_00 (n : Nat) : (P0 n).F 0 0 = n := rfl
theorem P0_0 (n : Nat) {j : Nat} (h : j ≠ 0) : (P0 n).F 0 j = 0 := by
  show (if 0 = 0 then (if j = 0 then n else 0) else if 0 = 1 then j else 0) = 0
  rw [if_pos rfl, if_neg h]
theorem P0_1 (n j : Nat) : (P0 n).F 1 j = j := rfl
theorem P0_k (n j : Nat) {k : Nat} (h : 2 ≤ k) : (P0 n).F k j = 0 := by
  show (if k = 0 then _ else if k = 1 then j else 0) = 0
  rw [if_neg (by omega), if_neg (by omega)]
theorem P0_W {n : Nat} (h : 1 ≤ n) (h2 : n ≤ 12) : PSW (P0 n) := by
  have cz0 : ∀ m, cz ((P0 n).F 3) m = 0 := by
    intro m
    induction m with
    | zero => rfl
    | succ m ih =>
      show cz ((P0 n).F 3) m + (if 0 < (P0 n).F 3 m then 1 else 0) = 0
      rw [ih, P0_k n m (by omega), if_neg (by omega)]
  unfold PSW PW
  rw [P0_00, P0_0 n (j := 1) (by omega), P0_0 n (j := 2) (by omega), P0_0 n (j := 3) (by omega), P0_0 n (j := 4) (by omega), P0_0 n (j := 5) (by omega), P0_0 n (j := 6) (by omega), cz0]
  refine ⟨⟨h, h2, by omega, by omega, rfl, by omega, by omega, by omega⟩, ⟨fun i hi => hi, fun i j hi hj q => q⟩, fun a ha => ?_, fun w hw => absurd hw (by omega), fun k hk => absurd hk (by omega), fun a b ha hb => ?_⟩
  · rw [P0_k n a (by omega), P0_k n a (by omega)]
    refine ⟨Nat.two_pow_pos _, by omega, fun b hb => ?_⟩
    rw [Nat.zero_testBit] at hb; cases hb
  · rw [P0_k n a (by omega), Nat.zero_testBit]
    exact ⟨fun q => (by cases q), fun ⟨k, q, _⟩ => absurd q (by omega)⟩
theorem LI_0 {t s n : Nat} (hs : s ≤ t) (h : 1 ≤ n) (h2 : n ≤ 12) : LI t s (P0 n) [] := ⟨P0_W h h2, hs, rfl, Nat.zero_le _, fun y hy => by cases hy⟩
def readP (sg : Nat → Nat) (t : Nat) : Sum Nat (PS × List BX) :=
  if tkey sg t (tst sg t 0) ≠ 128 then Sum.inl (1 + 16 * tst sg t 0)
  else if numK sg t 1 12 none (nxt sg t (tst sg t 0)) ≠ 0 then Sum.inl (numK sg t 1 12 none (nxt sg t (tst sg t 0)) + 16 * nxt sg t (tst sg t 0))
  else if tkey sg t (nxt sg t (nxt sg t (tst sg t 0))) ≠ 59 then Sum.inl (1 + 16 * nxt sg t (nxt sg t (tst sg t 0)))
  else allL sg t (t + 1) (nxt sg t (nxt sg t (nxt sg t (tst sg t 0)))) (P0 (v10 sg t (nxt sg t (tst sg t 0)))) []
theorem e_begin {n : Nat} {S : St} {Q : St → Prop} (hn : n ≤ 12) (hQ : ∀ S', frX [11, 12, 13, 14] S S' → TF (P0 n).F S' → Q S') : w_X4_begin 11 (nI n) S Q := by
  unfold w_X4_begin
  intro S1 e1 S2 e2 S3 e3 S4 e4 S5 e5 S6 e6 S7 e7
  have f7 : frX [11, 12, 13, 14] S S7 := by
    rw [e7, e6, e5, e4, e3, e2, e1]
    exact frX_sI (frX_sI (frX_sI (frX_sI (frX_sI (frX_sI (frX_sI (frX_refl _ _) (by simp)) (by simp)) (by simp)) (by simp)) (by simp)) (by simp)) (by simp)
  have g7 : ∀ j, j < 7 → gI S7 11 j = nI ((P0 n).F 0 j) := by
    intro j hj
    rw [e7, e6, e5, e4, e3, e2, e1]
    have : j = 0 ∨ j = 1 ∨ j = 2 ∨ j = 3 ∨ j = 4 ∨ j = 5 ∨ j = 6 := by omega
    rcases this with rfl | rfl | rfl | rfl | rfl | rfl | rfl <;> simp [gI_sI, P0] <;> rfl
  unfold w_X4_begin_37
  refine up1 (B := b_X4_begin_37 11 Q) 12 (by omega) (fun p S' => frX [11, 12, 13, 14] S S' ∧ (∀ j, gI S' 11 j = gI S7 11 j) ∧ ∀ q, q < p → gI S' 12 q = nI q) ?_ ?_ 0 (by omega) ⟨f7, fun _ => rfl, fun q hq => absurd hq (by omega)⟩
  · rintro k p S' hp ⟨f1, h1, h2⟩ hk
    unfold b_X4_begin_37
    rw [if_neg (show ¬ (12 : Int32) ≤ nI p from nI_ge (b := 12) hp (by omega))]
    refine e_put (p := 11 + 1) (show p < 12 from hp) (by decide) ?_
    rintro x hx
    refine hk _ x hx ⟨frX_sI f1 (by simp), fun j => by rw [gI_sI, if_neg (by omega)]; exact h1 j, fun q hq => ?_⟩
    rw [gI_sI]
    by_cases e : q = p
    · rw [if_pos ⟨rfl, e⟩, e]
    · rw [if_neg (fun z => e z.2)]; exact h2 q (by omega)
  · rintro k S' ⟨f1, h1, h2⟩
    unfold b_X4_begin_37
    rw [if_pos (by decide)]
    refine e_blank (by decide) ?_
    refine e_blank (by decide) ?_
    have z13 : ∀ j, j < 12 → gI (setRow (setRow S' (11 + 2) (lnE (11 + 2)) (fun _ => 0)) (11 + 3) (lnE (11 + 3)) (fun _ => 0)) 13 j = 0 := fun j hj => by
      rw [gI_setRow, if_neg (by omega), gI_setRow, if_pos ⟨rfl, hj⟩]
    have z14 : ∀ j, j < 12 → gI (setRow (setRow S' (11 + 2) (lnE (11 + 2)) (fun _ => 0)) (11 + 3) (lnE (11 + 3)) (fun _ => 0)) 14 j = 0 := fun j hj => by
      rw [gI_setRow, if_pos ⟨rfl, hj⟩]
    refine hQ _ (frX_row (frX_row f1 (by simp)) (by simp)) ⟨fun j hj => ?_, fun k j a1 a2 a3 => ?_, fun k j a1 a2 a3 => ?_, fun p a1 a2 => z14 p a2⟩
    · rw [gI_setRow, if_neg (by omega), gI_setRow, if_neg (by omega), h1]; exact g7 j hj
    · have a3 : j < n := a3
      have : k = 1 ∨ k = 2 ∨ k = 3 := by omega
      rcases this with rfl | rfl | rfl
      · rw [gI_setRow, if_neg (by omega), gI_setRow, if_neg (by omega)]; exact h2 j (by omega)
      · rw [P0_k n j (by omega)]; exact z13 j (by omega)
      · rw [P0_k n j (by omega)]; exact z14 j (by omega)
    · exact absurd a3 (by rw [P0_0 n (by omega)]; omega)
def nF (P : PS) (bs : List BX) : Fm := fun i j => if i = 7 then bq (hold bs P.F j) (P.F 0 5) else P.F i j
theorem nF_k (P : PS) (bs : List BX) {k : Nat} (h : k ≠ 7) : nF P bs k = P.F k := by
  funext j
  show (if k = 7 then _ else P.F k j) = _
  rw [if_neg h]
abbrev rdl : List Nat := [1, 3, 4, 5, 7, 8, 9, 10, 11, 12, 13, 14, 15, 16, 17, 18, 19, 20]
theorem e_read {sg : Nat → Nat} {t : Nat} {S : St} {Q : Int32 → St → Prop} (hS : SgE t sg S) (hK : KW S) (hb : ∀ f S', readP sg t = Sum.inl f → frX rdl S S' → gI S' 1 5 = 0 → Q (nI f) S') (ho : ∀ P bs S', readP sg t = Sum.inr (P, bs) → LI t t P bs → frX rdl S S' → gI S' 1 5 = 0 → FE 11 (nF P bs) S' → Q 0 S') : w_X8_read S Q := by
  have ht := hS.1
  have e0 : readP sg t = readP sg t := rfl
  conv at e0 => rhs; unfold readP
  unfold w_X8_read
  refine e_cut hS hK (fun S1 n f1 g1 c1 => ?_)
  intro S2 e2 S3 e3
  have f3 : frX rdl S S3 := by rw [e3, e2]; exact frX_sI (frX_sI (frX_sub f1 (by simp)) (by simp)) (by simp)
  have f13 : frX [7, 8] S1 S3 := by rw [e3, e2]; exact frX_sI (frX_sI (frX_refl _ _) (by simp)) (by simp)
  have g3 : gI S3 1 5 = 0 := by rw [frX_g f13 1 5 (by simp)]; exact g1
  have c3 : CUT sg t n S3 := CUT_fr f13 (by simp) c1
  have k3 : gI S3 7 8 = 0 := by rw [e3, gI_sI, if_neg (by omega), e2, gI_sI, if_pos ⟨rfl, rfl⟩]
  have l3 : gI S3 8 1 = nI 0 := by rw [e3, gI_sI, if_pos ⟨rfl, rfl⟩]; rfl
  have hst0 : tst sg t 0 ≤ t := (run_le (p := isBl) (sg := sg) (show 0 ≤ t by omega)).2
  -- a fault: the form is begun with one end, and that is all
  have bad : ∀ (v : Int32) (f : Nat) (S4 : St), v = 0 → readP sg t = Sum.inl f → frX rdl S S4 → gI S4 1 5 = 0 → gI S4 7 8 = nI f → w_X8_read_88 Q S4 := by
    intro v f S4 _ q1 q2 q3 q4
    unfold w_X8_read_88 w_X8_read_89 w_X8_read_92
    refine loop2 (fun v1 v2 S5 => S5 = S4 ∧ v1 = 0 ∧ v2 = 0) (fun _ _ _ => 0) ?_ _ _ ⟨rfl, rfl, rfl⟩
    rintro k v1 v2 S5 ⟨rfl, rfl, rfl⟩ _
    unfold b_X8_read_92 w_X8_read_138
    rw [if_neg (by decide), if_pos rfl, if_pos rfl, q4]
    exact hb f S5 q1 q2 q3
  have bad50 : ∀ (f : Nat) (S4 : St), readP sg t = Sum.inl f → frX rdl S S4 → gI S4 1 5 = 0 → gI S4 7 8 = nI f → w_X8_read_50 Q S4 := by
    intro f S4 q1 q2 q3 q4
    unfold w_X8_read_50 w_X8_read_51
    rw [if_pos rfl]
    unfold w_X8_read_68
    refine e_begin (n := 1) (by omega) (fun S5 f5 _ => ?_)
    rw [if_pos rfl]
    exact bad 0 f S5 rfl q1 (frX_trans q2 (frX_sub f5 (by simp))) (by rw [frX_g f5 1 5 (by simp)]; exact q3) (by rw [frX_g f5 7 8 (by simp)]; exact q4)
  refine e_holdAt (i := 0) ht c3 (by omega) hst0 (fun S4 f4 c4 => ?_)
  have r4 : frX rdl S S4 := frX_trans f3 (frX_sub f4.1 (by simp))
  have g4 : gI S4 1 5 = 0 := by rw [frX_g f4.1 1 5 (by simp)]; exact g3
  have k4 : gI S4 7 8 = 0 := by rw [f4.2 8 (by omega) (by omega)]; exact k3
  have l4 : gI S4 8 1 = nI 0 := by rw [frX_g f4.1 8 1 (by simp)]; exact l3
  refine e_takeKey (k := 128) c4 (by omega) (fun w => ?_) (fun w S5 f5 c5 => ?_)
  · rw [if_pos w] at e0
    rw [if_pos rfl]
    exact bad50 _ _ e0 (frX_trans r4 (frX_sI (frX_refl _ _) (by simp))) (by rw [gI_sI, if_neg (by omega)]; exact g4) (by rw [gI_sI, if_pos ⟨rfl, rfl⟩]; exact n16 1 _)
  rw [if_neg (fun q => q w)] at e0
  rw [if_neg (by decide)]
  have r5 : frX rdl S S5 := frX_trans r4 (frX_sub f5.1 (by simp))
  have g5 : gI S5 1 5 = 0 := by rw [frX_g f5.1 1 5 (by simp)]; exact g4
  have k5 : gI S5 7 8 = 0 := by rw [f5.2 8 (by omega) (by omega)]; exact k4
  have l5 : gI S5 8 1 = nI 0 := by rw [frX_g f5.1 8 1 (by simp)]; exact l4
  refine e_takeNumber (lo := 1) (hi := 12) (ro := none) c5 (by omega) (by omega) (fun r q => by cases q) (fun z => ?_) (fun z z2 z3 z4 S6 f6 c6 => ?_)
  · rw [if_pos z] at e0
    rw [if_pos rfl]
    exact bad50 _ _ e0 (frX_trans r5 (frX_sI (frX_refl _ _) (by simp))) (by rw [gI_sI, if_neg (by omega)]; exact g5) (by rw [gI_sI, if_pos ⟨rfl, rfl⟩]; exact n16 _ _)
  rw [if_neg (fun q => q z)] at e0
  rw [if_neg (by decide)]
  have x6 : frX [7] S5 S6 := frX_trans (frX_sI (frX_refl _ _) (by simp)) f6.1
  have r6 : frX rdl S S6 := frX_trans r5 (frX_sub x6 (by simp))
  have g6 : gI S6 1 5 = 0 := by rw [frX_g x6 1 5 (by simp)]; exact g5
  have k6 : gI S6 7 8 = 0 := by rw [f6.2 8 (by omega) (by omega), gI_sI, if_neg (by omega)]; exact k5
  have l6 : gI S6 8 1 = nI 0 := by rw [frX_g x6 8 1 (by simp)]; exact l5
  have v6 : gI S6 7 7 = nI (v10 sg t (nxt sg t (tst sg t 0))) := by rw [f6.2 7 (by omega) (by omega), gI_sI, if_pos ⟨rfl, rfl⟩]
  unfold w_X8_read_51
  rw [if_neg (by decide), v6]
  unfold w_X8_read_68
  refine e_begin z4 (fun S7 f7 T7 => ?_)
  have r7 : frX rdl S S7 := frX_trans r6 (frX_sub f7 (by simp))
  have g7 : gI S7 1 5 = 0 := by rw [frX_g f7 1 5 (by simp)]; exact g6
  have k7 : gI S7 7 8 = 0 := by rw [frX_g f7 7 8 (by simp)]; exact k6
  have l7 : gI S7 8 1 = nI 0 := by rw [frX_g f7 8 1 (by simp)]; exact l6
  have c7 := CurE_fr c6 f7 (by simp)
  have p7 : PE sg t n (nxt sg t (nxt sg t (tst sg t 0))) (P0 (v10 sg t (nxt sg t (tst sg t 0)))) S7 := ⟨c7, T7, fun w hw => absurd hw (by rw [P0_0 _ (by omega)]; omega), k7⟩
  rw [if_neg (by decide)]
  refine e_takeKey (k := 59) c7 (by omega) (fun w => ?_) (fun w S8 f8 c8 => ?_)
  · rw [if_pos w] at e0
    rw [if_pos rfl]
    exact bad 0 _ _ rfl e0 (frX_trans r7 (frX_sI (frX_refl _ _) (by simp))) (by rw [gI_sI, if_neg (by omega)]; exact g7) (by rw [gI_sI, if_pos ⟨rfl, rfl⟩]; exact n16 1 _)
  rw [if_neg (fun q => q w)] at e0
  rw [if_neg (by decide)]
  have p8 := PE_FH p7 f8 c8
  have r8 : frX rdl S S8 := frX_trans r7 (frX_sub f8.1 (by simp))
  have g8 : gI S8 1 5 = 0 := by rw [frX_g f8.1 1 5 (by simp)]; exact g7
  have b8 : BE (EL []) S8 := ⟨Nat.zero_le _, by rw [frX_g f8.1 8 1 (by simp)]; exact l7, fun j hj => absurd hj (by simp [EL])⟩
  have s1 : 1 ≤ nxt sg t (nxt sg t (nxt sg t (tst sg t 0))) := by
    have := key_nxt (sg := sg) c7.2.1 (show tkey sg t (nxt sg t (nxt sg t (tst sg t 0))) ≠ 0 by omega)
    omega
  unfold w_X8_read_89
  refine e_lines (g := t + 1) s1 (by omega) (LI_0 c8.2.1 z3 z4) p8 b8 (fun f S9 q1 q2 => ?_) (fun P bs S9 q1 q2 q3 q4 q5 => ?_)
  · exact hb f S9 (by rw [e0]; exact q1) (frX_trans r8 (frX_sub q2 (by simp))) (by rw [frX_g q2 1 5 (by simp)]; exact g8)
  · have hT := q4.2.1
    have hw := q2.1.1.2.2.2.2.2.2.1
    refine e_weigh (F := P.F) hw q2.1.2.2.2.1 (hT.1 5 (by omega)) (fun k j a1 a2 a3 => hT.2.2.1 k j a1 a2 a3) q5 q2.2.2.2.2 (fun S10 f10 h10 => ?_)
    rw [frX_g f10 7 8 (by simp), q4.2.2.2]
    refine ho P bs S10 (by rw [e0]; exact q1) q2 (frX_trans r8 (frX_trans (frX_sub q3 (by simp)) (frX_sub f10 (by simp)))) (by rw [frX_g f10 1 5 (by simp), frX_g q3 1 5 (by simp)]; exact g8) ⟨fun j hj => ?_, fun k j a1 a2 a3 => ?_, fun k j a1 a2 a3 => ?_⟩
    · rw [nF_k P bs (by omega), frX_g f10 11 j (by simp)]; exact hT.1 j hj
    · rw [nF_k P bs (by omega)] at a3
      rw [nF_k P bs (by omega), frX_g f10 (11 + k) j (by simp; omega)]; exact hT.2.1 k j a1 a2 a3
    · rw [nF_k P bs (by omega)] at a3
      by_cases e : k = 7
      · subst e
        show gI S10 18 j = nI (if 7 = 7 then bq (hold bs P.F j) (P.F 0 5) else P.F 7 j)
        rw [if_pos rfl]; exact h10 j a3
      · rw [nF_k P bs e, frX_g f10 (11 + k) j (by simp; omega)]; exact hT.2.2.1 k j a1 (by omega) a3
def frM1 (S S' : St) : Prop := (∀ b j, kM b j = true → ¬ (b = 0 ∧ j = 1) → gI S' b j = gI S b j) ∧ gI S' 0 1 = 0
theorem frM1_M {S T U : St} (h : frM1 S T) (k : frM T U) : frM1 S U := ⟨fun b j e q => (k b j e).trans (h.1 b j e q), (k 0 1 rfl).trans h.2⟩
theorem m_readsAll {sg : Nat → Nat} {t : Nat} {S : St} {Q : Int32 → St → Prop} (ht : t ≤ 1000) (h1 : gI S 0 1 = nI t) (hs : ∀ j, j < t → sg j < 127 ∧ gI S 1 j = nI (sg j)) (hb : ∀ f S', readP sg t = Sum.inl f → frM1 S S' → gI S' 0 9 = nI f → Q 0 S') (ho : ∀ P bs S', readP sg t = Sum.inr (P, bs) → LI t t P bs → frM1 S S' → PM sg t t P S' → BM bs t S' → Q 1 S') : w_X12_readsAll S Q := by
  have e0 : readP sg t = readP sg t := rfl
  conv at e0 => rhs; unfold readP
  unfold w_X12_readsAll
  intro S1 e1 S2 e2 S3 e3 S4 e4 S5 e5 S6 e6 S7 e7 S8 e8 S9 e9 S10 e10
  have E7 : S7 = sI (sI (sI (sI (sI (sI (sI S 0 26 0) 0 27 0) 0 28 0) 0 29 0) 0 30 0) 0 31 0) 0 43 0 := by rw [e7, e6, e5, e4, e3, e2, e1]
  have x7 : gI S7 0 1 = nI t := by rw [E7]; simp [gI_sI]; exact h1
  rw [x7] at e8
  have E10 : S10 = sI (sI (sI S7 0 3 (nI t)) 0 1 0) 0 4 0 := by rw [e10, e9, e8]
  have fr10 : frM1 S S10 := by
    refine ⟨fun b j e q => ?_, by rw [E10]; simp [gI_sI]⟩
    have no : ∀ i, kM 0 i = false → ¬ (b = 0 ∧ j = i) := fun i hi z => by rw [z.1, z.2, hi] at e; cases e
    rw [E10, E7, gI_sI, if_neg (no 4 rfl), gI_sI, if_neg q, gI_sI, if_neg (no 3 rfl), gI_sI, if_neg (no 43 rfl), gI_sI, if_neg (no 31 rfl), gI_sI, if_neg (no 30 rfl), gI_sI, if_neg (no 29 rfl), gI_sI, if_neg (no 28 rfl), gI_sI, if_neg (no 27 rfl), gI_sI, if_neg (no 26 rfl)]
  have sg10 : SgM t sg S10 := ⟨ht, by rw [E10]; simp [gI_sI], fun j hj => ⟨(hs j hj).1, by rw [fr10.1 1 j rfl (by omega)]; exact (hs j hj).2⟩⟩
  have g10 : ∀ j, j = 26 ∨ j = 27 ∨ j = 28 ∨ j = 29 ∨ j = 30 ∨ j = 31 ∨ j = 43 → gI S10 0 j = 0 := by
    intro j hj
    rw [E10, E7]
    rcases hj with rfl | rfl | rfl | rfl | rfl | rfl | rfl <;> simp [gI_sI]
  have z10 : gI S10 0 4 = nI 0 := by rw [E10]; simp [gI_sI]; rfl
  have st0 : tst sg t 0 = run isBl sg t 0 := rfl
  refine m_nextToken sg10 (Nat.zero_le _) z10 (fun S11 f11 t11 => ?_)
  have c11 : CurM sg t (tst sg t 0) S11 := ⟨SgM_FT sg10 f11, by rw [st0]; exact (run_le (p := isBl) (sg := sg) (show 0 ≤ t by omega)).2, t11⟩
  have fr11 := frM1_M fr10 (frM_FT f11)
  have g11 : ∀ j, j = 26 ∨ j = 27 ∨ j = 28 ∨ j = 29 ∨ j = 30 ∨ j = 31 ∨ j = 43 → gI S11 0 j = 0 := fun j hj => by rw [f11.1 0 j (by omega)]; exact g10 j hj
  refine m_needsWord (i := 0) c11 (by omega) (by rfl) (fun w => ?_) (fun w S12 f12 c12 => ?_)
  · rw [if_pos w] at e0
    rw [if_pos rfl]
    exact hb _ _ e0 (frM1_M fr11 (frR_s0 (by decide) (by omega)).1) (by rw [gI_sI, if_pos ⟨rfl, rfl⟩]; exact n16 1 _)
  rw [if_neg (fun q => q w)] at e0
  rw [if_neg (by decide)]
  have fr12 := frM1_M fr11 (frM_FT f12)
  have g12 : ∀ j, j = 26 ∨ j = 27 ∨ j = 28 ∨ j = 29 ∨ j = 30 ∨ j = 31 ∨ j = 43 → gI S12 0 j = 0 := fun j hj => by rw [f12.1 0 j (by omega)]; exact g11 j hj
  refine m_needsNumber (lo := 1) (hi := 12) c12 (by omega) (by omega) (fun z => ?_) (fun z z2 => ?_)
  · rw [if_pos z] at e0
    rw [if_pos rfl]
    exact hb _ _ e0 (frM1_M fr12 (frR_s0 (by decide) (by omega)).1) (by rw [gI_sI, if_pos ⟨rfl, rfl⟩]; exact n16 _ _)
  rw [if_neg (fun q => q z)] at e0
  have rg := numK_rng z
  rw [if_neg (by decide), z2]
  generalize hN : v10 sg t (nxt sg t (tst sg t 0)) = N at e0 rg
  intro S13 e13
  have fr13 : frM1 S S13 := frM1_M fr12 (by rw [e13]; exact frM_sI (frM_refl _) (by decide))
  have c13 : CurM sg t (nxt sg t (tst sg t 0)) S13 := by rw [e13]; exact CurM_s0 (by omega) c12
  have g13 : ∀ j, j = 26 ∨ j = 27 ∨ j = 28 ∨ j = 29 ∨ j = 30 ∨ j = 31 ∨ j = 43 → gI S13 0 j = 0 := fun j hj => by rw [e13, gI_sI, if_neg (by omega)]; exact g12 j hj
  have g25 : gI S13 0 25 = nI N := by rw [e13, gI_sI, if_pos ⟨rfl, rfl⟩]
  unfold w_X12_readsAll_89
  refine up1 (B := b_X12_readsAll_89 Q) 12 (by omega) (fun p S' => frX [10, 13] S13 S' ∧ ∀ q, q < p → gI S' 10 q = nI q ∧ gI S' 13 q = 0) ?_ ?_ 0 (by omega) ⟨frX_refl _ _, fun q hq => absurd hq (by omega)⟩
  · rintro k p S' hp ⟨f1, h2⟩ hk
    unfold b_X12_readsAll_89
    have vp := vp_in_nI hp (by omega)
    rw [if_neg (show ¬ (12 : Int32) ≤ nI p from nI_ge (b := 12) hp (by omega)), nI_clamp (by omega)]
    refine ⟨vp, fun T1 d1 => ⟨vp, fun T2 d2 x hx => ?_⟩⟩
    rw [d1] at d2
    refine hk T2 x hx ⟨by rw [d2]; exact frX_sI (frX_sI f1 (by simp)) (by simp), fun q hq => ?_⟩
    rw [d2, gI_sI, if_neg (by omega), gI_sI, gI_sI]
    by_cases e : q = p
    · rw [if_pos ⟨rfl, e⟩, if_pos ⟨rfl, e⟩, e]; exact ⟨rfl, rfl⟩
    · rw [if_neg (fun z => e z.2), if_neg (fun z => e z.2), gI_sI, if_neg (by omega)]; exact h2 q (by omega)
  · rintro k S14 ⟨f14, h14⟩
    unfold b_X12_readsAll_89
    rw [if_pos (by decide)]
    have c14 := CurM_X f14 (by simp) c13
    have fr14 : frM1 S S14 := frM1_M fr13 (frR_X f14 (fun x hx => by simp at hx; omega)).1
    have n14 : NF sg t (P0 N) S14 := by
      refine ⟨fun j hj => ?_, fun p hp => ?_, fun k hk => absurd hk (by rw [P0_0 _ (by omega)]; omega), fun w hw => absurd hw (by rw [P0_0 _ (by omega)]; omega)⟩
      · rw [frX_g f14 0 _ (by simp)]
        by_cases e : j = 0
        · rw [e]; exact g25
        · rw [P0_0 N e, g13 (25 + j) (by omega)]; rfl
      · have hp : p < N := hp
        have := h14 p (by omega)
        rw [P0_1, P0_k N p (by omega)]
        exact ⟨this.1, this.2⟩
    have b14 : gI S14 0 43 = nI 0 := by rw [frX_g f14 0 43 (by simp), g13 43 (by omega)]; rfl
    refine m_next c14 (fun S15 f15 c15 => ?_)
    have fr15 := frM1_M fr14 (frM_FT f15)
    have n15 := NF_FT f15 n14
    have b15 : gI S15 0 43 = nI 0 := by rw [f15.1 0 43 (by omega)]; exact b14
    refine m_ends c15 (fun w => ?_) (fun w S16 f16 c16 => ?_)
    · rw [if_pos w] at e0
      rw [if_pos rfl]
      exact hb _ _ e0 (frM1_M fr15 (frR_s0 (by decide) (by omega)).1) (by rw [gI_sI, if_pos ⟨rfl, rfl⟩]; exact n16 1 _)
    rw [if_neg (fun q => q w)] at e0
    rw [if_neg (by decide)]
    refine m_lines (g := t + 1) (by omega) (LI_0 c16.2.1 rg.1 rg.2) ⟨c16, NF_FT f16 n15⟩ ⟨0, by rw [f16.1 0 43 (by omega)]; exact b15, Nat.zero_le _, fun b y hy => by cases hy⟩ (fun f S17 q1 q2 q3 => hb f S17 (by rw [e0]; exact q1) (frM1_M (frM1_M fr15 (frM_FT f16)) q2) q3) (fun P bs S17 q1 q2 q3 q4 q5 => ho P bs S17 (by rw [e0]; exact q1) q2 (frM1_M (frM1_M fr15 (frM_FT f16)) q3) q4 q5)
