/-! ===== pure: the class reads a bar, whole ===== -/
theorem e_readProduct {sg : Nat → Nat} {t n : Nat} {P : PS} {p : Nat → BO} {rec : Int32 → St → (Int32 → St → Prop) → Prop} {v0 : Int32} (hW : BWp t p) (hp : ESim sg t n P p (fun S Q => rec v0 S Q)) : ESim sg t n P (prodP sg t p) (fun S Q => w_X8_readProduct rec v0 S Q) := by
  refine e_level (B := fun Q => b_X8_readProduct_8 v0 rec Q) okP_N hW hp ?_ ?_ (fun S Q h => h)
  · intro Q k v2 i S hi h01 hs hQ
    show b_X8_readProduct_8 v0 rec Q k v2 (nI i) S
    unfold b_X8_readProduct_8
    by_cases c1 : (1000 : Int32) ≤ nI i
    · rw [if_pos c1]; exact ⟨h01, hQ⟩
    · rw [if_neg c1]
      by_cases c2 : v2 = 0
      · rw [if_pos c2]; exact ⟨h01, hQ⟩
      · rw [if_neg c2]
        rcases hs with h | h | ⟨s, h, q⟩
        · exact absurd h c2
        · rw [h] at c1; exact absurd (by decide) c1
        · have q := of_decide_eq_false q
          have kk := tkey_lt sg t s
          rw [h.2.2.2.2.1]
          exact nI_ifEq (y := 42) (by omega) (by omega) (fun z => absurd z q) (fun _ => ⟨h01, hQ⟩)
  · intro Q k i s S hi h q hg
    have q := of_decide_eq_true q
    show b_X8_readProduct_8 v0 rec Q k 1 (nI i) S
    unfold b_X8_readProduct_8
    rw [if_neg (show ¬ (1000 : Int32) ≤ nI i from nI_ge (b := 1000) hi (by omega)), if_neg (by decide), h.2.2.2.2.1, q, if_pos (by decide)]
    rw [q] at hg
    exact e_next h hg
theorem e_readSum {sg : Nat → Nat} {t n : Nat} {P : PS} {p : Nat → BO} {rec : Int32 → St → (Int32 → St → Prop) → Prop} {v0 : Int32} (hW : BWp t p) (hp : ESim sg t n P p (fun S Q => rec v0 S Q)) : ESim sg t n P (sumP sg t p) (fun S Q => w_X8_readSum rec v0 S Q) := by
  refine e_level (B := fun Q => b_X8_readSum_8 v0 rec Q) okS_N (prodP_W hW) (e_readProduct hW hp) ?_ ?_ (fun S Q h => h)
  · intro Q k v2 i S hi h01 hs hQ
    show b_X8_readSum_8 v0 rec Q k v2 (nI i) S
    unfold b_X8_readSum_8
    by_cases c1 : (1000 : Int32) ≤ nI i
    · rw [if_pos c1]; exact ⟨h01, hQ⟩
    · rw [if_neg c1]
      by_cases c2 : v2 = 0
      · rw [if_pos c2]; exact ⟨h01, hQ⟩
      · rw [if_neg c2]
        rcases hs with h | h | ⟨s, h, q⟩
        · exact absurd h c2
        · rw [h] at c1; exact absurd (by decide) c1
        · have q := of_decide_eq_false q
          have kk := tkey_lt sg t s
          rw [h.2.2.2.2.1]
          exact nI_ifEq (y := 43) (by omega) (by omega) (fun z => absurd (Or.inl z) q) (fun _ => nI_ifEq (y := 45) (by omega) (by omega) (fun z => absurd (Or.inr z) q) (fun _ => ⟨h01, hQ⟩))
  · intro Q k i s S hi h q hg
    have q := of_decide_eq_true q
    have kk := tkey_lt sg t s
    have go : w_X8_readSum_37 v0 rec k (nI i) S := by
      unfold w_X8_readSum_37
      rintro x41 rfl
      rw [h.2.2.2.2.1, show (10000 : Int32) = nI 10000 from rfl, nI_add]
      exact e_next h hg
    show b_X8_readSum_8 v0 rec Q k 1 (nI i) S
    unfold b_X8_readSum_8
    rw [if_neg (show ¬ (1000 : Int32) ≤ nI i from nI_ge (b := 1000) hi (by omega)), if_neg (by decide), h.2.2.2.2.1]
    exact nI_ifEq (y := 43) (by omega) (by omega) (fun _ => go) (fun z1 => nI_ifEq (y := 45) (by omega) (by omega) (fun _ => go) (fun z2 => absurd q (by omega)))
theorem e_readTest {sg : Nat → Nat} {t n : Nat} {P : PS} {p : Nat → BO} {rec : Int32 → St → (Int32 → St → Prop) → Prop} {v0 : Int32} (hW : BWp t p) (hp : ESim sg t n P p (fun S Q => rec v0 S Q)) : ESim sg t n P (testP sg t p) (fun S Q => w_X8_readTest rec v0 S Q) := by
  have hW2 : BWp t (sumP sg t p) := sumP_W hW
  have hp2 := e_readSum hW hp
  intro s L S Q h hB hl hb ho
  have hs := h.1.2.1
  show w_X8_readTest rec v0 S Q
  unfold w_X8_readTest
  refine hp2 s L S _ h hB hl (fun f S1 q1 q2 q3 => ?_) (fun x S1 q1 q2 q3 q4 => ?_)
  · rw [if_pos rfl]
    exact ⟨Or.inl rfl, hb f S1 (by unfold testP lvP; exact bnd_l q1) q2 q3⟩
  · obtain ⟨w1, w2, w3, w4⟩ := hW2 s x hs q1
    have ht := h.1.1
    have kk := tkey_lt sg t x.1
    have e0 : testP sg t p s = chP sg t okT (sumP sg t p) 1 x := by
      show lvP sg t okT (sumP sg t p) 1 s = _
      unfold lvP; exact bnd_r q1
    rw [if_neg (by decide), q3.1.2.2.2.2.1]
    have stop : okT (tkey sg t x.1) = false → Q 1 S1 := fun z => ho x S1 (by rw [e0]; exact chP_no (Or.inr z)) q2 q3 q4
    have go : okT (tkey sg t x.1) = true → w_X8_readTest_28 v0 rec Q S1 := by
      intro z
      have hkey := key_nxt (sg := sg) w2 (okT_N _ z)
      rw [chP_go (n := 0) z] at e0
      unfold w_X8_readTest_28
      rintro x32 rfl
      rw [q3.1.2.2.2.2.1, show (10000 : Int32) = nI 10000 from rfl, nI_add]
      refine e_next q3.1 (fun S2 f2 c2 => ?_)
      have p2 := PE_FH q3 f2 c2
      have b2 := BE_fr q4 f2.1 (by simp)
      have r2 : frX brl S S2 := frX_trans q2 (frX_sub f2.1 (by simp))
      have lx : (L ++ x.2.1).length = L.length + x.2.1.length := List.length_append
      refine hp2 _ _ S2 _ p2 b2 (by omega) (fun f S3 u1 u2 u3 => ?_) (fun y S3 u1 u2 u3 u4 => ?_)
      · refine e_addX (fun S4 f4 => ⟨Or.inl rfl, hb f S4 (by rw [e0]; exact bnd_l u1) (frX_trans r2 (frX_trans u2 (frX_sub f4 (by simp)))) (by rw [frX_g f4 7 8 (by simp)]; exact u3)⟩)
      · obtain ⟨y1, y2, y3, y4⟩ := hW2 _ y hkey.2 u1
        have ly : ((L ++ x.2.1) ++ y.2.1).length = L.length + x.2.1.length + y.2.1.length := by simp only [List.length_append]
        refine e_add u4 (by omega) (by omega) (fun S4 f4 b4 => ⟨Or.inr rfl, ?_⟩)
        rw [bnd_r u1] at e0
        refine ho _ S4 e0 (frX_trans r2 (frX_trans u2 (frX_sub f4 (by simp)))) (PE_89 u3 f4) ?_
        have : L ++ (x.2.1 ++ (y.2.1 ++ [10000 + tkey sg t x.1])) = ((L ++ x.2.1) ++ y.2.1) ++ [10000 + tkey sg t x.1] := by simp only [List.append_assoc]
        show BE (L ++ (x.2.1 ++ (y.2.1 ++ [10000 + tkey sg t x.1]))) S4
        rw [this]; exact b4
    refine nI_ifEq (y := 60) (by omega) (by omega) (fun z => go (decide_eq_true (Or.inl z))) (fun z1 => ?_)
    exact nI_ifEq (y := 61) (by omega) (by omega) (fun z => go (decide_eq_true (Or.inr z))) (fun z2 => ⟨Or.inr rfl, stop (decide_eq_false (by omega))⟩)
theorem e_readTests {sg : Nat → Nat} {t n : Nat} {P : PS} {p : Nat → BO} {rec : Int32 → St → (Int32 → St → Prop) → Prop} {v0 : Int32} (hW : BWp t p) (hp : ESim sg t n P p (fun S Q => rec v0 S Q)) : ESim sg t n P (testsP sg t p) (fun S Q => w_X8_readTests rec v0 S Q) := by
  refine e_level (B := fun Q => b_X8_readTests_8 v0 rec Q) okB_N (testP_W hW) (e_readTest hW hp) ?_ ?_ (fun S Q h => h)
  · intro Q k v2 i S hi h01 hs hQ
    show b_X8_readTests_8 v0 rec Q k v2 (nI i) S
    unfold b_X8_readTests_8
    by_cases c1 : (1000 : Int32) ≤ nI i
    · rw [if_pos c1]; exact ⟨h01, hQ⟩
    · rw [if_neg c1]
      by_cases c2 : v2 = 0
      · rw [if_pos c2]; exact ⟨h01, hQ⟩
      · rw [if_neg c2]
        rcases hs with h | h | ⟨s, h, q⟩
        · exact absurd h c2
        · rw [h] at c1; exact absurd (by decide) c1
        · have q := of_decide_eq_false q
          have kk := tkey_lt sg t s
          rw [h.2.2.2.2.1]
          exact nI_ifEq (y := 145) (by omega) (by omega) (fun z => absurd (Or.inl z) q) (fun _ => nI_ifEq (y := 146) (by omega) (by omega) (fun z => absurd (Or.inr z) q) (fun _ => ⟨h01, hQ⟩))
  · intro Q k i s S hi h q hg
    have q := of_decide_eq_true q
    have kk := tkey_lt sg t s
    have go : w_X8_readTests_39 v0 rec k (nI i) S := by
      unfold w_X8_readTests_39
      rintro x41 rfl
      rw [h.2.2.2.2.1, show (10000 : Int32) = nI 10000 from rfl, nI_add]
      exact e_next h hg
    show b_X8_readTests_8 v0 rec Q k 1 (nI i) S
    unfold b_X8_readTests_8
    rw [if_neg (show ¬ (1000 : Int32) ≤ nI i from nI_ge (b := 1000) hi (by omega)), if_neg (by decide), h.2.2.2.2.1]
    exact nI_ifEq (y := 145) (by omega) (by omega) (fun _ => go) (fun z1 => nI_ifEq (y := 146) (by omega) (by omega) (fun _ => go) (fun z2 => absurd q (by omega)))
theorem e_readPart {sg : Nat → Nat} {t n : Nat} {P : PS} : ∀ d v, v + d = 5 → ESim sg t n P (partP sg t d) (fun S Q => w_X8_readPart (d + 1) (nI v) S Q) := by
  intro d
  induction d with
  | zero =>
    intro v hv s L S Q h hB hl hb ho
    have hs := h.1.2.1
    have kk := tkey_lt sg t s
    have e0 : partP sg t 0 s = if tkey sg t s = 2 ∨ tkey sg t s = 144 ∨ tkey sg t s = 40 ∨ 147 ≤ tkey sg t s then Sum.inl (5 + 16 * s) else Sum.inl (1 + 16 * s) := rfl
    show u_X8_readPart (w_X8_readPart 0) (nI v) S Q
    unfold u_X8_readPart
    rintro x4 rfl
    rw [h.1.2.2.2.2.1]
    have five : (tkey sg t s = 2 ∨ tkey sg t s = 144 ∨ tkey sg t s = 40 ∨ 147 ≤ tkey sg t s) → w_X8_readPart_36 (nI v) (w_X8_readPart 0) Q (nI (tkey sg t s)) S := by
      intro q
      rw [if_pos q] at e0
      unfold w_X8_readPart_36
      rw [if_neg (show ¬ nI v < (5 : Int32) from nI_nlt (b := 5) (by omega) (by omega))]
      exact e_wrong h.1 ⟨Or.inl rfl, hb _ _ e0 (frX_sI (frX_refl _ _) (by simp)) (by rw [gI_sI, if_pos ⟨rfl, rfl⟩]; exact n16 5 s)⟩
    refine nI_ifEq (y := 2) (by omega) (by omega) (fun q => five (by omega)) (fun q1 => ?_)
    refine nI_ifEq (y := 144) (by omega) (by omega) (fun q => five (by omega)) (fun q2 => ?_)
    refine nI_ifEq (y := 40) (by omega) (by omega) (fun q => five (by omega)) (fun q3 => ?_)
    refine nI_if (x := 147) (by omega) (by omega) (fun q => five (by omega)) (fun q4 => ?_)
    rw [if_neg (by omega)] at e0
    exact e_wrong h.1 ⟨Or.inl rfl, hb _ _ e0 (frX_sI (frX_refl _ _) (by simp)) (by rw [gI_sI, if_pos ⟨rfl, rfl⟩]; exact n16 1 s)⟩
  | succ d ih =>
    intro v hv s L S Q h hB hl hb ho
    have hs := h.1.2.1
    have ht := h.1.1
    have kk := tkey_lt sg t s
    have ih := ih (v + 1) (by omega)
    have hWd := partP_W sg t d
    have e0 : partP sg t (d + 1) s = partP sg t (d + 1) s := rfl
    conv at e0 => rhs; unfold partP
    show u_X8_readPart (w_X8_readPart (d + 1)) (nI v) S Q
    unfold u_X8_readPart
    rintro x4 rfl
    rw [h.1.2.2.2.2.1]
    have part : (tkey sg t s = 2 ∨ tkey sg t s = 144 ∨ tkey sg t s = 40 ∨ 147 ≤ tkey sg t s) → w_X8_readPart_36 (nI v) (w_X8_readPart (d + 1)) Q (nI (tkey sg t s)) S := by
      intro q
      have hkey := key_nxt (sg := sg) hs (by omega)
      unfold w_X8_readPart_36
      rw [if_pos (show nI v < (5 : Int32) from nI_lt (b := 5) (by omega) (by omega))]
      rintro x52 rfl
      refine e_next h.1 (fun S1 f1 c1 => ?_)
      have p1 := PE_FH h f1 c1
      have b1 := BE_fr hB f1.1 (by simp)
      have r1 : frX brl S S1 := frX_sub f1.1 (by simp)
      refine nI_ifEq (y := 40) (by omega) (by omega) (fun z => ?_) (fun z1 => ?_)
      · rw [if_neg (by omega), if_neg (by omega), if_pos z] at e0
        rw [show nI v + (1 : Int32) = nI (v + 1) from nI_1 v]
        refine e_readTests hWd ih (nxt sg t s) L S1 _ p1 b1 (by omega) (fun f S2 u1 u2 u3 => ?_) (fun y S2 u1 u2 u3 u4 => ?_)
        · rw [if_pos rfl]
          exact hb f S2 (by rw [e0]; exact bnd_l u1) (frX_trans r1 u2) u3
        · rw [if_neg (by decide)]
          rw [bnd_r u1] at e0
          refine e_takeKey (k := 41) u3.1 (by omega) (fun w => ?_) (fun w S3 f3 c3 => ?_)
          · rw [if_neg w] at e0
            rw [if_pos rfl]
            exact hb _ _ e0 (frX_trans (frX_trans r1 u2) (frX_sI (frX_refl _ _) (by simp))) (by rw [gI_sI, if_pos ⟨rfl, rfl⟩]; exact n16 1 y.1)
          · rw [if_pos w] at e0
            rw [if_neg (by decide)]
            exact ho _ S3 e0 (frX_trans (frX_trans r1 u2) (frX_sub f3.1 (by simp))) (PE_FH u3 f3 c3) (BE_fr u4 f3.1 (by simp))
      refine nI_ifEq (y := 144) (by omega) (by omega) (fun z => ?_) (fun z2 => ?_)
      · rw [if_neg (by omega), if_pos z] at e0
        rw [show nI v + (1 : Int32) = nI (v + 1) from nI_1 v]
        refine ih (nxt sg t s) L S1 _ p1 b1 (by omega) (fun f S2 u1 u2 u3 => ?_) (fun y S2 u1 u2 u3 u4 => ?_)
        · rw [if_pos rfl]
          exact hb f S2 (by rw [e0]; exact bnd_l u1) (frX_trans r1 u2) u3
        · rw [if_neg (by decide)]
          rw [bnd_r u1] at e0
          obtain ⟨y1, y2, y3, y4⟩ := hWd _ y hkey.2 u1
          have ly : (L ++ y.2.1).length = L.length + y.2.1.length := List.length_append
          unfold w_X8_readPart_113 w_X8_readPart_131
          rw [if_neg (show ¬ nI (tkey sg t s) = (2 : Int32) from fun w => by have := nI_inj (b := 2) (by omega) (by omega) w; omega), z]
          refine e_add (c := 10144) u4 (by omega) (by omega) (fun S3 f3 b3 => ?_)
          refine ho _ S3 e0 (frX_trans (frX_trans r1 u2) (frX_sub f3 (by simp))) (PE_89 u3 f3) ?_
          show BE (L ++ (y.2.1 ++ [10144])) S3
          rw [← List.append_assoc]; exact b3
      unfold w_X8_readPart_113 w_X8_readPart_131
      refine nI_ifEq (y := 2) (by omega) (by omega) (fun z => ?_) (fun z3 => ?_)
      · rw [if_pos z] at e0
        have lv := v10_lt (tkey_num.mp z)
        rw [h.1.2.2.2.2.2.2 (tkey_num.mp z), lN_i]
        exact e_add (c := v10 sg t s) b1 (by omega) (by omega) (fun S3 f3 b3 => ho _ S3 e0 (frX_trans r1 (frX_sub f3 (by simp))) (PE_89 p1 f3) b3)
      · rw [if_neg z3, if_neg z2, if_neg z1, if_pos (by omega)] at e0
        rw [show (10000 : Int32) = nI 10000 from rfl, nI_add]
        exact e_add (c := 10000 + tkey sg t s) b1 (by omega) (by omega) (fun S3 f3 b3 => ho _ S3 e0 (frX_trans r1 (frX_sub f3 (by simp))) (PE_89 p1 f3) b3)
    refine nI_ifEq (y := 2) (by omega) (by omega) (fun q => part (by omega)) (fun q1 => ?_)
    refine nI_ifEq (y := 144) (by omega) (by omega) (fun q => part (by omega)) (fun q2 => ?_)
    refine nI_ifEq (y := 40) (by omega) (by omega) (fun q => part (by omega)) (fun q3 => ?_)
    refine nI_if (x := 147) (by omega) (by omega) (fun q => part (by omega)) (fun q4 => ?_)
    rw [if_neg (by omega), if_neg (by omega), if_neg (by omega), if_neg (by omega)] at e0
    exact e_wrong h.1 ⟨Or.inl rfl, hb _ _ e0 (frX_sI (frX_refl _ _) (by simp)) (by rw [gI_sI, if_pos ⟨rfl, rfl⟩]; exact n16 1 s)⟩
