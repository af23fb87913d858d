/-! ===== pure: whom the bars forbid, by both ===== -/
def env (F : Fm) (a b : Nat) : EV := fun k => if k = 1 then nI (F 6 a) else if k = 2 then nI (F 6 b) else if k = 3 then nI (F 5 a) else if k = 4 then nI (F 5 b) else if F 4 a = F 4 b then 1 else 0
def hold (bs : List BX) (F : Fm) (a b : Nat) : Bool := bs.any (fun y => decide (y.2.2.2 (env F a b) ≠ 0))
def bq (f : Nat → Bool) : Nat → Nat
  | 0 => 0
  | n + 1 => bq f n ||| (if f n = true then 2 ^ n else 0)
theorem bq_lt (f : Nat → Bool) : ∀ n, bq f n < 2 ^ n
  | 0 => by show 0 < 1; omega
  | n + 1 => by
    have h := bq_lt f n
    have p : 2 ^ n < 2 ^ (n + 1) := Nat.pow_lt_pow_right (by omega) (by omega)
    show bq f n ||| (if f n = true then 2 ^ n else 0) < 2 ^ (n + 1)
    refine or_lt (Nat.lt_trans h p) ?_
    split
    · exact p
    · exact Nat.two_pow_pos _
theorem bq_bit (f : Nat → Bool) (b : Nat) : ∀ n, (bq f n).testBit b = (decide (b < n) && f b)
  | 0 => by
    show Nat.testBit 0 b = _
    rw [Nat.zero_testBit]; simp
  | n + 1 => by
    show (bq f n ||| (if f n = true then 2 ^ n else 0)).testBit b = _
    rw [Nat.testBit_or, bq_bit f b n]
    by_cases e : b = n
    · subst e
      cases q : f b with
      | true => rw [if_pos rfl, tb_one]; simp
      | false => rw [if_neg (by decide), Nat.zero_testBit]; simp
    · have e1 : (if f n = true then 2 ^ n else 0).testBit b = false := by
        split
        · rw [tb_one]; simp; omega
        · exact Nat.zero_testBit b
      rw [e1, Bool.or_false]
      congr 1
      by_cases c : b < n
      · rw [decide_eq_true c, decide_eq_true (by omega)]
      · rw [decide_eq_false c, decide_eq_false (by omega)]
theorem rE_EL {ev : EV} : ∀ bs : List BX, (∀ y, y ∈ bs → GB y) → rE ev (EL bs) [] = some (bs.any (fun y => decide (y.2.2.2 ev ≠ 0))) := by
  intro bs
  induction bs with
  | nil => intro _; rfl
  | cons y bs ih =>
    intro h
    have e : EL (y :: bs) = y.2.1 ++ (10059 :: EL bs) := by
      unfold EL
      rw [List.flatMap_cons, List.append_assoc]; rfl
    rw [e, (h y (by simp)).1 ev (EL bs), ih (fun z hz => h z (by simp [hz]))]
    rw [List.any_cons]
    by_cases z : y.2.2.2 ev = 0
    · rw [if_pos z, decide_eq_false (fun q => q z), Bool.false_or]
    · rw [if_neg z, decide_eq_true z, Bool.true_or]
theorem EL_code {bs : List BX} (h : ∀ y, y ∈ bs → GB y) {j : Nat} (hj : j < (EL bs).length) : (EL bs).getD j 0 < 10152 := by
  have m : (EL bs).getD j 0 ∈ EL bs := by
    show ((EL bs)[j]?).getD 0 ∈ EL bs
    rw [List.getElem?_eq_getElem hj]
    exact List.getElem_mem hj
  unfold EL at m
  rw [List.mem_flatMap] at m
  obtain ⟨y, y1, y2⟩ := m
  rw [List.mem_append, List.mem_singleton] at y2
  rcases y2 with q | q
  · exact (h y y1).2.2.1 _ q
  · unfold EL; omega
theorem e_weigh {bs : List BX} {F : Fm} {S : St} {Q : St → Prop} (hw : F 0 5 ≤ 12) (hF : ∀ w, w < F 0 5 → F 4 w ≤ 99 ∧ F 5 w ≤ 9 ∧ F 6 w ≤ 99) (hT : gI S 11 5 = nI (F 0 5)) (hT2 : ∀ k j, 4 ≤ k → k ≤ 6 → j < F 0 5 → gI S (11 + k) j = nI (F k j)) (hB : BE (EL bs) S) (hg : ∀ y, y ∈ bs → GB y) (hQ : ∀ S', frX [8, 10, 18] S S' → (∀ a, a < F 0 5 → gI S' 18 a = nI (bq (hold bs F a) (F 0 5))) → Q S') : w_X0_weigh 11 S Q := by
  unfold w_X0_weigh w_X0_weigh_2
  refine up1 (B := b_X0_weigh_2 11 Q) (F 0 5) (by omega) (fun a S' => (frX [8, 10, 18] S S' ∧ gI S' 8 1 = gI S 8 1) ∧ ∀ a', a' < a → gI S' 18 a' = nI (bq (hold bs F a') (F 0 5))) ?_ ?_ 0 (by omega) ⟨⟨frX_refl _ _, rfl⟩, fun _ q => absurd q (by omega)⟩
  · rintro k a S' ha ⟨⟨f1, f2⟩, h2⟩ hk
    unfold b_X0_weigh_2
    rw [frX_g f1 11 5 (by simp), hT, if_neg (nI_ge ha (by omega))]
    unfold w_X0_weigh_15
    refine up2 (B := b_X0_weigh_15 11 k (nI a)) (F 0 5) (by omega) (fun b v S2 => (FS8 S' S2) ∧ v = nI (bq (hold bs F a) b)) ?_ ?_ 0 (0 : Int32) (by omega) ⟨FS8_refl _, rfl⟩
    · rintro k2 b v S2 hb ⟨g1, rfl⟩ hk2
      have l1 : frX [8, 10, 18] S S2 := frX_trans f1 (frX_sub g1.1 (by simp))
      unfold b_X0_weigh_15
      rw [frX_g l1 11 5 (by simp), hT, if_neg (nI_ge hb (by omega))]
      have hE : EvF (env F a b) a b S2 := by
        unfold EvF
        rw [frX_g l1 17 a (by simp), frX_g l1 17 b (by simp), frX_g l1 16 a (by simp), frX_g l1 16 b (by simp), frX_g l1 15 a (by simp), frX_g l1 15 b (by simp)]
        rw [show gI S 17 a = nI (F 6 a) from hT2 6 a (by omega) (by omega) ha, show gI S 17 b = nI (F 6 b) from hT2 6 b (by omega) (by omega) hb, show gI S 16 a = nI (F 5 a) from hT2 5 a (by omega) (by omega) ha, show gI S 16 b = nI (F 5 b) from hT2 5 b (by omega) (by omega) hb, show gI S 15 a = nI (F 4 a) from hT2 4 a (by omega) (by omega) ha, show gI S 15 b = nI (F 4 b) from hT2 4 b (by omega) (by omega) hb]
        refine ⟨rfl, rfl, rfl, rfl, ?_⟩
        show (if F 4 a = F 4 b then (1 : Int32) else 0) = if nI (F 4 a) = nI (F 4 b) then 1 else 0
        have x1 := (hF a ha).1
        have x2 := (hF b hb).1
        by_cases e : F 4 a = F 4 b
        · rw [if_pos e, if_pos (by rw [e])]
        · rw [if_neg e, if_neg (fun q => e (nI_inj (by omega) (by omega) q))]
      have hB2 : BE (EL bs) S2 := ⟨hB.1, by rw [g1.2, f2]; exact hB.2.1, fun j hj => ⟨(hB.2.2 j hj).1, by rw [frX_g l1 9 j (by simp)]; exact (hB.2.2 j hj).2⟩⟩
      refine e_holds (res := hold bs F a b) (by omega) (by omega) hB2 hE (fun j hj => EL_code hg hj) (rE_EL bs hg) (fun S3 g3 => ?_)
      have pw : 2 ^ b < 2 ^ 31 := Nat.pow_lt_pow_right (by omega) (by omega)
      have nx : ∀ t0 : Int32, t0 = nI (if hold bs F a b = true then 2 ^ b else 0) → w_X0_weigh_44 11 k2 (nI a) (nI b) t0 (nI (bq (hold bs F a) b)) S3 := by
        intro t0 ht0
        unfold w_X0_weigh_44
        rintro x45 rfl x46 rfl
        rw [ht0, bN_or]
        exact hk2 _ S3 _ rfl ⟨FS8_trans g1 g3, rfl⟩
      cases q : hold bs F a b with
      | true =>
        rw [q] at nx
        rw [if_pos rfl, if_neg (by decide)]
        exact nx _ (by rw [bN_one (by omega), if_pos rfl])
      | false =>
        rw [q] at nx
        rw [if_pos (show (if false = true then (1 : Int32) else 0) = 0 from rfl)]
        exact nx _ (by rw [if_neg (by decide)]; rfl)
    · rintro k2 v S2 ⟨g1, rfl⟩
      have l1 : frX [8, 10, 18] S S2 := frX_trans f1 (frX_sub g1.1 (by simp))
      unfold b_X0_weigh_15
      rw [frX_g l1 11 5 (by simp), hT, if_pos (nI_le (Nat.le_refl _) (by omega))]
      refine e_put (p := 18) (show a < 12 by omega) (by decide) ?_
      rintro x rfl
      rw [nI_1]
      refine hk _ (nI (a + 1)) (nI_1 a).symm ⟨⟨frX_sI l1 (by simp), by rw [gI_sI, if_neg (by omega), g1.2, f2]⟩, fun a' ha' => ?_⟩
      rw [gI_sI]
      by_cases e : a' = a
      · rw [if_pos ⟨rfl, e⟩, e]
      · rw [if_neg (fun q => e q.2), frX_g g1.1 18 a' (by simp)]; exact h2 a' (by omega)
  · rintro k S' ⟨⟨f1, f2⟩, h2⟩
    unfold b_X0_weigh_2
    rw [frX_g f1 11 5 (by simp), hT, if_pos (nI_le (Nat.le_refl _) (by omega))]
    exact hQ S' f1 h2
theorem m_bars {bs : List BX} {F : Fm} {a b t : Nat} {S : St} {Q : Int32 → St → Prop} (hw : F 0 5 ≤ 12) (ha : a < F 0 5) (hb : b < F 0 5) (hF : ∀ w, w < F 0 5 → F 4 w ≤ 99 ∧ F 5 w ≤ 9 ∧ F 6 w ≤ 99) (hM : ∀ w, w < F 0 5 → gI S 6 w = nI (F 4 w) ∧ gI S 7 w = nI (F 5 w) ∧ gI S 8 w = nI (F 6 w)) (h16 : gI S 0 16 = nI bs.length) (h4 : bs.length ≤ 4) (ht : t ≤ 1000) (hB : BM bs t S) (hg : ∀ y, y ∈ bs → GB y) (hQ : ∀ S', frX [23, 24, 25, 26, 27, 28, 29, 30, 31, 32] S S' → Q (if hold bs F a b = true then 1 else 0) S') : w_X12_bars (nI a) (nI b) S Q := by
  obtain ⟨c, hc1, hc2, hc3⟩ := hB
  have va := vp_in_nI (n := a) (N := 12) (by omega) (by omega)
  have vb := vp_in_nI (n := b) (N := 12) (by omega) (by omega)
  have main : ∀ S5 : St, frX [23, 24, 25, 26, 27, 28, 29, 30, 31, 32] S S5 → (∀ j, 1 ≤ j → j ≤ 5 → gI S5 32 j = env F a b j) → w_X12_bars_76 Q (0 : Int32) S5 := by
    intro S5 f5 g5
    unfold w_X12_bars_76
    refine up1 (B := b_X12_bars_76 Q) bs.length (by omega) (fun i S' => frX [23, 24, 25, 26, 27, 28, 29, 30, 31, 32] S S' ∧ (∀ j, 1 ≤ j → j ≤ 5 → gI S' 32 j = env F a b j) ∧ hold bs F a b = hold (bs.drop i) F a b) ?_ ?_ 0 (by omega) ⟨f5, g5, rfl⟩
    · rintro k i S' hi ⟨f1, g1, h1⟩ hk
      unfold b_X12_bars_76
      rw [frX_g f1 0 16 (by simp), h16, if_neg (nI_ge hi (by omega))]
      have hy : bs[i]? = some bs[i] := List.getElem?_eq_getElem hi
      have hin : bs[i] ∈ bs := List.getElem_mem hi
      obtain ⟨x, k1, k2, k3, k4⟩ := hc3 i bs[i] hy
      obtain ⟨gb1, gb2, gb3⟩ := hg _ hin
      rw [List.drop_eq_getElem_cons hi] at h1
      generalize bs[i] = y at k2 k3 k4 gb1 gb2 gb3 h1
      have h1 : hold bs F a b = (decide (y.2.2.2 (env F a b) ≠ 0) || hold (bs.drop (i + 1)) F a b) := h1
      refine m_worked (cm := y.2.2.1) (ev := env F a b) (base := x) (res := y.2.2.2 (env F a b)) (by omega) (by rw [frX_g f1 18 i (by simp)]; exact k1) (by rw [frX_g f1 19 i (by simp)]; exact k2) (by omega) (fun j hj => ⟨by rw [frX_g f1 20 _ (by simp)]; exact k4 j hj, gb3.2 _ ?_⟩) g1 (gb2 _) (fun S2 f2 => ?_)
      · show (y.2.2.1[j]?).getD 0 ∈ y.2.2.1
        rw [List.getElem?_eq_getElem hj]
        exact List.getElem_mem hj
      · have f12 : frX [23, 24, 25, 26, 27, 28, 29, 30, 31, 32] S S2 := frX_trans f1 (frX_sub f2 (by simp))
        by_cases z : y.2.2.2 (env F a b) = 0
        · rw [if_pos z]
          rw [decide_eq_false (fun q => q z), Bool.false_or] at h1
          intro w hw2
          exact hk S2 w hw2 ⟨f12, fun j j1 j2 => by rw [frX_g f2 32 j (by simp)]; exact g1 j j1 j2, h1⟩
        · rw [if_neg z]
          rw [decide_eq_true z, Bool.true_or] at h1
          have := hQ S2 f12
          rw [h1, if_pos rfl] at this
          exact this
    · rintro k S' ⟨f1, g1, h1⟩
      unfold b_X12_bars_76
      rw [frX_g f1 0 16 (by simp), h16, if_pos (nI_le (Nat.le_refl _) (by omega))]
      rw [List.drop_length] at h1
      have := hQ S' f1
      rw [h1] at this
      exact this
  unfold w_X12_bars
  obtain ⟨m1, m2, m3⟩ := hM a ha
  obtain ⟨o1, o2, o3⟩ := hM b hb
  rw [nI_clamp (by omega), nI_clamp (by omega)]
  refine ⟨va, fun S1 e1 => ⟨vb, fun S2 e2 => ⟨va, fun S3 e3 => ⟨vb, fun S4 e4 => ⟨va, vb, ?_⟩⟩⟩⟩⟩
  have x1 : frX [32] S S1 := by rw [e1]; exact frX_sI (frX_refl _ _) (by simp)
  have x2 : frX [32] S S2 := by rw [e2]; exact frX_sI x1 (by simp)
  have x3 : frX [32] S S3 := by rw [e3]; exact frX_sI x2 (by simp)
  have x4 : frX [32] S S4 := by rw [e4]; exact frX_sI x3 (by simp)
  rw [m3] at e1
  rw [frX_g x1 8 b (by simp), o3] at e2
  rw [frX_g x2 7 a (by simp), m2] at e3
  rw [frX_g x3 7 b (by simp), o2] at e4
  rw [frX_g x4 6 a (by simp), frX_g x4 6 b (by simp), m1, o1]
  have b1 := (hF a ha).1
  have b2 := (hF b hb).1
  have go : ∀ t0 : Int32, t0 = env F a b 5 → w_X12_bars_73 Q t0 (5 : Int32) S4 := by
    intro t0 ht0
    unfold w_X12_bars_73
    refine ⟨vp_in_nI (n := 5) (N := 20) (by omega) (by omega), fun S5 e5 => main S5 (by rw [e5]; exact frX_sI (frX_sub x4 (by simp)) (by simp)) (fun j j1 j2 => ?_)⟩
    have e5 : S5 = sI S4 32 5 t0 := e5
    have e4 : S4 = sI S3 32 4 (nI (F 5 b)) := e4
    have e3 : S3 = sI S2 32 3 (nI (F 5 a)) := e3
    have e2 : S2 = sI S1 32 2 (nI (F 6 b)) := e2
    have e1 : S1 = sI S 32 1 (nI (F 6 a)) := e1
    rw [e5, e4, e3, e2, e1]
    have : j = 1 ∨ j = 2 ∨ j = 3 ∨ j = 4 ∨ j = 5 := by omega
    rcases this with rfl | rfl | rfl | rfl | rfl
    · simp [gI_sI, env]
    · simp [gI_sI, env]
    · simp [gI_sI, env]
    · simp [gI_sI, env]
    · rw [gI_sI, if_pos ⟨rfl, rfl⟩]; exact ht0
  refine nI_ifEq (by omega) (by omega) (fun z => go 1 ?_) (fun z => go 0 ?_)
  · show (1 : Int32) = if F 4 a = F 4 b then 1 else 0
    rw [if_pos z]
  · show (0 : Int32) = if F 4 a = F 4 b then 1 else 0
    rw [if_neg z]
