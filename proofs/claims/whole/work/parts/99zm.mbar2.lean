/-! ===== pure: the reference reads a bar, whole ===== -/
theorem m_puts2 {sg : Nat → Nat} {t s base c : Nat} {C : List Nat} {st : AS} {S0 S : St} {Q : St → Prop} (h : CdM S0 base C S) (hl : base + C.length < 1000) (hc : CurM sg t s S) (hf : FB S0 S) (ho : OpL st S) (hQ : ∀ S', CdM S0 base (C ++ [c]) S' → CurM sg t s S' → FB S0 S' → OpL st S' → Q S') : w_X12_puts (nI c) S Q := by
  refine m_puts h hl (fun S1 e1 c1 => hQ S1 c1 ?_ ?_ ?_)
  · rw [e1]; exact CurM_s0 (by omega) (CurM_X (frX_sI (frX_refl [20] S) (by simp)) (by simp) hc)
  · rw [e1]; exact FB_s0 (FB_s2 hf (by omega)) (by omega)
  · refine OpL_eq st S S1 (fun b j hb _ => ?_) ho
    rw [e1, gI_sI, if_neg (by omega), gI_sI, if_neg (by omega)]
theorem m_reads {sg : Nat → Nat} {t s base : Nat} {S : St} {Q : Int32 → St → Prop} (hc : CurM sg t s S) (h43 : gI S 0 43 = nI base) (hbase : base ≤ s)
    (hb : ∀ f S', autM sg t (t + 1) [(0, false)] true s [] = Sum.inl f → FB S S' → gI S' 0 9 = nI f → Q 0 S')
    (ho : ∀ s' C S', autM sg t (t + 1) [(0, false)] true s [] = Sum.inr (s', C) → FB S S' → CurM sg t s' S' → CdM S base C S' → Q 1 S') : w_X12_reads S Q := by
  have ht : t ≤ 1000 := hc.1.1
  have hs0 : s ≤ t := hc.2.1
  unfold w_X12_reads
  intro S1 e1
  have f1 : FB S S1 := by rw [e1]; exact FB_s2 (FB_refl S) (by omega)
  have c1 : CurM sg t s S1 := by rw [e1]; exact CurM_X (frX_sI (frX_refl [22] S) (by simp)) (by simp) hc
  have g1 : ∀ b j, b ≠ 22 → gI S1 b j = gI S b j := fun b j hb => by rw [e1, gI_sI, if_neg (fun q => hb q.1)]
  unfold w_X12_reads_11
  generalize hR : autM sg t (t + 1) [(0, false)] true s [] = R at hb ho
  refine loopG2 (fun g v1 v2 S' => ∃ (st : AS) (w : Bool) (s : Nat) (C : List Nat), v1 = nI (st.length - 1) ∧ v2 = (if w = true then 1 else 0) ∧ st ≠ [] ∧ st.length ≤ 6 ∧ OpL st S' ∧ CurM sg t s S' ∧ FB S S' ∧ CdM S base C S' ∧ base + C.length ≤ s ∧ t + 1 ≤ g + s ∧ autM sg t g st w s C = R) ?_ (t + 1) (nI 0) 1 ⟨[(0, false)], true, s, [], rfl, rfl, by simp, by decide, ⟨by show 0 ≤ 2; omega, by rw [e1, gI_sI, if_pos ⟨rfl, rfl⟩]; rfl, fun q => absurd q (by decide), trivial⟩, c1, f1, ⟨by rw [g1 0 43 (by omega)]; exact h43, by show base + 0 ≤ 1000; omega, fun j hj => absurd hj (by simp), fun j _ => g1 20 j (by omega)⟩, by show base + 0 ≤ s; omega, by omega, hR⟩
  rintro k g v1 v2 S' ⟨st, w, s, C, rfl, rfl, hne, hl, hOp, hcu, hfb, hcd, hln, hg, hA⟩ hk
  have hs := hcu.2.1
  have kk := tkey_lt sg t s
  obtain ⟨g, rfl⟩ : ∃ g2, g = g2 + 1 := ⟨g - 1, by omega⟩
  obtain ⟨x, r, rfl⟩ : ∃ x r, st = x :: r := by
    cases st with
    | nil => exact absurd rfl hne
    | cons x r => exact ⟨x, r, rfl⟩
  have ll : (x :: r).length = r.length + 1 := rfl
  rw [ll] at hl ⊢
  rw [show r.length + 1 - 1 = r.length by omega]
  have vd := vp_in_nI (n := r.length) (N := 7) (by omega) (by omega)
  have A0 : autM sg t (g + 1) (x :: r) w s C = autM sg t (g + 1) (x :: r) w s C := rfl
  conv at A0 => rhs; unfold autM
  rw [hA] at A0
  -- the next token, and on
  have go : ∀ (S2 : St) (st2 : AS) (w2 : Bool) (C2 : List Nat), tkey sg t s ≠ 0 → st2 ≠ [] → st2.length ≤ 6 → OpL st2 S2 → CurM sg t s S2 → FB S S2 → CdM S base C2 S2 → base + C2.length ≤ s + 1 → R = autM sg t g st2 w2 (nxt sg t s) C2 → w_X12_nextToken S2 (fun S3 => k (nI (st2.length - 1)) (if w2 = true then 1 else 0) S3) := by
    intro S2 st2 w2 C2 hkey a0 a1 a2 a3 a4 a5 a6 a7
    obtain ⟨n1, n2⟩ := key_nxt (sg := sg) hs hkey
    refine m_next a3 (fun S3 f3 c3 => ?_)
    refine hk g _ _ S3 ⟨st2, w2, nxt sg t s, C2, rfl, rfl, a0, a1, OpL_eq st2 S2 S3 (fun b j hb2 _ => f3.1 b j (by omega)) a2, c3, FB_trans a4 (FB_FT f3), CdM_eq a5 (f3.1 0 43 (by omega)) (fun j => f3.1 20 j (by omega)), by omega, by omega, a7.symm⟩ (by omega)
  have fail : ∀ (kd : Nat) (S2 : St), CurM sg t s S2 → FB S S2 → R = Sum.inl (kd + 16 * s) → w_X12_fails (nI kd) S2 (fun r S3 => (r = 0 ∨ r = 1) ∧ Q r S3) := by
    intro kd S2 a1 a2 a3
    exact m_fails9 (k := nI kd) a1 ⟨Or.inl rfl, hb _ _ a3 (FB_s0 a2 (by omega)) (by rw [gI_sI, if_pos ⟨rfl, rfl⟩]; exact n16 kd s)⟩
  have room : tkey sg t s ≠ 0 → base + C.length < 1000 := fun hkey => by
    have := key_lt hs hkey
    omega
  unfold b_X12_reads_11
  cases w with
  | true =>
    rw [if_neg (by decide)]
    rw [if_pos rfl] at A0
    refine m_fact hcu ?_
    refine m_isWord9 (i := 16) hcu (by omega) (by rfl) ?_
    refine m_isSign9 (c := 40) hcu (by decide) ?_
    show (if nI (if 147 ≤ tkey sg t s then tkey sg t s - 146 else 0) = 0 then _ else _)
    have five : (tkey sg t s = 2 ∨ tkey sg t s = 144 ∨ tkey sg t s = 40 ∨ 147 ≤ tkey sg t s) → w_X12_reads_65 Q k (nI r.length) (if true = true then 1 else 0) (nI (if 147 ≤ tkey sg t s then tkey sg t s - 146 else 0)) (if tkey sg t s = 128 + 16 then 1 else 0) (if tkey sg t s = 40 then 1 else 0) S' := by
      intro hq
      have rm := room (by omega)
      rw [if_pos hq] at A0
      unfold w_X12_reads_65
      refine nI_ifEq (y := 5) (by omega) (by omega) (fun z => ?_) (fun z => ?_)
      · rw [if_pos (by rw [ll]; omega)] at A0
        exact fail 5 S' hcu hfb A0
      rw [if_neg (by rw [ll]; omega)] at A0
      have opn : ∀ (o kd : Nat), (tkey sg t s = 144 ∧ o = 1 ∧ kd = 30) ∨ (tkey sg t s = 40 ∧ o = 2 ∧ kd = 28) → R = autM sg t g ((o, false) :: x :: r) true (nxt sg t s) (C ++ [kd]) → ∀ v4 : Int32, (v4 = 0 ↔ o = 2) → w_X12_reads_86 k (nI r.length) (if true = true then 1 else 0) v4 S' := by
        intro o kd hok hR2 v4 hv4
        have o2 : o ≤ 2 := by omega
        have vp := vp_in_nI (n := r.length + 1) (N := 7) (by omega) (by omega)
        have nx : ∀ S2, CdM S base (C ++ [kd]) S2 → CurM sg t s S2 → FB S S2 → OpL (x :: r) S2 → w_X12_reads_120 k (nI (r.length + 1)) (if true = true then 1 else 0) (nI o) (nI (r.length + 1)) S2 := by
          intro S2 b1 b2 b3 b4
          unfold w_X12_reads_120 w_X12_reads_172
          rw [nI_clamp (by omega)]
          refine ⟨vp, fun S3 e3 => ⟨vp, fun S4 e4 => ?_⟩⟩
          rw [e3] at e4
          have low : ∀ b j, j < r.length + 1 → gI S4 b j = gI S2 b j := fun b j hj => by rw [e4, gI_sI, if_neg (by omega), gI_sI, if_neg (by omega)]
          have := go S4 ((o, false) :: x :: r) true (C ++ [kd]) (by omega) (by simp) (by simp only [List.length_cons]; omega) ⟨o2, by rw [e4, ll, gI_sI, if_pos ⟨rfl, rfl⟩]; rfl, fun _ => by rw [e4, ll, gI_sI, if_neg (by omega), gI_sI, if_pos ⟨rfl, rfl⟩], OpL_eq (x :: r) S2 S4 (fun b j _ hj => low b j hj) b4⟩ (by rw [e4]; exact CurM_X (frX_sI (frX_sI (frX_refl [21, 22] S2) (by simp)) (by simp)) (by simp) b2) (by rw [e4]; exact FB_s2 (FB_s2 b3 (by omega)) (by omega)) (CdM_eq b1 (by rw [e4, gI_sI, if_neg (by omega), gI_sI, if_neg (by omega)]) (fun j => by rw [e4, gI_sI, if_neg (by omega), gI_sI, if_neg (by omega)])) (by simp only [List.length_append, List.length_cons, List.length_nil]; omega) hR2
          exact this
        unfold w_X12_reads_86
        rcases hok with ⟨h1, rfl, rfl⟩ | ⟨h1, rfl, rfl⟩
        · have v0 : ¬ v4 = 0 := fun q => absurd (hv4.mp q) (by omega)
          rw [if_neg v0]
          unfold w_X12_reads_99
          refine m_puts2 (c := 30) hcd rm hcu hfb hOp (fun S2 b1 b2 b3 b4 => ?_)
          rintro x102 rfl
          rw [if_neg v0, nI_1]
          exact nx S2 b1 b2 b3 b4
        · have v0 : v4 = 0 := hv4.mpr rfl
          rw [if_pos v0]
          unfold w_X12_reads_99
          refine m_puts2 (c := 28) hcd rm hcu hfb hOp (fun S2 b1 b2 b3 b4 => ?_)
          rintro x102 rfl
          rw [if_pos v0, nI_1]
          exact nx S2 b1 b2 b3 b4
      have val : ∀ (c : Nat) (t0 : Int32), t0 = nI c → tkey sg t s ≠ 144 → tkey sg t s ≠ 40 → c = (if tkey sg t s = 2 then 100 + v10 sg t s else tkey sg t s - 146) → w_X12_reads_147 k (nI r.length) t0 S' := by
        intro c t0 ht0 n144 n40 hcc
        rw [if_neg n144, if_neg n40, ← hcc] at A0
        rw [ht0]
        unfold w_X12_reads_147
        refine m_puts2 (c := c) hcd rm hcu hfb hOp (fun S2 b1 b2 b3 b4 => ?_)
        obtain ⟨p1, p2⟩ := popN_len (x :: r) (by simp)
        rw [ll] at p2
        exact (m_popA (st := x :: r) (by simp) (by rw [ll]; omega) b4 (go S2 (popN (x :: r)) false (C ++ [c]) (by omega) p1 (by omega) (popN_Op _ _ b4) b2 b3 b1 (by simp only [List.length_append, List.length_cons, List.length_nil]; omega) A0)).1
      by_cases q144 : tkey sg t s = 144
      · rw [if_pos (show tkey sg t s = 128 + 16 from q144), if_neg (by decide)]
        rw [if_pos q144] at A0
        exact opn 1 30 (Or.inl ⟨q144, rfl, rfl⟩) A0 1 ⟨fun q => absurd q (by decide), fun q => absurd q (by decide)⟩
      rw [if_neg (show ¬ tkey sg t s = 128 + 16 from q144), if_pos rfl]
      by_cases q40 : tkey sg t s = 40
      · rw [if_pos q40, if_neg (by decide)]
        rw [if_neg q144, if_pos q40] at A0
        exact opn 2 28 (Or.inr ⟨q40, rfl, rfl⟩) A0 0 ⟨fun _ => rfl, fun _ => rfl⟩
      rw [if_neg q40, if_pos rfl]
      by_cases q147 : 147 ≤ tkey sg t s
      · rw [if_pos q147, if_neg (nI_nle (by omega) (by omega))]
        exact val _ _ rfl q144 q40 (by rw [if_neg (by omega)])
      · have q2 : tkey sg t s = 2 := by omega
        rw [if_neg q147, if_pos (by decide), hcu.2.2.2.2.2.2 (tkey_num.mp q2), show (100 : Int32) = nI 100 from rfl, nI_add]
        exact val _ _ rfl q144 q40 (by rw [if_pos q2])
    by_cases q147 : 147 ≤ tkey sg t s
    · have := five (Or.inr (Or.inr (Or.inr q147)))
      rw [if_neg (show ¬ nI (if 147 ≤ tkey sg t s then tkey sg t s - 146 else 0) = 0 by rw [if_pos q147]; exact nI_ne0 (by omega) (by omega))]
      exact this
    rw [if_pos (show nI (if 147 ≤ tkey sg t s then tkey sg t s - 146 else 0) = 0 by rw [if_neg q147]; rfl)]
    by_cases q144 : tkey sg t s = 144
    · have := five (Or.inr (Or.inl q144))
      rw [if_neg (show ¬ (if tkey sg t s = 128 + 16 then (1 : Int32) else 0) = 0 by rw [if_pos (show tkey sg t s = 128 + 16 from q144)]; decide)]
      exact this
    rw [if_pos (show (if tkey sg t s = 128 + 16 then (1 : Int32) else 0) = 0 by rw [if_neg (show ¬ tkey sg t s = 128 + 16 from q144)])]
    by_cases q40 : tkey sg t s = 40
    · have := five (Or.inr (Or.inr (Or.inl q40)))
      rw [if_neg (show ¬ (if tkey sg t s = 40 then (1 : Int32) else 0) = 0 by rw [if_pos q40]; decide)]
      exact this
    rw [if_pos (show (if tkey sg t s = 40 then (1 : Int32) else 0) = 0 by rw [if_neg q40])]
    rw [hcu.2.2.2.2.1]
    have kle := tkind_le sg t s
    refine nI_ifEq (y := 2) (by omega) (by omega) (fun z => five (Or.inl (tkey_num.mpr z))) (fun z => ?_)
    have q2 : tkey sg t s ≠ 2 := fun q => z (tkey_num.mp q)
    rw [if_neg (by omega)] at A0
    exact fail 1 S' hcu hfb A0
  | false =>
    rw [show (if false = true then (1 : Int32) else 0) = 0 from rfl, if_pos rfl]
    rw [if_neg (by decide)] at A0
    have put_ : ∀ (c : Nat), tkey sg t s ≠ 0 → ∀ (st2 : AS), R = autM sg t g st2 true (nxt sg t s) (C ++ [c]) → st2 = x :: r → w_X12_reads_237 k (nI r.length) (nI c) S' := by
      intro c hkey st2 hR2 hst
      rw [hst] at hR2
      unfold w_X12_reads_237
      refine m_puts2 (c := c) hcd (room hkey) hcu hfb hOp (fun S2 b1 b2 b3 b4 => ?_)
      unfold w_X12_reads_424
      exact go S2 (x :: r) true (C ++ [c]) hkey (by simp) (by rw [ll]; omega) b4 b2 b3 b1 (by simp only [List.length_append, List.length_cons, List.length_nil]; omega) hR2
    have setc : ∀ (c : Nat) (b : Bool), tkey sg t s ≠ 0 → R = autM sg t g ((x.1, b) :: r) true (nxt sg t s) (C ++ [c]) → w_X12_puts (nI c) S' (fun S289_33 => vp_in (nI r.length) 7 ∧ (∀ S298_34, S298_34 = sI S289_33 22 (nI r.length).toNatClampNeg (if b = true then (1 : Int32) else 0) → w_X12_reads_424 k (nI r.length) (1 : Int32) S298_34)) := by
      intro c b hkey hR2
      refine m_puts2 (c := c) hcd (room hkey) hcu hfb hOp (fun S2 b1 b2 b3 b4 => ⟨vd, fun S3 e3 => ?_⟩)
      rw [nI_clamp (by omega)] at e3
      unfold w_X12_reads_424
      obtain ⟨o1, o2, o3, o4⟩ := b4
      exact go S3 ((x.1, b) :: r) true (C ++ [c]) hkey (by simp) (by show r.length + 1 ≤ 6; omega) ⟨o1, by rw [e3, gI_sI, if_pos ⟨rfl, rfl⟩], fun q => by rw [e3, gI_sI, if_neg (by omega)]; exact o3 q, OpL_eq r S2 S3 (fun b0 j _ hj => by rw [e3, gI_sI, if_neg (by omega)]) o4⟩ (by rw [e3]; exact CurM_X (frX_sI (frX_refl [22] S2) (by simp)) (by simp) b2) (by rw [e3]; exact FB_s2 b3 (by omega)) (CdM_eq b1 (by rw [e3, gI_sI, if_neg (by omega)]) (fun j => by rw [e3, gI_sI, if_neg (by omega)])) (by simp only [List.length_append, List.length_cons, List.length_nil]; omega) hR2
    have arith : (tkey sg t s = 43 ∨ tkey sg t s = 45 ∨ tkey sg t s = 42) → w_X12_reads_206 k (nI r.length) S' := by
      intro q
      rw [if_pos q] at A0
      unfold w_X12_reads_206
      refine m_isSign9 (c := 43) hcu (by decide) ?_
      by_cases q43 : tkey sg t s = 43
      · rw [if_pos q43, if_neg (by decide)]
        rw [q43] at A0
        exact put_ 20 (by omega) _ A0 rfl
      rw [if_neg q43, if_pos rfl]
      refine m_isSign9 (c := 45) hcu (by decide) ?_
      by_cases q45 : tkey sg t s = 45
      · rw [if_pos q45, if_neg (by decide)]
        rw [q45] at A0
        exact put_ 21 (by omega) _ A0 rfl
      · rw [if_neg q45, if_pos rfl]
        rw [show tkey sg t s = 42 by omega] at A0
        exact put_ 22 (by omega) _ A0 rfl
    refine m_isSign9 (c := 43) hcu (by decide) ?_
    by_cases q43 : tkey sg t s = 43
    · rw [if_pos q43, if_neg (by decide)]; exact arith (Or.inl q43)
    rw [if_neg q43, if_pos rfl]
    refine m_isSign9 (c := 45) hcu (by decide) ?_
    by_cases q45 : tkey sg t s = 45
    · rw [if_pos q45, if_neg (by decide)]; exact arith (Or.inr (Or.inl q45))
    rw [if_neg q45, if_pos rfl]
    refine m_isSign9 (c := 42) hcu (by decide) ?_
    by_cases q42 : tkey sg t s = 42
    · rw [if_pos q42, if_neg (by decide)]; exact arith (Or.inr (Or.inr q42))
    rw [if_neg q42, if_pos rfl]
    rw [if_neg (by omega)] at A0
    have A1 : R = if (tkey sg t s = 60 ∨ tkey sg t s = 61) ∧ x.2 = false then autM sg t g ((x.1, true) :: r) true (nxt sg t s) (C ++ [opM (tkey sg t s)])
        else if tkey sg t s = 145 ∨ tkey sg t s = 146 then autM sg t g ((x.1, false) :: r) true (nxt sg t s) (C ++ [opM (tkey sg t s)])
        else if tkey sg t s = 41 ∧ r ≠ [] then autM sg t g (popN r) false (nxt sg t s) (C ++ [29])
        else if tkey sg t s = 59 ∧ r = [] then Sum.inr (nxt sg t s, C)
        else Sum.inl (1 + 16 * s) := A0
    have o22 := hOp.2.1
    have rest : ¬ ((tkey sg t s = 60 ∨ tkey sg t s = 61) ∧ x.2 = false) → w_X12_reads_304 Q k (nI r.length) 0 S' := by
      intro q
      rw [if_neg q] at A1
      unfold w_X12_reads_304
      have join_ : (tkey sg t s = 145 ∨ tkey sg t s = 146) → w_X12_reads_324 k (nI r.length) S' := by
        intro y
        rw [if_pos y] at A1
        unfold w_X12_reads_324
        refine m_isWord9 (i := 17) hcu (by omega) (by rfl) ?_
        by_cases y5 : tkey sg t s = 145
        · rw [if_pos (show tkey sg t s = 128 + 17 from y5), if_neg (by decide)]
          rw [y5] at A1
          unfold w_X12_reads_342
          exact setc 26 false (by omega) A1
        · rw [if_neg (show ¬ tkey sg t s = 128 + 17 from y5), if_pos rfl]
          rw [show tkey sg t s = 146 by omega] at A1
          unfold w_X12_reads_342
          exact setc 27 false (by omega) A1
      refine m_isWord9 (i := 17) hcu (by omega) (by rfl) ?_
      by_cases y5 : tkey sg t s = 145
      · rw [if_pos (show tkey sg t s = 128 + 17 from y5), if_neg (by decide)]; exact join_ (Or.inl y5)
      rw [if_neg (show ¬ tkey sg t s = 128 + 17 from y5), if_pos rfl]
      refine m_isWord9 (i := 18) hcu (by omega) (by rfl) ?_
      by_cases y6 : tkey sg t s = 146
      · rw [if_pos (show tkey sg t s = 128 + 18 from y6), if_neg (by decide)]; exact join_ (Or.inr y6)
      rw [if_neg (show ¬ tkey sg t s = 128 + 18 from y6), if_pos rfl]
      rw [if_neg (by omega)] at A1
      have endx : ¬ (tkey sg t s = 41 ∧ r ≠ []) → w_X12_reads_399 Q (nI r.length) S' := by
        intro y
        rw [if_neg y] at A1
        unfold w_X12_reads_399 w_X12_reads_418
        by_cases r0 : r = []
        · rw [r0]
          rw [if_pos (show nI ([] : AS).length = 0 from rfl)]
          refine m_isSign9 (c := 59) hcu (by decide) ?_
          by_cases y59 : tkey sg t s = 59
          · rw [if_pos y59, if_neg (by decide)]
            rw [if_pos ⟨y59, r0⟩] at A1
            exact m_next hcu (fun S3 f3 c3 => ho _ _ S3 A1 (FB_trans hfb (FB_FT f3)) c3 (CdM_eq hcd (f3.1 0 43 (by omega)) (fun j => f3.1 20 j (by omega))))
          · rw [if_neg y59, if_pos rfl]
            rw [if_neg (fun w => y59 w.1)] at A1
            exact fail 1 S' hcu hfb A1
        · have : 0 < r.length := List.length_pos_iff.mpr r0
          rw [if_neg (nI_ne0 this (by omega))]
          rw [if_neg (fun w => r0 w.2)] at A1
          exact fail 1 S' hcu hfb A1
      refine m_isSign9 (c := 41) hcu (by decide) ?_
      by_cases y41 : tkey sg t s = 41
      · rw [if_pos y41, if_neg (by decide)]
        by_cases r0 : r = []
        · rw [if_pos (show nI r.length ≤ 0 by rw [r0]; decide)]
          exact endx (fun w => w.2 r0)
        · have rp : 0 < r.length := List.length_pos_iff.mpr r0
          rw [if_neg (nI_nle rp (by omega))]
          rw [if_pos ⟨y41, r0⟩] at A1
          refine m_puts2 (c := 29) hcd (room (by omega)) hcu hfb hOp (fun S2 b1 b2 b3 b4 => ?_)
          rintro x376 rfl
          obtain ⟨p1, p2⟩ := popN_len r r0
          rw [show nI r.length + (-1 : Int32) = nI (r.length - 1) by
            obtain ⟨m, hm⟩ : ∃ m, r.length = m + 1 := ⟨r.length - 1, by omega⟩
            rw [hm, pk_m1, Nat.add_sub_cancel]]
          exact (m_popA (st := r) r0 (by omega) b4.2.2.2 (go S2 (popN r) false (C ++ [29]) (by omega) p1 (by omega) (popN_Op _ _ b4.2.2.2) b2 b3 b1 (by simp only [List.length_append, List.length_cons, List.length_nil]; omega) A1)).2
      · rw [if_neg y41, if_pos rfl]
        exact endx (fun w => y41 w.1)
    have cmp_ : (tkey sg t s = 60 ∨ tkey sg t s = 61) → w_X12_reads_263 Q k (nI r.length) 0 S' := by
      intro y
      unfold w_X12_reads_263
      refine ⟨vd, ?_⟩
      rw [nI_clamp (by omega), o22]
      by_cases x2 : x.2 = false
      · rw [if_pos (show (if x.2 = true then (1 : Int32) else 0) = 0 by rw [x2]; rfl)]
        rw [if_pos ⟨y, x2⟩] at A1
        refine m_isSign9 (c := 60) hcu (by decide) ?_
        by_cases y60 : tkey sg t s = 60
        · rw [if_pos y60, if_neg (by decide)]
          rw [y60] at A1
          unfold w_X12_reads_289
          exact setc 24 true (by omega) A1
        · rw [if_neg y60, if_pos rfl]
          rw [show tkey sg t s = 61 by omega] at A1
          unfold w_X12_reads_289
          exact setc 25 true (by omega) A1
      · rw [if_neg (show ¬ (if x.2 = true then (1 : Int32) else 0) = 0 by
          cases h : x.2 with
          | true => decide
          | false => exact absurd h x2)]
        exact rest (fun w => x2 w.2)
    refine m_isSign9 (c := 60) hcu (by decide) ?_
    by_cases y60 : tkey sg t s = 60
    · rw [if_pos y60, if_neg (by decide)]; exact cmp_ (Or.inl y60)
    rw [if_neg y60, if_pos rfl]
    refine m_isSign9 (c := 61) hcu (by decide) ?_
    by_cases y61 : tkey sg t s = 61
    · rw [if_pos y61, if_neg (by decide)]; exact cmp_ (Or.inr y61)
    rw [if_neg y61, if_pos rfl]
    exact rest (fun w => by omega)
