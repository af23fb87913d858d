/-! ===== pure: form ===== -/
theorem cz_le (g : Nat → Nat) : ∀ n, cz g n ≤ n
  | 0 => Nat.le_refl _
  | n + 1 => by
    have := cz_le g n
    show cz g n + (if 0 < g n then 1 else 0) ≤ n + 1
    split <;> omega
theorem nF_W {P : PS} {bs : List BX} (h : PSW P) : FW (nF P bs) ∧ PW (nF P bs) P.pa P.pb := by
  obtain ⟨⟨a1, a2, a3, a4, a5, a6, a7, a8⟩, b, c, d, e⟩ := h
  have k0 := nF_k P bs (k := 0) (by omega)
  have k1 := nF_k P bs (k := 1) (by omega)
  have k2 := nF_k P bs (k := 2) (by omega)
  have k3 := nF_k P bs (k := 3) (by omega)
  have k4 := nF_k P bs (k := 4) (by omega)
  have k5 := nF_k P bs (k := 5) (by omega)
  have k6 := nF_k P bs (k := 6) (by omega)
  constructor
  · unfold FW
    rw [k0, k1, k2, k3, k4, k5, k6]
    have := cz_le (P.F 3) (P.F 0 0)
    refine ⟨⟨a1, a2, a3, a4, by omega, a6, a7, a8⟩, b, c, fun w hw => ⟨(d w hw).1, (d w hw).2.1, (d w hw).2.2, ?_⟩⟩
    exact bq_lt _ _
  · unfold PW
    rw [k0, k2]; exact e
theorem BM_frX {bs : List BX} {s : Nat} {l : List Nat} {S S' : St} (h : BM bs s S) (f : frX l S S') (hl : 0 ∉ l ∧ 18 ∉ l ∧ 19 ∉ l ∧ 20 ∉ l) : BM bs s S' := by
  obtain ⟨c, h1, h2, h3⟩ := h
  refine ⟨c, by rw [frX_g f 0 43 hl.1]; exact h1, h2, fun b y hy => ?_⟩
  obtain ⟨a, k1, k2, k3, k4⟩ := h3 b y hy
  exact ⟨a, by rw [frX_g f 18 b hl.2.1]; exact k1, by rw [frX_g f 19 b hl.2.2.1]; exact k2, k3, fun j hj => by rw [frX_g f 20 _ hl.2.2.2]; exact k4 j hj⟩
def D0 : Dr := fun _ _ => 0
theorem m_barring {P : PS} {bs : List BX} {t : Nat} {S : St} {Q : Int32 → St → Prop} (ht : t ≤ 1000) (hI : LI t t P bs) (h15 : gI S 0 15 = nI (P.F 0 5)) (h16 : gI S 0 16 = nI (P.F 0 6)) (hM : ∀ w, w < P.F 0 5 → gI S 6 w = nI (P.F 4 w) ∧ gI S 7 w = nI (P.F 5 w) ∧ gI S 8 w = nI (P.F 6 w)) (hB : BM bs t S) (h9 : B9 S)
    (hQ : ∀ S', frX [9, 23, 24, 25, 26, 27, 28, 29, 30, 31, 32] S S' → B9 S' → (∀ a b, a < P.F 0 5 → b < P.F 0 5 → gI S' 9 (12 * a + b) = if hold bs P.F a b = true then 1 else 0) → Q 0 (sI S' 0 65 0)) : w_X12_form_187 Q (0 : Int32) S := by
  obtain ⟨hW, _, hl, _, hg⟩ := hI
  have hw := hW.1.2.2.2.2.2.2.1
  have h4 := hW.1.2.2.2.2.2.2.2
  have hF := hW.2.2.2.1
  unfold w_X12_form_187
  refine up1 (B := b_X12_form_187 Q) (P.F 0 5) (by omega) (fun a S' => frX [9, 23, 24, 25, 26, 27, 28, 29, 30, 31, 32] S S' ∧ B9 S' ∧ ∀ a' b', a' < a → b' < P.F 0 5 → gI S' 9 (12 * a' + b') = if hold bs P.F a' b' = true then 1 else 0) ?_ ?_ 0 (by omega) ⟨frX_refl _ _, h9, fun a' b' q => absurd q (by omega)⟩
  · rintro k a S' ha ⟨f1, g9, h1⟩ hk
    unfold b_X12_form_187
    rw [frX_g f1 0 15 (by simp), h15, if_neg (nI_ge ha (by omega))]
    unfold w_X12_form_197
    refine up1 (B := b_X12_form_197 k (nI a)) (P.F 0 5) (by omega) (fun b S2 => frX [9, 23, 24, 25, 26, 27, 28, 29, 30, 31, 32] S S2 ∧ B9 S2 ∧ ∀ a' b', (a' < a ∨ (a' = a ∧ b' < b)) → b' < P.F 0 5 → gI S2 9 (12 * a' + b') = if hold bs P.F a' b' = true then 1 else 0) ?_ ?_ 0 (by omega) ⟨f1, g9, fun a' b' q => h1 a' b' (by omega)⟩
    · rintro k2 b S2 hb ⟨f2, g2, h2⟩ hk2
      unfold b_X12_form_197
      rw [frX_g f2 0 15 (by simp), h15, if_neg (nI_ge hb (by omega))]
      refine m_bars (t := t) hw ha hb hF (fun w hw2 => by rw [frX_g f2 6 w (by simp), frX_g f2 7 w (by simp), frX_g f2 8 w (by simp)]; exact hM w hw2) (by rw [frX_g f2 0 16 (by simp), h16, hl]) (by omega) ht (BM_frX hB f2 (by simp)) hg (fun S3 f3 => ?_)
      have ix : ((12 : Int32) * nI a) + nI b = nI (12 * a + b) := by rw [show (12 : Int32) = nI 12 from rfl, pk_mul, nI_add]
      rw [ix, nI_clamp (by omega)]
      refine ⟨vp_in_nI (by omega) (by omega), by split <;> simp, fun S4 e4 x hx => ?_⟩
      have f23 : frX [9, 23, 24, 25, 26, 27, 28, 29, 30, 31, 32] S S3 := frX_trans f2 (frX_sub f3 (by simp))
      refine hk2 S4 x hx ⟨by rw [e4]; exact frX_sI f23 (by simp), fun j hj => ?_, fun a' b' q q2 => ?_⟩
      · rw [e4, gI_sI]
        by_cases e : j = 12 * a + b
        · rw [if_pos ⟨rfl, e⟩]
          split
          · exact Or.inr rfl
          · exact Or.inl rfl
        · rw [if_neg (fun z => e z.2), frX_g f3 9 j (by simp)]; exact g2 j hj
      · rw [e4, gI_sI]
        by_cases e : 12 * a' + b' = 12 * a + b
        · have e1 : a' = a := by omega
          have e2 : b' = b := by omega
          rw [if_pos ⟨rfl, e⟩, e1, e2]
        · rw [if_neg (fun z => e z.2), frX_g f3 9 _ (by simp)]
          exact h2 a' b' (by
            rcases q with q | ⟨q, q3⟩
            · left; exact q
            · right; refine ⟨q, ?_⟩
              rw [q] at e; omega) q2
    · rintro k2 S2 ⟨f2, g2, h2⟩
      unfold b_X12_form_197
      rw [frX_g f2 0 15 (by simp), h15, if_pos (nI_le (Nat.le_refl _) (by omega))]
      intro x hx
      exact hk S2 x hx ⟨f2, g2, fun a' b' q q2 => h2 a' b' (by omega) q2⟩
  · rintro k S' ⟨f1, g9, h1⟩
    unfold b_X12_form_187
    rw [frX_g f1 0 15 (by simp), h15, if_pos (nI_le (Nat.le_refl _) (by omega))]
    rintro S2 rfl
    exact hQ S' f1 g9 (fun a b ha hb => h1 a b ha hb)
theorem kM_vc : ∀ i, i < 408 → kM (vc i).1 (vc i).2 = true ∧ ¬ ((vc i).1 = 0 ∧ (vc i).2 = 1) := by decide +kernel
theorem m_form {sg : Nat → Nat} {t : Nat} {S : St} {Q : Int32 → St → Prop} (ht : t ≤ 1000) (h1 : gI S 0 1 = nI t) (hs : ∀ j, j < t → sg j < 127 ∧ gI S 1 j = nI (sg j)) (h9 : B9 S) (hb : ∀ f S', readP sg t = Sum.inl f → frM1 S S' → Q (nI f) S')
    (ho : ∀ P bs S', readP sg t = Sum.inr (P, bs) → LI t t P bs → gI S' 0 1 = 0 → (∀ j, gI S' 45 j = gI S 45 j ∧ gI S' 46 j = gI S 46 j) → B9 S' → MF (nF P bs) D0 P.pa P.pb S' → Q 0 S') : w_X12_form S Q := by
  unfold w_X12_form
  intro S1 e1
  have f1 : frM S S1 := by rw [e1]; exact frM_sI (frM_refl _) (by decide)
  have pre : ∀ S2, frM1 S1 S2 → frM1 S S2 := fun S2 q => ⟨fun b j e z => (q.1 b j e z).trans (f1 b j e), q.2⟩
  refine m_readsAll (sg := sg) ht (by rw [f1 0 1 rfl]; exact h1) (fun j hj => ⟨(hs j hj).1, by rw [f1 1 j rfl]; exact (hs j hj).2⟩) (fun f S2 q1 q2 q3 => ?_) (fun P bs S2 q1 q2 q3 q4 q5 => ?_)
  · rw [if_pos rfl, q3]
    exact hb f S2 q1 (pre S2 q2)
  · rw [if_neg (by decide)]
    have fr := pre S2 q3
    have hW := q2.1
    have hn := hW.1.2.1
    have h8 := hW.1.2.2.2.1
    have hw := hW.1.2.2.2.2.2.2.1
    obtain ⟨n1, n2, n3, n4⟩ := q4.2
    intro T1 d1 T2 d2 T3 d3 T4 d4 T5 d5 T6 d6 T7 d7
    have E7 : T7 = sI (sI (sI (sI (sI (sI (sI S2 0 10 (nI (P.F 0 0))) 0 11 (nI (P.F 0 1))) 0 12 (nI (P.F 0 2))) 0 13 (nI (P.F 0 3))) 0 14 (nI (P.F 0 4))) 0 15 (nI (P.F 0 5))) 0 16 (nI (P.F 0 6)) := by
      have m0 : gI S2 0 25 = nI (P.F 0 0) := n1 0 (by omega)
      have m1 : gI T1 0 26 = nI (P.F 0 1) := by rw [d1, gI_sI, if_neg (by omega)]; exact n1 1 (by omega)
      have m2 : gI T2 0 27 = nI (P.F 0 2) := by rw [d2, d1]; simp [gI_sI]; exact n1 2 (by omega)
      have m3 : gI T3 0 28 = nI (P.F 0 3) := by rw [d3, d2, d1]; simp [gI_sI]; exact n1 3 (by omega)
      have m4 : gI T4 0 29 = nI (P.F 0 4) := by rw [d4, d3, d2, d1]; simp [gI_sI]; exact n1 4 (by omega)
      have m5 : gI T5 0 30 = nI (P.F 0 5) := by rw [d5, d4, d3, d2, d1]; simp [gI_sI]; exact n1 5 (by omega)
      have m6 : gI T6 0 31 = nI (P.F 0 6) := by rw [d6, d5, d4, d3, d2, d1]; simp [gI_sI]; exact n1 6 (by omega)
      rw [m0] at d1
      rw [m1] at d2
      rw [m2] at d3
      rw [m3] at d4
      rw [m4] at d5
      rw [m5] at d6
      rw [m6] at d7
      rw [d7, d6, d5, d4, d3, d2, d1]
    have g7 : ∀ b j, b ≠ 0 → gI T7 b j = gI S2 b j := fun b j hb0 => by
      rw [E7, gI_sI, if_neg (fun q => hb0 q.1), gI_sI, if_neg (fun q => hb0 q.1), gI_sI, if_neg (fun q => hb0 q.1), gI_sI, if_neg (fun q => hb0 q.1), gI_sI, if_neg (fun q => hb0 q.1), gI_sI, if_neg (fun q => hb0 q.1), gI_sI, if_neg (fun q => hb0 q.1)]
    have c7 : ∀ j, j < 7 → gI T7 0 (10 + j) = nI (P.F 0 j) := by
      intro j hj
      rw [E7]
      have : j = 0 ∨ j = 1 ∨ j = 2 ∨ j = 3 ∨ j = 4 ∨ j = 5 ∨ j = 6 := by omega
      rcases this with rfl | rfl | rfl | rfl | rfl | rfl | rfl <;> simp [gI_sI]
    have o7 : ∀ j, ¬ (10 ≤ j ∧ j ≤ 16) → gI T7 0 j = gI S2 0 j := fun j hj => by
      rw [E7, gI_sI, if_neg (by omega), gI_sI, if_neg (by omega), gI_sI, if_neg (by omega), gI_sI, if_neg (by omega), gI_sI, if_neg (by omega), gI_sI, if_neg (by omega), gI_sI, if_neg (by omega)]
    have b7 : BM bs t T7 := by
      obtain ⟨c, k1, k2, k3⟩ := q5
      refine ⟨c, by rw [o7 43 (by omega)]; exact k1, k2, fun b y hy => ?_⟩
      obtain ⟨a, j1, j2, j3, j4⟩ := k3 b y hy
      exact ⟨a, by rw [g7 18 b (by omega)]; exact j1, by rw [g7 19 b (by omega)]; exact j2, j3, fun j hj => by rw [g7 20 _ (by omega)]; exact j4 j hj⟩
    unfold w_X12_form_75
    refine up1 (B := b_X12_form_75 Q) 12 (by omega) (fun p S' => frX [2, 5, 6, 7, 8] T7 S' ∧ ∀ q, q < p → gI S' 2 q = gI T7 10 q ∧ gI S' 5 q = gI T7 13 q ∧ gI S' 6 q = gI T7 15 q ∧ gI S' 7 q = gI T7 16 q ∧ gI S' 8 q = gI T7 17 q) ?_ ?_ 0 (by omega) ⟨frX_refl _ _, fun q hq => absurd hq (by omega)⟩
    · rintro k p S' hp ⟨f2, h2⟩ hk
      have vp := vp_in_nI hp (by omega)
      unfold b_X12_form_75
      rw [if_neg (show ¬ (12 : Int32) ≤ nI p from nI_ge (b := 12) hp (by omega)), nI_clamp (by omega)]
      refine ⟨vp, vp, fun U1 u1 => ⟨vp, vp, fun U2 u2 => ⟨vp, vp, fun U3 u3 => ⟨vp, vp, fun U4 u4 => ⟨vp, vp, fun U5 u5 x hx => ?_⟩⟩⟩⟩⟩
      have y0 : ∀ b, b = 10 ∨ b = 13 ∨ b = 15 ∨ b = 16 ∨ b = 17 → gI S' b p = gI T7 b p := fun b hb0 => frX_g f2 b p (by simp; omega)
      rw [y0 10 (by omega)] at u1
      rw [show gI U1 13 p = gI T7 13 p by rw [u1, gI_sI, if_neg (by omega)]; exact y0 13 (by omega), u1] at u2
      rw [show gI U2 15 p = gI T7 15 p by rw [u2, gI_sI, if_neg (by omega), gI_sI, if_neg (by omega)]; exact y0 15 (by omega), u2] at u3
      rw [show gI U3 16 p = gI T7 16 p by rw [u3, gI_sI, if_neg (by omega), gI_sI, if_neg (by omega), gI_sI, if_neg (by omega)]; exact y0 16 (by omega), u3] at u4
      rw [show gI U4 17 p = gI T7 17 p by rw [u4, gI_sI, if_neg (by omega), gI_sI, if_neg (by omega), gI_sI, if_neg (by omega), gI_sI, if_neg (by omega)]; exact y0 17 (by omega), u4] at u5
      refine hk U5 x hx ⟨by rw [u5]; exact frX_sI (frX_sI (frX_sI (frX_sI (frX_sI f2 (by simp)) (by simp)) (by simp)) (by simp)) (by simp), fun q hq => ?_⟩
      rw [u5]
      by_cases e : q = p
      · rw [e]; simp [gI_sI]
      · have h2q := h2 q (by omega)
        simp [gI_sI, e]; exact h2q
    · rintro k S3 ⟨f3, h3⟩
      unfold b_X12_form_75
      rw [if_pos (by decide)]
      unfold w_X12_form_149
      refine up1 (B := b_X12_form_149 Q) 8 (by omega) (fun p S' => frX [3, 4] S3 S' ∧ ∀ q, q < p → gI S' 3 q = gI S3 11 q ∧ gI S' 4 q = gI S3 12 q) ?_ ?_ 0 (by omega) ⟨frX_refl _ _, fun q hq => absurd hq (by omega)⟩
      · rintro k2 p S' hp ⟨f4, h4⟩ hk
        have vp := vp_in_nI hp (by omega)
        unfold b_X12_form_149
        rw [if_neg (show ¬ (8 : Int32) ≤ nI p from nI_ge (b := 8) hp (by omega)), nI_clamp (by omega)]
        refine ⟨vp, vp, fun U1 u1 => ⟨vp, vp, fun U2 u2 x hx => ?_⟩⟩
        rw [frX_g f4 11 p (by simp)] at u1
        rw [show gI U1 12 p = gI S3 12 p by rw [u1, gI_sI, if_neg (by omega)]; exact frX_g f4 12 p (by simp), u1] at u2
        refine hk U2 x hx ⟨by rw [u2]; exact frX_sI (frX_sI f4 (by simp)) (by simp), fun q hq => ?_⟩
        rw [u2]
        by_cases e : q = p
        · rw [e]; simp [gI_sI]
        · have h4q := h4 q (by omega)
          simp [gI_sI, e]; exact h4q
      · rintro k2 S4 ⟨f4, h4⟩
        unfold b_X12_form_149
        rw [if_pos (by decide)]
        have f34 : frX [2, 3, 4, 5, 6, 7, 8] T7 S4 := frX_trans (frX_sub f3 (by simp)) (frX_sub f4 (by simp))
        have w4 : ∀ w, w < P.F 0 5 → gI S4 6 w = nI (P.F 4 w) ∧ gI S4 7 w = nI (P.F 5 w) ∧ gI S4 8 w = nI (P.F 6 w) := fun w hw2 => by
          obtain ⟨j1, j2, j3, j4, j5⟩ := n4 w hw2
          obtain ⟨_, _, i3, i4, i5⟩ := h3 w (by omega)
          rw [frX_g f4 6 w (by simp), frX_g f4 7 w (by simp), frX_g f4 8 w (by simp), i3, i4, i5, g7 15 w (by omega), g7 16 w (by omega), g7 17 w (by omega)]
          exact ⟨j1, j2, j3⟩
        have s4 : ∀ j, j < 7 → gI S4 0 (10 + j) = nI (P.F 0 j) := fun j hj => by rw [frX_g f34 0 _ (by simp)]; exact c7 j hj
        have r9 : ∀ j, gI S4 9 j = gI S 9 j := fun j => by rw [frX_g f34 9 j (by simp), g7 9 j (by omega)]; exact fr.1 9 j rfl (by omega)
        refine m_barring ht q2 (s4 5 (by omega)) (s4 6 (by omega)) w4 (BM_frX b7 f34 (by simp)) (fun j hj => by rw [r9]; exact h9 j hj) (fun S5 f5 g5 h5 => ?_)
        have c5 : ∀ b j, b ≠ 0 → gI (sI S5 0 65 0) b j = gI S5 b j := fun b j hb0 => by rw [gI_sI, if_neg (fun q => hb0 q.1)]
        have s5 : ∀ j, j < 7 → gI (sI S5 0 65 0) 0 (10 + j) = nI (P.F 0 j) := fun j hj => by rw [gI_sI, if_neg (by omega), frX_g f5 0 _ (by simp)]; exact s4 j hj
        refine ho P bs _ q1 q2 ?_ (fun j => ⟨?_, ?_⟩) (fun j hj => by rw [c5 9 j (by omega)]; exact g5 j hj) ⟨⟨⟨s5 0 (by omega), fun i hi => ?_⟩, s5 2 (by omega), fun k hk => ?_⟩, fun j hj => ?_, s5 1 (by omega), s5 3 (by omega), s5 4 (by omega), s5 5 (by omega), s5 6 (by omega), ?_, fun w hw2 => ?_, fun j hj => absurd hj (by show ¬ j < 0; omega), fun a b ha hb2 => ?_⟩
        · rw [gI_sI, if_neg (by omega), frX_g f5 0 1 (by simp), frX_g f34 0 1 (by simp), o7 1 (by omega)]; exact fr.2
        · rw [c5 45 j (by omega), frX_g f5 45 j (by simp), frX_g f34 45 j (by simp), g7 45 j (by omega)]; exact fr.1 45 j rfl (by omega)
        · rw [c5 46 j (by omega), frX_g f5 46 j (by simp), frX_g f34 46 j (by simp), g7 46 j (by omega)]; exact fr.1 46 j rfl (by omega)
        · have hi : i < P.F 0 0 := hi
          rw [c5 2 i (by omega), frX_g f5 2 i (by simp), frX_g f4 2 i (by simp), (h3 i (by omega)).1, g7 10 i (by omega), nF_k P bs (by omega)]; exact (n2 i hi).1
        · have hk : k < P.F 0 2 := hk
          rw [c5 3 k (by omega), c5 4 k (by omega), frX_g f5 3 k (by simp), frX_g f5 4 k (by simp), (h4 k (by omega)).1, (h4 k (by omega)).2, frX_g f3 11 k (by simp), frX_g f3 12 k (by simp), g7 11 k (by omega), g7 12 k (by omega)]; exact n3 k hk
        · have hj : j < P.F 0 0 := hj
          rw [c5 5 j (by omega), frX_g f5 5 j (by simp), frX_g f4 5 j (by simp), (h3 j (by omega)).2.1, g7 13 j (by omega), nF_k P bs (by omega)]; exact (n2 j hj).2
        · rw [gI_sI, if_pos ⟨rfl, rfl⟩]; rfl
        · have hw2 : w < P.F 0 5 := hw2
          rw [c5 6 w (by omega), c5 7 w (by omega), c5 8 w (by omega), frX_g f5 6 w (by simp), frX_g f5 7 w (by simp), frX_g f5 8 w (by simp), nF_k P bs (by omega), nF_k P bs (by omega), nF_k P bs (by omega)]; exact w4 w hw2
        · have ha : a < P.F 0 5 := ha
          have hb2 : b < P.F 0 5 := hb2
          rw [c5 9 _ (by omega), h5 a b ha hb2]
          show _ = if (bq (hold bs P.F a) (P.F 0 5)).testBit b = true then 1 else 0
          rw [bq_bit, decide_eq_true hb2, Bool.true_and]
theorem c_form {SE SM : St} (h : RR SE SM) : w_X11_form SE (fun r S1 => w_X12_form SM (fun r' S2 => r = r' ∧ RR S1 S2)) := by
  obtain ⟨F, D, pa, pb, L, t, sg, ll, mF, mD, ma, mb, ⟨r1, r2, r3, r4, r5, r6, r7, r8, r9⟩, h2, h3, h4, h5⟩ := h
  obtain ⟨t1, t2, t3, t4⟩ := h3
  have hs : ∀ j, j < t → sg j < 127 ∧ gI SM 1 j = nI (sg j) := fun j hj => ⟨by have := (t4 j hj).1; omega, (t4 j hj).2.2⟩
  unfold w_X11_form
  refine e_read (sg := sg) ⟨t1, t2, fun j hj => ⟨(t4 j hj).1, (t4 j hj).2.1⟩⟩ h5 (fun f S1 q1 q2 q3 => ?_) (fun P bs S1 q1 q2 q3 q4 q5 => ?_)
  · have fo := readP_B q1
    obtain ⟨fo1, fo2⟩ := fo
    rw [if_neg (nI_ne0 (by omega) (by omega))]
    refine m_form (sg := sg) t1 t3 hs h2 (fun f' S2 w1 w2 => ?_) (fun P bs S2 w1 => by rw [q1] at w1; cases w1)
    rw [q1] at w1
    have ef : f = f' := Sum.inl.inj w1
    subst ef
    have no : ∀ b j, kM b j = true → ¬ (b = 0 ∧ j = 1) → gI S2 b j = gI SM b j := w2.1
    refine ⟨rfl, F, D, pa, pb, L, 0, sg, ll, mF, mD, ma, mb, ⟨r1, r2, r3, FE21_fr q2 (by simp) r4, DE_fr q2 (by simp) r5, EZ_fr q2 (by simp) r6, FI_fr q2 (by simp) r7, MI_fr q2 (by simp) r8, MF_same r1 r2.1 (fun i hi => no _ _ (kM_vc i hi).1 (kM_vc i hi).2) r9⟩, fun j hj => by rw [no 9 j rfl (by omega)]; exact h2 j hj, ⟨by omega, q3, w2.2, fun j hj => absurd hj (by omega)⟩, MKs_M2 (MKs_E q2 (by simp) h4) (fun j => no 45 j rfl (by omega)) (fun j => no 46 j rfl (by omega)), KW_fr q2 (by simp) h5⟩
  · rw [if_pos rfl]
    obtain ⟨fw, pw⟩ := nF_W (bs := bs) q2.1
    refine e_copyF okF_21 (Or.inl rfl) (by omega) fw q5 (fun S2 f2 g2 => ?_)
    intro S3 e3
    have f3 : frX [30] S2 S3 := by rw [e3]; exact frX_sI (frX_refl _ _) (by simp)
    refine e_formChanged fw (FE21_fr f3 (by simp) g2) (fun S4 L' f4 k1 k2 k3 k4 => ?_)
    refine m_form (sg := sg) t1 t3 hs h2 (fun f' S2 w1 => by rw [q1] at w1; cases w1) (fun P' bs' S5 w1 w2 w3 w4 w5 w6 => ?_)
    rw [q1] at w1
    have ep := Sum.inr.inj w1
    have e1 : P = P' := congrArg Prod.fst ep
    have e2 : bs = bs' := congrArg Prod.snd ep
    subst e1; subst e2
    have fr : frX [1, 3, 4, 5, 7, 8, 9, 10, 11, 12, 13, 14, 15, 16, 17, 18, 19, 20, 21, 22, 23, 24, 25, 26, 27, 28, 30, 34, 35, 36, 37, 38, 39, 40, 41, 42, 43, 50] SE S4 := frX_trans (frX_sub q3 (by simp)) (frX_trans (frX_sub f2 (by simp)) (frX_trans (frX_sub f3 (by simp)) (frX_sub f4 (by simp))))
    refine ⟨rfl, nF P bs, D0, P.pa, P.pb, L', 0, sg, ll, mF, mD, ma, mb, ⟨fw, ⟨by show 0 ≤ 60; omega, fun j hj => absurd hj (by show ¬ j < 0; omega)⟩, pw, k1, ⟨?_, fun k j _ _ hj => absurd hj (by show ¬ j < 0; omega)⟩, k2, k3, k4 D0, w6⟩, w5, ⟨by omega, ?_, w3, fun j hj => absurd hj (by omega)⟩, MKs_M2 (MKs_E fr (by simp) h4) (fun j => (w4 j).1) (fun j => (w4 j).2), KW_fr fr (by simp) h5⟩
    · rw [frX_g f4 30 3 (by simp), e3, gI_sI, if_pos ⟨rfl, rfl⟩]; rfl
    · rw [frX_g f4 1 5 (by simp), frX_g f3 1 5 (by simp), frX_g f2 1 5 (by simp)]; exact q4
