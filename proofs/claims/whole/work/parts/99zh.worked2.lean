/-! ===== pure: the reference works a bar, whole ===== -/
def okCm (c : Nat) : Prop := (1 ≤ c ∧ c ≤ 5) ∨ (20 ≤ c ∧ c ≤ 22) ∨ (24 ≤ c ∧ c ≤ 30) ∨ (100 ≤ c ∧ c < 20000)
theorem FrO_new {d : Nat} {b : Bool} {S : St} (h24 : gI S 24 d = 0) (h26 : gI S 26 d = 0) (h27 : gI S 27 d = 0) (h28 : gI S 28 d = 20) (h30 : gI S 30 d = 0) (h31 : 0 < d → (b = true ↔ gI S 31 d = 1)) : FrO S d (newF b) := by
  refine ⟨fun c h => (by cases h), ⟨fun h => (by cases h), fun _ => h30⟩, fun x => ?_, fun x => ?_, fun x => ?_, h31⟩
  · rw [h28, h27, if_neg (by decide)]; show x = 0 + x; rw [Int32.zero_add]
  · rw [h26, if_neg (by decide), if_neg (by decide)]; rfl
  · rw [h24, if_neg (by decide), if_neg (by decide)]; rfl
theorem FrO_op {d k : Nat} {c : Int32} {f : Fr} {S S' : St} (h : FrO S d f) (hc : f.2.1 = some c) (hk : k = 20 ∨ k = 21) (e : S' = sI (sI (sI S 27 d (f.2.2.1 c)) 30 d 0) 28 d (nI k)) : FrO S' d (opF k f c) := by
  obtain ⟨h1, h2, h3, h4, h5, h6⟩ := h
  have g : ∀ b, b ≠ 27 → b ≠ 28 → b ≠ 30 → gI S' b d = gI S b d := fun b a1 a2 a3 => by rw [e, gI_sI, if_neg (fun q => a2 q.1), gI_sI, if_neg (fun q => a3 q.1), gI_sI, if_neg (fun q => a1 q.1)]
  have g27 : gI S' 27 d = f.2.2.1 c := by rw [e, gI_sI, if_neg (by omega), gI_sI, if_neg (by omega), gI_sI, if_pos ⟨rfl, rfl⟩]
  have g28 : gI S' 28 d = nI k := by rw [e, gI_sI, if_pos ⟨rfl, rfl⟩]
  have g30 : gI S' 30 d = 0 := by rw [e, gI_sI, if_neg (by omega), gI_sI, if_pos ⟨rfl, rfl⟩]
  unfold FrO
  rw [g 29 (by omega) (by omega) (by omega), g 26 (by omega) (by omega) (by omega), g 25 (by omega) (by omega) (by omega), g 24 (by omega) (by omega) (by omega), g 23 (by omega) (by omega) (by omega), g 31 (by omega) (by omega) (by omega), g27, g28, g30]
  rcases hk with rfl | rfl
  · rw [show opF 20 f c = (false, f.2.1, (fun x => f.2.2.1 c + x), f.2.2.2) from rfl]
    exact ⟨h1, ⟨fun q => (by cases q), fun _ => rfl⟩, fun x => by rw [if_neg (by decide)], h4, h5, h6⟩
  · rw [show opF 21 f c = (false, f.2.1, (fun x => f.2.2.1 c - x), f.2.2.2) from rfl]
    exact ⟨h1, ⟨fun q => (by cases q), fun _ => rfl⟩, fun x => by rw [if_pos (by decide)], h4, h5, h6⟩
theorem FrO_mul {d : Nat} {c : Int32} {f : Fr} {S S' : St} (h : FrO S d f) (e : S' = sI S 30 d 22) : FrO S' d (opF 22 f c) := by
  obtain ⟨h1, h2, h3, h4, h5, h6⟩ := h
  have g : ∀ b, b ≠ 30 → gI S' b d = gI S b d := fun b a1 => by rw [e, gI_sI, if_neg (fun q => a1 q.1)]
  have g30 : gI S' 30 d = 22 := by rw [e, gI_sI, if_pos ⟨rfl, rfl⟩]
  unfold FrO
  rw [g 29 (by omega), g 28 (by omega), g 27 (by omega), g 26 (by omega), g 25 (by omega), g 24 (by omega), g 23 (by omega), g 31 (by omega), g30]
  rw [show opF 22 f c = (true, f.2) from rfl]
  exact ⟨h1, ⟨fun _ => rfl, fun q => (by cases q)⟩, h3, h4, h5, h6⟩
theorem FrO_cmp {d k : Nat} {c : Int32} {f : Fr} {S S' : St} (h : FrO S d f) (hc : f.2.1 = some c) (hk : k = 24 ∨ k = 25) (e : S' = sI (sI (sI (sI (sI (sI S 27 d (f.2.2.1 c)) 30 d 0) 25 d (f.2.2.1 c)) 26 d (nI k)) 27 d 0) 28 d 20) : FrO S' d (opF k f c) := by
  obtain ⟨h1, h2, h3, h4, h5, h6⟩ := h
  have g : ∀ b, b ≠ 25 → b ≠ 26 → b ≠ 27 → b ≠ 28 → b ≠ 30 → gI S' b d = gI S b d := fun b a1 a2 a3 a4 a5 => by rw [e, gI_sI, if_neg (fun q => a4 q.1), gI_sI, if_neg (fun q => a3 q.1), gI_sI, if_neg (fun q => a2 q.1), gI_sI, if_neg (fun q => a1 q.1), gI_sI, if_neg (fun q => a5 q.1), gI_sI, if_neg (fun q => a3 q.1)]
  have g25 : gI S' 25 d = f.2.2.1 c := by rw [e, gI_sI, if_neg (by omega), gI_sI, if_neg (by omega), gI_sI, if_neg (by omega), gI_sI, if_pos ⟨rfl, rfl⟩]
  have g26 : gI S' 26 d = nI k := by rw [e, gI_sI, if_neg (by omega), gI_sI, if_neg (by omega), gI_sI, if_pos ⟨rfl, rfl⟩]
  have g27 : gI S' 27 d = 0 := by rw [e, gI_sI, if_neg (by omega), gI_sI, if_pos ⟨rfl, rfl⟩]
  have g28 : gI S' 28 d = 20 := by rw [e, gI_sI, if_pos ⟨rfl, rfl⟩]
  have g30 : gI S' 30 d = 0 := by rw [e, gI_sI, if_neg (by omega), gI_sI, if_neg (by omega), gI_sI, if_neg (by omega), gI_sI, if_neg (by omega), gI_sI, if_pos ⟨rfl, rfl⟩]
  unfold FrO
  rw [g 29 (by omega) (by omega) (by omega) (by omega) (by omega), g 24 (by omega) (by omega) (by omega) (by omega) (by omega), g 23 (by omega) (by omega) (by omega) (by omega) (by omega), g 31 (by omega) (by omega) (by omega) (by omega) (by omega), g25, g26, g27, g28, g30]
  rcases hk with rfl | rfl
  · rw [show opF 24 f c = (false, f.2.1, (fun x => x), (fun x => if x ≤ f.2.2.1 c then 0 else 1), f.2.2.2.2) from rfl]
    exact ⟨h1, ⟨fun q => (by cases q), fun _ => rfl⟩, fun x => by rw [if_neg (by decide)]; show x = 0 + x; rw [Int32.zero_add], fun x => by rw [if_pos (by decide)], h5, h6⟩
  · rw [show opF 25 f c = (false, f.2.1, (fun x => x), (fun x => if f.2.2.1 c = x then 1 else 0), f.2.2.2.2) from rfl]
    exact ⟨h1, ⟨fun q => (by cases q), fun _ => rfl⟩, fun x => by rw [if_neg (by decide)]; show x = 0 + x; rw [Int32.zero_add], fun x => by rw [if_neg (by decide), if_pos (by decide)], h5, h6⟩
theorem m_worked {cm : List Nat} {ev : EV} {p base : Nat} {res : Int32} {S : St} {Q : Int32 → St → Prop} (hp : p < 4) (h18 : gI S 18 p = nI base) (h19 : gI S 19 p = nI (base + cm.length)) (hb : base + cm.length ≤ 1000) (hc : ∀ j, j < cm.length → gI S 20 (base + j) = nI (cm.getD j 0) ∧ okCm (cm.getD j 0)) (he : ∀ j, 1 ≤ j → j ≤ 5 → gI S 32 j = ev j) (hr : runM ev cm [newF false] = some res) (hQ : ∀ S', frX wkl S S' → Q res S') : w_X12_worked (nI p) S Q := by
  unfold w_X12_worked
  refine m_opens (d := 0) (by omega) (fun S1 a1 g24 g26 g27 g28 g30 g31 => ⟨vp_in_nI hp (by omega), ?_⟩)
  rintro x13 rfl
  rw [nI_clamp (by omega), frX_g a1.1 18 p (by simp), h18]
  unfold w_X12_worked_14
  refine loopG2 (fun g v2 v3 S' => ∃ i, g = cm.length - i ∧ i ≤ cm.length ∧ v3 = nI (base + i) ∧ frX wkl S S' ∧ ∃ st, v2 = nI (st.length - 1) ∧ st ≠ [] ∧ st.length ≤ 7 ∧ FrL st S' ∧ runM ev (cm.drop i) st = some res) ?_ cm.length (nI 0) (nI base) ⟨0, rfl, Nat.zero_le _, rfl, a1.1, [newF false], rfl, by simp, by decide, ⟨FrO_new g24 g26 g27 g28 g30 (fun q => absurd q (by decide)), trivial⟩, hr⟩
  rintro k g v2 v3 S' ⟨i, rfl, hi, rfl, f2, st, rfl, hne, hl, hL, h2⟩ hk
  unfold b_X12_worked_14
  refine ⟨vp_in_nI hp (by omega), ?_⟩
  rw [nI_clamp (by omega), frX_g f2 19 p (by simp), h19]
  refine nI_if (by omega) (by omega) (fun q => ?_) (fun q => ?_)
  · have e : i = cm.length := by omega
    rw [e, List.drop_length] at h2
    unfold runM at h2
    cases st with
    | nil => cases h2
    | cons f st =>
      cases st with
      | cons _ _ => cases h2
      | nil =>
        have h2 : f.2.1.bind (fun c => some (finF f c)) = some res := h2
        cases hcu : f.2.1 with
        | none => rw [hcu] at h2; cases h2
        | some c =>
          rw [hcu] at h2
          have e2 := Option.some.inj h2
          refine m_tests (d := 0) (by omega) hL.1 hcu (fun S3 a3 g23 _ _ _ _ _ _ _ => ?_)
          show Q (gI S3 23 0) S3
          rw [g23, e2]
          exact hQ S3 (frX_trans f2 a3.1)
  have hi : i < cm.length := by omega
  obtain ⟨c1, c2⟩ := hc i hi
  rw [drop_at hi] at h2
  unfold runM at h2
  rw [nI_clamp (by omega), frX_g f2 20 _ (by simp), c1]
  refine ⟨vp_in_nI (by omega) (by omega), ?_⟩
  rintro x30 rfl
  generalize cm.getD i 0 = c at c2 h2
  have c3 : c < 20000 := by rcases c2 with c2 | c2 | c2 | c2 <;> omega
  have next : ∀ (S3 : St) (s3 : List Fr) (x : Int32), frX wkl S' S3 → s3 ≠ [] → s3.length ≤ 7 → FrL s3 S3 → runM ev (cm.drop (i + 1)) s3 = some res → x = nI (base + i) + 1 → k (nI (s3.length - 1)) x S3 := by
    intro S3 s3 x q1 q0 q2 q3 q4 q5
    rw [nI_1] at q5
    rw [q5]
    exact hk (cm.length - (i + 1)) _ _ S3 ⟨i + 1, rfl, by omega, rfl, frX_trans f2 q1, s3, rfl, q0, q2, q3, q4⟩ (by omega)
  obtain ⟨f, q, rfl⟩ : ∃ f q, st = f :: q := by
    cases st with
    | nil => exact absurd rfl hne
    | cons f q => exact ⟨f, q, rfl⟩
  have ll : (f :: q).length = q.length + 1 := rfl
  rw [ll] at hl h2 ⊢
  rw [show q.length + 1 - 1 = q.length by omega]
  have vd := vp_in_nI (n := q.length) (N := 7) (by omega) (by omega)
  have open_ : c = 28 ∨ c = 30 → w_X12_worked_46 (nI p) k (nI q.length) (nI (base + i)) (nI c) S' := by
    intro hc3
    rw [if_pos hc3] at h2
    by_cases l6 : q.length + 1 ≤ 6
    · rw [if_pos l6] at h2
      unfold w_X12_worked_46 w_X12_worked_66
      rintro x46 rfl
      rw [nI_1]
      have vp := vp_in_nI (n := q.length + 1) (N := 7) (by omega) (by omega)
      have go : ∀ t0 : Int32, (c = 30 ↔ t0 = 1) → vp_in (nI (q.length + 1)) 7 ∧ (∀ S66_6, S66_6 = sI S' 31 (nI (q.length + 1)).toNatClampNeg t0 → w_X12_opens (nI (q.length + 1)) S66_6 (fun S69_7 => ∀ x329_8, x329_8 = nI (base + i) + (1 : Int32) → k (nI (q.length + 1)) x329_8 S69_7)) := by
        intro t0 ht
        refine ⟨vp, fun S3 e3 => ?_⟩
        rw [nI_clamp (by omega)] at e3
        refine m_opens (by omega) (fun S4 a4 k24 k26 k27 k28 k30 k31 => ?_)
        intro x hx
        have a3 : AtD (q.length + 1) S' S3 := by rw [e3]; exact AtD_sI (AtD_refl _ _) (by simp)
        have a34 := AtD_trans a3 a4
        have lw : FrL (f :: q) S4 := FrL_eq (f :: q) S' S4 (fun b j hj => a34.2 b j (by rw [ll] at hj; omega)) hL
        refine next S4 (newF (decide (c = 30)) :: f :: q) x a34.1 (by simp) (by simp only [List.length_cons]; omega) ⟨FrO_new k24 k26 k27 k28 k30 (fun _ => ?_), lw⟩ h2 hx
        show _ ↔ gI S4 31 (q.length + 1) = 1
        rw [k31, e3, gI_sI, if_pos ⟨rfl, rfl⟩, ← ht]
        exact decide_eq_true_iff
      refine nI_ifEq (y := 30) (by omega) (by omega) (fun y => go 1 ⟨fun _ => rfl, fun _ => y⟩) (fun y => go 0 ⟨fun w => absurd w y, fun w => absurd w (by decide)⟩)
    · rw [if_neg l6] at h2; cases h2
  refine nI_ifEq (y := 28) (by omega) (by omega) (fun y => open_ (Or.inl y)) (fun y28 => ?_)
  refine nI_ifEq (y := 30) (by omega) (by omega) (fun y => open_ (Or.inr y)) (fun y30 => ?_)
  rw [if_neg (by omega)] at h2
  have opc : 20 ≤ c ∧ c ≤ 27 → ∃ c1, f.2.1 = some c1 ∧ runM ev (cm.drop (i + 1)) (opF c f c1 :: q) = some res := by
    intro y
    rw [if_neg (by omega), if_pos y] at h2
    have h2 : f.2.1.bind (fun c1 => runM ev (cm.drop (i + 1)) (opF c f c1 :: q)) = some res := h2
    cases hcu : f.2.1 with
    | none => rw [hcu] at h2; cases h2
    | some c1 => rw [hcu] at h2; exact ⟨c1, rfl, h2⟩
  have low : ∀ S3, (∀ b j, j < q.length → gI S3 b j = gI S' b j) → FrL q S3 := fun S3 y => FrL_eq q S' S3 y hL.2
  have add_ : c = 20 ∨ c = 21 → w_X12_worked_89 (nI p) k (nI q.length) (nI (base + i)) (nI c) S' := by
    intro y
    obtain ⟨c1, hcu, h3⟩ := opc (by omega)
    unfold w_X12_worked_89
    refine m_sums (by omega) hL.1 hcu (fun S3 e3 => ⟨vd, fun S4 e4 x hx => ?_⟩)
    rw [nI_clamp (by omega), e3] at e4
    refine next S4 (opF c f c1 :: q) x (by rw [e4]; exact frX_sI (frX_sI (frX_sI (frX_refl _ _) (by simp)) (by simp)) (by simp)) (by simp) (by simp only [List.length_cons]; omega) ⟨FrO_op hL.1 hcu y e4, low S4 (fun b j hj => ?_)⟩ h3 hx
    rw [e4, gI_sI, if_neg (by omega), gI_sI, if_neg (by omega), gI_sI, if_neg (by omega)]
  have cmp_ : c = 24 ∨ c = 25 → w_X12_worked_137 (nI p) k (nI q.length) (nI (base + i)) (nI c) S' := by
    intro y
    obtain ⟨c1, hcu, h3⟩ := opc (by omega)
    unfold w_X12_worked_137
    rw [nI_clamp (by omega)]
    refine m_sums (by omega) hL.1 hcu (fun S3 e3 => ⟨vd, vd, fun S4 e4 => ⟨vd, fun S5 e5 => ⟨vd, fun S6 e6 => ⟨vd, fun S7 e7 x hx => ?_⟩⟩⟩⟩)
    rw [show gI S3 27 q.length = f.2.2.1 c1 by rw [e3, gI_sI, if_neg (by omega), gI_sI, if_pos ⟨rfl, rfl⟩]] at e4
    rw [e6, e5, e4, e3] at e7
    refine next S7 (opF c f c1 :: q) x (by rw [e7]; exact frX_sI (frX_sI (frX_sI (frX_sI (frX_sI (frX_sI (frX_refl _ _) (by simp)) (by simp)) (by simp)) (by simp)) (by simp)) (by simp)) (by simp) (by simp only [List.length_cons]; omega) ⟨FrO_cmp hL.1 hcu y e7, low S7 (fun b j hj => ?_)⟩ h3 hx
    rw [e7, gI_sI, if_neg (by omega), gI_sI, if_neg (by omega), gI_sI, if_neg (by omega), gI_sI, if_neg (by omega), gI_sI, if_neg (by omega), gI_sI, if_neg (by omega)]
  have join_ : c = 26 ∨ c = 27 → w_X12_worked_194 (nI p) k (nI q.length) (nI (base + i)) (nI c) S' := by
    intro y
    obtain ⟨c1, hcu, h3⟩ := opc (by omega)
    unfold w_X12_worked_194
    rw [nI_clamp (by omega)]
    refine m_tests (by omega) hL.1 hcu (fun S3 a3 k23 k24 k26 k27 k28 k29 k30 k31 => ⟨vd, fun S4 e4 x hx => ?_⟩)
    have a4 : AtD q.length S' S4 := AtD_trans a3 (by rw [e4]; exact AtD_sI (AtD_refl _ _) (by simp))
    have g : ∀ b, b ≠ 24 → gI S4 b q.length = gI S3 b q.length := fun b hb => by rw [e4, gI_sI, if_neg (fun z => hb z.1)]
    have g24 : gI S4 24 q.length = nI c := by rw [e4, gI_sI, if_pos ⟨rfl, rfl⟩]
    obtain ⟨h1, h2', h3', h4', h5', h6'⟩ := hL.1
    refine next S4 (opF c f c1 :: q) x a4.1 (by simp) (by simp only [List.length_cons]; omega) ⟨?_, low S4 (fun b j hj => a4.2 b j (by omega))⟩ h3 hx
    unfold FrO
    rw [g 29 (by omega), g 30 (by omega), g 28 (by omega), g 27 (by omega), g 26 (by omega), g 25 (by omega), g 23 (by omega), g 31 (by omega), g24, k23, k26, k27, k28, k29, k30, k31]
    rcases y with rfl | rfl
    · rw [show opF 26 f c1 = (false, f.2.1, (fun x => x), (fun x => x), (fun x => jnV 145 (finF f c1) x), f.2.2.2.2.2) from rfl]
      exact ⟨h1, ⟨fun q => (by cases q), fun _ => rfl⟩, fun x => by rw [if_neg (by decide)]; show x = 0 + x; rw [Int32.zero_add], fun x => by rw [if_neg (by decide), if_neg (by decide)], fun x => by rw [if_pos (by decide)], h6'⟩
    · rw [show opF 27 f c1 = (false, f.2.1, (fun x => x), (fun x => x), (fun x => jnV 146 (finF f c1) x), f.2.2.2.2.2) from rfl]
      exact ⟨h1, ⟨fun q => (by cases q), fun _ => rfl⟩, fun x => by rw [if_neg (by decide)]; show x = 0 + x; rw [Int32.zero_add], fun x => by rw [if_neg (by decide), if_neg (by decide)], fun x => by rw [if_neg (by decide), if_pos (by decide)], h6'⟩
  refine nI_ifEq (y := 20) (by omega) (by omega) (fun y => add_ (Or.inl y)) (fun y20 => ?_)
  refine nI_ifEq (y := 21) (by omega) (by omega) (fun y => add_ (Or.inr y)) (fun y21 => ?_)
  refine nI_ifEq (y := 22) (by omega) (by omega) (fun y => ?_) (fun y22 => ?_)
  · obtain ⟨c1, hcu, h3⟩ := opc (by omega)
    rw [nI_clamp (by omega)]
    refine ⟨vd, fun S4 e4 x hx => ?_⟩
    rw [y] at e4 h3
    refine next S4 (opF 22 f c1 :: q) x (by rw [e4]; exact frX_sI (frX_refl _ _) (by simp)) (by simp) (by simp only [List.length_cons]; omega) ⟨FrO_mul hL.1 e4, low S4 (fun b j hj => ?_)⟩ h3 hx
    rw [e4, gI_sI, if_neg (by omega)]
  refine nI_ifEq (y := 24) (by omega) (by omega) (fun y => cmp_ (Or.inl y)) (fun y24 => ?_)
  refine nI_ifEq (y := 25) (by omega) (by omega) (fun y => cmp_ (Or.inr y)) (fun y25 => ?_)
  refine nI_ifEq (y := 26) (by omega) (by omega) (fun y => join_ (Or.inl y)) (fun y26 => ?_)
  refine nI_ifEq (y := 27) (by omega) (by omega) (fun y => join_ (Or.inr y)) (fun y27 => ?_)
  have val : ∀ x : Int32, c ≠ 29 → x = (if 100 ≤ c then nI (c - 100) else ev c) → w_X12_worked_243 (nI p) k (nI q.length) (nI (base + i)) (nI c) x S' := by
    intro x y29 hx
    rw [if_neg y29, if_neg (by rcases c2 with c2 | c2 | c2 | c2 <;> omega), ← hx] at h2
    unfold w_X12_worked_243
    rw [if_neg (show ¬ nI c = (29 : Int32) from fun z => y29 (nI_inj (b := 29) (by omega) (by omega) z))]
    cases hp2 : putM x (f :: q) with
    | none => rw [hp2] at h2; cases h2
    | some st' =>
      rw [hp2] at h2
      exact m_put (st := f :: q) (by rw [ll]; omega) hL hp2 (fun S3 f3 ne3 l3 L3 => next S3 st' _ f3 ne3 (by rw [ll] at l3; omega) L3 h2 rfl)
  refine nI_ifLt (y := 100) (by omega) (by omega) (fun y => ?_) (fun y => ?_)
  · refine nI_if (x := 20) (by omega) (by omega) (fun z => ?_) (fun z => ?_)
    · have c29 : c = 29 := by rcases c2 with c2 | c2 | c2 | c2 <;> omega
      subst c29
      rw [if_pos rfl] at h2
      have h2 : f.2.1.bind (fun c1 => (putM (finF f c1) q).bind (runM ev (cm.drop (i + 1)))) = some res := h2
      cases hcu : f.2.1 with
      | none => rw [hcu] at h2; cases h2
      | some c1 =>
        rw [hcu] at h2
        have h9 : (putM (finF f c1) q).bind (runM ev (cm.drop (i + 1))) = some res := h2
        cases hp2 : putM (finF f c1) q with
        | none => rw [hp2] at h9; cases h9
        | some st' =>
          rw [hp2] at h9
          unfold w_X12_worked_243
          rw [if_pos (show nI 29 = (29 : Int32) from rfl)]
          refine m_tests (by omega) hL.1 hcu (fun S3 a3 k23 k24 k26 k27 k28 k29 k30 k31 => ⟨vd, ?_⟩)
          rintro x263 rfl x265 rfl
          rw [nI_clamp (by omega), k23]
          cases q with
          | nil => cases hp2
          | cons g r =>
            rw [show (g :: r).length = r.length + 1 from rfl, pk_m1]
            exact m_put (st := g :: r) (by simp only [List.length_cons] at hl ⊢; omega) (FrL_eq (g :: r) S' S3 (fun b j hj => a3.2 b j (by omega)) hL.2) hp2 (fun S4 f4 ne4 l4 L4 => next S4 st' _ (frX_trans a3.1 f4) ne4 (by omega) L4 h9 rfl)
    · refine ⟨vp_in_nI z (by omega), ?_⟩
      rw [nI_clamp (by omega), frX_g f2 32 c (by simp), he c (by rcases c2 with c2 | c2 | c2 | c2 <;> omega) (by rcases c2 with c2 | c2 | c2 | c2 <;> omega)]
      exact val _ (by omega) (by rw [if_neg (by omega)])
  · rw [show (100 : Int32) = nI 100 from rfl, pk_sub y]
    exact val _ (by omega) (by rw [if_pos y])
