/-! ===== pure: mark, line, clear keep the relation ===== -/
theorem MKs_M2 {l : Nat → Bool} {mF : Nat → Fm} {mD : Nat → Dr} {ma mb : Nat → Nat → Nat} {SE SM SM' : St} (h : MKs l mF mD ma mb SE SM) (h45 : ∀ j, gI SM' 45 j = gI SM 45 j) (h46 : ∀ j, gI SM' 46 j = gI SM 46 j) : MKs l mF mD ma mb SE SM' := by
  intro m hm
  obtain ⟨a, b, c⟩ := h m hm
  refine ⟨a, by rw [h45]; exact b, fun hl => ?_⟩
  obtain ⟨c1, c2, c3, c4, c5, c6⟩ := c hl
  refine ⟨c1, c2, c3, c4, c5, ?_⟩
  have : (fun k => gI SM' 46 (500 * m + k)) = (fun k => gI SM 46 (500 * m + k)) := funext (fun k => h46 _)
  rw [this]; exact c6
theorem okF_21 : okF 21 := Or.inr (Or.inl rfl)
theorem okFm {m : Nat} (h : m < 4) : okF (64 + 14 * m + 1) ∧ okD (64 + 14 * m + 10) := by
  have : m = 0 ∨ m = 1 ∨ m = 2 ∨ m = 3 := by omega
  rcases this with rfl | rfl | rfl | rfl <;> exact ⟨by simp [okF], by simp [okD]⟩
theorem MF_same {F : Fm} {D : Dr} {pa pb : Nat → Nat} {S S' : St} (hF : FW F) (hD : D 0 0 ≤ 60) (h : ∀ i, i < 408 → vw S' i = vw S i) (H : MF F D pa pb S) : MF F D pa pb S' :=
  (MV_MF hF hD).mp (MV_vwl hF hD ((MV_MF hF hD).mpr H) (fun i hi => h i (by omega)) (fun i h1 h2 => ⟨fun q => by rw [h i h2]; exact q, fun q => by rw [h i h2]; exact q⟩))
theorem vc_off : ∀ i, i < 408 → ¬ ((vc i).1 = 0 ∧ (vc i).2 = 73) ∧ (vc i).1 ≠ 45 ∧ (vc i).1 ≠ 46 := by decide +kernel
theorem c_mark {SE SM : St} {a p : Int32} (hR : RCE SE) (h : RR SE SM) (hp : p = 0 ∨ p = 1) : w_X11_mark a p SE (fun r S1 => w_X12_mark a p SM (fun r' S2 => r = r' ∧ RR S1 S2)) := by
  have f0 := fr0 SM
  have h00 : RR SE (sI SM 0 0 0) := RR_fr (l := []) h (frX_refl _ _) (by simp) f0
  obtain ⟨F, D, pa, pb, L, t, sg, l, mF, mD, ma, mb, ⟨r1, r2, r3, r4, r5, r6, r7, r8, r9⟩, h2, h3, h4, h5⟩ := h
  have HM2 := MF_fr r1 f0 r9
  have h92 := B9_fr f0 h2
  have h32 : TPr t sg SE (sI SM 0 0 0) := TPr_M (f0 0 1 rfl) (fun j => f0 1 j rfl) h3
  have h42 := MKs_M h4 f0
  refine e_markAt hR (fun q => ?_) (fun m hm e => ?_)
  · rw [if_pos rfl]
    intro S2 hS2; subst hS2
    refine m_within (fun _ => ?_) (fun x y => absurd q (fun z => z.elim x y))
    rw [if_pos rfl]
    exact ⟨rfl, h00⟩
  subst e
  obtain ⟨k1, k2, k3⟩ := h42 m hm
  have hm5 := isE5_m hm
  obtain ⟨oF, oD⟩ := okFm hm
  rw [if_neg (by simp)]
  rcases hp with rfl | rfl
  · -- laid
    rw [if_pos rfl]
    unfold w_X11_mark_23
    rw [if_pos rfl]
    refine ⟨64 + 14 * m, rfl, hm5, ?_⟩
    refine e_copyF oF okF_21 (by omega) r1 r4 ?_
    intro S1 g1 e1
    refine e_copyD oD (Or.inl rfl) (by omega) r2.1 (DEo_fr g1 (fun k hk q => by simp at q; omega) r5) ?_
    intro S2 g2 e2 S3 hS3
    have g3 : frX [64 + 14 * m] S2 S3 := by rw [hS3]; exact frX_sI (frX_refl _ _) (by simp)
    have gall : frX [64 + 14 * m, 64 + 14 * m + 1, 64 + 14 * m + 1 + 1, 64 + 14 * m + 1 + 2, 64 + 14 * m + 1 + 3, 64 + 14 * m + 1 + 4, 64 + 14 * m + 1 + 5, 64 + 14 * m + 1 + 6, 64 + 14 * m + 1 + 7, 64 + 14 * m + 10, 64 + 14 * m + 10 + 1, 64 + 14 * m + 10 + 2, 64 + 14 * m + 10 + 3] SE S3 := frX_trans (frX_sub g1 (fun x hx => by simp at hx ⊢; omega)) (frX_trans (frX_sub g2 (fun x hx => by simp at hx ⊢; omega)) (frX_sub g3 (fun x hx => by simp at hx ⊢; omega)))
    have hin : ∀ x, x ∈ [64 + 14 * m, 64 + 14 * m + 1, 64 + 14 * m + 1 + 1, 64 + 14 * m + 1 + 2, 64 + 14 * m + 1 + 3, 64 + 14 * m + 1 + 4, 64 + 14 * m + 1 + 5, 64 + 14 * m + 1 + 6, 64 + 14 * m + 1 + 7, 64 + 14 * m + 10, 64 + 14 * m + 10 + 1, 64 + 14 * m + 10 + 2, 64 + 14 * m + 10 + 3] → 64 + 14 * m ≤ x ∧ x ≤ 64 + 14 * m + 13 := fun x hx => by simp at hx; omega
    generalize hls : [64 + 14 * m, 64 + 14 * m + 1, 64 + 14 * m + 1 + 1, 64 + 14 * m + 1 + 2, 64 + 14 * m + 1 + 3, 64 + 14 * m + 1 + 4, 64 + 14 * m + 1 + 5, 64 + 14 * m + 1 + 6, 64 + 14 * m + 1 + 7, 64 + 14 * m + 10, 64 + 14 * m + 10 + 1, 64 + 14 * m + 10 + 2, 64 + 14 * m + 10 + 3] = ls at gall hin
    intro S4 hS4
    subst hS4
    refine m_within (fun q => absurd q (mk_no hm rfl)) (fun _ _ => ?_)
    rw [if_neg (by decide), if_pos rfl]
    refine m_lay hm h92 ?_
    intro S5 n1 n2 n3
    refine ⟨rfl, F, D, pa, pb, L, t, sg, fun i => if i = m then true else l i, fun i => if i = m then F else mF i, fun i => if i = m then D else mD i, fun i => if i = m then pa else ma i, fun i => if i = m then pb else mb i, ⟨r1, r2, r3, FE21_fr gall (fun x hx q => by have := hin x hx; omega) r4, DE_fr gall (fun x hx q => by have := hin x hx; omega) r5, EZ_fr gall (fun x hx q => by have := hin x hx; omega) r6, FI_fr gall (fun x hx q => by have := hin x hx; omega) r7, MI_fr gall (fun x hx q => by have := hin x hx; omega) r8, ?_⟩, ?_, ?_, ?_, KW_fr gall (fun q => by have := hin 6 q; omega) h5⟩
    · refine MF_same r1 r2.1 (fun i hi => ?_) HM2
      obtain ⟨z1, z2, z3⟩ := vc_off i hi
      exact n1 _ _ z1 (fun q => z2 q.1) (fun q => z3 q.1)
    · intro j hj
      rw [n1 9 j (by omega) (by omega) (by omega)]; exact h92 j hj
    · exact TPr_M (n1 0 1 (by omega) (by omega) (by omega)) (fun j => n1 1 j (by omega) (by omega) (by omega)) (TPr_E gall (fun x hx q => by have := hin x hx; omega) h32)
    · intro i hi
      by_cases c : i = m
      · subst c
        refine ⟨?_, ?_, fun _ => ?_⟩
        · simp only [if_true]; rw [hS3, gI_sI, if_pos ⟨rfl, rfl⟩]
        · simp only [if_true]; exact n2
        · simp only [if_true]
          refine ⟨r1, r2, r3, FE_fr (frX_trans (frX_sub g2 (m := [64 + 14 * i, 64 + 14 * i + 10, 64 + 14 * i + 10 + 1, 64 + 14 * i + 10 + 2, 64 + 14 * i + 10 + 3]) (by simp)) (frX_sub g3 (by simp))) (fun k hk q => by simp at q; omega) e1, DEo_fr g3 (fun k hk q => by simp at q; omega) e2, ?_⟩
          exact MV_vwl r1 r2.1 ((MV_MF r1 r2.1).mpr HM2) (fun j hj => n3 j (by omega)) (fun j z1 z2 => ⟨fun q => by rw [n3 j z2]; exact q, fun q => by rw [n3 j z2]; exact q⟩)
      · obtain ⟨a1, a2, a3⟩ := h42 i hi
        simp only [if_neg c]
        refine ⟨?_, ?_, fun hl => ?_⟩
        · rw [frX_g gall _ 2 (fun q => by have := hin _ q; omega)]; exact a1
        · rw [n1 45 i (by omega) (by omega) (by omega)]; exact a2
        · obtain ⟨c1, c2, c3, c4, c5, c6⟩ := a3 hl
          refine ⟨c1, c2, c3, FE_fr gall (fun k hk q => by have := hin _ q; omega) c4, DEo_fr gall (fun k hk q => by have := hin _ q; omega) c5, ?_⟩
          refine MV_vwl c1 c2.1 c6 (fun j hj => n1 46 _ (by omega) (by omega) (by omega)) (fun j z1 z2 => ?_)
          rw [n1 46 (500 * i + j) (by omega) (by omega) (by omega)]
          exact ⟨id, id⟩
  · -- gone back to
    rw [if_neg (by decide)]
    refine ⟨64 + 14 * m, rfl, hm5, ?_⟩
    rw [k1]
    cases c : l m with
    | false =>
      rw [if_pos (by decide)]
      intro S2 hS2; subst hS2
      refine m_within (fun q => absurd q (mk_no hm rfl)) (fun _ _ => ?_)
      rw [if_neg (by decide), if_neg (by decide), nI_clamp (by omega), k2, c, if_pos (by decide)]
      exact ⟨vp_in_nI hm (by omega), rfl, h00⟩
    | true =>
      rw [if_pos rfl, if_neg (by decide)]
      obtain ⟨q1, q2, q3, q4, q5, q6⟩ := k3 c
      unfold w_X11_mark_23
      rw [if_neg (by decide)]
      refine ⟨64 + 14 * m, rfl, hm5, ?_⟩
      refine e_copyF okF_21 oF (by omega) q1 q4 ?_
      intro S1 g1 e1
      refine ⟨64 + 14 * m, rfl, hm5, ?_⟩
      refine e_copyD (Or.inl rfl) oD (by omega) q2.1 (DEo_fr g1 (fun k hk q => by simp at q; omega) q5) ?_
      intro S2 g2 e2
      refine e_formChanged q1 (FE21_fr g2 (by simp) e1) ?_
      intro S3 L' g3 e3 z3 i3 j3
      have gall : frX [21, 22, 23, 24, 25, 26, 27, 28, 30, 31, 32, 33, 34, 35, 36, 37, 38, 39, 40, 41, 42, 43, 50] SE S3 := frX_trans (frX_sub g1 (by simp)) (frX_trans (frX_sub g2 (by simp)) (frX_sub g3 (by simp)))
      intro S4 hS4
      subst hS4
      refine m_within (fun q => absurd q (mk_no hm rfl)) (fun _ _ => ?_)
      rw [if_neg (by decide), if_neg (by decide), nI_clamp (by omega), k2, c, if_pos rfl, if_neg (by decide)]
      refine ⟨vp_in_nI hm (by omega), ?_⟩
      refine m_back hm (by rw [k2, c]; rfl) ?_
      intro S5 n1 n2
      refine ⟨rfl, mF m, mD m, ma m, mb m, L', t, sg, l, mF, mD, ma, mb, ⟨q1, q2, q3, e3, DE_fr g3 (by simp) e2, z3, i3, j3 _, ?_⟩, ?_, ?_, ?_, KW_fr gall (by simp) h5⟩
      · refine (MV_MF q1 q2.1).mp (MV_vwl q1 q2.1 q6 (fun i hi => ?_) (fun i z1 z2 => ⟨fun q => ?_, fun q => ?_⟩))
        · rw [n2 i (by omega), if_pos hi]
        · rw [n2 i z2, if_neg (by omega), q, if_neg (by decide)]
        · rw [n2 i z2, if_neg (by omega), if_pos q]
      · intro j hj
        have := n2 (264 + j) (by omega)
        unfold vw at this
        rw [vc_264, if_neg (by omega)] at this
        rw [this]
        split
        · exact Or.inr rfl
        · exact Or.inl rfl
      · exact TPr_M (n1 0 1 (by omega)) (fun j => n1 1 j (by omega)) (TPr_E gall (by simp) h32)
      · exact MKs_M2 (MKs_E gall (by simp) h42) (fun j => n1 45 j (by omega)) (fun j => n1 46 j (by omega))
def addL (D : Dr) (w x b : Nat) : Dr := fun k j => if k = 0 then D 0 0 + 1 else if j = D 0 0 then (if k = 1 then w else if k = 2 then x else b) else D k j
theorem addL_1 (D : Dr) (w x b j : Nat) : addL D w x b 1 j = if j = D 0 0 then w else D 1 j := rfl
theorem addL_2 (D : Dr) (w x b j : Nat) : addL D w x b 2 j = if j = D 0 0 then x else D 2 j := rfl
theorem addL_3 (D : Dr) (w x b j : Nat) : addL D w x b 3 j = if j = D 0 0 then b else D 3 j := rfl
theorem c_line {SE SM : St} {a b c : Int32} (h : RR SE SM) : w_X11_line a b c SE (fun r S1 => w_X12_line a b c SM (fun r' S2 => r = r' ∧ RR S1 S2)) := by
  have f0 := fr0 SM
  have h00 : RR SE (sI SM 0 0 0) := RR_fr (l := []) h (frX_refl _ _) (by simp) f0
  obtain ⟨F, D, pa, pb, L, t, sg, l, mF, mD, ma, mb, ⟨r1, r2, r3, r4, r5, r6, r7, r8, r9⟩, h2, h3, h4, h5⟩ := h
  have hww := r1.1.2.2.2.2.2.2.1
  have hd60 := r2.1
  have HM2 := MF_fr r1 f0 r9
  have m15 := HM2.2.2.2.2.2.1
  have m65 := HM2.2.2.2.2.2.2.2.1
  have bad : ((a < 0 ∨ nI (F 0 5) ≤ a) ∨ (b < 0 ∨ 999 < b) ∨ (c < 0 ∨ 99 < c) ∨ D 0 0 = 60) → w_X12_line a b c SM (fun r' S2 => (-1 : Int32) = r' ∧ RR SE S2) := by
    intro hb S2 hS2
    subst hS2
    refine m_isWordAt (by omega) m15 (fun _ => ?_) (fun w hw e => ?_)
    · rw [if_pos rfl]; exact ⟨rfl, h00⟩
    · rw [if_neg (by decide)]
      refine m_within (fun _ => ?_) (fun x1 x2 => ?_)
      · rw [if_pos rfl]; exact ⟨rfl, h00⟩
      · rw [if_neg (by decide)]
        refine m_within (fun _ => ?_) (fun y1 y2 => ?_)
        · rw [if_pos rfl]; exact ⟨rfl, h00⟩
        · rw [if_neg (by decide)]
          rcases hb with z | z | z | z
          · exact absurd z (pl_no (by omega) hw e)
          · exact absurd z (fun t => t.elim x1 x2)
          · exact absurd z (fun t => t.elim y1 y2)
          · rw [m65, z, if_pos (by rfl)]; exact ⟨rfl, h00⟩
  unfold w_X11_line
  refine e_isWord (by omega) (r4.1 5 (by omega)) (fun q => ?_) (fun w hw e => ?_)
  · rw [if_pos rfl]; exact bad (Or.inl q)
  rw [if_neg (by decide)]
  subst e
  by_cases b0 : b < 0
  · rw [if_pos b0]; exact bad (Or.inr (Or.inl (Or.inl b0)))
  rw [if_neg b0]
  by_cases b1 : 999 < b
  · rw [if_pos b1]; exact bad (Or.inr (Or.inl (Or.inr b1)))
  rw [if_neg b1]
  by_cases c0 : c < 0
  · rw [if_pos c0]; exact bad (Or.inr (Or.inr (Or.inl (Or.inl c0))))
  rw [if_neg c0]
  by_cases c1 : 99 < c
  · rw [if_pos c1]; exact bad (Or.inr (Or.inr (Or.inl (Or.inr c1))))
  rw [if_neg c1, r5.1]
  obtain ⟨x, hx, rfl⟩ := nI_of2 (M := 999) (n := 999) (by decide) b0 (Int32.not_lt.mp b1)
  obtain ⟨y, hy, rfl⟩ := nI_of2 (M := 99) (n := 99) (by decide) c0 (Int32.not_lt.mp c1)
  refine nI_ifLt (y := 60) (by omega) (by omega) (fun hd => ?_) (fun hd => bad (Or.inr (Or.inr (Or.inr (by omega)))))
  unfold w_X2_add
  rw [r5.1]
  refine e_put (by show _ < 60; omega) (by decide) ?_
  rw [gI_sI, if_neg (by omega), r5.1]
  refine e_put (by show _ < 60; omega) (by decide) ?_
  rw [gI_sI, if_neg (by omega), gI_sI, if_neg (by omega), r5.1]
  refine e_put (by show _ < 60; omega) (by decide) ?_
  rw [gI_sI, if_neg (by omega), gI_sI, if_neg (by omega), gI_sI, if_neg (by omega), r5.1, nI_1]
  intro S1 hS1 S2 hS2
  have gall : frX [30, 31, 32, 33, 50] SE S2 := by rw [hS2, hS1]; exact frX_sI (frX_sI (frX_sI (frX_sI (frX_sI (frX_refl _ _) (by simp)) (by simp)) (by simp)) (by simp)) (by simp)
  have e3 : gI S2 30 3 = nI (D 0 0 + 1) := by rw [hS2, gI_sI, if_neg (by omega), hS1, gI_sI, if_pos ⟨rfl, rfl⟩]
  have hDE : DE 30 (addL D w x y) S2 := by
    refine ⟨e3, fun k j k1 k2 hj => ?_⟩
    have hj : j < D 0 0 + 1 := hj
    have : k = 1 ∨ k = 2 ∨ k = 3 := by omega
    have st : gI S2 (30 + k) j = if 30 + k = 33 ∧ j = D 0 0 then nI y else if 30 + k = 32 ∧ j = D 0 0 then nI x else if 30 + k = 31 ∧ j = D 0 0 then nI w else gI SE (30 + k) j := by
      rw [hS2, gI_sI, if_neg (by omega), hS1, gI_sI, if_neg (by omega), gI_sI, gI_sI, gI_sI]
    rw [st]
    rcases this with rfl | rfl | rfl
    · rw [addL_1, if_neg (by omega), if_neg (by omega)]
      by_cases e : j = D 0 0
      · rw [if_pos ⟨rfl, e⟩, if_pos e]
      · rw [if_neg (fun q => e q.2), if_neg e]; exact r5.2 1 j (by omega) (by omega) (by omega)
    · rw [addL_2, if_neg (by omega)]
      by_cases e : j = D 0 0
      · rw [if_pos ⟨rfl, e⟩, if_pos e]
      · rw [if_neg (fun q => e q.2), if_neg (by omega), if_neg e]; exact r5.2 2 j (by omega) (by omega) (by omega)
    · rw [addL_3]
      by_cases e : j = D 0 0
      · rw [if_pos ⟨rfl, e⟩, if_pos e]
      · rw [if_neg (fun q => e q.2), if_neg (by omega), if_neg (by omega), if_neg e]; exact r5.2 3 j (by omega) (by omega) (by omega)
  have hDW : DW F (addL D w x y) := by
    refine ⟨by show D 0 0 + 1 ≤ 60; omega, fun j hj => ?_⟩
    have hj : j < D 0 0 + 1 := hj
    rw [addL_1, addL_2, addL_3]
    by_cases e : j = D 0 0
    · rw [if_pos e, if_pos e, if_pos e]
      exact ⟨hw, hx, hy⟩
    · rw [if_neg e, if_neg e, if_neg e]; exact r2.2 j (by omega)
  rw [e3]
  intro S3 hS3
  subst hS3
  refine m_isWordAt (by omega) m15 (fun q => absurd q (pl_no (by omega) hw rfl)) (fun _ _ _ => ?_)
  rw [if_neg (by decide)]
  refine m_within (fun q => absurd q (fun z => z.elim b0 b1)) (fun _ _ => ?_)
  rw [if_neg (by decide)]
  refine m_within (fun q => absurd q (fun z => z.elim c0 c1)) (fun _ _ => ?_)
  rw [if_neg (by decide), m65, if_neg (show ¬ nI (D 0 0) = 60 from fun q => by have := nI_inj (b := 60) (by omega) (by omega) q; omega)]
  refine ⟨vp_in_nI (by omega) (by omega), fun T1 h1 => ?_⟩
  rw [nI_clamp (by omega)] at h1
  have e1 : gI T1 0 65 = nI (D 0 0) := by rw [h1, gI_sI, if_neg (by omega)]; exact m65
  rw [e1]
  refine ⟨vp_in_nI (by omega) (by omega), fun T2 h2' => ?_⟩
  rw [nI_clamp (by omega)] at h2'
  have e2 : gI T2 0 65 = nI (D 0 0) := by rw [h2', gI_sI, if_neg (by omega)]; exact e1
  rw [e2]
  refine ⟨vp_in_nI (by omega) (by omega), fun T3 h3' T4 h4' => ?_⟩
  rw [nI_clamp (by omega)] at h3'
  have e3' : gI T3 0 65 = nI (D 0 0) := by rw [h3', gI_sI, if_neg (by omega)]; exact e2
  rw [e3', nI_1] at h4'
  have e4 : gI T4 0 65 = nI (D 0 0 + 1) := by rw [h4', gI_sI, if_pos ⟨rfl, rfl⟩]
  have go : ∀ b' j, ¬ (b' = 0 ∧ j = 65) → b' ≠ 41 → b' ≠ 42 → b' ≠ 43 → gI T4 b' j = gI (sI SM 0 0 0) b' j := fun b' j a1 a2 a3 a4 => by
    rw [h4', gI_sI, if_neg a1, h3', gI_sI, if_neg (fun q => a4 q.1), h2', gI_sI, if_neg (fun q => a3 q.1), h1, gI_sI, if_neg (fun q => a2 q.1)]
  rw [e4]
  obtain ⟨⟨⟨v1, v2⟩, v3, v4⟩, v5, v6, v7, v8, v9, v10, v11, v12, v13, v14⟩ := HM2
  refine ⟨rfl, F, addL D w x y, pa, pb, L, t, sg, l, mF, mD, ma, mb, ⟨r1, hDW, r3, FE21_fr gall (by simp) r4, hDE, EZ_fr gall (by simp) r6, FI_fr gall (by simp) r7, Or.inl (by rw [hS2, gI_sI, if_pos ⟨rfl, rfl⟩]), ⟨⟨⟨?_, fun i hi => ?_⟩, ?_, fun k hk => ⟨?_, ?_⟩⟩, fun j hj => ?_, ?_, ?_, ?_, ?_, ?_, e4, fun w' hw' => ⟨?_, ?_, ?_⟩, fun j hj => ?_, fun a' b' ha hb => ?_⟩⟩, ?_, ?_, ?_, KW_fr gall (by simp) h5⟩
  · rw [go _ _ (by omega) (by omega) (by omega) (by omega)]; exact v1
  · rw [go _ _ (by omega) (by omega) (by omega) (by omega)]; exact v2 i hi
  · rw [go _ _ (by omega) (by omega) (by omega) (by omega)]; exact v3
  · rw [go _ _ (by omega) (by omega) (by omega) (by omega)]; exact (v4 k hk).1
  · rw [go _ _ (by omega) (by omega) (by omega) (by omega)]; exact (v4 k hk).2
  · rw [go _ _ (by omega) (by omega) (by omega) (by omega)]; exact v5 j hj
  · rw [go _ _ (by omega) (by omega) (by omega) (by omega)]; exact v6
  · rw [go _ _ (by omega) (by omega) (by omega) (by omega)]; exact v7
  · rw [go _ _ (by omega) (by omega) (by omega) (by omega)]; exact v8
  · rw [go _ _ (by omega) (by omega) (by omega) (by omega)]; exact v9
  · rw [go _ _ (by omega) (by omega) (by omega) (by omega)]; exact v10
  · rw [go _ _ (by omega) (by omega) (by omega) (by omega)]; exact (v12 w' hw').1
  · rw [go _ _ (by omega) (by omega) (by omega) (by omega)]; exact (v12 w' hw').2.1
  · rw [go _ _ (by omega) (by omega) (by omega) (by omega)]; exact (v12 w' hw').2.2
  · have hj : j < D 0 0 + 1 := hj
    have z1 : gI T4 41 j = gI T1 41 j := by rw [h4', gI_sI, if_neg (by omega), h3', gI_sI, if_neg (by omega), h2', gI_sI, if_neg (by omega)]
    have z2 : gI T4 42 j = gI T2 42 j := by rw [h4', gI_sI, if_neg (by omega), h3', gI_sI, if_neg (by omega)]
    have z3 : gI T4 43 j = gI T3 43 j := by rw [h4', gI_sI, if_neg (by omega)]
    rw [z1, z2, z3, addL_1, addL_2, addL_3]
    by_cases e : j = D 0 0
    · rw [if_pos e, if_pos e, if_pos e, h1, gI_sI, if_pos ⟨rfl, e⟩, h2', gI_sI, if_pos ⟨rfl, e⟩, h3', gI_sI, if_pos ⟨rfl, e⟩]
      exact ⟨rfl, rfl, rfl⟩
    · obtain ⟨y1, y2, y3⟩ := v13 j (by omega)
      have u1 : gI T1 41 j = gI (sI SM 0 0 0) 41 j := by rw [h1, gI_sI, if_neg (fun q => e q.2)]
      have u2 : gI T2 42 j = gI (sI SM 0 0 0) 42 j := by rw [h2', gI_sI, if_neg (fun q => e q.2), h1, gI_sI, if_neg (by omega)]
      have u3 : gI T3 43 j = gI (sI SM 0 0 0) 43 j := by rw [h3', gI_sI, if_neg (fun q => e q.2), h2', gI_sI, if_neg (by omega), h1, gI_sI, if_neg (by omega)]
      rw [if_neg e, if_neg e, if_neg e, u1, u2, u3]
      exact ⟨y1, y2, y3⟩
  · rw [go _ _ (by omega) (by omega) (by omega) (by omega)]; exact v14 a' b' ha hb
  · intro j hj
    rw [go _ _ (by omega) (by omega) (by omega) (by omega)]; exact B9_fr f0 h2 j hj
  · exact TPr_M (go 0 1 (by omega) (by omega) (by omega) (by omega)) (fun j => go 1 j (by omega) (by omega) (by omega) (by omega)) (TPr_M (f0 0 1 rfl) (fun j => f0 1 j rfl) (TPr_E gall (by simp) h3))
  · exact MKs_M2 (MKs_M (MKs_E gall (by simp) h4) f0) (fun j => go 45 j (by omega) (by omega) (by omega) (by omega)) (fun j => go 46 j (by omega) (by omega) (by omega) (by omega))
def noL (D : Dr) : Dr := fun k j => if k = 0 then 0 else D k j
theorem c_clear {SE SM : St} (h : RR SE SM) : w_X11_clear SE (fun r S1 => w_X12_clear SM (fun r' S2 => r = r' ∧ RR S1 S2)) := by
  have f0 := fr0 SM
  obtain ⟨F, D, pa, pb, L, t, sg, l, mF, mD, ma, mb, ⟨r1, r2, r3, r4, r5, r6, r7, r8, r9⟩, h2, h3, h4, h5⟩ := h
  obtain ⟨⟨⟨v1, v2⟩, v3, v4⟩, v5, v6, v7, v8, v9, v10, v11, v12, v13, v14⟩ := MF_fr r1 f0 r9
  intro S1 hS1 S2 hS2
  have gall : frX [30, 50] SE S2 := by rw [hS2, hS1]; exact frX_sI (frX_sI (frX_refl _ _) (by simp)) (by simp)
  intro T1 h1 T2 h2'
  subst h1
  have go : ∀ b' j, ¬ (b' = 0 ∧ j = 65) → gI T2 b' j = gI (sI SM 0 0 0) b' j := fun b' j a1 => by rw [h2', gI_sI, if_neg a1]
  refine ⟨rfl, F, noL D, pa, pb, L, t, sg, l, mF, mD, ma, mb, ⟨r1, ⟨by show 0 ≤ 60; omega, fun j hj => absurd hj (Nat.not_lt_zero _)⟩, r3, FE21_fr gall (by simp) r4, ⟨by rw [hS2, gI_sI, if_neg (by omega), hS1, gI_sI, if_pos ⟨rfl, rfl⟩]; rfl, fun k j _ _ hj => absurd hj (Nat.not_lt_zero _)⟩, EZ_fr gall (by simp) r6, FI_fr gall (by simp) r7, Or.inl (by rw [hS2, gI_sI, if_pos ⟨rfl, rfl⟩]), ⟨⟨⟨?_, fun i hi => ?_⟩, ?_, fun k hk => ⟨?_, ?_⟩⟩, fun j hj => ?_, ?_, ?_, ?_, ?_, ?_, ?_, fun w' hw' => ⟨?_, ?_, ?_⟩, fun j hj => absurd hj (Nat.not_lt_zero _), fun a' b' ha hb => ?_⟩⟩, ?_, ?_, ?_, KW_fr gall (by simp) h5⟩
  · rw [go _ _ (by omega)]; exact v1
  · rw [go _ _ (by omega)]; exact v2 i hi
  · rw [go _ _ (by omega)]; exact v3
  · rw [go _ _ (by omega)]; exact (v4 k hk).1
  · rw [go _ _ (by omega)]; exact (v4 k hk).2
  · rw [go _ _ (by omega)]; exact v5 j hj
  · rw [go _ _ (by omega)]; exact v6
  · rw [go _ _ (by omega)]; exact v7
  · rw [go _ _ (by omega)]; exact v8
  · rw [go _ _ (by omega)]; exact v9
  · rw [go _ _ (by omega)]; exact v10
  · rw [h2', gI_sI, if_pos ⟨rfl, rfl⟩]; rfl
  · rw [go _ _ (by omega)]; exact (v12 w' hw').1
  · rw [go _ _ (by omega)]; exact (v12 w' hw').2.1
  · rw [go _ _ (by omega)]; exact (v12 w' hw').2.2
  · rw [go _ _ (by omega)]; exact v14 a' b' ha hb
  · intro j hj
    rw [go _ _ (by omega)]; exact B9_fr f0 h2 j hj
  · exact TPr_M (go 0 1 (by omega)) (fun j => go 1 j (by omega)) (TPr_M (f0 0 1 rfl) (fun j => f0 1 j rfl) (TPr_E gall (by simp) h3))
  · exact MKs_M2 (MKs_M (MKs_E gall (by simp) h4) f0) (fun j => go 45 j (by omega)) (fun j => go 46 j (by omega))
