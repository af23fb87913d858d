/-! ===== pure: every other call keeps the relation ===== -/
theorem RR_0 {SE SM : St} (h : RR SE SM) : RR SE (sI SM 0 0 0) := RR_fr (l := []) h (frX_refl _ _) (by simp) (fr0 SM)
theorem frX_nil (S : St) : frX [] S S := frX_refl _ _
theorem r_end {SE SM : St} {a : Int64} {b : Int32} (h : RR SE SM) : w_X11_end a b SE (fun r S1 => w_X12_end a b SM (fun r' S2 => r = r' ∧ RR S1 S2)) := by
  obtain ⟨F, D, pa, pb, L, t, sg, l, mF, mD, ma, mb, hr, h2, h3, h4, h5⟩ := id h
  obtain ⟨r1, r2, r3, r4, r5, r6, r7, r8, r9⟩ := id hr
  exact c_end (K := fun r r' S1 S2 => r = r' ∧ RR S1 S2) r6.1 r9.1.1 (fun r => ⟨rfl, RR_0 h⟩)
theorem r_where {SE SM : St} {a : Int64} {b : Int32} (h : RR SE SM) : w_X11_where a b SE (fun r S1 => w_X12_where a b SM (fun r' S2 => r = r' ∧ RR S1 S2)) := by
  obtain ⟨F, D, pa, pb, L, t, sg, l, mF, mD, ma, mb, hr, h2, h3, h4, h5⟩ := id h
  obtain ⟨r1, r2, r3, r4, r5, r6, r7, r8, r9⟩ := id hr
  exact c_where (K := fun r r' S1 S2 => r = r' ∧ RR S1 S2) r6.1 r9.1.1 (fun r => ⟨rfl, RR_0 h⟩)
theorem r_meets {SE SM : St} {a b : Int32} (h : RR SE SM) : w_X11_meets a b SE (fun r S1 => w_X12_meets a b SM (fun r' S2 => r = r' ∧ RR S1 S2)) := by
  obtain ⟨F, D, pa, pb, L, t, sg, l, mF, mD, ma, mb, hr, h2, h3, h4, h5⟩ := id h
  obtain ⟨r1, r2, r3, r4, r5, r6, r7, r8, r9⟩ := id hr
  exact c_meets (K := fun r r' S1 S2 => r = r' ∧ RR S1 S2) r6.1 r9.1.1 (fun r => ⟨rfl, RR_0 h⟩)
theorem r_turning {SE SM : St} {a b : Int32} (h : RR SE SM) : w_X11_turning a b SE (fun r S1 => w_X12_turning a b SM (fun r' S2 => r = r' ∧ RR S1 S2)) := by
  obtain ⟨F, D, pa, pb, L, t, sg, l, mF, mD, ma, mb, hr, h2, h3, h4, h5⟩ := id h
  obtain ⟨r1, r2, r3, r4, r5, r6, r7, r8, r9⟩ := id hr
  exact c_turning (K := fun r r' S1 S2 => r = r' ∧ RR S1 S2) r6.1 r9.1.1 (fun r => ⟨rfl, RR_0 h⟩)
theorem r_round {SE SM : St} {a : Int32} (h : RR SE SM) : w_X11_round a SE (fun r S1 => w_X12_round a SM (fun r' S2 => r = r' ∧ RR S1 S2)) := by
  obtain ⟨F, D, pa, pb, L, t, sg, l, mF, mD, ma, mb, hr, h2, h3, h4, h5⟩ := id h
  obtain ⟨r1, r2, r3, r4, r5, r6, r7, r8, r9⟩ := id hr
  exact c_round (K := fun r r' S1 S2 => r = r' ∧ RR S1 S2) r6.1 r9.1.1 (fun r => ⟨rfl, RR_0 h⟩)
theorem r_roots {SE SM : St} (h : RR SE SM) : w_X11_roots SE (fun r S1 => w_X12_roots SM (fun r' S2 => r = r' ∧ RR S1 S2)) := by
  obtain ⟨F, D, pa, pb, L, t, sg, l, mF, mD, ma, mb, hr, h2, h3, h4, h5⟩ := id h
  obtain ⟨r1, r2, r3, r4, r5, r6, r7, r8, r9⟩ := id hr
  exact c_roots (K := fun r r' S1 S2 => r = r' ∧ RR S1 S2) r6.1 r9.1.1 (fun r => ⟨rfl, RR_0 h⟩)
theorem r_spiral {SE SM : St} {a b : Int32} (h : RR SE SM) : w_X11_spiral a b SE (fun r S1 => w_X12_spiral a b SM (fun r' S2 => r = r' ∧ RR S1 S2)) := by
  obtain ⟨F, D, pa, pb, L, t, sg, l, mF, mD, ma, mb, hr, h2, h3, h4, h5⟩ := id h
  obtain ⟨r1, r2, r3, r4, r5, r6, r7, r8, r9⟩ := id hr
  exact c_spiral (K := fun r r' S1 S2 => r = r' ∧ RR S1 S2) (fun r S1 S2 q1 q2 => ⟨rfl, RR_fr h q1 (by simp) q2⟩)
theorem r_rhymes {SE SM : St} {a : Int32} (h : RR SE SM) : w_X11_rhymes a SE (fun r S1 => w_X12_rhymes a SM (fun r' S2 => r = r' ∧ RR S1 S2)) := by
  obtain ⟨F, D, pa, pb, L, t, sg, l, mF, mD, ma, mb, hr, h2, h3, h4, h5⟩ := id h
  obtain ⟨r1, r2, r3, r4, r5, r6, r7, r8, r9⟩ := id hr
  exact c_rhymes (K := fun r r' S1 S2 => r = r' ∧ RR S1 S2) r1 r3 r6 r9.1 (fun r S2 q2 => ⟨rfl, RR_fr (l := []) h (frX_refl _ _) (by simp) q2⟩)
theorem r_beside {SE SM : St} {a b : Int32} (h : RR SE SM) : w_X11_beside a b SE (fun r S1 => w_X12_beside a b SM (fun r' S2 => r = r' ∧ RR S1 S2)) := by
  obtain ⟨F, D, pa, pb, L, t, sg, l, mF, mD, ma, mb, hr, h2, h3, h4, h5⟩ := id h
  obtain ⟨r1, r2, r3, r4, r5, r6, r7, r8, r9⟩ := id hr
  exact c_beside (K := fun r r' S1 S2 => r = r' ∧ RR S1 S2) r1 r6 r9.1 (fun r S2 q2 => ⟨rfl, RR_fr (l := []) h (frX_refl _ _) (by simp) q2⟩)
theorem r_word {SE SM : St} {a b : Int32} (h : RR SE SM) : w_X11_word a b SE (fun r S1 => w_X12_word a b SM (fun r' S2 => r = r' ∧ RR S1 S2)) := by
  obtain ⟨F, D, pa, pb, L, t, sg, l, mF, mD, ma, mb, hr, h2, h3, h4, h5⟩ := id h
  obtain ⟨r1, r2, r3, r4, r5, r6, r7, r8, r9⟩ := id hr
  exact c_word (K := fun r r' S1 S2 => r = r' ∧ RR S1 S2) r1 r4 r9 (fun r => ⟨rfl, RR_0 h⟩)
theorem r_barred {SE SM : St} {a b : Int32} (h : RR SE SM) : w_X11_barred a b SE (fun r S1 => w_X12_barred a b SM (fun r' S2 => r = r' ∧ RR S1 S2)) := by
  obtain ⟨F, D, pa, pb, L, t, sg, l, mF, mD, ma, mb, hr, h2, h3, h4, h5⟩ := id h
  obtain ⟨r1, r2, r3, r4, r5, r6, r7, r8, r9⟩ := id hr
  exact c_barred (K := fun r r' S1 S2 => r = r' ∧ RR S1 S2) r1 r4 r9 (fun r => ⟨rfl, RR_0 h⟩)
theorem r_count {SE SM : St} {a : Int32} (h : RR SE SM) : w_X11_count a SE (fun r S1 => w_X12_count a SM (fun r' S2 => r = r' ∧ RR S1 S2)) := by
  obtain ⟨F, D, pa, pb, L, t, sg, l, mF, mD, ma, mb, hr, h2, h3, h4, h5⟩ := id h
  obtain ⟨r1, r2, r3, r4, r5, r6, r7, r8, r9⟩ := id hr
  exact c_count (K := fun r r' S1 S2 => r = r' ∧ RR S1 S2) r1 r4 r5 h3.2.1 r9 h3.2.2.1 (fun r => ⟨rfl, RR_0 h⟩)
theorem r_fills {SE SM : St} (h : RR SE SM) : w_X11_fills SE (fun r S1 => w_X12_fills SM (fun r' S2 => r = r' ∧ RR S1 S2)) := by
  obtain ⟨F, D, pa, pb, L, t, sg, l, mF, mD, ma, mb, hr, h2, h3, h4, h5⟩ := id h
  obtain ⟨r1, r2, r3, r4, r5, r6, r7, r8, r9⟩ := id hr
  exact c_fills (K := fun r r' S1 S2 => r = r' ∧ RR S1 S2) r1 r3 r4 r6 r7 r9 (fun r S1 S2 q1 q2 q3 => ⟨rfl, RR_fill hr h2 h3 h4 h5 q1 q2 q3⟩)
theorem r_fill {SE SM : St} {a : Int32} (h : RR SE SM) : w_X11_fill a SE (fun r S1 => w_X12_fill a SM (fun r' S2 => r = r' ∧ RR S1 S2)) := by
  obtain ⟨F, D, pa, pb, L, t, sg, l, mF, mD, ma, mb, hr, h2, h3, h4, h5⟩ := id h
  obtain ⟨r1, r2, r3, r4, r5, r6, r7, r8, r9⟩ := id hr
  exact c_fill (K := fun r r' S1 S2 => r = r' ∧ RR S1 S2) r1 r3 r4 r6 r7 r9 (fun r S1 S2 q1 q2 q3 => ⟨rfl, RR_fill hr h2 h3 h4 h5 q1 q2 q3⟩)
theorem r_stuck {SE SM : St} {a : Int32} (h : RR SE SM) : w_X11_stuck a SE (fun r S1 => w_X12_stuck a SM (fun r' S2 => r = r' ∧ RR S1 S2)) := by
  obtain ⟨F, D, pa, pb, L, t, sg, l, mF, mD, ma, mb, hr, h2, h3, h4, h5⟩ := id h
  obtain ⟨r1, r2, r3, r4, r5, r6, r7, r8, r9⟩ := id hr
  exact c_stuck (K := fun r r' S1 S2 => r = r' ∧ RR S1 S2) r1 r3 r4 r6 r7 r9 (fun r S1 S2 q1 q2 q3 => ⟨rfl, RR_fill hr h2 h3 h4 h5 q1 q2 q3⟩)
theorem r_mend {SE SM : St} (h : RR SE SM) : w_X11_mend SE (fun r S1 => w_X12_mend SM (fun r' S2 => r = r' ∧ RR S1 S2)) := by
  obtain ⟨F, D, pa, pb, L, t, sg, l, mF, mD, ma, mb, hr, h2, h3, h4, h5⟩ := id h
  obtain ⟨r1, r2, r3, r4, r5, r6, r7, r8, r9⟩ := id hr
  exact c_mend (K := fun r r' S1 S2 => r = r' ∧ RR S1 S2) r1 r2 r3 r4 r6 r5 r8 r9 (fun r S1 S2 q1 q2 q3 => ⟨rfl, RR_mend hr h2 h3 h4 h5 q1 (Or.inr q2) q3⟩)
theorem r_mended {SE SM : St} {a : Int32} (h : RR SE SM) : w_X11_mended a SE (fun r S1 => w_X12_mended a SM (fun r' S2 => r = r' ∧ RR S1 S2)) := by
  obtain ⟨F, D, pa, pb, L, t, sg, l, mF, mD, ma, mb, hr, h2, h3, h4, h5⟩ := id h
  obtain ⟨r1, r2, r3, r4, r5, r6, r7, r8, r9⟩ := id hr
  exact c_mended (K := fun r r' S1 S2 => r = r' ∧ RR S1 S2) r1 r2 r3 r4 r6 r5 r8 r9 (fun r S1 S2 q1 q2 q3 => ⟨rfl, RR_mend hr h2 h3 h4 h5 q1 q2 q3⟩)
theorem r_same {SE SM : St} {a : Int32} (hR : RCE SE) (h : RR SE SM) : w_X11_same a SE (fun r S1 => w_X12_same a SM (fun r' S2 => r = r' ∧ RR S1 S2)) := by
  obtain ⟨F, D, pa, pb, L, t, sg, l, mF, mD, ma, mb, hr, h2, h3, h4, h5⟩ := id h
  obtain ⟨r1, r2, r3, r4, r5, r6, r7, r8, r9⟩ := id hr
  exact c_same (K := fun r r' S1 S2 => r = r' ∧ RR S1 S2) hR r1 r3 r4 r9 h4 (fun r S1 S2 q1 q2 => ⟨rfl, RR_fr h q1 (fun x hx => by simp at hx; omega) q2⟩)
theorem r_renamed {SE SM : St} {a b : Int32} (hR : RCE SE) (h : RR SE SM) : w_X11_renamed a b SE (fun r S1 => w_X12_renamed a b SM (fun r' S2 => r = r' ∧ RR S1 S2)) := by
  obtain ⟨F, D, pa, pb, L, t, sg, l, mF, mD, ma, mb, hr, h2, h3, h4, h5⟩ := id h
  obtain ⟨r1, r2, r3, r4, r5, r6, r7, r8, r9⟩ := id hr
  exact c_renamed (K := fun r r' S1 S2 => r = r' ∧ RR S1 S2) hR r1 r3 r4 r9 h4 (fun r S1 S2 q1 q2 => ⟨rfl, RR_fr h q1 (fun x hx => by simp at hx; omega) q2⟩)
