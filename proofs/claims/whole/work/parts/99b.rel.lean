/-! ===== pure: the relation of the two states; mark keeps it ===== -/
def B9 (S : St) : Prop := ∀ j, j < 144 → gI S 9 j = 0 ∨ gI S 9 j = 1
/-- the tape of both: t signs -/
def TPr (t : Nat) (sg : Nat → Nat) (SE SM : St) : Prop := t ≤ 1000 ∧ gI SE 1 5 = nI t ∧ gI SM 0 1 = nI t ∧ ∀ j, j < t → (sg j = 10 ∨ (32 ≤ sg j ∧ sg j ≤ 126)) ∧ gI SE 2 j = nI (sg j) ∧ gI SM 1 j = nI (sg j)
/-- the words of the language, letter by letter five bits -/
def kw (i : Nat) : Nat := [178323, 677454, 654624812, 66667, 269899955, 679790739, 20194516, 646192, 19162533, 24395141, 5969497, 201908, 769604, 2262675, 370116, 2098, 14836, 1476, 498, 638548, 464660, 409031, 20201044, 1451365].getD i 0
def KW (S : St) : Prop := ∀ i, i < 24 → gJ S 6 i = lN (kw i)
/-- all but marks and tape -/
def RF (F : Fm) (D : Dr) (pa pb L : Nat → Nat) (SE SM : St) : Prop := FW F ∧ DW F D ∧ PW F pa pb ∧ FE 21 F SE ∧ DE 30 D SE ∧ EZ F L SE ∧ FI F L SE ∧ MI F L D SE ∧ MF F D pa pb SM
def RR (SE SM : St) : Prop := ∃ (F : Fm) (D : Dr) (pa pb L : Nat → Nat) (t : Nat) (sg : Nat → Nat) (l : Nat → Bool) (mF : Nat → Fm) (mD : Nat → Dr) (ma mb : Nat → Nat → Nat),
  RF F D pa pb L SE SM ∧ B9 SM ∧ TPr t sg SE SM ∧ MKs l mF mD ma mb SE SM ∧ KW SE
theorem FI_fr {F : Fm} {L : Nat → Nat} {l : List Nat} {S S' : St} (hf : frX l S S') (hl : ∀ x, x ∈ l → 43 ≤ x ∧ x ≤ 46 → False) (H : FI F L S) : FI F L S' := by
  have n43 : 43 ∉ l := fun q => hl _ q (by omega)
  have n44 : 44 ∉ l := fun q => hl _ q (by omega)
  have n45 : 45 ∉ l := fun q => hl _ q (by omega)
  have n46 : 46 ∉ l := fun q => hl _ q (by omega)
  obtain ⟨h1, h2, h3, h4⟩ := H
  refine ⟨?_, ?_, ?_, ?_⟩
  · rw [frX_g hf 43 9 n43]
    exact h1.imp id (PR_fr (fun j => ⟨frX_g hf 45 j n45, frX_g hf 46 j n46⟩))
  · rw [frX_g hf 43 10 n43, frX_gJ hf 43 13 n43]; exact h2
  · rw [frX_g hf 43 11 n43, frX_g hf 43 12 n43]
    exact h3.imp id (fun ⟨a, b⟩ => ⟨a, fun A hA p hp => by rw [frX_g hf 44 _ n44]; exact b A hA p hp⟩)
  · rw [frX_g hf 43 14 n43]; exact h4
theorem MRes_fr {F : Fm} {L : Nat → Nat} {D : Dr} {l : List Nat} {S S' : St} (hf : frX l S S') (hl : ∀ x, x ∈ l → 50 ≤ x ∧ x ≤ 51 → False) (H : MRes F L D S) : MRes F L D S' := by
  have n50 : 50 ∉ l := fun q => hl _ q (by omega)
  have n51 : 51 ∉ l := fun q => hl _ q (by omega)
  unfold MRes at *
  rw [frX_g hf 50 9 n50]
  rcases H with h | ⟨h0, m, G, h1, h2, h3⟩
  · exact Or.inl h
  · exact Or.inr ⟨h0, m, G, h1, h2, fun e he => by rw [frX_g hf 51 e n51]; exact h3 e he⟩
theorem MI_fr {F : Fm} {L : Nat → Nat} {D : Dr} {l : List Nat} {S S' : St} (hf : frX l S S') (hl : ∀ x, x ∈ l → 50 ≤ x ∧ x ≤ 51 → False) (H : MI F L D S) : MI F L D S' := by
  unfold MI at *
  rw [frX_g hf 50 8 (fun q => hl _ q (by omega))]
  exact H.imp id (MRes_fr hf hl)
theorem TPr_E {t : Nat} {sg : Nat → Nat} {l : List Nat} {SE SE' SM : St} (hf : frX l SE SE') (hl : ∀ x, x ∈ l → 1 ≤ x ∧ x ≤ 2 → False) (H : TPr t sg SE SM) : TPr t sg SE' SM := by
  obtain ⟨h1, h2, h3, h4⟩ := H
  refine ⟨h1, ?_, h3, fun j hj => ⟨(h4 j hj).1, ?_, (h4 j hj).2.2⟩⟩
  · rw [frX_g hf 1 5 (fun q => hl _ q (by omega))]; exact h2
  · rw [frX_g hf 2 j (fun q => hl _ q (by omega))]; exact (h4 j hj).2.1
theorem TPr_M {t : Nat} {sg : Nat → Nat} {SE SM SM' : St} (h1' : gI SM' 0 1 = gI SM 0 1) (h2' : ∀ j, gI SM' 1 j = gI SM 1 j) (H : TPr t sg SE SM) : TPr t sg SE SM' := by
  obtain ⟨h1, h2, h3, h4⟩ := H
  exact ⟨h1, h2, by rw [h1']; exact h3, fun j hj => ⟨(h4 j hj).1, (h4 j hj).2.1, by rw [h2']; exact (h4 j hj).2.2⟩⟩
theorem MKs_E {l : Nat → Bool} {mF : Nat → Fm} {mD : Nat → Dr} {ma mb : Nat → Nat → Nat} {ls : List Nat} {SE SE' SM : St} (hf : frX ls SE SE') (hl : ∀ x, x ∈ ls → 64 ≤ x ∧ x ≤ 119 → False) (h : MKs l mF mD ma mb SE SM) : MKs l mF mD ma mb SE' SM := by
  intro m hm
  obtain ⟨a, b, c⟩ := h m hm
  refine ⟨by rw [frX_g hf _ 2 (fun q => hl _ q (by omega))]; exact a, b, fun hl' => ?_⟩
  obtain ⟨c1, c2, c3, c4, c5, c6⟩ := c hl'
  exact ⟨c1, c2, c3, FE_fr hf (fun k hk q => hl _ q (by omega)) c4, DEo_fr hf (fun k hk q => hl _ q (by omega)) c5, c6⟩
theorem KW_fr {l : List Nat} {S S' : St} (hf : frX l S S') (h6 : 6 ∉ l) (H : KW S) : KW S' := fun i hi => by rw [frX_gJ hf 6 i h6]; exact H i hi
theorem B9_fr {S S' : St} (hf : frM S S') (H : B9 S) : B9 S' := fun j hj => by rw [hf 9 j rfl]; exact H j hj
/-- calls that change neither form nor draft nor marks nor tape -/
theorem RR_fr {SE SM SE' SM' : St} {l : List Nat} (h : RR SE SM) (hE : frX l SE SE') (hl : ∀ x, x ∈ l → (3 ≤ x ∧ x ≤ 5) ∨ (7 ≤ x ∧ x ≤ 20) ∨ x = 41 ∨ x = 42 ∨ (56 ≤ x ∧ x ≤ 62) ∨ 120 ≤ x) (hM : frM SM SM') : RR SE' SM' := by
  obtain ⟨F, D, pa, pb, L, t, sg, ll, mF, mD, ma, mb, ⟨r1, r2, r3, r4, r5, r6, r7, r8, r9⟩, h2, h3, h4, h5⟩ := h
  have no : ∀ x, x ∈ l → ∀ a b, (a ≤ x ∧ x ≤ b) → ((3 ≤ x ∧ x ≤ 5) ∨ (7 ≤ x ∧ x ≤ 20) ∨ x = 41 ∨ x = 42 ∨ (56 ≤ x ∧ x ≤ 62) ∨ 120 ≤ x) := fun x hx _ _ _ => hl x hx
  refine ⟨F, D, pa, pb, L, t, sg, ll, mF, mD, ma, mb, ⟨r1, r2, r3, FE21_fr hE (fun x hx q => by have := hl x hx; omega) r4, DE_fr hE (fun x hx q => by have := hl x hx; omega) r5, EZ_fr hE (fun x hx q => by have := hl x hx; omega) r6, FI_fr hE (fun x hx q => by have := hl x hx; omega) r7, MI_fr hE (fun x hx q => by have := hl x hx; omega) r8, MF_fr r1 hM r9⟩, B9_fr hM h2, TPr_M (hM 0 1 rfl) (fun j => hM 1 j rfl) (TPr_E hE (fun x hx q => by have := hl x hx; omega) h3), MKs_M (MKs_E hE (fun x hx q => by have := hl x hx; omega) h4) hM, KW_fr hE (fun q => by have := hl 6 q; omega) h5⟩
/-- calls that the filler answers -/
theorem RR_fill {F : Fm} {D : Dr} {pa pb L : Nat → Nat} {t : Nat} {sg : Nat → Nat} {ll : Nat → Bool} {mF : Nat → Fm} {mD : Nat → Dr} {ma mb : Nat → Nat → Nat} {SE SM SE' SM' : St} (hr : RF F D pa pb L SE SM) (h2 : B9 SM) (h3 : TPr t sg SE SM) (h4 : MKs ll mF mD ma mb SE SM) (h5 : KW SE) (hE : frX fcl SE SE') (hI : FI F L SE') (hM : frM SM SM') : RR SE' SM' := by
  obtain ⟨r1, r2, r3, r4, r5, r6, r7, r8, r9⟩ := hr
  exact ⟨F, D, pa, pb, L, t, sg, ll, mF, mD, ma, mb, ⟨r1, r2, r3, FE21_fr hE (by simp) r4, DE_fr hE (by simp) r5, EZ_fr hE (by simp) r6, hI, MI_fr hE (by simp) r8, MF_fr r1 hM r9⟩, B9_fr hM h2, TPr_M (hM 0 1 rfl) (fun j => hM 1 j rfl) (TPr_E hE (by simp) h3), MKs_M (MKs_E hE (by simp) h4) hM, KW_fr hE (by simp) h5⟩
theorem RR_mend {F : Fm} {D : Dr} {pa pb L : Nat → Nat} {t : Nat} {sg : Nat → Nat} {ll : Nat → Bool} {mF : Nat → Fm} {mD : Nat → Dr} {ma mb : Nat → Nat → Nat} {SE SM SE' SM' : St} (hr : RF F D pa pb L SE SM) (h2 : B9 SM) (h3 : TPr t sg SE SM) (h4 : MKs ll mF mD ma mb SE SM) (h5 : KW SE) (hE : frX mcl SE SE') (hI : MI F L D SE') (hM : frM SM SM') : RR SE' SM' := by
  obtain ⟨r1, r2, r3, r4, r5, r6, r7, r8, r9⟩ := hr
  exact ⟨F, D, pa, pb, L, t, sg, ll, mF, mD, ma, mb, ⟨r1, r2, r3, FE21_fr hE (by simp) r4, DE_fr hE (by simp) r5, EZ_fr hE (by simp) r6, FI_fr hE (by simp) r7, hI, MF_fr r1 hM r9⟩, B9_fr hM h2, TPr_M (hM 0 1 rfl) (fun j => hM 1 j rfl) (TPr_E hE (by simp) h3), MKs_M (MKs_E hE (by simp) h4) hM, KW_fr hE (by simp) h5⟩
/-- form and draft are others now: the stanzas are made anew, nothing is kept -/
theorem e_formChanged {F : Fm} {S : St} {Q : St → Prop} (hF : FW F) (hE : FE 21 F S) (hQ : ∀ S' L, frX [34, 35, 36, 37, 38, 39, 40, 41, 42, 43, 50] S S' → FE 21 F S' → EZ F L S' → FI F L S' → (∀ D, MI F L D S') → Q S') : w_X11_formChanged S Q := by
  refine e_stanzas hF hE ?_
  intro S1 L h1 h2 S2 hS2 S3 hS3 S4 hS4 S5 hS5 S6 hS6
  have hf : frX [34, 35, 36, 37, 38, 39, 40, 41, 42, 43, 50] S1 S6 := by rw [hS6, hS5, hS4, hS3, hS2]; exact frX_sI (frX_sI (frX_sI (frX_sI (frX_sI (frX_refl _ _) (by simp)) (by simp)) (by simp)) (by simp)) (by simp)
  have hf2 : frX [43, 50] S1 S6 := by rw [hS6, hS5, hS4, hS3, hS2]; exact frX_sI (frX_sI (frX_sI (frX_sI (frX_sI (frX_refl _ _) (by simp)) (by simp)) (by simp)) (by simp)) (by simp)
  have hfS : frX [34, 35, 36, 37, 38, 39, 40, 41, 42, 43, 50] S S6 := frX_trans (frX_sub h1 (by simp)) hf
  have z : ∀ j, (j = 9 ∨ j = 10 ∨ j = 11 ∨ j = 14) → gI S6 43 j = 0 := by
    intro j hj
    rw [hS6, hS5, hS4, hS3, hS2]
    rcases hj with rfl | rfl | rfl | rfl <;> simp [gI_sI]
  refine hQ S6 L hfS (FE21_fr hfS (by simp) hE) (EZ_fr hf2 (by simp) h2) ⟨Or.inl (z 9 (by omega)), Or.inl (z 10 (by omega)), Or.inl (z 11 (by omega)), Or.inl (z 14 (by omega))⟩ (fun D => Or.inl ?_)
  rw [hS6, gI_sI, if_pos ⟨rfl, rfl⟩]
theorem m_lay {m : Nat} {S : St} {Q : Int32 → St → Prop} (hm : m < 4) (h9 : B9 S) (hQ : ∀ S', (∀ b j, ¬ (b = 0 ∧ j = 73) → ¬ (b = 45 ∧ j = m) → ¬ (b = 46 ∧ 500 * m ≤ j ∧ j < 500 * m + 500) → gI S' b j = gI S b j) → gI S' 45 m = 1 → (∀ i, i < 408 → gI S' 46 (500 * m + i) = vw S i) → Q 1 S') : w_X12_mark_29 (nI m) 0 Q S := by
  have i1 : (500 : Int32) * nI m = nI (500 * m) := by rw [← pk_mul]; rfl
  unfold w_X12_mark_29
  refine ⟨vp_in_nI hm (by omega), fun S1 hS1 S0 hS0 => ?_⟩
  rw [nI_clamp (by omega)] at hS1
  rw [i1] at hS0
  have hS0o : ∀ b j, ¬ (b = 0 ∧ j = 73) → ¬ (b = 45 ∧ j = m) → gI S0 b j = gI S b j := fun b j a c => by rw [hS0, gI_sI, if_neg a, hS1, gI_sI, if_neg c]
  have h0 : LY m S0 0 S0 := ⟨by rw [hS0, gI_sI, if_pos ⟨rfl, rfl⟩]; rfl, fun i hi => absurd hi (Nat.not_lt_zero _), fun _ _ _ _ => rfl⟩
  have vw0 : ∀ i, i < 408 → vw S0 i = vw S i := fun i hi => by
    have := vcx_ne i hi
    unfold vw
    refine hS0o _ _ this.1 (fun q => ?_)
    have h2 := vc_kM i hi
    have h3 : (vc i).1 = 45 := q.1
    have h4 := cv_vc i hi
    revert h3
    have key : ∀ i, i < 408 → (vc i).1 ≠ 45 := by decide +kernel
    exact key i hi
  have b9 : ∀ j, j < 144 → gI S0 9 j = 0 ∨ gI S0 9 j = 1 := fun j hj => by rw [hS0o 9 j (by omega) (by omega)]; exact h9 j hj
  refine m_layS (k := 0) (c := 10) hm (by omega) rfl (by omega) h0 (fun A1 a1 => ?_)
  refine m_layS (k := 1) (c := 12) hm (by omega) rfl (by omega) a1 (fun A2 a2 => ?_)
  refine m_layR (k := 2) (n := 12) (b := 2) hm (by omega) (by decide) (by decide) (by decide) (by decide) (fun j hj => vc_2 hj) a2 (fun A3 a3 => ?_)
  refine m_layR (k := 14) (n := 12) (b := 5) hm (by omega) (by decide) (by decide) (by decide) (by decide) (fun j hj => vc_14 hj) a3 (fun A4 a4 => ?_)
  refine m_layR (k := 26) (n := 8) (b := 3) hm (by omega) (by decide) (by decide) (by decide) (by decide) (fun j hj => vc_26 hj) a4 (fun A5 a5 => ?_)
  refine m_layR (k := 34) (n := 8) (b := 4) hm (by omega) (by decide) (by decide) (by decide) (by decide) (fun j hj => vc_34 hj) a5 (fun A6 a6 => ?_)
  refine m_layS (k := 42) (c := 11) hm (by omega) rfl (by omega) a6 (fun A7 a7 => ?_)
  refine m_layS (k := 43) (c := 13) hm (by omega) rfl (by omega) a7 (fun A8 a8 => ?_)
  refine m_layS (k := 44) (c := 14) hm (by omega) rfl (by omega) a8 (fun A9 a9 => ?_)
  refine m_layS (k := 45) (c := 15) hm (by omega) rfl (by omega) a9 (fun A10 a10 => ?_)
  refine m_layS (k := 46) (c := 16) hm (by omega) rfl (by omega) a10 (fun A11 a11 => ?_)
  refine m_layS (k := 47) (c := 65) hm (by omega) rfl (by omega) a11 (fun A12 a12 => ?_)
  refine m_layR (k := 48) (n := 12) (b := 6) hm (by omega) (by decide) (by decide) (by decide) (by decide) (fun j hj => vc_48 hj) a12 (fun A13 a13 => ?_)
  refine m_layR (k := 60) (n := 12) (b := 7) hm (by omega) (by decide) (by decide) (by decide) (by decide) (fun j hj => vc_60 hj) a13 (fun A14 a14 => ?_)
  refine m_layR (k := 72) (n := 12) (b := 8) hm (by omega) (by decide) (by decide) (by decide) (by decide) (fun j hj => vc_72 hj) a14 (fun A15 a15 => ?_)
  refine m_layR (k := 84) (n := 60) (b := 41) hm (by omega) (by decide) (by decide) (by decide) (by decide) (fun j hj => vc_84 hj) a15 (fun A16 a16 => ?_)
  refine m_layR (k := 144) (n := 60) (b := 42) hm (by omega) (by decide) (by decide) (by decide) (by decide) (fun j hj => vc_144 hj) a16 (fun A17 a17 => ?_)
  refine m_layR (k := 204) (n := 60) (b := 43) hm (by omega) (by decide) (by decide) (by decide) (by decide) (fun j hj => vc_204 hj) a17 (fun A18 a18 => ?_)
  refine up1 (B := b_X12_mark_261 0 Q) 144 (by omega) (fun j S' => LY m S0 (264 + j) S') ?_ ?_ 0 (by omega) a18
  · rintro kk j S' hj h' hkk
    unfold b_X12_mark_261
    have hv : vp_in (nI j) 144 := vp_in_nI hj (by omega)
    have e9 : gI S' 9 j = gI S0 9 j := h'.2.2 9 j (by omega) (by omega)
    rw [if_neg (show ¬ (144 : Int32) ≤ nI j from nI_ge (b := 144) hj (by omega)), nI_clamp (by omega), e9]
    refine ⟨hv, ?_⟩
    have fin : ∀ tt : Int32, (tt = 0 ∨ tt = 1) → tt = gI S0 9 j → w_X12_mark_288 0 kk (nI j) tt (nI j) S' := by
      intro tt h01 htt
      have hvw : tt = vwl S0 (264 + j) := by
        unfold vwl vw
        rw [if_neg (by omega), vc_264, htt]
        rcases b9 j hj with q | q
        · rw [q]; rfl
        · rw [q]; rfl
      refine m_keepL hm (by omega) h' hvw ?_
      intro S1' h1
      have go : w_X12_mark_301 0 kk (nI j) tt (nI j) S1' := by
        refine ⟨hv, h01, fun S2 hS2 x hx => ?_⟩
        rw [nI_clamp (by omega)] at hS2
        refine hkk _ _ hx ⟨?_, fun i hi => ?_, fun b' j' a d => ?_⟩
        · rw [hS2, gI_sI, if_neg (by omega)]; exact h1.1
        · rw [hS2, gI_sI, if_neg (by omega)]; exact h1.2.1 i hi
        · rw [hS2, gI_sI]
          by_cases e : b' = 9 ∧ j' = j
          · obtain ⟨rfl, rfl⟩ := e
            rw [if_pos ⟨rfl, rfl⟩]; exact htt
          · rw [if_neg e]; exact h1.2.2 b' j' a d
      rcases h01 with q | q
      · rw [q] at go ⊢
        rw [if_neg (by decide)]; exact go
      · rw [q] at go ⊢
        rw [if_pos rfl]; exact go
    rcases b9 j hj with q | q
    · rw [if_pos q]; exact fin 0 (Or.inl rfl) q.symm
    · rw [if_neg (by rw [q]; decide)]; exact fin 1 (Or.inr rfl) q.symm
  · rintro kk S' h'
    unfold b_X12_mark_261
    rw [if_pos (show (144 : Int32) ≤ nI 144 from nI_le (a := 144) (Nat.le_refl _) (by omega))]
    refine hQ S' (fun b j a c d => by rw [h'.2.2 b j a d]; exact hS0o b j a c) ?_ (fun i hi => ?_)
    · rw [h'.2.2 45 m (by omega) (by omega), hS0, gI_sI, if_neg (by omega), hS1, gI_sI, if_pos ⟨rfl, rfl⟩]
    · rw [h'.2.1 i (by omega), ← vw0 i hi]
      unfold vwl
      by_cases e : i < 264
      · rw [if_pos e]
      · rw [if_neg e]
        have hb : vw S0 i = gI S0 9 (i - 264) := by
          unfold vw
          rw [show i = 264 + (i - 264) by omega, vc_264]
          simp
        rw [hb]
        rcases b9 (i - 264) (by omega) with q | q
        · rw [q]; rfl
        · rw [q]; rfl
theorem m_back {m : Nat} {S : St} {Q : Int32 → St → Prop} (hm : m < 4) (hl : gI S 45 m = 1) (hQ : ∀ S', (∀ b j, (b = 1 ∨ b = 45 ∨ b = 46 ∨ (b = 0 ∧ j = 1)) → gI S' b j = gI S b j) → (∀ i, i < 408 → vw S' i = if i < 264 then gI S 46 (500 * m + i) else if gI S 46 (500 * m + i) = 1 then 1 else 0) → Q 1 S') : w_X12_mark_29 (nI m) 1 Q S := by
  have i1 : (500 : Int32) * nI m = nI (500 * m) := by rw [← pk_mul]; rfl
  unfold w_X12_mark_29
  refine ⟨vp_in_nI hm (by omega), fun S1 hS1 S0 hS0 => ?_⟩
  rw [nI_clamp (by omega)] at hS1
  rw [i1] at hS0
  have hS0o : ∀ b j, ¬ (b = 0 ∧ j = 73) → gI S0 b j = gI S b j := fun b j a => by
    rw [hS0, gI_sI, if_neg a, hS1, gI_sI]
    by_cases c : b = 45 ∧ j = m
    · rw [if_pos c, c.1, c.2, hl]
    · rw [if_neg c]
  have h0 : BK m S0 0 S0 := ⟨by rw [hS0, gI_sI, if_pos ⟨rfl, rfl⟩]; rfl, fun i hi => absurd hi (Nat.not_lt_zero _), fun _ _ _ _ => rfl⟩
  refine m_backS (k := 0) (c := 10) hm (by omega) rfl h0 (fun A1 a1 => ?_)
  refine m_backS (k := 1) (c := 12) hm (by omega) rfl a1 (fun A2 a2 => ?_)
  refine m_backR (k := 2) (n := 12) (b := 2) hm (by omega) (by decide) (by decide) (fun j hj => vc_2 hj) a2 (fun A3 a3 => ?_)
  refine m_backR (k := 14) (n := 12) (b := 5) hm (by omega) (by decide) (by decide) (fun j hj => vc_14 hj) a3 (fun A4 a4 => ?_)
  refine m_backR (k := 26) (n := 8) (b := 3) hm (by omega) (by decide) (by decide) (fun j hj => vc_26 hj) a4 (fun A5 a5 => ?_)
  refine m_backR (k := 34) (n := 8) (b := 4) hm (by omega) (by decide) (by decide) (fun j hj => vc_34 hj) a5 (fun A6 a6 => ?_)
  refine m_backS (k := 42) (c := 11) hm (by omega) rfl a6 (fun A7 a7 => ?_)
  refine m_backS (k := 43) (c := 13) hm (by omega) rfl a7 (fun A8 a8 => ?_)
  refine m_backS (k := 44) (c := 14) hm (by omega) rfl a8 (fun A9 a9 => ?_)
  refine m_backS (k := 45) (c := 15) hm (by omega) rfl a9 (fun A10 a10 => ?_)
  refine m_backS (k := 46) (c := 16) hm (by omega) rfl a10 (fun A11 a11 => ?_)
  refine m_backS (k := 47) (c := 65) hm (by omega) rfl a11 (fun A12 a12 => ?_)
  refine m_backR (k := 48) (n := 12) (b := 6) hm (by omega) (by decide) (by decide) (fun j hj => vc_48 hj) a12 (fun A13 a13 => ?_)
  refine m_backR (k := 60) (n := 12) (b := 7) hm (by omega) (by decide) (by decide) (fun j hj => vc_60 hj) a13 (fun A14 a14 => ?_)
  refine m_backR (k := 72) (n := 12) (b := 8) hm (by omega) (by decide) (by decide) (fun j hj => vc_72 hj) a14 (fun A15 a15 => ?_)
  refine m_backR (k := 84) (n := 60) (b := 41) hm (by omega) (by decide) (by decide) (fun j hj => vc_84 hj) a15 (fun A16 a16 => ?_)
  refine m_backR (k := 144) (n := 60) (b := 42) hm (by omega) (by decide) (by decide) (fun j hj => vc_144 hj) a16 (fun A17 a17 => ?_)
  refine m_backR (k := 204) (n := 60) (b := 43) hm (by omega) (by decide) (by decide) (fun j hj => vc_204 hj) a17 (fun A18 a18 => ?_)
  refine up1 (B := b_X12_mark_261 1 Q) 144 (by omega) (fun j S' => BK m S0 (264 + j) S') ?_ ?_ 0 (by omega) a18
  · rintro kk j S' hj h' hkk
    unfold b_X12_mark_261
    have hv : vp_in (nI j) 144 := vp_in_nI hj (by omega)
    rw [if_neg (show ¬ (144 : Int32) ≤ nI j from nI_ge (b := 144) hj (by omega)), nI_clamp (by omega)]
    refine ⟨hv, ?_⟩
    have fin : ∀ tt : Int32, w_X12_mark_288 1 kk (nI j) tt (nI j) S' := by
      intro tt
      refine m_keepB (k := 264 + j) hm (by omega) h' ?_
      intro S1' h73 ho
      have go : ∀ u : Int32, (u = 0 ∨ u = 1) → u = (if gI S0 46 (500 * m + (264 + j)) = 1 then 1 else 0) → w_X12_mark_301 1 kk (nI j) u (nI j) S1' := by
        intro u h01 hu
        refine ⟨hv, h01, fun S2 hS2 x hx => ?_⟩
        rw [nI_clamp (by omega)] at hS2
        exact hkk _ _ hx (BK_set (k := 264 + j) (by omega) (vc_264 j) h' h73 ho hS2 (by rw [if_neg (by omega)]; exact hu))
      by_cases c : gI S0 46 (500 * m + (264 + j)) = 1
      · rw [if_pos c]; exact go 1 (Or.inr rfl) (by rw [if_pos c])
      · rw [if_neg c]; exact go 0 (Or.inl rfl) (by rw [if_neg c])
    by_cases c : gI S' 9 j = 0
    · rw [if_pos c]; exact fin 0
    · rw [if_neg c]; exact fin 1
  · rintro kk S' h'
    unfold b_X12_mark_261
    rw [if_pos (show (144 : Int32) ≤ nI 144 from nI_le (a := 144) (Nat.le_refl _) (by omega))]
    have keyc : ∀ i, i < 408 → ∀ b j, (b = 1 ∨ b = 45 ∨ b = 46 ∨ (b = 0 ∧ j = 1)) → vc i ≠ (b, j) := by
      intro i hi b j hb q
      have key : ∀ i, i < 408 → (vc i).1 ≠ 1 ∧ (vc i).1 ≠ 45 ∧ (vc i).1 ≠ 46 ∧ ¬ ((vc i).1 = 0 ∧ (vc i).2 = 1) := by decide +kernel
      obtain ⟨k1, k2, k3, k4⟩ := key i hi
      rw [q] at k1 k2 k3 k4
      rcases hb with z | z | z | z
      · exact k1 z
      · exact k2 z
      · exact k3 z
      · exact k4 z
    refine hQ S' (fun b j hb => ?_) (fun i hi => ?_)
    · rw [h'.2.2 b j (by omega) (fun i hi => keyc i (by omega) b j hb)]
      exact hS0o b j (by omega)
    · rw [h'.2.1 i (by omega), hS0o 46 _ (by omega)]
