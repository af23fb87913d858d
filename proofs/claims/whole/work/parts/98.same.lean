/-! ===== pure: the namer's search; same and renamed agree ===== -/
theorem okO_isE4 {m : Nat} (h : isE5 m) : okO (m + 1) ∧ isE4 (m + 1) := ⟨by rcases h with rfl | rfl | rfl | rfl <;> simp [okO], iE5_0 h⟩
theorem e_namesFrom {F H : Fm} {o : Nat} (ho : okO o) (h4 : isE4 o) (hF : FW F) (hH : FW H) (hn0 : H 0 0 = F 0 0) :
    ∀ (k p d T : Nat) (N : Nat → Option Nat) (S : St) (Q : Int32 → St → Prop), p + k = F 0 0 → k < d → NS F H o S → (∀ q, q < F 0 0 → gI S 57 q = gN (N q)) → gI S 56 7 = nI T → PQ F H N → CLo F H N → TT F N T → (∀ q, q < p → N q ≠ none) →
      (∀ S' σ, frN S S' → RnL F H (ext F N) σ → (∀ q, q < F 0 0 → gI S' 57 q = nI (σ q)) → Q 1 S') →
      (∀ S', frN S S' → (∀ q, q < F 0 0 → gI S' 57 q = gN (N q)) → gI S' 56 7 = nI T → (∀ τ, Ren F H τ → ¬ ext F N τ) → Q 0 S') →
      w_X7_namesFrom d (nI p) S Q := by
  have hn := hF.1.2.1
  have hf := hF.2.1
  intro k
  induction k with
  | zero =>
    intro p d T N S Q hpk hd hS hN hTs hPQ hC hT hlow h1 h0
    obtain ⟨d, rfl⟩ : ∃ d', d = d' + 1 := ⟨d - 1, by omega⟩
    show u_X7_namesFrom (w_X7_namesFrom d) _ S Q
    unfold u_X7_namesFrom
    rw [if_neg (nI_pos (by omega)), hS.1.1 0 (by omega), if_pos (nI_le (by omega) (by omega))]
    have hall : ∀ q, q < F 0 0 → N q = some ((N q).getD 0) := by
      intro q hq
      cases c : N q with
      | none => exact absurd c (hlow q (by omega))
      | some y => rfl
    refine h1 S (fun q => (N q).getD 0) (frN_refl S) ⟨⟨fun q hq => ?_, fun q r hq hr e => ?_, fun q hq => ?_, fun q hq => ?_, fun q r hq hr => ?_⟩, fun q hq y hy => ?_, fun τ hτ he k hk _ => ?_⟩ (fun q hq => ?_)
    · exact (hPQ q hq _ (hall q hq)).1
    · refine Classical.byContradiction fun c => ?_
      exact ((hPQ q hq _ (hall q hq)).2.2 r hr _ (hall r hr)).1 c e
    · exact (hPQ q hq _ (hall q hq)).2.1
    · have := hC q hq _ (hall q hq)
      show (N (F 1 q)).getD 0 = _
      rw [this]; rfl
    · exact ((hPQ q hq _ (hall q hq)).2.2 r hr _ (hall r hr)).2
    · show (N q).getD 0 = y
      rw [hy]; rfl
    · rw [he k hk _ (hall k hk)]; exact Nat.le_refl _
    · rw [hN q hq, hall q hq]; rfl
  | succ k ih =>
    intro p d T N S Q hpk hd hS hN hTs hPQ hC hT hlow h1 h0
    obtain ⟨d, rfl⟩ : ∃ d', d = d' + 1 := ⟨d - 1, by omega⟩
    have hp : p < F 0 0 := by omega
    show u_X7_namesFrom (w_X7_namesFrom d) _ S Q
    unfold u_X7_namesFrom
    rw [if_neg (nI_pos (by omega)), hS.1.1 0 (by omega), if_neg (nI_ge hp (by omega)), if_pos (show nI p < (12 : Int32) from nI_lt (b := 12) (by omega) (by omega))]
    refine e_cell (by show p < 12; omega) (by decide) ?_
    rw [hN p hp]
    refine gN_m1 (fun y hy => by have := (hPQ p hp y hy).1; omega) (fun c => ?_) (fun y c => ?_)
    · -- its names in turn
      refine up1 (B := b_X7_namesFrom_45 (nI p) (w_X7_namesFrom d) Q) (F 0 0) (by omega) (fun x S' => frN S S' ∧ (∀ q, q < F 0 0 → gI S' 57 q = gN (N q)) ∧ gI S' 56 7 = nI T ∧ ∀ τ, Ren F H τ → ext F N τ → x ≤ τ p) ?_ ?_ 0 (by omega) ⟨frN_refl S, hN, hTs, fun _ _ _ => Nat.zero_le _⟩
      · rintro kk x S' hx ⟨hfr, i57, i56, imin⟩ hkk
        unfold b_X7_namesFrom_45
        have hS' := NS_fr ho hfr hS
        refine ⟨o, hS'.2.2.2, h4, ?_⟩
        rw [hS'.2.1.1 0 (by omega), hn0, if_neg (nI_ge hx (by omega)), i56]
        have hTl := hT.1
        have no : (∀ τ, Ren F H τ → ext F N τ → τ p ≠ x) → ∀ S2, frN S S2 → (∀ q, q < F 0 0 → gI S2 57 q = gN (N q)) → gI S2 56 7 = nI T → ∀ y, y = nI x + 1 → kk y S2 := by
          intro h S2 a b d y hy
          refine hkk _ _ hy ⟨a, b, d, fun τ hτ he => ?_⟩
          have := imin τ hτ he
          have := h τ hτ he
          omega
        refine bN_if (by omega) (by omega) (fun ct => ?_) (fun ct => ?_)
        · unfold w_X7_namesWith
          refine e_givesCycle ho h4 hF hH hn0 hS' i57 i56 hPQ hC hT hp hx c ?_ ?_
          · intro S2 N' T' a1 a2 a3 a4 a5 a6 a7 a8 a9 a10 a11 a12 a13
            rw [if_neg (by decide), nI_1]
            have hS2 := NS_fr ho a1 hS'
            refine ih (p + 1) d T' N' S2 _ (by omega) (by omega) hS2 a2 a3 a4 a5 a6 (fun q hq => ?_) ?_ ?_
            · by_cases e : q = p
              · subst e; rw [a7]; simp
              · rw [a8 q (by omega) (hlow q (by omega))]; exact hlow q (by omega)
            · intro S3 σ b1 b2 b3
              rw [if_neg (by decide)]
              dsimp only
              rw [if_neg (by decide)]
              obtain ⟨r1, r2, r3⟩ := b2
              obtain ⟨s1, s2⟩ := a10 σ r2
              refine h1 S3 σ (frN_trans hfr (frN_trans a1 b1)) ⟨r1, s1, fun τ hτ he kx hkx hag => ?_⟩ b3
              by_cases e : τ p = x
              · exact r3 τ hτ (a9 τ hτ he e) kx hkx hag
              · rcases Nat.lt_trichotomy kx p with z | z | z
                · cases cz : N kx with
                  | none => exact absurd cz (hlow kx z)
                  | some y => rw [s1 kx hkx y cz, he kx hkx y cz]; exact Nat.le_refl _
                · subst z; rw [s2]; exact imin τ hτ he
                · exact absurd ((hag p z).trans s2) e
            · intro S3 b1 b2 b3 b4
              rw [if_pos rfl]
              refine e_takeCycleBack (i := cyc (F 0 0) (F 1) p) ho hF hH hn0 (NS_fr ho b1 hS2) hC hT hp hx c (Nat.le_refl _) (by rw [← a11]; exact b2) (by rw [← a12]; exact b3) a13 ?_
              intro S4 d1 d2 d3
              dsimp only
              rw [if_pos rfl]
              exact no (fun τ hτ he e => b4 τ hτ (a9 τ hτ he e)) S4 (frN_trans hfr (frN_trans a1 (frN_trans b1 d1))) d2 d3
          · intro S2 i a1 a2 a3 a4 a5 a6
            rw [if_pos rfl]
            refine e_takeCycleBack (i := i) ho hF hH hn0 (NS_fr ho a1 hS') hC hT hp hx c a2 a3 a4 a5 ?_
            intro S3 d1 d2 d3
            dsimp only
            rw [if_pos rfl]
            exact no a6 S3 (frN_trans hfr (frN_trans a1 d1)) d2 d3
        · refine no (fun τ hτ he e => ?_) S' hfr i57 i56
          obtain ⟨q, hq, hqe⟩ := (hT.2 x).mp ct
          have h2 := he q hq x hqe
          have := hτ.2.1 q p hq hp (by rw [h2, e])
          rw [this, c] at hqe
          cases hqe
      · rintro kk S' ⟨hfr, i57, i56, imin⟩
        unfold b_X7_namesFrom_45
        have hS' := NS_fr ho hfr hS
        refine ⟨o, hS'.2.2.2, h4, ?_⟩
        rw [hS'.2.1.1 0 (by omega), hn0, if_pos (nI_le (Nat.le_refl _) (by omega))]
        refine h0 S' hfr i57 i56 (fun τ hτ he => ?_)
        have a1 := imin τ hτ he
        have a2 := hτ.1 p hp
        omega
    · rw [nI_1]
      refine ih (p + 1) d T N S _ (by omega) (by omega) hS hN hTs hPQ hC hT (fun q hq => ?_) (fun S' σ a b d => ⟨Or.inr rfl, h1 S' σ a b d⟩) (fun S' a b d e => ⟨Or.inl rfl, h0 S' a b d e⟩)
      by_cases e : q = p
      · subst e; rw [c]; simp
      · exact hlow q (by omega)
abbrev ncl : List Nat := [56, 57, 58, 59, 60, 61, 62]
theorem frX_sR {l : List Nat} {S T : St} {a k : Nat} {v : Option Nat} (h : frX l S T) (ha : a ∈ l) : frX l S (sR T a k v) := fun b e j => by
  refine ⟨(h b e j).1, (h b e j).2.1, ?_⟩
  rw [gR_sR, if_neg (fun q => e (by rw [q.1]; exact ha))]; exact (h b e j).2.2
theorem e_finds {F H : Fm} {m : Nat} {S : St} {Q : Int32 → St → Prop} (hm : isE5 m) (hF : FW F) (hH : FW H) (hE : FE 21 F S) (hEH : FE (m + 1) H S)
    (h1 : ∀ S' σ, frX ncl S S' → H 0 0 = F 0 0 → RnL F H (fun _ => True) σ → (∀ q, q < F 0 0 → gI S' 57 q = nI (σ q)) → Q 1 S')
    (h0 : ∀ S', frX ncl S S' → (H 0 0 = F 0 0 → ∀ σ, ¬ Ren F H σ) → Q 0 S') : w_X7_finds (m + 1) S Q := by
  have hn := hF.1.2.1
  have hnH := hH.1.2.1
  obtain ⟨ho, h4⟩ := okO_isE4 hm
  have hsub : ∀ x, x ∈ ncl → 56 ≤ x ∧ x ≤ 62 := fun x hx => by simp at hx; omega
  intro S1 hS1
  have hf1 : frX ncl S S1 := by rw [hS1]; exact frX_sR (frX_refl _ _) (by decide)
  have g1 : gR S1 56 6 = some (m + 1) := by rw [hS1, gR_sR, if_pos ⟨rfl, rfl⟩]
  have hE1 := FEo_fr (Or.inl rfl) hf1 hsub hE
  have hEH1 := FEo_fr ho hf1 hsub hEH
  refine ⟨m + 1, g1, h4, ?_⟩
  rw [hE1.1 0 (by omega), hEH1.1 0 (by omega)]
  refine nI_ifEq (by omega) (by omega) (fun c => ?_) (fun c => h0 S1 hf1 (fun q => absurd q.symm c))
  have hn0 : H 0 0 = F 0 0 := c.symm
  refine e_tint (Or.inl rfl) (Or.inl rfl) hF hE1 ?_
  intro S2 hf2 t58
  have g2 : gR S2 56 6 = some (m + 1) := by rw [frX_gR hf2 56 6 (by decide)]; exact g1
  have hf2' : frX ncl S S2 := frX_trans hf1 (frX_sub hf2 (by simp))
  refine ⟨m + 1, g2, h4, ?_⟩
  refine e_tint ho (Or.inr rfl) hH (FEo_fr ho hf2' hsub hEH) ?_
  intro S3 hf3 t59
  have g3 : gR S3 56 6 = some (m + 1) := by rw [frX_gR hf3 56 6 (by decide)]; exact g2
  have hf3' : frX ncl S S3 := frX_trans hf2' (frX_sub hf3 (by simp))
  rw [hn0] at t59
  have tt : ∀ p, p < F 0 0 → gI S3 58 p = tn F (F 0 0) p ∧ gI S3 59 p = tn H (F 0 0) p := fun p hp => ⟨by rw [frX_g hf3 58 p (by decide)]; exact t58 p hp, t59 p hp⟩
  have hE3 := FEo_fr (Or.inl rfl) hf3' hsub hE
  refine e_haveSame hF hn0 hE3 tt ?_ (fun hno => by rw [if_pos rfl]; exact h0 S3 hf3' (fun _ => hno))
  rw [if_neg (by decide)]
  intro S4 hS4
  refine e_blank (by decide) ?_
  have hNS : NS F H (m + 1) (setRow S4 57 (lnE 57) (fun _ => -1)) := by
    have hf4 : frN S3 (setRow S4 57 (lnE 57) (fun _ => -1)) := by rw [hS4]; exact ⟨frX_row (frX_sI (frX_refl _ _) (by decide)) (by decide), rfl⟩
    exact NS_fr ho hf4 ⟨hE3, FEo_fr ho hf3' hsub hEH, tt, g3⟩
  have hf5 : frX ncl S (setRow S4 57 (lnE 57) (fun _ => -1)) := by rw [hS4]; exact frX_row (frX_sI hf3' (by decide)) (by decide)
  have e57 : ∀ q, q < F 0 0 → gI (setRow S4 57 (lnE 57) (fun _ => -1)) 57 q = gN ((fun _ => none : Nat → Option Nat) q) := fun q hq => by rw [gI_setRow, if_pos ⟨rfl, by show q < 12; omega⟩]; rfl
  have e56 : gI (setRow S4 57 (lnE 57) (fun _ => -1)) 56 7 = nI 0 := by rw [gI_setRow, if_neg (by omega), hS4, gI_sI, if_pos ⟨rfl, rfl⟩]; rfl
  refine ⟨13, by omega, ?_⟩
  refine e_namesFrom ho h4 hF hH hn0 (F 0 0) 0 13 0 (fun _ => none) _ _ (by omega) (by omega) hNS e57 e56 (fun p _ y hy => by cases hy) (fun p _ y hy => by cases hy) ⟨by omega, fun x => ?_⟩ (fun q hq => absurd hq (Nat.not_lt_zero _)) ?_ ?_
  · rw [Nat.zero_testBit]
    exact ⟨fun h => (by cases h), fun ⟨p, _, h⟩ => (by cases h)⟩
  · intro S6 σ a1 a2 a3
    refine ⟨Or.inr rfl, h1 S6 σ (frX_trans hf5 (frX_sub a1.1 (by simp))) hn0 ⟨a2.1, trivial, fun τ hτ _ => a2.2.2 τ hτ (fun q _ y hy => by cases hy)⟩ a3⟩
  · intro S6 a1 _ _ a4
    exact ⟨Or.inl rfl, h0 S6 (frX_trans hf5 (frX_sub a1.1 (by simp))) (fun _ σ hσ => a4 σ hσ (fun q _ y hy => by cases hy))⟩
/-- what a mark holds, in both -/
def MKs (l : Nat → Bool) (mF : Nat → Fm) (mD : Nat → Dr) (ma mb : Nat → Nat → Nat) (SE SM : St) : Prop := ∀ m, m < 4 →
  gI SE (64 + 14 * m) 2 = (if l m then 1 else 0) ∧ gI SM 45 m = (if l m then 1 else 0) ∧ (l m = true → FW (mF m) ∧ DW (mF m) (mD m) ∧ PW (mF m) (ma m) (mb m) ∧ FE (64 + 14 * m + 1) (mF m) SE ∧ DE (64 + 14 * m + 10) (mD m) SE ∧ MV (mF m) (mD m) (ma m) (mb m) (fun k => gI SM 46 (500 * m + k)))
theorem isE5_m {m : Nat} (h : m < 4) : isE5 (64 + 14 * m) := by
  have : m = 0 ∨ m = 1 ∨ m = 2 ∨ m = 3 := by omega
  rcases this with rfl | rfl | rfl | rfl
  · exact isE5_64
  · exact isE5_78
  · exact isE5_92
  · exact isE5_106
theorem e_markAt {S : St} {x : Int32} {Q : Option Nat → St → Prop} (hR : RCE S) (h0 : (x < 0 ∨ (3 : Int32) < x) → Q none S) (h1 : ∀ m, m < 4 → x = nI m → Q (some (64 + 14 * m)) S) : w_X11_markAt x S Q := by
  unfold w_X11_markAt
  by_cases a : x < 0
  · rw [if_pos a]; exact h0 (Or.inl a)
  · rw [if_neg a]
    rcases pk_ix x (n := 4) (by omega) with c | c | ⟨m, hm, e⟩
    · exact absurd c a
    · rw [if_pos (show (4 : Int32) ≤ x from c)]
      refine h0 (Or.inr ?_)
      have h : (4 : Int32) ≤ x := c
      rw [Int32.le_iff_toInt_le] at h
      rw [Int32.lt_iff_toInt_lt]
      have t3 : (3 : Int32).toInt = 3 := by decide
      have t4 : (4 : Int32).toInt = 4 := by decide
      omega
    · subst e
      rw [if_neg (show ¬ (4 : Int32) ≤ nI m from nI_ge (b := 4) hm (by omega)), nI_clamp (by omega), hR 63 m (by simp)]
      refine ⟨vp_in_nI hm (by omega), ?_⟩
      have := h1 m hm rfl
      have hv : R0E 63 m = some (64 + 14 * m) := by
        have : m = 0 ∨ m = 1 ∨ m = 2 ∨ m = 3 := by omega
        rcases this with rfl | rfl | rfl | rfl <;> rfl
      rw [hv]; exact this
theorem MV_MK {H : Fm} {D : Dr} {pa pb : Nat → Nat} {m : Nat} {S : St} (h : MV H D pa pb (fun k => gI S 46 (500 * m + k))) : MK H pa pb (500 * m) S := by
  obtain ⟨h0, h1, h2, h3, -⟩ := h
  refine ⟨h0, h1, fun j hj => ?_, fun k hk => ?_⟩
  · rw [show 500 * m + 2 + j = 500 * m + (2 + j) by omega, show 500 * m + 14 + j = 500 * m + (14 + j) by omega]
    exact h2 j hj
  · rw [show 500 * m + 26 + k = 500 * m + (26 + k) by omega, show 500 * m + 34 + k = 500 * m + (34 + k) by omega]
    exact h3 k hk
theorem m_areSame {F H : Fm} {D D2 : Dr} {pa pb qa qb : Nat → Nat} {m : Nat} {S : St} {Q : Int32 → St → Prop} (hF : FW F) (hH : FW H) (hP : PW F pa pb) (hP2 : PW H qa qb) (hM : MF F D pa pb S) (hm : m < 4) (hK : MV H D2 qa qb (fun k => gI S 46 (500 * m + k)))
    (h1 : ∀ S' σ, frM S S' → H 0 0 = F 0 0 → RnL F H (fun _ => True) σ → (∀ q, q < F 0 0 → gI S' 47 q = nI (σ q)) → Q 1 S')
    (h0 : ∀ S', frM S S' → (H 0 0 = F 0 0 → ∀ σ, ¬ Ren F H σ) → Q 0 S') : w_X12_areSame (nI m) S Q := by
  have hn := hF.1.2.1
  have hnH := hH.1.2.1
  have hMK := MV_MK hK
  have i1 : (500 : Int32) * nI m = nI (500 * m) := by rw [← pk_mul]; rfl
  have f47 : ∀ S', (∀ b j, b ≠ 47 → gI S' b j = gI S b j) → frM S S' := fun S' h b j hb => h b j (fun e => by rw [e] at hb; simp [kM] at hb)
  unfold w_X12_areSame
  rw [i1, nI_clamp (by omega), hMK.1, hM.1.1.1]
  refine ⟨vp_in_nI (by omega) (by omega), ?_⟩
  refine nI_ifEq (by omega) (by omega) (fun c => ?_) (fun c => h0 S (frM_refl _) (fun q => absurd q c))
  refine ⟨13, by omega, ?_⟩
  refine m_names hF hH c hP hP2 (by omega) (F 0 0) 0 13 (fun q => q) S _ (by omega) (by omega) ⟨hM.1, hM.2.1, hMK⟩ (fun q hq => absurd hq (Nat.not_lt_zero _)) (fun q hq => absurd hq (Nat.not_lt_zero _)) ?_ ?_
  · intro S' σ a1 a2 a3
    rw [if_neg (by decide)]
    exact h1 S' σ (f47 S' a1) c ⟨a2.1, trivial, fun τ hτ _ => a2.2.2 τ hτ (fun q hq => absurd hq (Nat.not_lt_zero _))⟩ a3
  · intro S' a1 _ a3
    rw [if_pos rfl]
    exact h0 S' (f47 S' a1) (fun _ σ hσ => a3 σ hσ (fun q hq => absurd hq (Nat.not_lt_zero _)))
theorem mk_no {x : Int32} {m : Nat} (hm : m < 4) (e : x = nI m) : ¬ (x < 0 ∨ (3 : Int32) < x) := by
  subst e
  rintro (a | a)
  · exact nI_pos (by omega) a
  · exact nI_nlt (a := 3) (by omega) (by omega) a
theorem MKs_M {l : Nat → Bool} {mF : Nat → Fm} {mD : Nat → Dr} {ma mb : Nat → Nat → Nat} {SE SM SM' : St} (h : MKs l mF mD ma mb SE SM) (hf : frM SM SM') : MKs l mF mD ma mb SE SM' := by
  intro m hm
  obtain ⟨a, b, c⟩ := h m hm
  refine ⟨a, by rw [hf 45 m rfl]; exact b, fun hl => ?_⟩
  obtain ⟨c1, c2, c3, c4, c5, c6⟩ := c hl
  refine ⟨c1, c2, c3, c4, c5, ?_⟩
  have : (fun k => gI SM' 46 (500 * m + k)) = (fun k => gI SM 46 (500 * m + k)) := funext (fun k => hf 46 _ rfl)
  rw [this]; exact c6
theorem c_same {F : Fm} {D : Dr} {pa pb : Nat → Nat} {l : Nat → Bool} {mF : Nat → Fm} {mD : Nat → Dr} {ma mb : Nat → Nat → Nat} {SE SM : St} {K : Int32 → Int32 → St → St → Prop} {a : Int32} (hR : RCE SE) (hF : FW F) (hP : PW F pa pb) (HE : FE 21 F SE) (HM : MF F D pa pb SM) (HK : MKs l mF mD ma mb SE SM)
    (hK : ∀ r S1 S2, frX ncl SE S1 → frM SM S2 → K r r S1 S2) : w_X11_same a SE (fun r S1 => w_X12_same a SM (fun r' S2 => K r r' S1 S2)) := by
  have HM2 := MF_fr hF (fr0 SM) HM
  have HK2 := MKs_M HK (fr0 SM)
  have f0 := fr0 SM
  refine e_markAt hR (fun h => ?_) (fun m hm e => ?_)
  · rw [if_pos rfl]
    intro S2 hS2; subst hS2
    refine m_within (fun _ => ?_) (fun x y => absurd h (fun q => q.elim x y))
    rw [if_pos rfl]
    exact hK _ _ _ (frX_refl _ _) f0
  subst e
  obtain ⟨k1, k2, k3⟩ := HK2 m hm
  have hm5 := isE5_m hm
  rw [if_neg (by simp)]
  refine ⟨64 + 14 * m, rfl, hm5, ?_⟩
  have mm : ∀ r S1, ((l m = true → w_X12_areSame (nI m) (sI SM 0 0 0) (fun r25_5 S25_4 => (if r25_5 = 0 then (K r (0 : Int32) S1 S25_4) else (K r (1 : Int32) S1 S25_4)))) ∧ (l m = false → K r (-1) S1 (sI SM 0 0 0))) → w_X12_same (nI m) SM (fun r' S2 => K r r' S1 S2) := by
    intro r S1 hr S2 hS2
    subst hS2
    refine m_within (fun h => absurd h (mk_no hm rfl)) (fun _ _ => ?_)
    rw [if_neg (by decide), nI_clamp (by omega), k2]
    refine ⟨vp_in_nI hm (by omega), ?_⟩
    cases c : l m with
    | true => rw [if_pos rfl, if_neg (by decide)]; exact hr.1 c
    | false => rw [if_pos (by decide)]; exact hr.2 c
  rw [k1]
  cases c : l m with
  | false =>
    rw [if_pos (by decide)]
    exact mm _ _ ⟨fun q => absurd (c.symm.trans q) (by decide), fun _ => hK _ _ _ (frX_refl _ _) f0⟩
  | true =>
    rw [if_pos rfl, if_neg (by decide)]
    refine ⟨64 + 14 * m, rfl, hm5, ?_⟩
    obtain ⟨q1, q2, q3, q4, q5, q6⟩ := k3 c
    refine e_finds hm5 hF q1 HE q4 ?_ ?_
    · intro S1 σ a1 a2 a3 _
      rw [if_neg (by decide)]
      refine mm _ _ ⟨fun _ => m_areSame hF q1 hP q3 HM2 hm q6 (fun S2 _ b1 _ _ _ => by rw [if_neg (by decide)]; exact hK _ _ _ a1 (frM_trans f0 b1)) (fun S2 b1 b2 => absurd a3.1 (b2 a2 σ)), fun q => by rw [c] at q; cases q⟩
    · intro S1 a1 a2
      rw [if_pos rfl]
      refine mm _ _ ⟨fun _ => m_areSame hF q1 hP q3 HM2 hm q6 (fun S2 σ b1 b2 b3 _ => absurd b3.1 (a2 b2 σ)) (fun S2 b1 _ => by rw [if_pos rfl]; exact hK _ _ _ a1 (frM_trans f0 b1)), fun q => by rw [c] at q; cases q⟩
theorem c_renamed {F : Fm} {D : Dr} {pa pb : Nat → Nat} {l : Nat → Bool} {mF : Nat → Fm} {mD : Nat → Dr} {ma mb : Nat → Nat → Nat} {SE SM : St} {K : Int32 → Int32 → St → St → Prop} {a b : Int32} (hR : RCE SE) (hF : FW F) (hP : PW F pa pb) (HE : FE 21 F SE) (HM : MF F D pa pb SM) (HK : MKs l mF mD ma mb SE SM)
    (hK : ∀ r S1 S2, frX ncl SE S1 → frM SM S2 → K r r S1 S2) : w_X11_renamed a b SE (fun r S1 => w_X12_renamed a b SM (fun r' S2 => K r r' S1 S2)) := by
  have hn := hF.1.2.1
  have HM2 := MF_fr hF (fr0 SM) HM
  have HK2 := MKs_M HK (fr0 SM)
  have f0 := fr0 SM
  -- the reference's answer NONE
  have none1 : ∀ S1, frX ncl SE S1 → ((a < 0 ∨ 3 < a) ∨ (b < 0 ∨ nI (F 0 0) ≤ b) ∨ (∃ m, m < 4 ∧ a = nI m ∧ (l m = false ∨ (mF m 0 0 = F 0 0 → ∀ σ, ¬ Ren F (mF m) σ)))) → w_X12_renamed a b SM (fun r' S2 => K (-1) r' S1 S2) := by
    intro S1 h1 hcs S2 hS2
    subst hS2
    by_cases ha : a < 0 ∨ 3 < a
    · refine m_within (fun _ => ?_) (fun x y => absurd ha (fun q => q.elim x y))
      rw [if_pos rfl]; exact hK _ _ _ h1 f0
    · refine m_within (fun x => absurd x ha) (fun x y => ?_)
      rw [if_neg (by decide)]
      obtain ⟨m, hm4, rfl⟩ := nI_of2 (M := 3) (n := 3) (by decide) x (Int32.not_lt.mp y)
      have hm : m < 4 := by omega
      obtain ⟨k1, k2, k3⟩ := HK2 m hm
      rw [nI_clamp (by omega), k2]
      refine ⟨vp_in_nI hm (by omega), ?_⟩
      cases c : l m with
      | false => rw [if_pos (by decide)]; exact hK _ _ _ h1 f0
      | true =>
        rw [if_pos rfl, if_neg (by decide)]
        refine m_isPlace (by omega) HM2.1.1.1 (fun _ => ?_) (fun p hp e2 => ?_)
        · rw [if_pos rfl]; exact hK _ _ _ h1 f0
        · rw [if_neg (by decide)]
          obtain ⟨q1, q2, q3, q4, q5, q6⟩ := k3 c
          have hno : mF m 0 0 = F 0 0 → ∀ σ, ¬ Ren F (mF m) σ := by
            rcases hcs with z | z | ⟨m', z1, z2, z3⟩
            · exact absurd z ha
            · exact absurd z (pl_no (by omega) hp e2)
            · have : m = m' := nI_inj (by omega) (by omega) z2
              subst this
              rcases z3 with z3 | z3
              · rw [c] at z3; cases z3
              · exact z3
          refine m_areSame hF q1 hP q3 HM2 hm q6 (fun S2 σ b1 b2 b3 _ => absurd b3.1 (hno b2 σ)) (fun S2 b1 _ => ?_)
          rw [if_pos rfl]; exact hK _ _ _ h1 (frM_trans f0 b1)
  refine e_isEnd (by omega) (HE.1 0 (by omega)) (fun h => ?_) (fun p hp e2 => ?_)
  · rw [if_pos rfl]
    exact none1 SE (frX_refl _ _) (Or.inr (Or.inl h))
  rw [if_neg (by decide)]
  subst e2
  refine e_markAt hR (fun h => ?_) (fun m hm e => ?_)
  · rw [if_pos rfl]
    show if (-1 : Int32) = 1 then _ else _
    rw [if_neg (by decide)]
    exact none1 SE (frX_refl _ _) (Or.inl h)
  subst e
  obtain ⟨k1, k2, k3⟩ := HK2 m hm
  have hm5 := isE5_m hm
  rw [if_neg (by simp)]
  refine ⟨64 + 14 * m, rfl, hm5, ?_⟩
  rw [k1]
  cases c : l m with
  | false =>
    rw [if_pos (by decide)]
    show if (-1 : Int32) = 1 then _ else _
    rw [if_neg (by decide)]
    exact none1 SE (frX_refl _ _) (Or.inr (Or.inr ⟨m, hm, rfl, Or.inl c⟩))
  | true =>
    rw [if_pos rfl, if_neg (by decide)]
    refine ⟨64 + 14 * m, rfl, hm5, ?_⟩
    obtain ⟨q1, q2, q3, q4, q5, q6⟩ := k3 c
    refine e_finds hm5 hF q1 HE q4 ?_ ?_
    · intro S1 σ a1 a2 a3 a4
      rw [if_neg (by decide)]
      show if (1 : Int32) = 1 then _ else _
      rw [if_pos rfl]
      refine e_cell (by show p < 12; omega) (by decide) ?_
      rw [a4 p hp]
      intro S2 hS2
      subst hS2
      refine m_within (fun h => absurd h (mk_no hm rfl)) (fun _ _ => ?_)
      rw [if_neg (by decide), nI_clamp (by omega), k2, c, if_pos rfl, if_neg (by decide)]
      refine ⟨vp_in_nI hm (by omega), ?_⟩
      refine m_isPlace (by omega) HM2.1.1.1 (fun h => absurd h (pl_no (by omega) hp rfl)) (fun _ _ _ => ?_)
      rw [if_neg (by decide)]
      refine m_areSame hF q1 hP q3 HM2 hm q6 (fun S2 τ b1 b2 b3 b4 => ?_) (fun S2 b1 b2 => absurd a3.1 (b2 a2 σ))
      rw [if_neg (by decide), nI_clamp (by omega), b4 p hp, RnL_uniq b3 a3 p hp]
      exact ⟨vp_in_nI (by omega) (by omega), hK _ _ _ a1 (frM_trans f0 b1)⟩
    · intro S1 a1 a2
      rw [if_pos rfl]
      show if (0 : Int32) = 1 then _ else _
      rw [if_neg (by decide)]
      exact none1 S1 a1 (Or.inr (Or.inr ⟨m, hm, rfl, Or.inr a2⟩))
