/-! ===== pure: drafts; the reference's view; rhymes, beside, word, barred, count agree ===== -/
/-- a draft's values: 0: how many lines; 1, 2, 3: a line's word, text, beats -/
abbrev Dr : Type := Nat → Nat → Nat
def DE (o : Nat) (D : Dr) (S : St) : Prop := gI S o 3 = nI (D 0 0) ∧ ∀ k j, 1 ≤ k → k ≤ 3 → j < D 0 0 → gI S (o + k) j = nI (D k j)
def DW (F : Fm) (D : Dr) : Prop := D 0 0 ≤ 60 ∧ ∀ j, j < D 0 0 → D 1 j < F 0 5 ∧ D 2 j ≤ 999 ∧ D 3 j ≤ 99
/-- where the reference holds what a mark keeps -/
def vc (k : Nat) : Nat × Nat :=
  if k < 1 then (0, 10) else if k < 2 then (0, 12) else if k < 14 then (2, k - 2) else if k < 26 then (5, k - 14) else if k < 34 then (3, k - 26) else if k < 42 then (4, k - 34)
  else if k < 43 then (0, 11) else if k < 44 then (0, 13) else if k < 45 then (0, 14) else if k < 46 then (0, 15) else if k < 47 then (0, 16) else if k < 48 then (0, 65)
  else if k < 60 then (6, k - 48) else if k < 72 then (7, k - 60) else if k < 84 then (8, k - 72) else if k < 144 then (41, k - 84) else if k < 204 then (42, k - 144) else if k < 264 then (43, k - 204) else (9, k - 264)
def vw (S : St) (k : Nat) : Int32 := gI S (vc k).1 (vc k).2
def MV (F : Fm) (D : Dr) (pa pb : Nat → Nat) (v : Nat → Int32) : Prop :=
  v 0 = nI (F 0 0) ∧ v 1 = nI (F 0 2) ∧ (∀ j, j < F 0 0 → v (2 + j) = nI (F 1 j) ∧ v (14 + j) = nI (F 3 j)) ∧ (∀ k, k < F 0 2 → v (26 + k) = nI (pa k) ∧ v (34 + k) = nI (pb k)) ∧
  v 42 = nI (F 0 1) ∧ v 43 = nI (F 0 3) ∧ v 44 = nI (F 0 4) ∧ v 45 = nI (F 0 5) ∧ v 46 = nI (F 0 6) ∧ v 47 = nI (D 0 0) ∧
  (∀ w, w < F 0 5 → v (48 + w) = nI (F 4 w) ∧ v (60 + w) = nI (F 5 w) ∧ v (72 + w) = nI (F 6 w)) ∧
  (∀ j, j < D 0 0 → v (84 + j) = nI (D 1 j) ∧ v (144 + j) = nI (D 2 j) ∧ v (204 + j) = nI (D 3 j)) ∧
  ∀ a b, a < F 0 5 → b < F 0 5 → v (264 + (12 * a + b)) = if (F 7 a).testBit b then 1 else 0
theorem vc_2 {j : Nat} (h : j < 12) : vc (2 + j) = (2, j) := by simp [vc, show ¬ 2 + j < 1 by omega, show ¬ 2 + j < 2 by omega, show 2 + j < 14 by omega]
theorem vc_14 {j : Nat} (h : j < 12) : vc (14 + j) = (5, j) := by simp [vc, show ¬ 14 + j < 1 by omega, show ¬ 14 + j < 2 by omega, show 14 + j < 26 by omega]
theorem vc_26 {j : Nat} (h : j < 8) : vc (26 + j) = (3, j) := by simp [vc, show ¬ 26 + j < 1 by omega, show ¬ 26 + j < 2 by omega, show ¬ 26 + j < 14 by omega, show 26 + j < 34 by omega]
theorem vc_34 {j : Nat} (h : j < 8) : vc (34 + j) = (4, j) := by
  unfold vc
  rw [if_neg (by omega), if_neg (by omega), if_neg (by omega), if_neg (by omega), if_neg (by omega), if_pos (by omega), show 34 + j - 34 = j by omega]
theorem vc_48 {j : Nat} (h : j < 12) : vc (48 + j) = (6, j) := by
  unfold vc
  rw [if_neg (by omega), if_neg (by omega), if_neg (by omega), if_neg (by omega), if_neg (by omega), if_neg (by omega), if_neg (by omega), if_neg (by omega), if_neg (by omega), if_neg (by omega), if_neg (by omega), if_neg (by omega), if_pos (by omega), show 48 + j - 48 = j by omega]
theorem vc_60 {j : Nat} (h : j < 12) : vc (60 + j) = (7, j) := by
  unfold vc
  rw [if_neg (by omega), if_neg (by omega), if_neg (by omega), if_neg (by omega), if_neg (by omega), if_neg (by omega), if_neg (by omega), if_neg (by omega), if_neg (by omega), if_neg (by omega), if_neg (by omega), if_neg (by omega), if_neg (by omega), if_pos (by omega), show 60 + j - 60 = j by omega]
theorem vc_72 {j : Nat} (h : j < 12) : vc (72 + j) = (8, j) := by
  unfold vc
  rw [if_neg (by omega), if_neg (by omega), if_neg (by omega), if_neg (by omega), if_neg (by omega), if_neg (by omega), if_neg (by omega), if_neg (by omega), if_neg (by omega), if_neg (by omega), if_neg (by omega), if_neg (by omega), if_neg (by omega), if_neg (by omega), if_pos (by omega), show 72 + j - 72 = j by omega]
theorem vc_84 {j : Nat} (h : j < 60) : vc (84 + j) = (41, j) := by
  unfold vc
  rw [if_neg (by omega), if_neg (by omega), if_neg (by omega), if_neg (by omega), if_neg (by omega), if_neg (by omega), if_neg (by omega), if_neg (by omega), if_neg (by omega), if_neg (by omega), if_neg (by omega), if_neg (by omega), if_neg (by omega), if_neg (by omega), if_neg (by omega), if_pos (by omega), show 84 + j - 84 = j by omega]
theorem vc_144 {j : Nat} (h : j < 60) : vc (144 + j) = (42, j) := by
  unfold vc
  rw [if_neg (by omega), if_neg (by omega), if_neg (by omega), if_neg (by omega), if_neg (by omega), if_neg (by omega), if_neg (by omega), if_neg (by omega), if_neg (by omega), if_neg (by omega), if_neg (by omega), if_neg (by omega), if_neg (by omega), if_neg (by omega), if_neg (by omega), if_neg (by omega), if_pos (by omega), show 144 + j - 144 = j by omega]
theorem vc_204 {j : Nat} (h : j < 60) : vc (204 + j) = (43, j) := by
  unfold vc
  rw [if_neg (by omega), if_neg (by omega), if_neg (by omega), if_neg (by omega), if_neg (by omega), if_neg (by omega), if_neg (by omega), if_neg (by omega), if_neg (by omega), if_neg (by omega), if_neg (by omega), if_neg (by omega), if_neg (by omega), if_neg (by omega), if_neg (by omega), if_neg (by omega), if_neg (by omega), if_pos (by omega), show 204 + j - 204 = j by omega]
theorem vc_264 (j : Nat) : vc (264 + j) = (9, j) := by
  unfold vc
  rw [if_neg (by omega), if_neg (by omega), if_neg (by omega), if_neg (by omega), if_neg (by omega), if_neg (by omega), if_neg (by omega), if_neg (by omega), if_neg (by omega), if_neg (by omega), if_neg (by omega), if_neg (by omega), if_neg (by omega), if_neg (by omega), if_neg (by omega), if_neg (by omega), if_neg (by omega), if_neg (by omega), show 264 + j - 264 = j by omega]
theorem vc_kM : ∀ k, k < 408 → kM (vc k).1 (vc k).2 = true := by decide +kernel
/-- the reference's form and draft, cell by cell -/
def MF (F : Fm) (D : Dr) (pa pb : Nat → Nat) (S : St) : Prop :=
  MP F pa pb S ∧ (∀ j, j < F 0 0 → gI S 5 j = nI (F 3 j)) ∧ gI S 0 11 = nI (F 0 1) ∧ gI S 0 13 = nI (F 0 3) ∧ gI S 0 14 = nI (F 0 4) ∧ gI S 0 15 = nI (F 0 5) ∧ gI S 0 16 = nI (F 0 6) ∧ gI S 0 65 = nI (D 0 0) ∧
  (∀ w, w < F 0 5 → gI S 6 w = nI (F 4 w) ∧ gI S 7 w = nI (F 5 w) ∧ gI S 8 w = nI (F 6 w)) ∧
  (∀ j, j < D 0 0 → gI S 41 j = nI (D 1 j) ∧ gI S 42 j = nI (D 2 j) ∧ gI S 43 j = nI (D 3 j)) ∧
  ∀ a b, a < F 0 5 → b < F 0 5 → gI S 9 (12 * a + b) = if (F 7 a).testBit b then 1 else 0
theorem MV_MF {F : Fm} {D : Dr} {pa pb : Nat → Nat} {S : St} (hF : FW F) (hD : D 0 0 ≤ 60) : MV F D pa pb (vw S) ↔ MF F D pa pb S := by
  have hn := hF.1.2.1
  have hr := hF.1.2.2.2.1
  have hw := hF.1.2.2.2.2.2.2.1
  constructor
  · rintro ⟨h0, h1, h2, h3, h4, h5, h6, h7, h8, h9, h10, h11, h12⟩
    refine ⟨⟨⟨h0, fun i hi => ?_⟩, h1, fun k hk => ⟨?_, ?_⟩⟩, fun j hj => ?_, h4, h5, h6, h7, h8, h9, fun w hw2 => ⟨?_, ?_, ?_⟩, fun j hj => ⟨?_, ?_, ?_⟩, fun a b ha hb => ?_⟩
    · have := (h2 i hi).1; unfold vw at this; rw [vc_2 (by omega)] at this; exact this
    · have := (h3 k hk).1; unfold vw at this; rw [vc_26 (by omega)] at this; exact this
    · have := (h3 k hk).2; unfold vw at this; rw [vc_34 (by omega)] at this; exact this
    · have := (h2 j hj).2; unfold vw at this; rw [vc_14 (by omega)] at this; exact this
    · have := (h10 w hw2).1; unfold vw at this; rw [vc_48 (by omega)] at this; exact this
    · have := (h10 w hw2).2.1; unfold vw at this; rw [vc_60 (by omega)] at this; exact this
    · have := (h10 w hw2).2.2; unfold vw at this; rw [vc_72 (by omega)] at this; exact this
    · have := (h11 j hj).1; unfold vw at this; rw [vc_84 (by omega)] at this; exact this
    · have := (h11 j hj).2.1; unfold vw at this; rw [vc_144 (by omega)] at this; exact this
    · have := (h11 j hj).2.2; unfold vw at this; rw [vc_204 (by omega)] at this; exact this
    · have := h12 a b ha hb; unfold vw at this; rw [vc_264] at this; exact this
  · rintro ⟨⟨⟨h0, h2⟩, h1, h3⟩, h2b, h4, h5, h6, h7, h8, h9, h10, h11, h12⟩
    refine ⟨h0, h1, fun j hj => ⟨?_, ?_⟩, fun k hk => ⟨?_, ?_⟩, h4, h5, h6, h7, h8, h9, fun w hw2 => ⟨?_, ?_, ?_⟩, fun j hj => ⟨?_, ?_, ?_⟩, fun a b ha hb => ?_⟩
    · unfold vw; rw [vc_2 (by omega)]; exact h2 j hj
    · unfold vw; rw [vc_14 (by omega)]; exact h2b j hj
    · unfold vw; rw [vc_26 (by omega)]; exact (h3 k hk).1
    · unfold vw; rw [vc_34 (by omega)]; exact (h3 k hk).2
    · unfold vw; rw [vc_48 (by omega)]; exact (h10 w hw2).1
    · unfold vw; rw [vc_60 (by omega)]; exact (h10 w hw2).2.1
    · unfold vw; rw [vc_72 (by omega)]; exact (h10 w hw2).2.2
    · unfold vw; rw [vc_84 (by omega)]; exact (h11 j hj).1
    · unfold vw; rw [vc_144 (by omega)]; exact (h11 j hj).2.1
    · unfold vw; rw [vc_204 (by omega)]; exact (h11 j hj).2.2
    · unfold vw; rw [vc_264]; exact h12 a b ha hb
theorem MF_fr {F : Fm} {D : Dr} {pa pb : Nat → Nat} {S S' : St} (hF : FW F) (hf : frM S S') (H : MF F D pa pb S) : MF F D pa pb S' := by
  obtain ⟨h0, h2b, h4, h5, h6, h7, h8, h9, h10, h11, h12⟩ := H
  refine ⟨MP_fr hf hF.1.2.1 h0, fun j hj => ?_, ?_, ?_, ?_, ?_, ?_, ?_, fun w hw2 => ⟨?_, ?_, ?_⟩, fun j hj => ⟨?_, ?_, ?_⟩, fun a b ha hb => ?_⟩
  · rw [hf 5 j rfl]; exact h2b j hj
  · rw [hf 0 11 rfl]; exact h4
  · rw [hf 0 13 rfl]; exact h5
  · rw [hf 0 14 rfl]; exact h6
  · rw [hf 0 15 rfl]; exact h7
  · rw [hf 0 16 rfl]; exact h8
  · rw [hf 0 65 rfl]; exact h9
  · rw [hf 6 w rfl]; exact (h10 w hw2).1
  · rw [hf 7 w rfl]; exact (h10 w hw2).2.1
  · rw [hf 8 w rfl]; exact (h10 w hw2).2.2
  · rw [hf 41 j rfl]; exact (h11 j hj).1
  · rw [hf 42 j rfl]; exact (h11 j hj).2.1
  · rw [hf 43 j rfl]; exact (h11 j hj).2.2
  · rw [hf 9 _ rfl]; exact h12 a b ha hb
theorem fr0 (S : St) : frM S (sI S 0 0 0) := frM_sI (frM_refl _) rfl
theorem c_rhymes {F : Fm} {pa pb L : Nat → Nat} {SE SM : St} {K : Int32 → Int32 → St → St → Prop} {a : Int32} (hF : FW F) (hP : PW F pa pb) (HE : EZ F L SE) (HM : MP F pa pb SM) (hK : ∀ r S2, frM SM S2 → K r r SE S2) : w_X11_rhymes a SE (fun r S1 => w_X12_rhymes a SM (fun r' S2 => K r r' S1 S2)) := by
  have hn := hF.1.2.1
  have HM2 := MP_fr (fr0 SM) hn HM
  have mm : ∀ r, (∀ S3, frM SM S3 → (∀ e, e < F 0 0 → gI S3 37 e = nI (L e)) → w_X12_isPlace a S3 (fun r11_4 S11_3 => (if r11_4 = 0 then (K r (-1 : Int32) SE S11_3) else (vp_in a 12 ∧ (K r (gI S11_3 37 a.toNatClampNeg) SE S11_3))))) → w_X12_rhymes a SM (fun r' S2 => K r r' SE S2) := by
    intro r hr S2 hS2
    subst hS2
    exact m_classes hF hP HM2 HE.2.1 (fun S3 hf _ hl => hr S3 (frM_trans (fr0 SM) hf) hl)
  refine e_isEnd (by omega) HE.1.2.2.2.1 (fun h => ?_) (fun p hp e2 => ?_)
  · rw [if_pos rfl]
    refine mm _ (fun S3 hf _ => ?_)
    exact m_isPlace (by omega) (MP_fr hf hn HM).1.1 (fun _ => by rw [if_pos rfl]; exact hK _ _ hf) (fun p hp e2 => absurd h (pl_no (by omega) hp e2))
  · rw [if_neg (by decide)]
    subst e2
    refine e_cell (by show p < 12; omega) (by decide) ?_
    refine mm _ (fun S3 hf hl => ?_)
    refine m_isPlace (by omega) (MP_fr hf hn HM).1.1 (fun h => absurd h (pl_no (by omega) hp rfl)) (fun _ _ _ => ?_)
    rw [if_neg (by decide)]
    refine ⟨vp_in_nI (by omega) (by omega), ?_⟩
    rw [nI_clamp (by omega), hl p hp, ← HE.2.2.1 p hp]
    exact hK _ _ hf
theorem c_beside {F : Fm} {pa pb L : Nat → Nat} {SE SM : St} {K : Int32 → Int32 → St → St → Prop} {a b : Int32} (hF : FW F) (HE : EZ F L SE) (HM : MP F pa pb SM) (hK : ∀ r S2, frM SM S2 → K r r SE S2) : w_X11_beside a b SE (fun r S1 => w_X12_beside a b SM (fun r' S2 => K r r' S1 S2)) := by
  have hn := hF.1.2.1
  have h := hF.2.1
  have HM2 := MP_fr (fr0 SM) hn HM
  have hrl : rnd (F 0 0) (F 1) ≤ 27720 := rnd_le h hn (Nat.le_refl _)
  have f0 := fr0 SM
  refine e_isEnd (by omega) HE.1.2.2.2.1 (fun h => ?_) (fun p hp e2 => ?_)
  · rw [if_pos rfl]
    intro S2 hS2; subst hS2
    exact m_isPlace (by omega) HM2.1.1 (fun _ => by rw [if_pos rfl]; exact hK _ _ f0) (fun p hp e2 => absurd h (pl_no (by omega) hp e2))
  rw [if_neg (by decide)]
  subst e2
  have mm : ∀ r, w_X12_isPlace b (sI SM 0 0 0) (fun r15_5 S15_4 => (if r15_5 = 0 then (K r (-1 : Int32) SE S15_4) else ((if nI p = b then (K r (-1 : Int32) SE S15_4) else (w_X12_roundIs S15_4 (fun r29_7 S29_6 => w_X12_beside_39 (nI p) b (fun r' S2 => K r r' SE S2) r29_7 (0 : Int32) (0 : Int32) S29_6)))))) → w_X12_beside (nI p) b SM (fun r' S2 => K r r' SE S2) := by
    intro r hr S2 hS2
    subst hS2
    refine m_isPlace (by omega) HM2.1.1 (fun h => absurd h (pl_no (by omega) hp rfl)) (fun _ _ _ => ?_)
    rw [if_neg (by decide)]; exact hr
  refine e_isEnd (by omega) HE.1.2.2.2.1 (fun h => ?_) (fun q hq e2 => ?_)
  · rw [if_pos rfl]
    refine mm _ (m_isPlace (by omega) HM2.1.1 (fun _ => ?_) (fun p hp e2 => absurd h (pl_no (by omega) hp e2)))
    rw [if_pos rfl]; exact hK _ _ f0
  rw [if_neg (by decide)]
  subst e2
  have mm2 : ∀ r, (if nI p = nI q then (K r (-1 : Int32) SE (sI SM 0 0 0)) else (w_X12_roundIs (sI SM 0 0 0) (fun r29_7 S29_6 => w_X12_beside_39 (nI p) (nI q) (fun r' S2 => K r r' SE S2) r29_7 (0 : Int32) (0 : Int32) S29_6))) → w_X12_beside (nI p) (nI q) SM (fun r' S2 => K r r' SE S2) := by
    intro r hr
    refine mm r (m_isPlace (by omega) HM2.1.1 (fun h => absurd h (pl_no (by omega) hq rfl)) (fun _ _ _ => ?_))
    rw [if_neg (by decide)]; exact hr
  by_cases epq : p = q
  · subst epq
    rw [if_pos rfl]
    refine mm2 _ ?_
    rw [if_pos rfl]; exact hK _ _ f0
  rw [if_neg (fun e => epq (nI_inj (by omega) (by omega) e))]
  have i1 : nI p * (12 : Int32) + nI q = nI (p * 12 + q) := by rw [← nI_add, ← pk_mul]; rfl
  have i2 : nI q * (12 : Int32) + nI p = nI (q * 12 + p) := by rw [← nI_add, ← pk_mul]; rfl
  unfold w_X9_timesAhead
  rw [i1, i2]
  refine e_cell (by show _ < 144; omega) (by decide) (e_cell (by show _ < 144; omega) (by decide) ?_)
  rw [HE.2.2.2 p q hp hq, HE.2.2.2 q p hq hp]
  refine mm2 _ ?_
  rw [if_neg (fun e => epq (nI_inj (by omega) (by omega) e))]
  refine m_roundIs hn h HM2.1.2 HM2.1.1 ?_
  refine up2 (B := b_X12_beside_39 (nI p) (nI q) _ (nI (rnd (F 0 0) (F 1)))) (rnd (F 0 0) (F 1)) (by omega) (fun s v S2 => S2 = sI SM 0 0 0 ∧ v = nI (ahdU (F 0 0) (F 1) p q s + ahdU (F 0 0) (F 1) q p s)) ?_ ?_ 0 _ (by omega) ⟨rfl, rfl⟩
  · rintro kk s v S2 hs ⟨rfl, rfl⟩ hkk
    unfold b_X12_beside_39
    obtain ⟨a1, a2⟩ := it_posn h hp s
    obtain ⟨b1, b2⟩ := it_posn h hq s
    rw [if_neg (nI_ge hs (by omega)), nI_l (by omega)]
    refine m_whereIs hn h HM2.1.2 a2 (by omega) a1 (m_whereIs hn h HM2.1.2 b2 (by omega) b1 ?_)
    have fin : ∀ z : Nat, z = (if posn (F 0 0) (F 1) s p + 1 = posn (F 0 0) (F 1) s q ∨ posn (F 0 0) (F 1) s q + 1 = posn (F 0 0) (F 1) s p then 1 else 0) → w_X12_beside_76 (nI p) (nI q) kk (nI (rnd (F 0 0) (F 1))) (nI s) (nI z) (nI (ahdU (F 0 0) (F 1) p q s + ahdU (F 0 0) (F 1) q p s)) (sI SM 0 0 0) := by
      intro z hz x hx y hy
      rw [nI_add] at hx
      refine hkk _ _ _ hy ⟨rfl, ?_⟩
      rw [hx]
      congr 1
      show _ = (ahdU (F 0 0) (F 1) p q s + _) + (ahdU (F 0 0) (F 1) q p s + _)
      rw [hz]
      simp only [beq_iff_eq]
      by_cases c1 : posn (F 0 0) (F 1) s p + 1 = posn (F 0 0) (F 1) s q
      · rw [if_pos (Or.inl c1), if_pos c1, if_neg (by omega)]; omega
      · by_cases c2 : posn (F 0 0) (F 1) s q + 1 = posn (F 0 0) (F 1) s p
        · rw [if_pos (Or.inr c2), if_neg c1, if_pos c2]; omega
        · rw [if_neg (fun c => c.elim c1 c2), if_neg c1, if_neg c2]; omega
    generalize posn (F 0 0) (F 1) s p = i at *
    generalize posn (F 0 0) (F 1) s q = j at *
    have habs : (if 0 ≤ nI i - nI j then nI i - nI j else 0 - (nI i - nI j)) = nI (if j ≤ i then i - j else j - i) := by
      by_cases c : j ≤ i
      · rw [pk_sub c, if_pos (nI_pos' (by omega)), if_pos c]
      · rw [if_neg (Int32.not_le.mpr (pk_sneg (by omega) (by omega))), if_neg c]
        rw [show (0 : Int32) - (nI i - nI j) = nI j - nI i by
          rw [Int32.zero_sub, Int32.neg_sub], pk_sub (by omega)]
    rw [habs]
    refine nI_ifEq (y := 1) (by split <;> omega) (by omega) (fun c => ?_) (fun c => ?_)
    · refine fin 1 (by
        split at c
        · rw [if_pos (by omega)]
        · rw [if_pos (by omega)])
    · refine fin 0 (by
        split at c
        · rw [if_neg (by omega)]
        · rw [if_neg (by omega)])
  · rintro kk v S2 ⟨rfl, rfl⟩
    unfold b_X12_beside_39
    rw [if_pos (nI_le (Nat.le_refl _) (by omega)), ← nI_add]
    exact hK _ _ f0
theorem e_isWord {S : St} {Q : Int32 → St → Prop} {n : Nat} {x : Int32} (hn : n < 2 ^ 31) (he : gI S 21 5 = nI n) (h0 : (x < 0 ∨ nI n ≤ x) → Q 0 S) (h1 : ∀ p, p < n → x = nI p → Q 1 S) : w_X11_isWord x S Q := by
  unfold w_X11_isWord
  rw [he]
  by_cases a : x < 0
  · rw [if_pos a]; exact h0 (Or.inl a)
  · rw [if_neg a]
    by_cases b : nI n ≤ x
    · rw [if_pos b]; exact h0 (Or.inr b)
    · rw [if_neg b]
      rcases pk_ix x hn with c | c | ⟨p, hp, e⟩
      · exact absurd c a
      · exact absurd c b
      · exact h1 p hp e
theorem m_isWordAt {S : St} {Q : Int32 → St → Prop} {n : Nat} {x : Int32} (hn : n < 2 ^ 31) (he : gI S 0 15 = nI n) (h0 : (x < 0 ∨ nI n ≤ x) → Q 0 S) (h1 : ∀ p, p < n → x = nI p → Q 1 S) : w_X12_isWordAt x S Q := by
  unfold w_X12_isWordAt
  rw [he]
  by_cases a : x < 0
  · rw [if_pos a]; exact h0 (Or.inl a)
  · rw [if_neg a]
    by_cases b : nI n ≤ x
    · rw [if_pos b]; exact h0 (Or.inr b)
    · rw [if_neg b]
      rcases pk_ix x hn with c | c | ⟨p, hp, e⟩
      · exact absurd c a
      · exact absurd c b
      · exact h1 p hp e
theorem i_02 {w : Int32} (h : ¬ w < 0) (h2 : ¬ 2 < w) (h0 : ¬ w = 0) (h1 : ¬ w = 1) : w = 2 := by
  rw [Int32.lt_iff_toInt_lt] at h h2
  have t0 : (0 : Int32).toInt = 0 := by decide
  have t1 : (1 : Int32).toInt = 1 := by decide
  have t2 : (2 : Int32).toInt = 2 := by decide
  have b0 : w.toInt ≠ 0 := fun e => h0 (Int32.toInt_inj.mp e)
  have b1 : w.toInt ≠ 1 := fun e => h1 (Int32.toInt_inj.mp e)
  exact Int32.toInt_inj.mp (by omega)
theorem i_no {w : Int32} (h0 : ¬ w = 0) (h1 : ¬ w = 1) (h2 : ¬ w = 2) : w < 0 ∨ 2 < w := by
  rw [Int32.lt_iff_toInt_lt, Int32.lt_iff_toInt_lt]
  have t0 : (0 : Int32).toInt = 0 := by decide
  have t1 : (1 : Int32).toInt = 1 := by decide
  have t2 : (2 : Int32).toInt = 2 := by decide
  have b0 : w.toInt ≠ 0 := fun e => h0 (Int32.toInt_inj.mp e)
  have b1 : w.toInt ≠ 1 := fun e => h1 (Int32.toInt_inj.mp e)
  have b2 : w.toInt ≠ 2 := fun e => h2 (Int32.toInt_inj.mp e)
  omega
theorem c_word {F : Fm} {D : Dr} {pa pb : Nat → Nat} {SE SM : St} {K : Int32 → Int32 → St → St → Prop} {a w : Int32} (hF : FW F) (HE : FE 21 F SE) (HM : MF F D pa pb SM) (hK : ∀ r, K r r SE (sI SM 0 0 0)) : w_X11_word a w SE (fun r S1 => w_X12_word a w SM (fun r' S2 => K r r' S1 S2)) := by
  have hw := hF.1.2.2.2.2.2.2.1
  have HM2 := MF_fr hF (fr0 SM) HM
  have m15 := HM2.2.2.2.2.2.1
  refine e_isWord (by omega) (HE.1 5 (by omega)) (fun h => ?_) (fun p hp e2 => ?_)
  · rw [if_pos rfl]
    intro S2 hS2; subst hS2
    exact m_isWordAt (by omega) m15 (fun _ => by rw [if_pos rfl]; exact hK _) (fun p hp e2 => absurd h (pl_no (by omega) hp e2))
  rw [if_neg (by decide)]
  subst e2
  have mm : ∀ r, w_X12_within w (0 : Int32) (2 : Int32) (sI SM 0 0 0) (fun r16_5 S16_4 => (if r16_5 = 0 then (K r (-1 : Int32) SE S16_4) else ((if w = 0 then (vp_in (nI p) 12 ∧ (K r (gI S16_4 6 (nI p).toNatClampNeg) SE S16_4)) else ((if w = (1 : Int32) then (vp_in (nI p) 12 ∧ (K r (gI S16_4 7 (nI p).toNatClampNeg) SE S16_4)) else (vp_in (nI p) 12 ∧ (K r (gI S16_4 8 (nI p).toNatClampNeg) SE S16_4)))))))) → w_X12_word (nI p) w SM (fun r' S2 => K r r' SE S2) := by
    intro r hr S2 hS2
    subst hS2
    refine m_isWordAt (by omega) m15 (fun h => absurd h (pl_no (by omega) hp rfl)) (fun _ _ _ => ?_)
    rw [if_neg (by decide)]; exact hr
  have hin : vp_in (nI p) 12 := vp_in_nI (by omega) (by omega)
  have hv := HM2.2.2.2.2.2.2.2.2.1 p hp
  by_cases e0 : w = 0
  · rw [if_pos e0]
    refine e_cell (by show p < 12; omega) (by decide) (mm _ (m_within (fun h => absurd h (by subst e0; decide)) (fun _ _ => ?_)))
    rw [if_neg (by decide), if_pos e0, nI_clamp (by omega)]
    refine ⟨hin, ?_⟩
    rw [hv.1, ← HE.2.2 4 p (by omega) (by omega) hp]
    exact hK _
  rw [if_neg e0]
  by_cases e1 : w = 1
  · rw [if_pos e1]
    refine e_cell (by show p < 12; omega) (by decide) (mm _ (m_within (fun h => absurd h (by subst e1; decide)) (fun _ _ => ?_)))
    rw [if_neg (by decide), if_neg e0, if_pos e1, nI_clamp (by omega)]
    refine ⟨hin, ?_⟩
    rw [hv.2.1, ← HE.2.2 5 p (by omega) (by omega) hp]
    exact hK _
  rw [if_neg e1]
  by_cases e2 : w = 2
  · rw [if_pos e2]
    refine e_cell (by show p < 12; omega) (by decide) (mm _ (m_within (fun h => absurd h (by subst e2; decide)) (fun _ _ => ?_)))
    rw [if_neg (by decide), if_neg e0, if_neg e1, nI_clamp (by omega)]
    refine ⟨hin, ?_⟩
    rw [hv.2.2, ← HE.2.2 6 p (by omega) (by omega) hp]
    exact hK _
  · rw [if_neg e2]
    refine mm _ (m_within (fun _ => by rw [if_pos rfl]; exact hK _) (fun h1 h2 => absurd (i_no e0 e1 e2) (fun h => h.elim h1 h2)))
theorem e_forbids {F : Fm} {S : St} {Q : Int32 → St → Prop} {o a b : Nat} (hl : lnE (o + 7) = 12) (hF : FW F) (H : FE o F S) (ha : a < F 0 5) (hb : b < F 0 5) (hQ : Q (if (F 7 a).testBit b then 1 else 0) S) : w_X4_forbids o (nI a) (nI b) S Q := by
  have hw := hF.1.2.2.2.2.2.2.1
  have hx := pow12 hw (hF.2.2.2 a ha).2.2.2
  refine e_cell (by omega) (by omega) ?_
  rw [H.2.2 7 a (by omega) (by omega) ha]
  refine bN_if (by omega) (by omega) (fun c => ?_) (fun c => ?_)
  · rw [c] at hQ; exact hQ
  · rw [c] at hQ; exact hQ
theorem c_barred {F : Fm} {D : Dr} {pa pb : Nat → Nat} {SE SM : St} {K : Int32 → Int32 → St → St → Prop} {a b : Int32} (hF : FW F) (HE : FE 21 F SE) (HM : MF F D pa pb SM) (hK : ∀ r, K r r SE (sI SM 0 0 0)) : w_X11_barred a b SE (fun r S1 => w_X12_barred a b SM (fun r' S2 => K r r' S1 S2)) := by
  have hw := hF.1.2.2.2.2.2.2.1
  have HM2 := MF_fr hF (fr0 SM) HM
  have m15 := HM2.2.2.2.2.2.1
  refine e_isWord (by omega) (HE.1 5 (by omega)) (fun h => ?_) (fun p hp e2 => ?_)
  · rw [if_pos rfl]
    intro S2 hS2; subst hS2
    exact m_isWordAt (by omega) m15 (fun _ => by rw [if_pos rfl]; exact hK _) (fun p hp e2 => absurd h (pl_no (by omega) hp e2))
  rw [if_neg (by decide)]
  subst e2
  have mm : ∀ r, w_X12_isWordAt b (sI SM 0 0 0) (fun r15_5 S15_4 => (if r15_5 = 0 then (K r (-1 : Int32) SE S15_4) else (vp_in (((12 : Int32) * nI p) + b) 144 ∧ ((if gI S15_4 9 (((12 : Int32) * nI p) + b).toNatClampNeg = 0 then (K r (0 : Int32) SE S15_4) else (K r (1 : Int32) SE S15_4)))))) → w_X12_barred (nI p) b SM (fun r' S2 => K r r' SE S2) := by
    intro r hr S2 hS2
    subst hS2
    refine m_isWordAt (by omega) m15 (fun h => absurd h (pl_no (by omega) hp rfl)) (fun _ _ _ => ?_)
    rw [if_neg (by decide)]; exact hr
  refine e_isWord (by omega) (HE.1 5 (by omega)) (fun h => ?_) (fun q hq e2 => ?_)
  · rw [if_pos rfl]
    refine mm _ (m_isWordAt (by omega) m15 (fun _ => ?_) (fun p hp e2 => absurd h (pl_no (by omega) hp e2)))
    rw [if_pos rfl]; exact hK _
  rw [if_neg (by decide)]
  subst e2
  refine e_forbids rfl hF HE hp hq ?_
  have i1 : (12 : Int32) * nI p + nI q = nI (12 * p + q) := by rw [← nI_add, ← pk_mul]; rfl
  have hv := HM2.2.2.2.2.2.2.2.2.2.2 p q hp hq
  have mm2 : ∀ r, (if (F 7 p).testBit q = true then K r 1 SE (sI SM 0 0 0) else K r 0 SE (sI SM 0 0 0)) → w_X12_barred (nI p) (nI q) SM (fun r' S2 => K r r' SE S2) := by
    intro r hr
    refine mm r (m_isWordAt (by omega) m15 (fun h => absurd h (pl_no (by omega) hq rfl)) (fun _ _ _ => ?_))
    rw [if_neg (by decide), i1, nI_clamp (by omega), hv]
    refine ⟨vp_in_nI (by omega) (by omega), ?_⟩
    by_cases c : (F 7 p).testBit q = true
    · rw [if_pos c] at hr
      rw [if_pos c, if_neg (by decide)]; exact hr
    · rw [if_neg c] at hr
      rw [if_neg c, if_pos rfl]; exact hr
  by_cases c : (F 7 p).testBit q = true
  · rw [if_pos c, if_neg (by decide)]
    refine mm2 _ ?_
    rw [if_pos c]; exact hK _
  · rw [if_neg c, if_pos rfl]
    refine mm2 _ ?_
    rw [if_neg c]; exact hK _
theorem i_08 {w : Int32} (h : ¬ w < 0) (h2 : ¬ 8 < w) (h0 : ¬ w = 0) (h1 : ¬ w = 1) (h3 : ¬ w = 2) (h4 : ¬ w = 3) (h5 : ¬ w = 4) (h6 : ¬ w = 5) (h7 : ¬ w = 6) (h8 : ¬ w = 7) : w = 8 := by
  obtain ⟨j, hj, rfl⟩ := nI_of2 (M := 8) (n := 8) (by decide) h (Int32.not_lt.mp h2)
  have : j = 8 := by
    rcases Nat.lt_or_ge j 8 with q | q
    · exfalso
      have : j = 0 ∨ j = 1 ∨ j = 2 ∨ j = 3 ∨ j = 4 ∨ j = 5 ∨ j = 6 ∨ j = 7 := by omega
      rcases this with rfl | rfl | rfl | rfl | rfl | rfl | rfl | rfl
      · exact h0 rfl
      · exact h1 rfl
      · exact h3 rfl
      · exact h4 rfl
      · exact h5 rfl
      · exact h6 rfl
      · exact h7 rfl
      · exact h8 rfl
    · omega
  rw [this]; rfl
theorem c_count {F : Fm} {D : Dr} {pa pb : Nat → Nat} {t : Nat} {SE SM : St} {K : Int32 → Int32 → St → St → Prop} {w : Int32} (hF : FW F) (HE : FE 21 F SE) (HD : DE 30 D SE) (hT : gI SE 1 5 = nI t) (HM : MF F D pa pb SM) (hT2 : gI SM 0 1 = nI t) (hK : ∀ r, K r r SE (sI SM 0 0 0)) : w_X11_count w SE (fun r S1 => w_X12_count w SM (fun r' S2 => K r r' S1 S2)) := by
  have HM2 := MF_fr hF (fr0 SM) HM
  have hT3 : gI (sI SM 0 0 0) 0 1 = nI t := by rw [fr0 SM 0 1 rfl]; exact hT2
  obtain ⟨⟨⟨m10, -⟩, m12, -⟩, -, m11, m13, m14, m15, m16, m65, -⟩ := HM2
  by_cases e0 : w = 0
  · subst e0
    unfold w_X11_count
    rw [if_pos rfl, HE.1 0 (by omega)]
    intro S2 hS2; subst hS2
    refine m_within (fun h => absurd h (by decide)) (fun _ _ => ?_)
    rw [if_neg (by decide), if_pos rfl, m10]
    exact hK _
  by_cases e1 : w = 1
  · subst e1
    unfold w_X11_count
    rw [if_neg (by decide), if_pos rfl, HE.1 1 (by omega)]
    intro S2 hS2; subst hS2
    refine m_within (fun h => absurd h (by decide)) (fun _ _ => ?_)
    rw [if_neg (by decide), if_neg (by decide), if_pos rfl, m11]
    exact hK _
  by_cases e2 : w = 2
  · subst e2
    unfold w_X11_count
    rw [if_neg (by decide), if_neg (by decide), if_pos rfl, HE.1 2 (by omega)]
    intro S2 hS2; subst hS2
    refine m_within (fun h => absurd h (by decide)) (fun _ _ => ?_)
    rw [if_neg (by decide), if_neg (by decide), if_neg (by decide), if_pos rfl, m12]
    exact hK _
  by_cases e3 : w = 3
  · subst e3
    unfold w_X11_count
    rw [if_neg (by decide), if_neg (by decide), if_neg (by decide), if_pos rfl, HE.1 3 (by omega)]
    intro S2 hS2; subst hS2
    refine m_within (fun h => absurd h (by decide)) (fun _ _ => ?_)
    rw [if_neg (by decide), if_neg (by decide), if_neg (by decide), if_neg (by decide), if_pos rfl, m13]
    exact hK _
  by_cases e4 : w = 4
  · subst e4
    unfold w_X11_count
    rw [if_neg (by decide), if_neg (by decide), if_neg (by decide), if_neg (by decide), if_pos rfl, HE.1 4 (by omega)]
    intro S2 hS2; subst hS2
    refine m_within (fun h => absurd h (by decide)) (fun _ _ => ?_)
    rw [if_neg (by decide), if_neg (by decide), if_neg (by decide), if_neg (by decide), if_neg (by decide), if_pos rfl, m14]
    exact hK _
  by_cases e5 : w = 5
  · subst e5
    unfold w_X11_count
    rw [if_neg (by decide), if_neg (by decide), if_neg (by decide), if_neg (by decide), if_neg (by decide), if_pos rfl, HE.1 5 (by omega)]
    intro S2 hS2; subst hS2
    refine m_within (fun h => absurd h (by decide)) (fun _ _ => ?_)
    rw [if_neg (by decide), if_neg (by decide), if_neg (by decide), if_neg (by decide), if_neg (by decide), if_neg (by decide), if_pos rfl, m15]
    exact hK _
  by_cases e6 : w = 6
  · subst e6
    unfold w_X11_count
    rw [if_neg (by decide), if_neg (by decide), if_neg (by decide), if_neg (by decide), if_neg (by decide), if_neg (by decide), if_pos rfl, HE.1 6 (by omega)]
    intro S2 hS2; subst hS2
    refine m_within (fun h => absurd h (by decide)) (fun _ _ => ?_)
    rw [if_neg (by decide), if_neg (by decide), if_neg (by decide), if_neg (by decide), if_neg (by decide), if_neg (by decide), if_neg (by decide), if_pos rfl, m16]
    exact hK _
  by_cases e7 : w = 7
  · subst e7
    unfold w_X11_count
    rw [if_neg (by decide), if_neg (by decide), if_neg (by decide), if_neg (by decide), if_neg (by decide), if_neg (by decide), if_neg (by decide), if_pos rfl, HD.1]
    intro S2 hS2; subst hS2
    refine m_within (fun h => absurd h (by decide)) (fun _ _ => ?_)
    rw [if_neg (by decide), if_neg (by decide), if_neg (by decide), if_neg (by decide), if_neg (by decide), if_neg (by decide), if_neg (by decide), if_neg (by decide), if_pos rfl, m65]
    exact hK _
  by_cases e8 : w = 8
  · subst e8
    unfold w_X11_count
    rw [if_neg (by decide), if_neg (by decide), if_neg (by decide), if_neg (by decide), if_neg (by decide), if_neg (by decide), if_neg (by decide), if_neg (by decide), if_pos rfl, hT]
    intro S2 hS2; subst hS2
    refine m_within (fun h => absurd h (by decide)) (fun _ _ => ?_)
    rw [if_neg (by decide), if_neg (by decide), if_neg (by decide), if_neg (by decide), if_neg (by decide), if_neg (by decide), if_neg (by decide), if_neg (by decide), if_neg (by decide), hT3]
    exact hK _
  unfold w_X11_count
  rw [if_neg e0, if_neg e1, if_neg e2, if_neg e3, if_neg e4, if_neg e5, if_neg e6, if_neg e7, if_neg e8]
  intro S2 hS2; subst hS2
  refine m_within (fun _ => ?_) (fun a b => absurd (i_08 a b e0 e1 e2 e3 e4 e5 e6 e7) e8)
  rw [if_pos rfl]
  exact hK _
