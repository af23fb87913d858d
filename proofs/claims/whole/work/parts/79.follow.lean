/-! ===== pure: the class's stanzas stand behind follow; the reference's classes; rhymes and beside agree ===== -/
theorem upL1 {B : (Int64 → St → Prop) → Int64 → St → Prop} (n : Nat) (I : Nat → St → Prop)
    (hs : ∀ (k : Int64 → St → Prop) j S, j < n → I j S → (∀ S' x, x = lN j + 1 → I (j + 1) S' → k x S') → B k (lN j) S)
    (he : ∀ (k : Int64 → St → Prop) S, I n S → B k (lN n) S) (j0 : Nat) (hj : j0 ≤ n) {S : St} (h0 : I j0 S) : ∃ m, lpn (fun _ _ => False) B m (lN j0) S := by
  refine loopG1 (fun g v S => ∃ j, j ≤ n ∧ g = n - j ∧ v = lN j ∧ I j S) ?_ (n - j0) _ ⟨j0, hj, rfl, rfl, h0⟩
  rintro k g x0 S ⟨j, h1, rfl, rfl, h2⟩ hk
  by_cases e : j = n
  · subst e; exact he k S h2
  · refine hs k j S (by omega) h2 (fun S' x hx h3 => ?_)
    rw [show x = lN (j + 1) from hx.trans (lN_1' j)]
    exact hk (n - (j + 1)) _ _ ⟨j + 1, by omega, rfl, rfl, h3⟩ (by omega)
theorem e_stanzas {F : Fm} {S : St} {Q : St → Prop} (hF : FW F) (hE : FE 21 F S) (hQ : ∀ S' L, frX [34, 35, 36, 37, 38, 39, 40, 41, 42] S S' → EZ F L S' → Q S') : w_X9_follow 21 S Q := by
  have hn0 := hF.1.1
  have hn := hF.1.2.1
  have h := hF.2.1
  have h22 : ∀ T, frX [34, 35, 36, 37, 38, 39, 40, 41, 42] S T → ∀ i, i < F 0 0 → gI T 22 i = nI (F 1 i) := fun T hT i hi => by
    rw [frX_g hT 22 i (by decide)]; exact hE.2.1 1 i (by omega) (by omega) hi
  have h21 : ∀ T, frX [34, 35, 36, 37, 38, 39, 40, 41, 42] S T → gI T 21 0 = nI (F 0 0) := fun T hT => by
    rw [frX_g hT 21 0 (by decide)]; exact hE.1 0 (by omega)
  have hET : ∀ T, frX [34, 35, 36, 37, 38, 39, 40, 41, 42] S T → FE 21 F T := fun T hT => by
    refine ⟨fun j hj => ?_, fun k j k1 k2 hj => ?_, fun k j k1 k2 hj => ?_⟩
    · rw [frX_g hT 21 j (by decide)]; exact hE.1 j hj
    · rw [frX_g hT (21 + k) j (by simp; omega)]; exact hE.2.1 k j k1 k2 hj
    · rw [frX_g hT (21 + k) j (by simp; omega)]; exact hE.2.2 k j k1 k2 hj
  have hrl : rnd (F 0 0) (F 1) ≤ 27720 := rnd_le h hn (Nat.le_refl _)
  -- the stanzas
  have key3 : ∀ U, frX [34, 35, 36, 37, 38, 39, 40, 41, 42] S U → ET (F 0 0) (F 1) (inv (F 0 0) (F 1)) U → (∀ a b, a < F 0 0 → b < F 0 0 → gI U 40 (a * 12 + b) = 0) → (∀ p, p < F 0 0 → gI U 41 p = nI p) → (∀ p, p < F 0 0 → gI U 39 p = nI p) → w_X9_follow_108 21 Q (0 : Int64) U := by
    intro U hU hT h40 h41 h39
    have t34 : gI U 34 7 = nI (F 0 0) := hT.2.2.2.2.1
    have t37 := hT.2.2.2.2.2.2.1
    have t35 : gJ U 35 5 = lN (rnd (F 0 0) (F 1)) := hT.2.2.2.2.2.2.2.2.2.2.2.2.2
    refine upL1 (B := b_X9_follow_108 21 Q) (rnd (F 0 0) (F 1)) (fun s S' => frX [39, 40, 41, 42] U S' ∧ (∀ p, p < F 0 0 → gI S' 41 p = nI (it (F 1) s p)) ∧ (∀ a b, a < F 0 0 → b < F 0 0 → gI S' 40 (a * 12 + b) = nI (ahdU (F 0 0) (F 1) a b s)) ∧ ∃ L, Lab (clU F s) (F 0 0) L ∧ ∀ e, e < F 0 0 → gI S' 39 e = nI (L e)) ?_ ?_ 0 (by omega) ⟨frX_refl _ _, h41, h40, fun e => e, Lab_init (fun _ _ => rfl) (fun a b ⟨s, _, _, q, _⟩ => by omega), h39⟩
    · rintro kk s S' hs ⟨hf, i1, i2, L, i3, i4⟩ hkk
      unfold b_X9_follow_108
      rw [frX_gJ hf 35 5 (by decide), t35, if_pos ((pk_lLT (by omega) (by omega)).mpr hs)]
      refine e_addNeighbours hn0 hn h (by omega) (by rw [frX_g hf 34 7 (by decide)]; exact t34) i1 i2 ?_
      intro S2 hf2 j2
      have hf2a : frX [39, 40, 41, 42] U S2 := frX_trans hf (frX_sub hf2 (by simp))
      refine e_addRhymes (F := F) (s := s) hF (hET S2 (frX_trans hU (frX_sub hf2a (by simp)))) (by rw [frX_g hf2a 34 7 (by decide)]; exact t34) (fun p hp => by rw [frX_g hf2 41 p (by decide)]; exact i1 p hp) i3 (fun e he => by rw [frX_g hf2 39 e (by decide)]; exact i4 e he) ?_
      intro S3 L3 hf3 j3 j4
      have hf3a : frX [39, 40, 41, 42] U S3 := frX_trans hf2a (frX_sub hf3 (by simp))
      refine e_turnRow (s := s) hn h (by rw [frX_g hf3a 34 7 (by decide)]; exact t34) (fun p hp => by rw [frX_g hf3a 37 p (by decide)]; exact t37 p hp) (fun p hp => by rw [frX_g hf3 41 p (by decide), frX_g hf2 41 p (by decide)]; exact i1 p hp) ?_
      intro S4 hf4 j5 x hx
      refine hkk _ _ hx ⟨frX_trans hf3a (frX_sub hf4 (by simp)), j5, fun a b ha hb => ?_, L3, j3, fun e he => ?_⟩
      · rw [frX_g hf4 40 _ (by decide), frX_g hf3 40 _ (by decide)]; exact j2 a b ha hb
      · rw [frX_g hf4 39 e (by decide)]; exact j4 e he
    · rintro kk S' ⟨hf, i1, i2, L, i3, i4⟩
      unfold b_X9_follow_108
      rw [frX_gJ hf 35 5 (by decide), t35, if_neg (fun q => absurd ((pk_lLT (by omega) (by omega)).mp q) (Nat.lt_irrefl _))]
      have hfS := frX_trans hU (frX_sub hf (m := [34, 35, 36, 37, 38, 39, 40, 41, 42]) (by simp))
      obtain ⟨u1, u2, u3, u4, u5, u6, u7, u8, u9, u10, u11, u12, u13, u14⟩ := hT
      refine hQ S' L hfS ⟨⟨u1, u2, u3, h21 S' hfS, ?_, h22 S' hfS, fun i hi => ?_, fun i hi => ?_, fun i hi => ?_, ?_, ?_, ?_, ?_, ?_⟩, i3, i4, i2⟩
      · rw [frX_g hf 34 7 (by decide)]; exact u5
      · rw [frX_g hf 37 i (by decide)]; exact u7 i hi
      · rw [frX_g hf 38 i (by decide)]; exact u8 i hi
      · rw [frX_g hf 36 i (by decide)]; exact u9 i hi
      · rw [frX_g hf 35 1 (by decide)]; exact u10
      · rw [frX_g hf 35 2 (by decide)]; exact u11
      · rw [frX_g hf 35 3 (by decide)]; exact u12
      · rw [frX_g hf 35 4 (by decide)]; exact u13
      · rw [frX_gJ hf 35 5 (by decide)]; exact u14
  have key2 : ∀ U, frX [34, 35, 36, 37, 38, 39, 40, 41, 42] S U → ET (F 0 0) (F 1) (inv (F 0 0) (F 1)) U → (∀ a b, a < F 0 0 → b < F 0 0 → gI U 40 (a * 12 + b) = 0) → w_X9_follow_76 21 Q (0 : Int32) U := by
    intro U hU hT h40
    refine up1 (B := b_X9_follow_76 21 Q) 12 (by omega) (fun p S' => frX [39, 41] U S' ∧ (∀ j, j < p → gI S' 41 j = nI j) ∧ ∀ j, j < p → gI S' 39 j = nI j) ?_ ?_ 0 (by omega) ⟨frX_refl _ _, fun j hj => absurd hj (Nat.not_lt_zero _), fun j hj => absurd hj (Nat.not_lt_zero _)⟩
    · rintro kk p S' hp ⟨hf, i1, i2⟩ hkk
      unfold b_X9_follow_76
      rw [if_neg (show ¬ (12 : Int32) ≤ nI p from nI_ge (b := 12) hp (by omega))]
      refine e_put (by show p < 12; omega) (by decide) (e_put (by show p < 12; omega) (by decide) ?_)
      intro x hx
      refine hkk _ _ hx ⟨frX_sI (frX_sI hf (by decide)) (by decide), fun j hj => ?_, fun j hj => ?_⟩
      · rw [gI_sI, if_neg (by omega), gI_sI]
        by_cases c : j = p
        · subst c; rw [if_pos ⟨rfl, rfl⟩]
        · rw [if_neg (fun x => c x.2)]; exact i1 j (by omega)
      · rw [gI_sI]
        by_cases c : j = p
        · subst c; rw [if_pos ⟨rfl, rfl⟩]
        · rw [if_neg (fun x => c x.2), gI_sI, if_neg (by omega)]; exact i2 j (by omega)
    · rintro kk S' ⟨hf, i1, i2⟩
      unfold b_X9_follow_76
      rw [if_pos (show (12 : Int32) ≤ nI 12 from nI_le (a := 12) (Nat.le_refl _) (by omega))]
      have hfS := frX_trans hU (frX_sub hf (m := [34, 35, 36, 37, 38, 39, 40, 41, 42]) (by simp))
      obtain ⟨u1, u2, u3, u4, u5, u6, u7, u8, u9, u10, u11, u12, u13, u14⟩ := hT
      refine key3 S' hfS ⟨u1, u2, u3, h21 S' hfS, ?_, h22 S' hfS, fun i hi => ?_, fun i hi => ?_, fun i hi => ?_, ?_, ?_, ?_, ?_, ?_⟩ (fun a b ha hb => ?_) (fun p hp => i1 p (by omega)) (fun p hp => i2 p (by omega))
      · rw [frX_g hf 34 7 (by decide)]; exact u5
      · rw [frX_g hf 37 i (by decide)]; exact u7 i hi
      · rw [frX_g hf 38 i (by decide)]; exact u8 i hi
      · rw [frX_g hf 36 i (by decide)]; exact u9 i hi
      · rw [frX_g hf 35 1 (by decide)]; exact u10
      · rw [frX_g hf 35 2 (by decide)]; exact u11
      · rw [frX_g hf 35 3 (by decide)]; exact u12
      · rw [frX_g hf 35 4 (by decide)]; exact u13
      · rw [frX_gJ hf 35 5 (by decide)]; exact u14
      · rw [frX_g hf 40 _ (by decide)]; exact h40 a b ha hb
  have key1 : ∀ T, frX [34, 35, 36, 37, 38, 39, 40, 41, 42] S T → gI T 34 7 = nI (F 0 0) → (∀ i, i < F 0 0 → gI T 37 i = nI (F 1 i)) → w_X9_follow_21 21 Q (0 : Int32) T := by
    intro T hT t34 t37
    refine up1 (B := b_X9_follow_21 21 Q) (F 0 0) (by omega) (fun p S' => frX [38] T S' ∧ ∀ j, j < p → gI S' 38 (F 1 j) = nI j) ?_ ?_ 0 (by omega) ⟨frX_refl _ _, fun j hj => absurd hj (Nat.not_lt_zero _)⟩
    · rintro kk p S' hp ⟨hf, i1⟩ hkk
      unfold b_X9_follow_21
      have hfp := h.1 p hp
      rw [frX_g hf 34 7 (by decide), t34, if_neg (nI_ge hp (by omega))]
      refine e_cell (by show p < 12; omega) (by decide) ?_
      rw [frX_g hf 37 p (by decide), t37 p hp]
      refine e_put (by show _ < 12; omega) (by decide) ?_
      intro x hx
      refine hkk _ _ hx ⟨frX_sI hf (by decide), fun j hj => ?_⟩
      rw [gI_sI]
      by_cases c : j = p
      · subst c; rw [if_pos ⟨rfl, rfl⟩]
      · rw [if_neg (fun x => c (h.2 _ _ (by omega) hp x.2))]; exact i1 j (by omega)
    · rintro kk S' ⟨hf, i1⟩
      unfold b_X9_follow_21
      have s34 : gI S' 34 7 = nI (F 0 0) := by rw [frX_g hf 34 7 (by decide)]; exact t34
      rw [s34, if_pos (nI_le (Nat.le_refl _) (by omega))]
      refine e_follow (o := 35) (a := 37) (f := F 1) (by decide) (by decide) (by show _ ≤ 12; exact hn) (by decide) (by show _ ≤ 12; exact hn) (by decide) h (fun i hi => by rw [frX_g hf 37 i (by decide)]; exact t37 i hi) (fun m hm => by have := rnd_le h hn hm; omega) ?_
      refine e_blank (by decide) ?_
      have hfc : frX [34, 35, 36, 37, 38, 39, 40, 41, 42] S S' := frX_trans hT (frX_sub hf (by simp))
      refine key2 _ (frX_row (frX_cyc hfc (by decide) (by decide)) (by decide)) ⟨hn, h, fun i hi => inv_f h hi, ?_, ?_, ?_, ?_, ?_, ?_, ?_, ?_, ?_, ?_, ?_⟩ ?_
      · rw [gI_setRow, if_neg (by omega), cycS_go _ _ _ _ _ _ _ _ (by decide) (by decide)]; exact h21 S' hfc
      · rw [gI_setRow, if_neg (by omega), cycS_go _ _ _ _ _ _ _ _ (by decide) (by decide)]; exact s34
      · intro i hi
        rw [gI_setRow, if_neg (by omega), cycS_go _ _ _ _ _ _ _ _ (by decide) (by decide)]; exact h22 S' hfc i hi
      · intro i hi
        rw [gI_setRow, if_neg (by omega), cycS_go _ _ _ _ _ _ _ _ (by decide) (by decide), frX_g hf 37 i (by decide)]; exact t37 i hi
      · intro i hi
        have hi2 := f_inv h hi
        have := i1 _ hi2.2
        rw [hi2.1] at this
        rw [gI_setRow, if_neg (by omega), cycS_go _ _ _ _ _ _ _ _ (by decide) (by decide)]; exact this
      · intro i hi
        rw [gI_setRow, if_neg (by omega)]
        show gI (cycS S' 35 _ _ _ _ _ _) (35 + 1) i = _
        rw [cycS_gr _ _ _ _ _ _ _ _ (by show i < 12; omega), if_pos hi]
      · rw [gI_setRow, if_neg (by omega), cycS_g1]
      · rw [gI_setRow, if_neg (by omega), cycS_g2]
      · rw [gI_setRow, if_neg (by omega), cycS_g3]
      · rw [gI_setRow, if_neg (by omega), cycS_g4]
      · rw [gJ_setRow, cycS_g5]
      · intro a b ha hb
        rw [gI_setRow, if_pos ⟨rfl, by show _ < 144; omega⟩]
  intro S1 hS1
  subst hS1
  refine e_copyRow (by decide) (by decide) (by decide) ?_
  refine key1 _ (frX_row (frX_sI (frX_refl _ _) (by decide)) (by decide)) ?_ ?_
  · rw [gI_setRow, if_neg (by omega), gI_sI, if_pos ⟨rfl, rfl⟩]; exact hE.1 0 (by omega)
  · intro i hi
    rw [gI_setRow, if_pos ⟨rfl, by show i < 12; omega⟩, gI_sI, if_neg (by omega)]
    exact hE.2.1 1 i (by omega) (by omega) hi
/-- the lines with rhyme as the reference holds them -/
def PW (F : Fm) (pa pb : Nat → Nat) : Prop :=
  (∀ k, k < F 0 2 → pa k < F 0 0 ∧ pb k < F 0 0 ∧ pa k ≠ pb k) ∧ ∀ a b, a < F 0 0 → b < F 0 0 → ((F 2 a).testBit b = true ↔ ∃ k, k < F 0 2 ∧ (pa k = a ∧ pb k = b ∨ pa k = b ∧ pb k = a))
/-- the reference's turning and its lines with rhyme -/
def MP (F : Fm) (pa pb : Nat → Nat) (S : St) : Prop := MT (F 0 0) (F 1) S ∧ gI S 0 12 = nI (F 0 2) ∧ ∀ k, k < F 0 2 → gI S 3 k = nI (pa k) ∧ gI S 4 k = nI (pb k)
theorem MP_fr {F : Fm} {pa pb : Nat → Nat} {S S' : St} (hf : frM S S') (hn : F 0 0 ≤ 12) (H : MP F pa pb S) : MP F pa pb S' := by
  obtain ⟨⟨h1, h2⟩, h3, h4⟩ := H
  refine ⟨⟨?_, fun i hi => ?_⟩, ?_, fun k hk => ?_⟩
  · rw [hf 0 10 rfl]; exact h1
  · rw [hf 2 i rfl]; exact h2 i hi
  · rw [hf 0 12 rfl]; exact h3
  · rw [hf 3 k rfl, hf 4 k rfl]; exact h4 k hk
def clM (F : Fm) (pa pb : Nat → Nat) (m k0 : Nat) (a b : Nat) : Prop := ∃ s k, k < F 0 2 ∧ (s < m ∨ (s = m ∧ k < k0)) ∧ a = it (F 1) s (pa k) ∧ b = it (F 1) s (pb k)
theorem m_classes {F : Fm} {pa pb L : Nat → Nat} {S : St} {Q : St → Prop} (hF : FW F) (hP : PW F pa pb) (hM : MP F pa pb S) (hL : Lab (clR F) (F 0 0) L)
    (hQ : ∀ S', frM S S' → (∀ b j, b ≠ 37 → gI S' b j = gI S b j) → (∀ e, e < F 0 0 → gI S' 37 e = nI (L e)) → Q S') : w_X12_classes S Q := by
  have hn := hF.1.2.1
  have h := hF.2.1
  have hr8 := hF.1.2.2.2.1
  have hrl : rnd (F 0 0) (F 1) ≤ 27720 := rnd_le h hn (Nat.le_refl _)
  have fin : ∀ S' L1, frM S S' → (∀ b j, b ≠ 37 → gI S' b j = gI S b j) → Lab (clM F pa pb (rnd (F 0 0) (F 1)) 0) (F 0 0) L1 → (∀ e, e < F 0 0 → gI S' 37 e = nI (L1 e)) → Q S' := by
    intro S' L1 hf ho l1 l2
    refine hQ S' hf ho (fun e he => ?_)
    rw [l2 e he]
    congr 1
    refine Lab_uniq l1 hL ?_ ?_ e he
    · rintro a b ⟨s, k, hk, hs, rfl, rfl⟩
      obtain ⟨q1, q2, q3⟩ := hP.1 k hk
      have hb := (hP.2 _ _ q1 q2).mpr ⟨k, hk, Or.inl ⟨rfl, rfl⟩⟩
      have hb2 := (hP.2 _ _ q2 q1).mpr ⟨k, hk, Or.inr ⟨rfl, rfl⟩⟩
      rcases Nat.lt_or_ge (pb k) (pa k) with c | c
      · exact Or.inl ⟨s, pa k, pb k, by omega, q1, c, hb, rfl, rfl⟩
      · exact Or.inr ⟨s, pb k, pa k, by omega, q2, by omega, hb2, rfl, rfl⟩
    · rintro a b ⟨s, p, q, hs, hp, hq, ht, rfl, rfl⟩
      obtain ⟨k, hk, c⟩ := (hP.2 p q hp (by omega)).mp ht
      rcases c with ⟨rfl, rfl⟩ | ⟨rfl, rfl⟩
      · exact Or.inl ⟨s, k, hk, Or.inl hs, rfl, rfl⟩
      · exact Or.inr ⟨s, k, hk, Or.inl hs, rfl, rfl⟩
  have mk : ∀ S', frM S S' → MP F pa pb S' := fun S' hf => MP_fr hf hn hM
  have fset : ∀ T e v, frM S T → (∀ b j, b ≠ 37 → gI T b j = gI S b j) → frM S (sI T 37 e v) ∧ ∀ b j, b ≠ 37 → gI (sI T 37 e v) b j = gI S b j := fun T e v hf ho =>
    ⟨frM_row hf (by omega), fun b j hb => by rw [gI_sI, if_neg (fun q => hb q.1)]; exact ho b j hb⟩
  refine up1 (B := b_X12_classes_2 Q) 12 (by omega) (fun p S' => frM S S' ∧ (∀ b j, b ≠ 37 → gI S' b j = gI S b j) ∧ ∀ j, j < p → gI S' 37 j = nI j) ?_ ?_ 0 (by omega) ⟨frM_refl _, fun _ _ _ => rfl, fun j hj => absurd hj (Nat.not_lt_zero _)⟩
  · rintro kk p S' hp ⟨hf, ho, i1⟩ hkk
    unfold b_X12_classes_2
    rw [if_neg (show ¬ (12 : Int32) ≤ nI p from nI_ge (b := 12) hp (by omega))]
    refine ⟨vp_in_nI hp (by omega), fun S2 hS2 x hx => ?_⟩
    rw [nI_clamp (by omega)] at hS2
    subst hS2
    obtain ⟨a1, a2⟩ := fset S' p (nI p) hf ho
    refine hkk _ _ hx ⟨a1, a2, fun j hj => ?_⟩
    rw [gI_sI]
    by_cases c : j = p
    · subst c; rw [if_pos ⟨rfl, rfl⟩]
    · rw [if_neg (fun x => c x.2)]; exact i1 j (by omega)
  · rintro kk S' ⟨hf, ho, i1⟩
    unfold b_X12_classes_2
    rw [if_pos (show (12 : Int32) ≤ nI 12 from nI_le (a := 12) (Nat.le_refl _) (by omega))]
    have hMS := mk S' hf
    refine m_roundIs hn h hMS.1.2 hMS.1.1 ?_
    refine up1 (B := b_X12_classes_28 Q (nI (rnd (F 0 0) (F 1)))) (rnd (F 0 0) (F 1)) (by omega) (fun s S2 => frM S S2 ∧ (∀ b j, b ≠ 37 → gI S2 b j = gI S b j) ∧ ∃ L1, Lab (clM F pa pb s 0) (F 0 0) L1 ∧ ∀ e, e < F 0 0 → gI S2 37 e = nI (L1 e)) ?_ ?_ 0 (by omega) ⟨hf, ho, fun e => e, Lab_init (fun _ _ => rfl) (fun a b ⟨s, k, _, q, _⟩ => by omega), fun e he => i1 e (by omega)⟩
    · rintro k1 s S2 hs ⟨hf2, ho2, L1, l1, l2⟩ hk1
      unfold b_X12_classes_28
      rw [if_neg (nI_ge hs (by omega))]
      refine up1 (B := b_X12_classes_35 k1 (nI (rnd (F 0 0) (F 1))) (nI s)) (F 0 2) (by omega) (fun k S3 => frM S S3 ∧ (∀ b j, b ≠ 37 → gI S3 b j = gI S b j) ∧ ∃ L1, Lab (clM F pa pb s k) (F 0 0) L1 ∧ ∀ e, e < F 0 0 → gI S3 37 e = nI (L1 e)) ?_ ?_ 0 (by omega) ⟨hf2, ho2, L1, l1, l2⟩
      · rintro k2 k S3 hk ⟨hf3, ho3, L2, l3, l4⟩ hk2
        unfold b_X12_classes_35
        have hM3 := mk S3 hf3
        obtain ⟨q1, q2, q3⟩ := hP.1 k hk
        have ia := it_lt h q1 s
        have ib := it_lt h q2 s
        have la := Lab_lt l3 ia
        have lb := Lab_lt l3 ib
        rw [hM3.2.1, if_neg (nI_ge hk (by omega))]
        refine ⟨vp_in_nI (by omega) (by omega), ?_⟩
        rw [nI_clamp (by omega), (hM3.2.2 k hk).1, nI_l (by omega)]
        refine m_endAt hn h hM3.1.2 q1 (by omega) ?_
        refine ⟨vp_in_nI (by omega) (by omega), fun x hx => ⟨vp_in_nI (by omega) (by omega), ?_⟩⟩
        rw [nI_clamp (by omega), l4 _ ia] at hx
        rw [(hM3.2.2 k hk).2]
        refine m_endAt hn h hM3.1.2 q2 (by omega) ?_
        refine ⟨vp_in_nI (by omega) (by omega), fun y hy => ?_⟩
        rw [nI_clamp (by omega), l4 _ ib] at hy
        subst hx; subst hy
        have hmx : (if nI (L2 (it (F 1) s (pa k))) < nI (L2 (it (F 1) s (pb k))) then nI (L2 (it (F 1) s (pb k))) else nI (L2 (it (F 1) s (pa k)))) = nI (Nat.max (L2 (it (F 1) s (pa k))) (L2 (it (F 1) s (pb k)))) := m_maxI (by omega) (by omega)
        have hmn : (if nI (L2 (it (F 1) s (pb k))) < nI (L2 (it (F 1) s (pa k))) then nI (L2 (it (F 1) s (pb k))) else nI (L2 (it (F 1) s (pa k)))) = nI (Nat.min (L2 (it (F 1) s (pa k))) (L2 (it (F 1) s (pb k)))) := by
          by_cases q : L2 (it (F 1) s (pb k)) < L2 (it (F 1) s (pa k))
          · rw [if_pos (nI_lt q (by omega)), show Nat.min (L2 (it (F 1) s (pa k))) (L2 (it (F 1) s (pb k))) = L2 (it (F 1) s (pb k)) from Nat.min_eq_right (by omega)]
          · rw [if_neg (nI_nlt (by omega) (by omega)), show Nat.min (L2 (it (F 1) s (pa k))) (L2 (it (F 1) s (pb k))) = L2 (it (F 1) s (pa k)) from Nat.min_eq_left (by omega)]
        have hmxl : Nat.max (L2 (it (F 1) s (pa k))) (L2 (it (F 1) s (pb k))) < 12 := Nat.max_lt.mpr ⟨by omega, by omega⟩
        refine up1 (B := b_X12_classes_84 k2 (nI (rnd (F 0 0) (F 1))) (nI s) (nI k) (nI (L2 (it (F 1) s (pa k)))) (nI (L2 (it (F 1) s (pb k))))) (F 0 0) (by omega) (fun e0 S4 => frM S S4 ∧ (∀ b j, b ≠ 37 → gI S4 b j = gI S b j) ∧ (∀ e, e < e0 → gI S4 37 e = nI (if L2 e = Nat.max (L2 (it (F 1) s (pa k))) (L2 (it (F 1) s (pb k))) then Nat.min (L2 (it (F 1) s (pa k))) (L2 (it (F 1) s (pb k))) else L2 e)) ∧ ∀ e, e0 ≤ e → gI S4 37 e = gI S3 37 e) ?_ ?_ 0 (by omega) ⟨hf3, ho3, fun e he => absurd he (Nat.not_lt_zero _), fun _ _ => rfl⟩
        · rintro k3 e0 S4 he0 ⟨hf4, ho4, l5, l6⟩ hk3
          unfold b_X12_classes_84
          have hM4 := mk S4 hf4
          have hl2 := Lab_lt l3 he0
          have put : ∀ v : Nat, v = (if L2 e0 = Nat.max (L2 (it (F 1) s (pa k))) (L2 (it (F 1) s (pb k))) then Nat.min (L2 (it (F 1) s (pa k))) (L2 (it (F 1) s (pb k))) else L2 e0) → w_X12_classes_133 k3 (nI (rnd (F 0 0) (F 1))) (nI s) (nI k) (nI (L2 (it (F 1) s (pa k)))) (nI (L2 (it (F 1) s (pb k)))) (nI e0) (nI v) (nI e0) S4 := by
            intro v hv
            refine ⟨vp_in_nI (by omega) (by omega), fun S5 hS5 z hz => ?_⟩
            rw [nI_clamp (by omega)] at hS5
            subst hS5
            obtain ⟨a1, a2⟩ := fset S4 e0 (nI v) hf4 ho4
            refine hk3 _ _ hz ⟨a1, a2, fun e he => ?_, fun e he => ?_⟩
            · rw [gI_sI]
              by_cases c : e = e0
              · subst c; rw [if_pos ⟨rfl, rfl⟩, hv]
              · rw [if_neg (fun x => c x.2)]; exact l5 e (by omega)
            · rw [gI_sI, if_neg (by omega)]; exact l6 e (by omega)
          rw [hM4.1.1, if_neg (nI_ge he0 (by omega))]
          refine ⟨vp_in_nI (by omega) (by omega), ?_⟩
          rw [nI_clamp (by omega), l6 e0 (Nat.le_refl _), l4 e0 he0, hmx, hmn]
          refine nI_ifEq (by omega) (by omega) (fun c => ?_) (fun c => ?_)
          · exact put _ (by rw [if_pos c])
          · exact ⟨vp_in_nI (by omega) (by omega), put _ (by rw [if_neg c])⟩
        · rintro k3 S4 ⟨hf4, ho4, l5, l6⟩
          unfold b_X12_classes_84
          have hM4 := mk S4 hf4
          rw [hM4.1.1, if_pos (nI_le (Nat.le_refl _) (by omega))]
          intro x hx
          refine hk2 _ _ hx ⟨hf4, ho4, _, Lab_join (R2 := clM F pa pb s (k + 1)) l3 ia ib (fun a b => ?_) (fun a b d => ?_) (fun e he => rfl), l5⟩
          · constructor
            · rintro ⟨s1, k1, c1, c2, c3, c4⟩
              by_cases e : s1 = s ∧ k1 = k
              · obtain ⟨rfl, rfl⟩ := e; exact Or.inr ⟨c3, c4⟩
              · exact Or.inl ⟨s1, k1, c1, by omega, c3, c4⟩
            · rintro (⟨s1, k1, c1, c2, c3, c4⟩ | ⟨c3, c4⟩)
              · exact ⟨s1, k1, c1, by omega, c3, c4⟩
              · exact ⟨s, k, hk, Or.inr ⟨rfl, by omega⟩, c3, c4⟩
          · obtain ⟨s1, k1, c1, c2, rfl, rfl⟩ := d
            obtain ⟨r1, r2, r3⟩ := hP.1 k1 c1
            exact ⟨it_lt h r1 s1, it_lt h r2 s1⟩
      · rintro k2 S3 ⟨hf3, ho3, L2, l3, l4⟩
        unfold b_X12_classes_35
        have hM3 := mk S3 hf3
        rw [hM3.2.1, if_pos (nI_le (Nat.le_refl _) (by omega))]
        intro x hx
        refine hk1 _ _ hx ⟨hf3, ho3, L2, Lab_congr l3 (fun a b d => Or.inl ?_) (fun a b d => Or.inl ?_), l4⟩
        · obtain ⟨s1, k1, c1, c2, c3, c4⟩ := d
          exact ⟨s1, k1, c1, by omega, c3, c4⟩
        · obtain ⟨s1, k1, c1, c2, c3, c4⟩ := d
          exact ⟨s1, k1, c1, by omega, c3, c4⟩
    · rintro k1 S2 ⟨hf2, ho2, L1, l1, l2⟩
      unfold b_X12_classes_28
      rw [if_pos (nI_le (Nat.le_refl _) (by omega))]
      exact fin S2 L1 hf2 ho2 l1 l2
