/-! ===== pure: marks are laid and gone back to ===== -/
theorem e_row {a b n : Nat} {S : St} {Q : St → Prop} (hab : a ≠ b) (ha : lnE a = n) (hb : lnE b = n) (hn : n < 2 ^ 31) (hQ : ∀ S', frX [b] S S' → (∀ j, j < n → gI S' b j = gI S a j) → Q S') : w_X11_copyRow a b S Q := by
  refine e_copyRow hab (by omega) (by omega) ?_
  refine hQ _ (frX_row (frX_refl _ _) (by simp)) (fun j hj => ?_)
  rw [gI_setRow, if_pos ⟨rfl, by rw [ha, hb]; show j < Nat.min n n; rw [show Nat.min n n = n from Nat.min_self n]; exact hj⟩]
def okF (o : Nat) : Prop := o = 11 ∨ o = 21 ∨ o = 65 ∨ o = 79 ∨ o = 93 ∨ o = 107
theorem okF_ln {o : Nat} (h : okF o) : lnE (o + 1) = 12 ∧ lnE (o + 2) = 12 ∧ lnE (o + 3) = 12 ∧ lnE (o + 4) = 12 ∧ lnE (o + 5) = 12 ∧ lnE (o + 6) = 12 ∧ lnE (o + 7) = 12 := by
  rcases h with rfl | rfl | rfl | rfl | rfl | rfl <;> exact ⟨rfl, rfl, rfl, rfl, rfl, rfl, rfl⟩
abbrev fls (o : Nat) : List Nat := [o, o + 1, o + 2, o + 3, o + 4, o + 5, o + 6, o + 7]
theorem e_copyF {F : Fm} {o p : Nat} {S : St} {Q : St → Prop} (ho : okF o) (hp : okF p) (hne : o ≠ p) (hF : FW F) (hE : FE p F S) (hQ : ∀ S', frX (fls o) S S' → FE o F S' → Q S') : w_X4_copy o p S Q := by
  have hn := hF.1.2.1
  have hww := hF.1.2.2.2.2.2.2.1
  obtain ⟨o1, o2, o3, o4, o5, o6, o7⟩ := okF_ln ho
  obtain ⟨p1, p2, p3, p4, p5, p6, p7⟩ := okF_ln hp
  have far : o + 10 ≤ p ∨ p + 10 ≤ o := by
    rcases ho with rfl | rfl | rfl | rfl | rfl | rfl <;> rcases hp with rfl | rfl | rfl | rfl | rfl | rfl <;> first | exact absurd rfl hne | omega
  have hpo : ∀ T, frX (fls o) S T → FE p F T := fun T hT => FE_fr hT (fun k hk q => by simp at q; omega) hE
  intro T1 h1 T2 h2 T3 h3 T4 h4 T5 h5 T6 h6 T7 h7
  have r1 : T1 = sI S o 0 (nI (F 0 0)) := by rw [h1, hE.1 0 (by omega)]
  have f1 : frX (fls o) S T1 := by rw [r1]; exact frX_sI (frX_refl _ _) (by simp)
  have r2 : T2 = sI T1 o 1 (nI (F 0 1)) := by rw [h2, (hpo T1 f1).1 1 (by omega)]
  have f2 : frX (fls o) S T2 := by rw [r2]; exact frX_sI f1 (by simp)
  have r3 : T3 = sI T2 o 2 (nI (F 0 2)) := by rw [h3, (hpo T2 f2).1 2 (by omega)]
  have f3 : frX (fls o) S T3 := by rw [r3]; exact frX_sI f2 (by simp)
  have r4 : T4 = sI T3 o 3 (nI (F 0 3)) := by rw [h4, (hpo T3 f3).1 3 (by omega)]
  have f4 : frX (fls o) S T4 := by rw [r4]; exact frX_sI f3 (by simp)
  have r5 : T5 = sI T4 o 4 (nI (F 0 4)) := by rw [h5, (hpo T4 f4).1 4 (by omega)]
  have f5 : frX (fls o) S T5 := by rw [r5]; exact frX_sI f4 (by simp)
  have r6 : T6 = sI T5 o 5 (nI (F 0 5)) := by rw [h6, (hpo T5 f5).1 5 (by omega)]
  have f6 : frX (fls o) S T6 := by rw [r6]; exact frX_sI f5 (by simp)
  have r7 : T7 = sI T6 o 6 (nI (F 0 6)) := by rw [h7, (hpo T6 f6).1 6 (by omega)]
  have f7 : frX (fls o) S T7 := by rw [r7]; exact frX_sI f6 (by simp)
  have sc : ∀ j, j < 7 → gI T7 o j = nI (F 0 j) := by
    intro j hj
    have : j = 0 ∨ j = 1 ∨ j = 2 ∨ j = 3 ∨ j = 4 ∨ j = 5 ∨ j = 6 := by omega
    rw [r7, r6, r5, r4, r3, r2, r1]
    rcases this with rfl | rfl | rfl | rfl | rfl | rfl | rfl <;> simp [gI_sI]
  refine e_row (n := 12) (by omega) p1 o1 (by omega) (fun U1 g1 e1 => ?_)
  refine e_row (n := 12) (by omega) p2 o2 (by omega) (fun U2 g2 e2 => ?_)
  refine e_row (n := 12) (by omega) p3 o3 (by omega) (fun U3 g3 e3 => ?_)
  refine e_row (n := 12) (by omega) p4 o4 (by omega) (fun U4 g4 e4 => ?_)
  refine e_row (n := 12) (by omega) p5 o5 (by omega) (fun U5 g5 e5 => ?_)
  refine e_row (n := 12) (by omega) p6 o6 (by omega) (fun U6 g6 e6 => ?_)
  refine e_row (n := 12) (by omega) p7 o7 (by omega) (fun U7 g7 e7 => ?_)
  have k1 : frX (fls o) S U1 := frX_trans f7 (frX_sub g1 (by simp))
  have k2 : frX (fls o) S U2 := frX_trans k1 (frX_sub g2 (by simp))
  have k3 : frX (fls o) S U3 := frX_trans k2 (frX_sub g3 (by simp))
  have k4 : frX (fls o) S U4 := frX_trans k3 (frX_sub g4 (by simp))
  have k5 : frX (fls o) S U5 := frX_trans k4 (frX_sub g5 (by simp))
  have k6 : frX (fls o) S U6 := frX_trans k5 (frX_sub g6 (by simp))
  have k7 : frX (fls o) S U7 := frX_trans k6 (frX_sub g7 (by simp))
  have q7 : ∀ b j, b ≠ o + 7 → gI U7 b j = gI U6 b j := fun b j h => frX_g g7 b j (by simpa using h)
  have q6 : ∀ b j, b ≠ o + 6 → gI U6 b j = gI U5 b j := fun b j h => frX_g g6 b j (by simpa using h)
  have q5 : ∀ b j, b ≠ o + 5 → gI U5 b j = gI U4 b j := fun b j h => frX_g g5 b j (by simpa using h)
  have q4 : ∀ b j, b ≠ o + 4 → gI U4 b j = gI U3 b j := fun b j h => frX_g g4 b j (by simpa using h)
  have q3 : ∀ b j, b ≠ o + 3 → gI U3 b j = gI U2 b j := fun b j h => frX_g g3 b j (by simpa using h)
  have q2 : ∀ b j, b ≠ o + 2 → gI U2 b j = gI U1 b j := fun b j h => frX_g g2 b j (by simpa using h)
  have q1 : ∀ b j, b ≠ o + 1 → gI U1 b j = gI T7 b j := fun b j h => frX_g g1 b j (by simpa using h)
  refine hQ U7 k7 ⟨fun j hj => ?_, fun k j a b hj => ?_, fun k j a b hj => ?_⟩
  · rw [q7 _ _ (by omega), q6 _ _ (by omega), q5 _ _ (by omega), q4 _ _ (by omega), q3 _ _ (by omega), q2 _ _ (by omega), q1 _ _ (by omega)]
    exact sc j hj
  · have : k = 1 ∨ k = 2 ∨ k = 3 := by omega
    rcases this with rfl | rfl | rfl
    · rw [q7 _ _ (by omega), q6 _ _ (by omega), q5 _ _ (by omega), q4 _ _ (by omega), q3 _ _ (by omega), q2 _ _ (by omega), e1 j (by omega)]
      exact (hpo T7 f7).2.1 1 j (by omega) (by omega) hj
    · rw [q7 _ _ (by omega), q6 _ _ (by omega), q5 _ _ (by omega), q4 _ _ (by omega), q3 _ _ (by omega), e2 j (by omega)]
      exact (hpo U1 k1).2.1 2 j (by omega) (by omega) hj
    · rw [q7 _ _ (by omega), q6 _ _ (by omega), q5 _ _ (by omega), q4 _ _ (by omega), e3 j (by omega)]
      exact (hpo U2 k2).2.1 3 j (by omega) (by omega) hj
  · have : k = 4 ∨ k = 5 ∨ k = 6 ∨ k = 7 := by omega
    rcases this with rfl | rfl | rfl | rfl
    · rw [q7 _ _ (by omega), q6 _ _ (by omega), q5 _ _ (by omega), e4 j (by omega)]
      exact (hpo U3 k3).2.2 4 j (by omega) (by omega) hj
    · rw [q7 _ _ (by omega), q6 _ _ (by omega), e5 j (by omega)]
      exact (hpo U4 k4).2.2 5 j (by omega) (by omega) hj
    · rw [q7 _ _ (by omega), e6 j (by omega)]
      exact (hpo U5 k5).2.2 6 j (by omega) (by omega) hj
    · rw [e7 j (by omega)]
      exact (hpo U6 k6).2.2 7 j (by omega) (by omega) hj
def okD (o : Nat) : Prop := o = 30 ∨ o = 74 ∨ o = 88 ∨ o = 102 ∨ o = 116
theorem okD_ln {o : Nat} (h : okD o) : lnE (o + 1) = 60 ∧ lnE (o + 2) = 60 ∧ lnE (o + 3) = 60 := by
  rcases h with rfl | rfl | rfl | rfl | rfl <;> exact ⟨rfl, rfl, rfl⟩
theorem DEo_fr {D : Dr} {o : Nat} {l : List Nat} {S S' : St} (hf : frX l S S') (hl : ∀ k, k ≤ 3 → (o + k) ∉ l) (H : DE o D S) : DE o D S' := by
  refine ⟨?_, fun k j k1 k2 hj => ?_⟩
  · rw [frX_g hf o 3 (hl 0 (by omega))]; exact H.1
  · rw [frX_g hf (o + k) j (hl k (by omega))]; exact H.2 k j k1 k2 hj
theorem e_copyD {D : Dr} {o p : Nat} {S : St} {Q : St → Prop} (ho : okD o) (hp : okD p) (hne : o ≠ p) (hD : D 0 0 ≤ 60) (hE : DE p D S) (hQ : ∀ S', frX [o, o + 1, o + 2, o + 3] S S' → DE o D S' → Q S') : w_X2_copy o p S Q := by
  obtain ⟨o1, o2, o3⟩ := okD_ln ho
  obtain ⟨p1, p2, p3⟩ := okD_ln hp
  have far : o + 10 ≤ p ∨ p + 10 ≤ o := by
    rcases ho with rfl | rfl | rfl | rfl | rfl <;> rcases hp with rfl | rfl | rfl | rfl | rfl <;> first | exact absurd rfl hne | omega
  have hpo : ∀ T, frX [o, o + 1, o + 2, o + 3] S T → DE p D T := fun T hT => DEo_fr hT (fun k hk q => by simp at q; omega) hE
  intro T1 h1
  have r1 : T1 = sI S o 3 (nI (D 0 0)) := by rw [h1, hE.1]
  have f1 : frX [o, o + 1, o + 2, o + 3] S T1 := by rw [r1]; exact frX_sI (frX_refl _ _) (by simp)
  refine e_row (n := 60) (by omega) p1 o1 (by omega) (fun U1 g1 e1 => ?_)
  refine e_row (n := 60) (by omega) p2 o2 (by omega) (fun U2 g2 e2 => ?_)
  refine e_row (n := 60) (by omega) p3 o3 (by omega) (fun U3 g3 e3 => ?_)
  have k1 : frX [o, o + 1, o + 2, o + 3] S U1 := frX_trans f1 (frX_sub g1 (by simp))
  have k2 : frX [o, o + 1, o + 2, o + 3] S U2 := frX_trans k1 (frX_sub g2 (by simp))
  have k3 : frX [o, o + 1, o + 2, o + 3] S U3 := frX_trans k2 (frX_sub g3 (by simp))
  have q3 : ∀ b j, b ≠ o + 3 → gI U3 b j = gI U2 b j := fun b j h => frX_g g3 b j (by simpa using h)
  have q2 : ∀ b j, b ≠ o + 2 → gI U2 b j = gI U1 b j := fun b j h => frX_g g2 b j (by simpa using h)
  have q1 : ∀ b j, b ≠ o + 1 → gI U1 b j = gI T1 b j := fun b j h => frX_g g1 b j (by simpa using h)
  refine hQ U3 k3 ⟨?_, fun k j a b hj => ?_⟩
  · rw [q3 _ _ (by omega), q2 _ _ (by omega), q1 _ _ (by omega), r1, gI_sI, if_pos ⟨rfl, rfl⟩]
  · have : k = 1 ∨ k = 2 ∨ k = 3 := by omega
    rcases this with rfl | rfl | rfl
    · rw [q3 _ _ (by omega), q2 _ _ (by omega), e1 j (by omega)]
      exact (hpo T1 f1).2 1 j (by omega) (by omega) hj
    · rw [q3 _ _ (by omega), e2 j (by omega)]
      exact (hpo U1 k1).2 2 j (by omega) (by omega) hj
    · rw [e3 j (by omega)]
      exact (hpo U2 k2).2 3 j (by omega) (by omega) hj
/-! the reference's marks -/
def vwl (S : St) (i : Nat) : Int32 := if i < 264 then vw S i else if vw S i = 0 then 0 else 1
def LY (m : Nat) (S0 : St) (k : Nat) (S : St) : Prop :=
  gI S 0 73 = nI (500 * m + k) ∧ (∀ i, i < k → gI S 46 (500 * m + i) = vwl S0 i) ∧ ∀ b j, ¬ (b = 0 ∧ j = 73) → ¬ (b = 46 ∧ 500 * m ≤ j ∧ j < 500 * m + 500) → gI S b j = gI S0 b j
theorem vcx_ne : ∀ k, k < 408 → ¬ ((vc k).1 = 0 ∧ (vc k).2 = 73) ∧ (vc k).1 ≠ 46 := by decide +kernel
theorem m_keepL {m k : Nat} {v : Int32} {S0 S : St} {Q : Int32 → St → Prop} (hm : m < 4) (hk : k < 408) (h : LY m S0 k S) (hv : v = vwl S0 k) (hQ : ∀ S', LY m S0 (k + 1) S' → Q v S') : w_X12_keeps v 0 S Q := by
  obtain ⟨h1, h2, h3⟩ := h
  intro x hx S2 hS2
  rw [h1] at hx
  subst hx
  rw [if_pos rfl, nI_clamp (by omega)]
  refine ⟨vp_in_nI (by omega) (by omega), fun S3 hS3 => hQ S3 ⟨?_, fun i hi => ?_, fun b j a c => ?_⟩⟩
  · rw [hS3, gI_sI, if_neg (by omega), hS2, gI_sI, if_pos ⟨rfl, rfl⟩, h1, nI_1]; congr 1
  · rw [hS3, gI_sI]
    by_cases e : i = k
    · subst e; rw [if_pos ⟨rfl, rfl⟩]; exact hv
    · rw [if_neg (by omega), hS2, gI_sI, if_neg (by omega)]; exact h2 i (by omega)
  · rw [hS3, gI_sI, if_neg (fun q => c ⟨q.1, by omega, by omega⟩), hS2, gI_sI, if_neg a]; exact h3 b j a c
theorem m_layS {m k c : Nat} {S0 S : St} {Q : St → Prop} (hm : m < 4) (hk : k < 264) (hc : vc k = (0, c)) (hc2 : c ≠ 73) (h : LY m S0 k S) (hQ : ∀ S', LY m S0 (k + 1) S' → Q S') : w_X12_keeps (gI S 0 c) 0 S (fun r S' => ∀ S'', S'' = sI S' 0 c r → Q S'') := by
  have hv : gI S 0 c = vwl S0 k := by
    unfold vwl vw
    rw [if_pos hk, hc]
    exact h.2.2 0 c (by omega) (by omega)
  refine m_keepL hm (by omega) h hv ?_
  intro S1 h1 S2 hS2
  refine hQ S2 ⟨?_, fun i hi => ?_, fun b j a d => ?_⟩
  · rw [hS2, gI_sI, if_neg (by omega)]; exact h1.1
  · rw [hS2, gI_sI, if_neg (by omega)]; exact h1.2.1 i hi
  · rw [hS2, gI_sI]
    by_cases e : b = 0 ∧ j = c
    · obtain ⟨rfl, rfl⟩ := e
      rw [if_pos ⟨rfl, rfl⟩]
      exact h.2.2 0 j a d
    · rw [if_neg e]; exact h1.2.2 b j a d
theorem m_layR {m k n b : Nat} {S0 S : St} {Q : St → Prop} (hm : m < 4) (hk : k + n ≤ 264) (hn : n ≤ lnM b) (hln : lnM b < 2 ^ 31) (hb0 : b ≠ 0) (hb46 : b ≠ 46) (hc : ∀ j, j < n → vc (k + j) = (b, j)) (h : LY m S0 k S) (hQ : ∀ S', LY m S0 (k + n) S' → Q S') : w_X12_keepsRow b (nI n) 0 S Q := by
  refine up1 (B := b_X12_keepsRow_3 b (nI n) 0 Q) n (by omega) (fun j S' => LY m S0 (k + j) S') ?_ ?_ 0 (by omega) h
  · rintro kk j S' hj h' hkk
    unfold b_X12_keepsRow_3
    have hv : vp_in (nI j) (lnM b) := vp_in_nI (by omega) hln
    have hvv : gI S' b j = vwl S0 (k + j) := by
      unfold vwl vw
      rw [if_pos (by omega), hc j hj]
      exact h'.2.2 b j (by omega) (by omega)
    rw [if_neg (nI_ge hj (by omega)), nI_clamp (by omega)]
    refine ⟨hv, m_keepL hm (by omega) h' hvv ?_⟩
    intro S1 h1
    refine ⟨hv, fun S2 hS2 x hx => ?_⟩
    refine hkk _ _ hx ⟨?_, fun i hi => ?_, fun b' j' a d => ?_⟩
    · rw [hS2, gI_sI, if_neg (by omega)]; exact h1.1
    · rw [hS2, gI_sI, if_neg (by omega)]; exact h1.2.1 i hi
    · rw [hS2, gI_sI]
      by_cases e : b' = b ∧ j' = j
      · obtain ⟨rfl, rfl⟩ := e
        rw [if_pos ⟨rfl, rfl⟩]
        exact h'.2.2 b' j' a d
      · rw [if_neg e]; exact h1.2.2 b' j' a d
  · rintro kk S' h'
    unfold b_X12_keepsRow_3
    rw [if_pos (nI_le (Nat.le_refl _) (by omega))]
    exact hQ S' h'
/-- the values that a mark keeps of what the reference holds hold F and D too -/
theorem MV_vwl {F : Fm} {D : Dr} {pa pb : Nat → Nat} {v w : Nat → Int32} (hF : FW F) (hD : D 0 0 ≤ 60) (h : MV F D pa pb v) (h1 : ∀ i, i < 264 → w i = v i) (h2 : ∀ i, 264 ≤ i → i < 408 → (v i = 0 → w i = 0) ∧ (v i = 1 → w i = 1)) : MV F D pa pb w := by
  have hn := hF.1.2.1
  have hr := hF.1.2.2.2.1
  have hww := hF.1.2.2.2.2.2.2.1
  obtain ⟨a0, a1, a2, a3, a4, a5, a6, a7, a8, a9, a10, a11, a12⟩ := h
  refine ⟨by rw [h1 _ (by omega)]; exact a0, by rw [h1 _ (by omega)]; exact a1, fun j hj => ⟨by rw [h1 _ (by omega)]; exact (a2 j hj).1, by rw [h1 _ (by omega)]; exact (a2 j hj).2⟩, fun k hk => ⟨by rw [h1 _ (by omega)]; exact (a3 k hk).1, by rw [h1 _ (by omega)]; exact (a3 k hk).2⟩, by rw [h1 _ (by omega)]; exact a4, by rw [h1 _ (by omega)]; exact a5, by rw [h1 _ (by omega)]; exact a6, by rw [h1 _ (by omega)]; exact a7, by rw [h1 _ (by omega)]; exact a8, by rw [h1 _ (by omega)]; exact a9, fun w' hw' => ⟨by rw [h1 _ (by omega)]; exact (a10 w' hw').1, by rw [h1 _ (by omega)]; exact (a10 w' hw').2.1, by rw [h1 _ (by omega)]; exact (a10 w' hw').2.2⟩, fun j hj => ⟨by rw [h1 _ (by omega)]; exact (a11 j hj).1, by rw [h1 _ (by omega)]; exact (a11 j hj).2.1, by rw [h1 _ (by omega)]; exact (a11 j hj).2.2⟩, fun a b ha hb => ?_⟩
  have hx := a12 a b ha hb
  obtain ⟨z0, z1⟩ := h2 (264 + (12 * a + b)) (by omega) (by omega)
  by_cases c : (F 7 a).testBit b = true
  · rw [if_pos c] at hx ⊢; exact z1 hx
  · rw [if_neg c] at hx ⊢; exact z0 hx
def BK (m : Nat) (S0 : St) (k : Nat) (S : St) : Prop :=
  gI S 0 73 = nI (500 * m + k) ∧ (∀ i, i < k → vw S i = if i < 264 then gI S0 46 (500 * m + i) else if gI S0 46 (500 * m + i) = 1 then 1 else 0) ∧ ∀ b j, ¬ (b = 0 ∧ j = 73) → (∀ i, i < k → vc i ≠ (b, j)) → gI S b j = gI S0 b j
/-- back from a place to where it is kept -/
def cv (b j : Nat) : Nat :=
  if b = 0 then (if j = 10 then 0 else if j = 12 then 1 else if j = 11 then 42 else if j = 13 then 43 else if j = 14 then 44 else if j = 15 then 45 else if j = 16 then 46 else 47)
  else if b = 2 then j + 2 else if b = 5 then j + 14 else if b = 3 then j + 26 else if b = 4 then j + 34 else if b = 6 then j + 48 else if b = 7 then j + 60 else if b = 8 then j + 72 else if b = 41 then j + 84 else if b = 42 then j + 144 else if b = 43 then j + 204 else j + 264
theorem cv_vc : ∀ k, k < 408 → cv (vc k).1 (vc k).2 = k := by decide +kernel
theorem vc_inj {i k : Nat} (hi : i < 408) (hk : k < 408) (h : vc i = vc k) : i = k := by
  rw [← cv_vc i hi, ← cv_vc k hk, h]
theorem m_keepB {m k : Nat} {v : Int32} {S0 S : St} {Q : Int32 → St → Prop} (hm : m < 4) (hk : k < 408) (h : BK m S0 k S) (hQ : ∀ S', gI S' 0 73 = nI (500 * m + (k + 1)) → (∀ b j, ¬ (b = 0 ∧ j = 73) → gI S' b j = gI S b j) → Q (gI S0 46 (500 * m + k)) S') : w_X12_keeps v 1 S Q := by
  obtain ⟨h1, h2, h3⟩ := h
  intro x hx S2 hS2
  rw [h1] at hx
  subst hx
  rw [if_neg (by decide), nI_clamp (by omega)]
  refine ⟨vp_in_nI (by omega) (by omega), ?_⟩
  have e : gI S2 46 (500 * m + k) = gI S0 46 (500 * m + k) := by
    rw [hS2, gI_sI, if_neg (by omega)]
    exact h3 46 _ (by omega) (fun i hi q => (vcx_ne i (by omega)).2 (by rw [q]))
  rw [e]
  exact hQ S2 (by rw [hS2, gI_sI, if_pos ⟨rfl, rfl⟩, h1, nI_1]; congr 1) (fun b j a => by rw [hS2, gI_sI, if_neg a])
theorem BK_set {m k b c : Nat} {r : Int32} {S0 S S1 S2 : St} (hk : k < 408) (hc : vc k = (b, c)) (h : BK m S0 k S) (h73 : gI S1 0 73 = nI (500 * m + (k + 1))) (ho : ∀ b j, ¬ (b = 0 ∧ j = 73) → gI S1 b j = gI S b j) (hS2 : S2 = sI S1 b c r) (hr : r = if k < 264 then gI S0 46 (500 * m + k) else if gI S0 46 (500 * m + k) = 1 then 1 else 0) : BK m S0 (k + 1) S2 := by
  have hne := vcx_ne k hk
  rw [hc] at hne
  refine ⟨?_, fun i hi => ?_, fun b' j' a d => ?_⟩
  · rw [hS2, gI_sI, if_neg (fun q => hne.1 ⟨q.1.symm, q.2.symm⟩)]; exact h73
  · by_cases e : i = k
    · subst e
      unfold vw
      rw [hc, hS2, gI_sI, if_pos ⟨rfl, rfl⟩]; exact hr
    · have h2 := h.2.1 i (by omega)
      rw [← h2]
      unfold vw
      have hd : vc i ≠ (b, c) := fun q => e (vc_inj (by omega) hk (by rw [q, hc]))
      rw [hS2, gI_sI, if_neg (fun q => hd (Prod.ext q.1 q.2))]
      exact ho _ _ (vcx_ne i (by omega)).1
  · have hd : ¬ (b' = b ∧ j' = c) := fun q => d k (by omega) (by rw [hc, q.1, q.2])
    rw [hS2, gI_sI, if_neg hd, ho b' j' a]
    exact h.2.2 b' j' a (fun i hi => d i (by omega))
theorem m_backS {m k c : Nat} {v : Int32} {S0 S : St} {Q : St → Prop} (hm : m < 4) (hk : k < 264) (hc : vc k = (0, c)) (h : BK m S0 k S) (hQ : ∀ S', BK m S0 (k + 1) S' → Q S') : w_X12_keeps v 1 S (fun r S' => ∀ S'', S'' = sI S' 0 c r → Q S'') := by
  refine m_keepB hm (by omega) h ?_
  intro S1 h73 ho S2 hS2
  exact hQ S2 (BK_set (by omega) hc h h73 ho hS2 (by rw [if_pos hk]))
theorem m_backR {m k n b : Nat} {S0 S : St} {Q : St → Prop} (hm : m < 4) (hk : k + n ≤ 264) (hn : n ≤ lnM b) (hln : lnM b < 2 ^ 31) (hc : ∀ j, j < n → vc (k + j) = (b, j)) (h : BK m S0 k S) (hQ : ∀ S', BK m S0 (k + n) S' → Q S') : w_X12_keepsRow b (nI n) 1 S Q := by
  refine up1 (B := b_X12_keepsRow_3 b (nI n) 1 Q) n (by omega) (fun j S' => BK m S0 (k + j) S') ?_ ?_ 0 (by omega) h
  · rintro kk j S' hj h' hkk
    unfold b_X12_keepsRow_3
    have hv : vp_in (nI j) (lnM b) := vp_in_nI (by omega) hln
    rw [if_neg (nI_ge hj (by omega)), nI_clamp (by omega)]
    refine ⟨hv, m_keepB hm (by omega) h' ?_⟩
    intro S1 h73 ho
    refine ⟨hv, fun S2 hS2 x hx => ?_⟩
    exact hkk _ _ hx (BK_set (k := k + j) (by omega) (hc j hj) h' h73 ho hS2 (by rw [if_pos (by omega)]))
  · rintro kk S' h'
    unfold b_X12_keepsRow_3
    rw [if_pos (nI_le (Nat.le_refl _) (by omega))]
    exact hQ S' h'
