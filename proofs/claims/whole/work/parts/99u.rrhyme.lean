/-! ===== pure: both read a line of rhyme ===== -/
def rhymeP (sg : Nat → Nat) (t s : Nat) (P : PS) : PO :=
  if 8 ≤ P.F 0 2 then .bad (5 + 16 * s)
  else if numK sg t 0 (P.F 0 0 - 1) none (nxt sg t s) ≠ 0 then .bad (numK sg t 0 (P.F 0 0 - 1) none (nxt sg t s) + 16 * nxt sg t s)
  else if numK sg t 0 (P.F 0 0 - 1) (some (v10 sg t (nxt sg t s))) (nxt sg t (nxt sg t s)) ≠ 0 then .bad (numK sg t 0 (P.F 0 0 - 1) (some (v10 sg t (nxt sg t s))) (nxt sg t (nxt sg t s)) + 16 * nxt sg t (nxt sg t s))
  else .ok (nxt sg t (nxt sg t (nxt sg t s))) (addR P (v10 sg t (nxt sg t s)) (v10 sg t (nxt sg t (nxt sg t s))))
theorem numK_ne {sg : Nat → Nat} {t lo hi r s : Nat} (h : numK sg t lo hi (some r) s = 0) : r ≠ v10 sg t s := by
  rintro rfl
  unfold numK at h
  split at h
  · rw [if_pos rfl] at h; omega
  · omega
theorem NF_R {sg : Nat → Nat} {t a b : Nat} {P : PS} {S S' : St} (h : NF sg t P S) (h02 : gI S' 0 27 = nI (P.F 0 2 + 1)) (ha : gI S' 11 (P.F 0 2) = nI a) (hb : gI S' 12 (P.F 0 2) = nI b) (go : ∀ c j, ¬ (c = 0 ∧ (j = 27 ∨ j < 25)) → ¬ (c = 11 ∧ j = P.F 0 2) → ¬ (c = 12 ∧ j = P.F 0 2) → gI S' c j = gI S c j) (goJ : ∀ w, gJ S' 14 w = gJ S 14 w) : NF sg t (addR P a b) S' := by
  obtain ⟨h1, h2, h3, h4⟩ := h
  refine ⟨fun j hj => ?_, fun p hp => ?_, fun k hk => ?_, fun w hw => ?_⟩
  · by_cases e : j = 2
    · rw [e, addR_02]; exact h02
    · rw [addR_0 _ _ _ e, go _ _ (by omega) (by omega) (by omega)]; exact h1 j hj
  · rw [addR_0 _ _ _ (by omega)] at hp
    rw [addR_k _ _ _ (by omega) (by omega), addR_k _ _ _ (by omega) (by omega), go _ _ (by omega) (by omega) (by omega), go _ _ (by omega) (by omega) (by omega)]; exact h2 p hp
  · rw [addR_02] at hk
    show gI S' 11 k = nI (if k = P.F 0 2 then a else P.pa k) ∧ gI S' 12 k = nI (if k = P.F 0 2 then b else P.pb k)
    by_cases e : k = P.F 0 2
    · rw [if_pos e, if_pos e, e]; exact ⟨ha, hb⟩
    · rw [if_neg e, if_neg e, go _ _ (by omega) (by omega) (by omega), go _ _ (by omega) (by omega) (by omega)]; exact h3 k (by omega)
  · rw [addR_0 _ _ _ (by omega)] at hw
    rw [addR_k _ _ _ (by omega) (by omega), addR_k _ _ _ (by omega) (by omega), addR_k _ _ _ (by omega) (by omega), go _ _ (by omega) (by omega) (by omega), go _ _ (by omega) (by omega) (by omega), go _ _ (by omega) (by omega) (by omega), goJ]; exact h4 w hw
theorem e_addRhyme {sg : Nat → Nat} {t n s a b : Nat} {P : PS} {S : St} {Q : Int32 → St → Prop} (hW : PSW P) (h : PE sg t n s P S) (ha : a < P.F 0 0) (hb : b < P.F 0 0) (hab : a ≠ b) (hQ : ∀ S', frX prl S S' → PE sg t n s (addR P a b) S' → Q 1 S') : w_X4_addRhyme 11 (nI a) (nI b) S (fun S' => Q 1 S') := by
  have hn := hW.1.2.1
  obtain ⟨hc, hT, hN, h78⟩ := h
  unfold w_X4_addRhyme
  refine e_cell (p := 13) (by show a < 12; omega) (by decide) (e_put (p := 13) (by show a < 12; omega) (by decide) ?_)
  refine e_cell (p := 13) (by show b < 12; omega) (by decide) (e_put (p := 13) (by show b < 12; omega) (by decide) ?_)
  rw [gI_sI, if_neg (by omega), gI_sI, if_neg (by omega), gI_sI, if_neg (by omega), hT.1 2 (by omega), nI_1, show gI S 13 a = nI (P.F 2 a) from hT.2.1 2 a (by omega) (by omega) ha, show gI S 13 b = nI (P.F 2 b) from hT.2.1 2 b (by omega) (by omega) hb, bN_one (by omega), bN_one (by omega), bN_or, bN_or]
  intro S2 e2
  have f2 : frX [11, 13] S S2 := by rw [e2]; exact frX_sI (frX_sI (frX_sI (frX_refl _ _) (by simp)) (by simp)) (by simp)
  refine hQ S2 (frX_sub f2 (by simp)) ⟨CurE_fr hc f2 (by simp), ⟨fun j hj => ?_, fun k j a1 a2 a3 => ?_, fun k j a1 a2 a3 => ?_, fun q a1 a2 => ?_⟩, ?_, by rw [frX_g f2 7 8 (by simp)]; exact h78⟩
  · by_cases e : j = 2
    · rw [e, addR_02, e2, gI_sI, if_pos ⟨rfl, rfl⟩]
    · rw [addR_0 _ _ _ e, e2, gI_sI, if_neg (fun q => e q.2), gI_sI, if_neg (by omega), gI_sI, if_neg (by omega)]; exact hT.1 j hj
  · rw [addR_0 _ _ _ (by omega)] at a3
    by_cases e : k = 2
    · subst e
      rw [addR_2, e2, gI_sI, if_neg (by omega), gI_sI, gI_sI]
      by_cases e : j = a
      · rw [if_neg (show ¬ (11 + 2 = 13 ∧ j = b) from fun q => hab (e.symm.trans q.2)), if_pos ⟨rfl, e⟩, if_pos e]
      · rw [if_neg e]
        by_cases d : j = b
        · rw [if_pos ⟨rfl, d⟩, if_pos d]
        · rw [if_neg (fun q => d q.2), if_neg (fun q => e q.2), if_neg d]; exact hT.2.1 2 j (by omega) (by omega) a3
    · rw [addR_k _ _ _ a1 e, e2, gI_sI, if_neg (by omega), gI_sI, if_neg (by omega), gI_sI, if_neg (by omega)]; exact hT.2.1 k j a1 a2 a3
  · rw [addR_0 _ _ _ (by omega)] at a3
    rw [addR_k _ _ _ (by omega) (by omega), e2, gI_sI, if_neg (by omega), gI_sI, if_neg (by omega), gI_sI, if_neg (by omega)]; exact hT.2.2.1 k j a1 a2 a3
  · rw [addR_0 _ _ _ (by omega)] at a1
    rw [frX_g f2 14 q (by simp)]; exact hT.2.2.2 q a1 a2
  · intro w hw
    rw [addR_0 _ _ _ (by omega)] at hw
    have := hN w hw
    exact ⟨this.1, by rw [frX_gJ f2 20 w (by simp)]; exact this.2⟩
theorem e_readRhyme {sg : Nat → Nat} {t n s : Nat} {P : PS} {S : St} {Q : Int32 → St → Prop} (hW : PSW P) (h : PE sg t n s P S) (hb : ∀ f S', rhymeP sg t s P = .bad f → frX prl S S' → gI S' 7 8 = nI f → Q 0 S') (ho : ∀ s' P' S', rhymeP sg t s P = .ok s' P' → PSW P' → s' ≤ t → frX prl S S' → PE sg t n s' P' S' → Q 1 S') : w_X8_readRhyme S Q := by
  have hs := h.1.2.1
  have hn0 := hW.1.1
  have hn := hW.1.2.1
  have h8 := hW.1.2.2.2.1
  have e0 : rhymeP sg t s P = rhymeP sg t s P := rfl
  conv at e0 => rhs; unfold rhymeP
  have wrong : ∀ (f : Nat) (v : Int32) (S1 S' : St), rhymeP sg t s P = .bad f → frX prl S S1 → v = nI f → S' = sI S1 7 8 v → Q 0 S' := by
    intro f v S1 S' e1 e2 e3 e4
    refine hb f S' e1 (by rw [e4]; exact frX_sI e2 (by simp)) (by rw [e4, gI_sI, if_pos ⟨rfl, rfl⟩, e3])
  unfold w_X8_readRhyme
  rw [h.2.1.1 2 (by omega)]
  refine nI_ifLt (y := 8) (by omega) (by omega) (fun q => ?_) (fun q => ?_)
  · rw [if_neg (by omega)] at e0
    refine e_next h.1 (fun S1 f1 c1 => ?_)
    have p1 := PE_FH h f1 c1
    have r1 : frX prl S S1 := frX_sub f1.1 (by simp)
    rw [p1.2.1.1 0 (by omega), show (1 : Int32) = nI 1 from rfl, pk_sub hn0]
    refine e_takeNumber (lo := 0) (ro := none) c1 (by omega) (by omega) (fun r q => by cases q) (fun z => ?_) (fun z z2 z3 z4 S2 f2 c2 => ?_)
    · rw [if_pos z] at e0
      rw [if_pos rfl]
      exact wrong _ _ S1 _ e0 r1 (n16 _ _) rfl
    · rw [if_neg (by omega)] at e0
      rw [if_neg (by decide)]
      obtain ⟨p2, g77, r2⟩ := PE_7 p1 f2 c2
      intro x hx
      rw [g77] at hx
      subst hx
      rw [p2.2.1.1 0 (by omega), pk_sub hn0]
      refine e_takeNumber (lo := 0) (ro := some (v10 sg t (nxt sg t s))) c2 (by omega) (by omega) (fun r q => by cases q; omega) (fun y => ?_) (fun y y2 y3 y4 S3 f3 c3 => ?_)
      · rw [if_pos y] at e0
        rw [if_pos rfl]
        exact wrong _ _ S2 _ e0 (frX_trans r1 r2) (n16 _ _) rfl
      · rw [if_neg (by omega)] at e0
        rw [if_neg (by decide)]
        obtain ⟨p3, g78, r3⟩ := PE_7 p2 f3 c3
        rw [g78]
        refine e_addRhyme hW p3 (by omega) (by omega) (numK_ne y) (fun S4 f4 p4 => ?_)
        exact ho _ _ S4 e0 (addR_W hW q (by omega) (by omega) (numK_ne y)) (nxt_le (nxt_le (nxt_le hs))) (frX_trans (frX_trans (frX_trans r1 r2) r3) f4) p4
  · rw [if_pos q] at e0
    exact e_wrong h.1 ⟨Or.inl rfl, wrong (5 + 16 * s) _ S _ e0 (frX_refl _ _) (n16 5 s) rfl⟩
