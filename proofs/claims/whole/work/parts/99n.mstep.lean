/-! ===== pure: the reference reads a step ===== -/
def frR (S S' : St) : Prop := frM S S' ∧ ∀ b j, (18 ≤ b ∧ b ≤ 20 ∨ (b = 0 ∧ j = 43)) → gI S' b j = gI S b j
theorem frR_refl (S : St) : frR S S := ⟨frM_refl S, fun _ _ _ => rfl⟩
theorem frR_trans {S T U : St} (h : frR S T) (k : frR T U) : frR S U := ⟨frM_trans h.1 k.1, fun b j e => (k.2 b j e).trans (h.2 b j e)⟩
theorem frR_FT {S S' : St} (h : FT S S') : frR S S' := ⟨frM_FT h, fun b j e => h.1 b j (by omega)⟩
theorem frR_X {l : List Nat} {S S' : St} (h : frX l S S') (hl : ∀ x, x ∈ l → (10 ≤ x ∧ x ≤ 17) ∨ (21 ≤ x ∧ x ≤ 40)) : frR S S' := by
  refine ⟨fun b j e => frX_g h b j (fun q => ?_), fun b j e => frX_g h b j (fun q => by have := hl b q; omega)⟩
  have h1 := hl b q
  revert e
  unfold kM
  simp
  omega
theorem frR_s0 {S : St} {j : Nat} {v : Int32} (h : kM 0 j = false) (h2 : j ≠ 43) : frR S (sI S 0 j v) :=
  ⟨frM_sI (frM_refl S) h, fun b i e => by rw [gI_sI, if_neg (by omega)]⟩
theorem m_stepKind {sg : Nat → Nat} {t s : Nat} {S : St} {Q : Int32 → St → Prop} (h : CurM sg t s S) (hQ : Q (if 130 ≤ tkey sg t s ∧ tkey sg t s ≤ 135 then nI (tkey sg t s - 130) else -1) S) : w_X12_stepKind S Q := by
  unfold w_X12_stepKind
  refine m_isWord9 (i := 2) h (by omega) (by rfl) ?_
  by_cases c : tkey sg t s = 128 + 2
  · rw [if_pos c, if_neg (by decide)]; rw [c, if_pos (by omega)] at hQ; exact hQ
  rw [if_neg c, if_pos rfl]
  refine m_isWord9 (i := 3) h (by omega) (by rfl) ?_
  by_cases c3 : tkey sg t s = 128 + 3
  · rw [if_pos c3, if_neg (by decide)]; rw [c3, if_pos (by omega)] at hQ; exact hQ
  rw [if_neg c3, if_pos rfl]
  refine m_isWord9 (i := 4) h (by omega) (by rfl) ?_
  by_cases c4 : tkey sg t s = 128 + 4
  · rw [if_pos c4, if_neg (by decide)]; rw [c4, if_pos (by omega)] at hQ; exact hQ
  rw [if_neg c4, if_pos rfl]
  refine m_isWord9 (i := 5) h (by omega) (by rfl) ?_
  by_cases c5 : tkey sg t s = 128 + 5
  · rw [if_pos c5, if_neg (by decide)]; rw [c5, if_pos (by omega)] at hQ; exact hQ
  rw [if_neg c5, if_pos rfl]
  refine m_isWord9 (i := 6) h (by omega) (by rfl) ?_
  by_cases c6 : tkey sg t s = 128 + 6
  · rw [if_pos c6, if_neg (by decide)]; rw [c6, if_pos (by omega)] at hQ; exact hQ
  rw [if_neg c6, if_pos rfl]
  refine m_isWord9 (i := 7) h (by omega) (by rfl) ?_
  by_cases c7 : tkey sg t s = 128 + 7
  · rw [if_pos c7, if_neg (by decide)]; rw [c7, if_pos (by omega)] at hQ; exact hQ
  rw [if_neg c7, if_pos rfl]
  rw [if_neg (by omega)] at hQ; exact hQ
theorem NF_X {sg : Nat → Nat} {t : Nat} {P : PS} {l : List Nat} {S S' : St} (hf : frX l S S') (hl : ∀ x, x ∈ l → 21 ≤ x) (h : NF sg t P S) : NF sg t P S' := by
  obtain ⟨h1, h2, h3, h4⟩ := h
  have nl : ∀ b, b < 21 → b ∉ l := fun b hb q => by have := hl b q; omega
  refine ⟨fun j hj => by rw [frX_g hf 0 _ (nl 0 (by omega))]; exact h1 j hj, fun p hp => ?_, fun k hk => ?_, fun w hw => ?_⟩
  · rw [frX_g hf 10 p (nl _ (by omega)), frX_g hf 13 p (nl _ (by omega))]; exact h2 p hp
  · rw [frX_g hf 11 k (nl _ (by omega)), frX_g hf 12 k (nl _ (by omega))]; exact h3 k hk
  · rw [frX_g hf 15 w (nl _ (by omega)), frX_g hf 16 w (nl _ (by omega)), frX_g hf 17 w (nl _ (by omega)), frX_gJ hf 14 w (nl _ (by omega))]; exact h4 w hw
theorem CurM_X {sg : Nat → Nat} {t s : Nat} {l : List Nat} {S S' : St} (hf : frX l S S') (hl : 0 ∉ l ∧ 1 ∉ l) (h : CurM sg t s S) : CurM sg t s S' := by
  obtain ⟨⟨a, b, c⟩, d, e1, e2, e3, e4, e5⟩ := h
  refine ⟨⟨a, by rw [frX_g hf 0 3 hl.1]; exact b, fun j hj => by rw [frX_g hf 1 j hl.2]; exact c j hj⟩, d, by rw [frX_g hf 0 4 hl.1]; exact e1, by rw [frX_g hf 0 5 hl.1]; exact e2, by rw [frX_g hf 0 6 hl.1]; exact e3, fun q => by rw [frX_gJ hf 0 7 hl.1]; exact e4 q, fun q => by rw [frX_g hf 0 8 hl.1]; exact e5 q⟩
theorem CurM_s0 {sg : Nat → Nat} {t s j : Nat} {v : Int32} {S : St} (hj : j < 3 ∨ 8 < j) (h : CurM sg t s S) : CurM sg t s (sI S 0 j v) := by
  obtain ⟨⟨a, b, c⟩, d, e1, e2, e3, e4, e5⟩ := h
  refine ⟨⟨a, by rw [gI_sI, if_neg (by omega)]; exact b, fun j hj => by rw [gI_sI, if_neg (by omega)]; exact c j hj⟩, d, by rw [gI_sI, if_neg (by omega)]; exact e1, by rw [gI_sI, if_neg (by omega)]; exact e2, by rw [gI_sI, if_neg (by omega)]; exact e3, fun q => by rw [gJ_sI]; exact e4 q, fun q => by rw [gI_sI, if_neg (by omega)]; exact e5 q⟩
theorem m_stepEnd {sg : Nat → Nat} {t s : Nat} {src : Nat → Nat} {P : PS} {S : St} {Q : Int32 → St → Prop} (hW : PSW P) (h : PM sg t s P S) (hs : ∀ p, p < P.F 0 0 → src p < P.F 0 0 ∧ gI S 33 p = nI (src p))
    (hQ : ∀ S', frR S S' → PM sg t s (addS P src) S' → Q 1 S') : w_X12_readsStep_188 Q S := by
  obtain ⟨hc, h1, h2, h3, h4⟩ := h
  have hn := hW.1.2.1
  unfold w_X12_readsStep_188
  refine m_turns hn (h1 0 (by omega)) hs (fun p hp => (h2 p hp).1) ?_
  intro S1 f1 g1 S2 e2
  rw [frX_g f1 0 26 (by simp), show gI S 0 26 = nI (P.F 0 1) from h1 1 (by omega), nI_1] at e2
  have c1 : CurM sg t s S2 := by rw [e2]; exact CurM_s0 (by omega) (CurM_X f1 (by simp) hc)
  have go : ∀ b j, ¬ (b = 0 ∧ j = 26) → b ≠ 10 → b ≠ 34 → gI S2 b j = gI S b j := fun b j a1 a2 a3 => by
    rw [e2, gI_sI, if_neg a1]; exact frX_g f1 b j (by simp; omega)
  refine hQ S2 (frR_trans (frR_X f1 (fun x hx => by simp at hx; omega)) (by rw [e2]; exact frR_s0 (by decide) (by omega))) ⟨c1, fun j hj => ?_, fun p hp => ⟨?_, ?_⟩, fun k hk => ?_, fun w hw => ?_⟩
  · show gI S2 0 (25 + j) = nI (if 0 = 0 ∧ j = 1 then P.F 0 1 + 1 else if 0 = 1 then _ else P.F 0 j)
    by_cases e : j = 1
    · rw [if_pos ⟨rfl, e⟩, e, e2, gI_sI, if_pos ⟨rfl, rfl⟩]
    · rw [if_neg (fun q => e q.2), if_neg (by omega), go _ _ (by omega) (by omega) (by omega)]; exact h1 j hj
  · show gI S2 10 p = nI (P.F 1 (src p))
    rw [e2, gI_sI, if_neg (by omega)]; exact g1 p hp
  · show gI S2 13 p = nI (P.F 3 p)
    rw [go _ _ (by omega) (by omega) (by omega)]; exact (h2 p hp).2
  · rw [go _ _ (by omega) (by omega) (by omega), go _ _ (by omega) (by omega) (by omega)]; exact h3 k hk
  · have hgJ : gJ S2 14 w = gJ S 14 w := by rw [e2, gJ_sI]; exact frX_gJ f1 14 w (by simp)
    rw [go _ _ (by omega) (by omega) (by omega), go _ _ (by omega) (by omega) (by omega), go _ _ (by omega) (by omega) (by omega), hgJ]; exact h4 w hw
theorem numK_some {sg : Nat → Nat} {t lo hi r s : Nat} (h1 : lo ≤ r) (h2 : r ≤ hi) : numK sg t lo hi (some r) s = if numK sg t lo hi none s = 0 ∧ r = v10 sg t s then 3 else numK sg t lo hi none s := by
  unfold numK
  by_cases c : tkey sg t s = 2
  · rw [if_pos c, if_pos c, if_neg (show ¬ ((none : Option Nat) = some (v10 sg t s)) by simp)]
    by_cases d : r = v10 sg t s
    · have z : ¬ (v10 sg t s < lo ∨ hi < v10 sg t s) := by omega
      rw [if_pos (by rw [d]), if_neg z, if_pos ⟨rfl, d⟩]
    · rw [if_neg (by simpa using d), if_neg (show ¬ (_ ∧ r = v10 sg t s) from fun q => d q.2)]
  · rw [if_neg c, if_neg c, if_neg (by omega)]
