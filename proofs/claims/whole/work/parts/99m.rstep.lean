/-! ===== pure: what the parser has so far; both read a step ===== -/
abbrev PS : Type := Fm × (Nat → Nat) × (Nat → Nat) × (Nat → Nat)
abbrev PS.F (P : PS) : Fm := P.1
abbrev PS.pa (P : PS) : Nat → Nat := P.2.1
abbrev PS.pb (P : PS) : Nat → Nat := P.2.2.1
abbrev PS.nm (P : PS) : Nat → Nat := P.2.2.2
abbrev PO : Type := Sum Nat (Nat × PS)
abbrev PO.bad (f : Nat) : PO := Sum.inl f
abbrev PO.ok (s : Nat) (P : PS) : PO := Sum.inr (s, P)
/-- how many of the first n are told -/
def cz (g : Nat → Nat) : Nat → Nat
  | 0 => 0
  | n + 1 => cz g n + (if 0 < g n then 1 else 0)
def PSW (P : PS) : Prop :=
  (1 ≤ P.F 0 0 ∧ P.F 0 0 ≤ 12 ∧ P.F 0 1 ≤ 8 ∧ P.F 0 2 ≤ 8 ∧ P.F 0 3 = cz (P.F 3) (P.F 0 0) ∧ P.F 0 4 ≤ 99 ∧ P.F 0 5 ≤ 12 ∧ P.F 0 6 ≤ 4) ∧ Pm (P.F 0 0) (P.F 1) ∧
  (∀ a, a < P.F 0 0 → P.F 2 a < 2 ^ P.F 0 0 ∧ P.F 3 a ≤ 99 ∧ ∀ b, (P.F 2 a).testBit b = true → b < P.F 0 0 ∧ b ≠ a ∧ (P.F 2 b).testBit a = true) ∧
  (∀ w, w < P.F 0 5 → P.F 4 w ≤ 99 ∧ P.F 5 w ≤ 9 ∧ P.F 6 w ≤ 99) ∧ PW P.F P.pa P.pb
abbrev prl : List Nat := [7, 11, 12, 13, 14, 15, 16, 17, 18, 19, 20]
def TF (F : Fm) (S : St) : Prop := (∀ j, j < 7 → gI S 11 j = nI (F 0 j)) ∧ (∀ k j, 1 ≤ k → k ≤ 3 → j < F 0 0 → gI S (11 + k) j = nI (F k j)) ∧ (∀ k j, 4 ≤ k → k ≤ 6 → j < F 0 5 → gI S (11 + k) j = nI (F k j)) ∧ ∀ p, F 0 0 ≤ p → p < 12 → gI S 14 p = 0
def NmE (sg : Nat → Nat) (t : Nat) (P : PS) (S : St) : Prop := ∀ w, w < P.F 0 5 → tkind sg t (P.nm w) = 1 ∧ gJ S 20 w = lN (v32 sg t (P.nm w))
def PE (sg : Nat → Nat) (t n s : Nat) (P : PS) (S : St) : Prop := CurE sg t n s S ∧ TF P.F S ∧ NmE sg t P S ∧ gI S 7 8 = 0
def NF (sg : Nat → Nat) (t : Nat) (P : PS) (S : St) : Prop := (∀ j, j < 7 → gI S 0 (25 + j) = nI (P.F 0 j)) ∧ (∀ p, p < P.F 0 0 → gI S 10 p = nI (P.F 1 p) ∧ gI S 13 p = nI (P.F 3 p)) ∧ (∀ k, k < P.F 0 2 → gI S 11 k = nI (P.pa k) ∧ gI S 12 k = nI (P.pb k)) ∧
  ∀ w, w < P.F 0 5 → gI S 15 w = nI (P.F 4 w) ∧ gI S 16 w = nI (P.F 5 w) ∧ gI S 17 w = nI (P.F 6 w) ∧ tkind sg t (P.nm w) = 1 ∧ gJ S 14 w = lN (v27 sg t (P.nm w))
def PM (sg : Nat → Nat) (t s : Nat) (P : PS) (S : St) : Prop := CurM sg t s S ∧ NF sg t P S
theorem n16 (k s : Nat) : nI k + (16 : Int32) * nI s = nI (k + 16 * s) := by
  rw [show (16 : Int32) = nI 16 from rfl, pk_mul, nI_add]
theorem TF_fr {F : Fm} {l : List Nat} {S S' : St} (hf : frX l S S') (hl : ∀ x, x ∈ l → 11 ≤ x ∧ x ≤ 17 → False) (h : TF F S) : TF F S' := by
  obtain ⟨h1, h2, h3, h4⟩ := h
  exact ⟨fun j hj => by rw [frX_g hf 11 j (fun q => hl _ q (by omega))]; exact h1 j hj, fun k j a b c => by rw [frX_g hf _ j (fun q => hl _ q (by omega))]; exact h2 k j a b c, fun k j a b c => by rw [frX_g hf _ j (fun q => hl _ q (by omega))]; exact h3 k j a b c, fun p a b => by rw [frX_g hf 14 p (fun q => hl _ q (by omega))]; exact h4 p a b⟩
theorem NmE_fr {sg : Nat → Nat} {t : Nat} {P : PS} {l : List Nat} {S S' : St} (hf : frX l S S') (hl : 20 ∉ l) (h : NmE sg t P S) : NmE sg t P S' := fun w hw => ⟨(h w hw).1, by rw [frX_gJ hf 20 w hl]; exact (h w hw).2⟩
theorem NF_FT {sg : Nat → Nat} {t : Nat} {P : PS} {S S' : St} (hf : FT S S') (h : NF sg t P S) : NF sg t P S' := by
  obtain ⟨h1, h2, h3, h4⟩ := h
  refine ⟨fun j hj => by rw [hf.1 0 _ (by omega)]; exact h1 j hj, fun p hp => ?_, fun k hk => ?_, fun w hw => ?_⟩
  · rw [hf.1 10 p (by omega), hf.1 13 p (by omega)]; exact h2 p hp
  · rw [hf.1 11 k (by omega), hf.1 12 k (by omega)]; exact h3 k hk
  · rw [hf.1 15 w (by omega), hf.1 16 w (by omega), hf.1 17 w (by omega), hf.2 14 w (by omega)]; exact h4 w hw
theorem frM_FT {S S' : St} (hf : FT S S') : frM S S' := fun b j e => by
  refine hf.1 b j (fun q => ?_)
  obtain ⟨rfl, h⟩ := q
  rcases h with rfl | rfl | rfl | rfl <;> revert e <;> decide
def addS (P : PS) (src : Nat → Nat) : PS := (fun i j => if i = 0 ∧ j = 1 then P.F 0 1 + 1 else if i = 1 then P.F 1 (src j) else P.F i j, P.2)
def stepP (sg : Nat → Nat) (t s : Nat) (P : PS) : PO :=
  if tkey sg t s < 130 ∨ 135 < tkey sg t s then .bad (1 + 16 * s)
  else if 8 ≤ P.F 0 1 then .bad (5 + 16 * s)
  else if tkey sg t s = 135 then
    if numK sg t 0 (P.F 0 0 - 1) none (nxt sg t s) ≠ 0 then .bad (numK sg t 0 (P.F 0 0 - 1) none (nxt sg t s) + 16 * nxt sg t s)
    else if numK sg t 0 (P.F 0 0 - 1) (some (v10 sg t (nxt sg t s))) (nxt sg t (nxt sg t s)) ≠ 0 then .bad (numK sg t 0 (P.F 0 0 - 1) (some (v10 sg t (nxt sg t s))) (nxt sg t (nxt sg t s)) + 16 * nxt sg t (nxt sg t s))
    else .ok (nxt sg t (nxt sg t (nxt sg t s))) (addS P (srcP 135 (P.F 0 0) (v10 sg t (nxt sg t s)) (v10 sg t (nxt sg t (nxt sg t s)))))
  else if tkey sg t s = 134 then
    if numK sg t 0 11 none (nxt sg t s) ≠ 0 then .bad (numK sg t 0 11 none (nxt sg t s) + 16 * nxt sg t s)
    else .ok (nxt sg t (nxt sg t s)) (addS P (srcP 134 (P.F 0 0) 0 (v10 sg t (nxt sg t s))))
  else .ok (nxt sg t s) (addS P (srcP (tkey sg t s) (P.F 0 0) 0 0))
theorem e_stepEnd {sg : Nat → Nat} {t n s k a b : Nat} {A : Int32} {P : PS} {S : St} {Q : Int32 → St → Prop} (hW : PSW P) (h : PE sg t n s P S) (h8 : P.F 0 1 < 8) (hk : 130 ≤ k ∧ k ≤ 135) (hb : b ≤ 11) (hab : k = 135 → a < P.F 0 0 ∧ b < P.F 0 0) (hA : k = 135 → A = nI a) (hB : 134 ≤ k → gI S 7 7 = nI b)
    (hQ : ∀ S', frX prl S S' → PE sg t n s (addS P (srcP k (P.F 0 0) a b)) S' → Q 1 S') : w_X8_readStep_128 Q (nI k) A S := by
  obtain ⟨hc, hT, hN, h78⟩ := h
  have hn := hW.1.2.1
  unfold w_X8_readStep_128
  refine e_addStep (st := P.F 0 1) (f := P.F 1) hn hk hb (src_pm hn hb hk hab) (hT.1 0 (by omega)) (hT.1 1 (by omega)) (fun p hp => hT.2.1 1 p (by omega) (by omega) hp) (fun q => ⟨hA q, (hab q).1⟩) hB ?_
  intro S1 f1 g1 g2 g3
  refine hQ S1 (frX_sub f1 (by simp)) ⟨CurE_fr hc f1 (by simp), ⟨fun j hj => ?_, fun k' j a1 a2 a3 => ?_, fun k' j a1 a2 a3 => ?_, fun p a1 a2 => ?_⟩, ?_, by rw [frX_g f1 7 8 (by simp)]; exact h78⟩
  · show gI S1 11 j = nI (if 0 = 0 ∧ j = 1 then P.F 0 1 + 1 else if 0 = 1 then _ else P.F 0 j)
    by_cases e : j = 1
    · rw [if_pos ⟨rfl, e⟩, e]; exact g2
    · rw [if_neg (fun q => e q.2), if_neg (by omega), g1 j e]; exact hT.1 j hj
  · have a3 : j < P.F 0 0 := a3
    show gI S1 (11 + k') j = nI (if k' = 0 ∧ j = 1 then P.F 0 1 + 1 else if k' = 1 then P.F 1 (srcP k (P.F 0 0) a b j) else P.F k' j)
    rw [if_neg (by omega)]
    by_cases e : k' = 1
    · rw [if_pos e, e]; exact g3 j a3
    · rw [if_neg e, frX_g f1 (11 + k') j (by simp; omega)]; exact hT.2.1 k' j a1 a2 a3
  · have a3 : j < P.F 0 5 := a3
    show gI S1 (11 + k') j = nI (if k' = 0 ∧ j = 1 then P.F 0 1 + 1 else if k' = 1 then P.F 1 (srcP k (P.F 0 0) a b j) else P.F k' j)
    rw [if_neg (by omega), if_neg (by omega), frX_g f1 (11 + k') j (by simp; omega)]; exact hT.2.2.1 k' j a1 a2 a3
  · have a1 : P.F 0 0 ≤ p := a1
    rw [frX_g f1 14 p (by simp)]; exact hT.2.2.2 p a1 a2
  · exact NmE_fr (P := P) f1 (by simp) hN
theorem PE_FH {sg : Nat → Nat} {t n s s' : Nat} {P : PS} {S S' : St} (h : PE sg t n s P S) (hf : FH S S') (hc : CurE sg t n s' S') : PE sg t n s' P S' :=
  ⟨hc, TF_fr hf.1 (fun x hx q => by simp at hx; omega) h.2.1, NmE_fr hf.1 (by simp) h.2.2.1, by rw [hf.2 8 (by omega) (by omega)]; exact h.2.2.2⟩
theorem PE_7 {sg : Nat → Nat} {t n s s' : Nat} {P : PS} {v : Int32} {S S' : St} (h : PE sg t n s P S) (hf : FH (sI S 7 7 v) S') (hc : CurE sg t n s' S') : PE sg t n s' P S' ∧ gI S' 7 7 = v ∧ frX prl S S' := by
  have f1 : frX [7] S (sI S 7 7 v) := frX_sI (frX_refl _ _) (by simp)
  refine ⟨⟨hc, TF_fr (frX_trans f1 hf.1) (fun x hx q => by simp at hx; omega) h.2.1, NmE_fr (frX_trans f1 hf.1) (by simp) h.2.2.1, ?_⟩, ?_, frX_sub (frX_trans f1 hf.1) (by simp)⟩
  · rw [hf.2 8 (by omega) (by omega), gI_sI, if_neg (by omega)]; exact h.2.2.2
  · rw [hf.2 7 (by omega) (by omega), gI_sI, if_pos ⟨rfl, rfl⟩]
theorem e_readStep {sg : Nat → Nat} {t n s : Nat} {P : PS} {S : St} {Q : Int32 → St → Prop} (hW : PSW P) (h : PE sg t n s P S) (hb : ∀ f S', stepP sg t s P = .bad f → frX prl S S' → gI S' 7 8 = nI f → Q 0 S') (ho : ∀ s' P' S', stepP sg t s P = .ok s' P' → frX prl S S' → PE sg t n s' P' S' → Q 1 S') : w_X8_readStep S Q := by
  have hn0 := hW.1.1
  have hn := hW.1.2.1
  have h1 := hW.1.2.2.1
  obtain ⟨hc, hT, hN, h78⟩ := id h
  have kk := tkey_lt sg t s
  have wrong : ∀ (f : Nat) (v : Int32) (S1 S' : St), stepP sg t s P = .bad f → frX prl S S1 → v = nI f → S' = sI S1 7 8 v → Q 0 S' := by
    intro f v S1 S' e1 e2 e3 e4
    refine hb f S' e1 (by rw [e4]; exact frX_sI e2 (by simp)) (by rw [e4, gI_sI, if_pos ⟨rfl, rfl⟩, e3])
  unfold w_X8_readStep
  rintro x4 rfl
  rw [hc.2.2.2.2.1, hT.1 1 (by omega)]
  have out : (tkey sg t s < 130 ∨ 135 < tkey sg t s) → w_X8_readStep_19 Q S := fun q => by
    unfold w_X8_readStep_19
    refine e_wrong hc ⟨Or.inl rfl, wrong (1 + 16 * s) _ S _ (by unfold stepP; rw [if_pos q]) (frX_refl _ _) (n16 1 s) rfl⟩
  refine nI_ifLt (y := 130) (by omega) (by omega) (fun q => out (Or.inl q)) (fun q1 => ?_)
  refine nI_if (y := 135) (by omega) (by omega) (fun q2 => ?_) (fun q => out (Or.inr q))
  have e0 : stepP sg t s P = stepP sg t s P := rfl
  conv at e0 => rhs; unfold stepP
  rw [if_neg (by omega)] at e0
  refine nI_ifLt (y := 8) (by omega) (by omega) (fun q3 => ?_) (fun q3 => ?_)
  · rw [if_neg (by omega)] at e0
    refine e_next hc (fun S1 f1 c1 => ?_)
    have p1 := PE_FH h f1 c1
    have fr1 : frX prl S S1 := frX_sub f1.1 (by simp)
    refine nI_ifEq (y := 135) (by omega) (by omega) (fun k5 => ?_) (fun k5 => ?_)
    · rw [if_pos k5] at e0
      rw [p1.2.1.1 0 (by omega), show (1 : Int32) = nI 1 from rfl, pk_sub hn0]
      refine e_takeNumber (lo := 0) (ro := none) c1 (by omega) (by omega) (fun r q => by cases q) (fun z => ?_) (fun z z2 z3 z4 S2 f2 c2 => ?_)
      · rw [if_pos z] at e0
        rw [if_pos rfl]
        exact wrong _ _ S1 _ e0 fr1 (n16 _ _) rfl
      · rw [if_neg (by omega)] at e0
        rw [if_neg (by decide)]
        obtain ⟨p2, g77, fr2⟩ := PE_7 p1 f2 c2
        intro x hx
        rw [g77] at hx
        subst hx
        unfold w_X8_readStep_87
        rw [k5, if_pos (by rfl), p2.2.1.1 0 (by omega), show (1 : Int32) = nI 1 from rfl, pk_sub hn0]
        unfold w_X8_readStep_108
        rw [if_neg (by decide)]
        refine e_takeNumber (lo := 0) (ro := some (v10 sg t (nxt sg t s))) c2 (by omega) (by omega) (fun r q => by cases q; omega) (fun y => ?_) (fun y y2 y3 y4 S3 f3 c3 => ?_)
        · rw [if_pos y] at e0
          rw [if_pos rfl]
          exact wrong _ _ S2 _ e0 (frX_trans fr1 fr2) (n16 _ _) rfl
        · rw [if_neg (by omega)] at e0
          rw [if_neg (by decide)]
          obtain ⟨p3, g77', fr3⟩ := PE_7 p2 f3 c3
          refine e_stepEnd (k := 135) (a := v10 sg t (nxt sg t s)) (b := v10 sg t (nxt sg t (nxt sg t s))) hW p3 q3 (by omega) (by omega) (fun _ => by omega) (fun _ => rfl) (fun _ => g77') (fun S4 f4 p4 => ?_)
          exact ho _ _ S4 e0 (frX_trans (frX_trans (frX_trans fr1 fr2) fr3) f4) p4
    · rw [if_neg k5] at e0
      unfold w_X8_readStep_87
      rw [if_neg (show ¬ nI (tkey sg t s) = 135 from fun q => k5 (nI_inj (b := 135) (by omega) (by omega) q))]
      unfold w_X8_readStep_108
      refine nI_ifLt (y := 134) (by omega) (by omega) (fun k4 => ?_) (fun k4 => ?_)
      · rw [if_neg (by omega)] at e0
        refine e_stepEnd (a := 0) (b := 0) hW p1 q3 ⟨q1, q2⟩ (by omega) (fun q => by omega) (fun q => by omega) (fun q => by omega) (fun S4 f4 p4 => ho _ _ S4 e0 (frX_trans fr1 f4) p4)
      · have k4' : tkey sg t s = 134 := by omega
        rw [if_pos k4'] at e0
        refine e_takeNumber (lo := 0) (hi := 11) (ro := none) c1 (by omega) (by omega) (fun r q => by cases q) (fun z => ?_) (fun z z2 z3 z4 S2 f2 c2 => ?_)
        · rw [if_pos z] at e0
          rw [if_pos rfl]
          exact wrong _ _ S1 _ e0 fr1 (n16 _ _) rfl
        · rw [if_neg (by omega)] at e0
          rw [if_neg (by decide)]
          obtain ⟨p2, g77, fr2⟩ := PE_7 p1 f2 c2
          rw [k4']
          refine e_stepEnd (a := 0) (b := v10 sg t (nxt sg t s)) hW p2 q3 (by omega) (by omega) (fun q => by omega) (fun q => by omega) (fun _ => g77) (fun S4 f4 p4 => ho _ _ S4 e0 (frX_trans (frX_trans fr1 fr2) f4) p4)
  · rw [if_pos q3] at e0
    exact e_wrong hc ⟨Or.inl rfl, wrong (5 + 16 * s) _ S _ e0 (frX_refl _ _) (n16 5 s) rfl⟩
