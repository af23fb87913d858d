/-! ===== pure: the line of a whole ===== -/
def addW (P : PS) (p v : Nat) : PS := (fun a b => if a = 0 ∧ b = 3 then P.F 0 3 + 1 else if a = 3 ∧ b = p then v else P.F a b, P.2)
theorem addW_0 (P : PS) (p v : Nat) {j : Nat} (h : j ≠ 3) : (addW P p v).F 0 j = P.F 0 j := by
  show (if 0 = 0 ∧ j = 3 then P.F 0 3 + 1 else if 0 = 3 ∧ j = p then v else P.F 0 j) = _
  rw [if_neg (fun q => h q.2), if_neg (by omega)]
theorem addW_03 (P : PS) (p v : Nat) : (addW P p v).F 0 3 = P.F 0 3 + 1 := by
  show (if 0 = 0 ∧ 3 = 3 then P.F 0 3 + 1 else if 0 = 3 ∧ 3 = p then v else P.F 0 3) = _
  rw [if_pos ⟨rfl, rfl⟩]
theorem addW_3 (P : PS) (p v : Nat) : (addW P p v).F 3 = fun j => if j = p then v else P.F 3 j := by
  funext j
  show (if 3 = 0 ∧ j = 3 then P.F 0 3 + 1 else if 3 = 3 ∧ j = p then v else P.F 3 j) = _
  rw [if_neg (by omega)]
  by_cases e : j = p
  · rw [if_pos ⟨rfl, e⟩, if_pos e]
  · rw [if_neg (fun q => e q.2), if_neg e]
theorem addW_k (P : PS) (p v : Nat) {k : Nat} (h : 1 ≤ k) (h3 : k ≠ 3) : (addW P p v).F k = P.F k := by
  funext j
  show (if k = 0 ∧ j = 3 then P.F 0 3 + 1 else if k = 3 ∧ j = p then v else P.F k j) = _
  rw [if_neg (by omega), if_neg (by omega)]
theorem cz_up {g : Nat → Nat} {p v : Nat} (hv : 0 < v) (hg : g p = 0) : ∀ n, cz (fun j => if j = p then v else g j) n = cz g n + (if p < n then 1 else 0) := by
  intro n
  induction n with
  | zero => rw [if_neg (Nat.not_lt_zero _)]; rfl
  | succ n ih =>
    show cz (fun j => if j = p then v else g j) n + (if 0 < (if n = p then v else g n) then 1 else 0) = cz g n + (if 0 < g n then 1 else 0) + _
    rw [ih]
    by_cases e : n = p
    · subst e
      rw [if_pos rfl, if_pos hv, if_neg (Nat.lt_irrefl n), if_pos (Nat.lt_succ_self n), hg, if_neg (Nat.lt_irrefl 0)]
    · rw [if_neg e]
      by_cases c : p < n
      · rw [if_pos c, if_pos (show p < n + 1 by omega)]; omega
      · rw [if_neg c, if_neg (show ¬ p < n + 1 by omega)]; omega
theorem addW_W {P : PS} {p v : Nat} (hW : PSW P) (hp : p < P.F 0 0) (hv : 1 ≤ v ∧ v ≤ 99) (h0 : P.F 3 p = 0) : PSW (addW P p v) := by
  obtain ⟨⟨a1, a2, a3, a4, a5, a6, a7, a8⟩, b, c, d, e⟩ := hW
  have z0 := addW_0 P p v (j := 0) (by omega)
  have z1 := addW_0 P p v (j := 1) (by omega)
  have z2 := addW_0 P p v (j := 2) (by omega)
  have z4 := addW_0 P p v (j := 4) (by omega)
  have z5 := addW_0 P p v (j := 5) (by omega)
  have z6 := addW_0 P p v (j := 6) (by omega)
  have y3 := addW_03 P p v
  have k1 := addW_k P p v (k := 1) (by omega) (by omega)
  have k2 := addW_k P p v (k := 2) (by omega) (by omega)
  have k4 := addW_k P p v (k := 4) (by omega) (by omega)
  have k5 := addW_k P p v (k := 5) (by omega) (by omega)
  have k6 := addW_k P p v (k := 6) (by omega) (by omega)
  have pw : PW (addW P p v).F (addW P p v).pa (addW P p v).pb := by
    unfold PW
    rw [z0, z2, k2]
    exact e
  unfold PSW
  rw [z0, z1, z2, z4, z5, z6, y3, k1, k2, k4, k5, k6, addW_3]
  refine ⟨⟨a1, a2, a3, a4, ?_, a6, a7, a8⟩, b, fun a ha => ?_, d, pw⟩
  · rw [cz_up (by omega) h0, if_pos hp, a5]
  · obtain ⟨c1, c2, c3⟩ := c a ha
    refine ⟨c1, ?_, c3⟩
    show (if a = p then v else P.F 3 a) ≤ 99
    split <;> omega
def ro9 (P : PS) (v : Nat) : Option Nat := if v < P.F 0 0 ∧ 0 < P.F 3 v then some v else none
def wholeP (sg : Nat → Nat) (t s : Nat) (P : PS) : PO :=
  if numK sg t 0 (P.F 0 0 - 1) (ro9 P (v10 sg t (nxt sg t s))) (nxt sg t s) ≠ 0 then .bad (numK sg t 0 (P.F 0 0 - 1) (ro9 P (v10 sg t (nxt sg t s))) (nxt sg t s) + 16 * nxt sg t s)
  else if tkey sg t (nxt sg t (nxt sg t s)) ≠ 138 then .bad (1 + 16 * nxt sg t (nxt sg t s))
  else if numK sg t 1 99 none (nxt sg t (nxt sg t (nxt sg t s))) ≠ 0 then .bad (numK sg t 1 99 none (nxt sg t (nxt sg t (nxt sg t s))) + 16 * nxt sg t (nxt sg t (nxt sg t s)))
  else .ok (nxt sg t (nxt sg t (nxt sg t (nxt sg t s)))) (addW P (v10 sg t (nxt sg t s)) (v10 sg t (nxt sg t (nxt sg t (nxt sg t s)))))
theorem ro9_0 {sg : Nat → Nat} {t s lo hi : Nat} {P : PS} (h : numK sg t lo hi (ro9 P (v10 sg t s)) s = 0) (hp : v10 sg t s < P.F 0 0) : P.F 3 (v10 sg t s) = 0 := by
  apply Classical.byContradiction
  intro q
  unfold numK at h
  split at h
  · rw [show ro9 P (v10 sg t s) = some (v10 sg t s) from by unfold ro9; rw [if_pos ⟨hp, by omega⟩], if_pos rfl] at h
    omega
  · omega
theorem e_wholeEnd {sg : Nat → Nat} {t n s p v : Nat} {P : PS} {S : St} {Q : Int32 → St → Prop} (hW : PSW P) (h : PE sg t n s P S) (hp : p < P.F 0 0) (hQ : ∀ S', frX prl S S' → PE sg t n s (addW P p v) S' → Q 1 S') : w_X4_addWhole 11 (nI p) (nI v) S (fun S' => Q 1 S') := by
  have hn := hW.1.2.1
  obtain ⟨hc, hT, hN, h78⟩ := h
  unfold w_X4_addWhole
  refine e_put (p := 14) (by show p < 12; omega) (by decide) ?_
  intro S2 e2
  rw [gI_sI, if_neg (by omega), hT.1 3 (by omega), nI_1] at e2
  have f2 : frX [11, 14] S S2 := by rw [e2]; exact frX_sI (frX_sI (frX_refl _ _) (by simp)) (by simp)
  refine hQ S2 (frX_sub f2 (by simp)) ⟨CurE_fr hc f2 (by simp), ⟨fun j hj => ?_, fun k j a1 a2 a3 => ?_, fun k j a1 a2 a3 => ?_, fun q a1 a2 => ?_⟩, ?_, by rw [frX_g f2 7 8 (by simp)]; exact h78⟩
  · by_cases e : j = 3
    · rw [e, addW_03, e2, gI_sI, if_pos ⟨rfl, rfl⟩]
    · rw [addW_0 _ _ _ e, e2, gI_sI, if_neg (fun q => e q.2), gI_sI, if_neg (by omega)]; exact hT.1 j hj
  · rw [addW_0 _ _ _ (by omega)] at a3
    by_cases e : k = 3
    · subst e
      rw [addW_3, e2, gI_sI, if_neg (by omega), gI_sI]
      show _ = nI (if j = p then v else P.F 3 j)
      by_cases e : j = p
      · rw [if_pos ⟨rfl, e⟩, if_pos e]
      · rw [if_neg (fun q => e q.2), if_neg e]; exact hT.2.1 3 j (by omega) (by omega) a3
    · rw [addW_k _ _ _ a1 e, e2, gI_sI, if_neg (by omega), gI_sI, if_neg (by omega)]; exact hT.2.1 k j a1 a2 a3
  · rw [addW_0 _ _ _ (by omega)] at a3
    rw [addW_k _ _ _ (by omega) (by omega), e2, gI_sI, if_neg (by omega), gI_sI, if_neg (by omega)]; exact hT.2.2.1 k j a1 a2 a3
  · rw [addW_0 _ _ _ (by omega)] at a1
    rw [e2, gI_sI, if_neg (by omega), gI_sI, if_neg (by omega)]; exact hT.2.2.2 q a1 a2
  · intro w hw
    rw [addW_0 _ _ _ (by omega)] at hw
    have := hN w hw
    exact ⟨this.1, by rw [frX_gJ f2 20 w (by simp)]; exact this.2⟩
theorem e_readWhole {sg : Nat → Nat} {t n s : Nat} {P : PS} {S : St} {Q : Int32 → St → Prop} (hW : PSW P) (h : PE sg t n s P S) (hb : ∀ f S', wholeP sg t s P = .bad f → frX prl S S' → gI S' 7 8 = nI f → Q 0 S') (ho : ∀ s' P' S', wholeP sg t s P = .ok s' P' → PSW P' → s' ≤ t → frX prl S S' → PE sg t n s' P' S' → Q 1 S') : w_X8_readWhole S Q := by
  have hs := h.1.2.1
  have hn0 := hW.1.1
  have hn := hW.1.2.1
  have e0 : wholeP sg t s P = wholeP sg t s P := rfl
  conv at e0 => rhs; unfold wholeP
  have wrong : ∀ (f : Nat) (v : Int32) (S1 S' : St), wholeP sg t s P = .bad f → frX prl S S1 → v = nI f → S' = sI S1 7 8 v → Q 0 S' := by
    intro f v S1 S' e1 e2 e3 e4
    refine hb f S' e1 (by rw [e4]; exact frX_sI e2 (by simp)) (by rw [e4, gI_sI, if_pos ⟨rfl, rfl⟩, e3])
  unfold w_X8_readWhole
  refine e_next h.1 (fun S1 f1 c1 => ?_)
  have p1 := PE_FH h f1 c1
  have r1 : frX prl S S1 := frX_sub f1.1 (by simp)
  have l1 := nxt_le (sg := sg) hs
  have kk := tkey_lt sg t (nxt sg t s)
  have main : ∀ ro, (numK sg t 0 (P.F 0 0 - 1) ro (nxt sg t s) = numK sg t 0 (P.F 0 0 - 1) (ro9 P (v10 sg t (nxt sg t s))) (nxt sg t s)) → (∀ r, ro = some r → r < 2 ^ 31) → w_X8_readWhole_45 Q (roI ro) S1 := by
    intro ro er hr
    unfold w_X8_readWhole_45
    rw [p1.2.1.1 0 (by omega), show (1 : Int32) = nI 1 from rfl, pk_sub hn0]
    refine e_takeNumber (lo := 0) (ro := ro) c1 (by omega) (by omega) hr (fun z => ?_) (fun z z2 z3 z4 S2 f2 c2 => ?_)
    · rw [er] at z ⊢
      rw [if_pos z] at e0
      rw [if_pos rfl]
      exact wrong _ _ S1 _ e0 r1 (n16 _ _) rfl
    · rw [er] at z
      rw [if_neg (by omega)] at e0
      rw [if_neg (by decide)]
      obtain ⟨p2, g77, r2⟩ := PE_7 p1 f2 c2
      intro x hx
      rw [g77] at hx
      subst hx
      refine e_takeKey (k := 138) c2 (by omega) (fun y => ?_) (fun y S3 f3 c3 => ?_)
      · rw [if_pos y] at e0
        rw [if_pos rfl]
        exact wrong _ _ S2 _ e0 (frX_trans r1 r2) (n16 1 _) rfl
      · rw [if_neg (fun w => w y)] at e0
        rw [if_neg (by decide)]
        have p3 := PE_FH p2 f3 c3
        have r3 : frX prl S S3 := frX_trans (frX_trans r1 r2) (frX_sub f3.1 (by simp))
        refine e_takeNumber (lo := 1) (hi := 99) (ro := none) c3 (by omega) (by omega) (fun r q => by cases q) (fun w => ?_) (fun w w2 w3 w4 S4 f4 c4 => ?_)
        · rw [if_pos w] at e0
          rw [if_pos rfl]
          exact wrong _ _ S3 _ e0 r3 (n16 _ _) rfl
        · rw [if_neg (by omega)] at e0
          rw [if_neg (by decide)]
          obtain ⟨p4, g78, r4⟩ := PE_7 p3 f4 c4
          rw [g78]
          have hp : v10 sg t (nxt sg t s) < P.F 0 0 := by omega
          refine e_wholeEnd hW p4 hp (fun S5 f5 p5 => ho _ _ S5 e0 (addW_W hW hp ⟨w3, w4⟩ (ro9_0 z hp)) (nxt_le (nxt_le (nxt_le l1))) (frX_trans (frX_trans r3 r4) f5) p5)
  have pl : numK sg t 0 (P.F 0 0 - 1) none (nxt sg t s) = numK sg t 0 (P.F 0 0 - 1) (ro9 P (v10 sg t (nxt sg t s))) (nxt sg t s) → w_X8_readWhole_44 Q S1 := fun e => main none e (fun r q => by cases q)
  rw [p1.1.2.2.2.2.1]
  refine nI_ifEq (y := 2) (by omega) (by omega) (fun k2 => ?_) (fun k2 => pl ?_)
  · have kd := tkey_num.mp k2
    have vl := v10_lt kd
    rw [p1.1.2.2.2.2.2.2 kd, lN_i]
    generalize hv : v10 sg t (nxt sg t s) = v at *
    by_cases c : v < 12
    · refine e_cell (p := 14) (by show v < 12; omega) (by decide) ?_
      by_cases d : v < P.F 0 0
      · have g3 := (hW.2.2.1 v d).2.1
        rw [show gI S1 14 v = nI (P.F 3 v) from p1.2.1.2.1 3 v (by omega) (by omega) d]
        refine nI_if (y := 0) (by omega) (by omega) (fun q => pl ?_) (fun q => ?_)
        · unfold ro9; rw [if_neg (by omega)]
        · rw [p1.1.2.2.2.2.2.2 kd, lN_i]
          rw [hv]
          exact main (some v) (by unfold ro9; rw [if_pos ⟨d, q⟩]) (fun r z => by cases z; omega)
      · rw [p1.2.1.2.2.2 v (by omega) c, if_pos (by decide)]
        exact pl (by unfold ro9; rw [if_neg (fun z => d z.1)])
    · unfold w_X11_cell
      rw [if_neg (nI_pos (by omega)), if_pos (show nI (lnE 14) ≤ nI v from nI_le (a := 12) (by omega) (by omega))]
      dsimp only
      rw [if_pos (by decide)]
      exact pl (by unfold ro9; rw [if_neg (fun z => c (by omega))])
  · unfold numK; rw [if_neg k2, if_neg k2]
