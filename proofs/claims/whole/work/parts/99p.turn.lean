/-! ===== pure: a line of steps ===== -/
theorem addS_0 (P : PS) (src : Nat → Nat) {j : Nat} (h : j ≠ 1) : (addS P src).F 0 j = P.F 0 j := by
  show (if 0 = 0 ∧ j = 1 then P.F 0 1 + 1 else if 0 = 1 then P.F 1 (src j) else P.F 0 j) = _
  rw [if_neg (fun q => h q.2), if_neg (by omega)]
theorem addS_01 (P : PS) (src : Nat → Nat) : (addS P src).F 0 1 = P.F 0 1 + 1 := by
  show (if 0 = 0 ∧ 1 = 1 then P.F 0 1 + 1 else if 0 = 1 then P.F 1 (src 1) else P.F 0 1) = _
  rw [if_pos ⟨rfl, rfl⟩]
theorem addS_1 (P : PS) (src : Nat → Nat) : (addS P src).F 1 = fun j => P.F 1 (src j) := by
  funext j
  show (if 1 = 0 ∧ j = 1 then P.F 0 1 + 1 else if 1 = 1 then P.F 1 (src j) else P.F 1 j) = _
  rw [if_neg (by omega), if_pos rfl]
theorem addS_k (P : PS) (src : Nat → Nat) {k : Nat} (h : 2 ≤ k) : (addS P src).F k = P.F k := by
  funext j
  show (if k = 0 ∧ j = 1 then P.F 0 1 + 1 else if k = 1 then P.F 1 (src j) else P.F k j) = _
  rw [if_neg (by omega), if_neg (by omega)]
theorem addS_W {P : PS} {src : Nat → Nat} (hW : PSW P) (h8 : P.F 0 1 < 8) (hs : Pm (P.F 0 0) src) : PSW (addS P src) := by
  obtain ⟨⟨a1, a2, a3, a4, a5, a6, a7, a8⟩, b, c, d, e⟩ := hW
  have z0 := addS_0 P src (j := 0) (by omega)
  have z2 := addS_0 P src (j := 2) (by omega)
  have z3 := addS_0 P src (j := 3) (by omega)
  have z4 := addS_0 P src (j := 4) (by omega)
  have z5 := addS_0 P src (j := 5) (by omega)
  have z6 := addS_0 P src (j := 6) (by omega)
  have y1 := addS_01 P src
  have k2 := addS_k P src (k := 2) (by omega)
  have k3 := addS_k P src (k := 3) (by omega)
  have k4 := addS_k P src (k := 4) (by omega)
  have k5 := addS_k P src (k := 5) (by omega)
  have k6 := addS_k P src (k := 6) (by omega)
  have pw : PW (addS P src).F (addS P src).pa (addS P src).pb := by
    unfold PW
    rw [z0, z2, k2]
    exact e
  unfold PSW
  rw [z0, z2, z3, z4, z5, z6, y1, k2, k3, k4, k5, k6]
  refine ⟨⟨a1, a2, by omega, a4, a5, a6, a7, a8⟩, ?_, c, d, pw⟩
  rw [addS_1]
  exact ⟨fun i hi => b.1 _ (hs.1 i hi), fun i j hi hj q => hs.2 i j hi hj (b.2 _ _ (hs.1 i hi) (hs.1 j hj) q)⟩
theorem numK_rng {sg : Nat → Nat} {t lo hi s : Nat} {ro : Option Nat} (h : numK sg t lo hi ro s = 0) : lo ≤ v10 sg t s ∧ v10 sg t s ≤ hi := by
  unfold numK at h
  split at h
  · split at h
    · omega
    · split at h <;> omega
  · omega
theorem stepP_W {sg : Nat → Nat} {t s s' : Nat} {P P' : PS} (hW : PSW P) (hs : s ≤ t) (h : stepP sg t s P = .ok s' P') : PSW P' ∧ s' ≤ t ∧ P'.F 0 1 = P.F 0 1 + 1 ∧ P.F 0 1 < 8 := by
  have hn0 := hW.1.1
  have hn := hW.1.2.1
  have l1 := nxt_le (sg := sg) hs
  have l2 := nxt_le (sg := sg) l1
  have l3 := nxt_le (sg := sg) l2
  have fin : ∀ s2 src, Pm (P.F 0 0) src → P.F 0 1 < 8 → s2 ≤ t → (PO.ok s2 (addS P src) = .ok s' P') → PSW P' ∧ s' ≤ t ∧ P'.F 0 1 = P.F 0 1 + 1 ∧ P.F 0 1 < 8 := by
    intro s2 src h1 h2 h3 h4
    have h5 := Sum.inr.inj h4
    have e1 : s2 = s' := congrArg Prod.fst h5
    have e2 : addS P src = P' := congrArg Prod.snd h5
    subst e1; subst e2
    exact ⟨addS_W hW h2 h1, h3, addS_01 P src, h2⟩
  have no : ∀ f, PO.bad f = .ok s' P' → PSW P' ∧ s' ≤ t ∧ P'.F 0 1 = P.F 0 1 + 1 ∧ P.F 0 1 < 8 := fun f q => by cases q
  unfold stepP at h
  by_cases c1 : tkey sg t s < 130 ∨ 135 < tkey sg t s
  · rw [if_pos c1] at h; exact no _ h
  rw [if_neg c1] at h
  by_cases c2 : 8 ≤ P.F 0 1
  · rw [if_pos c2] at h; exact no _ h
  rw [if_neg c2] at h
  by_cases c3 : tkey sg t s = 135
  · rw [if_pos c3] at h
    by_cases c4 : numK sg t 0 (P.F 0 0 - 1) none (nxt sg t s) ≠ 0
    · rw [if_pos c4] at h; exact no _ h
    rw [if_neg c4] at h
    by_cases c5 : numK sg t 0 (P.F 0 0 - 1) (some (v10 sg t (nxt sg t s))) (nxt sg t (nxt sg t s)) ≠ 0
    · rw [if_pos c5] at h; exact no _ h
    rw [if_neg c5] at h
    have q1 := numK_rng (Classical.not_not.mp c4)
    have q2 := numK_rng (Classical.not_not.mp c5)
    exact fin _ _ (src_pm hn (by omega) (by omega) (fun _ => by omega)) (by omega) l3 h
  rw [if_neg c3] at h
  by_cases c6 : tkey sg t s = 134
  · rw [if_pos c6] at h
    by_cases c4 : numK sg t 0 11 none (nxt sg t s) ≠ 0
    · rw [if_pos c4] at h; exact no _ h
    rw [if_neg c4] at h
    have q1 := numK_rng (Classical.not_not.mp c4)
    exact fin _ _ (src_pm hn (by omega) (by omega) (fun _ => by omega)) (by omega) l2 h
  · rw [if_neg c6] at h
    exact fin _ _ (src_pm hn (by omega) (by omega) (fun _ => by omega)) (by omega) l1 h
def turnL (sg : Nat → Nat) (t : Nat) : Nat → Nat → PS → PO
  | 0, s, _ => .bad (1 + 16 * s)
  | f + 1, s, P => if tkey sg t s = 59 then .ok s P else match stepP sg t s P with
    | Sum.inl e => .bad e
    | Sum.inr (s', P') => turnL sg t f s' P'
def turnP (sg : Nat → Nat) (t s : Nat) (P : PS) : PO :=
  match stepP sg t (nxt sg t s) P with
  | Sum.inl e => .bad e
  | Sum.inr (s', P') => turnL sg t 9 s' P'
/-- behind a line its end is due -/
def endP (sg : Nat → Nat) (t : Nat) (o : PO) : PO :=
  match o with
  | Sum.inl e => .bad e
  | Sum.inr (s, P) => if tkey sg t s = 59 then .ok (nxt sg t s) P else .bad (1 + 16 * s)
theorem stepP_no {sg : Nat → Nat} {t s : Nat} {P : PS} (h : tkey sg t s < 130 ∨ 135 < tkey sg t s) : stepP sg t s P = .bad (1 + 16 * s) := by
  unfold stepP; rw [if_pos h]
theorem turnL_end {sg : Nat → Nat} {t f s : Nat} {P : PS} (h : tkey sg t s = 59) : turnL sg t (f + 1) s P = .ok s P := by
  show (if tkey sg t s = 59 then _ else _) = _
  rw [if_pos h]
theorem turnL_bad {sg : Nat → Nat} {t f s e : Nat} {P : PS} (h : tkey sg t s ≠ 59) (hs : stepP sg t s P = .bad e) : turnL sg t (f + 1) s P = .bad e := by
  show (if tkey sg t s = 59 then _ else _) = _
  rw [if_neg h, hs]
theorem turnL_ok {sg : Nat → Nat} {t f s s' : Nat} {P P' : PS} (h : tkey sg t s ≠ 59) (hs : stepP sg t s P = .ok s' P') : turnL sg t (f + 1) s P = turnL sg t f s' P' := by
  show (if tkey sg t s = 59 then _ else _) = _
  rw [if_neg h, hs]
theorem e_readTurn {sg : Nat → Nat} {t n s : Nat} {P : PS} {S : St} {Q : Int32 → St → Prop} (hW : PSW P) (h : PE sg t n s P S) (hb : ∀ f S', turnP sg t s P = .bad f → frX prl S S' → gI S' 7 8 = nI f → Q 0 S') (ho : ∀ s' P' S', turnP sg t s P = .ok s' P' → PSW P' → s' ≤ t → frX prl S S' → PE sg t n s' P' S' → Q 1 S') : w_X8_readTurn S Q := by
  have hs := h.1.2.1
  unfold w_X8_readTurn
  refine e_next h.1 (fun S1 f1 c1 => ?_)
  have p1 := PE_FH h f1 c1
  have r1 : frX prl S S1 := frX_sub f1.1 (by simp)
  have lp : ∀ (i : Nat) (v1 : Int32) (S2 : St), i ≤ 8 → frX prl S S2 → ((v1 = 0 ∧ ∃ f, turnP sg t s P = .bad f ∧ gI S2 7 8 = nI f) ∨ (v1 = 1 ∧ ∃ s' P', turnP sg t s P = turnL sg t (9 - i) s' P' ∧ PE sg t n s' P' S2 ∧ PSW P' ∧ s' ≤ t ∧ i + 1 ≤ P'.F 0 1)) → w_X8_readTurn_17 Q v1 (nI i) S2 := by
    intro i v1 S2 b0 b1 b2
    unfold w_X8_readTurn_17
    refine loop2 (fun v1 v2 S2 => ∃ i, v2 = nI i ∧ i ≤ 8 ∧ frX prl S S2 ∧ ((v1 = 0 ∧ ∃ f, turnP sg t s P = .bad f ∧ gI S2 7 8 = nI f) ∨ (v1 = 1 ∧ ∃ s' P', turnP sg t s P = turnL sg t (9 - i) s' P' ∧ PE sg t n s' P' S2 ∧ PSW P' ∧ s' ≤ t ∧ i + 1 ≤ P'.F 0 1))) (fun _ v2 _ => 8 - v2.toNatClampNeg) ?_ _ _ ⟨i, rfl, b0, b1, b2⟩
    rintro k v1 v2 S2 ⟨i, rfl, b0, b1, b2⟩ hk
    unfold b_X8_readTurn_17
    rcases b2 with ⟨rfl, f, e1, e2⟩ | ⟨rfl, s', P', e1, e2, e3, e4, e5⟩
    · refine nI_if (x := 8) (by omega) (by omega) (fun _ => ⟨Or.inl rfl, hb f S2 e1 b1 e2⟩) (fun _ => ?_)
      rw [if_pos rfl]; exact ⟨Or.inl rfl, hb f S2 e1 b1 e2⟩
    · have u8 := e3.1.2.2.1
      rw [if_neg (show ¬ (8 : Int32) ≤ nI i from nI_ge (b := 8) (by omega) (by omega)), if_neg (by decide), e2.1.2.2.2.2.1]
      have kk := tkey_lt sg t s'
      obtain ⟨g, hg⟩ : ∃ g, 9 - i = g + 1 := ⟨8 - i, by omega⟩
      rw [hg] at e1
      refine nI_ifEq (y := 59) (by omega) (by omega) (fun q => ⟨Or.inr rfl, ho s' P' S2 (by rw [e1]; exact turnL_end q) e3 e4 b1 e2⟩) (fun q => ?_)
      refine e_readStep e3 e2 (fun f S3 w1 w2 w3 x hx => ?_) (fun s2 P2 S3 w1 w2 w3 x hx => ?_)
      · rw [nI_1] at hx
        rw [hx]
        refine hk _ _ _ ⟨i + 1, rfl, by omega, frX_trans b1 w2, Or.inl ⟨rfl, f, by rw [e1]; exact turnL_bad q w1, w3⟩⟩ ?_
        rw [nI_clamp (by omega), nI_clamp (by omega)]; omega
      · rw [nI_1] at hx
        rw [hx]
        obtain ⟨y1, y2, y3, y4⟩ := stepP_W e3 e4 w1
        refine hk _ _ _ ⟨i + 1, rfl, by omega, frX_trans b1 w2, Or.inr ⟨rfl, s2, P2, by rw [e1, show 9 - (i + 1) = g by omega]; exact turnL_ok q w1, w3, y1, y2, by omega⟩⟩ ?_
        rw [nI_clamp (by omega), nI_clamp (by omega)]; omega
  refine e_readStep hW p1 (fun f S2 w1 w2 w3 => ?_) (fun s2 P2 S2 w1 w2 w3 => ?_)
  · refine lp 0 0 S2 (by omega) (frX_trans r1 w2) (Or.inl ⟨rfl, f, ?_, w3⟩)
    unfold turnP; rw [w1]
  · obtain ⟨y1, y2, y3, y4⟩ := stepP_W hW p1.1.2.1 w1
    refine lp 0 1 S2 (by omega) (frX_trans r1 w2) (Or.inr ⟨rfl, s2, P2, ?_, w3, y1, y2, by omega⟩)
    unfold turnP; rw [w1]
theorem m_readsTurn {sg : Nat → Nat} {t s : Nat} {P : PS} {S : St} {Q : Int32 → St → Prop} (hW : PSW P) (h : PM sg t s P S) (hb : ∀ f S', endP sg t (turnP sg t s P) = .bad f → frR S S' → gI S' 0 9 = nI f → Q 0 S') (ho : ∀ s' P' S', endP sg t (turnP sg t s P) = .ok s' P' → frR S S' → PM sg t s' P' S' → Q 1 S') : w_X12_readsTurn S Q := by
  have hs := h.1.2.1
  unfold w_X12_readsTurn
  refine m_next h.1 (fun S1 f1 c1 => ?_)
  have p1 := PM_FT h f1 c1
  have r1 := frR_FT f1
  refine m_readsStep hW p1 (fun f S2 w1 w2 w3 => ?_) (fun s2 P2 S2 w1 w2 w3 => ?_)
  · rw [if_pos rfl]
    refine hb f S2 ?_ (frR_trans r1 w2) w3
    unfold turnP; rw [w1]; rfl
  · obtain ⟨y1, y2, y3, y4⟩ := stepP_W hW p1.1.2.1 w1
    have e0 : turnP sg t s P = turnL sg t 9 s2 P2 := by unfold turnP; rw [w1]
    rw [if_neg (by decide)]
    unfold w_X12_readsTurn_13
    refine loopG0 (fun g S3 => ∃ i s' P', g = 9 - i ∧ i ≤ 8 ∧ frR S S3 ∧ turnP sg t s P = turnL sg t (9 - i) s' P' ∧ PM sg t s' P' S3 ∧ PSW P' ∧ s' ≤ t ∧ i + 1 ≤ P'.F 0 1) ?_ 9 ⟨0, s2, P2, rfl, by omega, frR_trans r1 w2, e0, w3, y1, y2, by omega⟩
    rintro k g S3 ⟨i, s', P', rfl, b0, b1, e1, e2, e3, e4, e5⟩ hk
    have u8 := e3.1.2.2.1
    obtain ⟨g, hg⟩ : ∃ g, 9 - i = g + 1 := ⟨8 - i, by omega⟩
    rw [hg] at e1
    have kk := tkey_lt sg t s'
    have kl := tkind_le sg t s'
    have stop : (tkey sg t s' < 130 ∨ 135 < tkey sg t s') → w_X12_readsTurn_37 Q S3 := by
      intro q
      unfold w_X12_readsTurn_37
      refine m_ends e2.1 (fun z => ⟨Or.inl rfl, ?_⟩) (fun z S4 f4 c4 => ⟨Or.inr rfl, ?_⟩)
      · refine hb (1 + 16 * s') _ ?_ (frR_trans b1 (frR_s0 (by decide) (by omega))) (by rw [gI_sI, if_pos ⟨rfl, rfl⟩]; exact n16 1 s')
        rw [e1, turnL_bad z (stepP_no q)]; rfl
      · refine ho (nxt sg t s') P' S4 ?_ (frR_trans b1 (frR_FT f4)) (PM_FT e2 f4 c4)
        rw [e1, turnL_end z]
        show (if tkey sg t s' = 59 then _ else _) = _
        rw [if_pos z]
    unfold b_X12_readsTurn_13
    rw [e2.1.2.2.2.2.1]
    refine nI_ifEq (y := 1) (by omega) (by omega) (fun q => ?_) (fun q => stop ?_)
    · refine m_stepKind e2.1 ?_
      by_cases c : 130 ≤ tkey sg t s' ∧ tkey sg t s' ≤ 135
      · rw [if_pos c]
        generalize hm : tkey sg t s' - 130 = m
        rw [if_neg (nI_pos (by omega))]
        refine m_readsStep e3 e2 (fun f S4 w1 w2 w3 => ?_) (fun s4 P4 S4 w1 w2 w3 => ?_)
        · rw [if_pos rfl]
          refine hb f S4 ?_ (frR_trans b1 w2) w3
          rw [e1, turnL_bad (by omega) w1]; rfl
        · rw [if_neg (by decide)]
          obtain ⟨z1, z2, z3, z4⟩ := stepP_W e3 e4 w1
          refine hk (9 - (i + 1)) S4 ⟨i + 1, s4, P4, rfl, by omega, frR_trans b1 w2, ?_, w3, z1, z2, by omega⟩ (by omega)
          rw [e1, show 9 - (i + 1) = g by omega]; exact turnL_ok (by omega) w1
      · rw [if_neg c, if_pos (by decide)]
        exact stop (by omega)
    · by_cases c : 130 ≤ tkey sg t s' ∧ tkey sg t s' ≤ 135
      · exact absurd ((tkey_word (i := tkey sg t s' - 128) (by omega)).mp (by omega)).1 q
      · omega
