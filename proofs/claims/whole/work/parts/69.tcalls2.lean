theorem e_firstMeeting {n p q : Nat} {f g : Nat → Nat} {S : St} {Q : Int32 → St → Prop} (H : ET n f g S) (hp : p < n) (hq : q < n) (h1 : (∀ k, k < n → it g k p ≠ q) → Q (-1) S) (h2 : ∀ k, k < n → it g k p = q → (∀ j, j < k → it g j p ≠ q) → Q (nI k) S) : w_X9_firstMeeting (nI p) (nI q) S Q := by
  obtain ⟨hn, h, hg, -, h34, -, -, r38, -⟩ := H
  have hlt : ∀ k, it g k p < n := fun k => by
    induction k with
    | zero => exact hp
    | succ k ih => exact inv_lt h hg ih
  refine loop2 (B := b_X9_firstMeeting_5 (nI q) Q) (fun v3 v4 S' => S' = S ∧ ∃ k, k ≤ n ∧ v3 = nI (it g k p) ∧ v4 = nI k ∧ ∀ j, j < k → it g j p ≠ q) (fun _ v4 _ => n - v4.toNatClampNeg) ?_ _ _ ⟨rfl, 0, Nat.zero_le _, rfl, rfl, fun j hj => absurd hj (Nat.not_lt_zero _)⟩
  rintro kk x0 x1 S' ⟨rfl, k, hk, rfl, rfl, hall⟩ hkk
  unfold b_X9_firstMeeting_5
  rw [h34]
  by_cases e : k = n
  · rw [if_pos (nI_le (by omega) (by omega))]
    exact h1 (fun j hj => hall j (by omega))
  · have hkn : k < n := by omega
    rw [if_neg (nI_ge hkn (by omega))]
    have hi := hlt k
    by_cases e2 : it g k p = q
    · rw [if_pos (by rw [e2])]
      exact h2 k hkn e2 hall
    · rw [if_neg (fun e3 => e2 (nI_inj (by omega) (by omega) e3))]
      refine e_cell (by show it g k p < 12; omega) (by decide) ?_
      intro x hx
      have hx2 : x = nI (k + 1) := hx.trans (nI_1 k)
      subst hx2
      rw [r38 _ hi]
      refine hkk _ _ _ ⟨rfl, k + 1, hkn, rfl, rfl, ?_⟩ ?_
      · intro j hj
        rcases Nat.lt_or_ge j k with x | x
        · exact hall j x
        · rw [show j = k by omega]; exact e2
      · show n - (nI (k + 1)).toNatClampNeg < n - (nI k).toNatClampNeg
        rw [nI_clamp (by omega), nI_clamp (by omega)]
        omega
theorem it_fore {n : Nat} {f g : Nat → Nat} (h : Pm n f) (hg : ∀ i, i < n → g (f i) = i) {p q k : Nat} (hp : p < n) (e : it g k p = q) : it f k q = p := by
  obtain ⟨x, hx, ex⟩ := it_onto h k hp
  have hb := it_back h hg hx k
  rw [ex, e] at hb
  rw [hb]; exact ex
theorem c_meets {n : Nat} {f g : Nat → Nat} {SE SM : St} {K : Int32 → Int32 → St → St → Prop} {a b : Int32} (HE : ET n f g SE) (HM : MT n f SM) (hK : ∀ r, K r r SE (sI SM 0 0 0)) : w_X11_meets a b SE (fun r S1 => w_X12_meets a b SM (fun r' S2 => K r r' S1 S2)) := by
  have hn : n ≤ 12 := HE.1
  have hp := HE.2.1
  have hg := HE.2.2.1
  have HM2 := MT_thr (v := 0) HM
  refine e_isEnd (by omega) HE.2.2.2.1 (fun h => ?_) (fun p hp1 e1 => ?_)
  · rw [if_pos rfl]
    intro S2 hS2; subst hS2
    exact m_isPlace (by omega) HM2.1 (fun _ => by rw [if_pos rfl]; exact hK _) (fun p hp e2 => absurd h (pl_no (by omega) hp e2))
  · rw [if_neg (by decide)]
    refine e_isEnd (by omega) HE.2.2.2.1 (fun h => ?_) (fun q hq e2 => ?_)
    · rw [if_pos rfl]
      intro S2 hS2; subst hS2
      refine m_isPlace (by omega) HM2.1 (fun h => absurd h (pl_no (by omega) hp1 e1)) (fun _ _ _ => ?_)
      rw [if_neg (by decide)]
      exact m_isPlace (by omega) HM2.1 (fun _ => by rw [if_pos rfl]; exact hK _) (fun p hp e2 => absurd h (pl_no (by omega) hp e2))
    · rw [if_neg (by decide)]
      have good : ∀ r, w_X12_meets_25 a b (fun r' S2 => K r r' SE S2) (0 : Int32) (sI SM 0 0 0) → w_X12_meets a b SM (fun r' S2 => K r r' SE S2) := by
        intro r hh S2 hS2; subst hS2
        refine m_isPlace (by omega) HM2.1 (fun h => absurd h (pl_no (by omega) hp1 e1)) (fun _ _ _ => ?_)
        rw [if_neg (by decide)]
        refine m_isPlace (by omega) HM2.1 (fun h => absurd h (pl_no (by omega) hq e2)) (fun _ _ _ => ?_)
        rw [if_neg (by decide)]
        exact hh
      subst e1; subst e2
      refine e_firstMeeting HE hp1 hq (fun hno => good _ ?_) (fun k hk e3 hall => good _ ?_)
      · refine m_meets hn hp HM2.2 hp1 hq (fun _ => hK _) (fun k hk e => ?_)
        obtain ⟨c1, c2, c3, c4⟩ := cyc_spec hp hq
        refine absurd ?_ (hno k (by omega))
        rw [← e]; exact it_back hp hg hq k
      · have e4 := it_fore hp hg hp1 e3
        refine m_meets hn hp HM2.2 hp1 hq (fun hno => absurd e4 (hno k)) (fun k2 hk2 e => ?_)
        have e5 : it g k2 p = q := by rw [← e]; exact it_back hp hg hq k2
        have : k = k2 := by
          rcases Nat.lt_trichotomy k k2 with x | x | x
          · exact absurd (e4.trans e.symm) (it_ne hp hq x hk2)
          · exact x
          · exact absurd e5 (hall k2 x)
        rw [this]; exact hK _
theorem c_turning {n : Nat} {f g : Nat → Nat} {SE SM : St} {K : Int32 → Int32 → St → St → Prop} {a b : Int32} (HE : ET n f g SE) (HM : MT n f SM) (hK : ∀ r, K r r SE (sI SM 0 0 0)) : w_X11_turning a b SE (fun r S1 => w_X12_turning a b SM (fun r' S2 => K r r' S1 S2)) := by
  have hn : n ≤ 12 := HE.1
  have hp := HE.2.1
  have hg := HE.2.2.1
  have HM2 := MT_thr (v := 0) HM
  obtain ⟨-, -, -, HE', -, r22, -, r38, r36, -⟩ := HE
  refine e_isEnd (by omega) HE' (fun h => ?_) (fun p hp1 e1 => ?_)
  · rw [if_pos rfl]
    intro S2 hS2; subst hS2
    exact m_isPlace (by omega) HM2.1 (fun _ => by rw [if_pos rfl]; exact hK _) (fun p hp e2 => absurd h (pl_no (by omega) hp e2))
  · rw [if_neg (by decide)]
    have good : ∀ r, w_X12_within b (0 : Int32) (2 : Int32) (sI SM 0 0 0) (fun r16_5 S16_4 => (if r16_5 = 0 then (K r (-1 : Int32) SE S16_4) else ((if b = 0 then (w_X12_goesTo a S16_4 (fun r32_7 S32_6 => K r r32_7 SE S32_6)) else ((if b = (1 : Int32) then (vp_in a 12 ∧ (K r (gI S16_4 2 a.toNatClampNeg) SE S16_4)) else (w_X12_cycleOf a S16_4 (fun r54_9 S54_8 => K r r54_9 SE S54_8)))))))) → w_X12_turning a b SM (fun r' S2 => K r r' SE S2) := by
      intro r hh S2 hS2; subst hS2
      refine m_isPlace (by omega) HM2.1 (fun h => absurd h (pl_no (by omega) hp1 e1)) (fun _ _ _ => ?_)
      rw [if_neg (by decide)]
      exact hh
    subst e1
    have hl : p < 12 := by omega
    by_cases b0 : b = (0 : Int32)
    · subst b0
      rw [if_pos rfl]
      refine e_cell (by show p < 12; omega) (by decide) (good _ ?_)
      refine m_within (fun h => absurd h (by decide)) (fun _ _ => ?_)
      rw [if_neg (by decide), if_pos rfl, r38 p hp1]
      have hq := inv_lt hp hg hp1
      exact m_goesTo hn hp HM2.2 hp1 hq (it_fore (k := 1) hp hg hp1 rfl) (hK _)
    · rw [if_neg b0]
      by_cases b1 : b = (1 : Int32)
      · subst b1
        rw [if_pos rfl]
        refine e_cell (by show p < 12; omega) (by decide) (good _ ?_)
        refine m_within (fun h => absurd h (by decide)) (fun _ _ => ?_)
        rw [if_neg (by decide), if_neg (by decide), if_pos rfl, r22 p hp1]
        refine ⟨vp_in_nI hl (by decide), ?_⟩
        rw [nI_clamp (by omega), HM2.2 p hp1]
        exact hK _
      · rw [if_neg b1]
        by_cases b2 : b = (2 : Int32)
        · subst b2
          rw [if_pos rfl]
          refine e_cell (by show p < 12; omega) (by decide) (good _ ?_)
          refine m_within (fun h => absurd h (by decide)) (fun _ _ => ?_)
          rw [if_neg (by decide), if_neg (by decide), if_neg (by decide), r36 p hp1]
          exact m_cycleOf hn hp HM2.2 hp1 (hK _)
        · rw [if_neg b2]
          refine good _ (m_within (fun _ => by rw [if_pos rfl]; exact hK _) (fun h1 h2 => ?_))
          exfalso
          obtain ⟨j, hj, e⟩ := nI_of2 (M := 2) (n := 2) (by decide) h1 (Int32.not_lt.mp h2)
          have : j = 0 ∨ j = 1 ∨ j = 2 := by omega
          rcases this with rfl | rfl | rfl
          · exact b0 e
          · exact b1 e
          · exact b2 e
theorem c_round {n : Nat} {f g : Nat → Nat} {SE SM : St} {K : Int32 → Int32 → St → St → Prop} {w : Int32} (HE : ET n f g SE) (HM : MT n f SM) (hK : ∀ r, K r r SE (sI SM 0 0 0)) : w_X11_round w SE (fun r S1 => w_X12_round w SM (fun r' S2 => K r r' S1 S2)) := by
  have hn : n ≤ 12 := HE.1
  have hp := HE.2.1
  have HM2 := MT_thr (v := 0) HM
  obtain ⟨-, -, -, r21, -, -, -, -, -, -, f2, f3, f4, f5⟩ := HE
  have good : ∀ r, ¬ w < 0 → ¬ (4 : Int32) < w → w_X12_round_26 w (fun r' S2 => K r r' SE S2) (0 : Int32) (0 : Int32) (0 : Int32) (0 : Int32) (sI SM 0 0 0) → w_X12_round w SM (fun r' S2 => K r r' SE S2) := by
    intro r h1 h2 hh S2 hS2; subst hS2
    refine m_within (fun h => (h.elim h1 h2).elim) (fun _ _ => ?_)
    rw [if_neg (by decide)]
    exact hh
  unfold w_X11_round
  by_cases w0 : w = (0 : Int32)
  · subst w0
    rw [if_pos rfl, f5, lN_i]
    refine good _ (by decide) (by decide) (m_round26 hn hp HM2.2 HM2.1 ?_)
    rw [if_pos rfl]; exact hK _
  · rw [if_neg w0]
    by_cases w1 : w = (1 : Int32)
    · subst w1
      rw [if_pos rfl, f2]
      refine good _ (by decide) (by decide) (m_round26 hn hp HM2.2 HM2.1 ?_)
      rw [if_neg (by decide), if_pos rfl]; exact hK _
    · rw [if_neg w1]
      by_cases w2 : w = (2 : Int32)
      · subst w2
        rw [if_pos rfl, f3]
        refine good _ (by decide) (by decide) (m_round26 hn hp HM2.2 HM2.1 ?_)
        rw [if_neg (by decide), if_neg (by decide), if_pos rfl]; exact hK _
      · rw [if_neg w2]
        by_cases w3 : w = (3 : Int32)
        · subst w3
          rw [if_pos rfl, f4]
          refine good _ (by decide) (by decide) (m_round26 hn hp HM2.2 HM2.1 ?_)
          rw [if_neg (by decide), if_neg (by decide), if_neg (by decide), if_pos rfl]; exact hK _
        · rw [if_neg w3]
          by_cases w4 : w = (4 : Int32)
          · subst w4
            have hc := cnt_le (fun p => rep n f p == p) n
            rw [if_pos rfl, r21, f2, pk_sub hc, pk_andN (by omega) 1 (by decide)]
            refine good _ (by decide) (by decide) (m_round26 hn hp HM2.2 HM2.1 ?_)
            rw [if_neg (by decide), if_neg (by decide), if_neg (by decide), if_neg (by decide)]; exact hK _
          · rw [if_neg w4]
            intro S2 hS2; subst hS2
            refine m_within (fun _ => by rw [if_pos rfl]; exact hK _) (fun h1 h2 => ?_)
            exfalso
            obtain ⟨j, hj, e⟩ := nI_of2 (M := 4) (n := 4) (by decide) h1 (Int32.not_lt.mp h2)
            have : j = 0 ∨ j = 1 ∨ j = 2 ∨ j = 3 ∨ j = 4 := by omega
            rcases this with rfl | rfl | rfl | rfl | rfl
            · exact w0 e
            · exact w1 e
            · exact w2 e
            · exact w3 e
            · exact w4 e
