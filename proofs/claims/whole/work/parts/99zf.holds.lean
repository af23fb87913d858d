/-! ===== pure: the class weighs two words by the codes of its bars ===== -/
def BE (L : List Nat) (S : St) : Prop := L.length ≤ 1000 ∧ gI S 8 1 = nI L.length ∧ ∀ j, j < L.length → L.getD j 0 < 20000 ∧ gI S 9 j = nI (L.getD j 0)
def SKv : List Int32 → St → Prop
  | [], _ => True
  | a :: q, S => gI S 10 q.length = a ∧ SKv q S
def SK (st : List Int32) (S : St) : Prop := st.length ≤ 32 ∧ gI S 8 3 = nI st.length ∧ SKv st S
def FS8 (S S' : St) : Prop := frX [8, 10] S S' ∧ gI S' 8 1 = gI S 8 1
theorem FS8_refl (S : St) : FS8 S S := ⟨frX_refl _ _, rfl⟩
theorem FS8_trans {S T U : St} (h : FS8 S T) (k : FS8 T U) : FS8 S U := ⟨frX_trans h.1 k.1, k.2.trans h.2⟩
theorem SKv_eq : ∀ (st : List Int32) (S S' : St), (∀ j, j < st.length → gI S' 10 j = gI S 10 j) → SKv st S → SKv st S' := by
  intro st
  induction st with
  | nil => intro _ _ _ _; trivial
  | cons a q ih =>
    rintro S S' h ⟨h1, h2⟩
    exact ⟨by rw [h _ (by simp only [List.length_cons]; omega)]; exact h1, ih S S' (fun j hj => h j (by simp only [List.length_cons]; omega)) h2⟩
theorem e_push {st : List Int32} {v : Int32} {S : St} {Q : St → Prop} (h : SK st S) (hl : st.length < 32) (hQ : ∀ S', FS8 S S' → SK (v :: st) S' → Q S') : w_X0_push v S Q := by
  obtain ⟨h1, h2, h3⟩ := h
  unfold w_X0_push
  rw [h2]
  refine e_put (show st.length < 32 from hl) (by decide) ?_
  rintro S2 e2
  rw [gI_sI, if_neg (by omega), h2, nI_1] at e2
  refine hQ S2 ⟨by rw [e2]; exact frX_sI (frX_sI (frX_refl _ _) (by simp)) (by simp), by rw [e2, gI_sI, if_neg (by omega), gI_sI, if_neg (by omega)]⟩ ⟨by simp only [List.length_cons]; omega, by rw [e2, gI_sI, if_pos ⟨rfl, rfl⟩]; rfl, ?_, ?_⟩
  · rw [e2, gI_sI, if_neg (by omega), gI_sI, if_pos ⟨rfl, rfl⟩]
  · refine SKv_eq st S S2 (fun j hj => ?_) h3
    rw [e2, gI_sI, if_neg (by omega), gI_sI, if_neg (by omega)]
theorem e_pop {st : List Int32} {v : Int32} {S : St} {Q : Int32 → St → Prop} (h : SK (v :: st) S) (hQ : ∀ S', FS8 S S' → SK st S' → Q v S') : w_X0_pop S Q := by
  obtain ⟨h1, h2, h3, h4⟩ := h
  simp only [List.length_cons] at h1 h2
  rintro S2 e2
  rw [h2, show (1 : Int32) = nI 1 from rfl, pk_sub (by omega), show st.length + 1 - 1 = st.length by omega] at e2
  rw [show gI S2 8 3 = nI st.length by rw [e2, gI_sI, if_pos ⟨rfl, rfl⟩]]
  refine e_cell (show st.length < 32 by omega) (by decide) ?_
  rw [show gI S2 10 st.length = v by rw [e2, gI_sI, if_neg (by omega)]; exact h3]
  refine hQ S2 ⟨by rw [e2]; exact frX_sI (frX_refl _ _) (by simp), by rw [e2, gI_sI, if_neg (by omega)]⟩ ⟨by omega, by rw [e2, gI_sI, if_pos ⟨rfl, rfl⟩], ?_⟩
  refine SKv_eq st S S2 (fun j hj => ?_) h4
  rw [e2, gI_sI, if_neg (by omega)]
theorem e_joined {k : Nat} {a b : Int32} {S : St} {Q : Int32 → St → Prop} (hk : k < 2 ^ 31) (hQ : Q (jnV k a b) S) : w_X0_joined (nI k) a b S Q := by
  unfold jnV at hQ
  unfold w_X0_joined
  refine nI_ifEq (y := 42) hk (by omega) (fun q => by rw [if_pos q] at hQ; exact hQ) (fun q => ?_)
  rw [if_neg q] at hQ
  refine nI_ifEq (y := 43) hk (by omega) (fun q => by rw [if_pos q] at hQ; exact hQ) (fun q => ?_)
  rw [if_neg q] at hQ
  refine nI_ifEq (y := 45) hk (by omega) (fun q => by rw [if_pos q] at hQ; exact hQ) (fun q => ?_)
  rw [if_neg q] at hQ
  refine nI_ifEq (y := 60) hk (by omega) (fun q => ?_) (fun q => ?_)
  · rw [if_pos q] at hQ
    by_cases c : b ≤ a
    · rw [if_pos c] at hQ ⊢; exact hQ
    · rw [if_neg c] at hQ ⊢; exact hQ
  rw [if_neg q] at hQ
  refine nI_ifEq (y := 61) hk (by omega) (fun q => ?_) (fun q => ?_)
  · rw [if_pos q] at hQ
    by_cases c : a = b
    · rw [if_pos c] at hQ ⊢; exact hQ
    · rw [if_neg c] at hQ ⊢; exact hQ
  rw [if_neg q] at hQ
  refine nI_ifEq (y := 145) hk (by omega) (fun q => ?_) (fun q => ?_)
  · rw [if_pos q] at hQ
    by_cases c : a = 0
    · rw [if_pos c] at hQ ⊢; exact hQ
    · rw [if_neg c] at hQ ⊢
      by_cases d : b = 0
      · rw [if_pos d] at hQ ⊢; exact hQ
      · rw [if_neg d] at hQ ⊢; exact hQ
  rw [if_neg q] at hQ
  by_cases c : a = 0
  · rw [if_pos c] at hQ ⊢
    by_cases d : b = 0
    · rw [if_pos d] at hQ ⊢; exact hQ
    · rw [if_neg d] at hQ ⊢; exact hQ
  · rw [if_neg c] at hQ ⊢; exact hQ
/-- the facts of two words, as a form in 11 has them -/
def EvF (ev : EV) (a b : Nat) (S : St) : Prop := gI S 17 a = ev 1 ∧ gI S 17 b = ev 2 ∧ gI S 16 a = ev 3 ∧ gI S 16 b = ev 4 ∧ ev 5 = if gI S 15 a = gI S 15 b then 1 else 0
theorem EvF_FS {ev : EV} {a b : Nat} {S S' : St} (h : EvF ev a b S) (f : FS8 S S') : EvF ev a b S' := by
  obtain ⟨h1, h2, h3, h4, h5⟩ := h
  unfold EvF
  rw [frX_g f.1 17 a (by simp), frX_g f.1 17 b (by simp), frX_g f.1 16 a (by simp), frX_g f.1 16 b (by simp), frX_g f.1 15 a (by simp), frX_g f.1 15 b (by simp)]
  exact ⟨h1, h2, h3, h4, h5⟩
theorem e_factOf {ev : EV} {c a b : Nat} {S : St} {Q : Int32 → St → Prop} (ha : a < 12) (hb : b < 12) (h : EvF ev a b S) (hc : 147 ≤ c ∧ c < 152) (hQ : Q (ev (c - 146)) S) : w_X0_factOf (nI c) 11 (nI a) (nI b) S Q := by
  obtain ⟨h1, h2, h3, h4, h5⟩ := h
  unfold w_X0_factOf
  refine nI_ifEq (y := 147) (by omega) (by omega) (fun q => ?_) (fun q1 => ?_)
  · refine e_cell (show a < 12 from ha) (by decide) ?_
    rw [show gI S (11 + 6) a = ev 1 from h1]
    rw [q] at hQ; exact hQ
  refine nI_ifEq (y := 148) (by omega) (by omega) (fun q => ?_) (fun q2 => ?_)
  · refine e_cell (show b < 12 from hb) (by decide) ?_
    rw [show gI S (11 + 6) b = ev 2 from h2]
    rw [q] at hQ; exact hQ
  refine nI_ifEq (y := 149) (by omega) (by omega) (fun q => ?_) (fun q3 => ?_)
  · refine e_cell (show a < 12 from ha) (by decide) ?_
    rw [show gI S (11 + 5) a = ev 3 from h3]
    rw [q] at hQ; exact hQ
  refine nI_ifEq (y := 150) (by omega) (by omega) (fun q => ?_) (fun q4 => ?_)
  · refine e_cell (show b < 12 from hb) (by decide) ?_
    rw [show gI S (11 + 5) b = ev 4 from h4]
    rw [q] at hQ; exact hQ
  have q : c = 151 := by omega
  subst q
  unfold w_X4_areRhyming
  refine e_cell (show a < 12 from ha) (by decide) ?_
  refine e_cell (show b < 12 from hb) (by decide) ?_
  have hQ : Q (ev 5) S := hQ
  rw [h5] at hQ
  show if gI S 15 a = gI S 15 b then _ else _
  by_cases e : gI S 15 a = gI S 15 b
  · rw [if_pos e] at hQ ⊢
    dsimp only
    rw [if_neg (by decide)]; exact hQ
  · rw [if_neg e] at hQ ⊢
    dsimp only
    rw [if_pos rfl]; exact hQ
theorem drop_at {L : List Nat} {j : Nat} (h : j < L.length) : L.drop j = L.getD j 0 :: L.drop (j + 1) := by
  rw [List.drop_eq_getElem_cons h]
  show _ = (L[j]?.getD 0) :: _
  rw [List.getElem?_eq_getElem h]
  rfl
theorem e_holds {L : List Nat} {ev : EV} {a b : Nat} {res : Bool} {S : St} {Q : Int32 → St → Prop} (ha : a < 12) (hb : b < 12) (hL : BE L S) (hE : EvF ev a b S) (hk : ∀ j, j < L.length → L.getD j 0 < 10152) (hr : rE ev L [] = some res) (hQ : ∀ S', FS8 S S' → Q (if res = true then 1 else 0) S') : w_X0_holds 11 (nI a) (nI b) S Q := by
  obtain ⟨l1, l2, l3⟩ := hL
  unfold w_X0_holds
  intro S1 e1
  have f1 : FS8 S S1 := ⟨by rw [e1]; exact frX_sI (frX_refl _ _) (by simp), by rw [e1, gI_sI, if_neg (by omega)]⟩
  refine up1 (B := b_X0_holds_8 11 (nI a) (nI b) Q) L.length (by omega) (fun j S' => FS8 S S' ∧ ∃ st, SK st S' ∧ rE ev (L.drop j) st = some res) ?_ ?_ 0 (by omega) ⟨f1, [], ⟨by decide, by rw [e1, gI_sI, if_pos ⟨rfl, rfl⟩]; rfl, trivial⟩, hr⟩
  · rintro k j S' hj ⟨f2, st, hst, h2⟩ hkk
    have hc := hk j hj
    have E2 := EvF_FS hE f2
    unfold b_X0_holds_8
    rw [f2.2, l2, if_neg (nI_ge hj (by omega))]
    refine e_cell (show j < 1000 by omega) (by decide) ?_
    rw [frX_g f2.1 9 j (by simp), (l3 j hj).2]
    rw [drop_at hj] at h2
    unfold rE at h2
    generalize L.getD j 0 = c at hc h2
    have fin : ∀ S'' st', FS8 S S'' → SK st' S'' → rE ev (L.drop (j + 1)) st' = some res → ∀ x, x = nI j + (1 : Int32) → k x S'' := fun S'' st' q1 q2 q3 x hx => hkk S'' x hx ⟨q1, st', q2, q3⟩
    refine nI_if (x := 10000) (by omega) (by omega) (fun c1 => ?_) (fun c1 => ?_)
    · rw [if_neg (by omega)] at h2
      refine nI_ifLt (y := 10147) (by omega) (by omega) (fun c2 => ?_) (fun c2 => ?_)
      · rw [if_neg (by omega)] at h2
        refine nI_ifEq (y := 10144) (by omega) (by omega) (fun c3 => ?_) (fun c3 => ?_)
        · rw [if_pos c3] at h2
          cases st with
          | nil => cases h2
          | cons v q =>
            refine e_pop hst (fun S3 f3 k3 => ?_)
            dsimp only at h2
            unfold w_X0_holds_93
            by_cases z : v = 0
            · rw [if_pos z] at h2 ⊢
              exact e_push k3 (by have := hst.1; simp only [List.length_cons] at this; omega) (fun S4 f4 k4 => fin S4 _ (FS8_trans f2 (FS8_trans f3 f4)) k4 h2)
            · rw [if_neg z] at h2 ⊢
              exact e_push k3 (by have := hst.1; simp only [List.length_cons] at this; omega) (fun S4 f4 k4 => fin S4 _ (FS8_trans f2 (FS8_trans f3 f4)) k4 h2)
        · rw [if_neg c3] at h2
          refine nI_ifEq (y := 10059) (by omega) (by omega) (fun c4 => ?_) (fun c4 => ?_)
          · rw [if_pos c4] at h2
            cases st with
            | nil => cases h2
            | cons v q =>
              refine e_pop hst (fun S3 f3 k3 => ?_)
              dsimp only at h2
              by_cases z : v = 0
              · rw [if_pos z] at h2 ⊢
                exact fin S3 q (FS8_trans f2 f3) k3 h2
              · rw [if_neg z] at h2 ⊢
                have e := Option.some.inj h2
                have := hQ S3 (FS8_trans f2 f3)
                rw [← e, if_pos rfl] at this
                exact this
          · rw [if_neg c4] at h2
            cases st with
            | nil => cases h2
            | cons v q =>
              cases q with
              | nil => cases h2
              | cons u q =>
                dsimp only at h2
                refine e_pop hst (fun S3 f3 k3 => ?_)
                refine e_pop k3 (fun S4 f4 k4 => ?_)
                rw [show (10000 : Int32) = nI 10000 from rfl, pk_sub c1]
                have lm : c - 10000 < 20000 := by omega
                generalize c - 10000 = m at h2 lm
                refine e_joined (by omega) ?_
                exact e_push k4 (by have := k3.1; simp only [List.length_cons] at this; omega) (fun S5 f5 k5 => fin S5 _ (FS8_trans f2 (FS8_trans f3 (FS8_trans f4 f5))) k5 h2)
      · rw [if_pos (by omega)] at h2
        obtain ⟨m, hm⟩ : ∃ m, c = m + 10000 := ⟨c - 10000, by omega⟩
        have ek : nI c - (10000 : Int32) = nI m := (pk_sub (a := c) (b := 10000) c1).trans (by rw [hm, Nat.add_sub_cancel])
        rw [ek]
        have lm : 147 ≤ m ∧ m < 152 := by omega
        rw [show c - 10146 = m - 146 by omega] at h2
        refine e_factOf ha hb E2 lm ?_
        by_cases z : st.length < 32
        · rw [if_pos z] at h2
          exact e_push hst z (fun S3 f3 k3 => fin S3 _ (FS8_trans f2 f3) k3 h2)
        · rw [if_neg z] at h2; cases h2
    · rw [if_pos c1] at h2
      by_cases z : st.length < 32
      · rw [if_pos z] at h2
        exact e_push hst z (fun S3 f3 k3 => fin S3 _ (FS8_trans f2 f3) k3 h2)
      · rw [if_neg z] at h2; cases h2
  · rintro k S' ⟨f2, st, hst, h2⟩
    unfold b_X0_holds_8
    rw [f2.2, l2, if_pos (nI_le (Nat.le_refl _) (by omega))]
    rw [List.drop_length] at h2
    unfold rE at h2
    have e := Option.some.inj h2
    have := hQ S' f2
    rw [← e, if_neg (by decide)] at this
    exact this
