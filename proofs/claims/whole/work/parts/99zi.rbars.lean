/-! ===== pure: the class reads a bar ===== -/
def CdW (y : BX) : Prop := (∀ c, c ∈ y.2.1 → c < 10152) ∧ (∀ c, c ∈ y.2.2.1 → okCm c)
theorem lvP_C {sg : Nat → Nat} {t n : Nat} {ok : Nat → Bool} {p : Nat → BO} (hp : ∀ s y, p s = Sum.inr y → CdW y) : ∀ s y, lvP sg t ok p n s = Sum.inr y → CdW y := by
  intro s y e
  refine lvP_ind (Pr := CdW) hp ?_ e
  intro x z s' hx hz c
  have kk := tkey_lt sg t x.1
  obtain ⟨z1, z2⟩ := hp s' z hz
  constructor
  · intro a ha
    have ha : a ∈ x.2.1 ++ (z.2.1 ++ [10000 + tkey sg t x.1]) := ha
    rw [List.mem_append, List.mem_append, List.mem_singleton] at ha
    rcases ha with h | h | h
    · exact hx.1 a h
    · exact z1 a h
    · omega
  · intro a ha
    have ha : a ∈ x.2.2.1 ++ (opM (tkey sg t x.1) :: z.2.2.1) := ha
    rw [List.mem_append, List.mem_cons] at ha
    rcases ha with h | h | h
    · exact hx.2 a h
    · rw [h]
      unfold opM okCm
      split
      · omega
      · split
        · omega
        · split
          · omega
          · split
            · omega
            · split
              · omega
              · split <;> omega
    · exact z2 a h
theorem partP_C (sg : Nat → Nat) (t : Nat) : ∀ d s y, partP sg t d s = Sum.inr y → CdW y := by
  intro d
  induction d with
  | zero =>
    intro s y e
    unfold partP at e
    split at e <;> cases e
  | succ d ih =>
    intro s y e
    have kk := tkey_lt sg t s
    unfold partP at e
    split at e
    · rename_i c
      have lv := v10_lt (tkey_num.mp c)
      have := Sum.inr.inj e
      subst this
      refine ⟨fun a ha => ?_, fun a ha => ?_⟩
      · have := List.mem_singleton.mp ha; omega
      · have := List.mem_singleton.mp ha; unfold okCm; omega
    · split at e
      · cases q : partP sg t d (nxt sg t s) with
        | inl f => rw [bnd_l q] at e; cases e
        | inr z =>
          rw [bnd_r q] at e
          have hz := ih _ z q
          have := Sum.inr.inj e
          subst this
          refine ⟨fun a ha => ?_, fun a ha => ?_⟩
          · have ha : a ∈ z.2.1 ++ [10144] := ha
            rw [List.mem_append, List.mem_singleton] at ha
            rcases ha with h | h
            · exact hz.1 a h
            · omega
          · have ha : a ∈ 30 :: z.2.2.1 := ha
            rw [List.mem_cons] at ha
            rcases ha with h | h
            · unfold okCm; omega
            · exact hz.2 a h
      · split at e
        · cases q : testsP sg t (partP sg t d) (nxt sg t s) with
          | inl f => rw [bnd_l q] at e; cases e
          | inr z =>
            rw [bnd_r q] at e
            have hz : CdW z := lvP_C (lvP_C (lvP_C (lvP_C ih))) _ z q
            split at e
            · have := Sum.inr.inj e
              subst this
              refine ⟨hz.1, fun a ha => ?_⟩
              have ha : a ∈ 28 :: (z.2.2.1 ++ [29]) := ha
              rw [List.mem_cons, List.mem_append, List.mem_singleton] at ha
              rcases ha with h | h | h
              · unfold okCm; omega
              · exact hz.2 a h
              · unfold okCm; omega
            · cases e
        · split at e
          · have := Sum.inr.inj e
            subst this
            refine ⟨fun a ha => ?_, fun a ha => ?_⟩
            · have := List.mem_singleton.mp ha; omega
            · have := List.mem_singleton.mp ha; unfold okCm; omega
          · cases e
theorem barT_C {sg : Nat → Nat} {t s : Nat} {y : BX} (h : barT sg t s = Sum.inr y) : CdW y := lvP_C (lvP_C (lvP_C (lvP_C (partP_C sg t 5)))) s y h
abbrev brl : List Nat := [7, 8, 9]
theorem BE_fr {L : List Nat} {l : List Nat} {S S' : St} (h : BE L S) (f : frX l S S') (hl : 8 ∉ l ∧ 9 ∉ l) : BE L S' :=
  ⟨h.1, by rw [frX_g f 8 1 hl.1]; exact h.2.1, fun j hj => ⟨(h.2.2 j hj).1, by rw [frX_g f 9 j hl.2]; exact (h.2.2 j hj).2⟩⟩
theorem getD_app {L : List Nat} {c j : Nat} (h : j < L.length) : (L ++ [c]).getD j 0 = L.getD j 0 := by
  show ((L ++ [c])[j]?).getD 0 = (L[j]?).getD 0
  rw [List.getElem?_append_left h]
theorem getD_end {L : List Nat} {c : Nat} : (L ++ [c]).getD L.length 0 = c := by
  show ((L ++ [c])[L.length]?).getD 0 = c
  rw [List.getElem?_append_right (Nat.le_refl _), Nat.sub_self]; rfl
theorem e_add {L : List Nat} {c : Nat} {S : St} {Q : St → Prop} (h : BE L S) (hl : L.length < 1000) (hc : c < 20000) (hQ : ∀ S', frX [8, 9] S S' → BE (L ++ [c]) S' → Q S') : w_X0_add (nI c) S Q := by
  obtain ⟨h1, h2, h3⟩ := h
  unfold w_X0_add
  rw [h2]
  refine e_put (show L.length < 1000 from hl) (by decide) ?_
  intro S1 e1
  rw [gI_sI, if_neg (by omega), h2, nI_1] at e1
  have ln : (L ++ [c]).length = L.length + 1 := by simp
  refine hQ S1 (by rw [e1]; exact frX_sI (frX_sI (frX_refl _ _) (by simp)) (by simp)) ⟨by omega, by rw [e1, gI_sI, if_pos ⟨rfl, rfl⟩, ln], fun j hj => ?_⟩
  rw [ln] at hj
  rw [e1, gI_sI, if_neg (by omega), gI_sI]
  by_cases e : j = L.length
  · rw [if_pos ⟨rfl, e⟩, e, getD_end]; exact ⟨hc, rfl⟩
  · rw [if_neg (fun q => e q.2), getD_app (by omega)]; exact h3 j (by omega)
theorem e_addX {v : Int32} {S : St} {Q : St → Prop} (hQ : ∀ S', frX [8, 9] S S' → Q S') : w_X0_add v S Q := by
  unfold w_X0_add
  rcases pk_ix (gI S 8 1) (n := 1000) (by omega) with h | h | ⟨j, h, e⟩
  · unfold w_X11_put
    rw [if_pos h]
    intro S1 e1
    exact hQ S1 (by rw [e1]; exact frX_sI (frX_refl _ _) (by simp))
  · unfold w_X11_put
    by_cases g : gI S 8 1 < 0
    · rw [if_pos g]
      intro S1 e1
      exact hQ S1 (by rw [e1]; exact frX_sI (frX_refl _ _) (by simp))
    · rw [if_neg g, if_pos (show nI (lnE 9) ≤ _ from h)]
      intro S1 e1
      exact hQ S1 (by rw [e1]; exact frX_sI (frX_refl _ _) (by simp))
  · rw [e]
    refine e_put (show j < 1000 from h) (by decide) ?_
    intro S1 e1
    exact hQ S1 (by rw [e1]; exact frX_sI (frX_sI (frX_refl _ _) (by simp)) (by simp))
theorem PE_89 {sg : Nat → Nat} {t n s : Nat} {P : PS} {S S' : St} (h : PE sg t n s P S) (f : frX [8, 9] S S') : PE sg t n s P S' :=
  ⟨CurE_fr h.1 f (by simp), TF_fr f (fun x hx q => by simp at hx; omega) h.2.1, NmE_fr f (by simp) h.2.2.1, by rw [frX_g f 7 8 (by simp)]; exact h.2.2.2⟩
def ESim (sg : Nat → Nat) (t n : Nat) (P : PS) (p : Nat → BO) (w : St → (Int32 → St → Prop) → Prop) : Prop :=
  ∀ s L S Q, PE sg t n s P S → BE L S → L.length ≤ s → (∀ f S', p s = Sum.inl f → frX brl S S' → gI S' 7 8 = nI f → Q 0 S') → (∀ y S', p s = Sum.inr y → frX brl S S' → PE sg t n y.1 P S' → BE (L ++ y.2.1) S' → Q 1 S') → w S Q
theorem chP_no {sg : Nat → Nat} {t : Nat} {ok : Nat → Bool} {p : Nat → BO} {n : Nat} {x : BX} (h : n = 0 ∨ ok (tkey sg t x.1) = false) : chP sg t ok p n x = Sum.inr x := by
  cases n with
  | zero => rfl
  | succ n =>
    rcases h with h | h
    · omega
    · unfold chP; rw [h, if_neg (by decide)]
theorem chP_go {sg : Nat → Nat} {t : Nat} {ok : Nat → Bool} {p : Nat → BO} {n : Nat} {x : BX} (h : ok (tkey sg t x.1) = true) : chP sg t ok p (n + 1) x = bnd (p (nxt sg t x.1)) (fun y => chP sg t ok p n (y.1, x.2.1 ++ (y.2.1 ++ [10000 + tkey sg t x.1]), x.2.2.1 ++ (opM (tkey sg t x.1) :: y.2.2.1), fun e => jnV (tkey sg t x.1) (x.2.2.2 e) (y.2.2.2 e))) := by
  conv => lhs; unfold chP
  rw [if_pos h]
theorem e_chain {sg : Nat → Nat} {t n : Nat} {P : PS} {ok : Nat → Bool} {p : Nat → BO} {w : St → (Int32 → St → Prop) → Prop} {B : (Int32 → Int32 → St → Prop) → Int32 → Int32 → St → Prop} {Q : Int32 → St → Prop} (hok : okN ok) (hW : BWp t p) (hp : ESim sg t n P p w)
    (hstop : ∀ k v2 i S, i ≤ 1000 → (v2 = 0 ∨ v2 = 1) → (v2 = 0 ∨ i = 1000 ∨ ∃ s, CurE sg t n s S ∧ ok (tkey sg t s) = false) → Q v2 S → B k v2 (nI i) S)
    (hgo : ∀ k i s S, i < 1000 → CurE sg t n s S → ok (tkey sg t s) = true → (∀ S1, FH S S1 → CurE sg t n (nxt sg t s) S1 → w S1 (fun r S2 => w_X0_add (nI (10000 + tkey sg t s)) S2 (fun S3 => ∀ x, x = nI i + (1 : Int32) → k r x S3))) → B k 1 (nI i) S)
    {s : Nat} {L : List Nat} {S : St} (hl : L.length ≤ s) (hb : ∀ f S', lvP sg t ok p 1000 s = Sum.inl f → frX brl S S' → gI S' 7 8 = nI f → Q 0 S') (ho : ∀ y S', lvP sg t ok p 1000 s = Sum.inr y → frX brl S S' → PE sg t n y.1 P S' → BE (L ++ y.2.1) S' → Q 1 S')
    (v : Int32) (S1 : St) (f1 : frX brl S S1) (h1 : (v = 0 ∧ ∃ f, lvP sg t ok p 1000 s = Sum.inl f ∧ gI S1 7 8 = nI f) ∨ (v = 1 ∧ ∃ x, lvP sg t ok p 1000 s = chP sg t ok p 1000 x ∧ PE sg t n x.1 P S1 ∧ BE (L ++ x.2.1) S1 ∧ s + x.2.1.length ≤ x.1)) : ∃ m, lpn (fun _ _ _ => False) B m v (nI 0) S1 := by
  refine loop2 (fun v2 v3 S2 => ∃ i, v3 = nI i ∧ i ≤ 1000 ∧ frX brl S S2 ∧ ((v2 = 0 ∧ ∃ f, lvP sg t ok p 1000 s = Sum.inl f ∧ gI S2 7 8 = nI f) ∨ (v2 = 1 ∧ ∃ x, lvP sg t ok p 1000 s = chP sg t ok p (1000 - i) x ∧ PE sg t n x.1 P S2 ∧ BE (L ++ x.2.1) S2 ∧ s + x.2.1.length ≤ x.1))) (fun _ v3 _ => 1000 - v3.toNatClampNeg) ?_ _ _ ⟨0, rfl, by omega, f1, h1⟩
  rintro k v2 v3 S2 ⟨i, rfl, hi, f2, h2⟩ hk
  rcases h2 with ⟨rfl, f, e1, e2⟩ | ⟨rfl, x, e1, e2, e3, e4⟩
  · exact hstop k 0 i S2 hi (Or.inl rfl) (Or.inl rfl) (hb f S2 e1 f2 e2)
  · have ht := e2.1.1
    have hx := e2.1.2.1
    by_cases c : i < 1000 ∧ ok (tkey sg t x.1) = true
    · obtain ⟨c1, c2⟩ := c
      have hkey := key_nxt (sg := sg) hx (hok _ c2)
      refine hgo k i x.1 S2 c1 e2.1 c2 (fun S3 f3 c3 => ?_)
      have p3 := PE_FH e2 f3 c3
      have b3 := BE_fr e3 f3.1 (by simp)
      have r3 : frX brl S S3 := frX_trans f2 (frX_sub f3.1 (by simp))
      obtain ⟨m, hm⟩ : ∃ m, 1000 - i = m + 1 := ⟨999 - i, by omega⟩
      rw [hm, chP_go c2] at e1
      have lx : (L ++ x.2.1).length = L.length + x.2.1.length := List.length_append
      refine hp _ _ S3 _ p3 b3 (by omega) (fun f S4 q1 q2 q3 => ?_) (fun z S4 q1 q2 q3 q4 => ?_)
      · refine e_addX (fun S5 f5 y hy => ?_)
        rw [nI_1] at hy
        rw [hy]
        refine hk _ _ _ ⟨i + 1, rfl, by omega, frX_trans r3 (frX_trans q2 (frX_sub f5 (by simp))), Or.inl ⟨rfl, f, by rw [e1]; exact bnd_l q1, by rw [frX_g f5 7 8 (by simp)]; exact q3⟩⟩ ?_
        rw [nI_clamp (by omega), nI_clamp (by omega)]; omega
      · obtain ⟨w1, w2, w3, w4⟩ := hW _ z hkey.2 q1
        have kk := tkey_lt sg t x.1
        have lz : ((L ++ x.2.1) ++ z.2.1).length = L.length + x.2.1.length + z.2.1.length := by simp only [List.length_append]
        refine e_add q4 (by omega) (by omega) (fun S5 f5 b5 y hy => ?_)
        rw [nI_1] at hy
        rw [hy]
        refine hk _ _ _ ⟨i + 1, rfl, by omega, frX_trans r3 (frX_trans q2 (frX_sub f5 (by simp))), Or.inr ⟨rfl, (z.1, x.2.1 ++ (z.2.1 ++ [10000 + tkey sg t x.1]), x.2.2.1 ++ (opM (tkey sg t x.1) :: z.2.2.1), fun e => jnV (tkey sg t x.1) (x.2.2.2 e) (z.2.2.2 e)), ?_, PE_89 q3 f5, ?_, ?_⟩⟩ ?_
        · rw [e1, bnd_r q1, show 1000 - (i + 1) = m by omega]
        · have : L ++ (x.2.1 ++ (z.2.1 ++ [10000 + tkey sg t x.1])) = ((L ++ x.2.1) ++ z.2.1) ++ [10000 + tkey sg t x.1] := by simp only [List.append_assoc]
          show BE (L ++ (x.2.1 ++ (z.2.1 ++ [10000 + tkey sg t x.1]))) S5
          rw [this]; exact b5
        · show s + (x.2.1 ++ (z.2.1 ++ [10000 + tkey sg t x.1])).length ≤ z.1
          simp only [List.length_append, List.length_cons, List.length_nil]; omega
        · rw [nI_clamp (by omega), nI_clamp (by omega)]; omega
    · have e0 : chP sg t ok p (1000 - i) x = Sum.inr x := chP_no (by
        by_cases c1 : i < 1000
        · right
          cases q : ok (tkey sg t x.1) with
          | true => exact absurd ⟨c1, q⟩ c
          | false => rfl
        · left; omega)
      refine hstop k 1 i S2 hi (Or.inr rfl) (Or.inr ?_) (ho x S2 (by rw [e1, e0]) f2 e2 e3)
      by_cases c1 : i < 1000
      · right
        refine ⟨x.1, e2.1, ?_⟩
        cases q : ok (tkey sg t x.1) with
        | true => exact absurd ⟨c1, q⟩ c
        | false => rfl
      · left; omega
theorem e_level {sg : Nat → Nat} {t n : Nat} {P : PS} {ok : Nat → Bool} {p : Nat → BO} {w w2 : St → (Int32 → St → Prop) → Prop} {B : (Int32 → St → Prop) → (Int32 → Int32 → St → Prop) → Int32 → Int32 → St → Prop} (hok : okN ok) (hW : BWp t p) (hp : ESim sg t n P p w)
    (hstop : ∀ Q k v2 i S, i ≤ 1000 → (v2 = 0 ∨ v2 = 1) → (v2 = 0 ∨ i = 1000 ∨ ∃ s, CurE sg t n s S ∧ ok (tkey sg t s) = false) → Q v2 S → B Q k v2 (nI i) S)
    (hgo : ∀ Q k i s S, i < 1000 → CurE sg t n s S → ok (tkey sg t s) = true → (∀ S1, FH S S1 → CurE sg t n (nxt sg t s) S1 → w S1 (fun r S2 => w_X0_add (nI (10000 + tkey sg t s)) S2 (fun S3 => ∀ x, x = nI i + (1 : Int32) → k r x S3))) → B Q k 1 (nI i) S)
    (hw2 : ∀ S Q, w S (fun r S1 => ∃ m, lpn (fun _ _ _ => False) (B Q) m r (nI 0) S1) → w2 S Q) : ESim sg t n P (lvP sg t ok p 1000) w2 := by
  intro s L S Q h hB hl hb ho
  refine hw2 S Q (hp s L S _ h hB hl (fun f S1 q1 q2 q3 => ?_) (fun x S1 q1 q2 q3 q4 => ?_))
  · exact e_chain hok hW hp (hstop Q) (hgo Q) hl hb ho 0 S1 q2 (Or.inl ⟨rfl, f, by unfold lvP; exact bnd_l q1, q3⟩)
  · exact e_chain hok hW hp (hstop Q) (hgo Q) hl hb ho 1 S1 q2 (Or.inr ⟨rfl, x, by unfold lvP; exact bnd_r q1, q3, q4, (hW _ _ h.1.2.1 q1).2.2.1⟩)
