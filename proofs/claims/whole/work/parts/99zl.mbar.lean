/-! ===== pure: the reference reads a bar ===== -/
def FB (S S' : St) : Prop := (∀ b j, ¬ (b = 0 ∧ (j = 4 ∨ j = 5 ∨ j = 6 ∨ j = 8 ∨ j = 9 ∨ j = 43)) → ¬ (20 ≤ b ∧ b ≤ 22) → gI S' b j = gI S b j) ∧ (∀ b j, ¬ (b = 0 ∧ j = 7) → gJ S' b j = gJ S b j)
theorem FB_refl (S : St) : FB S S := ⟨fun _ _ _ _ => rfl, fun _ _ _ => rfl⟩
theorem FB_trans {S T U : St} (h : FB S T) (k : FB T U) : FB S U := ⟨fun b j a c => (k.1 b j a c).trans (h.1 b j a c), fun b j a => (k.2 b j a).trans (h.2 b j a)⟩
theorem FB_FT {S S' : St} (h : FT S S') : FB S S' := ⟨fun b j a _ => h.1 b j (fun q => a ⟨q.1, by omega⟩), fun b j a => h.2 b j a⟩
theorem FB_s0 {S T : St} {j : Nat} {v : Int32} (h : FB S T) (hj : j = 9 ∨ j = 43) : FB S (sI T 0 j v) := ⟨fun b i a c => by rw [gI_sI, if_neg (fun q => a ⟨q.1, by omega⟩)]; exact h.1 b i a c, fun b i a => h.2 b i a⟩
theorem FB_s2 {S T : St} {b0 j : Nat} {v : Int32} (h : FB S T) (hb : 20 ≤ b0 ∧ b0 ≤ 22) : FB S (sI T b0 j v) := ⟨fun b i a c => by rw [gI_sI, if_neg (fun q => c (by omega))]; exact h.1 b i a c, fun b i a => h.2 b i a⟩
theorem FB_frM {S S' : St} (h : FB S S') : frM S S' := fun b j e => by
  refine h.1 b j (fun q => ?_) (fun q => ?_)
  · obtain ⟨rfl, q⟩ := q
    rcases q with rfl | rfl | rfl | rfl | rfl | rfl <;> revert e <;> decide
  · have : b = 20 ∨ b = 21 ∨ b = 22 := by omega
    rcases this with rfl | rfl | rfl <;> revert e <;> simp [kM]
theorem NF_FB {sg : Nat → Nat} {t : Nat} {P : PS} {S S' : St} (hf : FB S S') (h : NF sg t P S) : NF sg t P S' := by
  obtain ⟨h1, h2, h3, h4⟩ := h
  refine ⟨fun j hj => by rw [hf.1 0 _ (by omega) (by omega)]; exact h1 j hj, fun p hp => ?_, fun k hk => ?_, fun w hw => ?_⟩
  · rw [hf.1 10 p (by omega) (by omega), hf.1 13 p (by omega) (by omega)]; exact h2 p hp
  · rw [hf.1 11 k (by omega) (by omega), hf.1 12 k (by omega) (by omega)]; exact h3 k hk
  · rw [hf.1 15 w (by omega) (by omega), hf.1 16 w (by omega) (by omega), hf.1 17 w (by omega) (by omega), hf.2 14 w (by omega)]; exact h4 w hw
def OpL : AS → St → Prop
  | [], _ => True
  | x :: r, S => x.1 ≤ 2 ∧ gI S 22 r.length = (if x.2 = true then 1 else 0) ∧ (0 < r.length → gI S 21 r.length = nI x.1) ∧ OpL r S
theorem OpL_eq : ∀ (st : AS) (S S' : St), (∀ b j, b = 21 ∨ b = 22 → j < st.length → gI S' b j = gI S b j) → OpL st S → OpL st S' := by
  intro st
  induction st with
  | nil => intro _ _ _ _; trivial
  | cons x r ih =>
    rintro S S' e ⟨h0, h1, h2, h3⟩
    refine ⟨h0, by rw [e 22 _ (Or.inr rfl) (by simp)]; exact h1, fun q => by rw [e 21 _ (Or.inl rfl) (by simp)]; exact h2 q, ih S S' (fun b j hb hj => e b j hb (by simp only [List.length_cons]; omega)) h3⟩
def CdM (S0 : St) (base : Nat) (C : List Nat) (S : St) : Prop := gI S 0 43 = nI (base + C.length) ∧ base + C.length ≤ 1000 ∧ (∀ j, j < C.length → gI S 20 (base + j) = nI (C.getD j 0)) ∧ ∀ j, j < base → gI S 20 j = gI S0 20 j
theorem CdM_eq {S0 S S' : St} {base : Nat} {C : List Nat} (h : CdM S0 base C S) (e1 : gI S' 0 43 = gI S 0 43) (e2 : ∀ j, gI S' 20 j = gI S 20 j) : CdM S0 base C S' :=
  ⟨by rw [e1]; exact h.1, h.2.1, fun j hj => by rw [e2]; exact h.2.2.1 j hj, fun j hj => by rw [e2]; exact h.2.2.2 j hj⟩
theorem m_puts {S0 : St} {base c : Nat} {C : List Nat} {S : St} {Q : St → Prop} (h : CdM S0 base C S) (hl : base + C.length < 1000) (hQ : ∀ S', S' = sI (sI S 20 (base + C.length) (nI c)) 0 43 (nI (base + C.length + 1)) → CdM S0 base (C ++ [c]) S' → Q S') : w_X12_puts (nI c) S Q := by
  obtain ⟨h1, h2, h3, h4⟩ := h
  unfold w_X12_puts
  rw [h1, nI_clamp (by omega)]
  refine ⟨vp_in_nI hl (by omega), ?_⟩
  rintro S1 e1 S2 e2
  have g : gI S1 0 43 = nI (base + C.length) := by rw [e1, gI_sI, if_neg (by omega)]; exact h1
  rw [g, nI_1, e1] at e2
  have ln : (C ++ [c]).length = C.length + 1 := by simp
  refine hQ S2 e2 ⟨by rw [e2, gI_sI, if_pos ⟨rfl, rfl⟩, ln]; rfl, by omega, fun j hj => ?_, fun j hj => ?_⟩
  · rw [ln] at hj
    rw [e2, gI_sI, if_neg (by omega), gI_sI]
    by_cases e : j = C.length
    · rw [if_pos ⟨rfl, by omega⟩, e, getD_end]
    · rw [if_neg (by omega), getD_app (by omega)]; exact h3 j (by omega)
  · rw [e2, gI_sI, if_neg (by omega), gI_sI, if_neg (by omega)]; exact h4 j hj
theorem popN_len : ∀ st : AS, st ≠ [] → popN st ≠ [] ∧ (popN st).length ≤ st.length := by
  intro st
  induction st with
  | nil => intro h; exact absurd rfl h
  | cons x r ih =>
    intro _
    cases r with
    | nil => exact ⟨by simp [popN], Nat.le_refl _⟩
    | cons y r =>
      show (if x.1 = 1 then popN (y :: r) else x :: y :: r) ≠ [] ∧ (if x.1 = 1 then popN (y :: r) else x :: y :: r).length ≤ (x :: y :: r).length
      by_cases c : x.1 = 1
      · rw [if_pos c]
        obtain ⟨a, b⟩ := ih (by simp)
        exact ⟨a, by simp only [List.length_cons] at b ⊢; omega⟩
      · rw [if_neg c]; exact ⟨by simp, Nat.le_refl _⟩
theorem popN_Op : ∀ (st : AS) (S : St), OpL st S → OpL (popN st) S := by
  intro st
  induction st with
  | nil => intro _ _; trivial
  | cons x r ih =>
    intro S h
    cases r with
    | nil => exact h
    | cons y r =>
      show OpL (if x.1 = 1 then popN (y :: r) else x :: y :: r) S
      by_cases c : x.1 = 1
      · rw [if_pos c]; exact ih S h.2.2.2
      · rw [if_neg c]; exact h
theorem m_popA {st : AS} {v2 : Int32} {k : Int32 → Int32 → St → Prop} {S : St} (h0 : st ≠ []) (hl : st.length ≤ 7) (h : OpL st S) (hk : w_X12_nextToken S (fun S' => k (nI ((popN st).length - 1)) v2 S')) : (w_X12_reads_152 k v2 (nI (st.length - 1)) S) ∧ (w_X12_reads_379 k v2 (nI (st.length - 1)) S) := by
  have body : ∀ (kk : Int32 → St → Prop) (s1 : AS), s1 ≠ [] → s1.length ≤ 7 → OpL s1 S → popN s1 = popN st → (∀ s2 : AS, s2 ≠ [] → s2.length + 1 ≤ s1.length → OpL s2 S → popN s2 = popN st → kk (nI (s2.length - 1)) S) →
      (if nI (s1.length - 1) ≤ 0 then (w_X12_nextToken S (fun S' => k (nI (s1.length - 1)) v2 S')) else (vp_in (nI (s1.length - 1)) 7 ∧ ((if gI S 21 (nI (s1.length - 1)).toNatClampNeg = (1 : Int32) then (∀ x, x = nI (s1.length - 1) + (-1 : Int32) → kk x S) else (w_X12_nextToken S (fun S' => k (nI (s1.length - 1)) v2 S')))))) := by
    intro kk s1 a0 a1 a2 a3 a4
    cases s1 with
    | nil => exact absurd rfl a0
    | cons x r =>
      cases r with
      | nil =>
        rw [if_pos (by simp only [List.length_cons, List.length_nil]; decide)]
        rw [← a3] at hk; exact hk
      | cons y r =>
        rw [show (x :: y :: r).length - 1 = r.length + 1 from rfl]
        simp only [List.length_cons] at a1
        rw [if_neg (show ¬ nI (r.length + 1) ≤ 0 from nI_nle (by omega) (by omega)), nI_clamp (by omega)]
        refine ⟨vp_in_nI (by omega) (by omega), ?_⟩
        have g := a2.2.2.1 (show 0 < (y :: r).length by simp)
        rw [show (y :: r).length = r.length + 1 from rfl] at g
        have a3 : (if x.1 = 1 then popN (y :: r) else x :: y :: r) = popN st := a3
        have x2 := a2.1
        rw [g]
        refine nI_ifEq (y := 1) (by omega) (by omega) (fun c => ?_) (fun c => ?_)
        · rw [if_pos c] at a3
          intro z hz
          rw [pk_m1] at hz
          rw [hz]
          exact a4 (y :: r) (by simp) (by simp only [List.length_cons]; omega) a2.2.2.2 a3
        · rw [if_neg c] at a3
          rw [← a3] at hk
          exact hk
  constructor
  · unfold w_X12_reads_152
    refine loop1 (fun v1 S' => S' = S ∧ ∃ s1 : AS, v1 = nI (s1.length - 1) ∧ s1 ≠ [] ∧ s1.length ≤ 7 ∧ OpL s1 S ∧ popN s1 = popN st) (fun v1 _ => v1.toNatClampNeg) ?_ _ ⟨rfl, st, rfl, h0, hl, h, rfl⟩
    rintro kk v1 S' ⟨e, s1, rfl, a0, a1, a2, a3⟩ hkk
    subst e
    exact body kk s1 a0 a1 a2 a3 (fun s2 b0 b1 b2 b3 => hkk _ _ ⟨rfl, s2, rfl, b0, by omega, b2, b3⟩ (by
      have : 1 ≤ s2.length := List.length_pos_iff.mpr b0
      rw [nI_clamp (by omega), nI_clamp (by omega)]; omega))
  · unfold w_X12_reads_379
    refine loop1 (fun v1 S' => S' = S ∧ ∃ s1 : AS, v1 = nI (s1.length - 1) ∧ s1 ≠ [] ∧ s1.length ≤ 7 ∧ OpL s1 S ∧ popN s1 = popN st) (fun v1 _ => v1.toNatClampNeg) ?_ _ ⟨rfl, st, rfl, h0, hl, h, rfl⟩
    rintro kk v1 S' ⟨e, s1, rfl, a0, a1, a2, a3⟩ hkk
    subst e
    exact body kk s1 a0 a1 a2 a3 (fun s2 b0 b1 b2 b3 => hkk _ _ ⟨rfl, s2, rfl, b0, by omega, b2, b3⟩ (by
      have : 1 ≤ s2.length := List.length_pos_iff.mpr b0
      rw [nI_clamp (by omega), nI_clamp (by omega)]; omega))
theorem m_fact {sg : Nat → Nat} {t s : Nat} {S : St} {Q : Int32 → St → Prop} (h : CurM sg t s S) (hQ : Q (nI (if 147 ≤ tkey sg t s then tkey sg t s - 146 else 0)) S) : w_X12_fact S Q := by
  obtain ⟨h1, h2, a, b, c, d, e⟩ := h
  have kle := tkind_le sg t s
  have kk := tkey_lt sg t s
  unfold w_X12_fact
  rw [c]
  refine nI_ifEq (y := 1) (by omega) (by omega) (fun k1 => ?_) (fun k1 => ?_)
  · rw [d k1]
    obtain ⟨_, _, l1, l2⟩ := v_27_32 k1
    have one : ∀ (i : Nat) (w : Int64) (A B : Prop), i < 24 → w = lN (k27 i) → (tkey sg t s = 128 + i → A) → (tkey sg t s ≠ 128 + i → B) → if lN (v27 sg t s) = w then A else B := by
      intro i w A B hi hw hA hB
      have l3 := k27_lt i hi
      by_cases q : v27 sg t s = k27 i
      · rw [if_pos (by rw [hw, q])]; exact hA ((tkey_word hi).mpr ⟨k1, q⟩)
      · rw [if_neg (fun z => q ((pk_lEQ (by omega) (by omega)).mp (by rw [← hw]; exact z)))]
        exact hB (fun z => q ((tkey_word hi).mp z).2)
    refine one 19 _ _ _ (by omega) rfl (fun q => by rw [q, if_pos (by omega)] at hQ; exact hQ) (fun q1 => ?_)
    refine one 20 _ _ _ (by omega) rfl (fun q => by rw [q, if_pos (by omega)] at hQ; exact hQ) (fun q2 => ?_)
    refine one 21 _ _ _ (by omega) rfl (fun q => by rw [q, if_pos (by omega)] at hQ; exact hQ) (fun q3 => ?_)
    refine one 22 _ _ _ (by omega) rfl (fun q => by rw [q, if_pos (by omega)] at hQ; exact hQ) (fun q4 => ?_)
    refine one 23 _ _ _ (by omega) rfl (fun q => by rw [q, if_pos (by omega)] at hQ; exact hQ) (fun q5 => ?_)
    rw [if_neg (by omega)] at hQ; exact hQ
  · rw [if_neg (fun z => k1 (name_kind (Or.inr z)))] at hQ; exact hQ
