/-! ===== pure: the class's mender: the cheapest, the least words ===== -/
def gN : Option Nat → Int32
  | none => -1
  | some w => nI w
/-- what the mender has laid out -/
def MD (F : Fm) (L : Nat → Nat) (ch : Nat → Nat → Nat) (π : Nat → Nat) (S : St) : Prop :=
  FE 21 F S ∧ (∀ i, i < F 0 5 → gI S 53 i = nI (π i)) ∧ (∀ x, x < 2 ^ F 0 0 → gI S 54 x = nI (if unb (F 0 0) L x then 1 else 0)) ∧ ∀ e w, e < F 0 0 → w < F 0 5 → gI S 52 (e * 12 + w) = nI (ch e w)
theorem MD_fr {F : Fm} {L : Nat → Nat} {ch : Nat → Nat → Nat} {π : Nat → Nat} {l : List Nat} {S S' : St} (hf : frX l S S') (hl : ∀ x, x ∈ l → (21 ≤ x ∧ x ≤ 28) ∨ (52 ≤ x ∧ x ≤ 54) → False) (H : MD F L ch π S) : MD F L ch π S' := by
  obtain ⟨h1, h2, h3, h4⟩ := H
  refine ⟨FE21_fr hf (fun x hx q => hl x hx (Or.inl q)) h1, fun i hi => ?_, fun x hx => ?_, fun e w he hw => ?_⟩
  · rw [frX_g hf 53 i (fun q => hl _ q (by omega))]; exact h2 i hi
  · rw [frX_g hf 54 x (fun q => hl _ q (by omega))]; exact h3 x hx
  · rw [frX_g hf 52 _ (fun q => hl _ q (by omega))]; exact h4 e w he hw
theorem e_offer {F : Fm} {L : Nat → Nat} {ch : Nat → Nat → Nat} {π : Nat → Nat} {g : Nat → Option Nat} {old : Nat → Nat} {b w : Nat} {S : St} {Q : St → Prop} (hn7 : F 0 0 ≤ 7) (hF : FW F) (hM : MD F L ch π S) (h51 : ∀ e, e < F 0 0 → gI S 51 e = gN (g e)) (hg : ∀ e v, g e = some v → v < F 0 5) (hw : w < F 0 5) (hb : b < 2 ^ F 0 0) (hob : old b < 1000) (hold : ∀ x, x < 2 ^ F 0 0 → old x ≤ 1000) (hch : ∀ e w, ch e w ≤ 60)
    (hR : ∀ x, x < 2 ^ F 0 0 → gI S 55 x = nI (mnP ch g w old x (fun k => decide (b < x ^^^ 2 ^ k)) (F 0 0)))
    (hQ : ∀ S', frX [55] S S' → (∀ x, x < 2 ^ F 0 0 → gI S' 55 x = nI (mnP ch g w old x (fun k => decide (b ≤ x ^^^ 2 ^ k)) (F 0 0))) → Q S') : w_X6_offer (nI w) (nI b) S Q := by
  have hww := hF.1.2.2.2.2.2.2.1
  have hp : 2 ^ F 0 0 ≤ 2 ^ 7 := Nat.pow_le_pow_right (by omega) hn7
  refine up1 (B := b_X6_offer_2 (nI w) (nI b) Q) (F 0 0) (by omega) (fun e S' => frX [55] S S' ∧ ∀ x, x < 2 ^ F 0 0 → gI S' 55 x = nI (mnP ch g w old x (fun k => decide (b < x ^^^ 2 ^ k) || (decide (x ^^^ 2 ^ k = b) && decide (k < e))) (F 0 0))) ?_ ?_ 0 (by omega) ⟨frX_refl _ _, fun x hx => by
    rw [hR x hx, mnP_congr (R := fun k => decide (b < x ^^^ 2 ^ k) || (decide (x ^^^ 2 ^ k = b) && decide (k < 0))) _ (fun k _ => by simp)]⟩
  · rintro kk e S' he ⟨hf, i1⟩ hkk
    unfold b_X6_offer_2
    have hM' := MD_fr hf (by simp) hM
    rw [hM'.1.1 0 (by omega), if_neg (nI_ge he (by omega))]
    refine e_cell (by show e < 7; omega) (by decide) ?_
    rw [frX_g hf 51 e (by decide), h51 e he]
    -- nothing is offered to e
    have skip : (∀ x, x < 2 ^ F 0 0 → x ^^^ 2 ^ e = b → tm ch g w old x e = 1000) → ∀ y, y = nI e + 1 → kk y S' := by
      intro ht y hy
      refine hkk _ _ hy ⟨hf, fun x hx => ?_⟩
      rw [i1 x hx, mnP_congr (R := fun k => decide (b < x ^^^ 2 ^ k) || (decide (x ^^^ 2 ^ k = b) && decide (k < e + 1))) _ (fun k _ => ?_)]
      by_cases c : k = e
      · subst c
        by_cases d : x ^^^ 2 ^ k = b
        · rw [ht x hx d]; simp
        · simp [d]
      · rw [show decide (k < e + 1) = decide (k < e) by
          by_cases q : k < e
          · rw [decide_eq_true q, decide_eq_true (by omega)]
          · rw [decide_eq_false q, decide_eq_false (by omega)]]
    have give : b.testBit e = false → gok g e w = true → w_X6_offer_43 (nI w) (nI b) kk (nI e) S' := by
      intro hbe hgk
      obtain ⟨x1, x2⟩ := x_set hbe
      have hxl : b ||| 2 ^ e < 2 ^ F 0 0 := or_lt hb (Nat.pow_lt_pow_right (by omega) he)
      intro y hy
      rw [bN_one (by omega), bN_or] at hy
      subst hy
      refine e_cell (by show b < 128; omega) (by decide) ?_
      have hb1 : gI S' 55 b = nI (old b) := by
        rw [i1 b hb, mnP_none (hold b hb)]
        intro k hk hP
        unfold tm
        rw [if_neg]
        intro q
        rw [Bool.and_eq_true, Bool.and_eq_true] at q
        have hlt := x_lt q.1.1
        rw [Bool.or_eq_true] at hP
        rcases hP with hP | hP
        · have := of_decide_eq_true hP; omega
        · rw [Bool.and_eq_true] at hP
          have := of_decide_eq_true hP.1; omega
      rw [hb1]
      have m1 : nI e * (12 : Int32) + nI w = nI (e * 12 + w) := by rw [← nI_add, ← pk_mul]; rfl
      rw [m1]
      refine e_cell (by show _ < 84; omega) (by decide) ?_
      rw [hM'.2.2.2 e w he hw]
      intro z hz
      rw [nI_add] at hz
      subst hz
      refine e_cell (by show _ < 128; omega) (by decide) ?_
      rw [i1 _ hxl]
      refine e_put (by show _ < 128; omega) (by decide) ?_
      intro y hy
      have hmx : mnP ch g w old (b ||| 2 ^ e) (fun k => decide (b < (b ||| 2 ^ e) ^^^ 2 ^ k) || (decide ((b ||| 2 ^ e) ^^^ 2 ^ k = b) && decide (k < e))) (F 0 0) ≤ 1000 := Nat.le_trans (mnP_le _) (hold _ hxl)
      have hc60 := hch e w
      have htm : tm ch g w old (b ||| 2 ^ e) e = old b + ch e w := by
        unfold tm
        rw [x1, x2, hgk, decide_eq_true hob]; rfl
      refine hkk _ _ hy ⟨frX_sI hf (by decide), fun x hx => ?_⟩
      rw [gI_sI]
      by_cases c : x = b ||| 2 ^ e
      · subst c
        rw [if_pos ⟨rfl, rfl⟩]
        rw [mnP_add (P := fun k => decide (b < (b ||| 2 ^ e) ^^^ 2 ^ k) || (decide ((b ||| 2 ^ e) ^^^ 2 ^ k = b) && decide (k < e))) (R := fun k => decide (b < (b ||| 2 ^ e) ^^^ 2 ^ k) || (decide ((b ||| 2 ^ e) ^^^ 2 ^ k = b) && decide (k < e + 1))) (k0 := e) (by rw [x1]; simp) (by rw [x1]; simp) (fun k hk => by
          rw [show decide (k < e + 1) = decide (k < e) by
            by_cases q : k < e
            · rw [decide_eq_true q, decide_eq_true (by omega)]
            · rw [decide_eq_false q, decide_eq_false (by omega)]]) (hold _ hxl) _ he, htm]
        generalize mnP ch g w old (b ||| 2 ^ e) (fun k => decide (b < (b ||| 2 ^ e) ^^^ 2 ^ k) || (decide ((b ||| 2 ^ e) ^^^ 2 ^ k = b) && decide (k < e))) (F 0 0) = m at *
        by_cases q : old b + ch e w < m
        · rw [if_pos (nI_lt q (by omega)), show Nat.min m (old b + ch e w) = old b + ch e w from Nat.min_eq_right (by omega)]
        · rw [if_neg (nI_nlt (by omega) (by omega)), show Nat.min m (old b + ch e w) = m from Nat.min_eq_left (by omega)]
      · rw [if_neg (fun q => c q.2), i1 x hx, mnP_congr (R := fun k => decide (b < x ^^^ 2 ^ k) || (decide (x ^^^ 2 ^ k = b) && decide (k < e + 1))) _ (fun k _ => ?_)]
        by_cases d : k = e
        · subst d
          have : x ^^^ 2 ^ k ≠ b := by
            intro q
            refine c (Nat.eq_of_testBit_eq (fun i => ?_))
            rw [← q, tb_set, tb_x]
            by_cases z : k = i
            · subst z
              have := congrArg (fun t => t.testBit k) q
              rw [hbe, tb_x] at this
              simp at this
              simp [this]
            · simp [z]
          simp [this]
        · rw [show decide (k < e + 1) = decide (k < e) by
            by_cases q : k < e
            · rw [decide_eq_true q, decide_eq_true (by omega)]
            · rw [decide_eq_false q, decide_eq_false (by omega)]]
    refine bN_if (by omega) (by omega) (fun c => ?_) (fun c => ?_)
    · cases hge : g e with
      | none =>
        rw [show gN none = (-1 : Int32) from rfl, if_pos rfl]
        exact give c (by unfold gok; rw [hge])
      | some v =>
        have hv := hg e v hge
        rw [show gN (some v) = nI v from rfl, if_neg (show ¬ nI v = (-1 : Int32) from fun q => nI_pos (n := v) (by omega) (by rw [q]; decide))]
        refine nI_ifEq (by omega) (by omega) (fun d => ?_) (fun d => ?_)
        · exact give c (by unfold gok; rw [hge, d]; exact beq_self_eq_true _)
        · refine skip (fun x hx _ => ?_)
          unfold tm
          rw [if_neg]
          intro q
          rw [Bool.and_eq_true, Bool.and_eq_true] at q
          have := q.1.2
          unfold gok at this
          rw [hge] at this
          exact d (eq_of_beq this)
    · refine skip (fun x hx hq => ?_)
      unfold tm
      rw [if_neg]
      intro q
      rw [Bool.and_eq_true, Bool.and_eq_true] at q
      have := x_off q.1.1
      rw [hq, c] at this; cases this
  · rintro kk S' ⟨hf, i1⟩
    unfold b_X6_offer_2
    have hM' := MD_fr hf (by simp) hM
    rw [hM'.1.1 0 (by omega), if_pos (nI_le (Nat.le_refl _) (by omega))]
    refine hQ S' hf (fun x hx => ?_)
    rw [i1 x hx, mnP_congr (R := fun k => decide (b ≤ x ^^^ 2 ^ k)) _ (fun k hk => ?_)]
    rw [decide_eq_true hk, Bool.and_true]
    by_cases c : b < x ^^^ 2 ^ k
    · rw [decide_eq_true c, decide_eq_true (Nat.le_of_lt c)]; rfl
    · rw [decide_eq_false c]
      by_cases d : x ^^^ 2 ^ k = b
      · rw [decide_eq_true d, decide_eq_true (Nat.le_of_eq d.symm)]; rfl
      · rw [decide_eq_false d, decide_eq_false (by omega)]; rfl
def vm (c : Nat) : Int32 := if c = 0 then -1 else nI (c - 1)
theorem vm_step {c : Nat} (h : 0 < c) : nI (c - 1) + (-1 : Int32) = vm (c - 1) := by
  unfold vm
  by_cases e : c - 1 = 0
  · rw [if_pos e, e]; decide
  · rw [if_neg e, show c - 1 = (c - 1 - 1) + 1 by omega, pk_m1]; rfl
theorem e_dropBroken {F : Fm} {L : Nat → Nat} {ch : Nat → Nat → Nat} {π R : Nat → Nat} {S : St} {Q : St → Prop} (hn7 : F 0 0 ≤ 7) (hM : MD F L ch π S) (hR : ∀ x, x < 2 ^ F 0 0 → gI S 55 x = nI (R x))
    (hQ : ∀ S', frX [55] S S' → (∀ x, x < 2 ^ F 0 0 → gI S' 55 x = nI (if unb (F 0 0) L x = false then 1000 else R x)) → Q S') : w_X6_dropBroken (nI (2 ^ F 0 0 - 1)) S Q := by
  have hp : 2 ^ F 0 0 ≤ 2 ^ 7 := Nat.pow_le_pow_right (by omega) hn7
  have hp1 : 1 ≤ 2 ^ F 0 0 := Nat.one_le_two_pow
  refine up1 (B := b_X6_dropBroken_2 (nI (2 ^ F 0 0 - 1)) Q) (2 ^ F 0 0) (by omega) (fun x S' => frX [55] S S' ∧ (∀ y, y < x → gI S' 55 y = nI (if unb (F 0 0) L y = false then 1000 else R y)) ∧ ∀ y, x ≤ y → gI S' 55 y = gI S 55 y) ?_ ?_ 0 (Nat.zero_le _) ⟨frX_refl _ _, fun y hy => absurd hy (Nat.not_lt_zero _), fun _ _ => rfl⟩
  · rintro kk x S' hx ⟨hf, i1, i2⟩ hkk
    unfold b_X6_dropBroken_2
    rw [if_neg (nI_nlt (by omega) (by omega))]
    refine e_cell (by show x < 128; omega) (by decide) ?_
    rw [frX_g hf 54 x (by decide), hM.2.2.1 x hx]
    cases hu : unb (F 0 0) L x with
    | true =>
      rw [if_pos rfl, if_neg (by decide)]
      intro y hy
      refine hkk _ _ hy ⟨hf, fun z hz => ?_, fun z hz => i2 z (by omega)⟩
      by_cases c : z = x
      · subst c; rw [i2 z (Nat.le_refl _), hR z hx, hu, if_neg (by decide)]
      · exact i1 z (by omega)
    | false =>
      rw [if_pos (by decide)]
      refine e_put (by show x < 128; omega) (by decide) ?_
      intro y hy
      refine hkk _ _ hy ⟨frX_sI hf (by decide), fun z hz => ?_, fun z hz => by rw [gI_sI, if_neg (by omega)]; exact i2 z (by omega)⟩
      rw [gI_sI]
      by_cases c : z = x
      · subst c; rw [if_pos ⟨rfl, rfl⟩, hu, if_pos rfl]; rfl
      · rw [if_neg (fun q => c q.2)]; exact i1 z (by omega)
  · rintro kk S' ⟨hf, i1, i2⟩
    unfold b_X6_dropBroken_2
    rw [if_pos (nI_lt (by omega) (by omega))]
    exact hQ S' hf i1
theorem e_cheapest {F : Fm} {L : Nat → Nat} {ch : Nat → Nat → Nat} {π : Nat → Nat} {g : Nat → Option Nat} {S : St} {Q : Int32 → St → Prop} (hn7 : F 0 0 ≤ 7) (hF : FW F) (hM : MD F L ch π S) (hL : ∀ e, e < F 0 0 → L e < F 0 0 ∧ L (L e) = L e) (hπ : srt F (F 0 5) π) (hch : ∀ e w, ch e w ≤ 60) (h51 : ∀ e, e < F 0 0 → gI S 51 e = gN (g e)) (hg : ∀ e v, g e = some v → v < F 0 5)
    (hQ : ∀ S', frX [55] S S' → Q (if dp (F 0 0) (F 0 5) L (F 4) ch g π (F 0 5) (2 ^ F 0 0 - 1) < 1000 then nI (dp (F 0 0) (F 0 5) L (F 4) ch g π (F 0 5) (2 ^ F 0 0 - 1)) else -1) S') : w_X6_cheapest S Q := by
  have hn0 := hF.1.1
  have hww := hF.1.2.2.2.2.2.2.1
  have hp : 2 ^ F 0 0 ≤ 2 ^ 7 := Nat.pow_le_pow_right (by omega) hn7
  have hp2 : 2 ^ 1 ≤ 2 ^ F 0 0 := Nat.pow_le_pow_right (by omega) hn0
  have hdp := dp_PA (g := g) (r4 := F 4) hn7 hch hL hπ.1 hπ.2
  intro x hx
  rw [hM.1.1 0 (by omega), fullN hF.1.2.1] at hx
  subst hx
  refine e_blank (by decide) (e_put (i := 0) (by decide) (by decide) ?_)
  refine up1 (B := b_X6_cheapest_33 Q (nI (2 ^ F 0 0 - 1))) (F 0 5) (by omega) (fun i S' => frX [55] S S' ∧ ∀ x, x < 2 ^ F 0 0 → gI S' 55 x = nI (dp (F 0 0) (F 0 5) L (F 4) ch g π i x)) ?_ ?_ 0 (by omega) ⟨frX_sI (frX_row (frX_refl _ _) (by decide)) (by decide), fun x hx => ?_⟩
  · rintro kk i S' hi ⟨hf, i1⟩ hkk
    unfold b_X6_cheapest_33
    have hM' := MD_fr hf (by simp) hM
    have hpi := hπ.1.1 i hi
    have hold : ∀ x, x < 2 ^ F 0 0 → dp (F 0 0) (F 0 5) L (F 4) ch g π i x ≤ 1000 := fun x hx => (hdp i (by omega) x hx).2.2
    rw [hM'.1.1 5 (by omega), if_neg (nI_ge hi (by omega))]
    refine e_cell (by show i < 12; omega) (by decide) ?_
    rw [hM'.2.1 i hi]
    intro y hy
    have hy2 : y = vm (2 ^ F 0 0 - 1) := by
      rw [hy, show nI (2 ^ F 0 0 - 1) - (1 : Int32) = nI (2 ^ F 0 0 - 1 - 1) from pk_sub (b := 1) (by omega)]
      unfold vm; rw [if_neg (by omega)]
    subst hy2
    refine loopG1 (B := b_X6_cheapest_58 kk (nI (2 ^ F 0 0 - 1)) (nI i) (nI (π i))) (fun c v S2 => frX [55] S S2 ∧ c < 2 ^ F 0 0 ∧ v = vm c ∧ ∀ x, x < 2 ^ F 0 0 → gI S2 55 x = nI (mnP ch g (π i) (dp (F 0 0) (F 0 5) L (F 4) ch g π i) x (fun k => decide (c ≤ x ^^^ 2 ^ k)) (F 0 0))) ?_ (2 ^ F 0 0 - 1) _ ⟨hf, by omega, rfl, fun x hx => ?_⟩
    · rintro k2 c v S2 ⟨hf2, hc, rfl, j1⟩ hk2
      unfold b_X6_cheapest_58
      have hM2 := MD_fr hf2 (by simp) hM
      by_cases c0 : c = 0
      · subst c0
        rw [show vm 0 = (-1 : Int32) from rfl, if_pos (by decide)]
        have hmid : ∀ x, x < 2 ^ F 0 0 → gI S2 55 x = nI (mid ch g (F 0 0) (π i) (dp (F 0 0) (F 0 5) L (F 4) ch g π i) x) := fun x hx => by
          rw [j1 x hx, mnP_congr (R := fun _ => true) _ (fun k _ => by simp)]
        rw [hM2.1.1 5 (by omega), nI_1]
        refine nI_if (by omega) (by omega) (fun d => ?_) (fun d => ?_)
        · intro y hy
          refine hkk _ _ (by rw [hy, nI_1]) ⟨hf2, fun x hx => ?_⟩
          rw [hmid x hx]
          show _ = nI (if _ then _ else _)
          rw [if_neg (fun q => by omega)]
        · have hpi1 := hπ.1.1 (i + 1) d
          refine e_cell (by show i + 1 < 12; omega) (by decide) ?_
          rw [hM2.2.1 (i + 1) d]
          refine e_areRhyming rfl hF hM2.1 hpi hpi1 ?_
          by_cases r : F 4 (π i) = F 4 (π (i + 1))
          · rw [if_pos r, if_neg (by decide)]
            intro y hy
            refine hkk _ _ (by rw [hy, nI_1]) ⟨hf2, fun x hx => ?_⟩
            rw [hmid x hx]
            show _ = nI (if _ then _ else _)
            rw [if_neg (fun q => q.2.1 r)]
          · rw [if_neg r, if_pos rfl]
            refine e_dropBroken hn7 hM2 hmid ?_
            intro S3 hf3 l1 y hy
            refine hkk _ _ (by rw [hy, nI_1]) ⟨frX_trans hf2 hf3, fun x hx => ?_⟩
            rw [l1 x hx]
            show _ = nI (if _ then _ else _)
            by_cases u : unb (F 0 0) L x = false
            · rw [if_pos u, if_pos ⟨d, r, u⟩]
            · rw [if_neg u, if_neg (fun q => u q.2.2)]
      · have hvm : vm c = nI (c - 1) := by unfold vm; rw [if_neg c0]
        rw [hvm, if_neg (nI_pos (by omega))]
        have hcl : c - 1 < 2 ^ F 0 0 := by omega
        refine e_cell (by show c - 1 < 128; omega) (by decide) ?_
        -- the set itself is as it was
        have hself : mnP ch g (π i) (dp (F 0 0) (F 0 5) L (F 4) ch g π i) (c - 1) (fun k => decide (c ≤ (c - 1) ^^^ 2 ^ k)) (F 0 0) = dp (F 0 0) (F 0 5) L (F 4) ch g π i (c - 1) := by
          refine mnP_none (hold _ hcl) _ (fun k _ hP => ?_)
          unfold tm
          rw [if_neg]
          intro q
          rw [Bool.and_eq_true, Bool.and_eq_true] at q
          have hlt := x_lt q.1.1
          have := of_decide_eq_true hP
          omega
        have hle := hold _ hcl
        rw [j1 _ hcl, hself]
        refine nI_if (x := 1000) (by omega) (by omega) (fun d => ?_) (fun d => ?_)
        · intro y hy
          rw [vm_step (by omega)] at hy
          subst hy
          refine hk2 (c - 1) _ _ ⟨hf2, hcl, rfl, fun x hx => ?_⟩ (by omega)
          rw [j1 x hx, mnP_congr (R := fun k => decide (c - 1 ≤ x ^^^ 2 ^ k)) _ (fun k _ => ?_)]
          by_cases e1 : x ^^^ 2 ^ k = c - 1
          · have : tm ch g (π i) (dp (F 0 0) (F 0 5) L (F 4) ch g π i) x k = 1000 := by
              unfold tm
              rw [if_neg]
              intro q
              rw [Bool.and_eq_true, Bool.and_eq_true, e1] at q
              have := of_decide_eq_true q.2
              omega
            rw [this]; simp
          · rw [show decide (c ≤ x ^^^ 2 ^ k) = decide (c - 1 ≤ x ^^^ 2 ^ k) by
              by_cases q : c ≤ x ^^^ 2 ^ k
              · rw [decide_eq_true q, decide_eq_true (by omega)]
              · rw [decide_eq_false q, decide_eq_false (by omega)]]
        · refine e_offer (old := dp (F 0 0) (F 0 5) L (F 4) ch g π i) hn7 hF hM2 (fun e he => by rw [frX_g hf2 51 e (by decide)]; exact h51 e he) hg hpi hcl d hold hch (fun x hx => ?_) ?_
          · rw [j1 x hx, mnP_congr (R := fun k => decide (c - 1 < x ^^^ 2 ^ k)) _ (fun k _ => ?_)]
            rw [show decide (c ≤ x ^^^ 2 ^ k) = decide (c - 1 < x ^^^ 2 ^ k) by
              by_cases q : c ≤ x ^^^ 2 ^ k
              · rw [decide_eq_true q, decide_eq_true (by omega)]
              · rw [decide_eq_false q, decide_eq_false (by omega)]]
          · intro S3 hf3 l1 y hy
            rw [vm_step (by omega)] at hy
            subst hy
            exact hk2 (c - 1) _ _ ⟨frX_trans hf2 hf3, hcl, rfl, l1⟩ (by omega)
    · rw [i1 x hx]
      congr 1
      refine (mnP_none (hold x hx) _ (fun k _ hP => ?_)).symm
      unfold tm
      rw [if_neg]
      intro q
      rw [Bool.and_eq_true, Bool.and_eq_true] at q
      have hlt := x_lt q.1.1
      have := of_decide_eq_true hP
      omega
  · rintro kk S' ⟨hf, i1⟩
    unfold b_X6_cheapest_33
    have hM' := MD_fr hf (by simp) hM
    rw [hM'.1.1 5 (by omega), if_pos (nI_le (Nat.le_refl _) (by omega))]
    refine e_cell (by show _ < 128; omega) (by decide) ?_
    have hq := hQ S' hf
    have hle := (hdp (F 0 5) (Nat.le_refl _) (2 ^ F 0 0 - 1) (by omega)).2.2
    rw [i1 _ (by omega)]
    refine nI_if (x := 1000) (by omega) (by omega) (fun d => ?_) (fun d => ?_)
    · rw [if_neg (by omega)] at hq; exact hq
    · refine e_cell (by show _ < 128; omega) (by decide) ?_
      rw [i1 _ (by omega)]
      rw [if_pos d] at hq; exact hq
  · rw [gI_sI]
    by_cases c : x = 0
    · subst c; rw [if_pos ⟨rfl, rfl⟩]; rfl
    · rw [if_neg (fun q => c q.2), gI_setRow, if_pos ⟨rfl, by show x < 128; omega⟩]
      show _ = nI (if x = 0 then 0 else 1000)
      rw [if_neg c]; rfl
