/-! ===== pure: the reference names the places of a mark's form ===== -/
/-- a mark's form, as the reference keeps it -/
def MK (H : Fm) (pa pb : Nat → Nat) (at0 : Nat) (S : St) : Prop :=
  gI S 46 at0 = nI (H 0 0) ∧ gI S 46 (at0 + 1) = nI (H 0 2) ∧ (∀ j, j < H 0 0 → gI S 46 (at0 + 2 + j) = nI (H 1 j) ∧ gI S 46 (at0 + 14 + j) = nI (H 3 j)) ∧ ∀ k, k < H 0 2 → gI S 46 (at0 + 26 + k) = nI (pa k) ∧ gI S 46 (at0 + 34 + k) = nI (pb k)
/-- the reference's two forms -/
def MN (F H : Fm) (pa pb qa qb : Nat → Nat) (at0 : Nat) (S : St) : Prop := MP F pa pb S ∧ (∀ j, j < F 0 0 → gI S 5 j = nI (F 3 j)) ∧ MK H qa qb at0 S
theorem MN_47 {F H : Fm} {pa pb qa qb : Nat → Nat} {at0 e : Nat} {v : Int32} {S : St} (h : MN F H pa pb qa qb at0 S) : MN F H pa pb qa qb at0 (sI S 47 e v) := by
  have go : ∀ b j, b ≠ 47 → gI (sI S 47 e v) b j = gI S b j := fun b j hb => by rw [gI_sI, if_neg (fun q => hb q.1)]
  obtain ⟨⟨⟨h1, h2⟩, h3, h4⟩, h5, k1, k2, k3, k4⟩ := h
  refine ⟨⟨⟨?_, fun i hi => ?_⟩, ?_, fun k hk => ?_⟩, fun j hj => ?_, ?_, ?_, fun j hj => ?_, fun k hk => ?_⟩
  · rw [go _ _ (by decide)]; exact h1
  · rw [go _ _ (by decide)]; exact h2 i hi
  · rw [go _ _ (by decide)]; exact h3
  · rw [go _ _ (by decide), go _ _ (by decide)]; exact h4 k hk
  · rw [go _ _ (by decide)]; exact h5 j hj
  · rw [go _ _ (by decide)]; exact k1
  · rw [go _ _ (by decide)]; exact k2
  · rw [go _ _ (by decide), go _ _ (by decide)]; exact k3 j hj
  · rw [go _ _ (by decide), go _ _ (by decide)]; exact k4 k hk
theorem m_isPair {F : Fm} {pa pb : Nat → Nat} {p q : Nat} {S : St} {Q : Int32 → St → Prop} (hF : FW F) (hP : PW F pa pb) (hM : MP F pa pb S) (hp : p < F 0 0) (hq : q < F 0 0) (hQ : Q (if (F 2 p).testBit q then 1 else 0) S) : w_X12_isPair (nI p) (nI q) S Q := by
  have hn := hF.1.2.1
  have hr := hF.1.2.2.2.1
  have no : ∀ {P : Prop}, (F 2 p).testBit q = true → (∀ k, k < F 0 2 → ¬ (pa k = p ∧ pb k = q ∨ pa k = q ∧ pb k = p)) → P := by
    intro P h h2
    obtain ⟨k, hk, c⟩ := (hP.2 p q hp hq).mp h
    exact absurd c (h2 k hk)
  refine up1 (B := b_X12_isPair_2 (nI p) (nI q) Q) (F 0 2) (by omega) (fun k S' => S' = S ∧ ∀ j, j < k → ¬ (pa j = p ∧ pb j = q ∨ pa j = q ∧ pb j = p)) ?_ ?_ 0 (by omega) ⟨rfl, fun j hj => absurd hj (Nat.not_lt_zero _)⟩
  · rintro kk k S' hk ⟨rfl, hno⟩ hkk
    unfold b_X12_isPair_2
    obtain ⟨q1, q2, q3⟩ := hP.1 k hk
    obtain ⟨e1, e2⟩ := hM.2.2 k hk
    have hv : vp_in (nI k) 8 := vp_in_nI (by omega) (by omega)
    have yes : (pa k = p ∧ pb k = q ∨ pa k = q ∧ pb k = p) → Q 1 S' := by
      intro c
      rw [if_pos ((hP.2 p q hp hq).mpr ⟨k, hk, c⟩)] at hQ; exact hQ
    have next : ¬ (pa k = p ∧ pb k = q ∨ pa k = q ∧ pb k = p) → ∀ x, x = nI k + 1 → kk x S' := by
      intro c x hx
      refine hkk _ _ hx ⟨rfl, fun j hj => ?_⟩
      by_cases e : j = k
      · subst e; exact c
      · exact hno j (by omega)
    have st2 : ¬ (pa k = p ∧ pb k = q) → w_X12_isPair_30 (nI p) (nI q) Q kk (nI k) S' := by
      intro c
      unfold w_X12_isPair_30
      rw [nI_clamp (by omega), e1, e2]
      refine ⟨hv, ?_⟩
      refine nI_ifEq (by omega) (by omega) (fun d => ⟨hv, ?_⟩) (fun d => next (fun z => z.elim c (fun t => d t.1)))
      exact nI_ifEq (by omega) (by omega) (fun d2 => yes (Or.inr ⟨d, d2⟩)) (fun d2 => next (fun z => z.elim c (fun t => d2 t.2)))
    rw [hM.2.1, if_neg (nI_ge hk (by omega)), nI_clamp (by omega), e1, e2]
    refine ⟨hv, ?_⟩
    refine nI_ifEq (by omega) (by omega) (fun d => ⟨hv, ?_⟩) (fun d => st2 (fun t => d t.1))
    exact nI_ifEq (by omega) (by omega) (fun d2 => yes (Or.inl ⟨d, d2⟩)) (fun d2 => st2 (fun t => d2 t.2))
  · rintro kk S' ⟨rfl, hno⟩
    unfold b_X12_isPair_2
    rw [hM.2.1, if_pos (nI_le (Nat.le_refl _) (by omega))]
    by_cases c : (F 2 p).testBit q = true
    · exact no c hno
    · rw [if_neg c] at hQ; exact hQ
theorem m_isPairOn {H : Fm} {qa qb : Nat → Nat} {at0 p q : Nat} {S : St} {Q : Int32 → St → Prop} (hH : FW H) (hP : PW H qa qb) (hM : MK H qa qb at0 S) (hat : at0 ≤ 1500) (hp : p < H 0 0) (hq : q < H 0 0) (hQ : Q (if (H 2 p).testBit q then 1 else 0) S) : w_X12_isPairOn (nI at0) (nI p) (nI q) S Q := by
  have hn := hH.1.2.1
  have hr := hH.1.2.2.2.1
  have no : ∀ {P : Prop}, (H 2 p).testBit q = true → (∀ k, k < H 0 2 → ¬ (qa k = p ∧ qb k = q ∨ qa k = q ∧ qb k = p)) → P := by
    intro P h h2
    obtain ⟨k, hk, c⟩ := (hP.2 p q hp hq).mp h
    exact absurd c (h2 k hk)
  have a1 : nI at0 + (1 : Int32) = nI (at0 + 1) := nI_1 _
  have a26 : nI at0 + (26 : Int32) = nI (at0 + 26) := nI_add _ 26
  have a34 : nI at0 + (34 : Int32) = nI (at0 + 34) := nI_add _ 34
  refine up1 (B := b_X12_isPairOn_3 (nI at0) (nI p) (nI q) Q) (H 0 2) (by omega) (fun k S' => S' = S ∧ ∀ j, j < k → ¬ (qa j = p ∧ qb j = q ∨ qa j = q ∧ qb j = p)) ?_ ?_ 0 (by omega) ⟨rfl, fun j hj => absurd hj (Nat.not_lt_zero _)⟩
  · rintro kk k S' hk ⟨rfl, hno⟩ hkk
    unfold b_X12_isPairOn_3
    obtain ⟨q1, q2, q3⟩ := hP.1 k hk
    obtain ⟨e1, e2⟩ := hM.2.2.2 k hk
    have yes : (qa k = p ∧ qb k = q ∨ qa k = q ∧ qb k = p) → Q 1 S' := by
      intro c
      rw [if_pos ((hP.2 p q hp hq).mpr ⟨k, hk, c⟩)] at hQ; exact hQ
    have next : ¬ (qa k = p ∧ qb k = q ∨ qa k = q ∧ qb k = p) → ∀ x, x = nI k + 1 → kk x S' := by
      intro c x hx
      refine hkk _ _ hx ⟨rfl, fun j hj => ?_⟩
      by_cases e : j = k
      · subst e; exact c
      · exact hno j (by omega)
    have st2 : ¬ (qa k = p ∧ qb k = q) → w_X12_isPairOn_56 (nI at0) (nI p) (nI q) Q kk (nI k) (nI (qa k)) (nI (qb k)) S' := by
      intro c
      unfold w_X12_isPairOn_56
      refine nI_ifEq (by omega) (by omega) (fun d => ?_) (fun d => next (fun z => z.elim c (fun t => d t.1)))
      exact nI_ifEq (by omega) (by omega) (fun d2 => yes (Or.inr ⟨d, d2⟩)) (fun d2 => next (fun z => z.elim c (fun t => d2 t.2)))
    rw [a1, a26, a34, nI_add, nI_add, nI_clamp (by omega), nI_clamp (by omega), nI_clamp (by omega), hM.2.1, if_neg (nI_ge hk (by omega))]
    refine ⟨vp_in_nI (by omega) (by omega), vp_in_nI (by omega) (by omega), fun x hx => ⟨vp_in_nI (by omega) (by omega), fun y hy => ?_⟩⟩
    rw [e1] at hx
    rw [e2] at hy
    subst hx; subst hy
    refine nI_ifEq (by omega) (by omega) (fun d => ?_) (fun d => st2 (fun t => d t.1))
    exact nI_ifEq (by omega) (by omega) (fun d2 => yes (Or.inl ⟨d, d2⟩)) (fun d2 => st2 (fun t => d2 t.2))
  · rintro kk S' ⟨rfl, hno⟩
    unfold b_X12_isPairOn_3
    rw [a1, nI_clamp (by omega), hM.2.1, if_pos (nI_le (Nat.le_refl _) (by omega))]
    refine ⟨vp_in_nI (by omega) (by omega), ?_⟩
    by_cases c : (H 2 p).testBit q = true
    · exact no c hno
    · rw [if_neg c] at hQ; exact hQ
/-- how many a place rhymes with -/
def frd (F : Fm) (p m : Nat) : Nat := cnt (fun q => (F 2 p).testBit q) m
theorem irr2 {F : Fm} (hF : FW F) {a : Nat} (ha : a < F 0 0) : (F 2 a).testBit a = false := by
  cases c : (F 2 a).testBit a with
  | false => rfl
  | true => exact absurd rfl ((hF.2.2.1 a ha).2.2 a c).2.1
theorem m_friends {F G : Fm} {p : Nat} {x : Int32} {S : St} {Q : Int32 → St → Prop} (hn : F 0 0 ≤ 12) (h10 : gI S 0 10 = nI (F 0 0)) (hp : p < F 0 0) (hirr : (G 2 p).testBit p = false)
    (hpair : ∀ (q : Nat) (R : Int32 → St → Prop), q < F 0 0 → R (if (G 2 p).testBit q then 1 else 0) S → if 0 ≤ x then w_X12_isPairOn x (nI p) (nI q) S R else w_X12_isPair (nI p) (nI q) S R)
    (hQ : Q (nI (frd G p (F 0 0))) S) : w_X12_friends x (nI p) S Q := by
  refine up2 (B := b_X12_friends_5 x (nI p) Q) (F 0 0) (by omega) (fun q v S' => S' = S ∧ v = nI (frd G p q)) ?_ ?_ 0 _ (by omega) ⟨rfl, rfl⟩
  · rintro kk q v S' hq ⟨rfl, rfl⟩ hkk
    unfold b_X12_friends_5
    rw [h10, if_neg (nI_ge hq (by omega))]
    have fin : ∀ z : Nat, z = (if (G 2 p).testBit q then 1 else 0) → w_X12_friends_54 x (nI p) kk (nI q) (nI z) (nI (frd G p q)) S' := by
      intro z hz y hy t ht
      refine hkk _ _ _ ht ⟨rfl, ?_⟩
      rw [hy, nI_add, hz]; rfl
    refine nI_ifEq (by omega) (by omega) (fun c => ?_) (fun c => ?_)
    · refine fin 0 ?_
      rw [c, hirr]; rfl
    · have key : ∀ R : Int32 → St → Prop, (∀ r : Int32, r = (if (G 2 p).testBit q then 1 else 0) → (if r = 0 then w_X12_friends_53 x (nI p) kk (nI q) (nI (frd G p q)) S' else w_X12_friends_49 x (nI p) kk (nI q) (nI (frd G p q)) S') → R r S') → if 0 ≤ x then w_X12_isPairOn x (nI p) (nI q) S' R else w_X12_isPair (nI p) (nI q) S' R := by
        intro R hR
        refine hpair q R hq (hR _ rfl ?_)
        by_cases d : (G 2 p).testBit q = true
        · rw [if_pos d, if_neg (by decide)]
          exact fin 1 (by rw [if_pos d])
        · rw [if_neg d, if_pos rfl]
          exact fin 0 (by rw [if_neg d])
      by_cases cx : 0 ≤ x
      · rw [if_pos cx]
        have := key (fun r S1 => if r = 0 then w_X12_friends_53 x (nI p) kk (nI q) (nI (frd G p q)) S1 else w_X12_friends_49 x (nI p) kk (nI q) (nI (frd G p q)) S1) (fun r _ h => h)
        rw [if_pos cx] at this
        exact this
      · rw [if_neg cx]
        have := key (fun r S1 => if r = 0 then w_X12_friends_53 x (nI p) kk (nI q) (nI (frd G p q)) S1 else w_X12_friends_49 x (nI p) kk (nI q) (nI (frd G p q)) S1) (fun r _ h => h)
        rw [if_neg cx] at this
        exact this
  · rintro kk v S' ⟨rfl, rfl⟩
    unfold b_X12_friends_5
    rw [h10, if_pos (nI_le (Nat.le_refl _) (by omega))]
    exact hQ
theorem frd_ren {F H : Fm} {σ : Nat → Nat} (hn : F 0 0 ≤ 12) (h : Ren F H σ) {p : Nat} (hp : p < F 0 0) : frd F p (F 0 0) = frd H (σ p) (F 0 0) := by
  have cs : ∀ (P : Nat → Bool) m, nI (cnt P m) = sumI (fun q => if P q then 1 else 0) m := by
    intro P m
    induction m with
    | zero => rfl
    | succ m ih =>
      show nI (cnt P m + (if P m then 1 else 0)) = sumI _ m + (if P m then 1 else 0)
      rw [← ih, ← nI_add]
      congr 1
      by_cases c : P m = true
      · rw [if_pos c, if_pos c]; rfl
      · rw [if_neg c, if_neg c]; rfl
  have e : nI (frd F p (F 0 0)) = nI (frd H (σ p) (F 0 0)) := by
    unfold frd
    rw [cs, cs, ← sumI_perm (g := fun q => if (H 2 (σ p)).testBit q then 1 else 0) (F 0 0) σ (Ren_pm h)]
    exact sumI_congr _ (fun q hq => by rw [h.2.2.2.2 p q hp hq])
  have l1 := cnt_le (fun q => (F 2 p).testBit q) (F 0 0)
  have l2 := cnt_le (fun q => (H 2 (σ p)).testBit q) (F 0 0)
  unfold frd at e ⊢
  exact nI_inj (by omega) (by omega) e
/-- may q be p's name, the places below p being named by g -/
def mbC (F H : Fm) (g : Nat → Nat) (p q : Nat) : Prop := F 3 p = H 3 q ∧ frd F p (F 0 0) = frd H q (F 0 0) ∧ (F 1 p = p ↔ H 1 q = q) ∧ ∀ o, o < p → g o ≠ q ∧ (F 2 o).testBit p = (H 2 (g o)).testBit q ∧ (F 1 p = o ↔ H 1 q = g o) ∧ (F 1 o = p ↔ H 1 (g o) = q)
theorem ifq {a b c d : Nat} {X Y : Prop} (h1 : (a = b ↔ c = d) → X) (h2 : ¬ (a = b ↔ c = d) → Y) : if (if a = b then (1 : Int32) else 0) = (if c = d then (1 : Int32) else 0) then X else Y := by
  by_cases e : a = b
  · by_cases f : c = d
    · rw [if_pos e, if_pos f, if_pos rfl]; exact h1 ⟨fun _ => f, fun _ => e⟩
    · rw [if_pos e, if_neg f, if_neg (by decide)]; exact h2 (fun q => f (q.mp e))
  · by_cases f : c = d
    · rw [if_neg e, if_pos f, if_neg (by decide)]; exact h2 (fun q => e (q.mpr f))
    · rw [if_neg e, if_neg f, if_pos rfl]; exact h1 ⟨fun q => absurd q e, fun q => absurd q f⟩
theorem m_mayBe {F H : Fm} {pa pb qa qb g : Nat → Nat} {at0 p q : Nat} {S : St} {Q : Int32 → St → Prop} (hF : FW F) (hH : FW H) (hn0 : H 0 0 = F 0 0) (hP : PW F pa pb) (hP2 : PW H qa qb) (hM : MN F H pa pb qa qb at0 S) (hat : at0 ≤ 1500) (hp : p < F 0 0) (hq : q < F 0 0) (hg : ∀ o, o < p → g o < F 0 0 ∧ gI S 47 o = nI (g o))
    (h1 : mbC F H g p q → Q 1 S) (h0 : ¬ mbC F H g p q → Q 0 S) : w_X12_mayBe (nI at0) (nI p) (nI q) S Q := by
  have hn := hF.1.2.1
  have hf := hF.2.1
  have hh := hH.2.1
  rw [hn0] at hh
  have m2 := hM.1.1.2
  have m46 := hM.2.2.2.2.1
  rw [hn0] at m46
  have hv : ∀ j, j < 12 → vp_in (nI j) 12 := fun j hj => vp_in_nI hj (by omega)
  have hv2 : ∀ j, j < 2000 → vp_in (nI j) 2000 := fun j hj => vp_in_nI hj (by omega)
  have a2 : ∀ j, nI at0 + (2 : Int32) + nI j = nI (at0 + 2 + j) := fun j => by rw [show nI at0 + (2 : Int32) = nI (at0 + 2) from nI_add _ 2, nI_add]
  have a14 : nI at0 + (14 : Int32) + nI q = nI (at0 + 14 + q) := by rw [show nI at0 + (14 : Int32) = nI (at0 + 14) from nI_add _ 14, nI_add]
  have ev1 := (hF.2.2.1 p hp).2.1
  have ev2 := (hH.2.2.1 q (by omega)).2.1
  unfold w_X12_mayBe
  rw [a14, nI_clamp (by omega), nI_clamp (by omega), hM.2.1 p hp, (m46 q hq).2]
  refine ⟨hv _ (by omega), hv2 _ (by omega), ?_⟩
  refine nI_ifEq (by omega) (by omega) (fun c3 => ?_) (fun c3 => h0 (fun z => c3 z.1))
  refine m_friends (G := F) hn hM.1.1.1 hp (irr2 hF hp) (fun q' R hq' hR => by rw [if_neg (by decide)]; exact m_isPair hF hP hM.1 hp hq' hR) ?_
  refine m_friends (G := H) hn hM.1.1.1 hq (irr2 hH (by omega)) (fun q' R hq' hR => by rw [if_pos (nI_pos' (by omega))]; exact m_isPairOn hH hP2 hM.2.2 hat (by omega) (by omega) hR) ?_
  have l1 := cnt_le (fun q => (F 2 p).testBit q) (F 0 0)
  have l2 := cnt_le (fun x => (H 2 q).testBit x) (F 0 0)
  refine nI_ifEq (by unfold frd; omega) (by unfold frd; omega) (fun cf => ?_) (fun cf => h0 (fun z => cf z.2.1))
  have hfp := hf.1 p hp
  have hhq := hh.1 q hq
  rw [m2 p hp]
  refine ⟨hv _ (by omega), ?_⟩
  -- the places below p
  have rest : (F 1 p = p ↔ H 1 q = q) → w_X12_mayBe_77 (nI at0) (nI p) (nI q) Q (0 : Int32) S := by
    intro cx
    refine up1 (B := b_X12_mayBe_77 (nI at0) (nI p) (nI q) Q) p (by omega) (fun o S' => S' = S ∧ ∀ o', o' < o → g o' ≠ q ∧ (F 2 o').testBit p = (H 2 (g o')).testBit q ∧ (F 1 p = o' ↔ H 1 q = g o') ∧ (F 1 o' = p ↔ H 1 (g o') = q)) ?_ ?_ 0 (by omega) ⟨rfl, fun o ho => absurd ho (Nat.not_lt_zero _)⟩
    · rintro kk o S' ho ⟨rfl, hall⟩ hkk
      unfold b_X12_mayBe_77
      obtain ⟨g1, g2⟩ := hg o ho
      have hfo := hf.1 o (by omega)
      have hhg := hh.1 (g o) g1
      rw [if_neg (nI_ge ho (by omega)), nI_clamp (by omega), g2]
      refine ⟨hv _ (by omega), ?_⟩
      refine nI_ifEq (by omega) (by omega) (fun d => h0 (fun z => (z.2.2.2 o ho).1 d)) (fun d => ?_)
      refine m_isPair hF hP hM.1 (by omega) hp ?_
      refine ⟨hv _ (by omega), ?_⟩
      rw [nI_clamp (by omega), g2]
      refine m_isPairOn hH hP2 hM.2.2 hat (by omega) (by omega) ?_
      by_cases c2 : (F 2 o).testBit p = (H 2 (g o)).testBit q
      · rw [c2, if_pos rfl]
        refine ⟨hv _ (by omega), ?_⟩
        rw [m2 p hp]
        -- from p is o
        have s3 : (F 1 p = o ↔ H 1 q = g o) → w_X12_mayBe_160 (nI at0) (nI p) (nI q) Q kk (nI o) 0 0 S' := by
          intro c4
          unfold w_X12_mayBe_160
          rw [if_pos rfl, nI_clamp (by omega), m2 o (by omega)]
          refine ⟨hv _ (by omega), ?_⟩
          have e1 : ∀ t : Int32, t = (if F 1 o = p then 1 else 0) → w_X12_mayBe_179 (nI at0) (nI p) (nI q) Q kk (nI o) t S' := by
            intro t ht
            unfold w_X12_mayBe_179
            rw [nI_clamp (by omega), g2, a2, nI_clamp (by omega), (m46 (g o) g1).1]
            refine ⟨hv _ (by omega), hv2 _ (by omega), ?_⟩
            have e2 : ∀ u : Int32, u = (if H 1 (g o) = q then 1 else 0) → w_X12_mayBe_204 (nI at0) (nI p) (nI q) Q kk (nI o) u t S' := by
              intro u hu
              unfold w_X12_mayBe_204
              rw [ht, hu]
              refine ifq (fun z => ?_) (fun z => h0 (fun y => z (y.2.2.2 o ho).2.2.2))
              intro x hx
              refine hkk _ _ hx ⟨rfl, fun o' ho' => ?_⟩
              by_cases e : o' = o
              · subst e; exact ⟨d, c2, c4, z⟩
              · exact hall o' (by omega)
            exact nI_ifEq (by omega) (by omega) (fun z => e2 1 (by rw [if_pos z])) (fun z => e2 0 (by rw [if_neg z]))
          exact nI_ifEq (by omega) (by omega) (fun z => e1 1 (by rw [if_pos z])) (fun z => e1 0 (by rw [if_neg z]))
        have e1 : ∀ t : Int32, t = (if F 1 p = o then 1 else 0) → w_X12_mayBe_135 (nI at0) (nI p) (nI q) Q kk (nI o) t S' := by
          intro t ht
          unfold w_X12_mayBe_135
          rw [a2, nI_clamp (by omega), nI_clamp (n := o) (by omega), (m46 q hq).1, g2]
          refine ⟨hv2 _ (by omega), hv _ (by omega), ?_⟩
          have e2 : ∀ u : Int32, u = (if H 1 q = g o then 1 else 0) → w_X12_mayBe_160 (nI at0) (nI p) (nI q) Q kk (nI o) u t S' := by
            intro u hu
            by_cases z : (F 1 p = o ↔ H 1 q = g o)
            · have hut : t = u := by
                rw [ht, hu]
                by_cases y : F 1 p = o
                · rw [if_pos y, if_pos (z.mp y)]
                · rw [if_neg y, if_neg (fun w => y (z.mpr w))]
              have := s3 z
              unfold w_X12_mayBe_160 at this ⊢
              rw [if_pos hut]
              rw [if_pos rfl] at this
              exact this
            · have hut : ¬ t = u := by
                rw [ht, hu]
                by_cases y : F 1 p = o
                · rw [if_pos y, if_neg (fun w => z ⟨fun _ => w, fun _ => y⟩)]; decide
                · rw [if_neg y, if_pos (Classical.byContradiction fun w => z ⟨fun q => absurd q y, fun q => absurd q w⟩)]; decide
              unfold w_X12_mayBe_160
              rw [if_neg hut]
              exact h0 (fun y => z (y.2.2.2 o ho).2.2.1)
          exact nI_ifEq (by omega) (by omega) (fun z => e2 1 (by rw [if_pos z])) (fun z => e2 0 (by rw [if_neg z]))
        exact nI_ifEq (by omega) (by omega) (fun z => e1 1 (by rw [if_pos z])) (fun z => e1 0 (by rw [if_neg z]))
      · rw [if_neg (by
          intro z
          cases x1 : (F 2 o).testBit p <;> cases x2 : (H 2 (g o)).testBit q
          · rw [x1, x2] at c2; exact c2 rfl
          · rw [x1, x2] at z; exact absurd z (by decide)
          · rw [x1, x2] at z; exact absurd z (by decide)
          · rw [x1, x2] at c2; exact c2 rfl)]
        exact h0 (fun y => c2 (y.2.2.2 o ho).2.1)
    · rintro kk S' ⟨rfl, hall⟩
      unfold b_X12_mayBe_77
      rw [if_pos (nI_le (Nat.le_refl _) (by omega))]
      exact h1 ⟨c3, cf, cx, hall⟩
  have e1 : ∀ t : Int32, t = (if F 1 p = p then 1 else 0) → w_X12_mayBe_50 (nI at0) (nI p) (nI q) Q t S := by
    intro t ht
    unfold w_X12_mayBe_50
    rw [a2, nI_clamp (by omega), (m46 q hq).1]
    refine ⟨hv2 _ (by omega), ?_⟩
    have e2 : ∀ u : Int32, u = (if H 1 q = q then 1 else 0) → w_X12_mayBe_69 (nI at0) (nI p) (nI q) Q u t S := by
      intro u hu
      unfold w_X12_mayBe_69
      rw [ht, hu]
      exact ifq rest (fun z => h0 (fun y => z y.2.2.1))
    exact nI_ifEq (by omega) (by omega) (fun z => e2 1 (by rw [if_pos z])) (fun z => e2 0 (by rw [if_neg z]))
  exact nI_ifEq (by omega) (by omega) (fun z => e1 1 (by rw [if_pos z])) (fun z => e1 0 (by rw [if_neg z]))
theorem m_names {F H : Fm} {pa pb qa qb : Nat → Nat} {at0 : Nat} (hF : FW F) (hH : FW H) (hn0 : H 0 0 = F 0 0) (hP : PW F pa pb) (hP2 : PW H qa qb) (hat : at0 ≤ 1500) :
    ∀ (k p d : Nat) (g : Nat → Nat) (S : St) (Q : Int32 → St → Prop), p + k = F 0 0 → k < d → MN F H pa pb qa qb at0 S → (∀ o, o < p → gI S 47 o = nI (g o)) → PC F H g p →
      (∀ S' σ, (∀ b j, b ≠ 47 → gI S' b j = gI S b j) → RnL F H (fun τ => agr g τ p) σ → (∀ o, o < F 0 0 → gI S' 47 o = nI (σ o)) → Q 1 S') →
      (∀ S', (∀ b j, b ≠ 47 → gI S' b j = gI S b j) → (∀ o, o < p → gI S' 47 o = gI S 47 o) → (∀ τ, Ren F H τ → ¬ agr g τ p) → Q 0 S') →
      w_X12_names d (nI at0) (nI p) S Q := by
  have hn := hF.1.2.1
  intro k
  induction k with
  | zero =>
    intro p d g S Q hpk hd hM hg hC h1 h0
    obtain ⟨d, rfl⟩ : ∃ d', d = d' + 1 := ⟨d - 1, by omega⟩
    have hp : p = F 0 0 := by omega
    subst hp
    show u_X12_names (w_X12_names d) _ _ S Q
    unfold u_X12_names
    rw [hM.1.1.1, if_pos rfl]
    exact h1 S g (fun _ _ _ => rfl) ⟨PC_ren hF hH hn0 hC, fun _ _ => rfl, fun τ hτ hR k hk _ => by rw [hR k hk]; exact Nat.le_refl _⟩ hg
  | succ k ih =>
    intro p d g S Q hpk hd hM hg hC h1 h0
    obtain ⟨d, rfl⟩ : ∃ d', d = d' + 1 := ⟨d - 1, by omega⟩
    have hp : p < F 0 0 := by omega
    show u_X12_names (w_X12_names d) _ _ S Q
    unfold u_X12_names
    rw [hM.1.1.1, if_neg (fun q => by have := nI_inj (by omega) (by omega) q; omega)]
    refine up1 (B := b_X12_names_12 (nI at0) (nI p) (w_X12_names d) Q) (F 0 0) (by omega) (fun q S' => MN F H pa pb qa qb at0 S' ∧ (∀ b j, b ≠ 47 → gI S' b j = gI S b j) ∧ (∀ o, o < p → gI S' 47 o = gI S 47 o) ∧ ∀ τ, Ren F H τ → agr g τ p → q ≤ τ p) ?_ ?_ 0 (by omega) ⟨hM, fun _ _ _ => rfl, fun _ _ => rfl, fun _ _ _ => Nat.zero_le _⟩
    · rintro kk q S' hq ⟨hM', i1, i2, i3⟩ hkk
      unfold b_X12_names_12
      rw [hM'.1.1.1, if_neg (nI_ge hq (by omega))]
      have no : (∀ τ, Ren F H τ → agr g τ p → τ p ≠ q) → ∀ S2, MN F H pa pb qa qb at0 S2 → (∀ b j, b ≠ 47 → gI S2 b j = gI S b j) → (∀ o, o < p → gI S2 47 o = gI S 47 o) → ∀ x, x = nI q + 1 → kk x S2 := by
        intro h S2 a b c x hx
        refine hkk _ _ hx ⟨a, b, c, fun τ h1 h2 => ?_⟩
        have := i3 τ h1 h2
        have := h τ h1 h2
        omega
      refine m_mayBe (g := g) hF hH hn0 hP hP2 hM' hat hp hq (fun o ho => ⟨(hC o ho).1, by rw [i2 o ho]; exact hg o ho⟩) (fun c => ?_) (fun c => ?_)
      · rw [if_neg (by decide)]
        refine ⟨vp_in_nI (by omega) (by omega), fun S2 hS2 => ?_⟩
        rw [nI_clamp (by omega)] at hS2
        have hM2 : MN F H pa pb qa qb at0 S2 := by rw [hS2]; exact MN_47 hM'
        have j1 : ∀ b j, b ≠ 47 → gI S2 b j = gI S b j := fun b j hb => by rw [hS2, gI_sI, if_neg (fun z => hb z.1)]; exact i1 b j hb
        have j2 : ∀ o, o < p → gI S2 47 o = gI S 47 o := fun o ho => by rw [hS2, gI_sI, if_neg (by omega)]; exact i2 o ho
        have j3 : gI S2 47 p = nI q := by rw [hS2, gI_sI, if_pos ⟨rfl, rfl⟩]
        have conv : ∀ b : Nat → Nat, agr (fun o => if o = p then q else g o) b (p + 1) ↔ agr g b p ∧ b p = q := by
          intro b
          constructor
          · intro h
            refine ⟨fun o ho => ?_, ?_⟩
            · have := h o (by omega); dsimp only at this; rwa [if_neg (by omega)] at this
            · have := h p (by omega); dsimp only at this; rwa [if_pos rfl] at this
          · rintro ⟨h1, h2⟩ o ho
            dsimp only
            by_cases z : o = p
            · subst z; rw [if_pos rfl]; exact h2
            · rw [if_neg z]; exact h1 o (by omega)
        rw [nI_1]
        refine ih (p + 1) d (fun o => if o = p then q else g o) S2 _ (by omega) (by omega) hM2 (fun o ho => ?_) (fun p' hp' => ?_) ?_ ?_
        · by_cases z : o = p
          · subst z; rw [if_pos rfl]; exact j3
          · rw [if_neg z, j2 o (by omega)]; exact hg o (by omega)
        · dsimp only
          by_cases z : p' = p
          · subst z
            rw [if_pos rfl]
            refine ⟨hq, c.1, c.2.2.1, fun o ho => ?_⟩
            rw [if_neg (by omega)]
            exact c.2.2.2 o ho
          · rw [if_neg z]
            obtain ⟨z1, z2, z3, z4⟩ := hC p' (by omega)
            refine ⟨z1, z2, z3, fun o ho => ?_⟩
            rw [if_neg (by omega)]
            exact z4 o ho
        · intro S3 σ k1 k2 k3
          rw [if_neg (by decide)]
          obtain ⟨r1, r2, r3⟩ := k2
          obtain ⟨s1, s2⟩ := (conv σ).mp r2
          refine h1 S3 σ (fun b j hb => by rw [k1 b j hb]; exact j1 b j hb) ⟨r1, s1, fun τ hτ hR kx hkx hag => ?_⟩ k3
          by_cases z : τ p = q
          · exact r3 τ hτ ((conv τ).mpr ⟨hR, z⟩) kx hkx hag
          · rcases Nat.lt_trichotomy kx p with y | y | y
            · rw [s1 kx y, hR kx y]; exact Nat.le_refl _
            · subst y; rw [s2]; exact i3 τ hτ hR
            · exact absurd ((hag p y).trans s2) z
        · intro S3 k1 k2 k3
          rw [if_pos rfl]
          refine no (fun τ hτ hR z => k3 τ hτ ((conv τ).mpr ⟨hR, z⟩)) S3 ?_ (fun b j hb => by rw [k1 b j hb]; exact j1 b j hb) (fun o ho => by rw [k2 o (by omega)]; exact j2 o ho)
          have eq : ∀ b j, b ≠ 47 → gI S3 b j = gI S2 b j := k1
          obtain ⟨⟨⟨x1, x2⟩, x3, x4⟩, x5, y1, y2, y3, y4⟩ := hM2
          refine ⟨⟨⟨?_, fun i hi => ?_⟩, ?_, fun k hk => ?_⟩, fun j hj => ?_, ?_, ?_, fun j hj => ?_, fun k hk => ?_⟩
          · rw [eq _ _ (by decide)]; exact x1
          · rw [eq _ _ (by decide)]; exact x2 i hi
          · rw [eq _ _ (by decide)]; exact x3
          · rw [eq _ _ (by decide), eq _ _ (by decide)]; exact x4 k hk
          · rw [eq _ _ (by decide)]; exact x5 j hj
          · rw [eq _ _ (by decide)]; exact y1
          · rw [eq _ _ (by decide)]; exact y2
          · rw [eq _ _ (by decide), eq _ _ (by decide)]; exact y3 j hj
          · rw [eq _ _ (by decide), eq _ _ (by decide)]; exact y4 k hk
      · rw [if_pos rfl]
        refine no (fun τ hτ hR z => c ?_) S' hM' i1 i2
        obtain ⟨-, z2, z3, z4⟩ := Ren_PC hF.2.1 hτ (m := p + 1) (by omega) p (Nat.lt_succ_self p)
        rw [z] at z2 z3
        refine ⟨z2, by rw [frd_ren hn hτ hp, z], z3, fun o ho => ?_⟩
        have := z4 o ho
        rw [hR o ho, z] at this
        exact this
    · rintro kk S' ⟨hM', i1, i2, i3⟩
      unfold b_X12_names_12
      rw [hM'.1.1.1, if_pos (nI_le (Nat.le_refl _) (by omega))]
      refine h0 S' i1 i2 (fun τ hτ hR => ?_)
      have a1 := i3 τ hτ hR
      have a2 := hτ.1 p hp
      omega
