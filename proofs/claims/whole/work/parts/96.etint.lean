/-! ===== pure: the class's tints ===== -/
def okO (o : Nat) : Prop := o = 21 ∨ o = 65 ∨ o = 79 ∨ o = 93 ∨ o = 107
theorem okO_ln {o : Nat} (h : okO o) : (lnE (o + 1) = 12 ∧ lnE (o + 2) = 12 ∧ lnE (o + 3) = 12) ∧ ∀ k, k ≤ 7 → ¬ (56 ≤ o + k ∧ o + k ≤ 62) := by
  rcases h with rfl | rfl | rfl | rfl | rfl
  · exact ⟨⟨rfl, rfl, rfl⟩, fun k hk => by omega⟩
  · exact ⟨⟨rfl, rfl, rfl⟩, fun k hk => by omega⟩
  · exact ⟨⟨rfl, rfl, rfl⟩, fun k hk => by omega⟩
  · exact ⟨⟨rfl, rfl, rfl⟩, fun k hk => by omega⟩
  · exact ⟨⟨rfl, rfl, rfl⟩, fun k hk => by omega⟩
theorem FEo_fr {F : Fm} {o : Nat} {l : List Nat} {S S' : St} (ho : okO o) (hf : frX l S S') (hl : ∀ x, x ∈ l → 56 ≤ x ∧ x ≤ 62) (H : FE o F S) : FE o F S' :=
  FE_fr hf (fun k hk q => (okO_ln ho).2 k hk (hl _ q)) H
theorem e_mixed {F : Fm} {o a p : Nat} {t : Nat → Int32} {S : St} {Q : Int32 → St → Prop} (ho : okO o) (ha : lnE a = 12) (hF : FW F) (hE : FE o F S) (ht : ∀ q, q < F 0 0 → gI S a q = t q) (hp : p < F 0 0)
    (hQ : Q ((sprd (t p) * (31 : Int32) + sprd (t (F 1 p)) * (18 : Int32)) + sumI (fun q => if (F 2 p).testBit q then sprd (t q) else 0) (F 0 0)) S) : w_X7_mixed o a (nI p) S Q := by
  have hn := hF.1.2.1
  have hf := hF.2.1
  obtain ⟨⟨l1, l2, l3⟩, -⟩ := okO_ln ho
  have h2 := hF.2.2.1 p hp
  have h2l := pow12 hn h2.1
  unfold w_X7_mixed w_X7_spread
  refine e_cell (by omega) (by omega) ?_
  refine e_cell (by omega) (by omega) ?_
  rw [hE.2.1 1 p (by omega) (by omega) hp]
  have hfp := hf.1 p hp
  refine e_cell (by omega) (by omega) ?_
  intro x hx
  refine e_cell (by omega) (by omega) ?_
  rw [hE.2.1 2 p (by omega) (by omega) hp]
  have hx2 : x = sprd (t p) * (31 : Int32) + sprd (t (F 1 p)) * (18 : Int32) := by rw [hx, ht p hp, ht _ hfp]; rfl
  subst hx2
  refine loopG2 (B := b_X7_mixed_44 o a Q (nI (F 2 p))) (fun c v3 v5 S' => S' = S ∧ ∃ q, q ≤ F 0 0 ∧ c = F 0 0 - q ∧ v5 = nI q ∧ v3 = (sprd (t p) * (31 : Int32) + sprd (t (F 1 p)) * (18 : Int32)) + sumI (fun q => if (F 2 p).testBit q then sprd (t q) else 0) q) ?_ (F 0 0) _ _ ⟨rfl, 0, by omega, rfl, rfl, by show _ = _ + 0; rw [Int32.add_zero]⟩
  rintro kk c v3 v5 S' ⟨rfl, q, hq, rfl, rfl, rfl⟩ hkk
  unfold b_X7_mixed_44
  refine nI_ifEq (y := 0) (by omega) (by omega) (fun c => ?_) (fun c => ?_)
  · have z : ∀ m, sumI (fun q => if (F 2 p).testBit q then sprd (t q) else 0) m = 0 := by
      intro m
      induction m with
      | zero => rfl
      | succ m ih => show sumI _ m + (if _ then _ else _) = 0; rw [ih, c, Nat.zero_testBit]; rfl
    rw [z] at hQ ⊢
    exact hQ
  · rw [hE.1 0 (by omega)]
    refine nI_if (by omega) (by omega) (fun d => ?_) (fun d => ?_)
    · rw [show q = F 0 0 by omega]; exact hQ
    · have fin : ∀ z : Int32, z = (if (F 2 p).testBit q then sprd (t q) else 0) → w_X7_mixed_82 o a kk (nI (F 2 p)) (nI q) z ((sprd (t p) * (31 : Int32) + sprd (t (F 1 p)) * (18 : Int32)) + sumI (fun q => if (F 2 p).testBit q then sprd (t q) else 0) q) S' := by
        intro z hz x hx y hy
        have hy2 : y = nI (q + 1) := hy.trans (nI_1 q)
        subst hy2
        refine hkk (F 0 0 - (q + 1)) _ _ _ ⟨rfl, q + 1, by omega, rfl, rfl, ?_⟩ (by omega)
        rw [hx, hz, Int32.add_assoc]; rfl
      refine bN_if (by omega) (by omega) (fun e => fin 0 (by rw [if_neg (by rw [e]; decide)])) (fun e => ?_)
      refine e_cell (by omega) (by omega) ?_
      refine fin _ ?_
      rw [if_pos e, ht q d]; rfl
theorem e_tint {F : Fm} {o a : Nat} {S : St} {Q : St → Prop} (ho : okO o) (ha : a = 58 ∨ a = 59) (hF : FW F) (hE : FE o F S)
    (hQ : ∀ S', frX [a, 60, 61, 62] S S' → (∀ p, p < F 0 0 → gI S' a p = tn F (F 0 0) p) → Q S') : w_X7_tint o a S Q := by
  have hn := hF.1.2.1
  have h := hF.2.1
  obtain ⟨⟨l1, l2, l3⟩, hno⟩ := okO_ln ho
  have hla : lnE a = 12 := by rcases ha with rfl | rfl <;> rfl
  have hin : ∀ x, x ∈ [a, 60, 61, 62] → 56 ≤ x ∧ x ≤ 62 := fun x hx => by simp at hx; omega
  have ha60 : a ≠ 60 := by omega
  have n61 : o + 1 ≠ 61 := fun q => hno 1 (by omega) (by omega)
  have n62 : o + 1 ≠ 61 + 1 := fun q => hno 1 (by omega) (by omega)
  unfold w_X7_tint
  rw [hE.1 0 (by omega)]
  refine e_follow (o := 61) (a := o + 1) (f := F 1) n61 n62 (by omega) (by omega) (by show _ ≤ 12; exact hn) (by decide) h (fun i hi => hE.2.1 1 i (by omega) (by omega) hi) (fun m hm => by have := rnd_le h hn hm; omega) ?_
  have hf1 := frX_cyc (o := 61) (n := nI (F 0 0)) (u := nI (ncyc (F 0 0) (F 1) (F 0 0))) (lo := nI (mxU (cyc (F 0 0) (F 1)) (F 0 0))) (t := nI (nfix (F 1) (F 0 0))) (p := lN (rnd (F 0 0) (F 1))) (g := fun j => if j < F 0 0 then nI (cyc (F 0 0) (F 1) j) else 0) (frX_refl [a, 60, 61, 62] S) (by simp) (by simp)
  have h62 : ∀ p, p < F 0 0 → gI (cycS S 61 (nI (F 0 0)) (nI (ncyc (F 0 0) (F 1) (F 0 0))) (nI (mxU (cyc (F 0 0) (F 1)) (F 0 0))) (nI (nfix (F 1) (F 0 0))) (lN (rnd (F 0 0) (F 1))) (fun j => if j < F 0 0 then nI (cyc (F 0 0) (F 1) j) else 0)) 62 p = nI (cyc (F 0 0) (F 1) p) := fun p hp => by
    show gI (cycS S 61 _ _ _ _ _ _) (61 + 1) p = _
    rw [cycS_gr _ _ _ _ _ _ _ _ (by show p < 12; omega), if_pos hp]
  generalize cycS S 61 (nI (F 0 0)) (nI (ncyc (F 0 0) (F 1) (F 0 0))) (nI (mxU (cyc (F 0 0) (F 1)) (F 0 0))) (nI (nfix (F 1) (F 0 0))) (lN (rnd (F 0 0) (F 1))) (fun j => if j < F 0 0 then nI (cyc (F 0 0) (F 1) j) else 0) = T at *
  refine up1 (B := b_X7_tint_17 o a Q) (F 0 0) (by omega) (fun p S' => frX [a, 60, 61, 62] S S' ∧ (∀ q, q < F 0 0 → gI S' 62 q = nI (cyc (F 0 0) (F 1) q)) ∧ ∀ q, q < p → gI S' a q = tn F 0 q) ?_ ?_ 0 (by omega) ⟨hf1, h62, fun q hq => absurd hq (Nat.not_lt_zero _)⟩
  · rintro kk p S' hp ⟨hf, i1, i2⟩ hkk
    unfold b_X7_tint_17
    have hE' := FEo_fr ho hf hin hE
    rw [hE'.1 0 (by omega), if_neg (nI_ge hp (by omega))]
    refine e_cell (by show p < 12; omega) (by decide) ?_
    rw [i1 p hp]
    refine e_cell (by omega) (by omega) ?_
    rw [hE'.2.1 3 p (by omega) (by omega) hp]
    refine e_put (by omega) (by omega) ?_
    intro x hx
    refine hkk _ _ hx ⟨frX_sI hf (by simp), fun q hq => by rw [gI_sI, if_neg (by omega)]; exact i1 q hq, fun q hq => ?_⟩
    rw [gI_sI]
    by_cases c : q = p
    · subst c; rw [if_pos ⟨rfl, rfl⟩]; rfl
    · rw [if_neg (fun z => c z.2)]; exact i2 q (by omega)
  · rintro kk S' ⟨hf, i1, i2⟩
    unfold b_X7_tint_17
    have hE' := FEo_fr ho hf hin hE
    rw [hE'.1 0 (by omega), if_pos (nI_le (Nat.le_refl _) (by omega))]
    refine up1 (B := b_X7_tint_62 o a Q) (F 0 0) (by omega) (fun k S2 => frX [a, 60, 61, 62] S S2 ∧ ∀ q, q < F 0 0 → gI S2 a q = tn F k q) ?_ ?_ 0 (by omega) ⟨hf, i2⟩
    · rintro k1 k S2 hk ⟨hf2, j1⟩ hk1
      unfold b_X7_tint_62
      have hE2 := FEo_fr ho hf2 hin hE
      rw [hE2.1 0 (by omega), if_neg (nI_ge hk (by omega))]
      refine up1 (B := b_X7_tint_73 o a k1 (nI k)) (F 0 0) (by omega) (fun p S3 => frX [a, 60, 61, 62] S S3 ∧ (∀ q, q < F 0 0 → gI S3 a q = tn F k q) ∧ ∀ q, q < p → gI S3 60 q = tn F (k + 1) q) ?_ ?_ 0 (by omega) ⟨hf2, j1, fun q hq => absurd hq (Nat.not_lt_zero _)⟩
      · rintro k2 p S3 hp ⟨hf3, l1', l2'⟩ hk2
        unfold b_X7_tint_73
        have hE3 := FEo_fr ho hf3 hin hE
        rw [hE3.1 0 (by omega), if_neg (nI_ge hp (by omega))]
        refine e_mixed ho hla hF hE3 l1' hp ?_
        refine e_put (by show p < 12; omega) (by decide) ?_
        intro x hx
        refine hk2 _ _ hx ⟨frX_sI hf3 (by simp), fun q hq => by rw [gI_sI, if_neg (fun z => ha60 z.1)]; exact l1' q hq, fun q hq => ?_⟩
        rw [gI_sI]
        by_cases c : q = p
        · subst c; rw [if_pos ⟨rfl, rfl⟩]; rfl
        · rw [if_neg (fun z => c z.2)]; exact l2' q (by omega)
      · rintro k2 S3 ⟨hf3, l1', l2'⟩
        unfold b_X7_tint_73
        have hE3 := FEo_fr ho hf3 hin hE
        rw [hE3.1 0 (by omega), if_pos (nI_le (Nat.le_refl _) (by omega))]
        refine e_copyRow (fun q => ha60 q.symm) (by decide) (by omega) ?_
        intro x hx
        refine hk1 _ _ hx ⟨frX_row hf3 (by simp), fun q hq => ?_⟩
        rw [gI_setRow, if_pos ⟨rfl, by rw [hla]; show q < 12; omega⟩]
        exact l2' q hq
    · rintro k1 S2 ⟨hf2, j1⟩
      unfold b_X7_tint_62
      have hE2 := FEo_fr ho hf2 hin hE
      rw [hE2.1 0 (by omega), if_pos (nI_le (Nat.le_refl _) (by omega))]
      exact hQ S2 hf2 j1
theorem sub_step (a b c d : Int32) : a - b + c - d = (a + c) - (b + d) := by
  rw [Int32.sub_eq_add_neg, Int32.sub_eq_add_neg, Int32.sub_eq_add_neg, Int32.neg_add, Int32.sub_eq_add_neg]
  ac_rfl
theorem e_haveSame {F H : Fm} {S : St} {Q : Int32 → St → Prop} (hF : FW F) (hn0 : H 0 0 = F 0 0) (hE : FE 21 F S) (ht : ∀ p, p < F 0 0 → gI S 58 p = tn F (F 0 0) p ∧ gI S 59 p = tn H (F 0 0) p)
    (h1 : Q 1 S) (h0 : (∀ σ, ¬ Ren F H σ) → Q 0 S) : w_X7_haveSameTints S Q := by
  have hn := hF.1.2.1
  refine up1 (B := b_X7_haveSameTints_2 Q) (F 0 0) (by omega) (fun p S' => S' = S) ?_ ?_ 0 (by omega) rfl
  · rintro kk p S' hp rfl hkk
    unfold b_X7_haveSameTints_2
    rw [hE.1 0 (by omega), if_neg (nI_ge hp (by omega))]
    refine up2 (B := b_X7_haveSameTints_17 Q kk (nI p)) (F 0 0) (by omega) (fun q v S2 => S2 = S' ∧ v = sumI (fun q => if tn F (F 0 0) q = tn F (F 0 0) p then 1 else 0) q - sumI (fun q => if tn H (F 0 0) q = tn F (F 0 0) p then 1 else 0) q) ?_ ?_ 0 _ (by omega) ⟨rfl, by show (0 : Int32) = 0 - 0; decide⟩
    · rintro k2 q v S2 hq ⟨rfl, rfl⟩ hk2
      unfold b_X7_haveSameTints_17
      rw [hE.1 0 (by omega), if_neg (nI_ge hq (by omega))]
      refine e_cell (by show q < 12; omega) (by decide) (e_cell (by show p < 12; omega) (by decide) ?_)
      rw [(ht q hq).1, (ht p hp).1]
      have st : ∀ t0 : Int32, t0 = (if tn F (F 0 0) q = tn F (F 0 0) p then 1 else 0) → w_X7_haveSameTints_53 k2 (nI p) (nI q) t0 (sumI (fun q => if tn F (F 0 0) q = tn F (F 0 0) p then 1 else 0) q - sumI (fun q => if tn H (F 0 0) q = tn F (F 0 0) p then 1 else 0) q) S2 := by
        intro t0 h0' x hx
        refine e_cell (by show q < 12; omega) (by decide) (e_cell (by show p < 12; omega) (by decide) ?_)
        rw [(ht q hq).2, (ht p hp).1]
        have fin : ∀ t1 : Int32, t1 = (if tn H (F 0 0) q = tn F (F 0 0) p then 1 else 0) → w_X7_haveSameTints_80 k2 (nI p) (nI q) t1 x S2 := by
          intro t1 h1' y hy z hz
          refine hk2 _ _ _ hz ⟨rfl, ?_⟩
          rw [hy, hx, h0', h1', sub_step]; rfl
        by_cases c : tn H (F 0 0) q = tn F (F 0 0) p
        · rw [if_pos c]; exact fin 1 (by rw [if_pos c])
        · rw [if_neg c]; exact fin 0 (by rw [if_neg c])
      by_cases c : tn F (F 0 0) q = tn F (F 0 0) p
      · rw [if_pos c]; exact st 1 (by rw [if_pos c])
      · rw [if_neg c]; exact st 0 (by rw [if_neg c])
    · rintro k2 v S2 ⟨rfl, rfl⟩
      unfold b_X7_haveSameTints_17
      rw [hE.1 0 (by omega), if_pos (nI_le (Nat.le_refl _) (by omega))]
      by_cases c : sumI (fun q => if tn F (F 0 0) q = tn F (F 0 0) p then 1 else 0) (F 0 0) - sumI (fun q => if tn H (F 0 0) q = tn F (F 0 0) p then 1 else 0) (F 0 0) = 0
      · rw [if_pos c]
        intro x hx
        exact hkk _ _ hx rfl
      · rw [if_neg c]
        refine h0 (fun σ hσ => c ?_)
        rw [tint_cnt hF.2.1 hn0 hσ]
        exact Int32.sub_self _
  · rintro kk S' rfl
    unfold b_X7_haveSameTints_2
    rw [hE.1 0 (by omega), if_pos (nI_le (Nat.le_refl _) (by omega))]
    exact h1
