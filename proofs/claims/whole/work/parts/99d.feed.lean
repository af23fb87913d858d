/-! ===== pure: feed ===== -/
def vv8 (i : Nat) : Int32 := (56 : Int32) - 8 * nI i
def by8 (w : Int64) (i : Nat) : Int32 := (((w.toUInt64 >>> ((vv8 i).toInt64.toUInt64 &&& Int64.toUInt64 63)).toInt64).toInt32) &&& (255 : Int32)
def btN (w : Int64) (i : Nat) : Nat := (by8 w i).toNatClampNeg
theorem and255 (x : Int32) : ∃ n, n < 256 ∧ x &&& (255 : Int32) = nI n := by
  refine ⟨x.toUInt32.toNat % 256, Nat.mod_lt _ (by decide), ?_⟩
  have inj : ∀ a b : Int32, a.toUInt32 = b.toUInt32 → a = b := fun a b h => by cases a; cases b; exact congrArg _ h
  apply inj
  apply UInt32.toNat_inj.mp
  have h1 : (x &&& (255 : Int32)).toUInt32.toNat = x.toUInt32.toNat % 256 := by
    rw [Int32.toUInt32_and, UInt32.toNat_and]
    show x.toUInt32.toNat &&& (2 ^ 8 - 1) = _
    rw [Nat.and_two_pow_sub_one_eq_mod]
  rw [h1]
  have h2 : x.toUInt32.toNat % 256 < 256 := Nat.mod_lt _ (by decide)
  unfold nI
  generalize x.toUInt32.toNat % 256 = y at h2
  revert h2; revert y
  decide +kernel
theorem by8_nI (w : Int64) (i : Nat) : by8 w i = nI (btN w i) ∧ btN w i < 256 := by
  obtain ⟨n, h1, h2⟩ := and255 (((w.toUInt64 >>> ((vv8 i).toInt64.toUInt64 &&& Int64.toUInt64 63)).toInt64).toInt32)
  unfold btN by8
  rw [h2, nI_clamp (by omega)]
  exact ⟨rfl, h1⟩
def tpS (p : Nat × (Nat → Nat)) (b : Nat) : Nat × (Nat → Nat) := if (b = 10 ∨ (32 ≤ b ∧ b ≤ 126)) ∧ p.1 < 1000 then (p.1 + 1, fun j => if j = p.1 then b else p.2 j) else p
def tpF (f : Nat → Nat) (p : Nat × (Nat → Nat)) : Nat → Nat × (Nat → Nat)
  | 0 => p
  | i + 1 => tpS (tpF f p i) (f i)
def ET9 (p : Nat × (Nat → Nat)) (S0 S : St) : Prop := p.1 ≤ 1000 ∧ frX [1, 2] S0 S ∧ gI S 1 5 = nI p.1 ∧ ∀ j, j < p.1 → (p.2 j = 10 ∨ (32 ≤ p.2 j ∧ p.2 j ≤ 126)) ∧ gI S 2 j = nI (p.2 j)
theorem nar_nI : ∀ b, b < 256 → vp_nar .char (((nI b).toUInt32 % 65536).toInt32) = nI b := by decide +kernel
theorem e_addSign {p : Nat × (Nat → Nat)} {b : Nat} {S0 S : St} {Q : St → Prop} (hb : b < 256) (h : ET9 p S0 S) (hQ : ∀ S', ET9 (tpS p b) S0 S' → Q S') : w_X10_addSign (nI b) S Q := by
  obtain ⟨h1, h2, h3, h4⟩ := h
  have yes : (b = 10 ∨ (32 ≤ b ∧ b ≤ 126)) → w_X10_addSign_18 (nI b) Q S := by
    intro hs
    unfold w_X10_addSign_18 w_X10_addSign_23
    rw [if_neg (by decide), h3, if_neg (nI_pos (by omega))]
    refine nI_if (x := 1000) (by omega) (by omega) (fun q => ?_) (fun q => ?_)
    · have : tpS p b = p := by unfold tpS; rw [if_neg (by omega)]
      rw [this] at hQ
      exact hQ S ⟨h1, h2, h3, h4⟩
    · refine ⟨vp_in_nI (by omega) (by omega), fun S1 e1 S2 e2 => hQ S2 ?_⟩
      rw [nI_clamp (by omega), nar_nI b hb] at e1
      have g5 : gI S1 1 5 = nI p.1 := by rw [e1, gI_sI, if_neg (by omega)]; exact h3
      rw [g5, nI_1] at e2
      have : tpS p b = (p.1 + 1, fun j => if j = p.1 then b else p.2 j) := by unfold tpS; rw [if_pos ⟨hs, q⟩]
      rw [this]
      refine ⟨by show p.1 + 1 ≤ 1000; omega, ?_, by rw [e2, gI_sI, if_pos ⟨rfl, rfl⟩], fun j hj => ?_⟩
      · rw [e2, e1]; exact frX_sI (frX_sI h2 (by simp)) (by simp)
      · have hj : j < p.1 + 1 := hj
        show ((if j = p.1 then b else p.2 j) = 10 ∨ (32 ≤ (if j = p.1 then b else p.2 j) ∧ (if j = p.1 then b else p.2 j) ≤ 126)) ∧ gI S2 2 j = nI (if j = p.1 then b else p.2 j)
        by_cases e : j = p.1
        · simp only [if_pos e]
          exact ⟨hs, by rw [e2, gI_sI, if_neg (by omega), e1, gI_sI, if_pos ⟨rfl, e⟩]⟩
        · simp only [if_neg e]
          exact ⟨(h4 j (by omega)).1, by rw [e2, gI_sI, if_neg (by omega), e1, gI_sI, if_neg (fun q => e q.2)]; exact (h4 j (by omega)).2⟩
  have no : ¬ (b = 10 ∨ (32 ≤ b ∧ b ≤ 126)) → w_X10_addSign_22 (nI b) Q S := by
    intro hs
    unfold w_X10_addSign_22 w_X10_addSign_23
    rw [if_pos rfl]
    have : tpS p b = p := by unfold tpS; rw [if_neg (fun q => hs q.1)]
    rw [this] at hQ
    exact hQ S ⟨h1, h2, h3, h4⟩
  unfold w_X10_addSign
  refine nI_ifEq (y := 10) (by omega) (by omega) (fun e => yes (by omega)) (fun e => ?_)
  refine nI_ifLt (y := 32) (by omega) (by omega) (fun q => no (by omega)) (fun q => ?_)
  exact nI_ifLt (x := 126) (by omega) (by omega) (fun q => no (by omega)) (fun q => yes (by omega))
theorem vv8_lt : ∀ i, i < 8 → ¬ vv8 i < 0 := by decide +kernel
theorem vv8_st : ∀ i, i < 8 → vv8 i + (-8 : Int32) = vv8 (i + 1) ∧ (vv8 (i + 1) + 8).toNatClampNeg < (vv8 i + 8).toNatClampNeg := by decide +kernel
theorem e_addBytes {p : Nat × (Nat → Nat)} {f : Nat → Nat} {k : Nat} {w : Int64} {S0 S : St} {Q : St → Prop} (hf : ∀ i, i < 8 → f (k + i) = btN w i) (h : ET9 (tpF f p k) S0 S) (hQ : ∀ S', ET9 (tpF f p (k + 8)) S0 S' → Q S') : w_X10_addBytes w S Q := by
  unfold w_X10_addBytes w_X10_addBytes_3
  refine loop1 (fun v S => ∃ i, i ≤ 8 ∧ v = vv8 i ∧ ET9 (tpF f p (k + i)) S0 S) (fun v _ => (v + 8).toNatClampNeg) ?_ _ ⟨0, by omega, rfl, h⟩
  rintro kk x0 S1 ⟨i, h1, rfl, h2⟩ hk
  unfold b_X10_addBytes_3
  by_cases e : i = 8
  · subst e
    rw [if_pos (by decide)]
    exact hQ _ h2
  · have hi : i < 8 := by omega
    rw [if_neg (vv8_lt i hi)]
    obtain ⟨b1, b2⟩ := by8_nI w i
    show w_X10_addSign (by8 w i) S1 _
    rw [b1]
    refine e_addSign b2 h2 (fun S2 h3 x hx => ?_)
    obtain ⟨z1, z2⟩ := vv8_st i hi
    rw [hx, z1]
    refine hk _ _ ⟨i + 1, by omega, rfl, ?_⟩ z2
    rw [← hf i hi] at h3
    exact h3
def MT9 (p : Nat × (Nat → Nat)) (S0 S : St) : Prop := p.1 ≤ 1000 ∧ (∀ b j, b ≠ 1 → ¬ (b = 0 ∧ j = 1) → gI S b j = gI S0 b j) ∧ gI S 0 1 = nI p.1 ∧ ∀ j, j < p.1 → gI S 1 j = nI (p.2 j)
theorem m_feed93 {p : Nat × (Nat → Nat)} {a b c : Int64} {x i : Nat} {S0 S : St} {k : Int32 → St → Prop} (hq : p.1 < 1000) (h : MT9 p S0 S) (hk : ∀ S' y, y = nI i + 1 → MT9 (p.1 + 1, fun j => if j = p.1 then x else p.2 j) S0 S' → k y S') : w_X12_feed_93 a b c k (nI i) (nI x) S := by
  obtain ⟨h1, h2, h3, h4⟩ := h
  unfold w_X12_feed_93
  rw [h3]
  refine ⟨vp_in_nI (by omega) (by omega), fun S1 e1 S2 e2 y hy => hk S2 y hy ?_⟩
  rw [nI_clamp (by omega)] at e1
  have g5 : gI S1 0 1 = nI p.1 := by rw [e1, gI_sI, if_neg (by omega)]; exact h3
  rw [g5, nI_1] at e2
  refine ⟨by show p.1 + 1 ≤ 1000; omega, fun b' j' z1 z2 => ?_, by rw [e2, gI_sI, if_pos ⟨rfl, rfl⟩], fun j hj => ?_⟩
  · rw [e2, gI_sI, if_neg z2, e1, gI_sI, if_neg (fun q => z1 q.1)]; exact h2 b' j' z1 z2
  · have hj : j < p.1 + 1 := hj
    show gI S2 1 j = nI (if j = p.1 then x else p.2 j)
    by_cases e : j = p.1
    · rw [if_pos e, e2, gI_sI, if_neg (by omega), e1, gI_sI, if_pos ⟨rfl, e⟩]
    · rw [if_neg e, e2, gI_sI, if_neg (by omega), e1, gI_sI, if_neg (fun q => e q.2)]; exact h4 j (by omega)
theorem m_feed39 {p : Nat × (Nat → Nat)} {a b c w : Int64} {i : Nat} {S0 S : St} {k : Int32 → St → Prop} (h : MT9 p S0 S) (hi : i < 24) (hk : ∀ S' y, y = nI i + 1 → MT9 (tpS p (btN w (i % 8))) S0 S' → k y S') : w_X12_feed_39 a b c k (nI i) w S := by
  have sh : ∀ i, i < 24 → (56 : Int32) - ((8 : Int32) * (nI i &&& (7 : Int32))) = vv8 (i % 8) := by decide +kernel
  obtain ⟨b1, b2⟩ := by8_nI w (i % 8)
  generalize btN w (i % 8) = x at *
  intro x60 hx
  have : x60 = nI x := by rw [hx, sh i hi, Int64.toInt32_and]; exact b1
  rw [this]
  have q3 := h.2.2.1
  have same : ¬ ((x = 10 ∨ (32 ≤ x ∧ x ≤ 126)) ∧ p.1 < 1000) → ∀ y, y = nI i + 1 → k y S := fun hn y hy => hk S y hy (by unfold tpS; rw [if_neg hn]; exact h)
  have put : ((x = 10 ∨ (32 ≤ x ∧ x ≤ 126)) ∧ p.1 < 1000) → w_X12_feed_93 a b c k (nI i) (nI x) S := fun hp => m_feed93 hp.2 h (fun S' y hy q => hk S' y hy (by unfold tpS; rw [if_pos hp]; exact q))
  rw [q3]
  have := h.1
  refine nI_if (x := 1000) (by omega) (by omega) (fun q => same (by omega)) (fun q => ?_)
  refine nI_ifEq (y := 10) (by omega) (by omega) (fun e => put (by omega)) (fun e => ?_)
  refine nI_ifLt (y := 32) (by omega) (by omega) (fun q => same (by omega)) (fun q => ?_)
  exact nI_ifLt (x := 126) (by omega) (by omega) (fun q => same (by omega)) (fun q => put (by omega))
theorem MF_fr2 {F : Fm} {D : Dr} {pa pb : Nat → Nat} {S S' : St} (hF : FW F) (hD : D 0 0 ≤ 60) (h : ∀ b j, b ≠ 1 → ¬ (b = 0 ∧ j = 1) → gI S' b j = gI S b j) (H : MF F D pa pb S) : MF F D pa pb S' :=
  MF_same hF hD (fun i hi => by
    have key : ∀ i, i < 408 → (vc i).1 ≠ 1 ∧ ¬ ((vc i).1 = 0 ∧ (vc i).2 = 1) := by decide +kernel
    exact h _ _ (key i hi).1 (key i hi).2) H
theorem c_feed {SE SM : St} {a b c : Int64} (h : RR SE SM) : w_X11_feed a b c SE (fun r S1 => w_X12_feed a b c SM (fun r' S2 => r = r' ∧ RR S1 S2)) := by
  have f0 := fr0 SM
  obtain ⟨F, D, pa, pb, L, t, sg, l, mF, mD, ma, mb, ⟨r1, r2, r3, r4, r5, r6, r7, r8, r9⟩, h2, h3, h4, h5⟩ := h
  have HM2 := MF_fr r1 f0 r9
  have h32 : TPr t sg SE (sI SM 0 0 0) := TPr_M (f0 0 1 rfl) (fun j => f0 1 j rfl) h3
  have h42 := MKs_M h4 f0
  have h92 := B9_fr f0 h2
  generalize hg : sI SM 0 0 0 = T0 at *
  obtain ⟨t1, t2, t3, t4⟩ := h32
  have e0 : ET9 (t, sg) SE SE := ⟨t1, frX_refl _ _, t2, fun j hj => ⟨(t4 j hj).1, (t4 j hj).2.1⟩⟩
  have m0 : MT9 (t, sg) T0 T0 := ⟨t1, fun _ _ _ _ => rfl, t3, fun j hj => (t4 j hj).2.2⟩
  generalize hf : (fun i => btN (if i < 8 then a else if i < 16 then b else c) (i % 8)) = f
  have fv : ∀ i, f i = btN (if i < 8 then a else if i < 16 then b else c) (i % 8) := fun i => by rw [← hf]
  unfold w_X11_feed
  refine e_addBytes (f := f) (k := 0) (p := (t, sg)) (fun i hi => by rw [fv, if_pos (by omega), show (0 + i) % 8 = i by omega]) e0 (fun S1 e1 => ?_)
  refine e_addBytes (f := f) (k := 0 + 8) (p := (t, sg)) (fun i hi => by rw [fv, if_neg (by omega), if_pos (by omega), show (0 + 8 + i) % 8 = i by omega]) e1 (fun S2 e2 => ?_)
  refine e_addBytes (f := f) (k := 0 + 8 + 8) (p := (t, sg)) (fun i hi => by rw [fv, if_neg (by omega), if_neg (by omega), show (0 + 8 + 8 + i) % 8 = i by omega]) e2 (fun S3 e3 => ?_)
  intro T1 hT1
  subst hT1
  rw [hg]
  unfold w_X12_feed_8
  refine up1 (B := b_X12_feed_8 a b c _) 24 (by omega) (fun i S' => MT9 (tpF f (t, sg) i) T0 S') ?_ ?_ 0 (by omega) m0
  · rintro kk i S' hi h' hkk
    unfold b_X12_feed_8
    rw [if_neg (show ¬ (24 : Int32) ≤ nI i from nI_ge (b := 24) hi (by omega))]
    have go : ∀ w, w = (if i < 8 then a else if i < 16 then b else c) → w_X12_feed_39 a b c kk (nI i) w S' := fun w hw => m_feed39 h' hi (fun S'' y hy q => hkk S'' y hy (by
      show MT9 (tpS (tpF f (t, sg) i) (f i)) T0 S''
      rw [fv, ← hw]; exact q))
    refine nI_if (x := 8) (by omega) (by omega) (fun q => ?_) (fun q => go _ (by rw [if_pos q]))
    exact nI_if (x := 16) (by omega) (by omega) (fun q2 => go _ (by rw [if_neg (by omega), if_neg (by omega)])) (fun q2 => go _ (by rw [if_neg (by omega), if_pos q2]))
  · rintro kk S' h'
    unfold b_X12_feed_8
    rw [if_pos (by decide)]
    obtain ⟨a1, a2, a3, a4⟩ := e3
    obtain ⟨b1, b2, b3, b4⟩ := h'
    rw [a3, b3]
    refine ⟨rfl, F, D, pa, pb, L, _, _, l, mF, mD, ma, mb, ⟨r1, r2, r3, FE21_fr a2 (by simp) r4, DE_fr a2 (by simp) r5, EZ_fr a2 (by simp) r6, FI_fr a2 (by simp) r7, MI_fr a2 (by simp) r8, MF_fr2 r1 r2.1 b2 HM2⟩, ?_, ⟨a1, a3, b3, fun j hj => ⟨(a4 j hj).1, (a4 j hj).2, b4 j hj⟩⟩, ?_, KW_fr a2 (by simp) h5⟩
    · intro j hj; rw [b2 9 j (by omega) (by omega)]; exact h92 j hj
    · exact MKs_M2 (MKs_E a2 (by simp) h42) (fun j => b2 45 j (by omega) (by omega)) (fun j => b2 46 j (by omega) (by omega))
