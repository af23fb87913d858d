/-! ===== pure: fills, counted and the first one; the reference finds them ===== -/
/-- may an end have a word beside another end's -/
def cp (F : Fm) (L : Nat → Nat) (bars : Bool) (o x e w : Nat) : Bool :=
  !(x == w) && (!(L o == L e) || F 4 x == F 4 w) && (!bars || (!(decide (0 < ahd (F 0 0) (F 1) o e) && (F 7 x).testBit w) && !(decide (0 < ahd (F 0 0) (F 1) e o) && (F 7 w).testBit x)))
def okA (F : Fm) (L : Nat → Nat) (bars : Bool) (acc : List (Nat × Nat)) (e w : Nat) : Bool := acc.all (fun p => cp F L bars p.1 p.2 e w)
def smW (g : Nat → Nat) : Nat → Nat
  | 0 => 0
  | m + 1 => smW g m + g m
def fsW {α : Type} (g : Nat → Option α) : Nat → Option α
  | 0 => none
  | m + 1 => if (fsW g m).isSome then fsW g m else g m
def wys (F : Fm) (L : Nat → Nat) : List Nat → List (Nat × Nat) → Nat
  | [], _ => 1
  | e :: es, acc => smW (fun w => if okA F L true acc e w then wys F L es ((e, w) :: acc) else 0) (F 0 5)
def fst (F : Fm) (L : Nat → Nat) : List Nat → List (Nat × Nat) → Option (List (Nat × Nat))
  | [], acc => some acc
  | e :: es, acc => fsW (fun w => if okA F L true acc e w then fst F L es ((e, w) :: acc) else none) (F 0 5)
/-- the ends of a set of bits, m of them looked at from e on -/
def bl (set : Nat) : Nat → Nat → List Nat
  | 0, _ => []
  | m + 1, e => if set.testBit e then e :: bl set m (e + 1) else bl set m (e + 1)
theorem smW_zero {g : Nat → Nat} : ∀ m, (∀ w, w < m → g w = 0) → smW g m = 0
  | 0, _ => rfl
  | m + 1, h => by unfold smW; rw [smW_zero m (fun w hw => h w (by omega)), h m (by omega)]
theorem smW_pos {g : Nat → Nat} : ∀ m, 0 < smW g m ↔ ∃ w, w < m ∧ 0 < g w
  | 0 => by unfold smW; simp
  | m + 1 => by
    unfold smW
    constructor
    · intro h
      by_cases e : 0 < g m
      · exact ⟨m, by omega, e⟩
      · obtain ⟨w, hw, h2⟩ := (smW_pos (g := g) m).mp (by omega)
        exact ⟨w, by omega, h2⟩
    · rintro ⟨w, hw, h2⟩
      by_cases e : w = m
      · subst e; omega
      · have := (smW_pos m).mpr ⟨w, by omega, h2⟩
        omega
theorem smW_le {g : Nat → Nat} {b : Nat} : ∀ m, (∀ w, w < m → g w ≤ b) → smW g m ≤ m * b
  | 0, _ => by simp [smW]
  | m + 1, h => by
    have h1 := smW_le m (fun w hw => h w (by omega))
    have h2 := h m (by omega)
    unfold smW
    rw [Nat.succ_mul]; omega
theorem smW_congr {g h : Nat → Nat} : ∀ m, (∀ w, w < m → g w = h w) → smW g m = smW h m
  | 0, _ => rfl
  | m + 1, e => by unfold smW; rw [smW_congr m (fun w hw => e w (by omega)), e m (by omega)]
theorem fsW_none {α : Type} {g : Nat → Option α} : ∀ m, (∀ w, w < m → g w = none) → fsW g m = none
  | 0, _ => rfl
  | m + 1, h => by unfold fsW; rw [fsW_none m (fun w hw => h w (by omega)), h m (by omega)]; rfl
theorem fsW_some {α : Type} {g : Nat → Option α} : ∀ m, (fsW g m).isSome = true ↔ ∃ w, w < m ∧ (g w).isSome = true
  | 0 => by unfold fsW; simp
  | m + 1 => by
    unfold fsW
    by_cases c : (fsW g m).isSome = true
    · rw [if_pos c]
      obtain ⟨w, hw, h⟩ := (fsW_some m).mp c
      exact ⟨fun _ => ⟨w, by omega, h⟩, fun _ => c⟩
    · rw [if_neg c]
      constructor
      · intro h; exact ⟨m, by omega, h⟩
      · rintro ⟨w, hw, h⟩
        by_cases e : w = m
        · subst e; exact h
        · exact absurd ((fsW_some m).mpr ⟨w, by omega, h⟩) c
/-- the first that gives some -/
theorem fsW_eq {α : Type} {g : Nat → Option α} {w : Nat} {x : α} (hx : g w = some x) (hb : ∀ v, v < w → g v = none) : ∀ m, w < m → fsW g m = some x
  | 0, h => absurd h (Nat.not_lt_zero _)
  | m + 1, h => by
    unfold fsW
    by_cases e : w = m
    · subst e; rw [fsW_none w hb]; exact hx
    · rw [fsW_eq hx hb m (by omega)]; rfl
theorem wys_fst (F : Fm) (L : Nat → Nat) : ∀ es acc, 0 < wys F L es acc ↔ (fst F L es acc).isSome = true
  | [], acc => by simp [wys, fst]
  | e :: es, acc => by
    unfold wys fst
    rw [smW_pos, fsW_some]
    constructor
    · rintro ⟨w, hw, h⟩
      refine ⟨w, hw, ?_⟩
      by_cases c : okA F L true acc e w = true
      · rw [if_pos c] at h ⊢; exact (wys_fst F L es _).mp h
      · rw [if_neg c] at h; omega
    · rintro ⟨w, hw, h⟩
      refine ⟨w, hw, ?_⟩
      by_cases c : okA F L true acc e w = true
      · rw [if_pos c] at h ⊢; exact (wys_fst F L es _).mpr h
      · rw [if_neg c] at h; cases h
theorem wys_le (F : Fm) (L : Nat → Nat) (hw : F 0 5 ≤ 12) : ∀ es acc, wys F L es acc ≤ 12 ^ es.length
  | [], acc => by simp [wys]
  | e :: es, acc => by
    unfold wys
    refine Nat.le_trans (smW_le (b := 12 ^ es.length) _ (fun w _ => ?_)) ?_
    · split
      · exact wys_le F L hw es _
      · exact Nat.zero_le _
    · rw [List.length_cons, Nat.pow_succ, Nat.mul_comm (12 ^ es.length) 12]
      exact Nat.mul_le_mul_right _ hw
theorem wys_zero (F : Fm) (L : Nat → Nat) {e' : Nat} : ∀ es acc, e' ∈ es → (∀ w, w < F 0 5 → okA F L true acc e' w = false) → wys F L es acc = 0
  | [], acc, h, _ => by cases h
  | e :: es, acc, h, hn => by
    unfold wys
    refine smW_zero _ (fun w hw => ?_)
    by_cases c : e' = e
    · subst c; rw [hn w hw]; rfl
    · split
      · refine wys_zero F L es _ (by cases h with | head => exact absurd rfl c | tail _ h => exact h) (fun v hv => ?_)
        have := hn v hv
        unfold okA at this ⊢
        rw [List.all_cons, this, Bool.and_false]
      · rfl
theorem bl_mem {set : Nat} : ∀ {m e x : Nat}, x ∈ bl set m e ↔ e ≤ x ∧ x < e + m ∧ set.testBit x = true
  | 0, e, x => by unfold bl; simp; omega
  | m + 1, e, x => by
    unfold bl
    by_cases c : set.testBit e = true
    · rw [if_pos c, List.mem_cons, bl_mem]
      constructor
      · rintro (rfl | ⟨h1, h2, h3⟩)
        · exact ⟨Nat.le_refl _, by omega, c⟩
        · exact ⟨by omega, by omega, h3⟩
      · rintro ⟨h1, h2, h3⟩
        by_cases q : x = e
        · exact Or.inl q
        · exact Or.inr ⟨by omega, by omega, h3⟩
    · rw [if_neg c, bl_mem]
      constructor
      · rintro ⟨h1, h2, h3⟩
        exact ⟨by omega, by omega, h3⟩
      · rintro ⟨h1, h2, h3⟩
        have : x ≠ e := fun q => c (by rw [← q]; exact h3)
        exact ⟨by omega, by omega, h3⟩
theorem bl_len (set : Nat) : ∀ m e, (bl set m e).length ≤ m
  | 0, e => by simp [bl]
  | m + 1, e => by
    have := bl_len set m (e + 1)
    unfold bl; split
    · rw [List.length_cons]; omega
    · omega
/-- what the reference's search rests on -/
def MG (F : Fm) (L : Nat → Nat) (bars : Bool) (S : St) : Prop :=
  gI S 0 10 = nI (F 0 0) ∧ gI S 0 15 = nI (F 0 5) ∧ (∀ w, w < F 0 5 → gI S 6 w = nI (F 4 w)) ∧ (∀ e, e < F 0 0 → gI S 37 e = nI (L e)) ∧
  (bars = true → (∀ a b, a < F 0 0 → b < F 0 0 → gI S 38 (12 * a + b) = if 0 < ahd (F 0 0) (F 1) a b then 1 else 0) ∧ ∀ a b, a < F 0 5 → b < F 0 5 → gI S 9 (12 * a + b) = if (F 7 a).testBit b then 1 else 0)
def frG (S S' : St) : Prop := ∀ b j, b ≠ 39 → b ≠ 40 → ¬ (b = 0 ∧ j = 64) → gI S' b j = gI S b j
theorem frG_refl (S : St) : frG S S := fun _ _ _ _ _ => rfl
theorem frG_trans {S T U : St} (h : frG S T) (k : frG T U) : frG S U := fun b j a c d => (k b j a c d).trans (h b j a c d)
theorem frG_M {S S' : St} (h : frG S S') : frM S S' := fun b j hb => h b j (fun e => by rw [e] at hb; simp [kM] at hb) (fun e => by rw [e] at hb; simp [kM] at hb) (fun e => by rw [e.1, e.2] at hb; simp [kM] at hb)
theorem MG_fr {F : Fm} {L : Nat → Nat} {bars : Bool} {S S' : St} (hf : frG S S') (H : MG F L bars S) : MG F L bars S' := by
  obtain ⟨h1, h2, h3, h4, h5⟩ := H
  refine ⟨?_, ?_, fun w hw => ?_, fun e he => ?_, fun hb => ⟨fun a b ha hb2 => ?_, fun a b ha hb2 => ?_⟩⟩
  · rw [hf 0 10 (by decide) (by decide) (by decide)]; exact h1
  · rw [hf 0 15 (by decide) (by decide) (by decide)]; exact h2
  · rw [hf 6 w (by decide) (by decide) (by simp)]; exact h3 w hw
  · rw [hf 37 e (by decide) (by decide) (by simp)]; exact h4 e he
  · rw [hf 38 _ (by decide) (by decide) (by simp)]; exact (h5 hb).1 a b ha hb2
  · rw [hf 9 _ (by decide) (by decide) (by simp)]; exact (h5 hb).2 a b ha hb2
/-- the ends of a set below e are given the words of acc -/
def MA (F : Fm) (set e : Nat) (acc : List (Nat × Nat)) (S : St) : Prop :=
  (∀ p, p ∈ acc → p.1 < e ∧ set.testBit p.1 = true ∧ p.2 < F 0 5 ∧ gI S 39 p.1 = nI p.2) ∧ ∀ o, o < e → set.testBit o = true → ∃ x, (o, x) ∈ acc
theorem m_goes {F : Fm} {L : Nat → Nat} {bars : Bool} {set e w : Nat} {acc : List (Nat × Nat)} {S : St} {Q : Int32 → St → Prop} (hF : FW F) (hL : ∀ e, e < F 0 0 → L e < F 0 0) (hG : MG F L bars S) (hA : MA F set e acc S) (hset : set < 2 ^ 31) (he : e < F 0 0) (hw : w < F 0 5) (hQ : Q (if okA F L bars acc e w then 1 else 0) S) : w_X12_goes (nI e) (nI w) (nI set) (if bars then 1 else 0) S Q := by
  have hn := hF.1.2.1
  have hww := hF.1.2.2.2.2.2.2.1
  obtain ⟨g10, g15, g6, g37, gb⟩ := hG
  refine up1 (B := b_X12_goes_3 (nI e) (nI w) (nI set) (if bars then 1 else 0) Q) e (by omega) (fun o S' => S' = S ∧ ∀ p, p ∈ acc → p.1 < o → cp F L bars p.1 p.2 e w = true) ?_ ?_ 0 (by omega) ⟨rfl, fun p _ h => absurd h (Nat.not_lt_zero _)⟩
  · rintro kk o S' ho ⟨rfl, hall⟩ hkk
    unfold b_X12_goes_3
    rw [if_neg (nI_ge ho (by omega))]
    refine bN_if hset (by omega) (fun c => ?_) (fun c => ?_)
    · intro x hx
      refine hkk _ _ hx ⟨rfl, fun p hp hpo => hall p hp ?_⟩
      have : p.1 ≠ o := fun q => by have := (hA.1 p hp).2.1; rw [q, c] at this; cases this
      omega
    obtain ⟨x, hx⟩ := hA.2 o ho c
    obtain ⟨x1, x2, x3, x4⟩ := hA.1 _ hx
    have hvo : vp_in (nI o) 12 := vp_in_nI (by omega) (by omega)
    have hve : vp_in (nI e) 12 := vp_in_nI (by omega) (by omega)
    have hon : o < F 0 0 := by omega
    -- what is wrong here is wrong for all
    have bad : cp F L bars o x e w = false → Q 0 S' := by
      intro h
      have : okA F L bars acc e w = false := by
        unfold okA
        refine Bool.eq_false_iff.mpr (fun q => ?_)
        have := List.all_eq_true.mp q _ hx
        rw [h] at this; cases this
      rw [this] at hQ; exact hQ
    have good : cp F L bars o x e w = true → ∀ y, y = nI o + 1 → kk y S' := by
      intro h y hy
      refine hkk _ _ hy ⟨rfl, fun p hp hpo => ?_⟩
      by_cases q : p.1 = o
      · have hp2 := hA.1 p hp
        have : p.2 = x := by
          rw [q, x4] at hp2
          exact (nI_inj (by omega) (by omega) hp2.2.2.2).symm
        rw [q, this]; exact h
      · exact hall p hp (by omega)
    refine ⟨hvo, ?_⟩
    rw [nI_clamp (by omega), x4]
    refine nI_ifEq (by omega) (by omega) (fun q => bad ?_) (fun q => ?_)
    · simp [cp, show x = w from q]
    refine ⟨hvo, hve, ?_⟩
    have l1 := hL o hon
    have l2 := hL e he
    rw [nI_clamp (by omega), g37 o hon, g37 e he]
    -- the bars
    have rest : (!(L o == L e) || F 4 x == F 4 w) = true → w_X12_goes_71 (nI e) (nI w) (nI set) (if bars then 1 else 0) Q kk (nI o) S' := by
      intro hr
      unfold w_X12_goes_71
      cases bars with
      | false =>
        rw [if_pos (by decide)]
        exact good (by simp only [cp, hr]; simp [q])
      | true =>
        obtain ⟨g38, g9⟩ := gb rfl
        rw [if_neg (by decide)]
        have i1 : (12 : Int32) * nI o + nI e = nI (12 * o + e) := by rw [← nI_add, ← pk_mul]; rfl
        have i2 : (12 : Int32) * nI e + nI o = nI (12 * e + o) := by rw [← nI_add, ← pk_mul]; rfl
        have i3 : (12 : Int32) * nI x + nI w = nI (12 * x + w) := by rw [← nI_add, ← pk_mul]; rfl
        have i4 : (12 : Int32) * nI w + nI x = nI (12 * w + x) := by rw [← nI_add, ← pk_mul]; rfl
        have rest2 : (decide (0 < ahd (F 0 0) (F 1) o e) && (F 7 x).testBit w) = false → w_X12_goes_111 (nI e) (nI w) (nI set) 1 Q kk (nI o) S' := by
          intro hr2
          unfold w_X12_goes_111
          rw [i2, nI_clamp (by omega), g38 e o he hon]
          refine ⟨vp_in_nI (by omega) (by omega), ?_⟩
          by_cases c2 : 0 < ahd (F 0 0) (F 1) e o
          · rw [if_pos c2, if_neg (by decide), nI_clamp (by omega), x4, i4, nI_clamp (by omega), g9 w x hw x3]
            refine ⟨hvo, vp_in_nI (by omega) (by omega), ?_⟩
            by_cases c3 : (F 7 w).testBit x = true
            · rw [if_pos c3, if_neg (by decide)]
              exact bad (by simp [cp, c2, c3])
            · rw [if_neg c3, if_pos rfl]
              exact good (by simp only [cp, hr, hr2]; simp [q, c3])
          · rw [if_neg c2, if_pos rfl]
            exact good (by simp only [cp, hr, hr2]; simp [q, c2])
        rw [i1, nI_clamp (by omega), g38 o e hon he]
        refine ⟨vp_in_nI (by omega) (by omega), ?_⟩
        by_cases c1 : 0 < ahd (F 0 0) (F 1) o e
        · rw [if_pos c1, if_neg (by decide), nI_clamp (by omega), x4, i3, nI_clamp (by omega), g9 x w x3 hw]
          refine ⟨hvo, vp_in_nI (by omega) (by omega), ?_⟩
          by_cases c3 : (F 7 x).testBit w = true
          · rw [if_pos c3, if_neg (by decide)]
            exact bad (by simp [cp, c1, c3])
          · rw [if_neg c3, if_pos rfl]
            exact rest2 (by simp [c3])
        · rw [if_neg c1, if_pos rfl]
          exact rest2 (by simp [c1])
    refine nI_ifEq (by omega) (by omega) (fun c1 => ?_) (fun c1 => rest (by simp [c1]))
    refine ⟨hvo, vp_in_nI (by omega) (by omega), vp_in_nI (by omega) (by omega), ?_⟩
    rw [nI_clamp (by omega), nI_clamp (by omega), g6 _ x3, g6 w hw]
    have r1 := (hF.2.2.2 x x3).1
    have r2 := (hF.2.2.2 w hw).1
    exact nI_ifEq (x := F 4 x) (by omega) (by omega) (fun c2 => rest (by simp [c2])) (fun c2 => bad (by simp [cp, c1, c2]))
  · rintro kk S' ⟨rfl, hall⟩
    unfold b_X12_goes_3
    rw [if_pos (nI_le (Nat.le_refl _) (by omega))]
    have : okA F L bars acc e w = true := by
      unfold okA
      exact List.all_eq_true.mpr (fun p hp => hall p hp (hA.1 p hp).1)
    rw [this] at hQ; exact hQ
/-- what a search leaves in the row of the first fill -/
def frF (o : Option (List (Nat × Nat))) (S S' : St) : Prop :=
  (gI S 0 64 = 0 → gI S' 0 64 = 0 ∧ ∀ j, gI S' 40 j = gI S 40 j) ∧
  (gI S 0 64 = 1 → (o = none → gI S' 0 64 = 1) ∧ ∀ A, o = some A → gI S' 0 64 = 0 ∧ ∀ p, p ∈ A → gI S' 40 p.1 = nI p.2)
theorem m_gives {F : Fm} {L : Nat → Nat} {any : Bool} {set : Nat} (hF : FW F) (hL : ∀ e, e < F 0 0 → L e < F 0 0) (hset : set < 2 ^ 31) :
    ∀ (m e d : Nat) (acc : List (Nat × Nat)) (S : St) (Q : Int64 → St → Prop), e + m = F 0 0 → m < d → MG F L true S → MA F set e acc S → (gI S 0 64 = 0 ∨ gI S 0 64 = 1) →
      (∀ S', frG S S' → (∀ o, o < e → gI S' 39 o = gI S 39 o) → frF (fst F L (bl set m e) acc) S S' → Q (if any then (if 0 < wys F L (bl set m e) acc then 1 else 0) else lN (wys F L (bl set m e) acc)) S') →
      w_X12_gives d (nI e) (nI set) (if any then 1 else 0) S Q := by
  have hn := hF.1.2.1
  have hww := hF.1.2.2.2.2.2.2.1
  intro m
  induction m with
  | zero =>
    intro e d acc S Q hem hd hG hA h64 hQ
    obtain ⟨d, rfl⟩ : ∃ d', d = d' + 1 := ⟨d - 1, by omega⟩
    show u_X12_gives (w_X12_gives d) _ _ _ S Q
    unfold u_X12_gives
    rw [hG.1, if_pos (by rw [show e = F 0 0 by omega])]
    have hQ2 : ∀ S', frG S S' → (∀ o, o < e → gI S' 39 o = gI S 39 o) → frF (some acc) S S' → Q 1 S' := by
      intro S' a b c
      have := hQ S' a b c
      cases any with
      | true => simpa [bl, wys] using this
      | false => exact this
    refine loop1 (B := b_X12_gives_11 Q) (fun v S' => ∃ k, k ≤ 12 ∧ v = nI k ∧ frG S S' ∧ (∀ o, gI S' 39 o = gI S 39 o) ∧ gI S' 0 64 = gI S 0 64 ∧ (gI S 0 64 = 0 → ∀ j, gI S' 40 j = gI S 40 j) ∧ ∀ j, j < k → gI S' 40 j = gI S 39 j) (fun v _ => 12 - v.toNatClampNeg) ?_ _ ⟨0, by omega, rfl, frG_refl _, fun _ => rfl, rfl, fun _ _ => rfl, fun j hj => absurd hj (Nat.not_lt_zero _)⟩
    rintro kk x0 S' ⟨k, hk, rfl, hf, h39, hfl, hz, hr⟩ hkk
    unfold b_X12_gives_11
    have fin : (gI S 0 64 = 1 → ∀ p, p ∈ acc → gI S' 40 p.1 = nI p.2) → ∀ S2, S2 = sI S' 0 64 0 → Q 1 S2 := by
      intro h1 S2 hS2
      subst hS2
      refine hQ2 _ (fun b j h1 h2 h3 => by rw [gI_sI, if_neg h3]; exact hf b j h1 h2 h3) (fun o _ => by rw [gI_sI, if_neg (by omega)]; exact h39 o) ⟨fun h => ⟨by rw [gI_sI, if_pos ⟨rfl, rfl⟩], fun j => by rw [gI_sI, if_neg (by omega)]; exact hz h j⟩, fun h => ⟨fun q => (by cases q), fun A hA2 => ⟨by rw [gI_sI, if_pos ⟨rfl, rfl⟩], fun p hp => ?_⟩⟩⟩
      rw [gI_sI, if_neg (by omega)]
      cases hA2
      exact h1 h p hp
    by_cases e1 : 12 ≤ k
    · rw [if_pos (show (12 : Int32) ≤ nI k from nI_le (a := 12) e1 (by omega))]
      refine fin (fun _ p hp => ?_)
      obtain ⟨p1, p2, p3, p4⟩ := hA.1 p hp
      rw [hr p.1 (by omega)]; exact p4
    · rw [if_neg (show ¬ (12 : Int32) ≤ nI k from nI_ge (b := 12) (by omega) (by omega)), hfl]
      rcases h64 with h0 | h0
      · rw [if_pos h0]
        exact fin (fun h => by rw [h0] at h; cases h)
      · rw [if_neg (by rw [h0]; decide)]
        have hv : vp_in (nI k) 12 := vp_in_nI (by omega) (by omega)
        refine ⟨hv, hv, fun S2 hS2 x hx => ?_⟩
        rw [nI_clamp (by omega)] at hS2
        have hx2 : x = nI (k + 1) := hx.trans (nI_1 k)
        subst hS2; subst hx2
        refine hkk _ _ ⟨k + 1, by omega, rfl, fun b j h1 h2 h3 => ?_, fun o => ?_, ?_, fun h => ?_, fun j hj => ?_⟩ ?_
        · rw [gI_sI, if_neg (fun q => h2 q.1)]; exact hf b j h1 h2 h3
        · rw [gI_sI, if_neg (by omega)]; exact h39 o
        · rw [gI_sI, if_neg (by omega)]; exact hfl
        · rw [h0] at h; cases h
        · rw [gI_sI]
          by_cases c : j = k
          · subst c; rw [if_pos ⟨rfl, rfl⟩]; exact h39 j
          · rw [if_neg (fun q => c q.2)]; exact hr j (by omega)
        · show 12 - (nI (k + 1)).toNatClampNeg < 12 - (nI k).toNatClampNeg
          rw [nI_clamp (by omega), nI_clamp (by omega)]
          omega
  | succ m ih =>
    intro e d acc S Q hem hd hG hA h64 hQ
    obtain ⟨d, rfl⟩ : ∃ d', d = d' + 1 := ⟨d - 1, by omega⟩
    have he : e < F 0 0 := by omega
    show u_X12_gives (w_X12_gives d) _ _ _ S Q
    unfold u_X12_gives
    rw [hG.1, if_neg (fun q => by have := nI_inj (by omega) (by omega) q; omega)]
    refine bN_if hset (by omega) (fun c => ?_) (fun c => ?_)
    · rw [nI_1]
      have hbl : bl set (m + 1) e = bl set m (e + 1) := by show (if _ then _ else _) = _; rw [if_neg (by rw [c]; decide)]
      rw [hbl] at hQ
      refine ih (e + 1) d acc S _ (by omega) (by omega) hG ⟨fun p hp => ?_, fun o ho hs => ?_⟩ h64 (fun S' h1 h2 h3 => hQ S' h1 (fun o ho => h2 o (by omega)) h3)
      · obtain ⟨p1, p2⟩ := hA.1 p hp
        exact ⟨by omega, p2⟩
      · have : o ≠ e := fun q => by rw [q, c] at hs; cases hs
        exact hA.2 o (by omega) hs
    · have hbl : bl set (m + 1) e = e :: bl set m (e + 1) := by show (if _ then _ else _) = _; rw [if_pos c]
      rw [hbl] at hQ
      have hwy : wys F L (e :: bl set m (e + 1)) acc = smW (fun w => if okA F L true acc e w then wys F L (bl set m (e + 1)) ((e, w) :: acc) else 0) (F 0 5) := rfl
      have hfs : fst F L (e :: bl set m (e + 1)) acc = fsW (fun w => if okA F L true acc e w then fst F L (bl set m (e + 1)) ((e, w) :: acc) else none) (F 0 5) := rfl
      -- behind the first w words
      refine up2 (B := b_X12_gives_76 (nI e) (nI set) (if any then 1 else 0) (w_X12_gives d) Q) (F 0 5) (by omega) (fun w v S' => frG S S' ∧ (∀ o, o < e → gI S' 39 o = gI S 39 o) ∧ (gI S' 0 64 = 0 ∨ gI S' 0 64 = 1) ∧ frF (fsW (fun w => if okA F L true acc e w then fst F L (bl set m (e + 1)) ((e, w) :: acc) else none) w) S S' ∧ v = lN (smW (fun w => if okA F L true acc e w then wys F L (bl set m (e + 1)) ((e, w) :: acc) else 0) w) ∧ (any = true → smW (fun w => if okA F L true acc e w then wys F L (bl set m (e + 1)) ((e, w) :: acc) else 0) w = 0)) ?_ ?_ 0 _ (by omega) ⟨frG_refl _, fun _ _ => rfl, h64, ⟨fun h => ⟨h, fun _ => rfl⟩, fun h => ⟨fun _ => h, fun A q => by cases q⟩⟩, rfl, fun _ => rfl⟩
      · rintro kk w v S' hw ⟨hf, h39, h64', hfF, rfl, hany⟩ hkk
        unfold b_X12_gives_76
        have hG' := MG_fr hf hG
        rw [hG'.2.1, if_neg (nI_ge hw (by omega))]
        have hA' : MA F set e acc S' := ⟨fun p hp => by
          obtain ⟨p1, p2, p3, p4⟩ := hA.1 p hp
          exact ⟨p1, p2, p3, by rw [h39 _ p1]; exact p4⟩, hA.2⟩
        refine m_goes (bars := true) hF hL hG' hA' hset he hw ?_
        by_cases cok : okA F L true acc e w = true
        · rw [if_pos cok, if_neg (by decide)]
          refine ⟨vp_in_nI (by omega) (by omega), fun S2 hS2 => ?_⟩
          rw [nI_clamp (by omega)] at hS2
          have hf2 : frG S S2 := by
            subst hS2; intro b j h1 h2 h3; rw [gI_sI, if_neg (fun q => h1 q.1)]; exact hf b j h1 h2 h3
          have h64b : gI S2 0 64 = gI S' 0 64 := by subst hS2; rw [gI_sI, if_neg (by omega)]
          have h40b : ∀ j, gI S2 40 j = gI S' 40 j := by subst hS2; intro j; rw [gI_sI, if_neg (by omega)]
          have h39b : ∀ o, o < e → gI S2 39 o = gI S 39 o := by
            subst hS2; intro o ho; rw [gI_sI, if_neg (by omega)]; exact h39 o ho
          have h39e : gI S2 39 e = nI w := by subst hS2; rw [gI_sI, if_pos ⟨rfl, rfl⟩]
          rw [nI_1]
          refine ih (e + 1) d ((e, w) :: acc) S2 _ (by omega) (by omega) (MG_fr hf2 hG) ⟨fun p hp => ?_, fun o ho hs => ?_⟩ (by rw [h64b]; exact h64') ?_
          · rcases List.mem_cons.mp hp with rfl | hp
            · exact ⟨by show e < e + 1; omega, c, hw, h39e⟩
            · obtain ⟨p1, p2, p3, p4⟩ := hA.1 p hp
              exact ⟨by omega, p2, p3, by rw [h39b _ p1]; exact p4⟩
          · by_cases q : o = e
            · subst q; exact ⟨w, List.mem_cons_self ..⟩
            · obtain ⟨x, hx⟩ := hA.2 o (by omega) hs
              exact ⟨x, List.mem_cons_of_mem _ hx⟩
          · intro S3 k1 k2 k3
            have hf3 : frG S S3 := frG_trans hf2 k1
            have h39c : ∀ o, o < e → gI S3 39 o = gI S 39 o := fun o ho => by rw [k2 o (by omega)]; exact h39b o ho
            have hsm : smW (fun w => if okA F L true acc e w then wys F L (bl set m (e + 1)) ((e, w) :: acc) else 0) (w + 1) = smW (fun w => if okA F L true acc e w then wys F L (bl set m (e + 1)) ((e, w) :: acc) else 0) w + wys F L (bl set m (e + 1)) ((e, w) :: acc) := by
              show _ + (if _ then _ else _) = _
              rw [if_pos cok]
            -- the row of the first fill
            have hF3 : frF (fsW (fun w => if okA F L true acc e w then fst F L (bl set m (e + 1)) ((e, w) :: acc) else none) (w + 1)) S S3 := by
              have hfs1 : fsW (fun w => if okA F L true acc e w then fst F L (bl set m (e + 1)) ((e, w) :: acc) else none) (w + 1) = if (fsW (fun w => if okA F L true acc e w then fst F L (bl set m (e + 1)) ((e, w) :: acc) else none) w).isSome then fsW (fun w => if okA F L true acc e w then fst F L (bl set m (e + 1)) ((e, w) :: acc) else none) w else fst F L (bl set m (e + 1)) ((e, w) :: acc) := by
                show (if _ then _ else (if _ then _ else _)) = _
                rw [if_pos cok]
              rw [hfs1]
              refine ⟨fun h => ?_, fun h => ?_⟩
              · obtain ⟨a1, a2⟩ := hfF.1 h
                obtain ⟨b1, b2⟩ := k3.1 (by rw [h64b]; exact a1)
                exact ⟨b1, fun j => by rw [b2 j, h40b j, a2 j]⟩
              · obtain ⟨a1, a2⟩ := hfF.2 h
                cases hq : fsW (fun w => if okA F L true acc e w then fst F L (bl set m (e + 1)) ((e, w) :: acc) else none) w with
                | none =>
                  obtain ⟨b1, b2⟩ := k3.2 (by rw [h64b]; exact a1 hq)
                  refine ⟨fun q => b1 (by simpa using q), fun A q => b2 A (by simpa using q)⟩
                | some A0 =>
                  obtain ⟨c1, c2⟩ := a2 A0 hq
                  obtain ⟨b1, b2⟩ := k3.1 (by rw [h64b]; exact c1)
                  refine ⟨fun q => by simp at q, fun A q => ?_⟩
                  have : A0 = A := by simpa using q
                  subst this
                  exact ⟨b1, fun p hp => by rw [b2, h40b]; exact c2 p hp⟩
            have h64c : gI S3 0 64 = 0 ∨ gI S3 0 64 = 1 := by
              rcases h64' with h | h
              · exact Or.inl (k3.1 (by rw [h64b]; exact h)).1
              · obtain ⟨b1, b2⟩ := k3.2 (by rw [h64b]; exact h)
                cases hq : fst F L (bl set m (e + 1)) ((e, w) :: acc) with
                | none => exact Or.inr (b1 hq)
                | some A => exact Or.inl (b2 A hq).1
            cases any with
            | false =>
              intro x hx
              rw [if_pos (by decide)]
              intro y hy
              rw [if_neg (by decide), lN_add] at hx
              refine hkk _ _ _ hy ⟨hf3, h39c, h64c, hF3, ?_, fun q => by cases q⟩
              rw [hx, hsm]
            | true =>
              intro x hx
              rw [hany rfl] at hx
              rw [if_neg (by decide)]
              by_cases cw : 0 < wys F L (bl set m (e + 1)) ((e, w) :: acc)
              · rw [if_pos rfl, if_pos cw] at hx
                have hx1 : x = 1 := hx
                subst hx1
                rw [if_pos (by decide)]
                have hpos : 0 < wys F L (e :: bl set m (e + 1)) acc := by
                  rw [hwy, smW_pos]
                  exact ⟨w, hw, by rw [if_pos cok]; exact cw⟩
                have hlast : fst F L (e :: bl set m (e + 1)) acc = fsW (fun w => if okA F L true acc e w then fst F L (bl set m (e + 1)) ((e, w) :: acc) else none) (w + 1) := by
                  rw [hfs]
                  obtain ⟨A, hAe⟩ := Option.isSome_iff_exists.mp ((wys_fst F L _ _).mp cw)
                  have hb : ∀ v, v < w → (fun w => if okA F L true acc e w then fst F L (bl set m (e + 1)) ((e, w) :: acc) else none) v = none := by
                    intro v hv
                    show (if _ then _ else _) = none
                    by_cases cv : okA F L true acc e v = true
                    · rw [if_pos cv]
                      cases hq : fst F L (bl set m (e + 1)) ((e, v) :: acc) with
                      | none => rfl
                      | some A =>
                        have h1 := (wys_fst F L (bl set m (e + 1)) ((e, v) :: acc)).mpr (by rw [hq]; rfl)
                        have h2 := (smW_pos (g := fun w => if okA F L true acc e w then wys F L (bl set m (e + 1)) ((e, w) :: acc) else 0) w).mpr ⟨v, hv, by rw [if_pos cv]; exact h1⟩
                        rw [hany rfl] at h2
                        omega
                    · rw [if_neg cv]
                  rw [fsW_eq (w := w) (x := A) (by show (if _ then _ else _) = _; rw [if_pos cok]; exact hAe) hb _ hw, fsW_eq (w := w) (x := A) (by show (if _ then _ else _) = _; rw [if_pos cok]; exact hAe) hb _ (Nat.lt_succ_self w)]
                have := hQ S3 hf3 h39c (by rw [hlast]; exact hF3)
                rw [if_pos rfl, if_pos hpos] at this
                exact this
              · rw [if_pos rfl, if_neg cw] at hx
                have hx1 : x = 0 := hx
                subst hx1
                rw [if_neg (by decide)]
                intro y hy
                refine hkk _ _ _ hy ⟨hf3, h39c, h64c, hF3, ?_, fun _ => ?_⟩
                · rw [hsm, hany rfl]
                  rw [show wys F L (bl set m (e + 1)) ((e, w) :: acc) = 0 by omega]
                  rfl
                · rw [hsm, hany rfl]; omega
        · rw [if_neg cok, if_pos rfl]
          intro y hy
          have c2 : okA F L true acc e w = false := by simpa using cok
          refine hkk _ _ _ hy ⟨hf, h39, h64', ?_, ?_, fun q => ?_⟩
          · have : fsW (fun w => if okA F L true acc e w then fst F L (bl set m (e + 1)) ((e, w) :: acc) else none) (w + 1) = fsW (fun w => if okA F L true acc e w then fst F L (bl set m (e + 1)) ((e, w) :: acc) else none) w := by
              show (if _ then _ else (if _ then _ else _)) = _
              rw [if_neg cok]
              split
              · rfl
              · rename_i h
                cases hq : fsW (fun w => if okA F L true acc e w then fst F L (bl set m (e + 1)) ((e, w) :: acc) else none) w with
                | none => rfl
                | some A => rw [hq] at h; exact absurd rfl h
            rw [this]; exact hfF
          · show lN _ = lN (_ + (if _ then _ else _))
            rw [if_neg cok]; rfl
          · show _ + (if _ then _ else _) = 0
            rw [if_neg cok, hany q]
      · rintro kk v S' ⟨hf, h39, h64', hfF, rfl, hany⟩
        unfold b_X12_gives_76
        have hG' := MG_fr hf hG
        rw [hG'.2.1, if_pos (nI_le (Nat.le_refl _) (by omega))]
        have := hQ S' hf h39 (by rw [hfs]; exact hfF)
        cases any with
        | false => exact this
        | true =>
          rw [if_pos rfl, hwy, hany rfl, if_neg (by omega)] at this
          rw [hany rfl]
          exact this
