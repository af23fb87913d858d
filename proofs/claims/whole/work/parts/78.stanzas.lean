/-! ===== pure: the form as both hold it; the class's stanzas ===== -/
/-- a form's values: 0: ends, steps, rhyme lines, whole lines, feet, words, bars; 1: from; 2: whom a place rhymes with, as bits; 3: every; 4, 5, 6: a word's rhyme, beats, kind; 7: whom a word must not stand ahead of, as bits -/
abbrev Fm : Type := Nat → Nat → Nat
def FE (o : Nat) (F : Fm) (S : St) : Prop :=
  (∀ j, j < 7 → gI S o j = nI (F 0 j)) ∧ (∀ k j, 1 ≤ k → k ≤ 3 → j < F 0 0 → gI S (o + k) j = nI (F k j)) ∧ ∀ k j, 4 ≤ k → k ≤ 7 → j < F 0 5 → gI S (o + k) j = nI (F k j)
def FW (F : Fm) : Prop :=
  (1 ≤ F 0 0 ∧ F 0 0 ≤ 12 ∧ F 0 1 ≤ 8 ∧ F 0 2 ≤ 8 ∧ F 0 3 ≤ 12 ∧ F 0 4 ≤ 99 ∧ F 0 5 ≤ 12 ∧ F 0 6 ≤ 4) ∧ Pm (F 0 0) (F 1) ∧
  (∀ a, a < F 0 0 → F 2 a < 2 ^ F 0 0 ∧ F 3 a ≤ 99 ∧ ∀ b, (F 2 a).testBit b = true → b < F 0 0 ∧ b ≠ a ∧ (F 2 b).testBit a = true) ∧
  ∀ w, w < F 0 5 → F 4 w ≤ 99 ∧ F 5 w ≤ 9 ∧ F 6 w ≤ 99 ∧ F 7 w < 2 ^ F 0 5
theorem pow12 {n x : Nat} (hn : n ≤ 12) (h : x < 2 ^ n) : x < 4096 := Nat.lt_of_lt_of_le h (Nat.pow_le_pow_right (by omega) hn)
/-- the turning the other way -/
def inv (n : Nat) (f : Nat → Nat) (p : Nat) : Nat := fnd (fun i => f i == p) n 0
theorem inv_f {n : Nat} {f : Nat → Nat} (h : Pm n f) {i : Nat} (hi : i < n) : inv n f (f i) = i := by
  obtain ⟨g1, g2, g3, g4⟩ := fnd_spec (fun j => f j == f i) n 0 ⟨i, Nat.zero_le _, by omega, by simp⟩
  exact h.2 _ _ (by unfold inv; omega) hi (eq_of_beq g1)
theorem f_inv {n : Nat} {f : Nat → Nat} (h : Pm n f) {i : Nat} (hi : i < n) : f (inv n f i) = i ∧ inv n f i < n := by
  obtain ⟨q, hq, e⟩ := it_onto h 1 hi
  have e2 : f q = i := e
  rw [← e2, inv_f h hq]
  exact ⟨rfl, hq⟩
/-- at what place an end stands in a stanza -/
abbrev posn (n : Nat) (f : Nat → Nat) (s e : Nat) : Nat := it (inv n f) s e
theorem posn_it {n : Nat} {f : Nat → Nat} (h : Pm n f) {p : Nat} (hp : p < n) (s : Nat) : posn n f s (it f s p) = p := it_back h (fun i hi => inv_f h hi) hp s
theorem it_posn {n : Nat} {f : Nat → Nat} (h : Pm n f) {e : Nat} (he : e < n) (s : Nat) : it f s (posn n f s e) = e ∧ posn n f s e < n := by
  obtain ⟨q, hq, e1⟩ := it_onto h s he
  have := posn_it h hq s
  rw [e1] at this
  rw [this]
  exact ⟨e1, hq⟩
/-- how often one end stands right ahead of another one in the first m stanzas -/
def ahdU (n : Nat) (f : Nat → Nat) (a b m : Nat) : Nat := cnt (fun s => posn n f s a + 1 == posn n f s b) m
abbrev ahd (n : Nat) (f : Nat → Nat) (a b : Nat) : Nat := ahdU n f a b (rnd n f)
/-- which ends a stanza ties -/
def clU (F : Fm) (m : Nat) (a b : Nat) : Prop := ∃ s p q, s < m ∧ p < F 0 0 ∧ q < p ∧ (F 2 p).testBit q = true ∧ a = it (F 1) s p ∧ b = it (F 1) s q
def clV (F : Fm) (m p0 q0 : Nat) (a b : Nat) : Prop := clU F m a b ∨ ∃ p q, p < F 0 0 ∧ q < p ∧ (p < p0 ∨ (p = p0 ∧ q < q0)) ∧ (F 2 p).testBit q = true ∧ a = it (F 1) m p ∧ b = it (F 1) m q
abbrev clR (F : Fm) : Nat → Nat → Prop := clU F (rnd (F 0 0) (F 1))
theorem clV_lt {F : Fm} (h : Pm (F 0 0) (F 1)) {m p0 q0 a b : Nat} (hc : clV F m p0 q0 a b) : a < F 0 0 ∧ b < F 0 0 := by
  rcases hc with ⟨s, p, q, h1, h2, h3, h4, rfl, rfl⟩ | ⟨p, q, h2, h3, h1, h4, rfl, rfl⟩
  · exact ⟨it_lt h h2 s, it_lt h (by omega) s⟩
  · exact ⟨it_lt h h2 m, it_lt h (by omega) m⟩
/-- the class's stanzas of the form -/
def EZ (F : Fm) (L : Nat → Nat) (S : St) : Prop :=
  ET (F 0 0) (F 1) (inv (F 0 0) (F 1)) S ∧ Lab (clR F) (F 0 0) L ∧ (∀ e, e < F 0 0 → gI S 39 e = nI (L e)) ∧ ∀ a b, a < F 0 0 → b < F 0 0 → gI S 40 (a * 12 + b) = nI (ahd (F 0 0) (F 1) a b)
theorem e_join {n A B : Nat} {L : Nat → Nat} {S : St} {Q : St → Prop} (hn : n ≤ 12) (h34 : gI S 34 7 = nI n) (hL : ∀ e, e < n → gI S 39 e = nI (L e)) (hL2 : ∀ e, e < n → L e < 12) (hA : A < 12) (hB : B < 12)
    (hQ : ∀ S', frX [39] S S' → (∀ e, e < n → gI S' 39 e = nI (if L e = Nat.max A B then Nat.min A B else L e)) → Q S') : w_X9_joinClasses (nI A) (nI B) S Q := by
  unfold w_X9_joinClasses
  by_cases e : A = B
  · subst e
    rw [if_pos rfl]
    refine hQ S (frX_refl _ _) (fun e he => ?_)
    rw [hL e he, show Nat.max A A = A from Nat.max_self A, show Nat.min A A = A from Nat.min_self A]
    split
    · rename_i q; rw [q]
    · rfl
  · rw [if_neg (fun q => e (nI_inj (by omega) (by omega) q))]
    intro x hx y hy
    have hx2 : x = nI (Nat.min A B) := by
      rw [hx]
      by_cases q : B < A
      · rw [if_pos (nI_lt q (by omega)), show Nat.min A B = B from Nat.min_eq_right (by omega)]
      · rw [if_neg (nI_nlt (by omega) (by omega)), show Nat.min A B = A from Nat.min_eq_left (by omega)]
    rw [m_maxI (by omega) (by omega)] at hy
    subst hx2; subst hy
    have hmx : Nat.max A B < 12 := Nat.max_lt.mpr ⟨hA, hB⟩
    refine up1 (B := b_X9_joinClasses_22 Q (nI (Nat.min A B)) (nI (Nat.max A B))) n (by omega) (fun j S' => frX [39] S S' ∧ (∀ e, e < j → gI S' 39 e = nI (if L e = Nat.max A B then Nat.min A B else L e)) ∧ ∀ e, j ≤ e → gI S' 39 e = gI S 39 e) ?_ ?_ 0 (by omega) ⟨frX_refl _ _, fun e he => absurd he (Nat.not_lt_zero _), fun _ _ => rfl⟩
    · rintro kk j S' hj ⟨hf, h1, h2⟩ hkk
      unfold b_X9_joinClasses_22
      rw [frX_g hf 34 7 (by decide), h34, if_neg (nI_ge hj (by omega))]
      refine e_cell (by show j < 12; omega) (by decide) ?_
      rw [h2 j (Nat.le_refl _), hL j hj]
      refine nI_ifEq (by have := hL2 j hj; omega) (by omega) (fun q => ?_) (fun q => ?_)
      · refine e_put (by show j < 12; omega) (by decide) ?_
        intro z hz
        refine hkk _ _ hz ⟨frX_sI hf (by decide), fun e he => ?_, fun e he => ?_⟩
        · rw [gI_sI]
          by_cases c : e = j
          · subst c; rw [if_pos ⟨rfl, rfl⟩, if_pos q]
          · rw [if_neg (fun x => c x.2)]; exact h1 e (by omega)
        · rw [gI_sI, if_neg (by omega)]; exact h2 e (by omega)
      · intro z hz
        refine hkk _ _ hz ⟨hf, fun e he => ?_, fun e he => h2 e (by omega)⟩
        by_cases c : e = j
        · subst c; rw [h2 e (Nat.le_refl _), hL e hj, if_neg q]
        · exact h1 e (by omega)
    · rintro kk S' ⟨hf, h1, h2⟩
      unfold b_X9_joinClasses_22
      rw [frX_g hf 34 7 (by decide), h34, if_pos (nI_le (Nat.le_refl _) (by omega))]
      exact hQ S' hf h1
theorem e_addNeighbours {n s : Nat} {f : Nat → Nat} {S : St} {Q : St → Prop} (hn0 : 1 ≤ n) (hn : n ≤ 12) (h : Pm n f) (hs : s < 2 ^ 30) (h34 : gI S 34 7 = nI n) (h41 : ∀ p, p < n → gI S 41 p = nI (it f s p)) (h40 : ∀ a b, a < n → b < n → gI S 40 (a * 12 + b) = nI (ahdU n f a b s))
    (hQ : ∀ S', frX [40] S S' → (∀ a b, a < n → b < n → gI S' 40 (a * 12 + b) = nI (ahdU n f a b (s + 1))) → Q S') : w_X9_addNeighbours S Q := by
  refine up1 (B := b_X9_addNeighbours_2 Q) (n - 1) (by omega) (fun p S' => frX [40] S S' ∧ ∀ a b, a < n → b < n → gI S' 40 (a * 12 + b) = nI (ahdU n f a b s + if posn n f s a + 1 = posn n f s b ∧ posn n f s a < p then 1 else 0)) ?_ ?_ 0 (by omega) ⟨frX_refl _ _, fun a b ha hb => by rw [h40 a b ha hb, if_neg (by omega)]; rfl⟩
  · rintro kk p S' hp ⟨hf, h1⟩ hkk
    unfold b_X9_addNeighbours_2
    have hp1 : p + 1 < n := by omega
    have hi := it_lt h (show p < n by omega) s
    have hi1 := it_lt h hp1 s
    rw [frX_g hf 34 7 (by decide), h34, nI_1, if_neg (nI_ge hp1 (by omega))]
    refine e_cell (by show p < 12; omega) (by decide) (e_cell (by show p + 1 < 12; omega) (by decide) ?_)
    rw [frX_g hf 41 p (by decide), frX_g hf 41 (p + 1) (by decide), h41 p (by omega), h41 _ hp1]
    intro x hx
    have hx2 : x = nI (it f s p * 12 + it f s (p + 1)) := by rw [hx, ← nI_add, ← pk_mul]; rfl
    subst hx2
    refine e_cell (by show _ < 144; omega) (by decide) (e_put (by show _ < 144; omega) (by decide) ?_)
    intro z hz
    have hpa := posn_it h (show p < n by omega) s
    have hpb := posn_it h hp1 s
    refine hkk _ _ (by rw [hz, nI_1]) ⟨frX_sI hf (by decide), fun a b ha hb => ?_⟩
    rw [gI_sI]
    by_cases c : a = it f s p ∧ b = it f s (p + 1)
    · obtain ⟨rfl, rfl⟩ := c
      rw [if_pos ⟨rfl, rfl⟩, h1 _ _ ha hb, nI_1, hpa, hpb, if_neg (by omega), if_pos (by omega)]
    · rw [if_neg (fun q => c (by have := q.2; omega)), h1 a b ha hb]
      congr 2
      have ea := (it_posn h ha s).1
      have eb := (it_posn h hb s).1
      have : ¬ (posn n f s a = p ∧ posn n f s b = p + 1) := fun q => c ⟨by rw [← ea, q.1], by rw [← eb, q.2]⟩
      by_cases d : posn n f s a + 1 = posn n f s b ∧ posn n f s a < p
      · rw [if_pos d, if_pos (by omega)]
      · rw [if_neg d, if_neg (by omega)]
  · rintro kk S' ⟨hf, h1⟩
    unfold b_X9_addNeighbours_2
    rw [frX_g hf 34 7 (by decide), h34, nI_1, if_pos (nI_le (by omega) (by omega))]
    refine hQ S' hf (fun a b ha hb => ?_)
    rw [h1 a b ha hb]
    congr 1
    show _ = ahdU n f a b s + _
    congr 1
    have la := (it_posn h ha s).2
    have lb := (it_posn h hb s).2
    by_cases d : posn n f s a + 1 = posn n f s b
    · rw [if_pos (by omega), if_pos (by simpa using d)]
    · rw [if_neg (by omega), if_neg (by simpa using d)]
theorem e_addRhymes {F : Fm} {s : Nat} {S : St} {Q : St → Prop} (hF : FW F) (hE : FE 21 F S) (h34 : gI S 34 7 = nI (F 0 0)) (h41 : ∀ p, p < F 0 0 → gI S 41 p = nI (it (F 1) s p)) {L : Nat → Nat} (hL : Lab (clU F s) (F 0 0) L) (h39 : ∀ e, e < F 0 0 → gI S 39 e = nI (L e))
    (hQ : ∀ S' L', frX [39] S S' → Lab (clU F (s + 1)) (F 0 0) L' → (∀ e, e < F 0 0 → gI S' 39 e = nI (L' e)) → Q S') : w_X9_addRhymes 21 S Q := by
  have hn := hF.1.2.1
  have h := hF.2.1
  refine up1 (B := b_X9_addRhymes_2 21 Q) (F 0 0) (by omega) (fun p S' => frX [39] S S' ∧ ∃ L1, Lab (clV F s p 0) (F 0 0) L1 ∧ ∀ e, e < F 0 0 → gI S' 39 e = nI (L1 e)) ?_ ?_ 0 (by omega) ⟨frX_refl _ _, L, Lab_congr hL (fun x y q => Or.inl (Or.inl q)) (fun x y q => ?_), h39⟩
  · rintro kk p S' hp ⟨hf, L1, l1, l2⟩ hkk
    unfold b_X9_addRhymes_2
    obtain ⟨hb1, hb2, hb3⟩ := hF.2.2.1 p hp
    have hb4 := pow12 hn hb1
    rw [frX_g hf 34 7 (by decide), h34, if_neg (nI_ge hp (by omega))]
    refine e_cell (by show p < 12; omega) (by decide) ?_
    rw [frX_g hf (21 + 2) p (by decide), hE.2.1 2 p (by omega) (by omega) hp]
    refine loopG1 (B := b_X9_addRhymes_22 21 kk (nI p) (nI (F 2 p))) (fun g v S2 => frX [39] S S2 ∧ ∃ q, g = p - q ∧ q ≤ p ∧ v = nI q ∧ ∃ L2, Lab (clV F s p q) (F 0 0) L2 ∧ ∀ e, e < F 0 0 → gI S2 39 e = nI (L2 e)) ?_ p _ ⟨hf, 0, rfl, by omega, rfl, L1, l1, l2⟩
    rintro k2 g x0 S2 ⟨hf2, q, rfl, hq, rfl, L2, l3, l4⟩ hk2
    unfold b_X9_addRhymes_22
    have fin : (∀ q', q ≤ q' → q' < p → (F 2 p).testBit q' = false) → ∀ x, x = nI p + 1 → kk x S2 := by
      intro hno x hx
      refine hkk _ _ hx ⟨hf2, L2, Lab_congr l3 (fun a b c => Or.inl ?_) (fun a b c => Or.inl ?_), l4⟩
      · rcases c with c | ⟨p1, q1, c1, c2, c3, c4, c5, c6⟩
        · exact Or.inl c
        · exact Or.inr ⟨p1, q1, c1, c2, Or.inl (by omega), c4, c5, c6⟩
      · rcases c with c | ⟨p1, q1, c1, c2, c3, c4, c5, c6⟩
        · exact Or.inl c
        · refine Or.inr ⟨p1, q1, c1, c2, ?_, c4, c5, c6⟩
          by_cases e : p1 = p
          · subst e
            refine Or.inr ⟨rfl, ?_⟩
            rcases Nat.lt_or_ge q1 q with d | d
            · exact d
            · rw [hno q1 d c2] at c4; cases c4
          · exact Or.inl (by omega)
    refine (nI_ifEq (y := 0) (by omega) (by omega) (fun e => ?_) (fun e => ?_))
    · exact fin (fun q' _ _ => by rw [e]; exact Nat.zero_testBit _)
    · refine nI_if (by omega) (by omega) (fun e2 => ?_) (fun e2 => ?_)
      · exact fin (fun q' _ _ => by omega)
      · refine bN_if (by omega) (by omega) (fun c => ?_) (fun c => ?_)
        · intro x hx
          have hx2 : x = nI (q + 1) := hx.trans (nI_1 q)
          subst hx2
          refine hk2 (p - (q + 1)) _ _ ⟨hf2, q + 1, rfl, by omega, rfl, L2, Lab_congr l3 (fun a b d => Or.inl ?_) (fun a b d => Or.inl ?_), l4⟩ (by omega)
          · rcases d with d | ⟨p1, q1, c1, c2, c3, c4, c5, c6⟩
            · exact Or.inl d
            · exact Or.inr ⟨p1, q1, c1, c2, by omega, c4, c5, c6⟩
          · rcases d with d | ⟨p1, q1, c1, c2, c3, c4, c5, c6⟩
            · exact Or.inl d
            · refine Or.inr ⟨p1, q1, c1, c2, ?_, c4, c5, c6⟩
              rcases c3 with c3 | ⟨rfl, c3⟩
              · exact Or.inl c3
              · refine Or.inr ⟨rfl, ?_⟩
                have : q1 ≠ q := fun e => by rw [e, c] at c4; cases c4
                omega
        · have ip := it_lt h hp s
          have iq := it_lt h (show q < F 0 0 by omega) s
          have lp := Lab_lt l3 ip
          have lq := Lab_lt l3 iq
          refine e_cell (by show p < 12; omega) (by decide) ?_
          rw [frX_g hf2 41 p (by decide), h41 p hp]
          refine e_cell (by show _ < 12; omega) (by decide) ?_
          rw [l4 _ ip]
          refine e_cell (by show q < 12; omega) (by decide) ?_
          rw [frX_g hf2 41 q (by decide), h41 q (by omega)]
          refine e_cell (by show _ < 12; omega) (by decide) ?_
          rw [l4 _ iq]
          refine e_join hn (by rw [frX_g hf2 34 7 (by decide)]; exact h34) l4 (fun e he => by have := Lab_lt l3 he; omega) (by omega) (by omega) ?_
          intro S3 hf3 l5 x hx
          have hx2 : x = nI (q + 1) := hx.trans (nI_1 q)
          subst hx2
          refine hk2 (p - (q + 1)) _ _ ⟨frX_trans hf2 hf3, q + 1, rfl, by omega, rfl, _, Lab_join (R2 := clV F s p (q + 1)) l3 ip iq (fun a b => ?_) (fun a b d => clV_lt h d) (fun e he => rfl), l5⟩ (by omega)
          constructor
          · rintro (d | ⟨p1, q1, c1, c2, c3, c4, c5, c6⟩)
            · exact Or.inl (Or.inl d)
            · by_cases e : p1 = p ∧ q1 = q
              · obtain ⟨rfl, rfl⟩ := e
                exact Or.inr ⟨c5, c6⟩
              · exact Or.inl (Or.inr ⟨p1, q1, c1, c2, by omega, c4, c5, c6⟩)
          · rintro ((d | ⟨p1, q1, c1, c2, c3, c4, c5, c6⟩) | ⟨rfl, rfl⟩)
            · exact Or.inl d
            · exact Or.inr ⟨p1, q1, c1, c2, by omega, c4, c5, c6⟩
            · exact Or.inr ⟨p, q, hp, e2, Or.inr ⟨rfl, by omega⟩, c, rfl, rfl⟩
  · rintro kk S' ⟨hf, L1, l1, l2⟩
    unfold b_X9_addRhymes_2
    rw [frX_g hf 34 7 (by decide), h34, if_pos (nI_le (Nat.le_refl _) (by omega))]
    refine hQ S' L1 hf (Lab_congr l1 (fun a b d => Or.inl ?_) (fun a b d => Or.inl ?_)) l2
    · rcases d with ⟨s1, p1, q1, c0, c1, c2, c4, c5, c6⟩ | ⟨p1, q1, c1, c2, c3, c4, c5, c6⟩
      · exact ⟨s1, p1, q1, by omega, c1, c2, c4, c5, c6⟩
      · exact ⟨s, p1, q1, by omega, c1, c2, c4, c5, c6⟩
    · obtain ⟨s1, p1, q1, c0, c1, c2, c4, c5, c6⟩ := d
      by_cases e : s1 = s
      · subst e; exact Or.inr ⟨p1, q1, c1, c2, Or.inl c1, c4, c5, c6⟩
      · exact Or.inl ⟨s1, p1, q1, by omega, c1, c2, c4, c5, c6⟩
  · rcases q with q | ⟨p1, q1, c1, c2, c3, c4, c5, c6⟩
    · exact Or.inl q
    · omega
theorem e_turnRow {n s : Nat} {f : Nat → Nat} {S : St} {Q : St → Prop} (hn : n ≤ 12) (h : Pm n f) (h34 : gI S 34 7 = nI n) (h37 : ∀ p, p < n → gI S 37 p = nI (f p)) (h41 : ∀ p, p < n → gI S 41 p = nI (it f s p))
    (hQ : ∀ S', frX [41, 42] S S' → (∀ p, p < n → gI S' 41 p = nI (it f (s + 1) p)) → Q S') : w_X9_turnRow S Q := by
  refine up1 (B := b_X9_turnRow_2 Q) n (by omega) (fun p S' => frX [42] S S' ∧ ∀ j, j < p → gI S' 42 j = nI (it f (s + 1) j)) ?_ ?_ 0 (by omega) ⟨frX_refl _ _, fun e he => absurd he (Nat.not_lt_zero _)⟩
  · rintro kk p S' hp ⟨hf, h1⟩ hkk
    unfold b_X9_turnRow_2
    have hfp := h.1 p hp
    rw [frX_g hf 34 7 (by decide), h34, if_neg (nI_ge hp (by omega))]
    refine e_cell (by show p < 12; omega) (by decide) ?_
    rw [frX_g hf 37 p (by decide), h37 p hp]
    refine e_cell (by show _ < 12; omega) (by decide) ?_
    rw [frX_g hf 41 _ (by decide), h41 _ hfp]
    refine e_put (by show p < 12; omega) (by decide) ?_
    intro z hz
    refine hkk _ _ hz ⟨frX_sI hf (by decide), fun j hj => ?_⟩
    rw [gI_sI]
    by_cases c : j = p
    · subst c; rw [if_pos ⟨rfl, rfl⟩, it_succ]
    · rw [if_neg (fun x => c x.2)]; exact h1 j (by omega)
  · rintro kk S' ⟨hf, h1⟩
    unfold b_X9_turnRow_2
    rw [frX_g hf 34 7 (by decide), h34, if_pos (nI_le (Nat.le_refl _) (by omega))]
    refine e_copyRow (by decide) (by decide) (by decide) ?_
    refine hQ _ (frX_row (frX_sub hf (by simp)) (by decide)) (fun p hp => ?_)
    rw [gI_setRow, if_pos ⟨rfl, by show p < 12; omega⟩]
    exact h1 p hp
