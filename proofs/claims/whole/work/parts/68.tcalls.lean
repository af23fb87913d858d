/-! ===== pure: turning, end, where, meets, round: both answer alike ===== -/
/-- the reference's turning -/
def MT (n : Nat) (f : Nat → Nat) (S : St) : Prop := gI S 0 10 = nI n ∧ ∀ i, i < n → gI S 2 i = nI (f i)
theorem MT_thr {n : Nat} {f : Nat → Nat} {S : St} {v : Int32} (H : MT n f S) : MT n f (sI S 0 0 v) := by
  refine ⟨?_, fun i hi => ?_⟩
  · rw [gI_sI, if_neg (by omega)]; exact H.1
  · rw [gI_sI, if_neg (by omega)]; exact H.2 i hi
theorem e_isEnd {S : St} {Q : Int32 → St → Prop} {n : Nat} {x : Int32} (hn : n < 2 ^ 31) (he : gI S 21 0 = nI n) (h0 : (x < 0 ∨ nI n ≤ x) → Q 0 S) (h1 : ∀ p, p < n → x = nI p → Q 1 S) : w_X11_isEnd x S Q := by
  unfold w_X11_isEnd
  rw [he]
  by_cases a : x < 0
  · rw [if_pos a]; exact h0 (Or.inl a)
  · rw [if_neg a]
    by_cases b : nI n ≤ x
    · rw [if_pos b]; exact h0 (Or.inr b)
    · rw [if_neg b]
      rcases pk_ix x hn with c | c | ⟨p, hp, e⟩
      · exact absurd c a
      · exact absurd c b
      · exact h1 p hp e
theorem m_isPlace {S : St} {Q : Int32 → St → Prop} {n : Nat} {x : Int32} (hn : n < 2 ^ 31) (he : gI S 0 10 = nI n) (h0 : (x < 0 ∨ nI n ≤ x) → Q 0 S) (h1 : ∀ p, p < n → x = nI p → Q 1 S) : w_X12_isPlace x S Q := by
  unfold w_X12_isPlace
  rw [he]
  by_cases a : x < 0
  · rw [if_pos a]; exact h0 (Or.inl a)
  · rw [if_neg a]
    by_cases b : nI n ≤ x
    · rw [if_pos b]; exact h0 (Or.inr b)
    · rw [if_neg b]
      rcases pk_ix x hn with c | c | ⟨p, hp, e⟩
      · exact absurd c a
      · exact absurd c b
      · exact h1 p hp e
theorem pl_no {x : Int32} {n p : Nat} (hn : n < 2 ^ 31) (hp : p < n) (e : x = nI p) : ¬ (x < 0 ∨ nI n ≤ x) := by
  subst e
  rintro (a | a)
  · exact nI_pos (by omega) a
  · exact nI_ge hp hn a
theorem m_within {S : St} {Q : Int32 → St → Prop} {x a b : Int32} (h0 : (x < a ∨ b < x) → Q 0 S) (h1 : ¬ x < a → ¬ b < x → Q 1 S) : w_X12_within x a b S Q := by
  unfold w_X12_within
  by_cases c : x < a
  · rw [if_pos c]; exact h0 (Or.inl c)
  · rw [if_neg c]
    by_cases d : b < x
    · rw [if_pos d]; exact h0 (Or.inr d)
    · rw [if_neg d]; exact h1 c d
theorem e_isStanza {S : St} {Q : Int32 → St → Prop} {x : Int64} (h0 : (x < 0 ∨ (1000000000000000 : Int64) < x) → Q 0 S) (h1 : ∀ s, ¬ (x < 0 ∨ (1000000000000000 : Int64) < x) → s < 2 ^ 62 → x = lN s → Q 1 S) : w_X11_isStanza x S Q := by
  unfold w_X11_isStanza
  by_cases a : x < 0
  · rw [if_pos a]; exact h0 (Or.inl a)
  · rw [if_neg a]
    by_cases b : (1000000000000000 : Int64) < x
    · rw [if_pos b]; exact h0 (Or.inr b)
    · rw [if_neg b]
      obtain ⟨s, hs, rfl⟩ := pk_lOf a
      refine h1 s (fun c => c.elim a b) ?_ rfl
      rcases Nat.lt_or_ge 1000000000000000 s with c | c
      · exact absurd ((pk_lLT (a := 1000000000000000) (by omega) hs).mpr c) b
      · omega
theorem m_isStanza {S : St} {Q : Int32 → St → Prop} {x : Int64} (h0 : (x < 0 ∨ (1000000000000000 : Int64) < x) → Q 0 S) (h1 : ¬ (x < 0 ∨ (1000000000000000 : Int64) < x) → Q 1 S) : w_X12_isStanza x S Q := by
  unfold w_X12_isStanza
  by_cases a : x < 0
  · rw [if_pos a]; exact h0 (Or.inl a)
  · rw [if_neg a]
    by_cases b : (1000000000000000 : Int64) < x
    · rw [if_pos b]; exact h0 (Or.inr b)
    · rw [if_neg b]; exact h1 (fun c => c.elim a b)
theorem c_end {n : Nat} {f g : Nat → Nat} {SE SM : St} {K : Int32 → Int32 → St → St → Prop} {a : Int64} {b : Int32} (HE : ET n f g SE) (HM : MT n f SM) (hK : ∀ r, K r r SE (sI SM 0 0 0)) : w_X11_end a b SE (fun r S1 => w_X12_end a b SM (fun r' S2 => K r r' S1 S2)) := by
  have hn : n ≤ 12 := HE.1
  have HM2 := MT_thr (v := 0) HM
  have good : ¬ (a < 0 ∨ (1000000000000000 : Int64) < a) → ∀ r, (∀ S2, S2 = sI SM 0 0 0 → w_X12_isPlace b S2 (fun r14_5 S14_4 => (if r14_5 = 0 then (K r (-1 : Int32) SE S14_4) else (w_X12_endAt a b S14_4 (fun r23_7 S23_6 => K r r23_7 SE S23_6))))) → w_X12_end a b SM (fun r' S2 => K r r' SE S2) := by
    intro h r hh S2 hS2
    exact m_isStanza (fun h2 => absurd h2 h) (fun _ => by rw [if_neg (by decide)]; exact hh S2 hS2)
  refine e_isStanza (fun h => ?_) (fun s st hs e => ?_)
  · rw [if_pos rfl]
    intro S2 hS2; subst hS2
    exact m_isStanza (fun _ => by rw [if_pos rfl]; exact hK _) (fun h2 => absurd h h2)
  · rw [if_neg (by decide)]
    refine e_isEnd (by omega) HE.2.2.2.1 (fun h => ?_) (fun p hp e2 => ?_)
    · rw [if_pos rfl]
      refine good st _ (fun S2 hS2 => ?_)
      subst hS2
      exact m_isPlace (by omega) HM2.1 (fun _ => by rw [if_pos rfl]; exact hK _) (fun p hp e2 => absurd h (pl_no (by omega) hp e2))
    · rw [if_neg (by decide)]
      subst e; subst e2
      refine e_endAt HE hp hs ?_
      refine good st _ (fun S2 hS2 => ?_)
      subst hS2
      refine m_isPlace (by omega) HM2.1 (fun h => absurd h (pl_no (by omega) hp rfl)) (fun _ _ _ => ?_)
      rw [if_neg (by decide)]
      exact m_endAt hn HE.2.1 HM2.2 hp hs (hK _)
theorem c_where {n : Nat} {f g : Nat → Nat} {SE SM : St} {K : Int32 → Int32 → St → St → Prop} {a : Int64} {b : Int32} (HE : ET n f g SE) (HM : MT n f SM) (hK : ∀ r, K r r SE (sI SM 0 0 0)) : w_X11_where a b SE (fun r S1 => w_X12_where a b SM (fun r' S2 => K r r' S1 S2)) := by
  have hn : n ≤ 12 := HE.1
  have HM2 := MT_thr (v := 0) HM
  have good : ¬ (a < 0 ∨ (1000000000000000 : Int64) < a) → ∀ r, (∀ S2, S2 = sI SM 0 0 0 → w_X12_isPlace b S2 (fun r14_5 S14_4 => (if r14_5 = 0 then (K r (-1 : Int32) SE S14_4) else (w_X12_whereIs a b S14_4 (fun r23_7 S23_6 => K r r23_7 SE S23_6))))) → w_X12_where a b SM (fun r' S2 => K r r' SE S2) := by
    intro h r hh S2 hS2
    exact m_isStanza (fun h2 => absurd h2 h) (fun _ => by rw [if_neg (by decide)]; exact hh S2 hS2)
  refine e_isStanza (fun h => ?_) (fun s st hs e => ?_)
  · rw [if_pos rfl]
    intro S2 hS2; subst hS2
    exact m_isStanza (fun _ => by rw [if_pos rfl]; exact hK _) (fun h2 => absurd h h2)
  · rw [if_neg (by decide)]
    refine e_isEnd (by omega) HE.2.2.2.1 (fun h => ?_) (fun p hp e2 => ?_)
    · rw [if_pos rfl]
      refine good st _ (fun S2 hS2 => ?_)
      subst hS2
      exact m_isPlace (by omega) HM2.1 (fun _ => by rw [if_pos rfl]; exact hK _) (fun p hp e2 => absurd h (pl_no (by omega) hp e2))
    · rw [if_neg (by decide)]
      subst e; subst e2
      obtain ⟨q, hq, hqe⟩ := it_onto HE.2.1 s hp
      refine e_placeOf HE hq hs hqe ?_
      refine good st _ (fun S2 hS2 => ?_)
      subst hS2
      refine m_isPlace (by omega) HM2.1 (fun h => absurd h (pl_no (by omega) hp rfl)) (fun _ _ _ => ?_)
      rw [if_neg (by decide)]
      exact m_whereIs hn HE.2.1 HM2.2 hq hs hqe (hK _)
