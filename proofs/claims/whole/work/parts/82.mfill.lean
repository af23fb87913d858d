/-! ===== pure: the reference's neighbours, ways, bits, stuck ===== -/
theorem MG_of {F : Fm} {D : Dr} {pa pb L : Nat → Nat} {S : St} (hM : MF F D pa pb S) (h37 : ∀ e, e < F 0 0 → gI S 37 e = nI (L e)) : MG F L false S := by
  obtain ⟨h0, h2b, h4, h5, h6, h7, h8, h9, h10, h11, h12⟩ := hM
  exact ⟨h0.1.1, h7, fun w hw => (h10 w hw).1, h37, fun h => by cases h⟩
theorem m_neighbours {F : Fm} {D : Dr} {pa pb L : Nat → Nat} {S : St} {Q : St → Prop} (hF : FW F) (hP : PW F pa pb) (hM : MF F D pa pb S) (hL : Lab (clR F) (F 0 0) L)
    (hQ : ∀ S', frM S S' → MG F L true S' → Q S') : w_X12_neighbours S Q := by
  have hn := hF.1.2.1
  have h := hF.2.1
  have hrl : rnd (F 0 0) (F 1) ≤ 27720 := rnd_le h hn (Nat.le_refl _)
  refine m_classes hF hP hM.1 hL ?_
  intro T hf0 _ h37
  refine up1 (B := b_X12_neighbours_6 Q) 144 (by omega) (fun k S' => frM S S' ∧ (∀ e, e < F 0 0 → gI S' 37 e = nI (L e)) ∧ ∀ j, j < k → gI S' 38 j = 0) ?_ ?_ 0 (by omega) ⟨hf0, h37, fun j hj => absurd hj (Nat.not_lt_zero _)⟩
  · rintro kk k S' hk ⟨hf, i1, i2⟩ hkk
    unfold b_X12_neighbours_6
    rw [if_neg (show ¬ (144 : Int32) ≤ nI k from nI_ge (b := 144) hk (by omega))]
    refine ⟨vp_in_nI hk (by omega), fun S2 hS2 x hx => ?_⟩
    rw [nI_clamp (by omega)] at hS2
    subst hS2
    refine hkk _ _ hx ⟨frM_row hf (by omega), fun e he => ?_, fun j hj => ?_⟩
    · rw [gI_sI, if_neg (by omega)]; exact i1 e he
    · rw [gI_sI]
      by_cases c : j = k
      · subst c; rw [if_pos ⟨rfl, rfl⟩]
      · rw [if_neg (fun x => c x.2)]; exact i2 j (by omega)
  · rintro kk S' ⟨hf, i1, i2⟩
    unfold b_X12_neighbours_6
    rw [if_pos (show (144 : Int32) ≤ nI 144 from nI_le (a := 144) (Nat.le_refl _) (by omega))]
    have hMS := MF_fr hF hf hM
    refine m_roundIs hn h hMS.1.1.2 hMS.1.1.1 ?_
    refine up1 (B := b_X12_neighbours_33 Q (nI (rnd (F 0 0) (F 1)))) (rnd (F 0 0) (F 1)) (by omega) (fun s S2 => frM S S2 ∧ (∀ e, e < F 0 0 → gI S2 37 e = nI (L e)) ∧ ∀ a b, a < F 0 0 → b < F 0 0 → gI S2 38 (12 * a + b) = if 0 < ahdU (F 0 0) (F 1) a b s then 1 else 0) ?_ ?_ 0 (by omega) ⟨hf, i1, fun a b ha hb => by rw [i2 _ (by omega), if_neg (by show ¬ 0 < 0; omega)]⟩
    · rintro k1 s S2 hs ⟨hf2, j1, j2⟩ hk1
      unfold b_X12_neighbours_33
      rw [if_neg (nI_ge hs (by omega))]
      refine up1 (B := b_X12_neighbours_40 k1 (nI (rnd (F 0 0) (F 1))) (nI s)) (F 0 0 - 1) (by omega) (fun p S3 => frM S S3 ∧ (∀ e, e < F 0 0 → gI S3 37 e = nI (L e)) ∧ ∀ a b, a < F 0 0 → b < F 0 0 → gI S3 38 (12 * a + b) = if 0 < ahdU (F 0 0) (F 1) a b s ∨ (posn (F 0 0) (F 1) s a + 1 = posn (F 0 0) (F 1) s b ∧ posn (F 0 0) (F 1) s a < p) then 1 else 0) ?_ ?_ 0 (by omega) ⟨hf2, j1, fun a b ha hb => ?_⟩
      · rintro k2 p S3 hp ⟨hf3, l1, l2⟩ hk2
        unfold b_X12_neighbours_40
        have hM3 := MF_fr hF hf3 hM
        have hp1 : p + 1 < F 0 0 := by omega
        have ia := it_lt h (show p < F 0 0 by omega) s
        have ib := it_lt h hp1 s
        have i3 : (12 : Int32) * nI (it (F 1) s p) + nI (it (F 1) s (p + 1)) = nI (12 * it (F 1) s p + it (F 1) s (p + 1)) := by rw [← nI_add, ← pk_mul]; rfl
        rw [hM3.1.1.1, nI_1, if_neg (nI_ge hp1 (by omega)), nI_l (by omega)]
        refine m_endAt hn h hM3.1.1.2 (by omega) (by omega) (m_endAt hn h hM3.1.1.2 hp1 (by omega) ?_)
        rw [i3]
        refine ⟨vp_in_nI (by omega) (by omega), fun S4 hS4 x hx => ?_⟩
        rw [nI_clamp (by omega)] at hS4
        subst hS4
        have hpa := posn_it h (show p < F 0 0 by omega) s
        have hpb := posn_it h hp1 s
        refine hk2 _ _ (by rw [hx, nI_1]) ⟨frM_row hf3 (by omega), fun e he => ?_, fun a b ha hb => ?_⟩
        · rw [gI_sI, if_neg (by omega)]; exact l1 e he
        · rw [gI_sI]
          by_cases c : a = it (F 1) s p ∧ b = it (F 1) s (p + 1)
          · obtain ⟨rfl, rfl⟩ := c
            rw [if_pos ⟨rfl, rfl⟩, if_pos (Or.inr (by rw [hpa, hpb]; omega))]
          · rw [if_neg (fun q => c (by have := q.2; omega)), l2 a b ha hb]
            have ea := (it_posn h ha s).1
            have eb := (it_posn h hb s).1
            have : ¬ (posn (F 0 0) (F 1) s a = p ∧ posn (F 0 0) (F 1) s b = p + 1) := fun q => c ⟨by rw [← ea, q.1], by rw [← eb, q.2]⟩
            by_cases d : 0 < ahdU (F 0 0) (F 1) a b s ∨ (posn (F 0 0) (F 1) s a + 1 = posn (F 0 0) (F 1) s b ∧ posn (F 0 0) (F 1) s a < p)
            · rw [if_pos d, if_pos (by omega)]
            · rw [if_neg d, if_neg (by omega)]
      · rintro k2 S3 ⟨hf3, l1, l2⟩
        unfold b_X12_neighbours_40
        have hM3 := MF_fr hF hf3 hM
        have hn0 := hF.1.1
        rw [hM3.1.1.1, nI_1, if_pos (nI_le (by omega) (by omega))]
        intro x hx
        refine hk1 _ _ hx ⟨hf3, l1, fun a b ha hb => ?_⟩
        rw [l2 a b ha hb]
        have la := (it_posn h ha s).2
        have lb := (it_posn h hb s).2
        have e : ahdU (F 0 0) (F 1) a b (s + 1) = ahdU (F 0 0) (F 1) a b s + (if posn (F 0 0) (F 1) s a + 1 = posn (F 0 0) (F 1) s b then 1 else 0) := by
          show ahdU (F 0 0) (F 1) a b s + _ = _
          simp
        rw [e]
        by_cases d : posn (F 0 0) (F 1) s a + 1 = posn (F 0 0) (F 1) s b
        · rw [if_pos (Or.inr (by omega)), if_pos d, if_pos (by omega)]
        · rw [if_neg d]
          by_cases c : 0 < ahdU (F 0 0) (F 1) a b s
          · rw [if_pos (Or.inl c), if_pos (by omega)]
          · rw [if_neg (by omega), if_neg (by omega)]
      · rw [j2 a b ha hb]
        by_cases c : 0 < ahdU (F 0 0) (F 1) a b s
        · rw [if_pos c, if_pos (Or.inl c)]
        · rw [if_neg c, if_neg (by omega)]
    · rintro k1 S2 ⟨hf2, j1, j2⟩
      unfold b_X12_neighbours_33
      rw [if_pos (nI_le (Nat.le_refl _) (by omega))]
      have hM2 := MF_fr hF hf2 hM
      obtain ⟨g1, g2, g3, g4, -⟩ := MG_of hM2 j1
      exact hQ S2 hf2 ⟨g1, g2, g3, g4, fun _ => ⟨j2, hM2.2.2.2.2.2.2.2.2.2.2⟩⟩
theorem m_waysFor {F : Fm} {L : Nat → Nat} {any : Bool} {set : Nat} {S : St} {Q : Int64 → St → Prop} (hF : FW F) (hL : ∀ e, e < F 0 0 → L e < F 0 0) (hset : set < 2 ^ 31) (hG : MG F L true S)
    (hQ : ∀ S', frM S S' → MG F L true S' → (∀ A, fst F L (bl set (F 0 0) 0) [] = some A → ∀ p, p ∈ A → gI S' 40 p.1 = nI p.2) → Q (if any then (if 0 < wys F L (bl set (F 0 0) 0) [] then 1 else 0) else lN (wys F L (bl set (F 0 0) 0) [])) S') :
    w_X12_waysFor (nI set) (if any then 1 else 0) S Q := by
  have hn := hF.1.2.1
  intro S2 hS2
  have hf2 : frG S S2 := by subst hS2; intro b j h1 h2 h3; rw [gI_sI, if_neg h3]
  have h1 : gI S2 0 64 = 1 := by subst hS2; rw [gI_sI, if_pos ⟨rfl, rfl⟩]
  refine ⟨13, by omega, ?_⟩
  refine m_gives (any := any) hF hL hset (F 0 0) 0 13 [] S2 _ (by omega) (by omega) (MG_fr hf2 hG) ⟨fun p hp => (by cases hp), fun o ho => absurd ho (Nat.not_lt_zero _)⟩ (Or.inr h1) ?_
  intro S' k1 _ k3
  have hfr := frG_trans hf2 k1
  exact hQ S' (frG_M hfr) (MG_fr hfr hG) (fun A hA => ((k3.2 h1).2 A hA).2)
def pc (x : Nat) : Nat := cnt (fun k => x.testBit k) 12
theorem m_bits {x : Nat} {S : St} {Q : Int32 → St → Prop} (hx : x < 2 ^ 31) (hQ : Q (nI (pc x)) S) : w_X12_bits (nI x) S Q := by
  refine up2 (B := b_X12_bits_4 (nI x) Q) 12 (by omega) (fun k v S' => S' = S ∧ v = nI (cnt (fun k => x.testBit k) k)) ?_ ?_ 0 _ (by omega) ⟨rfl, rfl⟩
  · rintro kk k v S' hk ⟨rfl, rfl⟩ hkk
    unfold b_X12_bits_4
    rw [if_neg (show ¬ (12 : Int32) ≤ nI k from nI_ge (b := 12) hk (by omega)), bN_shr hx (by omega)]
    intro y hy z hz
    refine hkk _ _ _ hz ⟨rfl, ?_⟩
    rw [hy]
    show _ = nI (cnt (fun k => x.testBit k) k + (if x.testBit k then 1 else 0))
    rw [← nI_add]
    congr 1
    split <;> rfl
  · rintro kk v S' ⟨rfl, rfl⟩
    unfold b_X12_bits_4
    rw [if_pos (show (12 : Int32) ≤ nI 12 from nI_le (a := 12) (Nat.le_refl _) (by omega))]
    exact hQ
theorem wys_sub (F : Fm) (L : Nat → Nat) {set set' : Nat} (hs : ∀ i, set'.testBit i = true → set.testBit i = true) : ∀ m e acc acc', (∀ p, p ∈ acc' → p ∈ acc) → 0 < wys F L (bl set m e) acc → 0 < wys F L (bl set' m e) acc'
  | 0, e, acc, acc', _, _ => by simp [bl, wys]
  | m + 1, e, acc, acc', ha, h => by
    have hok : ∀ w, okA F L true acc e w = true → okA F L true acc' e w = true := fun w q => List.all_eq_true.mpr (fun p hp => List.all_eq_true.mp q p (ha p hp))
    unfold bl at h ⊢
    by_cases c : set.testBit e = true
    · rw [if_pos c] at h
      unfold wys at h
      obtain ⟨w, hw, h2⟩ := (smW_pos _).mp h
      by_cases c1 : okA F L true acc e w = true
      · rw [if_pos c1] at h2
        by_cases c2 : set'.testBit e = true
        · rw [if_pos c2]
          unfold wys
          refine (smW_pos _).mpr ⟨w, hw, ?_⟩
          rw [if_pos (hok w c1)]
          exact wys_sub F L hs m (e + 1) _ _ (fun p hp => by
            rcases List.mem_cons.mp hp with q | q
            · rw [q]; exact List.mem_cons_self ..
            · exact List.mem_cons_of_mem _ (ha p q)) h2
        · rw [if_neg c2]
          exact wys_sub F L hs m (e + 1) _ _ (fun p hp => List.mem_cons_of_mem _ (ha p hp)) h2
      · rw [if_neg c1] at h2; omega
    · rw [if_neg c] at h
      rw [if_neg (fun q => c (hs e q))]
      exact wys_sub F L hs m (e + 1) _ _ ha h
/-- a set of ends that can't be given words -/
abbrev nof (F : Fm) (L : Nat → Nat) (set : Nat) : Prop := wys F L (bl set (F 0 0) 0) [] = 0
/-- the fewest, of equal ones the least, below m -/
def stB (F : Fm) (L : Nat → Nat) (m b : Nat) : Prop := 1 ≤ b ∧ b < m ∧ nof F L b ∧ ∀ c, 1 ≤ c → c < m → nof F L c → pc b < pc c ∨ (pc b = pc c ∧ b ≤ c)
theorem stB_uniq {F : Fm} {L : Nat → Nat} {m b c : Nat} (h : stB F L m b) (k : stB F L m c) : b = c := by
  have h1 := h.2.2.2 c k.1 k.2.1 k.2.2.1
  have h2 := k.2.2.2 b h.1 h.2.1 h.2.2.1
  omega
theorem pow_le12 {n : Nat} (hn : n ≤ 12) : 2 ^ n ≤ 4096 := Nat.pow_le_pow_right (n := 2) (by omega) hn
theorem m_stuck33 {F : Fm} {L : Nat → Nat} {w : Int32} {S : St} {Q : Int32 → St → Prop} (hF : FW F) (hL : ∀ e, e < F 0 0 → L e < F 0 0) (hG : MG F L true S)
    (h0 : (∀ c, 1 ≤ c → c < 2 ^ F 0 0 → ¬ nof F L c) → ∀ S', frM S S' → Q (-1) S') (h1 : ∀ b, stB F L (2 ^ F 0 0) b → ∀ S', frM S S' → if w = 0 then Q (nI (pc b)) S' else Q (nI b) S') :
    w_X12_stuck_33 w Q (-1 : Int32) (1 : Int32) S := by
  have hn := hF.1.2.1
  have hp := pow_le12 hn
  have hp1 : 1 ≤ 2 ^ F 0 0 := Nat.one_le_two_pow
  refine up2 (B := b_X12_stuck_33 w Q) (2 ^ F 0 0) (by omega) (fun s v S' => frM S S' ∧ MG F L true S' ∧ 1 ≤ s ∧ ((v = -1 ∧ ∀ c, 1 ≤ c → c < s → ¬ nof F L c) ∨ ∃ b, v = nI b ∧ stB F L s b)) ?_ ?_ 1 _ hp1 ⟨frM_refl _, hG, by omega, Or.inl ⟨rfl, fun c a b => by omega⟩⟩
  · rintro kk s v S' hs ⟨hf, hG', hs1, hv⟩ hkk
    unfold b_X12_stuck_33
    rw [hG'.1, bN_one (by omega), if_neg (nI_ge hs (by omega))]
    have run : (v = -1 ∧ (∀ c, 1 ≤ c → c < s → ¬ nof F L c) ∨ ∃ b, v = nI b ∧ stB F L s b ∧ pc s < pc b) → w_X12_stuck_58 w kk v (nI s) S' := by
      intro hv
      refine m_waysFor (any := true) hF hL (by omega) hG' ?_
      intro S2 k1 k2 _
      have hf2 := frM_trans hf k1
      rw [if_pos rfl]
      by_cases c : 0 < wys F L (bl s (F 0 0) 0) []
      · rw [if_pos c, if_neg (by decide)]
        intro x hx
        refine hkk _ _ _ hx ⟨hf2, k2, by omega, ?_⟩
        rcases hv with ⟨v1, v2⟩ | ⟨b, v1, v2, v3⟩
        · refine Or.inl ⟨v1, fun d d1 d2 => ?_⟩
          by_cases e : d = s
          · subst e; intro q; rw [q] at c; omega
          · exact v2 d d1 (by omega)
        · refine Or.inr ⟨b, v1, v2.1, by have := v2.2.1; omega, v2.2.2.1, fun d d1 d2 d3 => ?_⟩
          by_cases e : d = s
          · subst e; rw [d3] at c; omega
          · exact v2.2.2.2 d d1 (by omega) d3
      · rw [if_neg c, if_pos rfl]
        have hno : nof F L s := by show _ = 0; omega
        intro x hx
        refine hkk _ _ _ hx ⟨hf2, k2, by omega, Or.inr ⟨s, rfl, hs1, by omega, hno, fun d d1 d2 d3 => ?_⟩⟩
        by_cases e : d = s
        · subst e; omega
        · rcases hv with ⟨v1, v2⟩ | ⟨b, v1, v2, v3⟩
          · exact absurd d3 (v2 d d1 (by omega))
          · have := v2.2.2.2 d d1 (by omega) d3
            omega
    rcases hv with ⟨v1, v2⟩ | ⟨b, v1, v2⟩
    · rw [v1, if_pos (by decide), ← v1]
      exact run (Or.inl ⟨v1, v2⟩)
    · have hb := v2.2.1
      rw [v1, if_neg (nI_pos (by omega))]
      refine m_bits (by omega) (m_bits (by omega) ?_)
      have c1 := cnt_le (fun k => s.testBit k) 12
      have c2 := cnt_le (fun k => b.testBit k) 12
      refine nI_if (by unfold pc; omega) (by unfold pc; omega) (fun c => ?_) (fun c => ?_)
      · intro x hx
        refine hkk _ _ _ hx ⟨hf, hG', by omega, Or.inr ⟨b, rfl, v2.1, by omega, v2.2.2.1, fun d d1 d2 d3 => ?_⟩⟩
        by_cases e : d = s
        · subst e; omega
        · exact v2.2.2.2 d d1 (by omega) d3
      · rw [← v1]
        exact run (Or.inr ⟨b, v1, v2, c⟩)
  · rintro kk v S' ⟨hf, hG', hs1, hv⟩
    unfold b_X12_stuck_33
    rw [hG'.1, bN_one (by omega), if_pos (nI_le (Nat.le_refl _) (by omega))]
    rcases hv with ⟨v1, v2⟩ | ⟨b, v1, v2⟩
    · rw [v1, if_neg (by decide)]
      exact h0 v2 S' hf
    · have hb := v2.2.1
      rw [v1, if_pos (nI_pos' (by omega))]
      have := h1 b v2 S' hf
      by_cases e : w = 0
      · rw [if_pos e] at this ⊢
        exact m_bits (by omega) this
      · rw [if_neg e] at this ⊢; exact this
