/-! ===== pure: the class's filler: choose, leavesOpen, ways ===== -/
theorem bl_succ (set : Nat) : ∀ m e, bl set (m + 1) e = bl set m e ++ (if set.testBit (e + m) then [e + m] else [])
  | 0, e => by
    show (if set.testBit e then e :: bl set 0 (e + 1) else bl set 0 (e + 1)) = [] ++ _
    rw [Nat.add_zero, List.nil_append]; rfl
  | m + 1, e => by
    have ih := bl_succ set m (e + 1)
    rw [show e + 1 + m = e + (m + 1) by omega] at ih
    show (if set.testBit e then e :: bl set (m + 1) (e + 1) else bl set (m + 1) (e + 1)) = (if set.testBit e then e :: bl set m (e + 1) else bl set m (e + 1)) ++ _
    rw [ih]
    split <;> rfl
theorem e_choose {F : Fm} {L : Nat → Nat} {b : Nat} {S : St} {Q : St → Prop} (hn7 : F 0 0 ≤ 7) (hF : FW F) (hE : FE 21 F S) (hZ : EZ F L S) (hb : b < 2 ^ 31) (hPR : gI S 43 9 = 0 ∨ PR F L S)
    (hQ : ∀ S', frX [43, 45, 46, 47, 49] S S' → fr43 [8, 9] S S' → ¬ gI S' 43 9 = 0 → PR F L S' → gI S' 43 8 = nI (bl b (F 0 0) 0).length → (∀ i x : Nat, (bl b (F 0 0) 0)[i]? = some x → gI S' 47 i = nI x ∧ gI S' 49 i = nI (2 ^ F 0 5 - 1)) → Q S') :
    w_X3_choose (nI b) S Q := by
  have hww := hF.1.2.2.2.2.2.2.1
  have key : ∀ T, frX [43, 45, 46] S T → fr43 [9] S T → ¬ gI T 43 9 = 0 → PR F L T → w_X3_choose_11 (nI b) Q T := by
    intro T hT h43 h9 hPR S1 hS1
    have hT1 : frX [43, 45, 46, 47, 49] S S1 := by rw [hS1]; exact frX_sI (frX_sub hT (by simp)) (by decide)
    have h43b : fr43 [8, 9] S S1 := fun j hj => by
      rw [hS1]
      refine ⟨?_, ?_⟩
      · rw [gI_sI, if_neg (fun q => hj (by rw [q.2]; decide))]; exact (h43 j (fun q => hj (by simp at q; rw [q]; decide))).1
      · rw [gJ_sI]; exact (h43 j (fun q => hj (by simp at q; rw [q]; decide))).2
    have h9b : ¬ gI S1 43 9 = 0 := by rw [hS1, gI_sI, if_neg (by omega)]; exact h9
    have hPRb : PR F L S1 := by rw [hS1]; exact ⟨fun x y hx hy => by rw [gI_sI, if_neg (by omega)]; exact hPR.1 x y hx hy, fun x y hx hy => by rw [gI_sI, if_neg (by omega)]; exact hPR.2 x y hx hy⟩
    have h8 : gI S1 43 8 = nI 0 := by rw [hS1, gI_sI, if_pos ⟨rfl, rfl⟩]; rfl
    refine up1 (B := b_X3_choose_18 (nI b) Q) (F 0 0) (by omega) (fun e S' => frX [43, 45, 46, 47, 49] S S' ∧ fr43 [8, 9] S S' ∧ ¬ gI S' 43 9 = 0 ∧ PR F L S' ∧ gI S' 43 8 = nI (bl b e 0).length ∧ ∀ i x : Nat, (bl b e 0)[i]? = some x → gI S' 47 i = nI x ∧ gI S' 49 i = nI (2 ^ F 0 5 - 1)) ?_ ?_ 0 (by omega) ⟨hT1, h43b, h9b, hPRb, h8, fun i x h => by simp [bl] at h⟩
    · rintro kk e S' he ⟨hf, f43, f9, fPR, f8, fr⟩ hkk
      unfold b_X3_choose_18
      have hE' : FE 21 F S' := FE21_fr hf (by simp) hE
      rw [hE'.1 0 (by omega), if_neg (nI_ge he (by omega)), if_neg (show ¬ (7 : Int32) ≤ nI e from nI_ge (b := 7) (by omega) (by omega))]
      have hs := bl_succ b e 0
      rw [Nat.zero_add] at hs
      have hlen := bl_len b e 0
      refine bN_if hb (by omega) (fun c => ?_) (fun c => ?_)
      · intro x hx
        rw [if_neg (by rw [c]; decide), List.append_nil] at hs
        refine hkk _ _ hx ⟨hf, f43, f9, fPR, by rw [hs]; exact f8, fun i x h => fr i x (by rw [hs] at h; exact h)⟩
      · rw [if_pos c] at hs
        rw [f8]
        refine e_put (by show _ < 7; omega) (by decide) ?_
        rw [gI_sI, if_neg (by omega), f8, gI_sI, if_neg (by omega), hE'.1 5 (by omega), bN_one (by omega)]
        have hp1 : 1 ≤ 2 ^ F 0 5 := Nat.one_le_two_pow
        rw [show nI (2 ^ F 0 5) - (1 : Int32) = nI (2 ^ F 0 5 - 1) from pk_sub (b := 1) hp1]
        refine e_put (by show _ < 49; omega) (by decide) ?_
        rw [gI_sI, if_neg (by omega), gI_sI, if_neg (by omega), f8, nI_1]
        intro S2 hS2 x hx
        have hl : (bl b (e + 1) 0).length = (bl b e 0).length + 1 := by rw [hs]; simp
        have hfa : frX [43, 45, 46, 47, 49] S S2 := by rw [hS2]; exact frX_sI (frX_sI (frX_sI hf (by decide)) (by decide)) (by decide)
        refine hkk _ _ hx ⟨hfa, fun j hj => ⟨?_, ?_⟩, ?_, ⟨fun x y hx hy => ?_, fun x y hx hy => ?_⟩, ?_, fun i x h => ?_⟩
        · rw [hS2, gI_sI, if_neg (fun q => hj (by rw [q.2]; decide)), gI_sI, if_neg (by omega), gI_sI, if_neg (by omega)]; exact (f43 j hj).1
        · rw [hS2, gJ_sI, gJ_sI, gJ_sI]; exact (f43 j hj).2
        · rw [hS2, gI_sI, if_neg (by omega), gI_sI, if_neg (by omega), gI_sI, if_neg (by omega)]; exact f9
        · rw [hS2, gI_sI, if_neg (by omega), gI_sI, if_neg (by omega), gI_sI, if_neg (by omega)]; exact fPR.1 x y hx hy
        · rw [hS2, gI_sI, if_neg (by omega), gI_sI, if_neg (by omega), gI_sI, if_neg (by omega)]; exact fPR.2 x y hx hy
        · rw [hS2, gI_sI, if_pos ⟨rfl, rfl⟩, hl]
        · rw [hs] at h
          rw [hS2, gI_sI, if_neg (by omega), gI_sI, if_neg (by omega), gI_sI, gI_sI, if_neg (c := (49 : Nat) = 43 ∧ i = 8) (by omega), gI_sI, gI_sI]
          by_cases ci : i = (bl b e 0).length
          · subst ci
            rw [List.getElem?_append_right (Nat.le_refl _), Nat.sub_self] at h
            have hx2 : e = x := by simpa using h
            subst hx2
            exact ⟨by rw [if_pos ⟨rfl, rfl⟩], by rw [if_pos ⟨rfl, rfl⟩]⟩
          · have hi : i < (bl b e 0).length := by
              have := (List.getElem?_eq_some_iff.mp h).1
              rw [List.length_append, List.length_singleton] at this
              omega
            rw [List.getElem?_append_left hi] at h
            rw [if_neg (fun q => ci q.2), if_neg (by omega), if_neg (fun q => ci q.2)]
            exact fr i x h
    · rintro kk S' ⟨hf, f43, f9, fPR, f8, fr⟩
      unfold b_X3_choose_18
      have hE' : FE 21 F S' := FE21_fr hf (by simp) hE
      rw [hE'.1 0 (by omega), if_pos (nI_le (Nat.le_refl _) (by omega))]
      exact hQ S' hf f43 f9 fPR f8 fr
  unfold w_X3_choose
  by_cases c : gI S 43 9 = 0
  · rw [if_pos c]
    refine e_prepare hn7 hF hE hZ ?_
    intro S' h1 h2 h3 h4
    exact key S' h1 h2 (by rw [h3]; decide) h4
  · rw [if_neg c]
    exact key S (frX_refl _ _) (fun j _ => ⟨rfl, rfl⟩) c (hPR.resolve_left c)
/-- the words that are open to an end -/
abbrev opn (F : Fm) (L : Nat → Nat) (acc : List (Nat × Nat)) (e : Nat) : Nat := bso (okA F L true acc e) (F 0 5)
/-- what the filler's search rests on -/
def WG (F : Fm) (L : Nat → Nat) (cs : List Nat) (S : St) : Prop := FE 21 F S ∧ PR F L S ∧ gI S 43 8 = nI cs.length ∧ ∀ i x : Nat, cs[i]? = some x → gI S 47 i = nI x
theorem WG_fr {F : Fm} {L : Nat → Nat} {cs : List Nat} {S S' : St} (hf : frX [48, 49] S S') (H : WG F L cs S) : WG F L cs S' := by
  obtain ⟨h1, h2, h3, h4⟩ := H
  refine ⟨FE21_fr hf (by simp) h1, ⟨fun a b ha hb => ?_, fun r w hr hw => ?_⟩, ?_, fun i x h => ?_⟩
  · rw [frX_g hf 46 _ (by decide)]; exact h2.1 a b ha hb
  · rw [frX_g hf 45 _ (by decide)]; exact h2.2 r w hr hw
  · rw [frX_g hf 43 8 (by decide)]; exact h3
  · rw [frX_g hf 47 i (by decide)]; exact h4 i x h
theorem opn_and (F : Fm) (L : Nat → Nat) (acc : List (Nat × Nat)) (e w x : Nat) : opn F L acc x &&& alw F (rel F L e x) w = opn F L ((e, w) :: acc) x := by
  refine Nat.eq_of_testBit_eq (fun i => ?_)
  rw [Nat.testBit_and, bso_bit, bso_bit, bso_bit, alw_cp]
  show _ = (decide (i < F 0 5) && (cp F L true e w x i && okA F L true acc x i))
  cases decide (i < F 0 5) <;> cases okA F L true acc x i <;> simp
theorem e_leavesOpen {F : Fm} {L : Nat → Nat} {cs : List Nat} {acc : List (Nat × Nat)} {r e w : Nat} {S : St} {Q : Int32 → St → Prop} (hn7 : F 0 0 ≤ 7) (hF : FW F) (hG : WG F L cs S) (hcs : ∀ x, x ∈ cs → x < F 0 0) (hlen : cs.length ≤ 7) (hr : cs[r]? = some e) (hw : w < F 0 5)
    (hop : ∀ i x : Nat, r ≤ i → cs[i]? = some x → gI S 49 (r * 7 + i) = nI (opn F L acc x))
    (h1 : ∀ S', frX [49] S S' → (∀ i, i < (r + 1) * 7 → gI S' 49 i = gI S 49 i) → (∀ i x : Nat, r + 1 ≤ i → cs[i]? = some x → gI S' 49 ((r + 1) * 7 + i) = nI (opn F L ((e, w) :: acc) x)) → Q 1 S')
    (h0 : ∀ S', frX [49] S S' → (∀ i, i < (r + 1) * 7 → gI S' 49 i = gI S 49 i) → (∃ i x : Nat, r + 1 ≤ i ∧ cs[i]? = some x ∧ opn F L ((e, w) :: acc) x = 0) → Q 0 S') :
    w_X3_leavesOpen (nI r) (nI w) S Q := by
  have hww := hF.1.2.2.2.2.2.2.1
  have hrl : r < cs.length := (List.getElem?_eq_some_iff.mp hr).1
  have he := hcs e (List.mem_of_getElem? hr)
  unfold w_X3_leavesOpen
  refine e_cell (by show r < 7; omega) (by decide) ?_
  rw [hG.2.2.2 r e hr]
  intro x1 hx1 x2 hx2 x3 hx3
  have e1 : x1 = nI (e * 7) := by rw [hx1, ← pk_mul]; rfl
  have e2 : x2 = nI (r * 7) := by rw [hx2, ← pk_mul]; rfl
  have e3 : x3 = nI (r + 1) := by rw [hx3, nI_1]
  subst e1; subst e2; subst e3
  refine up1 (B := b_X3_leavesOpen_23 (nI w) Q (nI (e * 7)) (nI (r * 7))) cs.length (by omega) (fun i S' => r + 1 ≤ i ∧ frX [49] S S' ∧ (∀ k, k < (r + 1) * 7 → gI S' 49 k = gI S 49 k) ∧ ∀ k x : Nat, r + 1 ≤ k → k < i → cs[k]? = some x → gI S' 49 ((r + 1) * 7 + k) = nI (opn F L ((e, w) :: acc) x)) ?_ ?_ (r + 1) (by omega) ⟨Nat.le_refl _, frX_refl _ _, fun _ _ => rfl, fun k x a b => by omega⟩
  · rintro kk i S' hi ⟨hri, hf, hlow, hset⟩ hkk
    unfold b_X3_leavesOpen_23
    have hG' := WG_fr (frX_sub hf (by simp)) hG
    obtain ⟨x, hx⟩ : ∃ x, cs[i]? = some x := ⟨_, List.getElem?_eq_some_iff.mpr ⟨hi, rfl⟩⟩
    have hxn := hcs x (List.mem_of_getElem? hx)
    have hrel := (rel_bits F L e x).1
    rw [hG'.2.2.1, if_neg (nI_ge hi (by omega))]
    refine e_cell (by show i < 7; omega) (by decide) ?_
    rw [hG'.2.2.2 i x hx, nI_add]
    refine e_cell (by show _ < 49; omega) (by decide) ?_
    rw [hG'.2.1.1 e x he hxn, nI_add]
    refine e_cell (by show _ < 49; omega) (by decide) ?_
    rw [hlow _ (by omega), hop i x (by omega) hx]
    have m1 : nI (rel F L e x) * (12 : Int32) + nI w = nI (rel F L e x * 12 + w) := by rw [← nI_add, ← pk_mul]; rfl
    rw [m1]
    refine e_cell (by show _ < 96; omega) (by decide) ?_
    rw [hG'.2.1.2 _ w hrel hw]
    intro y hy
    rw [bN_and, opn_and] at hy
    subst hy
    have m2 : nI (r * 7) + (7 : Int32) + nI i = nI ((r + 1) * 7 + i) := by rw [show (7 : Int32) = nI 7 from rfl, nI_add, nI_add]; congr 1; omega
    rw [m2]
    refine e_put (by show _ < 49; omega) (by decide) ?_
    have hlt : opn F L ((e, w) :: acc) x < 2 ^ F 0 5 := bso_lt _ _
    have hlt2 := pow12 hww hlt
    have hf2 : frX [49] S (sI S' 49 ((r + 1) * 7 + i) (nI (opn F L ((e, w) :: acc) x))) := frX_sI hf (by decide)
    have hlow2 : ∀ k, k < (r + 1) * 7 → gI (sI S' 49 ((r + 1) * 7 + i) (nI (opn F L ((e, w) :: acc) x))) 49 k = gI S 49 k := fun k hk => by rw [gI_sI, if_neg (by omega)]; exact hlow k hk
    refine nI_ifEq (y := 0) (by omega) (by omega) (fun c => ?_) (fun c => ?_)
    · exact h0 _ hf2 hlow2 ⟨i, x, hri, hx, c⟩
    · intro z hz
      refine hkk _ _ hz ⟨by omega, hf2, hlow2, fun k x' k1 k2 hk => ?_⟩
      rw [gI_sI]
      by_cases ck : k = i
      · subst ck
        rw [hx] at hk
        cases hk
        rw [if_pos ⟨rfl, rfl⟩]
      · rw [if_neg (by omega)]; exact hset k x' k1 (by omega) hk
  · rintro kk S' ⟨hri, hf, hlow, hset⟩
    unfold b_X3_leavesOpen_23
    have hG' := WG_fr (frX_sub hf (by simp)) hG
    rw [hG'.2.2.1, if_pos (nI_le (Nat.le_refl _) (by omega))]
    exact h1 S' hf hlow (fun i x a b => hset i x a (List.getElem?_eq_some_iff.mp b).1 b)
theorem lob_spec {x : Nat} (h : x < 4096) (h0 : x ≠ 0) : x.testBit (lob x) = true ∧ lob x < 12 ∧ ∀ j, j < lob x → x.testBit j = false := by
  obtain ⟨i, hi, hb⟩ := tb_pos (n := 12) h h0
  obtain ⟨g1, g2, g3, g4⟩ := fnd_spec (fun i => x.testBit i) 12 0 ⟨i, by omega, by omega, hb⟩
  exact ⟨g1, by unfold lob; omega, fun j hj => g4 j (by omega) hj⟩
theorem fsW_stay {α : Type} {g : Nat → Option α} {w : Nat} (h : (fsW g w).isSome = true) : ∀ m, w ≤ m → fsW g m = fsW g w
  | 0, e => by rw [show w = 0 by omega]
  | m + 1, e => by
    by_cases c : w = m + 1
    · rw [c]
    · have ih := fsW_stay h m (by omega)
      show (if (fsW g m).isSome then fsW g m else g m) = _
      rw [ih, if_pos h]
/-- the given words of ranks r and on are those of A -/
def gvn (cs : List Nat) (acc : List (Nat × Nat)) (r : Nat) (A : List (Nat × Nat)) (S : St) : Prop := ∀ p, p ∈ A → p ∈ acc ∨ ∃ i : Nat, r ≤ i ∧ cs[i]? = some p.1 ∧ gI S 48 i = nI p.2
theorem e_ways {F : Fm} {L : Nat → Nat} {one : Bool} {cs : List Nat} (hn7 : F 0 0 ≤ 7) (hF : FW F) (hcs : ∀ x, x ∈ cs → x < F 0 0) (hlen : cs.length ≤ 7) :
    ∀ (m r d : Nat) (acc : List (Nat × Nat)) (S : St) (Q : Int64 → St → Prop), r + m + 1 = cs.length → m < d → WG F L cs S → (∀ i x : Nat, r ≤ i → cs[i]? = some x → gI S 49 (r * 7 + i) = nI (opn F L acc x)) →
      (∀ S' v, frX [48, 49] S S' → (∀ i, i < r → gI S' 48 i = gI S 48 i) → (∀ i, i < (r + 1) * 7 → gI S' 49 i = gI S 49 i) → (one = false → v = lN (wys F L (cs.drop r) acc)) →
        (one = true → ∃ k, v = lN k ∧ k < 2 ^ 31 ∧ (0 < k ↔ 0 < wys F L (cs.drop r) acc) ∧ ∀ A, fst F L (cs.drop r) acc = some A → gvn cs acc r A S') → Q v S') →
      w_X3_ways d (nI r) (if one then 1 else 0) S Q := by
  have hww := hF.1.2.2.2.2.2.2.1
  intro m
  induction m with
  | zero =>
    intro r d acc S Q hrm hd hG hop hQ
    obtain ⟨d, rfl⟩ : ∃ d', d = d' + 1 := ⟨d - 1, by omega⟩
    obtain ⟨e, he⟩ : ∃ e, cs[r]? = some e := ⟨_, List.getElem?_eq_some_iff.mpr ⟨by omega, rfl⟩⟩
    have hdrop : cs.drop r = [e] := by
      rw [List.drop_eq_getElem_cons (by omega), List.drop_of_length_le (by omega)]
      rw [List.getElem?_eq_some_iff] at he
      rw [he.2]
    have hlt : opn F L acc e < 2 ^ F 0 5 := bso_lt _ _
    have hlt2 := pow12 hww hlt
    have hpc : pc (opn F L acc e) = wys F L [e] acc := by
      rw [pc_bso _ hww, cnt_smW]
      show _ = smW (fun w => if okA F L true acc e w then 1 else 0) (F 0 5)
      rfl
    have hpcl : pc (opn F L acc e) ≤ 12 := cnt_le _ _
    show u_X3_ways (w_X3_ways d) _ _ S Q
    unfold u_X3_ways
    rw [if_neg (nI_pos (by omega)), hG.2.2.1, if_neg (nI_ge (by omega) (by omega)), if_pos (show nI r < (7 : Int32) from nI_lt (b := 7) (by omega) (by omega))]
    have m1 : nI r * (7 : Int32) + nI r = nI (r * 7 + r) := by rw [← nI_add, ← pk_mul]; rfl
    rw [m1]
    refine e_cell (by show _ < 49; omega) (by decide) ?_
    rw [hop r e (Nat.le_refl _) he, hG.2.2.1, show nI cs.length - (1 : Int32) = nI (cs.length - 1) from pk_sub (b := 1) (by omega), if_pos (by rw [show cs.length - 1 = r by omega])]
    refine e_bitCount (e_put (by show _ < 7; omega) (by decide) (e_bitCount ?_))
    rw [jbc_pc hlt2, nI_l (by omega)]
    refine hQ _ _ (frX_sI (frX_refl _ _) (by decide)) (fun i hi => by rw [gI_sI, if_neg (by omega)]) (fun i hi => by rw [gI_sI, if_neg (by omega)]) (fun _ => by rw [hdrop, hpc]) (fun _ => ⟨_, rfl, by omega, by rw [hdrop, hpc], fun A hA p hp => ?_⟩)
    rw [hdrop] at hA
    by_cases c0 : opn F L acc e = 0
    · have : 0 < wys F L [e] acc := (wys_fst F L [e] acc).mpr (by rw [hA]; rfl)
      rw [← hpc, c0] at this
      exact absurd this (by decide)
    · obtain ⟨l1, l2, l3⟩ := lob_spec hlt2 c0
      have l1' := l1
      rw [bso_bit] at l1'
      have hwl : lob (opn F L acc e) < F 0 5 := by
        by_cases q : lob (opn F L acc e) < F 0 5
        · exact q
        · simp [q] at l1'
      have hok : okA F L true acc e (lob (opn F L acc e)) = true := by simpa [hwl] using l1'
      have hA2 : fst F L [e] acc = some ((e, lob (opn F L acc e)) :: acc) := by
        show fsW (fun w => if okA F L true acc e w then some ((e, w) :: acc) else none) (F 0 5) = _
        refine fsW_eq (w := lob (opn F L acc e)) (by show (if _ then _ else _) = _; rw [if_pos hok]) (fun v hv => ?_) _ hwl
        have := l3 v hv
        rw [bso_bit, decide_eq_true (show v < F 0 5 by omega), Bool.true_and] at this
        show (if _ then _ else _) = none
        rw [if_neg (by rw [this]; decide)]
      rw [hA2] at hA
      cases hA
      rcases List.mem_cons.mp hp with rfl | hp
      · refine Or.inr ⟨r, Nat.le_refl _, he, ?_⟩
        rw [gI_sI, if_pos ⟨rfl, rfl⟩, jbc_lob hlt2 c0]
      · exact Or.inl hp
  | succ m ih =>
    intro r d acc S Q hrm hd hG hop hQ
    obtain ⟨d, rfl⟩ : ∃ d', d = d' + 1 := ⟨d - 1, by omega⟩
    obtain ⟨e, he⟩ : ∃ e, cs[r]? = some e := ⟨_, List.getElem?_eq_some_iff.mpr ⟨by omega, rfl⟩⟩
    have hdrop : cs.drop r = e :: cs.drop (r + 1) := by
      rw [List.drop_eq_getElem_cons (by omega)]
      rw [List.getElem?_eq_some_iff] at he
      rw [he.2]
    have hlt : opn F L acc e < 2 ^ F 0 5 := bso_lt _ _
    have hlt2 := pow12 hww hlt
    rw [hdrop] at hQ
    have hwy : wys F L (e :: cs.drop (r + 1)) acc = smW (fun w => if okA F L true acc e w then wys F L (cs.drop (r + 1)) ((e, w) :: acc) else 0) (F 0 5) := rfl
    have hfs : fst F L (e :: cs.drop (r + 1)) acc = fsW (fun w => if okA F L true acc e w then fst F L (cs.drop (r + 1)) ((e, w) :: acc) else none) (F 0 5) := rfl
    have hbr : ∀ w, (0 < (if okA F L true acc e w then wys F L (cs.drop (r + 1)) ((e, w) :: acc) else 0) ↔ (if okA F L true acc e w then fst F L (cs.drop (r + 1)) ((e, w) :: acc) else none).isSome = true) := by
      intro w
      by_cases c : okA F L true acc e w = true
      · rw [if_pos c, if_pos c]; exact wys_fst F L _ _
      · rw [if_neg c, if_neg c]; simp
    have hsf : ∀ w, (0 < smW (fun w => if okA F L true acc e w then wys F L (cs.drop (r + 1)) ((e, w) :: acc) else 0) w ↔ (fsW (fun w => if okA F L true acc e w then fst F L (cs.drop (r + 1)) ((e, w) :: acc) else none) w).isSome = true) := by
      intro w
      rw [smW_pos, fsW_some]
      exact ⟨fun ⟨v, a, b⟩ => ⟨v, a, (hbr v).mp b⟩, fun ⟨v, a, b⟩ => ⟨v, a, (hbr v).mpr b⟩⟩
    show u_X3_ways (w_X3_ways d) _ _ S Q
    unfold u_X3_ways
    rw [if_neg (nI_pos (by omega)), hG.2.2.1, if_neg (nI_ge (by omega) (by omega)), if_pos (show nI r < (7 : Int32) from nI_lt (b := 7) (by omega) (by omega))]
    have m1 : nI r * (7 : Int32) + nI r = nI (r * 7 + r) := by rw [← nI_add, ← pk_mul]; rfl
    rw [m1]
    refine e_cell (by show _ < 49; omega) (by decide) ?_
    rw [hop r e (Nat.le_refl _) he, hG.2.2.1, show nI cs.length - (1 : Int32) = nI (cs.length - 1) from pk_sub (b := 1) (by omega), if_neg (fun q => by have := nI_inj (by omega) (by omega) q; omega)]
    refine up2 (B := b_X3_ways_73 (nI r) (if one then 1 else 0) (w_X3_ways d) Q (nI (opn F L acc e))) (F 0 5) (by omega) (fun w v S' => frX [48, 49] S S' ∧ (∀ i, i < r → gI S' 48 i = gI S 48 i) ∧ (∀ i, i < (r + 1) * 7 → gI S' 49 i = gI S 49 i) ∧ (one = false → v = lN (smW (fun w => if okA F L true acc e w then wys F L (cs.drop (r + 1)) ((e, w) :: acc) else 0) w)) ∧ (one = true → ∃ k, v = lN k ∧ k < 2 ^ 31 ∧ (0 < k ↔ 0 < smW (fun w => if okA F L true acc e w then wys F L (cs.drop (r + 1)) ((e, w) :: acc) else 0) w) ∧ ∀ A, fsW (fun w => if okA F L true acc e w then fst F L (cs.drop (r + 1)) ((e, w) :: acc) else none) w = some A → gvn cs acc r A S')) ?_ ?_ 0 _ (by omega) ⟨frX_refl _ _, fun _ _ => rfl, fun _ _ => rfl, fun _ => rfl, fun _ => ⟨0, rfl, by omega, by simp [smW], fun A hA => by simp [fsW] at hA⟩⟩
    · rintro kk w v S' hw ⟨hf, hg, hlow, hv0, hv1⟩ hkk
      unfold b_X3_ways_73
      have hG' := WG_fr hf hG
      have hE' := hG'.1
      rw [hE'.1 5 (by omega), if_neg (nI_ge hw (by omega))]
      have sm1 : smW (fun w => if okA F L true acc e w then wys F L (cs.drop (r + 1)) ((e, w) :: acc) else 0) (w + 1) = smW (fun w => if okA F L true acc e w then wys F L (cs.drop (r + 1)) ((e, w) :: acc) else 0) w + (if okA F L true acc e w then wys F L (cs.drop (r + 1)) ((e, w) :: acc) else 0) := rfl
      have fs1 : fsW (fun w => if okA F L true acc e w then fst F L (cs.drop (r + 1)) ((e, w) :: acc) else none) (w + 1) = if (fsW (fun w => if okA F L true acc e w then fst F L (cs.drop (r + 1)) ((e, w) :: acc) else none) w).isSome then fsW (fun w => if okA F L true acc e w then fst F L (cs.drop (r + 1)) ((e, w) :: acc) else none) w else (if okA F L true acc e w then fst F L (cs.drop (r + 1)) ((e, w) :: acc) else none) := rfl
      -- a word that leaves nothing adds nothing
      have none1 : ∀ S2, frX [48, 49] S S2 → (∀ i, i < (r + 1) * 7 → gI S2 49 i = gI S 49 i) → (∀ i, gI S2 48 i = gI S' 48 i) → (if okA F L true acc e w then wys F L (cs.drop (r + 1)) ((e, w) :: acc) else 0) = 0 → ∀ x, x = nI w + 1 → kk v x S2 := by
        intro S2 a b c z x hx
        have zf : (if okA F L true acc e w then fst F L (cs.drop (r + 1)) ((e, w) :: acc) else none) = none := by
          cases q : (if okA F L true acc e w then fst F L (cs.drop (r + 1)) ((e, w) :: acc) else none) with
          | none => rfl
          | some A => have := (hbr w).mpr (by rw [q]; rfl); omega
        have fs2 : fsW (fun w => if okA F L true acc e w then fst F L (cs.drop (r + 1)) ((e, w) :: acc) else none) (w + 1) = fsW (fun w => if okA F L true acc e w then fst F L (cs.drop (r + 1)) ((e, w) :: acc) else none) w := by
          rw [fs1, zf]
          cases q : fsW (fun w => if okA F L true acc e w then fst F L (cs.drop (r + 1)) ((e, w) :: acc) else none) w with
          | none => rfl
          | some A => rfl
        refine hkk _ _ _ hx ⟨a, fun i hi => by rw [c]; exact hg i hi, b, fun h => ?_, fun h => ?_⟩
        · rw [sm1, z]; exact hv0 h
        · obtain ⟨k, k1, k2, k3, k4⟩ := hv1 h
          refine ⟨k, k1, k2, ?_, fun A hA => ?_⟩
          · rw [sm1, z]; exact k3
          · rw [fs2] at hA
            intro p hp
            rcases k4 A hA p hp with q | ⟨i, i1, i2, i3⟩
            · exact Or.inl q
            · exact Or.inr ⟨i, i1, i2, by rw [c]; exact i3⟩
      -- one word more is tried
      have try1 : (one = true → v = lN 0 ∧ smW (fun w => if okA F L true acc e w then wys F L (cs.drop (r + 1)) ((e, w) :: acc) else 0) w = 0) → w_X3_ways_96 (nI r) (if one then 1 else 0) (w_X3_ways d) kk (nI (opn F L acc e)) v (nI w) S' := by
        intro hone
        unfold w_X3_ways_96
        refine bN_if (by omega) (by omega) (fun c => ?_) (fun c => ?_)
        · rw [bso_bit, decide_eq_true hw, Bool.true_and] at c
          exact none1 S' hf hlow (fun _ => rfl) (by rw [if_neg (by rw [c]; decide)])
        · rw [bso_bit, decide_eq_true hw, Bool.true_and] at c
          unfold w_X3_waysWith
          refine e_leavesOpen (acc := acc) hn7 hF hG' hcs hlen he hw (fun i x a b => by rw [hlow _ (by have := (List.getElem?_eq_some_iff.mp b).1; omega)]; exact hop i x a b) ?_ ?_
          · intro S2 hf2 hl2 hs2
            rw [if_neg (by decide)]
            refine e_put (by show _ < 7; omega) (by decide) ?_
            have hf3 : frX [48, 49] S (sI S2 48 r (nI w)) := frX_sI (frX_trans hf (frX_sub hf2 (by simp))) (by decide)
            rw [nI_1]
            refine ih (r + 1) d ((e, w) :: acc) _ _ (by omega) (by omega) (WG_fr hf3 hG) (fun i x a b => by rw [gI_sI, if_neg (by omega)]; exact hs2 i x a b) ?_
            intro S4 v4 k1 k2 k3 k4 k5 x hx y hy
            have hf4 := frX_trans hf3 k1
            have hg4 : ∀ i, i < r → gI S4 48 i = gI S 48 i := fun i hi => by
              rw [k2 i (by omega), gI_sI, if_neg (by omega), frX_g hf2 48 i (by decide)]; exact hg i hi
            have hr4 : gI S4 48 r = nI w := by rw [k2 r (by omega), gI_sI, if_pos ⟨rfl, rfl⟩]
            have hl4 : ∀ i, i < (r + 1) * 7 → gI S4 49 i = gI S 49 i := fun i hi => by
              rw [k3 i (by omega), gI_sI, if_neg (by omega), hl2 i hi]; exact hlow i hi
            refine hkk _ _ _ hy ⟨hf4, hg4, hl4, fun h => ?_, fun h => ?_⟩
            · rw [hx, hv0 h, k4 h, lN_add, sm1, if_pos c]
            · obtain ⟨k, q1, q2, q3, q4⟩ := k5 h
              obtain ⟨z1, z2⟩ := hone h
              refine ⟨k, ?_, q2, ?_, fun A hA => ?_⟩
              · rw [hx, z1, q1, lN_add, Nat.zero_add]
              · rw [sm1, if_pos c, z2, Nat.zero_add]; exact q3
              · have hn0 : fsW (fun w => if okA F L true acc e w then fst F L (cs.drop (r + 1)) ((e, w) :: acc) else none) w = none := by
                  cases q : fsW (fun w => if okA F L true acc e w then fst F L (cs.drop (r + 1)) ((e, w) :: acc) else none) w with
                  | none => rfl
                  | some A => have := (hsf w).mpr (by rw [q]; rfl); omega
                rw [fs1, hn0, if_pos c] at hA
                intro p hp
                rcases q4 A hA p hp with q | ⟨i, i1, i2, i3⟩
                · rcases List.mem_cons.mp q with rfl | q
                  · exact Or.inr ⟨r, Nat.le_refl _, he, hr4⟩
                  · exact Or.inl q
                · exact Or.inr ⟨i, by omega, i2, i3⟩
          · rintro S2 hf2 hl2 ⟨i, x, i1, i2, i3⟩
            rw [if_pos rfl]
            intro y hy
            have hy0 : y = v := by rw [hy]; exact Int64.add_zero v
            subst hy0
            refine none1 S2 (frX_trans hf (frX_sub hf2 (by simp))) (fun i hi => by rw [hl2 i hi]; exact hlow i hi) (fun i => frX_g hf2 48 i (by decide)) ?_
            rw [if_pos c]
            refine wys_zero F L (e' := x) _ _ ?_ (fun w' hw' => ?_)
            · refine List.mem_of_getElem? (i := i - (r + 1)) ?_
              rw [List.getElem?_drop, show r + 1 + (i - (r + 1)) = i by omega]
              exact i2
            · have : (opn F L ((e, w) :: acc) x).testBit w' = (decide (w' < F 0 5) && okA F L true ((e, w) :: acc) x w') := bso_bit _ _ _
              rw [i3, Nat.zero_testBit, decide_eq_true hw', Bool.true_and] at this
              exact this.symm
      cases hone : one with
      | false =>
        subst hone
        rw [if_pos (by decide)]
        exact try1 (fun h => by cases h)
      | true =>
        subst hone
        rw [if_neg (by decide)]
        obtain ⟨k, k1, k2, k3, k4⟩ := hv1 rfl
        by_cases c : 0 < k
        · rw [k1, if_pos (show (0 : Int64) < lN k from (pk_lLT (a := 0) (by omega) (by omega)).mpr c), ← k1]
          have hs := (hsf w).mp (k3.mp c)
          have hst := fsW_stay hs (F 0 5) (by omega)
          refine hQ S' v hf hg hlow (fun h => by cases h) (fun _ => ⟨k, k1, k2, ?_, fun A hA => k4 A ?_⟩)
          · refine ⟨fun _ => ?_, fun _ => c⟩
            rw [hwy, hsf, hst]; exact hs
          · rw [hfs, hst] at hA; exact hA
        · rw [k1, if_neg (show ¬ (0 : Int64) < lN k from fun q => c ((pk_lLT (a := 0) (by omega) (by omega)).mp q)), ← k1]
          refine try1 (fun _ => ⟨by rw [k1, show k = 0 by omega], ?_⟩)
          have : ¬ 0 < smW (fun w => if okA F L true acc e w then wys F L (cs.drop (r + 1)) ((e, w) :: acc) else 0) w := fun q => c (k3.mpr q)
          omega
    · rintro kk v S' ⟨hf, hg, hlow, hv0, hv1⟩
      unfold b_X3_ways_73
      have hG' := WG_fr hf hG
      rw [hG'.1.1 5 (by omega), if_pos (nI_le (Nat.le_refl _) (by omega))]
      exact hQ S' v hf hg hlow hv0 hv1
