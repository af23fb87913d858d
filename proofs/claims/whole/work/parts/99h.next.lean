/-! ===== pure: the reference's nextToken ===== -/
def FT (S S' : St) : Prop := (∀ a j, ¬ (a = 0 ∧ (j = 4 ∨ j = 5 ∨ j = 6 ∨ j = 8)) → gI S' a j = gI S a j) ∧ (∀ a j, ¬ (a = 0 ∧ j = 7) → gJ S' a j = gJ S a j)
theorem FT_refl (S : St) : FT S S := ⟨fun _ _ _ => rfl, fun _ _ _ => rfl⟩
theorem FT_trans {S T U : St} (h : FT S T) (g : FT T U) : FT S U := ⟨fun a j q => (g.1 a j q).trans (h.1 a j q), fun a j q => (g.2 a j q).trans (h.2 a j q)⟩
theorem FT_sI {S T : St} {j : Nat} {v : Int32} (h : FT S T) (hj : j = 4 ∨ j = 5 ∨ j = 6 ∨ j = 8) : FT S (sI T 0 j v) :=
  ⟨fun a i q => by rw [gI_sI, if_neg (fun z => q ⟨z.1, by rw [z.2]; exact hj⟩)]; exact h.1 a i q, fun a i q => by rw [gJ_sI]; exact h.2 a i q⟩
theorem FT_sJ {S T : St} {v : Int64} (h : FT S T) : FT S (sJ T 0 7 v) :=
  ⟨fun a i q => by rw [gI_sJ]; exact h.1 a i q, fun a i q => by rw [gJ_sJ, if_neg q]; exact h.2 a i q⟩
def SgM (t : Nat) (sg : Nat → Nat) (S : St) : Prop := t ≤ 1000 ∧ gI S 0 3 = nI t ∧ ∀ j, j < t → sg j < 127 ∧ gI S 1 j = nI (sg j)
theorem SgM_FT {t : Nat} {sg : Nat → Nat} {S S' : St} (h : SgM t sg S) (q : FT S S') : SgM t sg S' :=
  ⟨h.1, by rw [q.1 0 3 (by omega)]; exact h.2.1, fun j hj => ⟨(h.2.2 j hj).1, by rw [q.1 1 j (by omega)]; exact (h.2.2 j hj).2⟩⟩
def v27 (sg : Nat → Nat) (t s : Nat) : Nat := valB 27 96 sg s (tend sg t s - s)
/-- the token that starts at s lies in M's cells -/
def TM (sg : Nat → Nat) (t s : Nat) (S : St) : Prop := gI S 0 4 = nI (tend sg t s) ∧ gI S 0 5 = nI s ∧ gI S 0 6 = nI (tkind sg t s) ∧ (tkind sg t s = 1 → gJ S 0 7 = lN (v27 sg t s)) ∧ (tkind sg t s = 2 → gI S 0 8 = nI (v10 sg t s))
def sgA (sg : Nat → Nat) (t i : Nat) : Nat := if i < t then sg i else 0
theorem m_signAt9 {t : Nat} {sg : Nat → Nat} {i : Nat} {S : St} {Q : Int32 → St → Prop} (h : SgM t sg S) (hi : i ≤ t) (hQ : Q (nI (sgA sg t i)) S) : w_X12_signAt (nI i) S Q := by
  have := h.1
  unfold w_X12_signAt
  rw [h.2.1]
  unfold sgA at hQ
  refine nI_if (by omega) (by omega) (fun q => ?_) (fun q => ?_)
  · rw [if_neg (by omega)] at hQ; exact hQ
  · rw [if_pos q] at hQ
    rw [nI_clamp (by omega), (h.2.2 i q).2]
    exact ⟨vp_in_nI (by omega) (by omega), hQ⟩
theorem sgA_lt {t : Nat} {sg : Nat → Nat} {S : St} (h : SgM t sg S) (i : Nat) : sgA sg t i < 127 := by
  unfold sgA
  split
  · rename_i q; exact (h.2.2 i q).1
  · omega
theorem m_word {sg : Nat → Nat} {t s : Nat} {S0 S : St} {Q : St → Prop} (hM : SgM t sg S) (hs : s < t) (hl : isL (sg s) = true) (h4 : gI S 0 4 = nI s) (h5 : gI S 0 5 = nI s) (h7 : gJ S 0 7 = 0) (hf : FT S0 S) (hQ : ∀ S', FT S0 S' → TM sg t s S' → Q S') : w_X12_nextToken_109 Q S := by
  have ht := hM.1
  have te : tend sg t s = run isL sg t s := by unfold tend; rw [if_pos hs, if_pos hl]
  have tk : tkind sg t s = if run isL sg t s - s ≤ 8 then 1 else 4 := by unfold tkind; rw [if_pos hs, if_pos hl]
  have fin : ∀ (n : Nat) (S1 : St), s + n ≤ t → run isL sg t s = s + n → gI S1 0 4 = nI (s + n) → gI S1 0 5 = nI s → gJ S1 0 7 = lN (valB 27 96 sg s (min n 8)) → FT S0 S1 → w_X12_nextToken_188 Q S1 := by
    intro n S1 b1 b2 b4 b5 b6 b7
    unfold w_X12_nextToken_188
    rw [b4, b5, pk_sub (by omega), show s + n - s = n by omega]
    rw [b2, show s + n - s = n by omega] at tk
    refine nI_if (y := 8) (by omega) (by omega) (fun q => ?_) (fun q => ?_)
    · rw [if_pos q] at tk
      intro S2 e2
      refine hQ S2 (by rw [e2]; exact FT_sI b7 (by omega)) ⟨?_, ?_, ?_, fun _ => ?_, fun z => by omega⟩
      · rw [e2, gI_sI, if_neg (by omega), b4, te, b2]
      · rw [e2, gI_sI, if_neg (by omega), b5]
      · rw [e2, gI_sI, if_pos ⟨rfl, rfl⟩, tk]; rfl
      · rw [e2, gJ_sI, b6]; unfold v27; rw [te, b2, show s + n - s = n by omega, Nat.min_eq_left q]
    · rw [if_neg (by omega)] at tk
      intro S2 e2
      refine hQ S2 (by rw [e2]; exact FT_sI b7 (by omega)) ⟨?_, ?_, ?_, fun z => by omega, fun z => by omega⟩
      · rw [e2, gI_sI, if_neg (by omega), b4, te, b2]
      · rw [e2, gI_sI, if_neg (by omega), b5]
      · rw [e2, gI_sI, if_pos ⟨rfl, rfl⟩, tk]; rfl
  unfold w_X12_nextToken_109
  refine loopG0 (fun g S1 => ∃ n, g = t - n ∧ s + n ≤ t ∧ run isL sg t s = run isL sg t (s + n) ∧ gI S1 0 4 = nI (s + n) ∧ gI S1 0 5 = nI s ∧ gJ S1 0 7 = lN (valB 27 96 sg s (min n 8)) ∧ FT S0 S1 ∧ SgM t sg S1) ?_ t ⟨0, by omega, by omega, rfl, h4, h5, h7, hf, hM⟩
  rintro k g S1 ⟨n, rfl, b1, b2, b4, b5, b6, b7, b8⟩ hk
  unfold b_X12_nextToken_109
  have sm := sgA_lt b8 (s + n)
  rw [b4]
  refine m_signAt9 b8 b1 ?_
  have stop : ¬ (s + n < t ∧ isL (sg (s + n)) = true) → w_X12_nextToken_188 Q S1 := by
    intro q
    refine fin n S1 b1 ?_ b4 b5 b6 b7
    rw [b2]
    by_cases z : s + n < t
    · exact run_stop (fun y => q ⟨z, y⟩)
    · exact run_end (by omega)
  refine nI_ifLt (y := 97) (by omega) (by omega) (fun q => stop (fun z => ?_)) (fun q => ?_)
  · have := of_decide_eq_true z.2
    unfold sgA at q; rw [if_pos z.1] at q; omega
  rw [b4]
  refine m_signAt9 b8 b1 ?_
  refine nI_ifLt (x := 122) (by omega) (by omega) (fun q2 => stop (fun z => ?_)) (fun q2 => ?_)
  · have := of_decide_eq_true z.2
    unfold sgA at q2; rw [if_pos z.1] at q2; omega
  have hlt : s + n < t := by
    unfold sgA at q
    by_cases z : s + n < t
    · exact z
    · rw [if_neg z] at q; omega
  have hA : sgA sg t (s + n) = sg (s + n) := by unfold sgA; rw [if_pos hlt]
  have c : isL (sg (s + n)) = true := by rw [← hA]; exact decide_eq_true ⟨q, q2⟩
  rw [b4, b5, pk_sub (by omega), show s + n - s = n by omega]
  have step : ∀ S2, gI S2 0 4 = nI (s + n) → gI S2 0 5 = nI s → gJ S2 0 7 = lN (valB 27 96 sg s (min (n + 1) 8)) → FT S0 S2 → SgM t sg S2 → w_X12_nextToken_175 k S2 := by
    intro S2 c1 c2 c3 c4 c5 S3 e3
    rw [c1, nI_1] at e3
    refine hk (t - (n + 1)) _ ⟨n + 1, rfl, by omega, by rw [b2, run_go hlt c]; rfl, by rw [e3, gI_sI, if_pos ⟨rfl, rfl⟩]; rfl, by rw [e3, gI_sI, if_neg (by omega)]; exact c2, by rw [e3, gJ_sI]; exact c3, by rw [e3]; exact FT_sI c4 (by omega), ?_⟩ (by omega)
    rw [e3]; exact SgM_FT c5 (FT_sI (FT_refl _) (by omega))
  refine nI_if (x := 8) (by omega) (by omega) (fun q3 => ?_) (fun q3 => ?_)
  · refine step S1 b4 b5 ?_ b7 b8
    rw [b6, Nat.min_eq_right q3, Nat.min_eq_right (by omega)]
  · refine m_signAt9 b8 b1 ?_
    intro S2 e2
    rw [b6, Nat.min_eq_left (by omega), nI_l (by omega), show (27 : Int64) = lN 27 from rfl, show (96 : Int64) = lN 96 from rfl, lN_mul, lN_add, lN_sub (by omega), hA] at e2
    refine step S2 (by rw [e2, gI_sJ]; exact b4) (by rw [e2, gI_sJ]; exact b5) ?_ (by rw [e2]; exact FT_sJ b7) (by rw [e2]; exact SgM_FT b8 (FT_sJ (FT_refl _)))
    rw [e2, gJ_sJ, if_pos ⟨rfl, rfl⟩, Nat.min_eq_left (by omega)]
    show _ = lN (valB 27 96 sg s n * 27 + (sg (s + n) - 96))
    rw [hA] at q
    congr 1; omega
theorem m_number {sg : Nat → Nat} {t s : Nat} {S0 S : St} {Q : St → Prop} (hM : SgM t sg S) (hs : s < t) (hl : ¬ isL (sg s) = true) (hd : isD (sg s) = true) (h4 : gI S 0 4 = nI s) (h5 : gI S 0 5 = nI s) (h8 : gI S 0 8 = 0) (hf : FT S0 S) (hQ : ∀ S', FT S0 S' → TM sg t s S' → Q S') : w_X12_nextToken_224 Q S := by
  have ht := hM.1
  have te : tend sg t s = run isD sg t s := by unfold tend; rw [if_pos hs, if_neg hl, if_pos hd]
  have tk : tkind sg t s = if run isD sg t s - s ≤ 4 then 2 else 4 := by unfold tkind; rw [if_pos hs, if_neg hl, if_pos hd]
  have fin : ∀ (n : Nat) (S1 : St), s + n ≤ t → run isD sg t s = s + n → gI S1 0 4 = nI (s + n) → gI S1 0 5 = nI s → gI S1 0 8 = nI (valB 10 48 sg s (min n 4)) → FT S0 S1 → w_X12_nextToken_299 Q S1 := by
    intro n S1 b1 b2 b4 b5 b6 b7
    unfold w_X12_nextToken_299
    rw [b4, b5, pk_sub (by omega), show s + n - s = n by omega]
    rw [b2, show s + n - s = n by omega] at tk
    refine nI_if (y := 4) (by omega) (by omega) (fun q => ?_) (fun q => ?_)
    · rw [if_pos q] at tk
      intro S2 e2
      refine hQ S2 (by rw [e2]; exact FT_sI b7 (by omega)) ⟨?_, ?_, ?_, fun z => by omega, fun _ => ?_⟩
      · rw [e2, gI_sI, if_neg (by omega), b4, te, b2]
      · rw [e2, gI_sI, if_neg (by omega), b5]
      · rw [e2, gI_sI, if_pos ⟨rfl, rfl⟩, tk]; rfl
      · rw [e2, gI_sI, if_neg (by omega), b6]; unfold v10; rw [te, b2, show s + n - s = n by omega, Nat.min_eq_left q]
    · rw [if_neg (by omega)] at tk
      intro S2 e2
      refine hQ S2 (by rw [e2]; exact FT_sI b7 (by omega)) ⟨?_, ?_, ?_, fun z => by omega, fun z => by omega⟩
      · rw [e2, gI_sI, if_neg (by omega), b4, te, b2]
      · rw [e2, gI_sI, if_neg (by omega), b5]
      · rw [e2, gI_sI, if_pos ⟨rfl, rfl⟩, tk]; rfl
  unfold w_X12_nextToken_224
  refine loopG0 (fun g S1 => ∃ n, g = t - n ∧ s + n ≤ t ∧ run isD sg t s = run isD sg t (s + n) ∧ gI S1 0 4 = nI (s + n) ∧ gI S1 0 5 = nI s ∧ gI S1 0 8 = nI (valB 10 48 sg s (min n 4)) ∧ FT S0 S1 ∧ SgM t sg S1) ?_ t ⟨0, by omega, by omega, rfl, h4, h5, h8, hf, hM⟩
  rintro k g S1 ⟨n, rfl, b1, b2, b4, b5, b6, b7, b8⟩ hk
  unfold b_X12_nextToken_224
  have sm := sgA_lt b8 (s + n)
  rw [b4]
  refine m_signAt9 b8 b1 ?_
  have stop : ¬ (s + n < t ∧ isD (sg (s + n)) = true) → w_X12_nextToken_299 Q S1 := by
    intro q
    refine fin n S1 b1 ?_ b4 b5 b6 b7
    rw [b2]
    by_cases z : s + n < t
    · exact run_stop (fun y => q ⟨z, y⟩)
    · exact run_end (by omega)
  refine nI_ifLt (y := 48) (by omega) (by omega) (fun q => stop (fun z => ?_)) (fun q => ?_)
  · have := of_decide_eq_true z.2
    unfold sgA at q; rw [if_pos z.1] at q; omega
  rw [b4]
  refine m_signAt9 b8 b1 ?_
  refine nI_ifLt (x := 57) (by omega) (by omega) (fun q2 => stop (fun z => ?_)) (fun q2 => ?_)
  · have := of_decide_eq_true z.2
    unfold sgA at q2; rw [if_pos z.1] at q2; omega
  have hlt : s + n < t := by
    unfold sgA at q
    by_cases z : s + n < t
    · exact z
    · rw [if_neg z] at q; omega
  have hA : sgA sg t (s + n) = sg (s + n) := by unfold sgA; rw [if_pos hlt]
  have c : isD (sg (s + n)) = true := by rw [← hA]; exact decide_eq_true ⟨q, q2⟩
  rw [b4, b5, pk_sub (by omega), show s + n - s = n by omega]
  have step : ∀ S2, gI S2 0 4 = nI (s + n) → gI S2 0 5 = nI s → gI S2 0 8 = nI (valB 10 48 sg s (min (n + 1) 4)) → FT S0 S2 → SgM t sg S2 → w_X12_nextToken_286 k S2 := by
    intro S2 c1 c2 c3 c4 c5 S3 e3
    rw [c1, nI_1] at e3
    refine hk (t - (n + 1)) _ ⟨n + 1, rfl, by omega, by rw [b2, run_go hlt c]; rfl, by rw [e3, gI_sI, if_pos ⟨rfl, rfl⟩]; rfl, by rw [e3, gI_sI, if_neg (by omega)]; exact c2, by rw [e3, gI_sI, if_neg (by omega)]; exact c3, by rw [e3]; exact FT_sI c4 (by omega), ?_⟩ (by omega)
    rw [e3]; exact SgM_FT c5 (FT_sI (FT_refl _) (by omega))
  refine nI_if (x := 4) (by omega) (by omega) (fun q3 => ?_) (fun q3 => ?_)
  · refine step S1 b4 b5 ?_ b7 b8
    rw [b6, Nat.min_eq_right q3, Nat.min_eq_right (by omega)]
  · refine m_signAt9 b8 b1 ?_
    intro S2 e2
    rw [b6, Nat.min_eq_left (by omega), show (10 : Int32) = nI 10 from rfl, show (48 : Int32) = nI 48 from rfl, pk_mul, nI_add, pk_sub (by omega), hA] at e2
    refine step S2 (by rw [e2, gI_sI, if_neg (by omega)]; exact b4) (by rw [e2, gI_sI, if_neg (by omega)]; exact b5) ?_ (by rw [e2]; exact FT_sI b7 (by omega)) (by rw [e2]; exact SgM_FT b8 (FT_sI (FT_refl _) (by omega)))
    rw [e2, gI_sI, if_pos ⟨rfl, rfl⟩, Nat.min_eq_left (by omega)]
    show _ = nI (valB 10 48 sg s n * 10 + (sg (s + n) - 48))
    rw [hA] at q
    congr 1; omega
theorem m_sign {sg : Nat → Nat} {t s : Nat} {S0 S : St} {Q : St → Prop} (hM : SgM t sg S) (hs : s < t) (hl : ¬ isL (sg s) = true) (hd : ¬ isD (sg s) = true) (h4 : gI S 0 4 = nI s) (h5 : gI S 0 5 = nI s) (hf : FT S0 S) (hQ : ∀ S', FT S0 S' → TM sg t s S' → Q S') : w_X12_nextToken_322 Q (nI (sg s)) S := by
  have ht := hM.1
  have sm := (hM.2.2 s hs).1
  have te : tend sg t s = s + 1 := by unfold tend; rw [if_pos hs, if_neg hl, if_neg hd]
  have tk : tkind sg t s = if isSg (sg s) = true then 3 else 4 := by unfold tkind; rw [if_pos hs, if_neg hl, if_neg hd]
  intro S1 e1
  rw [h4, nI_1] at e1
  have fin : ∀ (c : Nat), c = (if isSg (sg s) = true then 3 else 4) → ∀ S2, S2 = sI S1 0 6 (nI c) → Q S2 := by
    intro c hc S2 e2
    rw [← tk] at hc
    refine hQ S2 (by rw [e2, e1]; exact FT_sI (FT_sI hf (by omega)) (by omega)) ⟨?_, ?_, ?_, fun z => ?_, fun z => ?_⟩
    · rw [e2, gI_sI, if_neg (by omega), e1, gI_sI, if_pos ⟨rfl, rfl⟩, te]
    · rw [e2, gI_sI, if_neg (by omega), e1, gI_sI, if_neg (by omega)]; exact h5
    · rw [e2, gI_sI, if_pos ⟨rfl, rfl⟩, hc]
    · rw [z] at tk; split at tk <;> omega
    · rw [z] at tk; split at tk <;> omega
  have f3 : isSg (sg s) = true → ∀ S2, S2 = sI S1 0 6 (3 : Int32) → Q S2 := fun q => fin 3 (by rw [if_pos q])
  have f4 : ¬ isSg (sg s) = true → ∀ S2, S2 = sI S1 0 6 (4 : Int32) → Q S2 := fun q => fin 4 (by rw [if_neg q])
  have rest : ¬ (40 ≤ sg s ∧ sg s ≤ 43) → w_X12_nextToken_345 Q (nI (sg s)) S1 := by
    intro hn
    unfold w_X12_nextToken_345
    refine nI_ifEq (y := 45) (by omega) (by omega) (fun q => f3 (by simp [isSg]; omega)) (fun q => ?_)
    refine nI_ifLt (y := 59) (by omega) (by omega) (fun q2 => f4 (by simp [isSg]; omega)) (fun q2 => ?_)
    exact nI_ifLt (x := 61) (by omega) (by omega) (fun q3 => f4 (by simp [isSg]; omega)) (fun q3 => f3 (by simp [isSg]; omega))
  refine nI_ifLt (y := 40) (by omega) (by omega) (fun q => rest (by omega)) (fun q => ?_)
  exact nI_if (y := 43) (by omega) (by omega) (fun q2 => f3 (by simp [isSg]; omega)) (fun q2 => rest (by omega))
theorem m_nextToken {sg : Nat → Nat} {t b : Nat} {S : St} {Q : St → Prop} (hM : SgM t sg S) (hb : b ≤ t) (h4 : gI S 0 4 = nI b) (hQ : ∀ S', FT S S' → TM sg t (run isBl sg t b) S' → Q S') : w_X12_nextToken S Q := by
  have ht := hM.1
  have fin : ∀ (s : Nat) (S1 : St), s ≤ t → run isBl sg t b = s → gI S1 0 4 = nI s → FT S S1 → w_X12_nextToken_52 Q S1 := by
    intro s S1 b1 b2 b3 b4 S2 e2 S3 e3 S4 e4
    rw [b2] at hQ
    have f4 : FT S S4 := by rw [e4, e3, e2]; exact FT_sI (FT_sJ (FT_sI b4 (by omega))) (by omega)
    have g4 : gI S4 0 4 = nI s := by rw [e4, gI_sI, if_neg (by omega), e3, gI_sJ, e2, gI_sI, if_neg (by omega)]; exact b3
    have g5 : gI S4 0 5 = nI s := by rw [e4, gI_sI, if_neg (by omega), e3, gI_sJ, e2, gI_sI, if_pos ⟨rfl, rfl⟩]; exact b3
    have g7 : gJ S4 0 7 = 0 := by rw [e4, gJ_sI, e3, gJ_sJ, if_pos ⟨rfl, rfl⟩]
    have g8 : gI S4 0 8 = 0 := by rw [e4, gI_sI, if_pos ⟨rfl, rfl⟩]
    have hM4 := SgM_FT hM f4
    rw [g4, hM4.2.1]
    refine nI_ifEq (by omega) (by omega) (fun q => ?_) (fun q => ?_)
    · intro S5 e5
      have tk : tkind sg t s = 0 := by unfold tkind; rw [if_neg (by omega)]
      have te : tend sg t s = s := by unfold tend; rw [if_neg (by omega)]
      refine hQ S5 (by rw [e5]; exact FT_sI f4 (by omega)) ⟨?_, ?_, ?_, fun z => by omega, fun z => by omega⟩
      · rw [e5, gI_sI, if_neg (by omega), te]; exact g4
      · rw [e5, gI_sI, if_neg (by omega)]; exact g5
      · rw [e5, gI_sI, if_pos ⟨rfl, rfl⟩, tk]; rfl
    · have hs : s < t := by omega
      rw [nI_clamp (by omega), (hM4.2.2 s hs).2]
      refine ⟨vp_in_nI (by omega) (by omega), ?_⟩
      rintro x rfl
      have sm := (hM4.2.2 s hs).1
      have notL : ¬ isL (sg s) = true → w_X12_nextToken_212 Q (nI (sg s)) S4 := by
        intro hl
        have sgn : ¬ isD (sg s) = true → w_X12_nextToken_322 Q (nI (sg s)) S4 := fun hd => m_sign hM4 hs hl hd g4 g5 f4 hQ
        unfold w_X12_nextToken_212
        refine nI_ifLt (y := 48) (by omega) (by omega) (fun q1 => sgn (by simp [isD]; omega)) (fun q1 => ?_)
        exact nI_ifLt (x := 57) (by omega) (by omega) (fun q2 => sgn (by simp [isD]; omega)) (fun q2 => m_number hM4 hs hl (by simp [isD]; omega) g4 g5 g8 f4 hQ)
      refine nI_ifLt (y := 97) (by omega) (by omega) (fun q1 => notL (by simp [isL]; omega)) (fun q1 => ?_)
      exact nI_ifLt (x := 122) (by omega) (by omega) (fun q2 => notL (by simp [isL]; omega)) (fun q2 => m_word hM4 hs (by simp [isL]; omega) g4 g5 g7 f4 hQ)
  unfold w_X12_nextToken w_X12_nextToken_0
  refine loopG0 (fun g S1 => ∃ c, g = t - c ∧ c ≤ t ∧ run isBl sg t b = run isBl sg t c ∧ gI S1 0 4 = nI c ∧ FT S S1) ?_ (t - b) ⟨b, rfl, hb, rfl, h4, FT_refl _⟩
  rintro k g S1 ⟨c, rfl, b1, b2, b3, b4⟩ hk
  have hM1 := SgM_FT hM b4
  unfold b_X12_nextToken_0
  rw [hM1.2.1, b3]
  refine nI_if (by omega) (by omega) (fun q => fin c S1 b1 (by rw [b2]; exact run_end q) b3 b4) (fun q => ?_)
  rw [nI_clamp (by omega), (hM1.2.2 c q).2]
  have sm := (hM1.2.2 c q).1
  have go : isBl (sg c) = true → w_X12_nextToken_39 k S1 := by
    intro hbl S2 e2
    rw [b3, nI_1] at e2
    refine hk (t - (c + 1)) _ ⟨c + 1, rfl, by omega, by rw [b2, run_go q hbl], by rw [e2, gI_sI, if_pos ⟨rfl, rfl⟩], by rw [e2]; exact FT_sI b4 (by omega)⟩ (by omega)
  refine ⟨vp_in_nI (by omega) (by omega), nI_ifEq (y := 32) (by omega) (by omega) (fun q2 => go (by simp [isBl]; omega)) (fun q2 => ?_)⟩
  refine ⟨vp_in_nI (by omega) (by omega), nI_ifEq (y := 10) (by omega) (by omega) (fun q3 => go (by simp [isBl]; omega)) (fun q3 => ?_)⟩
  exact fin c S1 b1 (by rw [b2]; exact run_stop (by simp [isBl]; omega)) b3 b4
