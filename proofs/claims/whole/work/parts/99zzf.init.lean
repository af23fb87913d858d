/-! ===== the two at the start: in step ===== -/
def rfM : List (Nat × Nat × Nat) := [(0, 2, 1), (0, 17, 2), (0, 18, 3), (0, 19, 4), (0, 20, 5), (0, 21, 6), (0, 22, 7), (0, 23, 8), (0, 24, 9), (0, 32, 10), (0, 33, 11), (0, 34, 12), (0, 35, 13), (0, 36, 14), (0, 37, 15), (0, 38, 16), (0, 39, 17), (0, 40, 18), (0, 41, 19), (0, 42, 20), (0, 44, 21), (0, 45, 22), (0, 46, 23), (0, 47, 24), (0, 48, 25), (0, 49, 26), (0, 50, 27), (0, 51, 28), (0, 52, 29), (0, 53, 30), (0, 54, 31), (0, 55, 32), (0, 56, 33), (0, 57, 34), (0, 58, 35), (0, 59, 36), (0, 60, 37), (0, 61, 38), (0, 62, 39), (0, 63, 40), (0, 66, 41), (0, 67, 42), (0, 68, 43), (0, 69, 44), (0, 71, 45), (0, 72, 46), (0, 74, 47)]
def zM : St := sI (rf9 rfM zS0) 0 10 1
set_option maxRecDepth 100000 in
theorem zM_I (a k : Nat) : gI zM a k = if a = 0 ∧ k = 10 then 1 else 0 := rfl
theorem zMR_small : ∀ a, a < 48 → ∀ k, k < 80 → gR zM a k = R0M a k := by decide +kernel
theorem rfM_small : ∀ x, x ∈ rfM → x.1 < 48 ∧ x.2.1 < 80 := by decide +kernel
theorem R0ML_len : R0ML.length ≤ 48 ∧ ∀ r, r ∈ R0ML → r.length ≤ 80 := by decide +kernel
theorem zM_R : RCM zM := by
  intro a k
  by_cases h : a < 48 ∧ k < 80
  · exact zMR_small a h.1 k h.2
  · have e1 : gR zM a k = none := by
      show gR (rf9 rfM zS0) a k = none
      rw [rf9_none rfM zS0 a k (fun x hx q => h ⟨by have := (rfM_small x hx).1; omega, by have := (rfM_small x hx).2; omega⟩)]
      rfl
    have e2 : R0M a k = none := by
      unfold R0M
      obtain ⟨l1, l2⟩ := R0ML_len
      by_cases ha : a < R0ML.length
      · have hm : R0ML.getD a [] ∈ R0ML := by
          show (R0ML[a]?).getD [] ∈ R0ML
          rw [List.getElem?_eq_getElem ha]
          exact List.getElem_mem ha
        have := l2 _ hm
        show ((R0ML.getD a [])[k]?).getD none = none
        rw [List.getElem?_eq_none (by omega)]; rfl
      · have : R0ML.getD a [] = [] := by
          show (R0ML[a]?).getD [] = []
          rw [List.getElem?_eq_none (by omega)]; rfl
        rw [this]; rfl
    rw [e1, e2]
theorem zM_0 {a k : Nat} (h : ¬ (a = 0 ∧ k = 10)) : gI zM a k = 0 := by rw [zM_I, if_neg h]
theorem F1_00 : F1 0 0 = 1 := by decide +kernel
theorem zM_MF : MF F1 D0 (fun _ => 0) (fun _ => 0) zM := by
  have f2 : F1 0 2 = 0 := by decide +kernel
  have f5 : F1 0 5 = 0 := by decide +kernel
  refine ⟨⟨⟨?_, fun i hi => ?_⟩, ?_, fun k hk => absurd hk (by rw [f2]; omega)⟩, fun j hj => ?_, ?_, ?_, ?_, ?_, ?_, ?_, fun w hw => absurd hw (by rw [f5]; omega), fun j hj => absurd hj (Nat.not_lt_zero _), fun a b ha _ => absurd ha (by rw [f5]; omega)⟩
  · rw [F1_00]; decide +kernel
  · have e : i = 0 := by rw [F1_00] at hi; omega
    subst e; decide +kernel
  · decide +kernel
  · have e : j = 0 := by rw [F1_00] at hj; omega
    subst e; decide +kernel
  all_goals decide +kernel
theorem start_RR {SE : St} (h : QC9 SE) : RR SE zM := by
  obtain ⟨L, h1, h2, h3, h4, h5, h6, h7, h8⟩ := h
  refine ⟨F1, D0, fun _ => 0, fun _ => 0, L, 0, fun _ => 0, fun _ => false, fun _ => F1, fun _ => D0, fun _ _ => 0, fun _ _ => 0, ⟨F1_W.1, ⟨Nat.zero_le _, fun j hj => absurd hj (Nat.not_lt_zero _)⟩, F1_W.2, h1, h5, h2, h3, h4, zM_MF⟩, fun j _ => Or.inl (zM_0 (by omega)), ⟨Nat.zero_le _, h6, zM_0 (by omega), fun j hj => absurd hj (Nat.not_lt_zero _)⟩, fun m hm => ⟨?_, ?_, fun hh => absurd hh Bool.false_ne_true⟩, h8⟩
  · rw [h7 m hm, if_neg Bool.false_ne_true]
  · rw [zM_0 (by omega), if_neg Bool.false_ne_true]
set_option maxRecDepth 100000 in
theorem m_init {Q : St → Prop} (hQ : Q zM) : w_X12_init zS0 Q := by
  unfold w_X12_init
  intro s1 e1 s2 e2 s3 e3 s4 e4 s5 e5 s6 e6 s7 e7 s8 e8 s9 e9 s10 e10 s11 e11 s12 e12 s13 e13 s14 e14 s15 e15 s16 e16 s17 e17 s18 e18 s19 e19 s20 e20 s21 e21 s22 e22 s23 e23 s24 e24 s25 e25 s26 e26 s27 e27 s28 e28 s29 e29 s30 e30 s31 e31 s32 e32 s33 e33 s34 e34 s35 e35 s36 e36 s37 e37 s38 e38 s39 e39 s40 e40 s41 e41 s42 e42 s43 e43 s44 e44 s45 e45 s46 e46 s47 e47 s48 e48
  subst e48
  subst e47
  subst e46
  subst e45
  subst e44
  subst e43
  subst e42
  subst e41
  subst e40
  subst e39
  subst e38
  subst e37
  subst e36
  subst e35
  subst e34
  subst e33
  subst e32
  subst e31
  subst e30
  subst e29
  subst e28
  subst e27
  subst e26
  subst e25
  subst e24
  subst e23
  subst e22
  subst e21
  subst e20
  subst e19
  subst e18
  subst e17
  subst e16
  subst e15
  subst e14
  subst e13
  subst e12
  subst e11
  subst e10
  subst e9
  subst e8
  subst e7
  subst e6
  subst e5
  subst e4
  subst e3
  subst e2
  subst e1
  exact hQ
