/-! ===== the machine: Tape is made ===== -/
set_option maxRecDepth 100000 in
set_option maxHeartbeats 4000000 in
theorem cg_X10_isLetter (l : Launch) {sh : Nat → Nat × Nat} {N : Nat} {RC : St → Prop} {p0 : Int32} {S : St} {Q : Int32 → St → Prop} (hR : RC S) (hw : w_X10_isLetter p0 S Q) : MetI l yX10_isLetter (wB yX10_isLetter cX10_isLetter 1 (some .boolean)) rm_X10_isLetter sh N RC (fun ad => [.int p0]) S Q := by
  refine MetI_of (cc := cX10_isLetter) (maxL := 1) (ret := (some .boolean)) (plainFor_of_name (by decide)) (fun _ => Nat.le_of_ble_eq_true rfl) (fun G C hl hQ => ?_)
  subst hl
  have C : Cx G cX10_isLetter BIG RX10 1 (some .boolean) rm_X10_isLetter sh N := C
  show Go G 1 0 [] [(0, .int p0)] S
  unfold w_X10_isLetter at hw
  refine Go_iload_n (q := 1) C 0 rfl dX10_isLetter_0 rfl ?_
  refine Go_bipush (q := 3) (v := (97 : Int32)) C dX10_isLetter_1 rfl rfl ?_
  refine Go_icmp_lt (t := 16) (q := 6) C hw dX10_isLetter_3 rfl rfl (fun hw => ?_) (fun hw => ?_)
  · refine Go_iconst (q := 17) (v := (0 : Int32)) C dX10_isLetter_16 rfl rfl ?_
    exact Go_zret C hQ hR rfl hw dX10_isLetter_17
  · refine Go_iload_n (q := 7) C 0 rfl dX10_isLetter_6 rfl ?_
    refine Go_bipush (q := 9) (v := (122 : Int32)) C dX10_isLetter_7 rfl rfl ?_
    refine Go_icmp_gt (t := 16) (q := 12) C hw dX10_isLetter_9 rfl rfl (fun hw => ?_) (fun hw => ?_)
    · refine Go_iconst (q := 17) (v := (0 : Int32)) C dX10_isLetter_16 rfl rfl ?_
      exact Go_zret C hQ hR rfl hw dX10_isLetter_17
    · refine Go_iconst (q := 13) (v := (1 : Int32)) C dX10_isLetter_12 rfl rfl ?_
      refine Go_goto (q := 17) C dX10_isLetter_13 rfl ?_
      exact Go_zret C hQ hR rfl hw dX10_isLetter_17
set_option maxRecDepth 100000 in
set_option maxHeartbeats 4000000 in
theorem cg_X10_withLetter (l : Launch) {sh : Nat → Nat × Nat} {N : Nat} {RC : St → Prop} {p0 : Int64} {p1 : Int32} {S : St} {Q : Int64 → St → Prop} (hR : RC S) (hw : w_X10_withLetter p0 p1 S Q) : MetL l yX10_withLetter (wB yX10_withLetter cX10_withLetter 3 (some .long)) rm_X10_withLetter sh N RC (fun ad => [.long p0, .int p1]) S Q := by
  refine MetL_of (cc := cX10_withLetter) (maxL := 3) (ret := (some .long)) (plainFor_of_name (by decide)) (fun _ => Nat.le_of_ble_eq_true rfl) (fun G C hl hQ => ?_)
  subst hl
  have C : Cx G cX10_withLetter BIG RX10 3 (some .long) rm_X10_withLetter sh N := C
  show Go G 3 0 [] [(0, .long p0), (2, .int p1)] S
  unfold w_X10_withLetter at hw
  refine Go_lload_n (q := 1) C 0 rfl dX10_withLetter_0 rfl ?_
  refine Go_iconst (q := 2) (v := (5 : Int32)) C dX10_withLetter_1 rfl rfl ?_
  refine Go_lshl (q := 3) C dX10_withLetter_2 rfl ?_
  refine Go_iload_n (q := 4) C 1 rfl dX10_withLetter_3 rfl ?_
  refine Go_bipush (q := 6) (v := (97 : Int32)) C dX10_withLetter_4 rfl rfl ?_
  refine Go_isub (q := 7) C dX10_withLetter_6 rfl ?_
  refine Go_iconst (q := 8) (v := (1 : Int32)) C dX10_withLetter_7 rfl rfl ?_
  refine Go_iadd (q := 9) C dX10_withLetter_8 rfl ?_
  refine Go_i2l (q := 10) C dX10_withLetter_9 rfl ?_
  refine Go_lor (q := 11) C dX10_withLetter_10 rfl ?_
  exact Go_lret C hQ hR hw dX10_withLetter_11
def TX : String := "ends turn spiral back halves thirds shift swap rhyme whole every feet word beats kind bar not and or sort next long short alike "
def MetAS (aK aV : Nat) (l : Launch) (y : MethodName) (ws : List Cond) (rm : Room) (sh : Nat → Nat × Nat) (n n' mc ms : Nat) (av : (Nat → Nat) → List Value) (S : St) (Q : St → Prop) : Prop :=
  ∀ (D : va_G) (cy : Nat → ClassId) (ad : Nat → Nat) (X : va_W) (sz : Nat), Met l y ws rm (va_Pc (av ad) (fun U => PreB D cy ad X sz sh n S U ∧ SPre aK aV (va_A (X ++ wl cy ad sh n S) sz) U ∧ vk_R RX10 29 TX aK U))
    (va_Qv (fun u : (Nat → Nat) × St => (∀ i, i < n → u.1 i = ad i) ∧ Q u.2 ∧ IR n' u.2) (fun u t => va_P D vwCl (X ++ wl cy u.1 sh n' u.2) t.heap ∧ va_D (va_A (X ++ wl cy ad sh n S) sz) (X ++ wl cy u.1 sh n' u.2)) (va_A (X ++ wl cy ad sh n S) sz)) mc ms (va_A (X ++ wl cy ad sh n S) sz)
theorem MetAS_of {aK aV : Nat} {l : Launch} {y : MethodName} {rm : Room} {sh : Nat → Nat × Nat} {n n' mc ms : Nat} {av : (Nat → Nat) → List Value} {S : St} {Q : St → Prop} {cc : ByteArray} {maxL : Nat} {ret : Option FieldType}
    (hy : plainFor y = true) (hnm : y.name = "<init>") (hlen : ∀ ad, (lg_sl (av ad)).length ≤ maxL)
    (body : ∀ G : GC, Cx (gset G (Gad G) n 0 0) cc BIG y.cls maxL ret rm sh n → Gl G = l → QA G n n' mc ms Q → SPre aK aV (GA G) (Gs G) → vk_R RX10 29 TX aK (Gs G) → Go (gset G (Gad G) n 0 0) maxL 0 [] (lv_args 0 (av (Gad G))) S) : MetAS aK aV l y (wB y cc maxL ret) rm sh n n' mc ms av S Q := by
  intro D cy ad X sz
  refine Met_ofWF (cc := cc) (maxL := maxL) (ret := ret) hy rfl ?_
  intro p e s m args below meth c s₁ B hml hv
  obtain ⟨rfl, ⟨hsz, hP, hK, hD0, hN⟩, hSP, hZ⟩ := hv
  subst hsz
  rw [lg_entry_eq]
  exact body (p, l, e, rm, s, m, (av ad).toArray, below, meth, c, MQ below (va_Qv (fun u : (Nat → Nat) × St => (∀ i, i < n → u.1 i = ad i) ∧ Q u.2 ∧ IR n' u.2) (fun u t => va_P D vwCl (X ++ wl cy u.1 sh n' u.2) t.heap ∧ va_D (va_A (X ++ wl cy ad sh n S) s.heap.size) (X ++ wl cy u.1 sh n' u.2)) (va_A (X ++ wl cy ad sh n S) s.heap.size)) (av ad).toArray s mc ms (va_A (X ++ wl cy ad sh n S) s.heap.size), D, cy, ad, X, va_A (X ++ wl cy ad sh n S) s.heap.size, sh, n, 0, 0)
    ⟨B.exec, B.bytes, hml, findClass_of_methodNamed B.named, fun w h => atoms_spec (ws := wB y cc maxL ret) B.pre w (List.mem_cons_of_mem _ h), B.notSynchronized, B.returns, hK, fun _ h => Or.inr h, hN, rfl, rfl, rfl, Nat.zero_le _, Nat.zero_le _⟩ rfl ⟨rfl, (name_of_methodNamed B.named B.method).1.trans hnm⟩ hSP hZ
    s.heap [] _ hP hD0.self va_S.rf (lv_entry (av ad) (hlen ad))
def wkS (S : St) (k : Nat) : St := (S.1, fun b j => if b = 6 ∧ j < k then lN (kw j) else S.2.1 b j, S.2.2)
theorem wkS_0 (S : St) : wkS S 0 = S := by
  obtain ⟨a, b, c⟩ := S
  simp [wkS]
theorem wkS_succ (S : St) (k : Nat) : sJ (wkS S k) 6 k (lN (kw k)) = wkS S (k + 1) := by
  obtain ⟨a, b, c⟩ := S
  simp only [sJ, wkS]
  refine congrArg (fun z => (a, z, c)) ?_
  funext x j
  by_cases h : x = 6 ∧ j = k
  · rw [if_pos h, if_pos ⟨h.1, by omega⟩, h.2]
  · rw [if_neg h]
    by_cases h2 : x = 6 ∧ j < k
    · rw [if_pos h2, if_pos ⟨h2.1, by omega⟩]
    · rw [if_neg h2, if_neg (by omega)]
theorem IR_wk {S : St} {k : Nat} (h : IR 7 S) : IR 7 (wkS S k) := by
  refine ⟨fun i j hi => ?_, fun i j r hr => h.2 i j r hr⟩
  obtain ⟨h1, h2, h3⟩ := h.1 i j hi
  refine ⟨h1, ?_, h3⟩
  show (if i = 6 ∧ j < k then lN (kw j) else gJ S i j) = 0
  rw [if_neg (by omega)]; exact h2
def stx : Nat → Nat × Nat
  | 0 => (0, 0)
  | i + 1 => if isL (tbN.getD i 0) = true then ((stx i).1 * 32 + (tbN.getD i 0 - 96), (stx i).2) else (0, (stx i).2 + 1)
theorem stx_ok : ∀ i, i < 128 → (stx i).1 < 2 ^ 50 ∧ (stx i).2 < 24 ∧ tbN.getD i 0 < 127 ∧ (isL (tbN.getD i 0) = false → (stx i).1 = kw (stx i).2) := by decide +kernel
theorem stx_end : (stx 128).2 = 24 := by decide +kernel
theorem dec_if {c : Prop} [Decidable c] : if c then c else ¬ c := by
  by_cases h : c
  · rw [if_pos h]; exact h
  · rw [if_neg h]; exact h
section GoText
variable {G : GC} {cc : ByteArray} {own : String} {nL : Nat} {ret : Option FieldType} {rm : Room} {sh : Nat → Nat × Nat} {n : Nat} {pc q : Nat} {st : List Value} {lv : List (Nat × Value)} {S : St} {aK aV : Nat}
theorem Go_ldcS (C : Cx G cc BIG own nL ret rm sh n) {idx : Nat} {tx : String} (hZ : vk_R own idx tx aK (Gs G)) (hdg : decode cc pc = .ok (.ldc idx, 2)) (hq : pc + 2 = q) (k : Go G nL q (.ref aK :: st) lv S) : Go G nL pc st lv S := by
  subst hq
  exact fun H locs ls hP hD hS hl => va_ldcS C.1 C.2.1 C.2.2.2.1 hZ hdg (k H locs ls hP hD hS hl)
theorem Go_strlen (C : Cx G cc BIG own nL ret rm sh n) {idx : Nat} (hSP : SPre aK aV (GA G) (Gs G)) (hlk : Cond.methodLink own idx yJ0_length_8abf5 ∈ BIG) (hroom : 1 + 1 ≤ rm.frames ∧ 8 + (1 + 11) + 20 ≤ rm.locals) (hW : (st.map fun v => v.category).sum ≤ 8) (hdg : decode cc pc = .ok (.invokevirtual idx, 3)) (hq : pc + 3 = q) (k : Go G nL q (.int 128 :: st) lv S) : Go G nL pc (.ref aK :: st) lv S := by
  subst hq
  obtain ⟨-, -, -, -, -, -, -, -, -, -, hrm, hsh, hN, hk9, hw9⟩ := id C
  subst hrm
  intro H locs ls hP hD hS hl
  obtain ⟨cell, o1, o2, o3, -⟩ := hSP.1.kept hS.2.1
  refine va_calli (va_runV (As := []) (rest := st) ⟨C.1, C.2.1, C.2.2.1, C.2.2.2.1, C.2.2.2.2.1⟩ (c_J0_length (Gl G) (aK := aK) (aV := aV)) (cwV 0 C.2.2.2.2.1 (gdV hlk wm_3_19 wm_3_20 wm_3_21 wm_3_22) rfl rfl rfl (by decide +kernel) hroom) ⟨spre_blind, ⟨cell, o1, o2, o3⟩, fun U hU hW => ⟨rfl, SPre.go (H := H) (locs := locs) hSP hS (fun _ h => h.elim) hU hW.alike⟩⟩ rfl rfl hl.1 rfl (lv_room hW) hdg ⟨hk9, hw9⟩) hS (fun q _ h => h.elim) (fun q h => h.elim) (fun r u t H1 locs1 ht hvm hw hB hz hk hS1 => ?_)
  have hw : r = 128 := hw
  subst hw
  exact k H1 locs1 ls (fun k q hq => (hP k q hq).kept (hk q.1 (hP k q hq).lt (fun h => h))) hD hS1 hl
theorem Go_charAt (C : Cx G cc BIG own nL ret rm sh n) {idx i : Nat} (hi : i < 128) (hSP : SPre aK aV (GA G) (Gs G)) (hlk : Cond.methodLink own idx yJ0_charAt_5068e ∈ BIG) (hroom : 3 + 1 ≤ rm.frames ∧ 8 + (2 + 11) + 64 ≤ rm.locals) (hW : (st.map fun v => v.category).sum ≤ 8) (hdg : decode cc pc = .ok (.invokevirtual idx, 3)) (hq : pc + 3 = q) (k : Go G nL q (.int (tbI i) :: st) lv S) : Go G nL pc (.int (nI i) :: .ref aK :: st) lv S := by
  subst hq
  obtain ⟨-, -, -, -, -, -, -, -, -, -, hrm, hsh, hN, hk9, hw9⟩ := id C
  subst hrm
  intro H locs ls hP hD hS hl
  obtain ⟨cell, o1, o2, o3, -⟩ := hSP.1.kept hS.2.1
  refine va_calli (va_runV (As := [.int (nI i)]) (rest := st) ⟨C.1, C.2.1, C.2.2.1, C.2.2.2.1, C.2.2.2.2.1⟩ (c_J0_charAt (Gl G) (aK := aK) (aV := aV) hi) (cwV 1 C.2.2.2.2.1 (gdV hlk wm_4_7 wm_4_8 wm_3_21 wm_4_9) rfl rfl rfl (by decide +kernel) hroom) ⟨spre_blind, ⟨cell, o1, o2, o3⟩, fun U hU hW => ⟨rfl, SPre.go (H := H) (locs := locs) hSP hS (fun _ h => h.elim) hU hW.alike⟩⟩ rfl rfl hl.1 rfl (lv_room hW) hdg ⟨hk9, hw9⟩) hS (fun q _ h => h.elim) (fun q h => h.elim) (fun r u t H1 locs1 ht hvm hw hB hz hk hS1 => ?_)
  have hw : r = tbI i := hw
  subst hw
  exact k H1 locs1 ls (fun k q hq => (hP k q hq).kept (hk q.1 (hP k q hq).lt (fun h => h))) hD hS1 hl
end GoText
set_option maxRecDepth 100000 in
set_option maxHeartbeats 8000000 in
theorem g_tape {G : GC} (C : Cx G cX10_init BIG RX10 5 none { frames := 4, cells := 5, slots := 4027, locals := 85 } shE 7) {aK aV : Nat} (hSP : SPre aK aV (GA G) (Gs G)) (hZ : vk_R RX10 29 TX aK (Gs G)) {S : St} (hr : gR S 1 4 = some 6) (hend : ∀ lv, Go G 5 120 [] lv (wkS S 24)) : Go G 5 48 [] [(0, .ref (Gad G (1)))] S := by
  have loop : ∀ m i, i + m = 128 → Go G 5 55 [] [(4, .int (nI i)), (3, .int (nI (stx i).2)), (1, .long (lN (stx i).1)), (0, .ref (Gad G (1)))] (wkS S (stx i).2) := by
    intro m
    induction m with
    | zero =>
      intro i hi
      have hi : i = 128 := by omega
      subst hi
      rw [stx_end]
      refine Go_iload (q := 57) C 0 rfl dX10_init_55 rfl ?_
      refine Go_ldcS (q := 59) C hZ dX10_init_57 rfl ?_
      refine Go_strlen (q := 62) C hSP wm_3_18 ⟨by decide, by decide⟩ (Nat.le_of_ble_eq_true rfl) dX10_init_59 rfl ?_
      exact Go_icmp_ge (t := 120) (q := 65) C dec_if dX10_init_62 rfl rfl (fun _ => hend _) (fun h => absurd (by decide) h)
    | succ m ih =>
      intro i hi
      have ih := ih (i + 1) (by omega)
      obtain ⟨x1, x2, x3, x4⟩ := stx_ok i (by omega)
      refine Go_iload (q := 57) C 0 rfl dX10_init_55 rfl ?_
      refine Go_ldcS (q := 59) C hZ dX10_init_57 rfl ?_
      refine Go_strlen (q := 62) C hSP wm_3_18 ⟨by decide, by decide⟩ (Nat.le_of_ble_eq_true rfl) dX10_init_59 rfl ?_
      refine Go_icmp_ge (t := 120) (q := 65) C dec_if dX10_init_62 rfl rfl (fun h => absurd h (nI_ge (b := 128) (by omega) (by omega))) (fun _ => ?_)
      refine Go_iload_n (q := 66) C 1 rfl dX10_init_65 rfl ?_
      refine Go_aload_n (q := 67) C 3 rfl dX10_init_66 rfl ?_
      refine Go_getA (q := 70) (k := 4) C ci10 iw_10 (okn kE_1 (by omega)) hr rfl wm_3_17 rfl dX10_init_67 rfl ?_
      refine Go_alen2 (q := 71) (v := (24 : Int32)) C (okn kE_6 (by omega)) (by decide) rfl dX10_init_70 rfl ?_
      refine Go_icmp_ge (t := 120) (q := 74) C dec_if dX10_init_71 rfl rfl (fun h => absurd h (nI_ge (b := 24) (by omega) (by omega))) (fun _ => ?_)
      refine Go_ldcS (q := 76) C hZ dX10_init_74 rfl ?_
      refine Go_iload (q := 78) C 0 rfl dX10_init_76 rfl ?_
      refine Go_charAt (q := 81) C (by omega) hSP wm_4_6 ⟨by decide, by decide⟩ (Nat.le_of_ble_eq_true rfl) dX10_init_78 rfl ?_
      refine Go_callS_I (RC := fun _ => True) (Q1 := fun r S' => S' = wkS S (stx i).2 ∧ r = if isL (tbN.getD i 0) = true then 1 else 0) (av := (fun ad => [.int (tbI i)])) (st := []) (C := C) (hM := cg_X10_isLetter (Gl G) trivial (e_isLetter9 x3 ⟨rfl, rfl⟩)) (hlk := wm_5_19) (hini := wm_1_16) (hst2 := wm_5_20) (hcode := wm_5_21) (n := 1) (hd := by decide +kernel) (hr0 := ⟨rfl, rfl⟩) (hroom := ⟨by decide, by decide⟩) (hlen := rfl) (hst := rfl) (hW := Nat.le_of_ble_eq_true rfl) (hdg := dX10_init_81) (q := 84) (hq := rfl) (fun r S' hw _ => ?_)
      obtain ⟨rfl, rfl⟩ := hw
      cases hl : isL (tbN.getD i 0) with
      | true =>
        have hd := of_decide_eq_true hl
        have e : stx (i + 1) = ((stx i).1 * 32 + (tbN.getD i 0 - 96), (stx i).2) := by
          show (if isL (tbN.getD i 0) = true then _ else _) = _
          rw [if_pos hl]
        rw [e] at ih
        refine Go_if_eq (t := 102) (q := 87) C dec_if dX10_init_84 rfl rfl (fun h => absurd h (by decide)) (fun _ => ?_)
        refine Go_lload_n (q := 88) C 2 rfl dX10_init_87 rfl ?_
        refine Go_ldcS (q := 90) C hZ dX10_init_88 rfl ?_
        refine Go_iload (q := 92) C 0 rfl dX10_init_90 rfl ?_
        refine Go_charAt (q := 95) C (by omega) hSP wm_4_6 ⟨by decide, by decide⟩ (Nat.le_of_ble_eq_true rfl) dX10_init_92 rfl ?_
        refine Go_callS_L (RC := fun _ => True) (Q1 := fun r S' => S' = wkS S (stx i).2 ∧ r = lN ((stx i).1 * 32 + (tbN.getD i 0 - 96))) (av := (fun ad => [.long (lN (stx i).1), .int (tbI i)])) (st := []) (C := C) (hM := cg_X10_withLetter (Gl G) trivial (by
          unfold w_X10_withLetter
          exact ⟨rfl, lN_pack x1 hd.1 hd.2⟩)) (hlk := wm_5_22) (hini := wm_1_16) (hst2 := wm_5_23) (hcode := wm_6_0) (n := 2) (hd := by decide +kernel) (hr0 := ⟨rfl, rfl⟩) (hroom := ⟨by decide, by decide⟩) (hlen := rfl) (hst := rfl) (hW := Nat.le_of_ble_eq_true rfl) (hdg := dX10_init_95) (q := 98) (hq := rfl) (fun r S' hw _ => ?_)
        obtain ⟨rfl, rfl⟩ := hw
        refine Go_lstore_n (q := 99) (lv' := [(1, .long (lN ((stx i).1 * 32 + (tbN.getD i 0 - 96)))), (4, .int (nI i)), (3, .int (nI (stx i).2)), (0, .ref (Gad G (1)))]) C rfl dX10_init_98 (by decide) rfl rfl ?_
        refine Go_goto (q := 114) C dX10_init_99 rfl ?_
        refine Go_iinc (q := 117) (kp := 1) (v := nI (i + 1)) (lv' := [(4, .int (nI (i + 1))), (1, .long (lN ((stx i).1 * 32 + (tbN.getD i 0 - 96)))), (3, .int (nI (stx i).2)), (0, .ref (Gad G (1)))]) C dX10_init_114 rfl (nI_1 i) (by decide) rfl rfl ?_
        refine Go_goto (q := 55) C dX10_init_117 rfl ?_
        exact Go_lvp [0, 2, 1, 3] rfl ih
      | false =>
        have hv := x4 hl
        have e : stx (i + 1) = (0, (stx i).2 + 1) := by
          show (if isL (tbN.getD i 0) = true then _ else _) = _
          rw [hl, if_neg (by decide)]
        rw [e] at ih
        refine Go_if_eq (t := 102) (q := 87) C dec_if dX10_init_84 rfl rfl (fun _ => ?_) (fun h => absurd rfl h)
        refine Go_aload_n (q := 103) C 3 rfl dX10_init_102 rfl ?_
        refine Go_getA (q := 106) (k := 4) C ci10 iw_10 (okn kE_1 (by omega)) hr rfl wm_3_17 rfl dX10_init_103 rfl ?_
        refine Go_iload_n (q := 107) C 1 rfl dX10_init_106 rfl ?_
        refine Go_lload_n (q := 108) C 2 rfl dX10_init_107 rfl ?_
        refine Go_lastore (q := 109) C (okn kE_6 (by omega)) (vp_in_nI (N := 24) x2 (by omega)) dX10_init_108 rfl ?_
        rw [nI_clamp (by omega), hv, wkS_succ]
        refine Go_lconst (q := 110) (v := 0) C dX10_init_109 rfl rfl ?_
        refine Go_lstore_n (q := 111) (lv' := [(1, .long 0), (4, .int (nI i)), (3, .int (nI (stx i).2)), (0, .ref (Gad G (1)))]) C rfl dX10_init_110 (by decide) rfl rfl ?_
        refine Go_iinc (q := 114) (kp := 2) (v := nI ((stx i).2 + 1)) (lv' := [(3, .int (nI ((stx i).2 + 1))), (1, .long 0), (4, .int (nI i)), (0, .ref (Gad G (1)))]) C dX10_init_111 rfl (nI_1 _) (by decide) rfl rfl ?_
        refine Go_iinc (q := 117) (kp := 2) (v := nI (i + 1)) (lv' := [(4, .int (nI (i + 1))), (3, .int (nI ((stx i).2 + 1))), (1, .long 0), (0, .ref (Gad G (1)))]) C dX10_init_114 rfl (nI_1 i) (by decide) rfl rfl ?_
        refine Go_goto (q := 55) C dX10_init_117 rfl ?_
        exact ih
  have l0 := loop 128 0 rfl
  rw [show (stx 0).2 = 0 from rfl, wkS_0] at l0
  refine Go_lconst (q := 49) (v := 0) C dX10_init_48 rfl rfl ?_
  refine Go_lstore_n (q := 50) (lv' := [(1, .long 0), (0, .ref (Gad G (1)))]) C rfl dX10_init_49 (by decide) rfl rfl ?_
  refine Go_iconst (q := 51) (v := (0 : Int32)) C dX10_init_50 rfl rfl ?_
  refine Go_istore_n (q := 52) (lv' := [(3, .int (0 : Int32)), (1, .long 0), (0, .ref (Gad G (1)))]) C rfl dX10_init_51 (by decide) rfl rfl ?_
  refine Go_iconst (q := 53) (v := (0 : Int32)) C dX10_init_52 rfl rfl ?_
  refine Go_istore (q := 55) (lv' := [(4, .int (0 : Int32)), (3, .int (0 : Int32)), (1, .long 0), (0, .ref (Gad G (1)))]) C dX10_init_53 (by decide) rfl rfl ?_
  exact l0

def w_X10_init (S : St) (Q : St → Prop) : Prop :=
 ∀ S10_2, S10_2 = sR S 1 0 (some 2) → ∀ S19_4, S19_4 = sR S10_2 1 1 (some 3) → ∀ S28_6, S28_6 = sR S19_4 1 2 (some 4) → ∀ S37_8, S37_8 = sR S28_6 1 3 (some 5) → ∀ S45_10, S45_10 = sR S37_8 1 4 (some 6) → (∀ S', S' = wkS S45_10 24 → Q S')
abbrev rm_X10_init : Room := { frames := 4, cells := 5, slots := 4027, locals := 85 }
set_option maxRecDepth 100000 in
set_option maxHeartbeats 8000000 in
theorem c_X10_init (l : Launch) {aK aV : Nat} {S : St} {Q : St → Prop} (hI : IR (2) S) (hw : w_X10_init S Q) : MetAS aK aV l yX10_init (wB yX10_init cX10_init 5 none) rm_X10_init shE (2) (7) 5 4027 (fun ad => [.ref (ad (1))]) S Q := by
  refine MetAS_of (cc := cX10_init) (maxL := 5) (ret := none) (plainFor_of_name (by decide)) rfl (fun _ => Nat.le_of_ble_eq_true rfl) (fun G C hl hQ hSP hZ => ?_)
  subst hl
  have C : Cx (gset G (Gad G) (2) 0 0) cX10_init BIG RX10 5 none rm_X10_init shE (2) := C
  show Go (gset G (Gad G) (2) 0 0) 5 0 [] [(0, .ref (Gad G (1)))] S
  unfold w_X10_init at hw
  refine Go_aload_n (q := 1) C 0 rfl dX10_init_0 rfl ?_
  refine Go_objinit (q := 4) C wm_3_11 wm_1_12 wm_1_13 (by decide) (Nat.le_of_ble_eq_true rfl) dX10_init_1 rfl ?_
  refine Go_aload_n (q := 5) C 0 rfl dX10_init_4 rfl ?_
  refine Go_sipush (q := 8) (v := (1000 : Int32)) C dX10_init_5 rfl rfl ?_
  refine Go_newa_c (n := 2) (len := 1000) (q := 10) (stF := fun ad => [.ref (ad (1))]) (lvF := fun ad => [(0, .ref (ad (1)))]) C wm_3_12 (by decide) rfl (by decide) kE_2.2 hI rfl rfl (fun adz hz => by have g0 : adz (1) = (Gad G) (1) := hz (1) (by omega); simp only [g0]) (fun adz hz => by have g0 : adz (1) = (Gad G) (1) := hz (1) (by omega); simp only [g0]) (by exact Nat.le_of_ble_eq_true rfl) (by exact Nat.le_of_ble_eq_true rfl) dX10_init_8 rfl (fun ad8 hag8 hI => ?_)
  have hag : ∀ i, i < 2 → ad8 i = Gad G i := fun i hi => (hag8 i (by omega)).trans (rfl)
  have C1 : Cx (gset G ad8 (3) (1) (1000)) cX10_init BIG RX10 5 none rm_X10_init shE (3) := Cx_gset C (by exact Nat.le_of_ble_eq_true rfl) (by exact Nat.le_of_ble_eq_true rfl)
  show Go (gset G ad8 (3) (1) (1000)) 5 _ [.ref (ad8 (2)), .ref (ad8 (1))] [(0, .ref (ad8 (1)))] S
  refine Go_putF (k := 0) (q := 13) C1 hQ.2 ci10 iw_10 (okn kE_1 (by omega)) rfl wm_3_13 rfl rfl rfl (ci10.2.2.2.1 0 (by decide)) rfl rfl dX10_init_10 rfl (fun S10_2 e_S10_2 => ?_)
  have hw := hw S10_2 e_S10_2
  have hI := irR e_S10_2 (by omega) (by omega) hI
  refine Go_aload_n (q := 14) C1 0 rfl dX10_init_13 rfl ?_
  refine Go_sipush (q := 17) (v := (1001 : Int32)) C1 dX10_init_14 rfl rfl ?_
  refine Go_newa_i (n := 3) (len := 1001) (q := 19) (stF := fun ad => [.ref (ad (1))]) (lvF := fun ad => [(0, .ref (ad (1)))]) C1 wm_3_6 (by decide) rfl (by decide) kE_3.2 hI rfl rfl (fun adz hz => by have g0 : adz (1) = ad8 (1) := hz (1) (by omega); simp only [g0]) (fun adz hz => by have g0 : adz (1) = ad8 (1) := hz (1) (by omega); simp only [g0]) (by exact Nat.le_of_ble_eq_true rfl) (by exact Nat.le_of_ble_eq_true rfl) dX10_init_17 rfl (fun ad17 hag17 hI => ?_)
  have hag : ∀ i, i < 2 → ad17 i = Gad G i := fun i hi => (hag17 i (by omega)).trans (hag i hi)
  have C3 : Cx (gset G ad17 (4) (2) (2001)) cX10_init BIG RX10 5 none rm_X10_init shE (4) := Cx_gset C (by exact Nat.le_of_ble_eq_true rfl) (by exact Nat.le_of_ble_eq_true rfl)
  show Go (gset G ad17 (4) (2) (2001)) 5 _ [.ref (ad17 (3)), .ref (ad17 (1))] [(0, .ref (ad17 (1)))] S10_2
  refine Go_putF (k := 1) (q := 22) C3 hQ.2 ci10 iw_10 (okn kE_1 (by omega)) rfl wm_3_14 rfl rfl rfl (ci10.2.2.2.1 1 (by decide)) rfl rfl dX10_init_19 rfl (fun S19_4 e_S19_4 => ?_)
  have hw := hw S19_4 e_S19_4
  have hI := irR e_S19_4 (by omega) (by omega) hI
  refine Go_aload_n (q := 23) C3 0 rfl dX10_init_22 rfl ?_
  refine Go_sipush (q := 26) (v := (1001 : Int32)) C3 dX10_init_23 rfl rfl ?_
  refine Go_newa_i (n := 4) (len := 1001) (q := 28) (stF := fun ad => [.ref (ad (1))]) (lvF := fun ad => [(0, .ref (ad (1)))]) C3 wm_3_6 (by decide) rfl (by decide) kE_4.2 hI rfl rfl (fun adz hz => by have g0 : adz (1) = ad17 (1) := hz (1) (by omega); simp only [g0]) (fun adz hz => by have g0 : adz (1) = ad17 (1) := hz (1) (by omega); simp only [g0]) (by exact Nat.le_of_ble_eq_true rfl) (by exact Nat.le_of_ble_eq_true rfl) dX10_init_26 rfl (fun ad26 hag26 hI => ?_)
  have hag : ∀ i, i < 2 → ad26 i = Gad G i := fun i hi => (hag26 i (by omega)).trans (hag i hi)
  have C5 : Cx (gset G ad26 (5) (3) (3002)) cX10_init BIG RX10 5 none rm_X10_init shE (5) := Cx_gset C (by exact Nat.le_of_ble_eq_true rfl) (by exact Nat.le_of_ble_eq_true rfl)
  show Go (gset G ad26 (5) (3) (3002)) 5 _ [.ref (ad26 (4)), .ref (ad26 (1))] [(0, .ref (ad26 (1)))] S19_4
  refine Go_putF (k := 2) (q := 31) C5 hQ.2 ci10 iw_10 (okn kE_1 (by omega)) rfl wm_3_15 rfl rfl rfl (ci10.2.2.2.1 2 (by decide)) rfl rfl dX10_init_28 rfl (fun S28_6 e_S28_6 => ?_)
  have hw := hw S28_6 e_S28_6
  have hI := irR e_S28_6 (by omega) (by omega) hI
  refine Go_aload_n (q := 32) C5 0 rfl dX10_init_31 rfl ?_
  refine Go_sipush (q := 35) (v := (1001 : Int32)) C5 dX10_init_32 rfl rfl ?_
  refine Go_newa_j (n := 5) (len := 1001) (q := 37) (stF := fun ad => [.ref (ad (1))]) (lvF := fun ad => [(0, .ref (ad (1)))]) C5 wm_1_6 (by decide) rfl (by decide) kE_5.2 hI rfl rfl (fun adz hz => by have g0 : adz (1) = ad26 (1) := hz (1) (by omega); simp only [g0]) (fun adz hz => by have g0 : adz (1) = ad26 (1) := hz (1) (by omega); simp only [g0]) (by exact Nat.le_of_ble_eq_true rfl) (by exact Nat.le_of_ble_eq_true rfl) dX10_init_35 rfl (fun ad35 hag35 hI => ?_)
  have hag : ∀ i, i < 2 → ad35 i = Gad G i := fun i hi => (hag35 i (by omega)).trans (hag i hi)
  have C7 : Cx (gset G ad35 (6) (4) (4003)) cX10_init BIG RX10 5 none rm_X10_init shE (6) := Cx_gset C (by exact Nat.le_of_ble_eq_true rfl) (by exact Nat.le_of_ble_eq_true rfl)
  show Go (gset G ad35 (6) (4) (4003)) 5 _ [.ref (ad35 (5)), .ref (ad35 (1))] [(0, .ref (ad35 (1)))] S28_6
  refine Go_putF (k := 3) (q := 40) C7 hQ.2 ci10 iw_10 (okn kE_1 (by omega)) rfl wm_3_16 rfl rfl rfl (ci10.2.2.2.1 3 (by decide)) rfl rfl dX10_init_37 rfl (fun S37_8 e_S37_8 => ?_)
  have hw := hw S37_8 e_S37_8
  have hI := irR e_S37_8 (by omega) (by omega) hI
  refine Go_aload_n (q := 41) C7 0 rfl dX10_init_40 rfl ?_
  refine Go_bipush (q := 43) (v := (24 : Int32)) C7 dX10_init_41 rfl rfl ?_
  refine Go_newa_j (n := 6) (len := 24) (q := 45) (stF := fun ad => [.ref (ad (1))]) (lvF := fun ad => [(0, .ref (ad (1)))]) C7 wm_1_6 (by decide) rfl (by decide) kE_6.2 hI rfl rfl (fun adz hz => by have g0 : adz (1) = ad35 (1) := hz (1) (by omega); simp only [g0]) (fun adz hz => by have g0 : adz (1) = ad35 (1) := hz (1) (by omega); simp only [g0]) (by exact Nat.le_of_ble_eq_true rfl) (by exact Nat.le_of_ble_eq_true rfl) dX10_init_43 rfl (fun ad43 hag43 hI => ?_)
  have hag : ∀ i, i < 2 → ad43 i = Gad G i := fun i hi => (hag43 i (by omega)).trans (hag i hi)
  have C9 : Cx (gset G ad43 (7) (5) (4027)) cX10_init BIG RX10 5 none rm_X10_init shE (7) := Cx_gset C (by exact Nat.le_of_ble_eq_true rfl) (by exact Nat.le_of_ble_eq_true rfl)
  show Go (gset G ad43 (7) (5) (4027)) 5 _ [.ref (ad43 (6)), .ref (ad43 (1))] [(0, .ref (ad43 (1)))] S37_8
  refine Go_putF (k := 4) (q := 48) C9 hQ.2 ci10 iw_10 (okn kE_1 (by omega)) rfl wm_3_17 rfl rfl rfl (ci10.2.2.2.1 4 (by decide)) rfl rfl dX10_init_45 rfl (fun S45_10 e_S45_10 => ?_)
  have hw := hw S45_10 e_S45_10
  have hI := irR e_S45_10 (by omega) (by omega) hI
  have hr : gR S45_10 1 4 = some 6 := by rw [e_S45_10, gR_sR, if_pos ⟨rfl, rfl⟩]
  refine g_tape (G := gset G ad43 (7) (5) (4027)) C9 hSP hZ hr (fun lv => ?_)
  have hI : IR 7 (wkS S45_10 24) := IR_wk hI
  exact Go_retA C9 hQ hag hI (hw _ rfl) (by exact Nat.le_of_ble_eq_true rfl) (by exact Nat.le_of_ble_eq_true rfl) dX10_init_120
