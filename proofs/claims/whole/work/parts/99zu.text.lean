/-! ===== the machine: a text of the class's, its length and its signs ===== -/
def NoA : Nat → Prop := fun _ => False
def tbN : List Nat := [101, 110, 100, 115, 32, 116, 117, 114, 110, 32, 115, 112, 105, 114, 97, 108, 32, 98, 97, 99, 107, 32, 104, 97, 108, 118, 101, 115, 32, 116, 104, 105, 114, 100, 115, 32, 115, 104, 105, 102, 116, 32, 115, 119, 97, 112, 32, 114, 104, 121, 109, 101, 32, 119, 104, 111, 108, 101, 32, 101, 118, 101, 114, 121, 32, 102, 101, 101, 116, 32, 119, 111, 114, 100, 32, 98, 101, 97, 116, 115, 32, 107, 105, 110, 100, 32, 98, 97, 114, 32, 110, 111, 116, 32, 97, 110, 100, 32, 111, 114, 32, 115, 111, 114, 116, 32, 110, 101, 120, 116, 32, 108, 111, 110, 103, 32, 115, 104, 111, 114, 116, 32, 97, 108, 105, 107, 101, 32]
def tbI (j : Nat) : Int32 := nI (tbN.getD j 0)
def SPre (aK aV : Nat) (A : Nat → Prop) (U : State) : Prop :=
  va_O "java/lang/String" aK A U U.heap ∧ va_OF "java/lang/String" "coder" "B" (.int 0) aK A U U.heap ∧ va_OF "java/lang/String" "value" "[B" (.ref aV) aK A U U.heap ∧ va_T .byte aV 128 (fun j => .int (tbI j)) A U U.heap ∧
  va_Z "java/lang/String" "COMPACT_STRINGS" "Z" (.int 1) A U U.heap ∧ va_Zq "jdk/internal/util/Preconditions" "SIOOBE_FORMATTER" "Ljava/util/function/BiFunction;" A U U.heap
theorem SPre.go {aK aV : Nat} {A B : Nat → Prop} {s U : State} {H : Heap} {locs : List Loc} (h : SPre aK aV A s) (hS : va_S A s.heap H locs) (hAB : ∀ q, B q → A q) (hU : U.heap = H) (hvm : s.vm.Alike U.vm) : SPre aK aV B U := by
  subst hU
  obtain ⟨h1, h2, h3, h4, h5, h6⟩ := h
  exact ⟨va_O.moved hvm ((h1.kept hS.2.1).narrow hAB), va_OF.moved hvm ((h2.kept hS.2.1).narrow hAB), va_OF.moved hvm ((h3.kept hS.2.1).narrow hAB), va_T.moved hvm ((h4.kept hS.2.1).narrow hAB), va_Z.moved hvm ((h5.kept hS.2.1).narrow hAB), va_Zq.moved hvm ((h6.kept hS.2.1).narrow hAB)⟩
theorem spre_blind {av : List Value} {aK aV : Nat} {A : Nat → Prop} : FrameBlind (va_Pc av (SPre aK aV A)) := fun a U g mk q => by
  obtain ⟨q0, q1⟩ := q
  exact ⟨q0, SPre.go (s := U) (U := U.calling g mk a) (H := U.heap) (locs := []) q1 va_S.rf (fun _ h => h) rfl (Vm.Alike.refl U.vm)⟩
theorem true_blind {av : List Value} : FrameBlind (va_Pc av (fun _ => True)) := fun a U g mk q => by
  obtain ⟨q0, -⟩ := q
  exact ⟨q0, trivial⟩
theorem MetJ_of {l : Launch} {y : MethodName} {rm : Room} {cc : ByteArray} {maxL : Nat} {ret : Option FieldType} {av : List Value} {P : State → Prop} {Qc : Array Value → State → Outcome → State → Prop} (hy : plainFor y = true) (hlen : (lg_sl av).length ≤ maxL)
    (body : ∀ (p : Program) (e : Env) (s : State) (m : MethodId) (below : List Frame) (meth : Method) (c : Code), CallFix p m c cc maxL s av.toArray BIG y.cls → meth.locks = false → meth.sig.returnType = ret → P s → ∀ ls : Array Slot, lv_has ls maxL (lv_args 0 av) → W p l e rm s m av.toArray below meth c s.heap [] 0 0 (MQ below Qc av.toArray s 0 0 NoA) (F0 m 0 ls [])) : Met l y (wB y cc maxL ret) rm (va_Pc av P) Qc 0 0 NoA := by
  refine Met_ofWF (cc := cc) (maxL := maxL) (ret := ret) hy rfl ?_
  intro p e s m args below meth c s₁ B hml hv
  obtain ⟨rfl, hv⟩ := hv
  rw [lg_entry_eq]
  exact body p e s m below meth c ⟨B.exec, B.bytes, hml, findClass_of_methodNamed B.named, fun w h => atoms_spec (ws := wB y cc maxL ret) B.pre w (List.mem_cons_of_mem _ h)⟩ B.notSynchronized B.returns hv _ (lv_entry av hlen)
abbrev QJi (post : Int32 → Prop) : Array Value → State → Outcome → State → Prop := va_Qi (fun r (_ : Unit) => post r) (fun _ _ => True) NoA
abbrev QJv : Array Value → State → Outcome → State → Prop := va_Qv (fun (_ : Unit) => True) (fun _ _ => True) NoA
theorem c_J0_coder (l : Launch) {aK aV : Nat} : Met l yJ0_coder_7d493 (wB yJ0_coder_7d493 cJ0_coder_7d493 1 (some .byte)) { frames := 0, cells := 0, slots := 0, locals := 0 } (va_Pc [.ref aK] (SPre aK aV NoA)) (QJi (fun r => r = 0)) 0 0 NoA := by
  refine MetJ_of (by decide +kernel) (Nat.le_of_ble_eq_true rfl) (fun p e s m below meth c F hlk hr hv ls hl => ?_)
  obtain ⟨hx, hb, hml, hown, hts⟩ := F
  have hl : lv_has ls 1 [(0, .ref aK)] := hl
  have hS : va_S NoA s.heap s.heap [] := va_S.rf
  refine va_gets hx hb hv.2.2.2.2.1 hS hown (hts _ wm_4_4) (fun _ h => h) dJ0_coder_7d493_0 ?_
  refine lv_if_eq (tgt := 13) hx hb dJ0_coder_7d493_3 (by decide) (fun q => absurd q (by decide)) (fun _ => ?_)
  refine lv_aload_n hx hb dJ0_coder_7d493_6 rfl (lv_at hl 0 rfl) ?_
  refine vk_getf hx hb hv.2.1 hS hown (hts _ wm_4_5) (fun _ h => h) dJ0_coder_7d493_7 ?_
  refine lv_goto (tgt := 14) hx hb dJ0_coder_7d493_10 (by decide) ?_
  exact W.zret (v := 0) hx hb hr rfl (fun t ht hW => ⟨⟨0, (), rfl, rfl, trivial⟩, hS.F ht⟩) (fun _ h => by cases h) dJ0_coder_7d493_14 hlk
theorem c_J0_isLatin1 (l : Launch) {aK aV : Nat} : Met l yJ0_isLatin1_aae02 (wB yJ0_isLatin1_aae02 cJ0_isLatin1_aae02 1 (some .boolean)) { frames := 0, cells := 0, slots := 0, locals := 0 } (va_Pc [.ref aK] (SPre aK aV NoA)) (QJi (fun r => r = 1)) 0 0 NoA := by
  refine MetJ_of (by decide +kernel) (Nat.le_of_ble_eq_true rfl) (fun p e s m below meth c F hlk hr hv ls hl => ?_)
  obtain ⟨hx, hb, hml, hown, hts⟩ := F
  have hl : lv_has ls 1 [(0, .ref aK)] := hl
  have hS : va_S NoA s.heap s.heap [] := va_S.rf
  refine va_gets hx hb hv.2.2.2.2.1 hS hown (hts _ wm_4_4) (fun _ h => h) dJ0_isLatin1_aae02_0 ?_
  refine lv_if_eq (tgt := 17) hx hb dJ0_isLatin1_aae02_3 (by decide) (fun q => absurd q (by decide)) (fun _ => ?_)
  refine lv_aload_n hx hb dJ0_isLatin1_aae02_6 rfl (lv_at hl 0 rfl) ?_
  refine vk_getf hx hb hv.2.1 hS hown (hts _ wm_4_5) (fun _ h => h) dJ0_isLatin1_aae02_7 ?_
  refine lv_if_ne (tgt := 17) hx hb dJ0_isLatin1_aae02_10 (by decide) (fun q => absurd rfl q) (fun _ => ?_)
  refine lv_iconst (v := 1) hx hb dJ0_isLatin1_aae02_13 (by decide) ?_
  refine lv_goto (tgt := 18) hx hb dJ0_isLatin1_aae02_14 (by decide) ?_
  exact W.zret (v := 1) hx hb hr rfl (fun t ht hW => ⟨⟨1, (), rfl, rfl, trivial⟩, hS.F ht⟩) (fun _ h => by cases h) dJ0_isLatin1_aae02_18 hlk
theorem c_J0_length (l : Launch) {aK aV : Nat} : Met l yJ0_length_8abf5 (wB yJ0_length_8abf5 cJ0_length_8abf5 1 (some .int)) { frames := 1, cells := 0, slots := 0, locals := 20 } (va_Pc [.ref aK] (SPre aK aV NoA)) (QJi (fun r => r = 128)) 0 0 NoA := by
  refine MetJ_of (by decide +kernel) (Nat.le_of_ble_eq_true rfl) (fun p e s m below meth c F hlk hr hv ls hl => ?_)
  obtain ⟨hx, hb, hml, hown, hts⟩ := id F
  have hl : lv_has ls 1 [(0, .ref aK)] := hl
  have hS : va_S NoA s.heap s.heap [] := va_S.rf
  refine lv_aload_n hx hb dJ0_length_8abf5_0 rfl (lv_at hl 0 rfl) ?_
  refine vk_getf hx hb hv.2.2.1 hS hown (hts _ wm_3_23) (fun _ h => h) dJ0_length_8abf5_1 ?_
  refine va_tlen (v := 128) hx hb hv.2.2.2.1 hS (by decide) dJ0_length_8abf5_4 ?_
  refine lv_aload_n hx hb dJ0_length_8abf5_5 rfl (lv_at hl 0 rfl) ?_
  obtain ⟨cell, o1, o2, o3, -⟩ := hv.1
  refine va_calli (va_runV (As := []) (rest := [.int 128]) F (c_J0_coder l (aK := aK) (aV := aV)) (cwV 0 hts (gdV wm_4_0 wm_4_1 wm_4_2 wm_3_21 wm_4_3) rfl rfl rfl (by decide +kernel) ⟨by decide, by decide⟩) ⟨spre_blind, ⟨cell, o1, o2, o3⟩, fun U hU hW => ⟨rfl, SPre.go (H := s.heap) (locs := []) hv hS (fun _ h => h) hU hW.alike⟩⟩ rfl rfl hl.1 rfl (lv_room (Nat.le_of_ble_eq_true rfl)) dJ0_length_8abf5_6 ⟨Nat.le_of_ble_eq_true rfl, Nat.le_of_ble_eq_true rfl⟩) hS (fun q _ h => h) (fun q h => h) (fun r u t H1 locs1 ht hvm hw hB hz hk hS1 => ?_)
  have hw : r = 0 := hw
  subst hw
  refine lv_ishr hx hb dJ0_length_8abf5_9 ?_
  exact W.iret (v := _) hx hb hr (fun t ht hW => ⟨⟨_, (), rfl, by decide, trivial⟩, hS1.F ht⟩) hS1.2.2 dJ0_length_8abf5_10 hlk
theorem c_J3_checkIndex (l : Launch) {i n : Nat} {v : Value} (hi : i < n) (hn : n < 2 ^ 31) (hc : v = .null ∨ ∃ t, v = .ref t) : Met l yJ3_checkIndex_8e157 (wB yJ3_checkIndex_8e157 cJ3_checkIndex_8e157 3 (some .int)) { frames := 0, cells := 0, slots := 0, locals := 0 } (va_Pc [.int (nI i), .int (nI n), v] (fun _ => True)) (QJi (fun r => r = nI i)) 0 0 NoA := by
  refine MetJ_of (by decide +kernel) (by rcases hc with rfl | ⟨t, rfl⟩ <;> exact Nat.le_of_ble_eq_true rfl) (fun p e s m below meth c F hlk hr hv ls hl => ?_)
  obtain ⟨hx, hb, hml, hown, hts⟩ := F
  have hS : va_S NoA s.heap s.heap [] := va_S.rf
  have hl : lv_has ls 3 [(0, .int (nI i)), (1, .int (nI n))] := ⟨hl.1, hl.2.1, fun z hz => hl.2.2 z (by
    rcases List.mem_cons.mp hz with rfl | hz
    · exact List.mem_cons_self
    · rcases List.mem_cons.mp hz with rfl | hz
      · exact List.mem_cons_of_mem _ List.mem_cons_self
      · cases hz)⟩
  refine lv_iload_n hx hb dJ3_checkIndex_8e157_0 rfl (lv_at hl 0 rfl) ?_
  refine lv_if_lt (tgt := 9) hx hb dJ3_checkIndex_8e157_1 (by decide) (fun q => absurd q (nI_pos (by omega))) (fun _ => ?_)
  refine lv_iload_n hx hb dJ3_checkIndex_8e157_4 rfl (lv_at hl 0 rfl) ?_
  refine lv_iload_n hx hb dJ3_checkIndex_8e157_5 rfl (lv_at hl 1 rfl) ?_
  refine lv_icmp_lt (tgt := 16) hx hb dJ3_checkIndex_8e157_6 (by decide) (fun _ => ?_) (fun q => absurd (nI_lt hi hn) q)
  refine lv_iload_n hx hb dJ3_checkIndex_8e157_16 rfl (lv_at hl 0 rfl) ?_
  exact W.iret (v := _) hx hb hr (fun t ht hW => ⟨⟨_, (), rfl, rfl, trivial⟩, hS.F ht⟩) (fun _ h => by cases h) dJ3_checkIndex_8e157_17 hlk
theorem c_J0_checkIndex (l : Launch) {aK aV i n : Nat} (hi : i < n) (hn : n < 2 ^ 31) : Met l yJ0_checkIndex_df160 (wB yJ0_checkIndex_df160 cJ0_checkIndex_df160 2 none) { frames := 1, cells := 0, slots := 0, locals := 22 } (va_Pc [.int (nI i), .int (nI n)] (SPre aK aV NoA)) QJv 0 0 NoA := by
  refine MetJ_of (by decide +kernel) (Nat.le_of_ble_eq_true rfl) (fun p e s m below meth c F hlk hr hv ls hl => ?_)
  obtain ⟨hx, hb, hml, hown, hts⟩ := id F
  have hl : lv_has ls 2 [(0, .int (nI i)), (1, .int (nI n))] := hl
  have hS : va_S NoA s.heap s.heap [] := va_S.rf
  refine lv_iload_n hx hb dJ0_checkIndex_df160_0 rfl (lv_at hl 0 rfl) ?_
  refine lv_iload_n hx hb dJ0_checkIndex_df160_1 rfl (lv_at hl 1 rfl) ?_
  have go : ∀ v : Value, (v = .null ∨ ∃ t, v = .ref t) → W p l e { frames := 1, cells := 0, slots := 0, locals := 22 } s m ([.int (nI i), .int (nI n)] : List Value).toArray below meth c s.heap [] 0 0 (MQ below QJv ([.int (nI i), .int (nI n)] : List Value).toArray s 0 0 NoA) (F0 m 5 ls [v, .int (nI n), .int (nI i)]) := by
    intro v hc
    refine va_calli (va_runS (As := [.int (nI i), .int (nI n), v]) (rest := []) F (c_J3_checkIndex l hi hn hc) (va_cwS 3 hts (gdS wm_4_22 wm_4_23 wm_5_0 wm_5_1) rfl rfl rfl (by decide +kernel) ⟨by decide, by decide⟩) ⟨true_blind, fun U hU hW => ⟨rfl, trivial⟩⟩ rfl rfl hl.1 rfl (lv_room (Nat.le_of_ble_eq_true rfl)) dJ0_checkIndex_df160_5 ⟨Nat.le_of_ble_eq_true rfl, Nat.le_of_ble_eq_true rfl⟩) hS (fun q _ h => h) (fun q h => h) (fun r u t H1 locs1 ht hvm hw hB hz hk hS1 => ?_)
    refine lv_pop hx hb dJ0_checkIndex_df160_8 rfl ?_
    exact W.vret hx hb hr (fun t ht hW => ⟨⟨(), rfl, trivial, trivial⟩, hS1.F ht⟩) hS1.2.2 dJ0_checkIndex_df160_9 hlk
  rcases hv.2.2.2.2.2 with hz | ⟨t0, hz⟩
  · exact va_gets hx hb hz hS hown (hts _ wm_4_21) (fun _ h => h) dJ0_checkIndex_df160_2 (go _ (Or.inl rfl))
  · exact va_gets hx hb hz hS hown (hts _ wm_4_21) (fun _ h => h) dJ0_checkIndex_df160_2 (go _ (Or.inr ⟨_, rfl⟩))
theorem c_J1_charAt (l : Launch) {aK aV i : Nat} (hi : i < 128) : Met l yJ1_charAt_3b067 (wB yJ1_charAt_3b067 cJ1_charAt_3b067 2 (some .char)) { frames := 2, cells := 0, slots := 0, locals := 43 } (va_Pc [.ref aV, .int (nI i)] (SPre aK aV NoA)) (QJi (fun r => r = tbI i)) 0 0 NoA := by
  have tb : ∀ i, i < 128 → (((tbI i &&& (255 : Int32)).toUInt32 % 65536).toInt32) = tbI i ∧ narrow .char (.int (tbI i)) = .int (tbI i) := by
    have h1 : ∀ i, i < 128 → tbN.getD i 0 < 128 := by decide +kernel
    have h2 : ∀ b, b < 128 → (((nI b &&& (255 : Int32)).toUInt32 % 65536).toInt32) = nI b := by decide +kernel
    have h3 : ∀ b, b < 128 → narrow .char (.int (nI b)) = .int (nI b) := by decide +kernel
    exact fun i hi => ⟨h2 _ (h1 i hi), h3 _ (h1 i hi)⟩
  refine MetJ_of (by decide +kernel) (Nat.le_of_ble_eq_true rfl) (fun p e s m below meth c F hlk hr hv ls hl => ?_)
  obtain ⟨hx, hb, hml, hown, hts⟩ := id F
  have hl : lv_has ls 2 [(0, .ref aV), (1, .int (nI i))] := hl
  have hS : va_S NoA s.heap s.heap [] := va_S.rf
  refine lv_iload_n hx hb dJ1_charAt_3b067_0 rfl (lv_at hl 1 rfl) ?_
  refine lv_aload_n hx hb dJ1_charAt_3b067_1 rfl (lv_at hl 0 rfl) ?_
  refine va_tlen (v := nI 128) hx hb hv.2.2.2.1 hS rfl dJ1_charAt_3b067_2 ?_
  refine va_callv (va_runS (As := [.int (nI i), .int (nI 128)]) (rest := []) F (c_J0_checkIndex l (aK := aK) (aV := aV) hi (by decide)) (va_cwS 2 hts (gdS wm_4_18 wm_4_19 wm_3_21 wm_4_20) rfl rfl rfl (by decide +kernel) ⟨by decide, by decide⟩) ⟨spre_blind, fun U hU hW => ⟨rfl, SPre.go (H := s.heap) (locs := []) hv hS (fun _ h => h) hU hW.alike⟩⟩ rfl rfl hl.1 rfl (lv_room (Nat.le_of_ble_eq_true rfl)) dJ1_charAt_3b067_3 ⟨Nat.le_of_ble_eq_true rfl, Nat.le_of_ble_eq_true rfl⟩) hS (fun q _ h => h) (fun q h => h) (fun u t H1 locs1 ht hvm hw hB hz hk hS1 => ?_)
  refine lv_aload_n hx hb dJ1_charAt_3b067_6 rfl (lv_at hl 0 rfl) ?_
  refine lv_iload_n hx hb dJ1_charAt_3b067_7 rfl (lv_at hl 1 rfl) ?_
  refine va_tb (v := .int (tbI i)) hx hb hv.2.2.2.1 hS1 (vp_in_nI hi (by omega)) (by rw [nI_clamp (by omega)]) dJ1_charAt_3b067_8 ?_
  refine lv_sipush (v := 255) hx hb dJ1_charAt_3b067_9 (by decide) ?_
  refine lv_iand hx hb dJ1_charAt_3b067_12 ?_
  refine lv_i2c hx hb dJ1_charAt_3b067_13 (tb i hi).1 ?_
  exact W.zret (v := tbI i) hx hb hr (tb i hi).2 (fun t ht hW => ⟨⟨_, (), rfl, rfl, trivial⟩, hS1.F ht⟩) hS1.2.2 dJ1_charAt_3b067_14 hlk
theorem c_J0_charAt (l : Launch) {aK aV i : Nat} (hi : i < 128) : Met l yJ0_charAt_5068e (wB yJ0_charAt_5068e cJ0_charAt_5068e 2 (some .char)) { frames := 3, cells := 0, slots := 0, locals := 64 } (va_Pc [.ref aK, .int (nI i)] (SPre aK aV NoA)) (QJi (fun r => r = tbI i)) 0 0 NoA := by
  have nr : ∀ i, i < 128 → narrow .char (.int (tbI i)) = .int (tbI i) := by
    have h1 : ∀ i, i < 128 → tbN.getD i 0 < 128 := by decide +kernel
    have h3 : ∀ b, b < 128 → narrow .char (.int (nI b)) = .int (nI b) := by decide +kernel
    exact fun i hi => h3 _ (h1 i hi)
  refine MetJ_of (by decide +kernel) (Nat.le_of_ble_eq_true rfl) (fun p e s m below meth c F hlk hr hv ls hl => ?_)
  obtain ⟨hx, hb, hml, hown, hts⟩ := id F
  have hl : lv_has ls 2 [(0, .ref aK), (1, .int (nI i))] := hl
  have hS : va_S NoA s.heap s.heap [] := va_S.rf
  refine lv_aload_n hx hb dJ0_charAt_5068e_0 rfl (lv_at hl 0 rfl) ?_
  obtain ⟨cell, o1, o2, o3, -⟩ := hv.1
  refine va_calli (va_runV (As := []) (rest := []) F (c_J0_isLatin1 l (aK := aK) (aV := aV)) (cwV 0 hts (gdV wm_4_10 wm_4_11 wm_4_12 wm_3_21 wm_4_13) rfl rfl rfl (by decide +kernel) ⟨by decide, by decide⟩) ⟨spre_blind, ⟨cell, o1, o2, o3⟩, fun U hU hW => ⟨rfl, SPre.go (H := s.heap) (locs := []) hv hS (fun _ h => h) hU hW.alike⟩⟩ rfl rfl hl.1 rfl (lv_room (Nat.le_of_ble_eq_true rfl)) dJ0_charAt_5068e_1 ⟨Nat.le_of_ble_eq_true rfl, Nat.le_of_ble_eq_true rfl⟩) hS (fun q _ h => h) (fun q h => h) (fun r u t H1 locs1 ht hvm hw hB hz hk hS1 => ?_)
  have hw : r = 1 := hw
  subst hw
  refine lv_if_eq (tgt := 16) hx hb dJ0_charAt_5068e_4 (by decide) (fun q => absurd q (by decide)) (fun _ => ?_)
  refine lv_aload_n hx hb dJ0_charAt_5068e_7 rfl (lv_at hl 0 rfl) ?_
  refine vk_getf hx hb hv.2.2.1 hS1 hown (hts _ wm_3_23) (fun _ h => h) dJ0_charAt_5068e_8 ?_
  refine lv_iload_n hx hb dJ0_charAt_5068e_11 rfl (lv_at hl 1 rfl) ?_
  refine va_calli (va_runS (As := [.ref aV, .int (nI i)]) (rest := []) F (c_J1_charAt l (aK := aK) (aV := aV) hi) (va_cwS 2 hts (gdS wm_4_14 wm_4_15 wm_4_16 wm_4_17) rfl rfl rfl (by decide +kernel) ⟨by decide, by decide⟩) ⟨spre_blind, fun U hU hW => ⟨rfl, SPre.go (H := H1) (locs := locs1) hv hS1 (fun _ h => h) hU hW.alike⟩⟩ rfl rfl hl.1 rfl (lv_room (Nat.le_of_ble_eq_true rfl)) dJ0_charAt_5068e_12 ⟨Nat.le_of_ble_eq_true rfl, Nat.le_of_ble_eq_true rfl⟩) hS1 (fun q _ h => h) (fun q h => h) (fun r u t H2 locs2 ht hvm hw hB hz hk hS2 => ?_)
  have hw : r = tbI i := hw
  subst hw
  exact W.zret (v := tbI i) hx hb hr (nr i hi) (fun t ht hW => ⟨⟨_, (), rfl, rfl, trivial⟩, hS2.F ht⟩) hS2.2.2 dJ0_charAt_5068e_15 hlk
