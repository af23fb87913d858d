/-! ===== EndsRoundLaw.judged ===== -/
theorem Met_ofWHF {l : Launch} {y : MethodName} {ws ws' : List Cond} {rm : Room} {Pc : Array Value → State → Prop} {Qc : Array Value → State → Outcome → State → Prop} {mc ms : Nat} {free : Addr → Prop} {cc : ByteArray} {maxL : Nat} {ret : Option FieldType} {hh : List (Nat × Nat × Nat × Nat)}
    (hy : plainFor y = true) (hw : ws = Cond.codeWith y cc maxL ret hh :: ws')
    (body : ∀ p e s m args below meth c s₁, BodyLoose p l y (headSpec ws rm) cc maxL ret e s m args below meth c s₁ → c.maxLocals = maxL → Pc args s →
      W p l e (headSpec ws rm).room s m args below meth c s.heap [] 0 0 (MQ below Qc args s mc ms free) (entryFrame m args maxL)) : Met l y ws rm Pc Qc mc ms free := by
  refine MetFree.of_bodySF (code := cc) (maxLocals := maxL) (ret := ret) hy ?_ ?_
  · intro args s m h hn
    obtain ⟨m9, meth, c, hn9, h1, h2, h3, h4, -, h5, h6, -⟩ := Cond.codeWith_spec (atoms_spec (ws := ws) h _ (by rw [hw]; exact List.mem_cons_self))
    cases hn.symm.trans hn9
    exact ⟨meth, c, h1, h2, h3, h4, h5, h6⟩
  · intro p e s m args below meth c s₁ B hml hP _
    have hh0 : s₁.heap = s.heap := by rw [B.state]; rfl
    obtain ⟨t, a1, o, b1, b2, b3⟩ := body p e s m args below meth c s₁ B hml hP s₁ hh0 (Stand.of_body B)
    exact ⟨t, o, a1, b1, b2, ⟨b3.1, b3.2⟩⟩
abbrev oc (cy : Nat → ClassId) (f : Nat → Int64) : va_E := .inl (cy 2, 1, .inr (.inl f))
abbrev hhL : List (Nat × Nat × Nat × Nat) := [(0, 9, 12, 13)]
abbrev wsLJ : List Cond := Cond.codeWith yL_judged cL_judged 4 (some .int) hhL :: wsJX
abbrev rm_LJ : Room := { frames := 10, cells := 0, slots := 0, locals := 140 }
abbrev rm_LJX : Room := { frames := 10, cells := 1, slots := 6, locals := 140 }
abbrev QLJ (D : va_G) (cy : Nat → ClassId) (ad : Nat → Nat) (aO : Nat) (X1 : va_W) (A : Nat → Prop) (post : Int32 → St → (Nat → Int64) → Prop) : Array Value → State → Outcome → State → Prop :=
  va_Qi (fun r (u : St × (Nat → Int64)) => post r u.1 u.2) (fun u t => va_P D vwCl (((aO, oc cy u.2) :: X1) ++ wl cy ad shE NE u.1) t.heap ∧ RCE u.1) A
theorem c_L_judged (l : Launch) {p0 : Int32} {S : St} {Q : Int32 → St → Prop} (h0 : ¬ p0 < 0) (h1 : p0 ≤ 1) (hR : RCE S) (hw : w_X11_judged p0 S Q) (D : va_G) (cy : Nat → ClassId) (ad : Nat → Nat) (aO : Nat) (f : Nat → Int64) (X1 : va_W) (sz : Nat) :
    Met l yL_judged wsLJ rm_LJ (va_Pc [.ref (ad 0), .int p0, .ref aO] (PreB D cy ad ((aO, oc cy f) :: X1) sz shE NE S)) (QLJ D cy ad aO X1 (va_A (((aO, oc cy f) :: X1) ++ wl cy ad shE NE S) sz) (fun r S' f' => r = 0 ∧ ∃ v, Q v S' ∧ f' 0 = v.toInt64)) 0 0 (va_A (((aO, oc cy f) :: X1) ++ wl cy ad shE NE S) sz) := by
  refine Met_ofWHF (cc := cL_judged) (maxL := 4) (ret := some .int) (plainFor_of_name (by decide)) rfl ?_
  intro p e s m args below meth c s₁ B hml hv
  obtain ⟨rfl, hsz, hP, hK, hD0, hN⟩ := hv
  subst hsz
  rw [lg_entry_eq]
  have ht : ∀ w ∈ wsJX, w.before ([Value.ref (ad 0), .int p0, .ref aO] : List Value).toArray s = true := fun w h => atoms_spec (ws := wsLJ) B.pre w (List.mem_cons_of_mem _ h)
  obtain ⟨Q9, hQ9⟩ : ∃ z, z = MQ below (QLJ D cy ad aO X1 (va_A (((aO, oc cy f) :: X1) ++ wl cy ad shE NE S) s.heap.size) (fun r S' f' => r = 0 ∧ ∃ v, Q v S' ∧ f' 0 = v.toInt64)) ([Value.ref (ad 0), .int p0, .ref aO] : List Value).toArray s 0 0 (va_A (((aO, oc cy f) :: X1) ++ wl cy ad shE NE S) s.heap.size) := ⟨_, rfl⟩
  have G0 : ∀ G : GC, G = (p, l, e, rm_LJ, s, m, ([Value.ref (ad 0), .int p0, .ref aO] : List Value).toArray, below, meth, c, Q9, D, cy, ad, (aO, oc cy f) :: X1, va_A (((aO, oc cy f) :: X1) ++ wl cy ad shE NE S) s.heap.size, shE, NE, 0, 0) → Go G 4 0 [] [(0, .ref (Gad G 0)), (1, .int p0), (2, .ref aO)] S := by
    intro G hG
    have C : Cx G cL_judged BIG RL 4 (some .int) rm_LJ shE NE := by
      subst hG
      exact ⟨B.exec, B.bytes, hml, findClass_of_methodNamed B.named, fun w h => ht w (List.mem_append_left _ h), B.notSynchronized, B.returns, hK, fun _ h => Or.inr h, hN, rfl, rfl, rfl, Nat.zero_le _, Nat.zero_le _⟩
    refine Go_aload_n (q := 1) C 2 rfl dL_judged_0 rfl ?_
    refine Go_iconst (q := 2) (v := (0 : Int32)) C dL_judged_1 rfl rfl ?_
    refine Go_aload_n (q := 3) C 0 rfl dL_judged_2 rfl ?_
    refine Go_iload_n (q := 4) C 1 rfl dL_judged_3 rfl ?_
    refine Go_callV_I (av := (fun ad => [.int p0])) (st := [.int 0, .ref aO]) (C := C) (hM := c_X11_judged (Gl G) h0 h1 hR hw) (hlk := wm_44_11) (hini := wm_1_2) (hins := wm_44_12) (hsel := wm_44_13) (hcode := wm_44_14) (ho := kE_0) (hci := rfl) (hc13 := by decide) (n := 1) (hd := by decide +kernel) (hr0 := ⟨rfl, rfl⟩) (hroom := ⟨by decide, by decide⟩) (hlen := rfl) (hst := rfl) (hW := Nat.le_of_ble_eq_true rfl) (hdg := dL_judged_4) (q := 7) (hq := rfl) (fun r S1 hw hR => ?_)
    refine Go_i2l (q := 8) C dL_judged_7 rfl ?_
    intro H locs ls hP1 hD1 hS1 hl1
    subst hG
    subst hQ9
    refine va_last (ws := ((aO, oc cy f) :: X1) ++ wl cy ad shE NE S1) B.exec B.bytes hK hP1 hD1 hS1 0 2 rfl rfl (i := 0) (x := r.toInt64) (vp_in_nI (n := 0) (N := 1) (by omega) (by omega)) dL_judged_8 (fun H2 locs2 hP2 hD2 hS2 => ?_)
    refine lv_goto B.exec B.bytes (tgt := 15) dL_judged_9 rfl ?_
    refine lv_iconst (v := (0 : Int32)) B.exec B.bytes dL_judged_15 rfl ?_
    refine W.iret (v := 0) B.exec B.bytes B.returns (fun t ht9 hW => ⟨⟨0, (S1, vp_updL f (0 : Int32).toNatClampNeg r.toInt64), rfl, ⟨rfl, r, hw, rfl⟩, by rw [ht9]; exact hP2, hR⟩, hS2.F ht9⟩) hS2.2.2 dL_judged_16 B.notSynchronized
  subst hQ9
  exact (G0 _ rfl) s.heap [] _ hP hD0.self va_S.rf (lv_entry [Value.ref (ad 0), .int p0, .ref aO] (n := 4) (Nat.le_of_ble_eq_true rfl))
theorem wsJX_good : ∀ w ∈ wsJX, goodWord w = true := fun w h => (List.mem_append.mp h).elim (BIG_good w) (zjW_good w)
theorem jgo {w : Cond} (h : w ∈ wsJX) : w ∈ wsJX ∧ ((w.onTables && w.keeps) = true ∨ ∃ ty, w = .arrayClass ty) := ⟨h, good_of_word (wsJX_good w h)⟩
theorem gdJ : GoodIn wsJX (wsV RL 7 RX11 yX11_judged (Cond.code yX11_judged cX11_judged 4 (some .int) :: wsJX)) := fun w hw => by
  rcases List.mem_append.mp hw with hw | hw
  · refine jgo (List.mem_append_left _ ?_)
    rcases List.mem_cons.mp hw with rfl | hw
    · exact wm_44_11
    rcases List.mem_cons.mp hw with rfl | hw
    · exact wm_44_12
    rcases List.mem_cons.mp hw with rfl | hw
    · exact wm_44_13
    rcases List.mem_cons.mp hw with rfl | hw
    · exact wm_1_2
    exact absurd hw List.not_mem_nil
  · refine jgo ?_
    rcases List.mem_cons.mp hw with rfl | hw
    · exact List.mem_append_left _ wm_44_14
    · exact hw
theorem c_L_judgedX (l : Launch) (hfl : l.stackTraces = false) {p0 : Int32} {S : St} (h0 : p0 < 0 ∨ 1 < p0) (hR : RCE S) (D : va_G) (cy : Nat → ClassId) (ad : Nat → Nat) (aO : Nat) (f : Nat → Int64) (X1 : va_W) (sz : Nat) :
    Met l yL_judged wsLJ rm_LJX (va_Pc [.ref (ad 0), .int p0, .ref aO] (PreX D cy ad ((aO, oc cy f) :: X1) sz S)) (QLJ D cy ad aO X1 (va_A (((aO, oc cy f) :: X1) ++ wl cy ad shE NE S) sz) (fun r S' f' => r = 1 ∧ S' = S ∧ f' = f)) 1 6 (va_A (((aO, oc cy f) :: X1) ++ wl cy ad shE NE S) sz) := by
  refine Met_ofWHF (cc := cL_judged) (maxL := 4) (ret := some .int) (plainFor_of_name (by decide)) rfl ?_
  intro p e s m args below meth c s₁ B hml hv
  obtain ⟨rfl, ⟨hsz, hP, hK, hD0, hN⟩, hJ⟩ := hv
  subst hsz
  rw [lg_entry_eq]
  have ht : ∀ w ∈ wsJX, w.before ([Value.ref (ad 0), .int p0, .ref aO] : List Value).toArray s = true := fun w h => atoms_spec (ws := wsLJ) B.pre w (List.mem_cons_of_mem _ h)
  have htab : c.exceptionTable.toList = tableOf hhL := vx_table (x := yL_judged) B (atoms_spec (ws := wsLJ) B.pre _ List.mem_cons_self)
  obtain ⟨Q9, hQ9⟩ : ∃ z, z = MQ below (QLJ D cy ad aO X1 (va_A (((aO, oc cy f) :: X1) ++ wl cy ad shE NE S) s.heap.size) (fun r S' f' => r = 1 ∧ S' = S ∧ f' = f)) ([Value.ref (ad 0), .int p0, .ref aO] : List Value).toArray s 1 6 (va_A (((aO, oc cy f) :: X1) ++ wl cy ad shE NE S) s.heap.size) := ⟨_, rfl⟩
  have G0 : ∀ G : GC, G = (p, l, e, rm_LJX, s, m, ([Value.ref (ad 0), .int p0, .ref aO] : List Value).toArray, below, meth, c, Q9, D, cy, ad, (aO, oc cy f) :: X1, va_A (((aO, oc cy f) :: X1) ++ wl cy ad shE NE S) s.heap.size, shE, NE, 0, 0) → Go G 4 0 [] [(0, .ref (Gad G 0)), (1, .int p0), (2, .ref aO)] S := by
    intro G hG
    have C : Cx G cL_judged BIG RL 4 (some .int) rm_LJX shE NE := by
      subst hG
      exact ⟨B.exec, B.bytes, hml, findClass_of_methodNamed B.named, fun w h => ht w (List.mem_append_left _ h), B.notSynchronized, B.returns, hK, fun _ h => Or.inr h, hN, rfl, rfl, rfl, Nat.zero_le _, Nat.zero_le _⟩
    refine Go_aload_n (q := 1) C 2 rfl dL_judged_0 rfl ?_
    refine Go_iconst (q := 2) (v := (0 : Int32)) C dL_judged_1 rfl rfl ?_
    refine Go_aload_n (q := 3) C 0 rfl dL_judged_2 rfl ?_
    refine Go_iload_n (q := 4) C 1 rfl dL_judged_3 rfl ?_
    intro H locs ls hP1 hD1 hS1 hl1
    have hc := wl_get (X := GX G) (cy := Gcy G) (ad := Gad G) (sh := Gsh G) (S := S) (i := 0) (N := NE) (by decide)
    subst hG
    subst hQ9
    rw [cell_obj kE_0 (by decide)] at hc
    have hA1 : ∀ q, va_A (((aO, oc cy f) :: X1) ++ wl cy ad shE NE S) H.size q → va_A (((aO, oc cy f) :: X1) ++ wl cy ad shE NE S) s.heap.size q := inA (D := D) hD1 (fun _ h => Or.inr h) hS1.1
    have pre : ∀ U : State, U.heap = H → s.WarmedH U.vm → va_Pc [Value.ref (ad 0), .int p0] (PreX D cy ad ((aO, oc cy f) :: X1) H.size S) ([Value.ref (ad 0), .int p0] : List Value).toArray U := fun U hU hW =>
      ⟨rfl, ⟨by rw [hU], by rw [hU]; exact hP1, va_K.moved hW.alike hK, hD1.weaken (fun _ _ _ _ => trivial), NW.warm hW hN⟩, JX.go hJ hS1 hA1 hU hW⟩
    refine vx_calli (vx_runV (own := RL) (As := [.int p0]) (rest := [.int 0, .ref aO]) ⟨B.exec, B.bytes, hml, findClass_of_methodNamed B.named, ht⟩ (c_X11_judgedX l hfl h0 D cy ad ((aO, oc cy f) :: X1) H.size) (cwV (C := RX11) 1 ht gdJ rfl rfl rfl (by decide +kernel) ⟨show 8 + 1 ≤ 10 by decide, show 8 + (4 + 11) + 110 ≤ 140 by decide⟩) ⟨preX_blind, va_recv hK hP1 (ci := 11) (q0 := ((aO, oc cy f) :: X1).length + 0) rfl hc, pre⟩ rfl rfl hl1.1 rfl (lv_room (Nat.le_of_ble_eq_true rfl)) dL_judged_4 ⟨Nat.le_refl _, Nat.le_refl _⟩) hS1 (fun q _ h => hA1 q h) hA1 (fun q _ h => hA1 q h) (fun E ce q9 u t H1 locs1 ht1 hvm _ hB hz hk hS2 hce hcv hcl => ?_) (fun r u t H1 locs1 ht1 hvm hw => hw.elim)
    obtain ⟨rfl, hP2⟩ := hB
    rw [ht1] at hP2
    refine vx_catch (own := RL) (name := NSE) (findClass_of_methodNamed B.named) [] ⟨0, 9, 12, 13⟩ [] htab (fun _ h => absurd h List.not_mem_nil) rfl (by decide) (ht _ (List.mem_append_left _ wm_44_10)) (cast_self hcl) hce hcv hcl ?_
    refine lv_astore_n (nL := 4) (lv' := [(3, .ref q9)]) B.exec B.bytes dL_judged_12 rfl (lv_sub hl1 [] rfl) (by decide) rfl (fun ls' hl2 => ?_)
    refine lv_iconst (v := (1 : Int32)) B.exec B.bytes dL_judged_13 rfl ?_
    refine W.iret (v := 1) B.exec B.bytes B.returns (fun t ht9 hW => ⟨⟨1, (S, f), rfl, ⟨rfl, rfl, rfl⟩, by rw [ht9]; exact hP2, hR⟩, hS2.F ht9⟩) hS2.2.2 dL_judged_14 B.notSynchronized
  subst hQ9
  exact (G0 _ rfl) s.heap [] _ hP hD0.self va_S.rf (lv_entry [Value.ref (ad 0), .int p0, .ref aO] (n := 4) (Nat.le_of_ble_eq_true rfl))
