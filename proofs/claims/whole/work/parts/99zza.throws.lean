/-! ===== EndsRound.judged where it throws ===== -/
abbrev NSE : String := "java/util/NoSuchElementException"
abbrev RTE : String := "java/lang/RuntimeException"
abbrev EXC : String := "java/lang/Exception"
abbrev TJ : String := "judged tells of 0, the line, and 1, why"
def six13 : ByteArray := ⟨#[0x2a, 0x2b, 0xb7, 0x00, 13, 0xb1]⟩
theorem six13_ok : decode six13 0 = .ok (.aload_n 0, 1) ∧ decode six13 1 = .ok (.aload_n 1, 1) ∧ decode six13 2 = .ok (.invokespecial 13, 3) ∧ decode six13 5 = .ok (.return_, 1) := ⟨by decide +kernel, by decide +kernel, by decide +kernel, by decide +kernel⟩
def zjA : List Cond := (zAt RX11 246 NSE RTE [EXC] 13 six13).filter vx_no
def zjW : List Cond := zjA.filter goodWord
theorem zjW_good : ∀ w ∈ zjW, goodWord w = true := fun w h => (List.mem_filter.mp h).2
theorem zj_ot : ∀ w ∈ Cond.classLink RX11 242 NSE :: Cond.initialized NSE :: zjA, vx_ot w = true := fun w h => List.all_eq_true.mp (by decide +kernel : (Cond.classLink RX11 242 NSE :: Cond.initialized NSE :: zjA).all vx_ot = true) w h
theorem dec_of {args : Array Value} {s : State} {y : MethodName} {bs : ByteArray} {n : Nat} {r : Option FieldType} (h1 : (Cond.instanceMethod y).before args s = true) (h2 : (Cond.code y bs n r).before args s = true) : (Cond.declares y).before args s = true := by
  obtain ⟨m, meth, hn, hm, hs, -⟩ := Cond.instanceMethod_spec h1
  obtain ⟨meth', c, hm', -, -, -, -, -, -, hsig⟩ := Cond.code_spec hn h2
  cases Option.some.inj (hm.symm.trans hm')
  simp [Cond.before, Cond.holds, Cond.value, hn, hm, hs, hsig]
theorem cast_self {args : Array Value} {s : State} {C : String} {c : ClassId} (h : s.vm.findClass C = some c) : (Cond.castable C C).before args s = true := by
  simp [Cond.before, Cond.holds, Cond.value, h, Vm.assignable_self]
theorem zj_hat {args : Array Value} {s : State} (h : ∀ w ∈ zjW, w.before args s = true) : ∀ w ∈ zjA, w.before args s = true := by
  refine vx_hat (B := [Cond.declares (Bundle.initS RTE), Cond.declares (Bundle.initS EXC), Cond.declares (Bundle.initS Bundle.tN)]) h (by decide +kernel) ?_
  refine vx_c (dec_of (bs := Bundle.six) (n := 2) (r := none) (h _ (by decide +kernel)) (h _ (by decide +kernel))) (vx_c (dec_of (bs := Bundle.six) (n := 2) (r := none) (h _ (by decide +kernel)) (h _ (by decide +kernel))) (vx_c (dec_of (bs := LibCode.Throwable.InitS.code) (n := 2) (r := none) (h _ (by decide +kernel)) (h _ (by decide +kernel))) vx_n))
/-- what the throw asks of the world: the text, the two statics of Throwable -/
def JX (A : Nat → Prop) (U : State) : Prop := (∃ sa, vk_R RX11 244 TJ sa U) ∧ vx_Zq Bundle.tN "UNASSIGNED_STACK" Bundle.steD A U U.heap ∧ vx_Zq Bundle.tN "SUPPRESSED_SENTINEL" Bundle.listD A U U.heap
theorem JX.go {A B : Nat → Prop} {s U : State} {H : Heap} {locs : List Loc} (h : JX A s) (hS : va_S A s.heap H locs) (hAB : ∀ q, B q → A q) (hU : U.heap = H) (hW : s.WarmedH U.vm) : JX B U := by
  obtain ⟨⟨sa, h1⟩, h2, h3⟩ := h
  subst hU
  exact ⟨⟨sa, vk_R.warm hW h1⟩, vx_Zq.moved hW.alike ((h2.kept hS.2.1).narrow hAB), vx_Zq.moved hW.alike ((h3.kept hS.2.1).narrow hAB)⟩
theorem JX.calling {A : Nat → Prop} {U : State} {g : JFrame} {mk : MethodId} {a : Array Value} (h : JX A U) : JX A (U.calling g mk a) :=
  JX.go (U := U.calling g mk a) (H := U.heap) (locs := []) h va_S.rf (fun _ h => h) rfl (State.WarmedH.refl U)
abbrev PreX (D : va_G) (cy : Nat → ClassId) (ad : Nat → Nat) (X : va_W) (sz : Nat) (S : St) : State → Prop := fun U => PreB D cy ad X sz shE NE S U ∧ JX (va_A (X ++ wl cy ad shE NE S) sz) U
theorem preX_blind {av : List Value} {D : va_G} {cy : Nat → ClassId} {ad : Nat → Nat} {X : va_W} {sz : Nat} {S : St} : FrameBlind (va_Pc av (PreX D cy ad X sz S)) :=
  fun a U g mk q => ⟨(preB_blind a U g mk ⟨q.1, q.2.1⟩).1, (preB_blind a U g mk ⟨q.1, q.2.1⟩).2, JX.calling q.2.2⟩
abbrev rm_X11_judgedX : Room := { frames := 8, cells := 1, slots := 6, locals := 110 }
abbrev wsJX : List Cond := BIG ++ zjW
theorem c_X11_judgedX (l : Launch) (hfl : l.stackTraces = false) {p0 : Int32} {S : St} (h0 : p0 < 0 ∨ 1 < p0) (D : va_G) (cy : Nat → ClassId) (ad : Nat → Nat) (X : va_W) (sz : Nat) :
    vx_Met l yX11_judged (Cond.code yX11_judged cX11_judged 4 (some .int) :: wsJX) rm_X11_judgedX (va_Pc [.ref (ad 0), .int p0] (PreX D cy ad X sz S)) (va_Qi (fun _ (_ : Unit) => False) (fun _ _ => True) (va_A (X ++ wl cy ad shE NE S) sz))
      (vx_X (fun _ : Unit => True) (fun E _ t => E = NSE ∧ va_P D vwCl (X ++ wl cy ad shE NE S) t.heap) (va_A (X ++ wl cy ad shE NE S) sz)) 1 6 (va_A (X ++ wl cy ad shE NE S) sz) := by
  refine vx_ofW (cc := cX11_judged) (maxL := 4) (ret := some .int) (by decide +kernel) rfl ?_
  intro p e s m args below meth c s₁ B hml hex hv
  obtain ⟨rfl, ⟨hsz, hP, hK, hD0, hN⟩, hJ⟩ := hv
  subst hsz
  rw [lg_entry_eq]
  have ht : ∀ w ∈ wsJX, w.before ([Value.ref (ad 0), .int p0] : List Value).toArray s = true := fun w h => atoms_spec (ws := Cond.code yX11_judged cX11_judged 4 (some .int) :: wsJX) B.pre w (List.mem_cons_of_mem _ h)
  obtain ⟨Q9, hQ9⟩ : ∃ z, z = vx_MQ below (va_Qi (fun _ (_ : Unit) => False) (fun _ _ => True) (va_A (X ++ wl cy ad shE NE S) s.heap.size)) (vx_X (fun _ : Unit => True) (fun E _ t => E = NSE ∧ va_P D vwCl (X ++ wl cy ad shE NE S) t.heap) (va_A (X ++ wl cy ad shE NE S) s.heap.size)) ([Value.ref (ad 0), .int p0] : List Value).toArray s 1 6 (va_A (X ++ wl cy ad shE NE S) s.heap.size) := ⟨_, rfl⟩
  have G0 : ∀ G : GC, G = (p, l, e, rm_X11_judgedX, s, m, ([Value.ref (ad 0), .int p0] : List Value).toArray, below, meth, c, Q9, D, cy, ad, X, va_A (X ++ wl cy ad shE NE S) s.heap.size, shE, NE, 0, 0) → Go G 4 0 [] [(0, .ref (Gad G 0)), (1, .int p0)] S := by
    intro G hG
    have C : Cx G cX11_judged wsJX RX11 4 (some .int) rm_X11_judgedX shE NE := by
      subst hG
      exact ⟨B.exec, B.bytes, hml, findClass_of_methodNamed B.named, ht, B.notSynchronized, B.returns, hK, fun _ h => Or.inr h, hN, rfl, rfl, rfl, Nat.zero_le _, Nat.zero_le _⟩
    have last : Go G 4 9 [] [(0, .ref (Gad G 0)), (1, .int p0)] S := by
      intro H locs ls hP1 hD1 hS1 hl1
      subst hG
      subst hQ9
      obtain ⟨sa, hsa⟩ := hJ.1
      exact z_throwS (own := RX11) (cls := NSE) (Y9 := RTE) (text := TJ) (idx := 13) (bs := six13) (names := [EXC]) (ik := 242) (is := 244) (ic := 246) (sa := sa) B.exec B.bytes hfl six13_ok (findClass_of_methodNamed B.named) (by decide +kernel) (by decide +kernel) (by decide +kernel)
        (ht _ (List.mem_append_left _ wm_44_15)) (ht _ (List.mem_append_left _ wm_44_16)) hsa (zj_hat fun w h => ht w (List.mem_append_right _ h)) zj_ot hJ.2.1 hJ.2.2 hS1 (hl1.1.trans hml.symm)
        dX11_judged_9 dX11_judged_12 dX11_judged_13 dX11_judged_15 dX11_judged_18 (fun x hx => (hex x hx).elim) (show 1 + 4 < 8 by decide) (show (0 : Nat) + (13 * (1 + 2) + 43) ≤ 110 by decide) (Nat.le_refl _) (Nat.le_refl _) B.notSynchronized
        (fun t _ h1 h2 => ⟨(), trivial, ⟨rfl, hP1.kept (fun k q hk => h2 q.1 (vx_lt hP1 hk))⟩, Nat.le_trans hS1.1 h1, fun q hq hn => by rw [h2 q (Nat.lt_of_lt_of_le hq hS1.1)]; exact hS1.2.1 q hq hn⟩) hS1.2.2 (Nat.le_refl _) (Nat.le_refl _)
    refine Go_iload_n (q := 1) C 1 rfl dX11_judged_0 rfl ?_
    refine Go_if_lt (t := 9) (q := 4) C dec_if dX11_judged_1 rfl rfl (fun _ => last) (fun hn => ?_)
    refine Go_iload_n (q := 5) C 1 rfl dX11_judged_4 rfl ?_
    refine Go_iconst (q := 6) (v := (1 : Int32)) C dX11_judged_5 rfl rfl ?_
    exact Go_icmp_le (t := 19) (q := 9) C dec_if dX11_judged_6 rfl rfl (fun h => absurd h (Int32.not_le.mpr (h0.resolve_left hn))) (fun _ => last)
  subst hQ9
  exact (G0 _ rfl) s.heap [] _ hP hD0.self va_S.rf (lv_entry [Value.ref (ad 0), .int p0] (n := 4) (Nat.le_of_ble_eq_true rfl))
