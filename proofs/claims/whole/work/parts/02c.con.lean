/-! ===== contracts of methods in my words: from what the walk of the body shows (MetI_of ..), and what a call of one gives (Go_call ..) ===== -/
abbrev PreB (D : va_G) (cy : Nat → ClassId) (ad : Nat → Nat) (X : va_W) (sz : Nat) (sh : Nat → Nat × Nat) (N : Nat) (S : St) : State → Prop := fun U => U.heap.size = sz ∧ va_P D vwCl (X ++ wl cy ad sh N S) U.heap ∧ va_K D vwCl (tysOf cy) U ∧ va_D (fun _ => True) (X ++ wl cy ad sh N S) ∧ NW U
abbrev PostB (D : va_G) (cy : Nat → ClassId) (ad : Nat → Nat) (X : va_W) (sh : Nat → Nat × Nat) (N : Nat) (RC : St → Prop) : St → State → Prop := fun S' t => va_P D vwCl (X ++ wl cy ad sh N S') t.heap ∧ RC S'
theorem preB_blind {av : List Value} {D : va_G} {cy : Nat → ClassId} {ad : Nat → Nat} {X : va_W} {sz : Nat} {sh : Nat → Nat × Nat} {N : Nat} {S : St} : FrameBlind (va_Pc av (PreB D cy ad X sz sh N S)) :=
  fun a U g mk q => by
    obtain ⟨q0, q1, q2, q3, q4, q5⟩ := q
    exact ⟨q0, q1, q2, va_K.moved (u := U) (U := U.calling g mk a) (Vm.Alike.refl U.vm) q3, q4, NW.same (s := U) (U := U.calling g mk a) rfl q5⟩
def va_QO {S : Type} (ad : Nat → Nat) (post : Option Nat → S → Prop) (B : S → State → Prop) (A : Nat → Prop) : Array Value → State → Outcome → State → Prop := fun a st oc t => va_Qq (fun r u => ∃ o : Option Nat, r = o.map ad ∧ post o u) B A a st oc t
def MetI (l : Launch) (y : MethodName) (ws : List Cond) (rm : Room) (sh : Nat → Nat × Nat) (N : Nat) (RC : St → Prop) (av : (Nat → Nat) → List Value) (S : St) (Q : Int32 → St → Prop) : Prop :=
  ∀ (D : va_G) (cy : Nat → ClassId) (ad : Nat → Nat) (X : va_W) (sz : Nat), Met l y ws rm (va_Pc (av ad) (PreB D cy ad X sz sh N S))
    (va_Qi Q (PostB D cy ad X sh N RC) (va_A (X ++ wl cy ad sh N S) sz)) 0 0 (va_A (X ++ wl cy ad sh N S) sz)
def QI (G : GC) (RC : St → Prop) (Q : Int32 → St → Prop) : Prop :=
  GQ G = MQ (Gb G) (va_Qi Q (fun S' t => va_P (GD G) vwCl (Wd G S') t.heap ∧ RC S') (GA G)) (Ga G) (Gs G) 0 0 (GA G)
theorem MetI_of {l : Launch} {y : MethodName} {ws ws' : List Cond} {rm : Room} {sh : Nat → Nat × Nat} {N : Nat} {RC : St → Prop} {av : (Nat → Nat) → List Value} {S : St} {Q : Int32 → St → Prop} {cc : ByteArray} {maxL : Nat} {ret : Option FieldType}
    (hy : plainName y.cls = true) (hw : ws = Cond.code y cc maxL ret :: ws') (hlen : ∀ ad, (lg_sl (av ad)).length ≤ maxL)
    (body : ∀ G : GC, Cx G cc ws y.cls maxL ret rm sh N → Gl G = l → QI G RC Q → Go G maxL 0 [] (lv_args 0 (av (Gad G))) S) : MetI l y ws rm sh N RC av S Q := by
  intro D cy ad X sz
  refine Met.ofW (cc := cc) (maxL := maxL) (ret := ret) hy hw ?_
  intro p e s m args below meth c s₁ B hml hv
  obtain ⟨rfl, hsz, hP, hK, hD0, hN⟩ := hv
  subst hsz
  rw [lg_entry_eq]
  exact body (p, l, e, rm, s, m, (av ad).toArray, below, meth, c, MQ below (va_Qi Q (PostB D cy ad X sh N RC) (va_A (X ++ wl cy ad sh N S) s.heap.size)) (av ad).toArray s 0 0 (va_A (X ++ wl cy ad sh N S) s.heap.size), D, cy, ad, X, va_A (X ++ wl cy ad sh N S) s.heap.size, sh, N)
    ⟨B.exec, B.bytes, hml, findClass_of_methodNamed B.named, atoms_spec (ws := ws) B.pre, B.notSynchronized, B.returns, hK, fun _ h => Or.inr h, hN, rfl, rfl, rfl⟩ rfl rfl
    s.heap [] _ hP hD0.self va_S.rf (lv_entry (av ad) (hlen ad))
def MetL (l : Launch) (y : MethodName) (ws : List Cond) (rm : Room) (sh : Nat → Nat × Nat) (N : Nat) (RC : St → Prop) (av : (Nat → Nat) → List Value) (S : St) (Q : Int64 → St → Prop) : Prop :=
  ∀ (D : va_G) (cy : Nat → ClassId) (ad : Nat → Nat) (X : va_W) (sz : Nat), Met l y ws rm (va_Pc (av ad) (PreB D cy ad X sz sh N S))
    (va_Ql Q (PostB D cy ad X sh N RC) (va_A (X ++ wl cy ad sh N S) sz)) 0 0 (va_A (X ++ wl cy ad sh N S) sz)
def QL (G : GC) (RC : St → Prop) (Q : Int64 → St → Prop) : Prop :=
  GQ G = MQ (Gb G) (va_Ql Q (fun S' t => va_P (GD G) vwCl (Wd G S') t.heap ∧ RC S') (GA G)) (Ga G) (Gs G) 0 0 (GA G)
theorem MetL_of {l : Launch} {y : MethodName} {ws ws' : List Cond} {rm : Room} {sh : Nat → Nat × Nat} {N : Nat} {RC : St → Prop} {av : (Nat → Nat) → List Value} {S : St} {Q : Int64 → St → Prop} {cc : ByteArray} {maxL : Nat} {ret : Option FieldType}
    (hy : plainName y.cls = true) (hw : ws = Cond.code y cc maxL ret :: ws') (hlen : ∀ ad, (lg_sl (av ad)).length ≤ maxL)
    (body : ∀ G : GC, Cx G cc ws y.cls maxL ret rm sh N → Gl G = l → QL G RC Q → Go G maxL 0 [] (lv_args 0 (av (Gad G))) S) : MetL l y ws rm sh N RC av S Q := by
  intro D cy ad X sz
  refine Met.ofW (cc := cc) (maxL := maxL) (ret := ret) hy hw ?_
  intro p e s m args below meth c s₁ B hml hv
  obtain ⟨rfl, hsz, hP, hK, hD0, hN⟩ := hv
  subst hsz
  rw [lg_entry_eq]
  exact body (p, l, e, rm, s, m, (av ad).toArray, below, meth, c, MQ below (va_Ql Q (PostB D cy ad X sh N RC) (va_A (X ++ wl cy ad sh N S) s.heap.size)) (av ad).toArray s 0 0 (va_A (X ++ wl cy ad sh N S) s.heap.size), D, cy, ad, X, va_A (X ++ wl cy ad sh N S) s.heap.size, sh, N)
    ⟨B.exec, B.bytes, hml, findClass_of_methodNamed B.named, atoms_spec (ws := ws) B.pre, B.notSynchronized, B.returns, hK, fun _ h => Or.inr h, hN, rfl, rfl, rfl⟩ rfl rfl
    s.heap [] _ hP hD0.self va_S.rf (lv_entry (av ad) (hlen ad))
def MetV (l : Launch) (y : MethodName) (ws : List Cond) (rm : Room) (sh : Nat → Nat × Nat) (N : Nat) (RC : St → Prop) (av : (Nat → Nat) → List Value) (S : St) (Q : St → Prop) : Prop :=
  ∀ (D : va_G) (cy : Nat → ClassId) (ad : Nat → Nat) (X : va_W) (sz : Nat), Met l y ws rm (va_Pc (av ad) (PreB D cy ad X sz sh N S))
    (va_Qv Q (PostB D cy ad X sh N RC) (va_A (X ++ wl cy ad sh N S) sz)) 0 0 (va_A (X ++ wl cy ad sh N S) sz)
def QV (G : GC) (RC : St → Prop) (Q : St → Prop) : Prop :=
  GQ G = MQ (Gb G) (va_Qv Q (fun S' t => va_P (GD G) vwCl (Wd G S') t.heap ∧ RC S') (GA G)) (Ga G) (Gs G) 0 0 (GA G)
theorem MetV_of {l : Launch} {y : MethodName} {ws ws' : List Cond} {rm : Room} {sh : Nat → Nat × Nat} {N : Nat} {RC : St → Prop} {av : (Nat → Nat) → List Value} {S : St} {Q : St → Prop} {cc : ByteArray} {maxL : Nat} {ret : Option FieldType}
    (hy : plainName y.cls = true) (hw : ws = Cond.code y cc maxL ret :: ws') (hlen : ∀ ad, (lg_sl (av ad)).length ≤ maxL)
    (body : ∀ G : GC, Cx G cc ws y.cls maxL ret rm sh N → Gl G = l → QV G RC Q → Go G maxL 0 [] (lv_args 0 (av (Gad G))) S) : MetV l y ws rm sh N RC av S Q := by
  intro D cy ad X sz
  refine Met.ofW (cc := cc) (maxL := maxL) (ret := ret) hy hw ?_
  intro p e s m args below meth c s₁ B hml hv
  obtain ⟨rfl, hsz, hP, hK, hD0, hN⟩ := hv
  subst hsz
  rw [lg_entry_eq]
  exact body (p, l, e, rm, s, m, (av ad).toArray, below, meth, c, MQ below (va_Qv Q (PostB D cy ad X sh N RC) (va_A (X ++ wl cy ad sh N S) s.heap.size)) (av ad).toArray s 0 0 (va_A (X ++ wl cy ad sh N S) s.heap.size), D, cy, ad, X, va_A (X ++ wl cy ad sh N S) s.heap.size, sh, N)
    ⟨B.exec, B.bytes, hml, findClass_of_methodNamed B.named, atoms_spec (ws := ws) B.pre, B.notSynchronized, B.returns, hK, fun _ h => Or.inr h, hN, rfl, rfl, rfl⟩ rfl rfl
    s.heap [] _ hP hD0.self va_S.rf (lv_entry (av ad) (hlen ad))
def MetO (l : Launch) (y : MethodName) (ws : List Cond) (rm : Room) (sh : Nat → Nat × Nat) (N : Nat) (RC : St → Prop) (av : (Nat → Nat) → List Value) (S : St) (Q : Option Nat → St → Prop) : Prop :=
  ∀ (D : va_G) (cy : Nat → ClassId) (ad : Nat → Nat) (X : va_W) (sz : Nat), Met l y ws rm (va_Pc (av ad) (PreB D cy ad X sz sh N S))
    (va_QO ad Q (PostB D cy ad X sh N RC) (va_A (X ++ wl cy ad sh N S) sz)) 0 0 (va_A (X ++ wl cy ad sh N S) sz)
def QO (G : GC) (RC : St → Prop) (Q : Option Nat → St → Prop) : Prop :=
  GQ G = MQ (Gb G) (va_QO (Gad G) Q (fun S' t => va_P (GD G) vwCl (Wd G S') t.heap ∧ RC S') (GA G)) (Ga G) (Gs G) 0 0 (GA G)
theorem MetO_of {l : Launch} {y : MethodName} {ws ws' : List Cond} {rm : Room} {sh : Nat → Nat × Nat} {N : Nat} {RC : St → Prop} {av : (Nat → Nat) → List Value} {S : St} {Q : Option Nat → St → Prop} {cc : ByteArray} {maxL : Nat} {ret : Option FieldType}
    (hy : plainName y.cls = true) (hw : ws = Cond.code y cc maxL ret :: ws') (hlen : ∀ ad, (lg_sl (av ad)).length ≤ maxL)
    (body : ∀ G : GC, Cx G cc ws y.cls maxL ret rm sh N → Gl G = l → QO G RC Q → Go G maxL 0 [] (lv_args 0 (av (Gad G))) S) : MetO l y ws rm sh N RC av S Q := by
  intro D cy ad X sz
  refine Met.ofW (cc := cc) (maxL := maxL) (ret := ret) hy hw ?_
  intro p e s m args below meth c s₁ B hml hv
  obtain ⟨rfl, hsz, hP, hK, hD0, hN⟩ := hv
  subst hsz
  rw [lg_entry_eq]
  exact body (p, l, e, rm, s, m, (av ad).toArray, below, meth, c, MQ below (va_QO ad Q (PostB D cy ad X sh N RC) (va_A (X ++ wl cy ad sh N S) s.heap.size)) (av ad).toArray s 0 0 (va_A (X ++ wl cy ad sh N S) s.heap.size), D, cy, ad, X, va_A (X ++ wl cy ad sh N S) s.heap.size, sh, N)
    ⟨B.exec, B.bytes, hml, findClass_of_methodNamed B.named, atoms_spec (ws := ws) B.pre, B.notSynchronized, B.returns, hK, fun _ h => Or.inr h, hN, rfl, rfl, rfl⟩ rfl rfl
    s.heap [] _ hP hD0.self va_S.rf (lv_entry (av ad) (hlen ad))
section GoCalls
variable {G : GC} {cc : ByteArray} {ws : List Cond} {own : String} {nL : Nat} {ret : Option FieldType} {rm : Room} {sh : Nat → Nat × Nat} {N : Nat} {pc q : Nat} {st st0 : List Value} {lv lv' : List (Nat × Value)} {S : St} {RC : St → Prop}
theorem Go_iret (C : Cx G cc ws own nL (some .int) rm sh N) {Q : Int32 → St → Prop} (hQ : QI G RC Q) {v : Int32} (hR : RC S) (hw : Q v S) (hdg : decode cc pc = .ok (.ireturn, 1)) : Go G nL pc [.int v] lv S := by
  intro H locs ls hP hD hS hl
  rw [show GQ G = _ from hQ]
  exact W.iret (v := v) C.1 C.2.1 C.2.2.2.2.2.2.1 (fun t ht hW => ⟨⟨v, S, rfl, hw, by rw [ht]; exact hP, hR⟩, hS.F ht⟩) hS.2.2 hdg C.2.2.2.2.2.1
theorem Go_zret (C : Cx G cc ws own nL (some .boolean) rm sh N) {Q : Int32 → St → Prop} (hQ : QI G RC Q) {v : Int32} (hR : RC S) (hn : narrow .boolean (.int v) = .int v) (hw : Q v S) (hdg : decode cc pc = .ok (.ireturn, 1)) : Go G nL pc [.int v] lv S := by
  intro H locs ls hP hD hS hl
  rw [show GQ G = _ from hQ]
  exact W.zret (v := v) C.1 C.2.1 C.2.2.2.2.2.2.1 hn (fun t ht hW => ⟨⟨v, S, rfl, hw, by rw [ht]; exact hP, hR⟩, hS.F ht⟩) hS.2.2 hdg C.2.2.2.2.2.1
theorem Go_lret (C : Cx G cc ws own nL (some .long) rm sh N) {Q : Int64 → St → Prop} (hQ : QL G RC Q) {v : Int64} (hR : RC S) (hw : Q v S) (hdg : decode cc pc = .ok (.lreturn, 1)) : Go G nL pc [.long v] lv S := by
  intro H locs ls hP hD hS hl
  rw [show GQ G = _ from hQ]
  exact W.lret (v := v) C.1 C.2.1 C.2.2.2.2.2.2.1 (fun t ht hW => ⟨⟨v, S, rfl, hw, by rw [ht]; exact hP, hR⟩, hS.F ht⟩) hS.2.2 hdg C.2.2.2.2.2.1
theorem Go_vret (C : Cx G cc ws own nL none rm sh N) {Q : St → Prop} (hQ : QV G RC Q) (hR : RC S) (hw : Q S) (hdg : decode cc pc = .ok (.return_, 1)) : Go G nL pc [] lv S := by
  intro H locs ls hP hD hS hl
  rw [show GQ G = _ from hQ]
  exact W.vret C.1 C.2.1 C.2.2.2.2.2.2.1 (fun t ht hW => ⟨⟨S, rfl, hw, by rw [ht]; exact hP, hR⟩, hS.F ht⟩) hS.2.2 hdg C.2.2.2.2.2.1
theorem Go_oret {cn : String} (C : Cx G cc ws own nL (some (.object cn)) rm sh N) {Q : Option Nat → St → Prop} (hQ : QO G RC Q) {v : Option Nat} (hR : RC S) (hw : Q v S) (hdg : decode cc pc = .ok (.areturn, 1)) : Go G nL pc [va_rf (v.map (Gad G))] lv S := by
  intro H locs ls hP hD hS hl
  rw [show GQ G = _ from hQ]
  refine W.aret (v := va_rf (v.map (Gad G))) C.1 C.2.1 C.2.2.2.2.2.2.1 (Or.inl ⟨_, rfl⟩) ?_ (fun t ht hW => ⟨⟨v.map (Gad G), S, rfl, ⟨v, rfl, hw⟩, by rw [ht]; exact hP, hR⟩, hS.F ht⟩) hS.2.2 hdg C.2.2.2.2.2.1
  cases v with
  | none => exact Or.inl rfl
  | some a => exact Or.inr ⟨_, rfl⟩
theorem zb {v : Int32} (h : v = 0 ∨ v = 1) : narrow .boolean (.int v) = .int v := by rcases h with rfl | rfl <;> rfl
theorem inA {D : va_G} {A : Nat → Prop} {w : va_W} {H0 H : Heap} (hD : va_D A w) (hA : ∀ q, H0.size ≤ q → A q) (hz : H0.size ≤ H.size) : ∀ q, va_A w H.size q → A q := by
  intro q hq
  rcases hq with ⟨k, e, hk⟩ | hq
  · exact hD.2 k _ hk
  · exact hA q (Nat.le_trans hz hq)
theorem Go_callV_I (C : Cx G cc ws own nL ret rm sh N) {y : MethodName} {wsy wsy' : List Cond} {rmy : Room} {av : (Nat → Nat) → List Value} {Q1 : Int32 → St → Prop} {bytes : ByteArray} {maxL idx n : Nat} {rty : Option FieldType} {ci n2 o : Nat} {CN : String} {T : u_T} {NN : Nat} (ho : ok sh N o ci 0) (hci : vwCl[ci]? = some (CN, T, NN)) (hc13 : ci < 13) (hM : MetI (Gl G) y wsy rmy sh N RC (fun ad => .ref (ad o) :: av ad) S Q1)
    (hGd : GoodIn ws (wsV own idx CN y wsy)) (hwy : wsy = Cond.code y bytes maxL rty :: wsy') (hd : y.cls = CN ∧ y.cls ≠ "java/lang/invoke/MethodHandle" ∧ y.cls ≠ "java/lang/invoke/VarHandle" ∧ (parseMethodDescriptor y.desc).map (fun d => d.parameters.length) = some n) (hr0 : rmy.cells = 0 ∧ rmy.slots = 0) (hroom : rmy.frames + 1 ≤ rm.frames ∧ 8 + (maxL + 11) + rmy.locals ≤ rm.locals) (hlen : (av (Gad G)).length = n) (hst : (av (Gad G)).reverse ++ .ref (Gad G o) :: st = st0) (hW : (st.map fun v => v.category).sum ≤ 8) (hdg : decode cc pc = .ok (.invokevirtual idx, 3)) (hq : pc + 3 = q)
    (k : ∀ r S', Q1 r S' → RC S' → Go G nL q (.int r :: st) lv S') : Go G nL pc st0 lv S := by
  subst hq; subst hst
  obtain ⟨-, -, -, -, -, -, -, -, -, -, hrm, hsh, hN⟩ := id C
  subst hsh; subst hN; subst hrm
  intro H locs ls hP hD hS hl
  have hc := wl_get (X := GX G) (cy := Gcy G) (ad := Gad G) (sh := Gsh G) (S := S) ho.1
  rw [cell_obj ho hc13] at hc
  have hA1 : ∀ q, va_A (Wd G S) H.size q → GA G q := inA (D := GD G) hD C.2.2.2.2.2.2.2.2.1 hS.1
  have pre : ∀ U : State, U.heap = H → (Gs G).WarmedH U.vm → va_Pc (Value.ref (Gad G o) :: av (Gad G)) (PreB (GD G) (Gcy G) (Gad G) (GX G) H.size (Gsh G) (GN G) S) (Value.ref (Gad G o) :: av (Gad G)).toArray U := fun U hU hW => ⟨rfl, by rw [hU], by rw [hU]; exact hP, va_K.moved hW.alike C.2.2.2.2.2.2.2.1, hD.weaken (fun _ _ _ _ => trivial), NW.warm hW C.2.2.2.2.2.2.2.2.2.1⟩
  refine va_calli (va_runV (As := av (Gad G)) (rest := st) ⟨C.1, C.2.1, C.2.2.1, C.2.2.2.1, C.2.2.2.2.1⟩ (hM (GD G) (Gcy G) (Gad G) (GX G) H.size) (cwV n C.2.2.2.2.1 hGd hwy hr0.1 hr0.2 hd hroom) ⟨preB_blind, va_recv C.2.2.2.2.2.2.2.1 hP (ci := ci) (q0 := (GX G).length + o) hci hc, pre⟩ rfl hlen hl.1 rfl (lv_room hW) hdg ⟨Nat.zero_le _, Nat.zero_le _⟩) hS (fun q _ h => hA1 q h) hA1 (fun r u t H1 locs1 ht hvm hw hB hz hk hS1 => ?_)
  have hP1 := hB.1
  rw [ht] at hP1
  exact k r u hw hB.2 H1 locs1 ls hP1 (va_D_wl hD) hS1 hl
theorem Go_callV_L (C : Cx G cc ws own nL ret rm sh N) {y : MethodName} {wsy wsy' : List Cond} {rmy : Room} {av : (Nat → Nat) → List Value} {Q1 : Int64 → St → Prop} {bytes : ByteArray} {maxL idx n : Nat} {rty : Option FieldType} {ci n2 o : Nat} {CN : String} {T : u_T} {NN : Nat} (ho : ok sh N o ci 0) (hci : vwCl[ci]? = some (CN, T, NN)) (hc13 : ci < 13) (hM : MetL (Gl G) y wsy rmy sh N RC (fun ad => .ref (ad o) :: av ad) S Q1)
    (hGd : GoodIn ws (wsV own idx CN y wsy)) (hwy : wsy = Cond.code y bytes maxL rty :: wsy') (hd : y.cls = CN ∧ y.cls ≠ "java/lang/invoke/MethodHandle" ∧ y.cls ≠ "java/lang/invoke/VarHandle" ∧ (parseMethodDescriptor y.desc).map (fun d => d.parameters.length) = some n) (hr0 : rmy.cells = 0 ∧ rmy.slots = 0) (hroom : rmy.frames + 1 ≤ rm.frames ∧ 8 + (maxL + 11) + rmy.locals ≤ rm.locals) (hlen : (av (Gad G)).length = n) (hst : (av (Gad G)).reverse ++ .ref (Gad G o) :: st = st0) (hW : (st.map fun v => v.category).sum ≤ 8) (hdg : decode cc pc = .ok (.invokevirtual idx, 3)) (hq : pc + 3 = q)
    (k : ∀ r S', Q1 r S' → RC S' → Go G nL q (.long r :: st) lv S') : Go G nL pc st0 lv S := by
  subst hq; subst hst
  obtain ⟨-, -, -, -, -, -, -, -, -, -, hrm, hsh, hN⟩ := id C
  subst hsh; subst hN; subst hrm
  intro H locs ls hP hD hS hl
  have hc := wl_get (X := GX G) (cy := Gcy G) (ad := Gad G) (sh := Gsh G) (S := S) ho.1
  rw [cell_obj ho hc13] at hc
  have hA1 : ∀ q, va_A (Wd G S) H.size q → GA G q := inA (D := GD G) hD C.2.2.2.2.2.2.2.2.1 hS.1
  have pre : ∀ U : State, U.heap = H → (Gs G).WarmedH U.vm → va_Pc (Value.ref (Gad G o) :: av (Gad G)) (PreB (GD G) (Gcy G) (Gad G) (GX G) H.size (Gsh G) (GN G) S) (Value.ref (Gad G o) :: av (Gad G)).toArray U := fun U hU hW => ⟨rfl, by rw [hU], by rw [hU]; exact hP, va_K.moved hW.alike C.2.2.2.2.2.2.2.1, hD.weaken (fun _ _ _ _ => trivial), NW.warm hW C.2.2.2.2.2.2.2.2.2.1⟩
  refine va_calll (va_runV (As := av (Gad G)) (rest := st) ⟨C.1, C.2.1, C.2.2.1, C.2.2.2.1, C.2.2.2.2.1⟩ (hM (GD G) (Gcy G) (Gad G) (GX G) H.size) (cwV n C.2.2.2.2.1 hGd hwy hr0.1 hr0.2 hd hroom) ⟨preB_blind, va_recv C.2.2.2.2.2.2.2.1 hP (ci := ci) (q0 := (GX G).length + o) hci hc, pre⟩ rfl hlen hl.1 rfl (lv_room hW) hdg ⟨Nat.zero_le _, Nat.zero_le _⟩) hS (fun q _ h => hA1 q h) hA1 (fun r u t H1 locs1 ht hvm hw hB hz hk hS1 => ?_)
  have hP1 := hB.1
  rw [ht] at hP1
  exact k r u hw hB.2 H1 locs1 ls hP1 (va_D_wl hD) hS1 hl
theorem Go_callV_V (C : Cx G cc ws own nL ret rm sh N) {y : MethodName} {wsy wsy' : List Cond} {rmy : Room} {av : (Nat → Nat) → List Value} {Q1 : St → Prop} {bytes : ByteArray} {maxL idx n : Nat} {rty : Option FieldType} {ci n2 o : Nat} {CN : String} {T : u_T} {NN : Nat} (ho : ok sh N o ci 0) (hci : vwCl[ci]? = some (CN, T, NN)) (hc13 : ci < 13) (hM : MetV (Gl G) y wsy rmy sh N RC (fun ad => .ref (ad o) :: av ad) S Q1)
    (hGd : GoodIn ws (wsV own idx CN y wsy)) (hwy : wsy = Cond.code y bytes maxL rty :: wsy') (hd : y.cls = CN ∧ y.cls ≠ "java/lang/invoke/MethodHandle" ∧ y.cls ≠ "java/lang/invoke/VarHandle" ∧ (parseMethodDescriptor y.desc).map (fun d => d.parameters.length) = some n) (hr0 : rmy.cells = 0 ∧ rmy.slots = 0) (hroom : rmy.frames + 1 ≤ rm.frames ∧ 8 + (maxL + 11) + rmy.locals ≤ rm.locals) (hlen : (av (Gad G)).length = n) (hst : (av (Gad G)).reverse ++ .ref (Gad G o) :: st = st0) (hW : (st.map fun v => v.category).sum ≤ 8) (hdg : decode cc pc = .ok (.invokevirtual idx, 3)) (hq : pc + 3 = q)
    (k : ∀ S', Q1 S' → RC S' → Go G nL q (st) lv S') : Go G nL pc st0 lv S := by
  subst hq; subst hst
  obtain ⟨-, -, -, -, -, -, -, -, -, -, hrm, hsh, hN⟩ := id C
  subst hsh; subst hN; subst hrm
  intro H locs ls hP hD hS hl
  have hc := wl_get (X := GX G) (cy := Gcy G) (ad := Gad G) (sh := Gsh G) (S := S) ho.1
  rw [cell_obj ho hc13] at hc
  have hA1 : ∀ q, va_A (Wd G S) H.size q → GA G q := inA (D := GD G) hD C.2.2.2.2.2.2.2.2.1 hS.1
  have pre : ∀ U : State, U.heap = H → (Gs G).WarmedH U.vm → va_Pc (Value.ref (Gad G o) :: av (Gad G)) (PreB (GD G) (Gcy G) (Gad G) (GX G) H.size (Gsh G) (GN G) S) (Value.ref (Gad G o) :: av (Gad G)).toArray U := fun U hU hW => ⟨rfl, by rw [hU], by rw [hU]; exact hP, va_K.moved hW.alike C.2.2.2.2.2.2.2.1, hD.weaken (fun _ _ _ _ => trivial), NW.warm hW C.2.2.2.2.2.2.2.2.2.1⟩
  refine va_callv (va_runV (As := av (Gad G)) (rest := st) ⟨C.1, C.2.1, C.2.2.1, C.2.2.2.1, C.2.2.2.2.1⟩ (hM (GD G) (Gcy G) (Gad G) (GX G) H.size) (cwV n C.2.2.2.2.1 hGd hwy hr0.1 hr0.2 hd hroom) ⟨preB_blind, va_recv C.2.2.2.2.2.2.2.1 hP (ci := ci) (q0 := (GX G).length + o) hci hc, pre⟩ rfl hlen hl.1 rfl (lv_room hW) hdg ⟨Nat.zero_le _, Nat.zero_le _⟩) hS (fun q _ h => hA1 q h) hA1 (fun u t H1 locs1 ht hvm hw hB hz hk hS1 => ?_)
  have hP1 := hB.1
  rw [ht] at hP1
  exact k u hw hB.2 H1 locs1 ls hP1 (va_D_wl hD) hS1 hl
theorem Go_callV_O (C : Cx G cc ws own nL ret rm sh N) {y : MethodName} {wsy wsy' : List Cond} {rmy : Room} {av : (Nat → Nat) → List Value} {Q1 : Option Nat → St → Prop} {bytes : ByteArray} {maxL idx n : Nat} {rty : Option FieldType} {ci n2 o : Nat} {CN : String} {T : u_T} {NN : Nat} (ho : ok sh N o ci 0) (hci : vwCl[ci]? = some (CN, T, NN)) (hc13 : ci < 13) (hM : MetO (Gl G) y wsy rmy sh N RC (fun ad => .ref (ad o) :: av ad) S Q1)
    (hGd : GoodIn ws (wsV own idx CN y wsy)) (hwy : wsy = Cond.code y bytes maxL rty :: wsy') (hd : y.cls = CN ∧ y.cls ≠ "java/lang/invoke/MethodHandle" ∧ y.cls ≠ "java/lang/invoke/VarHandle" ∧ (parseMethodDescriptor y.desc).map (fun d => d.parameters.length) = some n) (hr0 : rmy.cells = 0 ∧ rmy.slots = 0) (hroom : rmy.frames + 1 ≤ rm.frames ∧ 8 + (maxL + 11) + rmy.locals ≤ rm.locals) (hlen : (av (Gad G)).length = n) (hst : (av (Gad G)).reverse ++ .ref (Gad G o) :: st = st0) (hW : (st.map fun v => v.category).sum ≤ 8) (hdg : decode cc pc = .ok (.invokevirtual idx, 3)) (hq : pc + 3 = q)
    (k : ∀ r S', Q1 r S' → RC S' → Go G nL q (va_rf (r.map (Gad G)) :: st) lv S') : Go G nL pc st0 lv S := by
  subst hq; subst hst
  obtain ⟨-, -, -, -, -, -, -, -, -, -, hrm, hsh, hN⟩ := id C
  subst hsh; subst hN; subst hrm
  intro H locs ls hP hD hS hl
  have hc := wl_get (X := GX G) (cy := Gcy G) (ad := Gad G) (sh := Gsh G) (S := S) ho.1
  rw [cell_obj ho hc13] at hc
  have hA1 : ∀ q, va_A (Wd G S) H.size q → GA G q := inA (D := GD G) hD C.2.2.2.2.2.2.2.2.1 hS.1
  have pre : ∀ U : State, U.heap = H → (Gs G).WarmedH U.vm → va_Pc (Value.ref (Gad G o) :: av (Gad G)) (PreB (GD G) (Gcy G) (Gad G) (GX G) H.size (Gsh G) (GN G) S) (Value.ref (Gad G o) :: av (Gad G)).toArray U := fun U hU hW => ⟨rfl, by rw [hU], by rw [hU]; exact hP, va_K.moved hW.alike C.2.2.2.2.2.2.2.1, hD.weaken (fun _ _ _ _ => trivial), NW.warm hW C.2.2.2.2.2.2.2.2.2.1⟩
  refine va_callq (va_runV (As := av (Gad G)) (rest := st) ⟨C.1, C.2.1, C.2.2.1, C.2.2.2.1, C.2.2.2.2.1⟩ (hM (GD G) (Gcy G) (Gad G) (GX G) H.size) (cwV n C.2.2.2.2.1 hGd hwy hr0.1 hr0.2 hd hroom) ⟨preB_blind, va_recv C.2.2.2.2.2.2.2.1 hP (ci := ci) (q0 := (GX G).length + o) hci hc, pre⟩ rfl hlen hl.1 rfl (lv_room hW) hdg ⟨Nat.zero_le _, Nat.zero_le _⟩) hS (fun q _ h => hA1 q h) hA1 (fun r0 u t H1 locs1 ht hvm hw hB hz hk hS1 => ?_)
  obtain ⟨r, rfl, hw⟩ := hw
  have hP1 := hB.1
  rw [ht] at hP1
  exact k r u hw hB.2 H1 locs1 ls hP1 (va_D_wl hD) hS1 hl
theorem Go_callVN_I (C : Cx G cc ws own nL ret rm sh N) {y : MethodName} {wsy wsy' : List Cond} {rmy : Room} {av : (Nat → Nat) → List Value} {Q1 : Int32 → St → Prop} {bytes : ByteArray} {maxL idx n : Nat} {rty : Option FieldType} {ci n2 o : Nat} {CN : String} {T : u_T} {NN : Nat} (ho : ok sh N o ci 0) (hci : vwCl[ci]? = some (CN, T, NN)) (hc13 : ci < 13) (hM : MetI (Gl G) y wsy rmy sh N RC (fun ad => .ref (ad o) :: av ad) S Q1)
    (hGd : GoodIn ws wsy) (hwy : wsy = Cond.code y bytes maxL rty :: wsy') {host : String} (hnw : Cond.methodLinkNest own idx y host ∈ nwL) (hini : Cond.initialized y.cls ∈ ws) (hins : Cond.instanceMethod y ∈ ws) (hsel : Cond.selects CN y y ∈ ws) (hd : y.cls ≠ "java/lang/invoke/MethodHandle" ∧ y.cls ≠ "java/lang/invoke/VarHandle" ∧ (parseMethodDescriptor y.desc).map (fun d => d.parameters.length) = some n) (hr0 : rmy.cells = 0 ∧ rmy.slots = 0) (hroom : rmy.frames + 1 ≤ rm.frames ∧ 8 + (maxL + 11) + rmy.locals ≤ rm.locals) (hlen : (av (Gad G)).length = n) (hst : (av (Gad G)).reverse ++ .ref (Gad G o) :: st = st0) (hW : (st.map fun v => v.category).sum ≤ 8) (hdg : decode cc pc = .ok (.invokevirtual idx, 3)) (hq : pc + 3 = q)
    (k : ∀ r S', Q1 r S' → RC S' → Go G nL q (.int r :: st) lv S') : Go G nL pc st0 lv S := by
  subst hq; subst hst
  obtain ⟨-, -, -, -, -, -, -, -, -, -, hrm, hsh, hN⟩ := id C
  subst hsh; subst hN; subst hrm
  intro H locs ls hP hD hS hl
  have hc := wl_get (X := GX G) (cy := Gcy G) (ad := Gad G) (sh := Gsh G) (S := S) ho.1
  rw [cell_obj ho hc13] at hc
  have hA1 : ∀ q, va_A (Wd G S) H.size q → GA G q := inA (D := GD G) hD C.2.2.2.2.2.2.2.2.1 hS.1
  have pre : ∀ U : State, U.heap = H → (Gs G).WarmedH U.vm → va_Pc (Value.ref (Gad G o) :: av (Gad G)) (PreB (GD G) (Gcy G) (Gad G) (GX G) H.size (Gsh G) (GN G) S) (Value.ref (Gad G o) :: av (Gad G)).toArray U := fun U hU hW => ⟨rfl, by rw [hU], by rw [hU]; exact hP, va_K.moved hW.alike C.2.2.2.2.2.2.2.1, hD.weaken (fun _ _ _ _ => trivial), NW.warm hW C.2.2.2.2.2.2.2.2.2.1⟩
  refine va_calli (va_runVN (As := av (Gad G)) (rest := st) ⟨C.1, C.2.1, C.2.2.1, C.2.2.2.1, C.2.2.2.2.1⟩ (hM (GD G) (Gcy G) (Gad G) (GX G) H.size) (⟨va_cnB n C.2.2.2.2.1 hGd hwy hr0.1 hr0.2 (C.2.2.2.2.2.2.2.2.2.1 _ hnw) (C.2.2.2.2.1 _ hini) hd hroom, C.2.2.2.2.1 _ hins, C.2.2.2.2.1 _ hsel⟩) ⟨preB_blind, va_recv C.2.2.2.2.2.2.2.1 hP (ci := ci) (q0 := (GX G).length + o) hci hc, pre⟩ rfl hlen hl.1 rfl (lv_room hW) hdg ⟨Nat.zero_le _, Nat.zero_le _⟩) hS (fun q _ h => hA1 q h) hA1 (fun r u t H1 locs1 ht hvm hw hB hz hk hS1 => ?_)
  have hP1 := hB.1
  rw [ht] at hP1
  exact k r u hw hB.2 H1 locs1 ls hP1 (va_D_wl hD) hS1 hl
theorem Go_callVN_L (C : Cx G cc ws own nL ret rm sh N) {y : MethodName} {wsy wsy' : List Cond} {rmy : Room} {av : (Nat → Nat) → List Value} {Q1 : Int64 → St → Prop} {bytes : ByteArray} {maxL idx n : Nat} {rty : Option FieldType} {ci n2 o : Nat} {CN : String} {T : u_T} {NN : Nat} (ho : ok sh N o ci 0) (hci : vwCl[ci]? = some (CN, T, NN)) (hc13 : ci < 13) (hM : MetL (Gl G) y wsy rmy sh N RC (fun ad => .ref (ad o) :: av ad) S Q1)
    (hGd : GoodIn ws wsy) (hwy : wsy = Cond.code y bytes maxL rty :: wsy') {host : String} (hnw : Cond.methodLinkNest own idx y host ∈ nwL) (hini : Cond.initialized y.cls ∈ ws) (hins : Cond.instanceMethod y ∈ ws) (hsel : Cond.selects CN y y ∈ ws) (hd : y.cls ≠ "java/lang/invoke/MethodHandle" ∧ y.cls ≠ "java/lang/invoke/VarHandle" ∧ (parseMethodDescriptor y.desc).map (fun d => d.parameters.length) = some n) (hr0 : rmy.cells = 0 ∧ rmy.slots = 0) (hroom : rmy.frames + 1 ≤ rm.frames ∧ 8 + (maxL + 11) + rmy.locals ≤ rm.locals) (hlen : (av (Gad G)).length = n) (hst : (av (Gad G)).reverse ++ .ref (Gad G o) :: st = st0) (hW : (st.map fun v => v.category).sum ≤ 8) (hdg : decode cc pc = .ok (.invokevirtual idx, 3)) (hq : pc + 3 = q)
    (k : ∀ r S', Q1 r S' → RC S' → Go G nL q (.long r :: st) lv S') : Go G nL pc st0 lv S := by
  subst hq; subst hst
  obtain ⟨-, -, -, -, -, -, -, -, -, -, hrm, hsh, hN⟩ := id C
  subst hsh; subst hN; subst hrm
  intro H locs ls hP hD hS hl
  have hc := wl_get (X := GX G) (cy := Gcy G) (ad := Gad G) (sh := Gsh G) (S := S) ho.1
  rw [cell_obj ho hc13] at hc
  have hA1 : ∀ q, va_A (Wd G S) H.size q → GA G q := inA (D := GD G) hD C.2.2.2.2.2.2.2.2.1 hS.1
  have pre : ∀ U : State, U.heap = H → (Gs G).WarmedH U.vm → va_Pc (Value.ref (Gad G o) :: av (Gad G)) (PreB (GD G) (Gcy G) (Gad G) (GX G) H.size (Gsh G) (GN G) S) (Value.ref (Gad G o) :: av (Gad G)).toArray U := fun U hU hW => ⟨rfl, by rw [hU], by rw [hU]; exact hP, va_K.moved hW.alike C.2.2.2.2.2.2.2.1, hD.weaken (fun _ _ _ _ => trivial), NW.warm hW C.2.2.2.2.2.2.2.2.2.1⟩
  refine va_calll (va_runVN (As := av (Gad G)) (rest := st) ⟨C.1, C.2.1, C.2.2.1, C.2.2.2.1, C.2.2.2.2.1⟩ (hM (GD G) (Gcy G) (Gad G) (GX G) H.size) (⟨va_cnB n C.2.2.2.2.1 hGd hwy hr0.1 hr0.2 (C.2.2.2.2.2.2.2.2.2.1 _ hnw) (C.2.2.2.2.1 _ hini) hd hroom, C.2.2.2.2.1 _ hins, C.2.2.2.2.1 _ hsel⟩) ⟨preB_blind, va_recv C.2.2.2.2.2.2.2.1 hP (ci := ci) (q0 := (GX G).length + o) hci hc, pre⟩ rfl hlen hl.1 rfl (lv_room hW) hdg ⟨Nat.zero_le _, Nat.zero_le _⟩) hS (fun q _ h => hA1 q h) hA1 (fun r u t H1 locs1 ht hvm hw hB hz hk hS1 => ?_)
  have hP1 := hB.1
  rw [ht] at hP1
  exact k r u hw hB.2 H1 locs1 ls hP1 (va_D_wl hD) hS1 hl
theorem Go_callVN_V (C : Cx G cc ws own nL ret rm sh N) {y : MethodName} {wsy wsy' : List Cond} {rmy : Room} {av : (Nat → Nat) → List Value} {Q1 : St → Prop} {bytes : ByteArray} {maxL idx n : Nat} {rty : Option FieldType} {ci n2 o : Nat} {CN : String} {T : u_T} {NN : Nat} (ho : ok sh N o ci 0) (hci : vwCl[ci]? = some (CN, T, NN)) (hc13 : ci < 13) (hM : MetV (Gl G) y wsy rmy sh N RC (fun ad => .ref (ad o) :: av ad) S Q1)
    (hGd : GoodIn ws wsy) (hwy : wsy = Cond.code y bytes maxL rty :: wsy') {host : String} (hnw : Cond.methodLinkNest own idx y host ∈ nwL) (hini : Cond.initialized y.cls ∈ ws) (hins : Cond.instanceMethod y ∈ ws) (hsel : Cond.selects CN y y ∈ ws) (hd : y.cls ≠ "java/lang/invoke/MethodHandle" ∧ y.cls ≠ "java/lang/invoke/VarHandle" ∧ (parseMethodDescriptor y.desc).map (fun d => d.parameters.length) = some n) (hr0 : rmy.cells = 0 ∧ rmy.slots = 0) (hroom : rmy.frames + 1 ≤ rm.frames ∧ 8 + (maxL + 11) + rmy.locals ≤ rm.locals) (hlen : (av (Gad G)).length = n) (hst : (av (Gad G)).reverse ++ .ref (Gad G o) :: st = st0) (hW : (st.map fun v => v.category).sum ≤ 8) (hdg : decode cc pc = .ok (.invokevirtual idx, 3)) (hq : pc + 3 = q)
    (k : ∀ S', Q1 S' → RC S' → Go G nL q (st) lv S') : Go G nL pc st0 lv S := by
  subst hq; subst hst
  obtain ⟨-, -, -, -, -, -, -, -, -, -, hrm, hsh, hN⟩ := id C
  subst hsh; subst hN; subst hrm
  intro H locs ls hP hD hS hl
  have hc := wl_get (X := GX G) (cy := Gcy G) (ad := Gad G) (sh := Gsh G) (S := S) ho.1
  rw [cell_obj ho hc13] at hc
  have hA1 : ∀ q, va_A (Wd G S) H.size q → GA G q := inA (D := GD G) hD C.2.2.2.2.2.2.2.2.1 hS.1
  have pre : ∀ U : State, U.heap = H → (Gs G).WarmedH U.vm → va_Pc (Value.ref (Gad G o) :: av (Gad G)) (PreB (GD G) (Gcy G) (Gad G) (GX G) H.size (Gsh G) (GN G) S) (Value.ref (Gad G o) :: av (Gad G)).toArray U := fun U hU hW => ⟨rfl, by rw [hU], by rw [hU]; exact hP, va_K.moved hW.alike C.2.2.2.2.2.2.2.1, hD.weaken (fun _ _ _ _ => trivial), NW.warm hW C.2.2.2.2.2.2.2.2.2.1⟩
  refine va_callv (va_runVN (As := av (Gad G)) (rest := st) ⟨C.1, C.2.1, C.2.2.1, C.2.2.2.1, C.2.2.2.2.1⟩ (hM (GD G) (Gcy G) (Gad G) (GX G) H.size) (⟨va_cnB n C.2.2.2.2.1 hGd hwy hr0.1 hr0.2 (C.2.2.2.2.2.2.2.2.2.1 _ hnw) (C.2.2.2.2.1 _ hini) hd hroom, C.2.2.2.2.1 _ hins, C.2.2.2.2.1 _ hsel⟩) ⟨preB_blind, va_recv C.2.2.2.2.2.2.2.1 hP (ci := ci) (q0 := (GX G).length + o) hci hc, pre⟩ rfl hlen hl.1 rfl (lv_room hW) hdg ⟨Nat.zero_le _, Nat.zero_le _⟩) hS (fun q _ h => hA1 q h) hA1 (fun u t H1 locs1 ht hvm hw hB hz hk hS1 => ?_)
  have hP1 := hB.1
  rw [ht] at hP1
  exact k u hw hB.2 H1 locs1 ls hP1 (va_D_wl hD) hS1 hl
theorem Go_callVN_O (C : Cx G cc ws own nL ret rm sh N) {y : MethodName} {wsy wsy' : List Cond} {rmy : Room} {av : (Nat → Nat) → List Value} {Q1 : Option Nat → St → Prop} {bytes : ByteArray} {maxL idx n : Nat} {rty : Option FieldType} {ci n2 o : Nat} {CN : String} {T : u_T} {NN : Nat} (ho : ok sh N o ci 0) (hci : vwCl[ci]? = some (CN, T, NN)) (hc13 : ci < 13) (hM : MetO (Gl G) y wsy rmy sh N RC (fun ad => .ref (ad o) :: av ad) S Q1)
    (hGd : GoodIn ws wsy) (hwy : wsy = Cond.code y bytes maxL rty :: wsy') {host : String} (hnw : Cond.methodLinkNest own idx y host ∈ nwL) (hini : Cond.initialized y.cls ∈ ws) (hins : Cond.instanceMethod y ∈ ws) (hsel : Cond.selects CN y y ∈ ws) (hd : y.cls ≠ "java/lang/invoke/MethodHandle" ∧ y.cls ≠ "java/lang/invoke/VarHandle" ∧ (parseMethodDescriptor y.desc).map (fun d => d.parameters.length) = some n) (hr0 : rmy.cells = 0 ∧ rmy.slots = 0) (hroom : rmy.frames + 1 ≤ rm.frames ∧ 8 + (maxL + 11) + rmy.locals ≤ rm.locals) (hlen : (av (Gad G)).length = n) (hst : (av (Gad G)).reverse ++ .ref (Gad G o) :: st = st0) (hW : (st.map fun v => v.category).sum ≤ 8) (hdg : decode cc pc = .ok (.invokevirtual idx, 3)) (hq : pc + 3 = q)
    (k : ∀ r S', Q1 r S' → RC S' → Go G nL q (va_rf (r.map (Gad G)) :: st) lv S') : Go G nL pc st0 lv S := by
  subst hq; subst hst
  obtain ⟨-, -, -, -, -, -, -, -, -, -, hrm, hsh, hN⟩ := id C
  subst hsh; subst hN; subst hrm
  intro H locs ls hP hD hS hl
  have hc := wl_get (X := GX G) (cy := Gcy G) (ad := Gad G) (sh := Gsh G) (S := S) ho.1
  rw [cell_obj ho hc13] at hc
  have hA1 : ∀ q, va_A (Wd G S) H.size q → GA G q := inA (D := GD G) hD C.2.2.2.2.2.2.2.2.1 hS.1
  have pre : ∀ U : State, U.heap = H → (Gs G).WarmedH U.vm → va_Pc (Value.ref (Gad G o) :: av (Gad G)) (PreB (GD G) (Gcy G) (Gad G) (GX G) H.size (Gsh G) (GN G) S) (Value.ref (Gad G o) :: av (Gad G)).toArray U := fun U hU hW => ⟨rfl, by rw [hU], by rw [hU]; exact hP, va_K.moved hW.alike C.2.2.2.2.2.2.2.1, hD.weaken (fun _ _ _ _ => trivial), NW.warm hW C.2.2.2.2.2.2.2.2.2.1⟩
  refine va_callq (va_runVN (As := av (Gad G)) (rest := st) ⟨C.1, C.2.1, C.2.2.1, C.2.2.2.1, C.2.2.2.2.1⟩ (hM (GD G) (Gcy G) (Gad G) (GX G) H.size) (⟨va_cnB n C.2.2.2.2.1 hGd hwy hr0.1 hr0.2 (C.2.2.2.2.2.2.2.2.2.1 _ hnw) (C.2.2.2.2.1 _ hini) hd hroom, C.2.2.2.2.1 _ hins, C.2.2.2.2.1 _ hsel⟩) ⟨preB_blind, va_recv C.2.2.2.2.2.2.2.1 hP (ci := ci) (q0 := (GX G).length + o) hci hc, pre⟩ rfl hlen hl.1 rfl (lv_room hW) hdg ⟨Nat.zero_le _, Nat.zero_le _⟩) hS (fun q _ h => hA1 q h) hA1 (fun r0 u t H1 locs1 ht hvm hw hB hz hk hS1 => ?_)
  obtain ⟨r, rfl, hw⟩ := hw
  have hP1 := hB.1
  rw [ht] at hP1
  exact k r u hw hB.2 H1 locs1 ls hP1 (va_D_wl hD) hS1 hl
theorem Go_callS_I (C : Cx G cc ws own nL ret rm sh N) {y : MethodName} {wsy wsy' : List Cond} {rmy : Room} {av : (Nat → Nat) → List Value} {Q1 : Int32 → St → Prop} {bytes : ByteArray} {maxL idx n : Nat} {rty : Option FieldType} (hM : MetI (Gl G) y wsy rmy sh N RC av S Q1)
    (hGd : GoodIn ws (va_wsS own idx y wsy)) (hwy : wsy = Cond.code y bytes maxL rty :: wsy') (hd : y.cls ≠ "java/lang/invoke/MethodHandle" ∧ y.cls ≠ "java/lang/invoke/VarHandle" ∧ (parseMethodDescriptor y.desc).map (fun d => d.parameters.length) = some n) (hr0 : rmy.cells = 0 ∧ rmy.slots = 0) (hroom : rmy.frames + 1 ≤ rm.frames ∧ 8 + (maxL + 11) + rmy.locals ≤ rm.locals) (hlen : (av (Gad G)).length = n) (hst : (av (Gad G)).reverse ++ st = st0) (hW : (st.map fun v => v.category).sum ≤ 8) (hdg : decode cc pc = .ok (.invokestatic idx, 3)) (hq : pc + 3 = q)
    (k : ∀ r S', Q1 r S' → RC S' → Go G nL q (.int r :: st) lv S') : Go G nL pc st0 lv S := by
  subst hq; subst hst
  obtain ⟨-, -, -, -, -, -, -, -, -, -, hrm, hsh, hN⟩ := id C
  subst hsh; subst hN; subst hrm
  intro H locs ls hP hD hS hl
  have hA1 : ∀ q, va_A (Wd G S) H.size q → GA G q := inA (D := GD G) hD C.2.2.2.2.2.2.2.2.1 hS.1
  have pre : ∀ U : State, U.heap = H → (Gs G).WarmedH U.vm → va_Pc (av (Gad G)) (PreB (GD G) (Gcy G) (Gad G) (GX G) H.size (Gsh G) (GN G) S) (av (Gad G)).toArray U := fun U hU hW => ⟨rfl, by rw [hU], by rw [hU]; exact hP, va_K.moved hW.alike C.2.2.2.2.2.2.2.1, hD.weaken (fun _ _ _ _ => trivial), NW.warm hW C.2.2.2.2.2.2.2.2.2.1⟩
  refine va_calli (va_runS (As := av (Gad G)) (rest := st) ⟨C.1, C.2.1, C.2.2.1, C.2.2.2.1, C.2.2.2.2.1⟩ (hM (GD G) (Gcy G) (Gad G) (GX G) H.size) (va_cwS n C.2.2.2.2.1 hGd hwy hr0.1 hr0.2 hd hroom) ⟨preB_blind, pre⟩ rfl hlen hl.1 rfl (lv_room hW) hdg ⟨Nat.zero_le _, Nat.zero_le _⟩) hS (fun q _ h => hA1 q h) hA1 (fun r u t H1 locs1 ht hvm hw hB hz hk hS1 => ?_)
  have hP1 := hB.1
  rw [ht] at hP1
  exact k r u hw hB.2 H1 locs1 ls hP1 (va_D_wl hD) hS1 hl
theorem Go_callS_L (C : Cx G cc ws own nL ret rm sh N) {y : MethodName} {wsy wsy' : List Cond} {rmy : Room} {av : (Nat → Nat) → List Value} {Q1 : Int64 → St → Prop} {bytes : ByteArray} {maxL idx n : Nat} {rty : Option FieldType} (hM : MetL (Gl G) y wsy rmy sh N RC av S Q1)
    (hGd : GoodIn ws (va_wsS own idx y wsy)) (hwy : wsy = Cond.code y bytes maxL rty :: wsy') (hd : y.cls ≠ "java/lang/invoke/MethodHandle" ∧ y.cls ≠ "java/lang/invoke/VarHandle" ∧ (parseMethodDescriptor y.desc).map (fun d => d.parameters.length) = some n) (hr0 : rmy.cells = 0 ∧ rmy.slots = 0) (hroom : rmy.frames + 1 ≤ rm.frames ∧ 8 + (maxL + 11) + rmy.locals ≤ rm.locals) (hlen : (av (Gad G)).length = n) (hst : (av (Gad G)).reverse ++ st = st0) (hW : (st.map fun v => v.category).sum ≤ 8) (hdg : decode cc pc = .ok (.invokestatic idx, 3)) (hq : pc + 3 = q)
    (k : ∀ r S', Q1 r S' → RC S' → Go G nL q (.long r :: st) lv S') : Go G nL pc st0 lv S := by
  subst hq; subst hst
  obtain ⟨-, -, -, -, -, -, -, -, -, -, hrm, hsh, hN⟩ := id C
  subst hsh; subst hN; subst hrm
  intro H locs ls hP hD hS hl
  have hA1 : ∀ q, va_A (Wd G S) H.size q → GA G q := inA (D := GD G) hD C.2.2.2.2.2.2.2.2.1 hS.1
  have pre : ∀ U : State, U.heap = H → (Gs G).WarmedH U.vm → va_Pc (av (Gad G)) (PreB (GD G) (Gcy G) (Gad G) (GX G) H.size (Gsh G) (GN G) S) (av (Gad G)).toArray U := fun U hU hW => ⟨rfl, by rw [hU], by rw [hU]; exact hP, va_K.moved hW.alike C.2.2.2.2.2.2.2.1, hD.weaken (fun _ _ _ _ => trivial), NW.warm hW C.2.2.2.2.2.2.2.2.2.1⟩
  refine va_calll (va_runS (As := av (Gad G)) (rest := st) ⟨C.1, C.2.1, C.2.2.1, C.2.2.2.1, C.2.2.2.2.1⟩ (hM (GD G) (Gcy G) (Gad G) (GX G) H.size) (va_cwS n C.2.2.2.2.1 hGd hwy hr0.1 hr0.2 hd hroom) ⟨preB_blind, pre⟩ rfl hlen hl.1 rfl (lv_room hW) hdg ⟨Nat.zero_le _, Nat.zero_le _⟩) hS (fun q _ h => hA1 q h) hA1 (fun r u t H1 locs1 ht hvm hw hB hz hk hS1 => ?_)
  have hP1 := hB.1
  rw [ht] at hP1
  exact k r u hw hB.2 H1 locs1 ls hP1 (va_D_wl hD) hS1 hl
theorem Go_callS_V (C : Cx G cc ws own nL ret rm sh N) {y : MethodName} {wsy wsy' : List Cond} {rmy : Room} {av : (Nat → Nat) → List Value} {Q1 : St → Prop} {bytes : ByteArray} {maxL idx n : Nat} {rty : Option FieldType} (hM : MetV (Gl G) y wsy rmy sh N RC av S Q1)
    (hGd : GoodIn ws (va_wsS own idx y wsy)) (hwy : wsy = Cond.code y bytes maxL rty :: wsy') (hd : y.cls ≠ "java/lang/invoke/MethodHandle" ∧ y.cls ≠ "java/lang/invoke/VarHandle" ∧ (parseMethodDescriptor y.desc).map (fun d => d.parameters.length) = some n) (hr0 : rmy.cells = 0 ∧ rmy.slots = 0) (hroom : rmy.frames + 1 ≤ rm.frames ∧ 8 + (maxL + 11) + rmy.locals ≤ rm.locals) (hlen : (av (Gad G)).length = n) (hst : (av (Gad G)).reverse ++ st = st0) (hW : (st.map fun v => v.category).sum ≤ 8) (hdg : decode cc pc = .ok (.invokestatic idx, 3)) (hq : pc + 3 = q)
    (k : ∀ S', Q1 S' → RC S' → Go G nL q (st) lv S') : Go G nL pc st0 lv S := by
  subst hq; subst hst
  obtain ⟨-, -, -, -, -, -, -, -, -, -, hrm, hsh, hN⟩ := id C
  subst hsh; subst hN; subst hrm
  intro H locs ls hP hD hS hl
  have hA1 : ∀ q, va_A (Wd G S) H.size q → GA G q := inA (D := GD G) hD C.2.2.2.2.2.2.2.2.1 hS.1
  have pre : ∀ U : State, U.heap = H → (Gs G).WarmedH U.vm → va_Pc (av (Gad G)) (PreB (GD G) (Gcy G) (Gad G) (GX G) H.size (Gsh G) (GN G) S) (av (Gad G)).toArray U := fun U hU hW => ⟨rfl, by rw [hU], by rw [hU]; exact hP, va_K.moved hW.alike C.2.2.2.2.2.2.2.1, hD.weaken (fun _ _ _ _ => trivial), NW.warm hW C.2.2.2.2.2.2.2.2.2.1⟩
  refine va_callv (va_runS (As := av (Gad G)) (rest := st) ⟨C.1, C.2.1, C.2.2.1, C.2.2.2.1, C.2.2.2.2.1⟩ (hM (GD G) (Gcy G) (Gad G) (GX G) H.size) (va_cwS n C.2.2.2.2.1 hGd hwy hr0.1 hr0.2 hd hroom) ⟨preB_blind, pre⟩ rfl hlen hl.1 rfl (lv_room hW) hdg ⟨Nat.zero_le _, Nat.zero_le _⟩) hS (fun q _ h => hA1 q h) hA1 (fun u t H1 locs1 ht hvm hw hB hz hk hS1 => ?_)
  have hP1 := hB.1
  rw [ht] at hP1
  exact k u hw hB.2 H1 locs1 ls hP1 (va_D_wl hD) hS1 hl
theorem Go_callS_O (C : Cx G cc ws own nL ret rm sh N) {y : MethodName} {wsy wsy' : List Cond} {rmy : Room} {av : (Nat → Nat) → List Value} {Q1 : Option Nat → St → Prop} {bytes : ByteArray} {maxL idx n : Nat} {rty : Option FieldType} (hM : MetO (Gl G) y wsy rmy sh N RC av S Q1)
    (hGd : GoodIn ws (va_wsS own idx y wsy)) (hwy : wsy = Cond.code y bytes maxL rty :: wsy') (hd : y.cls ≠ "java/lang/invoke/MethodHandle" ∧ y.cls ≠ "java/lang/invoke/VarHandle" ∧ (parseMethodDescriptor y.desc).map (fun d => d.parameters.length) = some n) (hr0 : rmy.cells = 0 ∧ rmy.slots = 0) (hroom : rmy.frames + 1 ≤ rm.frames ∧ 8 + (maxL + 11) + rmy.locals ≤ rm.locals) (hlen : (av (Gad G)).length = n) (hst : (av (Gad G)).reverse ++ st = st0) (hW : (st.map fun v => v.category).sum ≤ 8) (hdg : decode cc pc = .ok (.invokestatic idx, 3)) (hq : pc + 3 = q)
    (k : ∀ r S', Q1 r S' → RC S' → Go G nL q (va_rf (r.map (Gad G)) :: st) lv S') : Go G nL pc st0 lv S := by
  subst hq; subst hst
  obtain ⟨-, -, -, -, -, -, -, -, -, -, hrm, hsh, hN⟩ := id C
  subst hsh; subst hN; subst hrm
  intro H locs ls hP hD hS hl
  have hA1 : ∀ q, va_A (Wd G S) H.size q → GA G q := inA (D := GD G) hD C.2.2.2.2.2.2.2.2.1 hS.1
  have pre : ∀ U : State, U.heap = H → (Gs G).WarmedH U.vm → va_Pc (av (Gad G)) (PreB (GD G) (Gcy G) (Gad G) (GX G) H.size (Gsh G) (GN G) S) (av (Gad G)).toArray U := fun U hU hW => ⟨rfl, by rw [hU], by rw [hU]; exact hP, va_K.moved hW.alike C.2.2.2.2.2.2.2.1, hD.weaken (fun _ _ _ _ => trivial), NW.warm hW C.2.2.2.2.2.2.2.2.2.1⟩
  refine va_callq (va_runS (As := av (Gad G)) (rest := st) ⟨C.1, C.2.1, C.2.2.1, C.2.2.2.1, C.2.2.2.2.1⟩ (hM (GD G) (Gcy G) (Gad G) (GX G) H.size) (va_cwS n C.2.2.2.2.1 hGd hwy hr0.1 hr0.2 hd hroom) ⟨preB_blind, pre⟩ rfl hlen hl.1 rfl (lv_room hW) hdg ⟨Nat.zero_le _, Nat.zero_le _⟩) hS (fun q _ h => hA1 q h) hA1 (fun r0 u t H1 locs1 ht hvm hw hB hz hk hS1 => ?_)
  obtain ⟨r, rfl, hw⟩ := hw
  have hP1 := hB.1
  rw [ht] at hP1
  exact k r u hw hB.2 H1 locs1 ls hP1 (va_D_wl hD) hS1 hl
theorem Go_callSN_I (C : Cx G cc ws own nL ret rm sh N) {y : MethodName} {wsy wsy' : List Cond} {rmy : Room} {av : (Nat → Nat) → List Value} {Q1 : Int32 → St → Prop} {bytes : ByteArray} {maxL idx n : Nat} {rty : Option FieldType} (hM : MetI (Gl G) y wsy rmy sh N RC av S Q1)
    (hGd : GoodIn ws wsy) (hwy : wsy = Cond.code y bytes maxL rty :: wsy') {host : String} (hnw : Cond.methodLinkNest own idx y host ∈ nwL) (hini : Cond.initialized y.cls ∈ ws) (hst2 : Cond.static y ∈ ws) (hd : y.cls ≠ "java/lang/invoke/MethodHandle" ∧ y.cls ≠ "java/lang/invoke/VarHandle" ∧ (parseMethodDescriptor y.desc).map (fun d => d.parameters.length) = some n) (hr0 : rmy.cells = 0 ∧ rmy.slots = 0) (hroom : rmy.frames + 1 ≤ rm.frames ∧ 8 + (maxL + 11) + rmy.locals ≤ rm.locals) (hlen : (av (Gad G)).length = n) (hst : (av (Gad G)).reverse ++ st = st0) (hW : (st.map fun v => v.category).sum ≤ 8) (hdg : decode cc pc = .ok (.invokestatic idx, 3)) (hq : pc + 3 = q)
    (k : ∀ r S', Q1 r S' → RC S' → Go G nL q (.int r :: st) lv S') : Go G nL pc st0 lv S := by
  subst hq; subst hst
  obtain ⟨-, -, -, -, -, -, -, -, -, -, hrm, hsh, hN⟩ := id C
  subst hsh; subst hN; subst hrm
  intro H locs ls hP hD hS hl
  have hA1 : ∀ q, va_A (Wd G S) H.size q → GA G q := inA (D := GD G) hD C.2.2.2.2.2.2.2.2.1 hS.1
  have pre : ∀ U : State, U.heap = H → (Gs G).WarmedH U.vm → va_Pc (av (Gad G)) (PreB (GD G) (Gcy G) (Gad G) (GX G) H.size (Gsh G) (GN G) S) (av (Gad G)).toArray U := fun U hU hW => ⟨rfl, by rw [hU], by rw [hU]; exact hP, va_K.moved hW.alike C.2.2.2.2.2.2.2.1, hD.weaken (fun _ _ _ _ => trivial), NW.warm hW C.2.2.2.2.2.2.2.2.2.1⟩
  refine va_calli (va_runSN (As := av (Gad G)) (rest := st) ⟨C.1, C.2.1, C.2.2.1, C.2.2.2.1, C.2.2.2.2.1⟩ (hM (GD G) (Gcy G) (Gad G) (GX G) H.size) (⟨va_cnB n C.2.2.2.2.1 hGd hwy hr0.1 hr0.2 (C.2.2.2.2.2.2.2.2.2.1 _ hnw) (C.2.2.2.2.1 _ hini) hd hroom, C.2.2.2.2.1 _ hst2, trivial⟩) ⟨preB_blind, pre⟩ rfl hlen hl.1 rfl (lv_room hW) hdg ⟨Nat.zero_le _, Nat.zero_le _⟩) hS (fun q _ h => hA1 q h) hA1 (fun r u t H1 locs1 ht hvm hw hB hz hk hS1 => ?_)
  have hP1 := hB.1
  rw [ht] at hP1
  exact k r u hw hB.2 H1 locs1 ls hP1 (va_D_wl hD) hS1 hl
theorem Go_callSN_L (C : Cx G cc ws own nL ret rm sh N) {y : MethodName} {wsy wsy' : List Cond} {rmy : Room} {av : (Nat → Nat) → List Value} {Q1 : Int64 → St → Prop} {bytes : ByteArray} {maxL idx n : Nat} {rty : Option FieldType} (hM : MetL (Gl G) y wsy rmy sh N RC av S Q1)
    (hGd : GoodIn ws wsy) (hwy : wsy = Cond.code y bytes maxL rty :: wsy') {host : String} (hnw : Cond.methodLinkNest own idx y host ∈ nwL) (hini : Cond.initialized y.cls ∈ ws) (hst2 : Cond.static y ∈ ws) (hd : y.cls ≠ "java/lang/invoke/MethodHandle" ∧ y.cls ≠ "java/lang/invoke/VarHandle" ∧ (parseMethodDescriptor y.desc).map (fun d => d.parameters.length) = some n) (hr0 : rmy.cells = 0 ∧ rmy.slots = 0) (hroom : rmy.frames + 1 ≤ rm.frames ∧ 8 + (maxL + 11) + rmy.locals ≤ rm.locals) (hlen : (av (Gad G)).length = n) (hst : (av (Gad G)).reverse ++ st = st0) (hW : (st.map fun v => v.category).sum ≤ 8) (hdg : decode cc pc = .ok (.invokestatic idx, 3)) (hq : pc + 3 = q)
    (k : ∀ r S', Q1 r S' → RC S' → Go G nL q (.long r :: st) lv S') : Go G nL pc st0 lv S := by
  subst hq; subst hst
  obtain ⟨-, -, -, -, -, -, -, -, -, -, hrm, hsh, hN⟩ := id C
  subst hsh; subst hN; subst hrm
  intro H locs ls hP hD hS hl
  have hA1 : ∀ q, va_A (Wd G S) H.size q → GA G q := inA (D := GD G) hD C.2.2.2.2.2.2.2.2.1 hS.1
  have pre : ∀ U : State, U.heap = H → (Gs G).WarmedH U.vm → va_Pc (av (Gad G)) (PreB (GD G) (Gcy G) (Gad G) (GX G) H.size (Gsh G) (GN G) S) (av (Gad G)).toArray U := fun U hU hW => ⟨rfl, by rw [hU], by rw [hU]; exact hP, va_K.moved hW.alike C.2.2.2.2.2.2.2.1, hD.weaken (fun _ _ _ _ => trivial), NW.warm hW C.2.2.2.2.2.2.2.2.2.1⟩
  refine va_calll (va_runSN (As := av (Gad G)) (rest := st) ⟨C.1, C.2.1, C.2.2.1, C.2.2.2.1, C.2.2.2.2.1⟩ (hM (GD G) (Gcy G) (Gad G) (GX G) H.size) (⟨va_cnB n C.2.2.2.2.1 hGd hwy hr0.1 hr0.2 (C.2.2.2.2.2.2.2.2.2.1 _ hnw) (C.2.2.2.2.1 _ hini) hd hroom, C.2.2.2.2.1 _ hst2, trivial⟩) ⟨preB_blind, pre⟩ rfl hlen hl.1 rfl (lv_room hW) hdg ⟨Nat.zero_le _, Nat.zero_le _⟩) hS (fun q _ h => hA1 q h) hA1 (fun r u t H1 locs1 ht hvm hw hB hz hk hS1 => ?_)
  have hP1 := hB.1
  rw [ht] at hP1
  exact k r u hw hB.2 H1 locs1 ls hP1 (va_D_wl hD) hS1 hl
theorem Go_callSN_V (C : Cx G cc ws own nL ret rm sh N) {y : MethodName} {wsy wsy' : List Cond} {rmy : Room} {av : (Nat → Nat) → List Value} {Q1 : St → Prop} {bytes : ByteArray} {maxL idx n : Nat} {rty : Option FieldType} (hM : MetV (Gl G) y wsy rmy sh N RC av S Q1)
    (hGd : GoodIn ws wsy) (hwy : wsy = Cond.code y bytes maxL rty :: wsy') {host : String} (hnw : Cond.methodLinkNest own idx y host ∈ nwL) (hini : Cond.initialized y.cls ∈ ws) (hst2 : Cond.static y ∈ ws) (hd : y.cls ≠ "java/lang/invoke/MethodHandle" ∧ y.cls ≠ "java/lang/invoke/VarHandle" ∧ (parseMethodDescriptor y.desc).map (fun d => d.parameters.length) = some n) (hr0 : rmy.cells = 0 ∧ rmy.slots = 0) (hroom : rmy.frames + 1 ≤ rm.frames ∧ 8 + (maxL + 11) + rmy.locals ≤ rm.locals) (hlen : (av (Gad G)).length = n) (hst : (av (Gad G)).reverse ++ st = st0) (hW : (st.map fun v => v.category).sum ≤ 8) (hdg : decode cc pc = .ok (.invokestatic idx, 3)) (hq : pc + 3 = q)
    (k : ∀ S', Q1 S' → RC S' → Go G nL q (st) lv S') : Go G nL pc st0 lv S := by
  subst hq; subst hst
  obtain ⟨-, -, -, -, -, -, -, -, -, -, hrm, hsh, hN⟩ := id C
  subst hsh; subst hN; subst hrm
  intro H locs ls hP hD hS hl
  have hA1 : ∀ q, va_A (Wd G S) H.size q → GA G q := inA (D := GD G) hD C.2.2.2.2.2.2.2.2.1 hS.1
  have pre : ∀ U : State, U.heap = H → (Gs G).WarmedH U.vm → va_Pc (av (Gad G)) (PreB (GD G) (Gcy G) (Gad G) (GX G) H.size (Gsh G) (GN G) S) (av (Gad G)).toArray U := fun U hU hW => ⟨rfl, by rw [hU], by rw [hU]; exact hP, va_K.moved hW.alike C.2.2.2.2.2.2.2.1, hD.weaken (fun _ _ _ _ => trivial), NW.warm hW C.2.2.2.2.2.2.2.2.2.1⟩
  refine va_callv (va_runSN (As := av (Gad G)) (rest := st) ⟨C.1, C.2.1, C.2.2.1, C.2.2.2.1, C.2.2.2.2.1⟩ (hM (GD G) (Gcy G) (Gad G) (GX G) H.size) (⟨va_cnB n C.2.2.2.2.1 hGd hwy hr0.1 hr0.2 (C.2.2.2.2.2.2.2.2.2.1 _ hnw) (C.2.2.2.2.1 _ hini) hd hroom, C.2.2.2.2.1 _ hst2, trivial⟩) ⟨preB_blind, pre⟩ rfl hlen hl.1 rfl (lv_room hW) hdg ⟨Nat.zero_le _, Nat.zero_le _⟩) hS (fun q _ h => hA1 q h) hA1 (fun u t H1 locs1 ht hvm hw hB hz hk hS1 => ?_)
  have hP1 := hB.1
  rw [ht] at hP1
  exact k u hw hB.2 H1 locs1 ls hP1 (va_D_wl hD) hS1 hl
theorem Go_callSN_O (C : Cx G cc ws own nL ret rm sh N) {y : MethodName} {wsy wsy' : List Cond} {rmy : Room} {av : (Nat → Nat) → List Value} {Q1 : Option Nat → St → Prop} {bytes : ByteArray} {maxL idx n : Nat} {rty : Option FieldType} (hM : MetO (Gl G) y wsy rmy sh N RC av S Q1)
    (hGd : GoodIn ws wsy) (hwy : wsy = Cond.code y bytes maxL rty :: wsy') {host : String} (hnw : Cond.methodLinkNest own idx y host ∈ nwL) (hini : Cond.initialized y.cls ∈ ws) (hst2 : Cond.static y ∈ ws) (hd : y.cls ≠ "java/lang/invoke/MethodHandle" ∧ y.cls ≠ "java/lang/invoke/VarHandle" ∧ (parseMethodDescriptor y.desc).map (fun d => d.parameters.length) = some n) (hr0 : rmy.cells = 0 ∧ rmy.slots = 0) (hroom : rmy.frames + 1 ≤ rm.frames ∧ 8 + (maxL + 11) + rmy.locals ≤ rm.locals) (hlen : (av (Gad G)).length = n) (hst : (av (Gad G)).reverse ++ st = st0) (hW : (st.map fun v => v.category).sum ≤ 8) (hdg : decode cc pc = .ok (.invokestatic idx, 3)) (hq : pc + 3 = q)
    (k : ∀ r S', Q1 r S' → RC S' → Go G nL q (va_rf (r.map (Gad G)) :: st) lv S') : Go G nL pc st0 lv S := by
  subst hq; subst hst
  obtain ⟨-, -, -, -, -, -, -, -, -, -, hrm, hsh, hN⟩ := id C
  subst hsh; subst hN; subst hrm
  intro H locs ls hP hD hS hl
  have hA1 : ∀ q, va_A (Wd G S) H.size q → GA G q := inA (D := GD G) hD C.2.2.2.2.2.2.2.2.1 hS.1
  have pre : ∀ U : State, U.heap = H → (Gs G).WarmedH U.vm → va_Pc (av (Gad G)) (PreB (GD G) (Gcy G) (Gad G) (GX G) H.size (Gsh G) (GN G) S) (av (Gad G)).toArray U := fun U hU hW => ⟨rfl, by rw [hU], by rw [hU]; exact hP, va_K.moved hW.alike C.2.2.2.2.2.2.2.1, hD.weaken (fun _ _ _ _ => trivial), NW.warm hW C.2.2.2.2.2.2.2.2.2.1⟩
  refine va_callq (va_runSN (As := av (Gad G)) (rest := st) ⟨C.1, C.2.1, C.2.2.1, C.2.2.2.1, C.2.2.2.2.1⟩ (hM (GD G) (Gcy G) (Gad G) (GX G) H.size) (⟨va_cnB n C.2.2.2.2.1 hGd hwy hr0.1 hr0.2 (C.2.2.2.2.2.2.2.2.2.1 _ hnw) (C.2.2.2.2.1 _ hini) hd hroom, C.2.2.2.2.1 _ hst2, trivial⟩) ⟨preB_blind, pre⟩ rfl hlen hl.1 rfl (lv_room hW) hdg ⟨Nat.zero_le _, Nat.zero_le _⟩) hS (fun q _ h => hA1 q h) hA1 (fun r0 u t H1 locs1 ht hvm hw hB hz hk hS1 => ?_)
  obtain ⟨r, rfl, hw⟩ := hw
  have hP1 := hB.1
  rw [ht] at hP1
  exact k r u hw hB.2 H1 locs1 ls hP1 (va_D_wl hD) hS1 hl
end GoCalls
section GoMath
variable {G : GC} {cc : ByteArray} {ws : List Cond} {own : String} {nL : Nat} {ret : Option FieldType} {rm : Room} {sh : Nat → Nat × Nat} {N : Nat} {pc q : Nat} {st : List Value} {lv : List (Nat × Value)} {S : St}
theorem Go_mmax (C : Cx G cc ws own nL ret rm sh N) {idx : Nat} {x y : Int32} (hlink : Cond.methodLink own idx Lib.Math.max.name ∈ ws) (hstat : Cond.static Lib.Math.max.name ∈ ws) (hini : Cond.initialized "java/lang/Math" ∈ ws) (hcode : Cond.code Lib.Math.max.name Lib.Math.max.code 2 (some .int) ∈ ws) (hfr : 1 ≤ rm.frames) (hlo : (st.map fun v => v.category).sum + 13 ≤ rm.locals) (hdg : decode cc pc = .ok (.invokestatic idx, 3)) (hq : pc + 3 = q) (k : Go G nL q (.int (if x < y then y else x) :: st) lv S) : Go G nL pc (.int y :: .int x :: st) lv S := by
  subst hq
  obtain ⟨-, -, -, -, -, -, -, -, -, -, hrm, -, -⟩ := id C
  subst hrm
  exact fun H locs ls hP hD hS hl => va_mmax C.1 C.2.1 (C.2.2.1.trans hl.1.symm) C.2.2.2.1 (C.2.2.2.2.1 _ hlink) (C.2.2.2.2.1 _ hstat) (C.2.2.2.2.1 _ hini) (C.2.2.2.2.1 _ hcode) hfr hlo (Nat.zero_le _) (Nat.zero_le _) hdg (k H locs ls hP hD hS hl)
theorem Go_mmin (C : Cx G cc ws own nL ret rm sh N) {idx : Nat} {x y : Int32} (hlink : Cond.methodLink own idx Lib.Math.min.name ∈ ws) (hstat : Cond.static Lib.Math.min.name ∈ ws) (hini : Cond.initialized "java/lang/Math" ∈ ws) (hcode : Cond.code Lib.Math.min.name Lib.Math.min.code 2 (some .int) ∈ ws) (hfr : 1 ≤ rm.frames) (hlo : (st.map fun v => v.category).sum + 13 ≤ rm.locals) (hdg : decode cc pc = .ok (.invokestatic idx, 3)) (hq : pc + 3 = q) (k : Go G nL q (.int (if y < x then y else x) :: st) lv S) : Go G nL pc (.int y :: .int x :: st) lv S := by
  subst hq
  obtain ⟨-, -, -, -, -, -, -, -, -, -, hrm, -, -⟩ := id C
  subst hrm
  exact fun H locs ls hP hD hS hl => va_mmin C.1 C.2.1 (C.2.2.1.trans hl.1.symm) C.2.2.2.1 (C.2.2.2.2.1 _ hlink) (C.2.2.2.2.1 _ hstat) (C.2.2.2.2.1 _ hini) (C.2.2.2.2.1 _ hcode) hfr hlo (Nat.zero_le _) (Nat.zero_le _) hdg (k H locs ls hP hD hS hl)
end GoMath
