/-! ===== contracts of constructors ===== -/
def MetA (l : Launch) (y : MethodName) (ws : List Cond) (rm : Room) (sh : Nat → Nat × Nat) (n n' mc ms : Nat) (av : (Nat → Nat) → List Value) (S : St) (Q : St → Prop) : Prop :=
  ∀ (D : va_G) (cy : Nat → ClassId) (ad : Nat → Nat) (X : va_W) (sz : Nat), Met l y ws rm (va_Pc (av ad) (PreB D cy ad X sz sh n S))
    (va_Qv (fun u : (Nat → Nat) × St => (∀ i, i < n → u.1 i = ad i) ∧ Q u.2 ∧ IR n' u.2) (fun u t => va_P D vwCl (X ++ wl cy u.1 sh n' u.2) t.heap ∧ va_D (va_A (X ++ wl cy ad sh n S) sz) (X ++ wl cy u.1 sh n' u.2)) (va_A (X ++ wl cy ad sh n S) sz)) mc ms (va_A (X ++ wl cy ad sh n S) sz)
def QA (G : GC) (n n' mc ms : Nat) (Q : St → Prop) : Prop :=
  GQ G = MQ (Gb G) (va_Qv (fun u : (Nat → Nat) × St => (∀ i, i < n → u.1 i = Gad G i) ∧ Q u.2 ∧ IR n' u.2) (fun u t => va_P (GD G) vwCl (GX G ++ wl (Gcy G) u.1 (Gsh G) n' u.2) t.heap ∧ va_D (GA G) (GX G ++ wl (Gcy G) u.1 (Gsh G) n' u.2)) (GA G)) (Ga G) (Gs G) mc ms (GA G) ∧ (Gme G).name = "<init>"
theorem MetA_of {l : Launch} {y : MethodName} {rm : Room} {sh : Nat → Nat × Nat} {n n' mc ms : Nat} {av : (Nat → Nat) → List Value} {S : St} {Q : St → Prop} {cc : ByteArray} {maxL : Nat} {ret : Option FieldType}
    (hy : plainFor y = true) (hnm : y.name = "<init>") (hlen : ∀ ad, (lg_sl (av ad)).length ≤ maxL)
    (body : ∀ G : GC, Cx (gset G (Gad G) n 0 0) cc BIG y.cls maxL ret rm sh n → Gl G = l → QA G n n' mc ms Q → Go (gset G (Gad G) n 0 0) maxL 0 [] (lv_args 0 (av (Gad G))) S) : MetA l y (wB y cc maxL ret) rm sh n n' mc ms av S Q := by
  intro D cy ad X sz
  refine Met_ofWF (cc := cc) (maxL := maxL) (ret := ret) hy rfl ?_
  intro p e s m args below meth c s₁ B hml hv
  obtain ⟨rfl, hsz, hP, hK, hD0, hN⟩ := hv
  subst hsz
  rw [lg_entry_eq]
  exact body (p, l, e, rm, s, m, (av ad).toArray, below, meth, c, MQ below (va_Qv (fun u : (Nat → Nat) × St => (∀ i, i < n → u.1 i = ad i) ∧ Q u.2 ∧ IR n' u.2) (fun u t => va_P D vwCl (X ++ wl cy u.1 sh n' u.2) t.heap ∧ va_D (va_A (X ++ wl cy ad sh n S) s.heap.size) (X ++ wl cy u.1 sh n' u.2)) (va_A (X ++ wl cy ad sh n S) s.heap.size)) (av ad).toArray s mc ms (va_A (X ++ wl cy ad sh n S) s.heap.size), D, cy, ad, X, va_A (X ++ wl cy ad sh n S) s.heap.size, sh, n, 0, 0)
    ⟨B.exec, B.bytes, hml, findClass_of_methodNamed B.named, fun w h => atoms_spec (ws := wB y cc maxL ret) B.pre w (List.mem_cons_of_mem _ h), B.notSynchronized, B.returns, hK, fun _ h => Or.inr h, hN, rfl, rfl, rfl, Nat.zero_le _, Nat.zero_le _⟩ rfl ⟨rfl, (name_of_methodNamed B.named B.method).1.trans hnm⟩
    s.heap [] _ hP hD0.self va_S.rf (lv_entry (av ad) (hlen ad))
theorem okn {sh : Nat → Nat × Nat} {N n a kd len : Nat} (h : ok sh N a kd len) (h2 : a < n) : ok sh n a kd len := ⟨h2, h.2⟩
section GoMake2
variable {G : GC} {cc : ByteArray} {own : String} {nL : Nat} {ret : Option FieldType} {rm : Room} {sh : Nat → Nat × Nat} {n : Nat} {pc q : Nat} {stF : (Nat → Nat) → List Value} {lvF : (Nat → Nat) → List (Nat × Value)} {st st0 : List Value} {lv : List (Nat × Value)} {S : St}
/-- the end of a constructor, n0 cells at its start -/
theorem Go_retA {ad : Nat → Nat} {n0 n' k w mc ms : Nat} {Q : St → Prop} (C : Cx (gset G ad n' k w) cc BIG own nL none rm sh n') (hQ : QA G n0 n' mc ms Q) (hag : ∀ i, i < n0 → ad i = Gad G i) (hI : IR n' S) (hw : Q S) (hk : k ≤ mc) (hwm : w ≤ ms) (hdg : decode cc pc = .ok (.return_, 1)) : Go (gset G ad n' k w) nL pc [] lv S := by
  intro H locs ls hP hD hS hl
  show W (Gp G) (Gl G) (Ge G) (GRm G) (Gs G) (Gm G) (Ga G) (Gb G) (Gme G) (Gc G) H locs k w (GQ G) _
  rw [hQ.1]
  refine W.widen hk hwm ?_
  exact W.vret C.1 C.2.1 C.2.2.2.2.2.2.1 (fun t ht hW => ⟨⟨(ad, S), rfl, ⟨hag, hw, hI⟩, by rw [ht]; exact hP, hD⟩, hS.F ht⟩) hS.2.2 hdg C.2.2.2.2.2.1
/-- a final field of its own class is set in a constructor -/
theorem Go_putF (C : Cx G cc BIG own nL ret rm sh n) (hin2 : (Gme G).name = "<init>") {ci : Nat} {CN : String} {T : u_T} {NN : Nat} {ty : Nat → FieldType} (K : CI ci CN T NN ty) (hin : ∀ w ∈ u_ws CN T NN, w ∈ BIG) {o k v : Nat} (ho : ok sh n o ci 0) {index : Nat} (hk : (fkd ci)[k]? = some 2) (hlk : Cond.fieldLink own index CN (T k).2.1 (T k).2.2.1 ∈ BIG) (hT : (T k).1 = CN) (hown : (T k).1 = own) (hfin : (T k).2.2.2 = true) {fty : FieldType} (hd : parseFieldDescriptor (T k).2.2.1 = some fty) (hn : narrow fty (.ref (Gad G v)) = .ref (Gad G v)) (hfit : fits fty (.ref (Gad G v)) = true) (hdg : decode cc pc = .ok (.putfield index, 3)) (hq : pc + 3 = q) (kk : ∀ S1, S1 = sR S o k (some v) → Go G nL q st lv S1) : Go G nL pc (.ref (Gad G v) :: .ref (Gad G o) :: st) lv S := by
  subst hq
  have C' := C
  obtain ⟨-, -, -, -, -, -, -, -, -, -, -, hsh, hN, -, -⟩ := C'
  subst hsh; subst hN
  intro H locs ls hP hD hS hl
  have hc := wl_get (X := GX G) (cy := Gcy G) (ad := Gad G) (sh := Gsh G) (S := S) ho.1
  rw [cell_obj ho K.2.1] at hc
  have hkN : k < NN := by rw [← K.2.2.1]; exact (List.getElem?_eq_some_iff.mp hk).1
  have hlen : k < (obj (Gad G) S o (fkd ci)).length := (List.getElem?_eq_some_iff.mp (obj_get (ad := Gad G) (S := S) (a := o) hk)).1
  refine va_putF C.1 C.2.1 C.2.2.2.2.1 hin ty K.2.2.2.1 K.2.2.2.2 C.2.2.2.1 C.2.2.2.2.2.2.2.1 hP hD hS _ hc K.1 k hkN (C.2.2.2.2.1 _ hlk) (fun x h9 => by rw [hT] at h9; exact h9) hfin hin2 hown hd hn hfit hlen hdg (fun H1 locs1 hP1 hD1 hS1 => ?_)
  have hset : (Wd G S).set ((GX G).length + o) (Gad G o, Sum.inr (ci, (obj (Gad G) S o (fkd ci)).set k (.ref (Gad G v)))) = Wd G (sR S o k (some v)) := by
    refine wl_set ?_ (fun j hj => cell_sR hj)
    rw [cell_obj ho K.2.1]
    exact congrArg (fun z => Sum.inr (ci, z)) (obj_sR hk).symm
  rw [hset] at hP1 hD1
  exact kk _ rfl H1 locs1 ls hP1 hD1 hS1 hl
/-- a reference put into an array of Marks -/
theorem Go_aastore (C : Cx G cc BIG own nL ret rm sh n) {a len v : Nat} {i : Int32} (ho : ok sh n a 17 len) (hv : ok sh n v 5 0) (hin : vp_in i len) (hdg : decode cc pc = .ok (.aastore, 1)) (hq : pc + 1 = q) (kk : ∀ S1, S1 = sR S a i.toNatClampNeg (some v) → Go G nL q st lv S1) : Go G nL pc (.ref (Gad G v) :: .int i :: .ref (Gad G a) :: st) lv S := by
  subst hq
  have C' := C
  obtain ⟨-, -, -, -, -, -, -, -, -, -, -, hsh, hN, -, -⟩ := C'
  subst hsh; subst hN
  intro H locs ls hP hD hS hl
  have hc := wl_get (X := GX G) (cy := Gcy G) (ad := Gad G) (sh := Gsh G) (S := S) ho.1
  rw [cell_m ho] at hc
  have hc2 := wl_get (X := GX G) (cy := Gcy G) (ad := Gad G) (sh := Gsh G) (S := S) hv.1
  rw [cell_obj hv (by decide)] at hc2
  refine va_astq C.1 C.2.1 C.2.2.2.2.2.2.2.1 hP hD hS _ 4 _ 5 hc rfl hc2 rfl hin hdg (fun H1 locs1 hP1 hD1 hS1 => ?_)
  have hset : (Wd G S).set ((GX G).length + a) (Gad G a, Sum.inl (Gcy G 4, len, .inr (.inr (.inr (.inr (va_up (fun j => Option.map (Gad G) (gR S a j)) i.toNatClampNeg (some (Gad G v)))))))) = Wd G (sR S a i.toNatClampNeg (some v)) := by
    refine wl_set ?_ (fun j hj => cell_sR hj)
    rw [cell_m ho]
    refine congrArg (fun z : Nat → Option Nat => (Sum.inl (Gcy G 4, len, .inr (.inr (.inr (.inr z)))) : va_E)) ?_
    funext j
    by_cases hj : j = i.toNatClampNeg
    · simp [va_up, gR, sR, hj]
    · simp [va_up, gR, sR, hj]
  rw [hset] at hP1 hD1
  exact kk _ rfl H1 locs1 ls hP1 hD1 hS1 hl
theorem Go_callI_A (C : Cx G cc BIG own nL ret rm sh n) {y : MethodName} {rmy : Room} {o n' mc ms : Nat} {av : (Nat → Nat) → List Value} {Q1 : St → Prop} {bytes : ByteArray} {maxL idx n9 : Nat} (hM : MetA (Gl G) y (wB y bytes maxL none) rmy sh n n' mc ms (fun ad => .ref (ad o) :: av ad) S Q1)
    (hlk : Cond.methodLink own idx y ∈ BIG) (hini : Cond.initialized y.cls ∈ BIG) (hins : Cond.instanceMethod y ∈ BIG) (hcode : Cond.code y bytes maxL none ∈ BIG) (hnm : y.name = "<init>") (hd : y.cls ≠ "java/lang/invoke/MethodHandle" ∧ y.cls ≠ "java/lang/invoke/VarHandle" ∧ (parseMethodDescriptor y.desc).map (fun d => d.parameters.length) = some n9) (hr0 : rmy.cells = mc ∧ rmy.slots = ms) (hroom : rmy.frames + 1 ≤ rm.frames ∧ 8 + (maxL + 11) + rmy.locals ≤ rm.locals) (hlen : (av (Gad G)).length = n9) (hst : (av (Gad G)).reverse ++ .ref (Gad G o) :: st = st0) (hW : (st.map fun v => v.category).sum ≤ 8)
    (hstF : stF (Gad G) = st) (hs1 : ∀ ad, (∀ i, i < n → ad i = Gad G i) → stF ad = st) (hl1 : ∀ ad, (∀ i, i < n → ad i = Gad G i) → lvF ad = lv)
    (hk : Gk G + mc ≤ rm.cells) (hw : Gw G + ms ≤ rm.slots) (hdg : decode cc pc = .ok (.invokespecial idx, 3)) (hq : pc + 3 = q)
    (k : ∀ ad S', (∀ i, i < n → ad i = Gad G i) → Q1 S' → IR n' S' → Go (gset G ad n' (Gk G + mc) (Gw G + ms)) nL q (stF ad) (lvF ad) S') : Go G nL pc st0 lv S := by
  subst hq; subst hst
  have C' := C
  obtain ⟨-, -, -, -, -, -, -, -, -, -, hrm, hsh, hN, -, -⟩ := C'
  subst hsh; subst hN; subst hrm
  intro H locs ls hP hD hS hl
  have hA1 : ∀ q, va_A (Wd G S) H.size q → GA G q := inA (D := GD G) hD C.2.2.2.2.2.2.2.2.1 hS.1
  have pre : ∀ U : State, U.heap = H → (Gs G).WarmedH U.vm → va_Pc (Value.ref (Gad G o) :: av (Gad G)) (PreB (GD G) (Gcy G) (Gad G) (GX G) H.size (Gsh G) (GN G) S) (Value.ref (Gad G o) :: av (Gad G)).toArray U := fun U hU hW => ⟨rfl, by rw [hU], by rw [hU]; exact hP, va_K.moved hW.alike C.2.2.2.2.2.2.2.1, hD.weaken (fun _ _ _ _ => trivial), NW.warm hW C.2.2.2.2.2.2.2.2.2.1⟩
  refine va_callv (va_runI (As := av (Gad G)) (rest := st) ⟨C.1, C.2.1, C.2.2.1, C.2.2.2.1, C.2.2.2.2.1⟩ (hM (GD G) (Gcy G) (Gad G) (GX G) H.size) (cwI n9 C.2.2.2.2.1 (gdN hcode) rfl hr0.1 hr0.2 (C.2.2.2.2.1 _ hini) (C.2.2.2.2.1 _ hlk) (C.2.2.2.2.1 _ hins) hnm hd hroom) ⟨preB_blind, pre⟩ rfl hlen hl.1 rfl (lv_room hW) hdg ⟨hk, hw⟩) hS (fun q _ h => hA1 q h) hA1 (fun u t H1 locs1 ht hvm hw2 hB hz hk2 hS1 => ?_)
  obtain ⟨hag, hq1, hI1⟩ := hw2
  have hP1 := hB.1
  rw [ht] at hP1
  have h := k u.1 u.2 hag hq1 hI1 H1 locs1 ls hP1 (hB.2.weaken (fun k q hk h => hA1 _ h)) hS1 (by rw [hl1 _ hag]; exact hl)
  rw [hs1 _ hag] at h
  exact h
theorem Go_callIN_A (C : Cx G cc BIG own nL ret rm sh n) {y : MethodName} {rmy : Room} {o n' mc ms : Nat} {av : (Nat → Nat) → List Value} {Q1 : St → Prop} {bytes : ByteArray} {maxL idx n9 : Nat} (hM : MetA (Gl G) y (wB y bytes maxL none) rmy sh n n' mc ms (fun ad => .ref (ad o) :: av ad) S Q1)
    {host : String} (hnw : Cond.methodLinkNest own idx y host ∈ nwL) (hini : Cond.initialized y.cls ∈ BIG) (hins : Cond.instanceMethod y ∈ BIG) (hcode : Cond.code y bytes maxL none ∈ BIG) (hnm : y.name = "<init>") (hd : y.cls ≠ "java/lang/invoke/MethodHandle" ∧ y.cls ≠ "java/lang/invoke/VarHandle" ∧ (parseMethodDescriptor y.desc).map (fun d => d.parameters.length) = some n9) (hr0 : rmy.cells = mc ∧ rmy.slots = ms) (hroom : rmy.frames + 1 ≤ rm.frames ∧ 8 + (maxL + 11) + rmy.locals ≤ rm.locals) (hlen : (av (Gad G)).length = n9) (hst : (av (Gad G)).reverse ++ .ref (Gad G o) :: st = st0) (hW : (st.map fun v => v.category).sum ≤ 8)
    (hstF : stF (Gad G) = st) (hs1 : ∀ ad, (∀ i, i < n → ad i = Gad G i) → stF ad = st) (hl1 : ∀ ad, (∀ i, i < n → ad i = Gad G i) → lvF ad = lv)
    (hk : Gk G + mc ≤ rm.cells) (hw : Gw G + ms ≤ rm.slots) (hdg : decode cc pc = .ok (.invokespecial idx, 3)) (hq : pc + 3 = q)
    (k : ∀ ad S', (∀ i, i < n → ad i = Gad G i) → Q1 S' → IR n' S' → Go (gset G ad n' (Gk G + mc) (Gw G + ms)) nL q (stF ad) (lvF ad) S') : Go G nL pc st0 lv S := by
  subst hq; subst hst
  have C' := C
  obtain ⟨-, -, -, -, -, -, -, -, -, -, hrm, hsh, hN, -, -⟩ := C'
  subst hsh; subst hN; subst hrm
  intro H locs ls hP hD hS hl
  have hA1 : ∀ q, va_A (Wd G S) H.size q → GA G q := inA (D := GD G) hD C.2.2.2.2.2.2.2.2.1 hS.1
  have pre : ∀ U : State, U.heap = H → (Gs G).WarmedH U.vm → va_Pc (Value.ref (Gad G o) :: av (Gad G)) (PreB (GD G) (Gcy G) (Gad G) (GX G) H.size (Gsh G) (GN G) S) (Value.ref (Gad G o) :: av (Gad G)).toArray U := fun U hU hW => ⟨rfl, by rw [hU], by rw [hU]; exact hP, va_K.moved hW.alike C.2.2.2.2.2.2.2.1, hD.weaken (fun _ _ _ _ => trivial), NW.warm hW C.2.2.2.2.2.2.2.2.2.1⟩
  refine va_callv (va_runIN (As := av (Gad G)) (rest := st) ⟨C.1, C.2.1, C.2.2.1, C.2.2.2.1, C.2.2.2.2.1⟩ (hM (GD G) (Gcy G) (Gad G) (GX G) H.size) (⟨va_cnB n9 C.2.2.2.2.1 (gdN hcode) rfl hr0.1 hr0.2 (C.2.2.2.2.2.2.2.2.2.1 _ hnw) (C.2.2.2.2.1 _ hini) hd hroom, hnm, C.2.2.2.2.1 _ hins⟩) ⟨preB_blind, pre⟩ rfl hlen hl.1 rfl (lv_room hW) hdg ⟨hk, hw⟩) hS (fun q _ h => hA1 q h) hA1 (fun u t H1 locs1 ht hvm hw2 hB hz hk2 hS1 => ?_)
  obtain ⟨hag, hq1, hI1⟩ := hw2
  have hP1 := hB.1
  rw [ht] at hP1
  have h := k u.1 u.2 hag hq1 hI1 H1 locs1 ls hP1 (hB.2.weaken (fun k q hk h => hA1 _ h)) hS1 (by rw [hl1 _ hag]; exact hl)
  rw [hs1 _ hag] at h
  exact h
end GoMake2
