/-! ===== contracts of methods in my words: from what the walk of the body shows (MetI_of ..), and what a call of one gives (Go_call ..) ===== -/
abbrev wB (y : MethodName) (cc : ByteArray) (n : Nat) (ret : Option FieldType) : List Cond := Cond.code y cc n ret :: BIG
theorem bgo {w : Cond} (h : w ∈ BIG) : w ∈ BIG ∧ ((w.onTables && w.keeps) = true ∨ ∃ ty, w = .arrayClass ty) := ⟨h, good_of_word (BIG_good w h)⟩
theorem gdN {y : MethodName} {cc : ByteArray} {n : Nat} {ret : Option FieldType} (h5 : Cond.code y cc n ret ∈ BIG) : GoodIn BIG (wB y cc n ret) := fun w hw => bgo (by
  rcases List.mem_cons.mp hw with rfl | hw
  · exact h5
  · exact hw)
theorem gdV {own CN : String} {idx : Nat} {y : MethodName} {cc : ByteArray} {n : Nat} {ret : Option FieldType} (h1 : Cond.methodLink own idx y ∈ BIG) (h2 : Cond.instanceMethod y ∈ BIG) (h3 : Cond.selects CN y y ∈ BIG) (h4 : Cond.initialized CN ∈ BIG) (h5 : Cond.code y cc n ret ∈ BIG) : GoodIn BIG (wsV own idx CN y (wB y cc n ret)) := fun w hw => by
  rcases List.mem_append.mp hw with hw | hw
  · refine bgo ?_
    rcases List.mem_cons.mp hw with rfl | hw
    · exact h1
    rcases List.mem_cons.mp hw with rfl | hw
    · exact h2
    rcases List.mem_cons.mp hw with rfl | hw
    · exact h3
    rcases List.mem_cons.mp hw with rfl | hw
    · exact h4
    exact absurd hw List.not_mem_nil
  · exact gdN h5 w hw
theorem gdS {own : String} {idx : Nat} {y : MethodName} {cc : ByteArray} {n : Nat} {ret : Option FieldType} (h1 : Cond.methodLink own idx y ∈ BIG) (h2 : Cond.static y ∈ BIG) (h4 : Cond.initialized y.cls ∈ BIG) (h5 : Cond.code y cc n ret ∈ BIG) : GoodIn BIG (va_wsS own idx y (wB y cc n ret)) := fun w hw => by
  rcases List.mem_append.mp hw with hw | hw
  · refine bgo ?_
    rcases List.mem_cons.mp hw with rfl | hw
    · exact h1
    rcases List.mem_cons.mp hw with rfl | hw
    · exact h2
    rcases List.mem_cons.mp hw with rfl | hw
    · exact h4
    exact absurd hw List.not_mem_nil
  · exact gdN h5 w hw
abbrev PreB (D : va_G) (cy : Nat → ClassId) (ad : Nat → Nat) (X : va_W) (sz : Nat) (sh : Nat → Nat × Nat) (N : Nat) (S : St) : State → Prop := fun U => U.heap.size = sz ∧ va_P D vwCl (X ++ wl cy ad sh N S) U.heap ∧ va_K D vwCl (tysOf cy) U ∧ va_D (fun _ => True) (X ++ wl cy ad sh N S) ∧ NW U
abbrev PostB (D : va_G) (cy : Nat → ClassId) (ad : Nat → Nat) (X : va_W) (sh : Nat → Nat × Nat) (N : Nat) (RC : St → Prop) : St → State → Prop := fun S' t => va_P D vwCl (X ++ wl cy ad sh N S') t.heap ∧ RC S'
theorem preB_blind {av : List Value} {D : va_G} {cy : Nat → ClassId} {ad : Nat → Nat} {X : va_W} {sz : Nat} {sh : Nat → Nat × Nat} {N : Nat} {S : St} : FrameBlind (va_Pc av (PreB D cy ad X sz sh N S)) :=
  fun a U g mk q => by
    obtain ⟨q0, q1, q2, q3, q4, q5⟩ := q
    exact ⟨q0, q1, q2, va_K.moved (u := U) (U := U.calling g mk a) (Vm.Alike.refl U.vm) q3, q4, NW.same (s := U) (U := U.calling g mk a) rfl q5⟩
theorem Met_ofWF {l : Launch} {y : MethodName} {ws ws' : List Cond} {rm : Room} {Pc : Array Value → State → Prop} {Qc : Array Value → State → Outcome → State → Prop} {mc ms : Nat} {free : Addr → Prop} {cc : ByteArray} {maxL : Nat} {ret : Option FieldType}
    (hy : plainFor y = true) (hw : ws = Cond.code y cc maxL ret :: ws')
    (body : ∀ p e s m args below meth c s₁, BodyLoose p l y (headSpec ws rm) cc maxL ret e s m args below meth c s₁ → c.maxLocals = maxL → Pc args s →
      W p l e (headSpec ws rm).room s m args below meth c s.heap [] 0 0 (MQ below Qc args s mc ms free) (entryFrame m args maxL)) : Met l y ws rm Pc Qc mc ms free := by
  refine MetFree.of_bodySF (code := cc) (maxLocals := maxL) (ret := ret) hy ?_ ?_
  · intro args s m h hn
    obtain ⟨meth, c, h1, h2, h3, h4, h5, h6, -, -⟩ := Cond.code_spec hn (atoms_spec (ws := ws) h _ (by rw [hw]; exact List.mem_cons_self))
    exact ⟨meth, c, h1, h2, h3, h4, h5, h6⟩
  · intro p e s m args below meth c s₁ B hml hP _
    have hh0 : s₁.heap = s.heap := by rw [B.state]; rfl
    obtain ⟨t, a1, o, b1, b2, b3⟩ := body p e s m args below meth c s₁ B hml hP s₁ hh0 (Stand.of_body B)
    exact ⟨t, o, a1, b1, b2, ⟨b3.1, b3.2⟩⟩
def va_QO {S : Type} (ad : Nat → Nat) (post : Option Nat → S → Prop) (B : S → State → Prop) (A : Nat → Prop) : Array Value → State → Outcome → State → Prop := fun a st oc t => va_Qq (fun r u => ∃ o : Option Nat, r = o.map ad ∧ post o u) B A a st oc t
def MetI (l : Launch) (y : MethodName) (ws : List Cond) (rm : Room) (sh : Nat → Nat × Nat) (N : Nat) (RC : St → Prop) (av : (Nat → Nat) → List Value) (S : St) (Q : Int32 → St → Prop) : Prop :=
  ∀ (D : va_G) (cy : Nat → ClassId) (ad : Nat → Nat) (X : va_W) (sz : Nat), Met l y ws rm (va_Pc (av ad) (PreB D cy ad X sz sh N S))
    (va_Qi Q (PostB D cy ad X sh N RC) (va_A (X ++ wl cy ad sh N S) sz)) 0 0 (va_A (X ++ wl cy ad sh N S) sz)
def QI (G : GC) (RC : St → Prop) (Q : Int32 → St → Prop) : Prop :=
  GQ G = MQ (Gb G) (va_Qi Q (fun S' t => va_P (GD G) vwCl (Wd G S') t.heap ∧ RC S') (GA G)) (Ga G) (Gs G) 0 0 (GA G) ∧ Gk G = 0 ∧ Gw G = 0
theorem MetI_of {l : Launch} {y : MethodName} {rm : Room} {sh : Nat → Nat × Nat} {N : Nat} {RC : St → Prop} {av : (Nat → Nat) → List Value} {S : St} {Q : Int32 → St → Prop} {cc : ByteArray} {maxL : Nat} {ret : Option FieldType}
    (hy : plainFor y = true) (hlen : ∀ ad, (lg_sl (av ad)).length ≤ maxL)
    (body : ∀ G : GC, Cx G cc BIG y.cls maxL ret rm sh N → Gl G = l → QI G RC Q → Go G maxL 0 [] (lv_args 0 (av (Gad G))) S) : MetI l y (wB y cc maxL ret) rm sh N RC av S Q := by
  intro D cy ad X sz
  refine Met_ofWF (cc := cc) (maxL := maxL) (ret := ret) hy rfl ?_
  intro p e s m args below meth c s₁ B hml hv
  obtain ⟨rfl, hsz, hP, hK, hD0, hN⟩ := hv
  subst hsz
  rw [lg_entry_eq]
  exact body (p, l, e, rm, s, m, (av ad).toArray, below, meth, c, MQ below (va_Qi Q (PostB D cy ad X sh N RC) (va_A (X ++ wl cy ad sh N S) s.heap.size)) (av ad).toArray s 0 0 (va_A (X ++ wl cy ad sh N S) s.heap.size), D, cy, ad, X, va_A (X ++ wl cy ad sh N S) s.heap.size, sh, N, 0, 0)
    ⟨B.exec, B.bytes, hml, findClass_of_methodNamed B.named, fun w h => atoms_spec (ws := wB y cc maxL ret) B.pre w (List.mem_cons_of_mem _ h), B.notSynchronized, B.returns, hK, fun _ h => Or.inr h, hN, rfl, rfl, rfl, Nat.zero_le _, Nat.zero_le _⟩ rfl ⟨rfl, rfl, rfl⟩
    s.heap [] _ hP hD0.self va_S.rf (lv_entry (av ad) (hlen ad))
def MetL (l : Launch) (y : MethodName) (ws : List Cond) (rm : Room) (sh : Nat → Nat × Nat) (N : Nat) (RC : St → Prop) (av : (Nat → Nat) → List Value) (S : St) (Q : Int64 → St → Prop) : Prop :=
  ∀ (D : va_G) (cy : Nat → ClassId) (ad : Nat → Nat) (X : va_W) (sz : Nat), Met l y ws rm (va_Pc (av ad) (PreB D cy ad X sz sh N S))
    (va_Ql Q (PostB D cy ad X sh N RC) (va_A (X ++ wl cy ad sh N S) sz)) 0 0 (va_A (X ++ wl cy ad sh N S) sz)
def QL (G : GC) (RC : St → Prop) (Q : Int64 → St → Prop) : Prop :=
  GQ G = MQ (Gb G) (va_Ql Q (fun S' t => va_P (GD G) vwCl (Wd G S') t.heap ∧ RC S') (GA G)) (Ga G) (Gs G) 0 0 (GA G) ∧ Gk G = 0 ∧ Gw G = 0
theorem MetL_of {l : Launch} {y : MethodName} {rm : Room} {sh : Nat → Nat × Nat} {N : Nat} {RC : St → Prop} {av : (Nat → Nat) → List Value} {S : St} {Q : Int64 → St → Prop} {cc : ByteArray} {maxL : Nat} {ret : Option FieldType}
    (hy : plainFor y = true) (hlen : ∀ ad, (lg_sl (av ad)).length ≤ maxL)
    (body : ∀ G : GC, Cx G cc BIG y.cls maxL ret rm sh N → Gl G = l → QL G RC Q → Go G maxL 0 [] (lv_args 0 (av (Gad G))) S) : MetL l y (wB y cc maxL ret) rm sh N RC av S Q := by
  intro D cy ad X sz
  refine Met_ofWF (cc := cc) (maxL := maxL) (ret := ret) hy rfl ?_
  intro p e s m args below meth c s₁ B hml hv
  obtain ⟨rfl, hsz, hP, hK, hD0, hN⟩ := hv
  subst hsz
  rw [lg_entry_eq]
  exact body (p, l, e, rm, s, m, (av ad).toArray, below, meth, c, MQ below (va_Ql Q (PostB D cy ad X sh N RC) (va_A (X ++ wl cy ad sh N S) s.heap.size)) (av ad).toArray s 0 0 (va_A (X ++ wl cy ad sh N S) s.heap.size), D, cy, ad, X, va_A (X ++ wl cy ad sh N S) s.heap.size, sh, N, 0, 0)
    ⟨B.exec, B.bytes, hml, findClass_of_methodNamed B.named, fun w h => atoms_spec (ws := wB y cc maxL ret) B.pre w (List.mem_cons_of_mem _ h), B.notSynchronized, B.returns, hK, fun _ h => Or.inr h, hN, rfl, rfl, rfl, Nat.zero_le _, Nat.zero_le _⟩ rfl ⟨rfl, rfl, rfl⟩
    s.heap [] _ hP hD0.self va_S.rf (lv_entry (av ad) (hlen ad))
def MetV (l : Launch) (y : MethodName) (ws : List Cond) (rm : Room) (sh : Nat → Nat × Nat) (N : Nat) (RC : St → Prop) (av : (Nat → Nat) → List Value) (S : St) (Q : St → Prop) : Prop :=
  ∀ (D : va_G) (cy : Nat → ClassId) (ad : Nat → Nat) (X : va_W) (sz : Nat), Met l y ws rm (va_Pc (av ad) (PreB D cy ad X sz sh N S))
    (va_Qv Q (PostB D cy ad X sh N RC) (va_A (X ++ wl cy ad sh N S) sz)) 0 0 (va_A (X ++ wl cy ad sh N S) sz)
def QV (G : GC) (RC : St → Prop) (Q : St → Prop) : Prop :=
  GQ G = MQ (Gb G) (va_Qv Q (fun S' t => va_P (GD G) vwCl (Wd G S') t.heap ∧ RC S') (GA G)) (Ga G) (Gs G) 0 0 (GA G) ∧ Gk G = 0 ∧ Gw G = 0
theorem MetV_of {l : Launch} {y : MethodName} {rm : Room} {sh : Nat → Nat × Nat} {N : Nat} {RC : St → Prop} {av : (Nat → Nat) → List Value} {S : St} {Q : St → Prop} {cc : ByteArray} {maxL : Nat} {ret : Option FieldType}
    (hy : plainFor y = true) (hlen : ∀ ad, (lg_sl (av ad)).length ≤ maxL)
    (body : ∀ G : GC, Cx G cc BIG y.cls maxL ret rm sh N → Gl G = l → QV G RC Q → Go G maxL 0 [] (lv_args 0 (av (Gad G))) S) : MetV l y (wB y cc maxL ret) rm sh N RC av S Q := by
  intro D cy ad X sz
  refine Met_ofWF (cc := cc) (maxL := maxL) (ret := ret) hy rfl ?_
  intro p e s m args below meth c s₁ B hml hv
  obtain ⟨rfl, hsz, hP, hK, hD0, hN⟩ := hv
  subst hsz
  rw [lg_entry_eq]
  exact body (p, l, e, rm, s, m, (av ad).toArray, below, meth, c, MQ below (va_Qv Q (PostB D cy ad X sh N RC) (va_A (X ++ wl cy ad sh N S) s.heap.size)) (av ad).toArray s 0 0 (va_A (X ++ wl cy ad sh N S) s.heap.size), D, cy, ad, X, va_A (X ++ wl cy ad sh N S) s.heap.size, sh, N, 0, 0)
    ⟨B.exec, B.bytes, hml, findClass_of_methodNamed B.named, fun w h => atoms_spec (ws := wB y cc maxL ret) B.pre w (List.mem_cons_of_mem _ h), B.notSynchronized, B.returns, hK, fun _ h => Or.inr h, hN, rfl, rfl, rfl, Nat.zero_le _, Nat.zero_le _⟩ rfl ⟨rfl, rfl, rfl⟩
    s.heap [] _ hP hD0.self va_S.rf (lv_entry (av ad) (hlen ad))
def MetO (l : Launch) (y : MethodName) (ws : List Cond) (rm : Room) (sh : Nat → Nat × Nat) (N : Nat) (RC : St → Prop) (av : (Nat → Nat) → List Value) (S : St) (Q : Option Nat → St → Prop) : Prop :=
  ∀ (D : va_G) (cy : Nat → ClassId) (ad : Nat → Nat) (X : va_W) (sz : Nat), Met l y ws rm (va_Pc (av ad) (PreB D cy ad X sz sh N S))
    (va_QO ad Q (PostB D cy ad X sh N RC) (va_A (X ++ wl cy ad sh N S) sz)) 0 0 (va_A (X ++ wl cy ad sh N S) sz)
def QO (G : GC) (RC : St → Prop) (Q : Option Nat → St → Prop) : Prop :=
  GQ G = MQ (Gb G) (va_QO (Gad G) Q (fun S' t => va_P (GD G) vwCl (Wd G S') t.heap ∧ RC S') (GA G)) (Ga G) (Gs G) 0 0 (GA G) ∧ Gk G = 0 ∧ Gw G = 0
theorem MetO_of {l : Launch} {y : MethodName} {rm : Room} {sh : Nat → Nat × Nat} {N : Nat} {RC : St → Prop} {av : (Nat → Nat) → List Value} {S : St} {Q : Option Nat → St → Prop} {cc : ByteArray} {maxL : Nat} {ret : Option FieldType}
    (hy : plainFor y = true) (hlen : ∀ ad, (lg_sl (av ad)).length ≤ maxL)
    (body : ∀ G : GC, Cx G cc BIG y.cls maxL ret rm sh N → Gl G = l → QO G RC Q → Go G maxL 0 [] (lv_args 0 (av (Gad G))) S) : MetO l y (wB y cc maxL ret) rm sh N RC av S Q := by
  intro D cy ad X sz
  refine Met_ofWF (cc := cc) (maxL := maxL) (ret := ret) hy rfl ?_
  intro p e s m args below meth c s₁ B hml hv
  obtain ⟨rfl, hsz, hP, hK, hD0, hN⟩ := hv
  subst hsz
  rw [lg_entry_eq]
  exact body (p, l, e, rm, s, m, (av ad).toArray, below, meth, c, MQ below (va_QO ad Q (PostB D cy ad X sh N RC) (va_A (X ++ wl cy ad sh N S) s.heap.size)) (av ad).toArray s 0 0 (va_A (X ++ wl cy ad sh N S) s.heap.size), D, cy, ad, X, va_A (X ++ wl cy ad sh N S) s.heap.size, sh, N, 0, 0)
    ⟨B.exec, B.bytes, hml, findClass_of_methodNamed B.named, fun w h => atoms_spec (ws := wB y cc maxL ret) B.pre w (List.mem_cons_of_mem _ h), B.notSynchronized, B.returns, hK, fun _ h => Or.inr h, hN, rfl, rfl, rfl, Nat.zero_le _, Nat.zero_le _⟩ rfl ⟨rfl, rfl, rfl⟩
    s.heap [] _ hP hD0.self va_S.rf (lv_entry (av ad) (hlen ad))
section GoCalls
variable {G : GC} {cc : ByteArray} {own : String} {nL : Nat} {ret : Option FieldType} {rm : Room} {sh : Nat → Nat × Nat} {N : Nat} {pc q : Nat} {st st0 : List Value} {lv lv' : List (Nat × Value)} {S : St} {RC : St → Prop}
theorem Go_iret (C : Cx G cc BIG own nL (some .int) rm sh N) {Q : Int32 → St → Prop} (hQ : QI G RC Q) {v : Int32} (hR : RC S) (hw : Q v S) (hdg : decode cc pc = .ok (.ireturn, 1)) : Go G nL pc [.int v] lv S := by
  intro H locs ls hP hD hS hl
  obtain ⟨hQ1, hQ2, hQ3⟩ := hQ
  rw [hQ1, hQ2, hQ3]
  exact W.iret (v := v) C.1 C.2.1 C.2.2.2.2.2.2.1 (fun t ht hW => ⟨⟨v, S, rfl, hw, by rw [ht]; exact hP, hR⟩, hS.F ht⟩) hS.2.2 hdg C.2.2.2.2.2.1
theorem Go_zret (C : Cx G cc BIG own nL (some .boolean) rm sh N) {Q : Int32 → St → Prop} (hQ : QI G RC Q) {v : Int32} (hR : RC S) (hn : narrow .boolean (.int v) = .int v) (hw : Q v S) (hdg : decode cc pc = .ok (.ireturn, 1)) : Go G nL pc [.int v] lv S := by
  intro H locs ls hP hD hS hl
  obtain ⟨hQ1, hQ2, hQ3⟩ := hQ
  rw [hQ1, hQ2, hQ3]
  exact W.zret (v := v) C.1 C.2.1 C.2.2.2.2.2.2.1 hn (fun t ht hW => ⟨⟨v, S, rfl, hw, by rw [ht]; exact hP, hR⟩, hS.F ht⟩) hS.2.2 hdg C.2.2.2.2.2.1
theorem Go_lret (C : Cx G cc BIG own nL (some .long) rm sh N) {Q : Int64 → St → Prop} (hQ : QL G RC Q) {v : Int64} (hR : RC S) (hw : Q v S) (hdg : decode cc pc = .ok (.lreturn, 1)) : Go G nL pc [.long v] lv S := by
  intro H locs ls hP hD hS hl
  obtain ⟨hQ1, hQ2, hQ3⟩ := hQ
  rw [hQ1, hQ2, hQ3]
  exact W.lret (v := v) C.1 C.2.1 C.2.2.2.2.2.2.1 (fun t ht hW => ⟨⟨v, S, rfl, hw, by rw [ht]; exact hP, hR⟩, hS.F ht⟩) hS.2.2 hdg C.2.2.2.2.2.1
theorem Go_vret (C : Cx G cc BIG own nL none rm sh N) {Q : St → Prop} (hQ : QV G RC Q) (hR : RC S) (hw : Q S) (hdg : decode cc pc = .ok (.return_, 1)) : Go G nL pc [] lv S := by
  intro H locs ls hP hD hS hl
  obtain ⟨hQ1, hQ2, hQ3⟩ := hQ
  rw [hQ1, hQ2, hQ3]
  exact W.vret C.1 C.2.1 C.2.2.2.2.2.2.1 (fun t ht hW => ⟨⟨S, rfl, hw, by rw [ht]; exact hP, hR⟩, hS.F ht⟩) hS.2.2 hdg C.2.2.2.2.2.1
theorem Go_oret {cn : String} (C : Cx G cc BIG own nL (some (.object cn)) rm sh N) {Q : Option Nat → St → Prop} (hQ : QO G RC Q) {v : Option Nat} (hR : RC S) (hw : Q v S) (hdg : decode cc pc = .ok (.areturn, 1)) : Go G nL pc [va_rf (v.map (Gad G))] lv S := by
  intro H locs ls hP hD hS hl
  obtain ⟨hQ1, hQ2, hQ3⟩ := hQ
  rw [hQ1, hQ2, hQ3]
  refine W.aret (v := va_rf (v.map (Gad G))) C.1 C.2.1 C.2.2.2.2.2.2.1 (Or.inl ⟨_, rfl⟩) ?_ (fun t ht hW => ⟨⟨v.map (Gad G), S, rfl, ⟨v, rfl, hw⟩, by rw [ht]; exact hP, hR⟩, hS.F ht⟩) hS.2.2 hdg C.2.2.2.2.2.1
  cases v with
  | none => exact Or.inl rfl
  | some a => exact Or.inr ⟨_, rfl⟩
theorem zf {v : Int32} (h : v = 0 ∨ v = 1) : fits .boolean (.int v) = true := by rcases h with rfl | rfl <;> rfl
theorem zb {v : Int32} (h : v = 0 ∨ v = 1) : narrow .boolean (.int v) = .int v := by rcases h with rfl | rfl <;> rfl
theorem inA {D : va_G} {A : Nat → Prop} {w : va_W} {H0 H : Heap} (hD : va_D A w) (hA : ∀ q, H0.size ≤ q → A q) (hz : H0.size ≤ H.size) : ∀ q, va_A w H.size q → A q := by
  intro q hq
  rcases hq with ⟨k, e, hk⟩ | hq
  · exact hD.2 k _ hk
  · exact hA q (Nat.le_trans hz hq)
theorem Go_callV_I (C : Cx G cc BIG own nL ret rm sh N) {y : MethodName} {rmy : Room} {av : (Nat → Nat) → List Value} {Q1 : Int32 → St → Prop} {bytes : ByteArray} {maxL idx n : Nat} {rty : Option FieldType} {ci o : Nat} {CN : String} {T : u_T} {NN : Nat} (ho : ok sh N o ci 0) (hci : vwCl[ci]? = some (CN, T, NN)) (hc13 : ci < 13) (hM : MetI (Gl G) y (wB y bytes maxL rty) rmy sh N RC (fun ad => .ref (ad o) :: av ad) S Q1)
    (hlk : Cond.methodLink own idx y ∈ BIG) (hini : Cond.initialized CN ∈ BIG) (hins : Cond.instanceMethod y ∈ BIG) (hsel : Cond.selects CN y y ∈ BIG) (hcode : Cond.code y bytes maxL rty ∈ BIG) (hd : y.cls = CN ∧ y.cls ≠ "java/lang/invoke/MethodHandle" ∧ y.cls ≠ "java/lang/invoke/VarHandle" ∧ (parseMethodDescriptor y.desc).map (fun d => d.parameters.length) = some n) (hr0 : rmy.cells = 0 ∧ rmy.slots = 0) (hroom : rmy.frames + 1 ≤ rm.frames ∧ 8 + (maxL + 11) + rmy.locals ≤ rm.locals) (hlen : (av (Gad G)).length = n) (hst : (av (Gad G)).reverse ++ .ref (Gad G o) :: st = st0) (hW : (st.map fun v => v.category).sum ≤ 8) (hdg : decode cc pc = .ok (.invokevirtual idx, 3)) (hq : pc + 3 = q)
    (k : ∀ r S', Q1 r S' → RC S' → Go G nL q (.int r :: st) lv S') : Go G nL pc st0 lv S := by
  subst hq; subst hst
  obtain ⟨-, -, -, -, -, -, -, -, -, -, hrm, hsh, hN, hk9, hw9⟩ := id C
  subst hsh; subst hN; subst hrm
  intro H locs ls hP hD hS hl
  have hc := wl_get (X := GX G) (cy := Gcy G) (ad := Gad G) (sh := Gsh G) (S := S) ho.1
  rw [cell_obj ho hc13] at hc
  have hA1 : ∀ q, va_A (Wd G S) H.size q → GA G q := inA (D := GD G) hD C.2.2.2.2.2.2.2.2.1 hS.1
  have pre : ∀ U : State, U.heap = H → (Gs G).WarmedH U.vm → va_Pc (Value.ref (Gad G o) :: av (Gad G)) (PreB (GD G) (Gcy G) (Gad G) (GX G) H.size (Gsh G) (GN G) S) (Value.ref (Gad G o) :: av (Gad G)).toArray U := fun U hU hW => ⟨rfl, by rw [hU], by rw [hU]; exact hP, va_K.moved hW.alike C.2.2.2.2.2.2.2.1, hD.weaken (fun _ _ _ _ => trivial), NW.warm hW C.2.2.2.2.2.2.2.2.2.1⟩
  refine va_calli (va_runV (As := av (Gad G)) (rest := st) ⟨C.1, C.2.1, C.2.2.1, C.2.2.2.1, C.2.2.2.2.1⟩ (hM (GD G) (Gcy G) (Gad G) (GX G) H.size) (cwV n C.2.2.2.2.1 (gdV hlk hins hsel hini hcode) rfl hr0.1 hr0.2 hd hroom) ⟨preB_blind, va_recv C.2.2.2.2.2.2.2.1 hP (ci := ci) (q0 := (GX G).length + o) hci hc, pre⟩ rfl hlen hl.1 rfl (lv_room hW) hdg ⟨hk9, hw9⟩) hS (fun q _ h => hA1 q h) hA1 (fun r u t H1 locs1 ht hvm hw hB hz hk hS1 => ?_)
  have hP1 := hB.1
  rw [ht] at hP1
  exact k r u hw hB.2 H1 locs1 ls hP1 (va_D_wl hD) hS1 hl
theorem Go_callV_L (C : Cx G cc BIG own nL ret rm sh N) {y : MethodName} {rmy : Room} {av : (Nat → Nat) → List Value} {Q1 : Int64 → St → Prop} {bytes : ByteArray} {maxL idx n : Nat} {rty : Option FieldType} {ci o : Nat} {CN : String} {T : u_T} {NN : Nat} (ho : ok sh N o ci 0) (hci : vwCl[ci]? = some (CN, T, NN)) (hc13 : ci < 13) (hM : MetL (Gl G) y (wB y bytes maxL rty) rmy sh N RC (fun ad => .ref (ad o) :: av ad) S Q1)
    (hlk : Cond.methodLink own idx y ∈ BIG) (hini : Cond.initialized CN ∈ BIG) (hins : Cond.instanceMethod y ∈ BIG) (hsel : Cond.selects CN y y ∈ BIG) (hcode : Cond.code y bytes maxL rty ∈ BIG) (hd : y.cls = CN ∧ y.cls ≠ "java/lang/invoke/MethodHandle" ∧ y.cls ≠ "java/lang/invoke/VarHandle" ∧ (parseMethodDescriptor y.desc).map (fun d => d.parameters.length) = some n) (hr0 : rmy.cells = 0 ∧ rmy.slots = 0) (hroom : rmy.frames + 1 ≤ rm.frames ∧ 8 + (maxL + 11) + rmy.locals ≤ rm.locals) (hlen : (av (Gad G)).length = n) (hst : (av (Gad G)).reverse ++ .ref (Gad G o) :: st = st0) (hW : (st.map fun v => v.category).sum ≤ 8) (hdg : decode cc pc = .ok (.invokevirtual idx, 3)) (hq : pc + 3 = q)
    (k : ∀ r S', Q1 r S' → RC S' → Go G nL q (.long r :: st) lv S') : Go G nL pc st0 lv S := by
  subst hq; subst hst
  obtain ⟨-, -, -, -, -, -, -, -, -, -, hrm, hsh, hN, hk9, hw9⟩ := id C
  subst hsh; subst hN; subst hrm
  intro H locs ls hP hD hS hl
  have hc := wl_get (X := GX G) (cy := Gcy G) (ad := Gad G) (sh := Gsh G) (S := S) ho.1
  rw [cell_obj ho hc13] at hc
  have hA1 : ∀ q, va_A (Wd G S) H.size q → GA G q := inA (D := GD G) hD C.2.2.2.2.2.2.2.2.1 hS.1
  have pre : ∀ U : State, U.heap = H → (Gs G).WarmedH U.vm → va_Pc (Value.ref (Gad G o) :: av (Gad G)) (PreB (GD G) (Gcy G) (Gad G) (GX G) H.size (Gsh G) (GN G) S) (Value.ref (Gad G o) :: av (Gad G)).toArray U := fun U hU hW => ⟨rfl, by rw [hU], by rw [hU]; exact hP, va_K.moved hW.alike C.2.2.2.2.2.2.2.1, hD.weaken (fun _ _ _ _ => trivial), NW.warm hW C.2.2.2.2.2.2.2.2.2.1⟩
  refine va_calll (va_runV (As := av (Gad G)) (rest := st) ⟨C.1, C.2.1, C.2.2.1, C.2.2.2.1, C.2.2.2.2.1⟩ (hM (GD G) (Gcy G) (Gad G) (GX G) H.size) (cwV n C.2.2.2.2.1 (gdV hlk hins hsel hini hcode) rfl hr0.1 hr0.2 hd hroom) ⟨preB_blind, va_recv C.2.2.2.2.2.2.2.1 hP (ci := ci) (q0 := (GX G).length + o) hci hc, pre⟩ rfl hlen hl.1 rfl (lv_room hW) hdg ⟨hk9, hw9⟩) hS (fun q _ h => hA1 q h) hA1 (fun r u t H1 locs1 ht hvm hw hB hz hk hS1 => ?_)
  have hP1 := hB.1
  rw [ht] at hP1
  exact k r u hw hB.2 H1 locs1 ls hP1 (va_D_wl hD) hS1 hl
theorem Go_callV_V (C : Cx G cc BIG own nL ret rm sh N) {y : MethodName} {rmy : Room} {av : (Nat → Nat) → List Value} {Q1 : St → Prop} {bytes : ByteArray} {maxL idx n : Nat} {rty : Option FieldType} {ci o : Nat} {CN : String} {T : u_T} {NN : Nat} (ho : ok sh N o ci 0) (hci : vwCl[ci]? = some (CN, T, NN)) (hc13 : ci < 13) (hM : MetV (Gl G) y (wB y bytes maxL rty) rmy sh N RC (fun ad => .ref (ad o) :: av ad) S Q1)
    (hlk : Cond.methodLink own idx y ∈ BIG) (hini : Cond.initialized CN ∈ BIG) (hins : Cond.instanceMethod y ∈ BIG) (hsel : Cond.selects CN y y ∈ BIG) (hcode : Cond.code y bytes maxL rty ∈ BIG) (hd : y.cls = CN ∧ y.cls ≠ "java/lang/invoke/MethodHandle" ∧ y.cls ≠ "java/lang/invoke/VarHandle" ∧ (parseMethodDescriptor y.desc).map (fun d => d.parameters.length) = some n) (hr0 : rmy.cells = 0 ∧ rmy.slots = 0) (hroom : rmy.frames + 1 ≤ rm.frames ∧ 8 + (maxL + 11) + rmy.locals ≤ rm.locals) (hlen : (av (Gad G)).length = n) (hst : (av (Gad G)).reverse ++ .ref (Gad G o) :: st = st0) (hW : (st.map fun v => v.category).sum ≤ 8) (hdg : decode cc pc = .ok (.invokevirtual idx, 3)) (hq : pc + 3 = q)
    (k : ∀ S', Q1 S' → RC S' → Go G nL q (st) lv S') : Go G nL pc st0 lv S := by
  subst hq; subst hst
  obtain ⟨-, -, -, -, -, -, -, -, -, -, hrm, hsh, hN, hk9, hw9⟩ := id C
  subst hsh; subst hN; subst hrm
  intro H locs ls hP hD hS hl
  have hc := wl_get (X := GX G) (cy := Gcy G) (ad := Gad G) (sh := Gsh G) (S := S) ho.1
  rw [cell_obj ho hc13] at hc
  have hA1 : ∀ q, va_A (Wd G S) H.size q → GA G q := inA (D := GD G) hD C.2.2.2.2.2.2.2.2.1 hS.1
  have pre : ∀ U : State, U.heap = H → (Gs G).WarmedH U.vm → va_Pc (Value.ref (Gad G o) :: av (Gad G)) (PreB (GD G) (Gcy G) (Gad G) (GX G) H.size (Gsh G) (GN G) S) (Value.ref (Gad G o) :: av (Gad G)).toArray U := fun U hU hW => ⟨rfl, by rw [hU], by rw [hU]; exact hP, va_K.moved hW.alike C.2.2.2.2.2.2.2.1, hD.weaken (fun _ _ _ _ => trivial), NW.warm hW C.2.2.2.2.2.2.2.2.2.1⟩
  refine va_callv (va_runV (As := av (Gad G)) (rest := st) ⟨C.1, C.2.1, C.2.2.1, C.2.2.2.1, C.2.2.2.2.1⟩ (hM (GD G) (Gcy G) (Gad G) (GX G) H.size) (cwV n C.2.2.2.2.1 (gdV hlk hins hsel hini hcode) rfl hr0.1 hr0.2 hd hroom) ⟨preB_blind, va_recv C.2.2.2.2.2.2.2.1 hP (ci := ci) (q0 := (GX G).length + o) hci hc, pre⟩ rfl hlen hl.1 rfl (lv_room hW) hdg ⟨hk9, hw9⟩) hS (fun q _ h => hA1 q h) hA1 (fun u t H1 locs1 ht hvm hw hB hz hk hS1 => ?_)
  have hP1 := hB.1
  rw [ht] at hP1
  exact k u hw hB.2 H1 locs1 ls hP1 (va_D_wl hD) hS1 hl
theorem Go_callV_O (C : Cx G cc BIG own nL ret rm sh N) {y : MethodName} {rmy : Room} {av : (Nat → Nat) → List Value} {Q1 : Option Nat → St → Prop} {bytes : ByteArray} {maxL idx n : Nat} {rty : Option FieldType} {ci o : Nat} {CN : String} {T : u_T} {NN : Nat} (ho : ok sh N o ci 0) (hci : vwCl[ci]? = some (CN, T, NN)) (hc13 : ci < 13) (hM : MetO (Gl G) y (wB y bytes maxL rty) rmy sh N RC (fun ad => .ref (ad o) :: av ad) S Q1)
    (hlk : Cond.methodLink own idx y ∈ BIG) (hini : Cond.initialized CN ∈ BIG) (hins : Cond.instanceMethod y ∈ BIG) (hsel : Cond.selects CN y y ∈ BIG) (hcode : Cond.code y bytes maxL rty ∈ BIG) (hd : y.cls = CN ∧ y.cls ≠ "java/lang/invoke/MethodHandle" ∧ y.cls ≠ "java/lang/invoke/VarHandle" ∧ (parseMethodDescriptor y.desc).map (fun d => d.parameters.length) = some n) (hr0 : rmy.cells = 0 ∧ rmy.slots = 0) (hroom : rmy.frames + 1 ≤ rm.frames ∧ 8 + (maxL + 11) + rmy.locals ≤ rm.locals) (hlen : (av (Gad G)).length = n) (hst : (av (Gad G)).reverse ++ .ref (Gad G o) :: st = st0) (hW : (st.map fun v => v.category).sum ≤ 8) (hdg : decode cc pc = .ok (.invokevirtual idx, 3)) (hq : pc + 3 = q)
    (k : ∀ r S', Q1 r S' → RC S' → Go G nL q (va_rf (r.map (Gad G)) :: st) lv S') : Go G nL pc st0 lv S := by
  subst hq; subst hst
  obtain ⟨-, -, -, -, -, -, -, -, -, -, hrm, hsh, hN, hk9, hw9⟩ := id C
  subst hsh; subst hN; subst hrm
  intro H locs ls hP hD hS hl
  have hc := wl_get (X := GX G) (cy := Gcy G) (ad := Gad G) (sh := Gsh G) (S := S) ho.1
  rw [cell_obj ho hc13] at hc
  have hA1 : ∀ q, va_A (Wd G S) H.size q → GA G q := inA (D := GD G) hD C.2.2.2.2.2.2.2.2.1 hS.1
  have pre : ∀ U : State, U.heap = H → (Gs G).WarmedH U.vm → va_Pc (Value.ref (Gad G o) :: av (Gad G)) (PreB (GD G) (Gcy G) (Gad G) (GX G) H.size (Gsh G) (GN G) S) (Value.ref (Gad G o) :: av (Gad G)).toArray U := fun U hU hW => ⟨rfl, by rw [hU], by rw [hU]; exact hP, va_K.moved hW.alike C.2.2.2.2.2.2.2.1, hD.weaken (fun _ _ _ _ => trivial), NW.warm hW C.2.2.2.2.2.2.2.2.2.1⟩
  refine va_callq (va_runV (As := av (Gad G)) (rest := st) ⟨C.1, C.2.1, C.2.2.1, C.2.2.2.1, C.2.2.2.2.1⟩ (hM (GD G) (Gcy G) (Gad G) (GX G) H.size) (cwV n C.2.2.2.2.1 (gdV hlk hins hsel hini hcode) rfl hr0.1 hr0.2 hd hroom) ⟨preB_blind, va_recv C.2.2.2.2.2.2.2.1 hP (ci := ci) (q0 := (GX G).length + o) hci hc, pre⟩ rfl hlen hl.1 rfl (lv_room hW) hdg ⟨hk9, hw9⟩) hS (fun q _ h => hA1 q h) hA1 (fun r0 u t H1 locs1 ht hvm hw hB hz hk hS1 => ?_)
  obtain ⟨r, rfl, hw⟩ := hw
  have hP1 := hB.1
  rw [ht] at hP1
  exact k r u hw hB.2 H1 locs1 ls hP1 (va_D_wl hD) hS1 hl
theorem Go_callVN_I (C : Cx G cc BIG own nL ret rm sh N) {y : MethodName} {rmy : Room} {av : (Nat → Nat) → List Value} {Q1 : Int32 → St → Prop} {bytes : ByteArray} {maxL idx n : Nat} {rty : Option FieldType} {ci o : Nat} {CN : String} {T : u_T} {NN : Nat} (ho : ok sh N o ci 0) (hci : vwCl[ci]? = some (CN, T, NN)) (hc13 : ci < 13) (hM : MetI (Gl G) y (wB y bytes maxL rty) rmy sh N RC (fun ad => .ref (ad o) :: av ad) S Q1)
    {host : String} (hnw : Cond.methodLinkNest own idx y host ∈ nwL) (hini : Cond.initialized y.cls ∈ BIG) (hins : Cond.instanceMethod y ∈ BIG) (hsel : Cond.selects CN y y ∈ BIG) (hcode : Cond.code y bytes maxL rty ∈ BIG) (hd : y.cls ≠ "java/lang/invoke/MethodHandle" ∧ y.cls ≠ "java/lang/invoke/VarHandle" ∧ (parseMethodDescriptor y.desc).map (fun d => d.parameters.length) = some n) (hr0 : rmy.cells = 0 ∧ rmy.slots = 0) (hroom : rmy.frames + 1 ≤ rm.frames ∧ 8 + (maxL + 11) + rmy.locals ≤ rm.locals) (hlen : (av (Gad G)).length = n) (hst : (av (Gad G)).reverse ++ .ref (Gad G o) :: st = st0) (hW : (st.map fun v => v.category).sum ≤ 8) (hdg : decode cc pc = .ok (.invokevirtual idx, 3)) (hq : pc + 3 = q)
    (k : ∀ r S', Q1 r S' → RC S' → Go G nL q (.int r :: st) lv S') : Go G nL pc st0 lv S := by
  subst hq; subst hst
  obtain ⟨-, -, -, -, -, -, -, -, -, -, hrm, hsh, hN, hk9, hw9⟩ := id C
  subst hsh; subst hN; subst hrm
  intro H locs ls hP hD hS hl
  have hc := wl_get (X := GX G) (cy := Gcy G) (ad := Gad G) (sh := Gsh G) (S := S) ho.1
  rw [cell_obj ho hc13] at hc
  have hA1 : ∀ q, va_A (Wd G S) H.size q → GA G q := inA (D := GD G) hD C.2.2.2.2.2.2.2.2.1 hS.1
  have pre : ∀ U : State, U.heap = H → (Gs G).WarmedH U.vm → va_Pc (Value.ref (Gad G o) :: av (Gad G)) (PreB (GD G) (Gcy G) (Gad G) (GX G) H.size (Gsh G) (GN G) S) (Value.ref (Gad G o) :: av (Gad G)).toArray U := fun U hU hW => ⟨rfl, by rw [hU], by rw [hU]; exact hP, va_K.moved hW.alike C.2.2.2.2.2.2.2.1, hD.weaken (fun _ _ _ _ => trivial), NW.warm hW C.2.2.2.2.2.2.2.2.2.1⟩
  refine va_calli (va_runVN (As := av (Gad G)) (rest := st) ⟨C.1, C.2.1, C.2.2.1, C.2.2.2.1, C.2.2.2.2.1⟩ (hM (GD G) (Gcy G) (Gad G) (GX G) H.size) (⟨va_cnB n C.2.2.2.2.1 (gdN hcode) rfl hr0.1 hr0.2 (C.2.2.2.2.2.2.2.2.2.1 _ hnw) (C.2.2.2.2.1 _ hini) hd hroom, C.2.2.2.2.1 _ hins, C.2.2.2.2.1 _ hsel⟩) ⟨preB_blind, va_recv C.2.2.2.2.2.2.2.1 hP (ci := ci) (q0 := (GX G).length + o) hci hc, pre⟩ rfl hlen hl.1 rfl (lv_room hW) hdg ⟨hk9, hw9⟩) hS (fun q _ h => hA1 q h) hA1 (fun r u t H1 locs1 ht hvm hw hB hz hk hS1 => ?_)
  have hP1 := hB.1
  rw [ht] at hP1
  exact k r u hw hB.2 H1 locs1 ls hP1 (va_D_wl hD) hS1 hl
theorem Go_callVN_L (C : Cx G cc BIG own nL ret rm sh N) {y : MethodName} {rmy : Room} {av : (Nat → Nat) → List Value} {Q1 : Int64 → St → Prop} {bytes : ByteArray} {maxL idx n : Nat} {rty : Option FieldType} {ci o : Nat} {CN : String} {T : u_T} {NN : Nat} (ho : ok sh N o ci 0) (hci : vwCl[ci]? = some (CN, T, NN)) (hc13 : ci < 13) (hM : MetL (Gl G) y (wB y bytes maxL rty) rmy sh N RC (fun ad => .ref (ad o) :: av ad) S Q1)
    {host : String} (hnw : Cond.methodLinkNest own idx y host ∈ nwL) (hini : Cond.initialized y.cls ∈ BIG) (hins : Cond.instanceMethod y ∈ BIG) (hsel : Cond.selects CN y y ∈ BIG) (hcode : Cond.code y bytes maxL rty ∈ BIG) (hd : y.cls ≠ "java/lang/invoke/MethodHandle" ∧ y.cls ≠ "java/lang/invoke/VarHandle" ∧ (parseMethodDescriptor y.desc).map (fun d => d.parameters.length) = some n) (hr0 : rmy.cells = 0 ∧ rmy.slots = 0) (hroom : rmy.frames + 1 ≤ rm.frames ∧ 8 + (maxL + 11) + rmy.locals ≤ rm.locals) (hlen : (av (Gad G)).length = n) (hst : (av (Gad G)).reverse ++ .ref (Gad G o) :: st = st0) (hW : (st.map fun v => v.category).sum ≤ 8) (hdg : decode cc pc = .ok (.invokevirtual idx, 3)) (hq : pc + 3 = q)
    (k : ∀ r S', Q1 r S' → RC S' → Go G nL q (.long r :: st) lv S') : Go G nL pc st0 lv S := by
  subst hq; subst hst
  obtain ⟨-, -, -, -, -, -, -, -, -, -, hrm, hsh, hN, hk9, hw9⟩ := id C
  subst hsh; subst hN; subst hrm
  intro H locs ls hP hD hS hl
  have hc := wl_get (X := GX G) (cy := Gcy G) (ad := Gad G) (sh := Gsh G) (S := S) ho.1
  rw [cell_obj ho hc13] at hc
  have hA1 : ∀ q, va_A (Wd G S) H.size q → GA G q := inA (D := GD G) hD C.2.2.2.2.2.2.2.2.1 hS.1
  have pre : ∀ U : State, U.heap = H → (Gs G).WarmedH U.vm → va_Pc (Value.ref (Gad G o) :: av (Gad G)) (PreB (GD G) (Gcy G) (Gad G) (GX G) H.size (Gsh G) (GN G) S) (Value.ref (Gad G o) :: av (Gad G)).toArray U := fun U hU hW => ⟨rfl, by rw [hU], by rw [hU]; exact hP, va_K.moved hW.alike C.2.2.2.2.2.2.2.1, hD.weaken (fun _ _ _ _ => trivial), NW.warm hW C.2.2.2.2.2.2.2.2.2.1⟩
  refine va_calll (va_runVN (As := av (Gad G)) (rest := st) ⟨C.1, C.2.1, C.2.2.1, C.2.2.2.1, C.2.2.2.2.1⟩ (hM (GD G) (Gcy G) (Gad G) (GX G) H.size) (⟨va_cnB n C.2.2.2.2.1 (gdN hcode) rfl hr0.1 hr0.2 (C.2.2.2.2.2.2.2.2.2.1 _ hnw) (C.2.2.2.2.1 _ hini) hd hroom, C.2.2.2.2.1 _ hins, C.2.2.2.2.1 _ hsel⟩) ⟨preB_blind, va_recv C.2.2.2.2.2.2.2.1 hP (ci := ci) (q0 := (GX G).length + o) hci hc, pre⟩ rfl hlen hl.1 rfl (lv_room hW) hdg ⟨hk9, hw9⟩) hS (fun q _ h => hA1 q h) hA1 (fun r u t H1 locs1 ht hvm hw hB hz hk hS1 => ?_)
  have hP1 := hB.1
  rw [ht] at hP1
  exact k r u hw hB.2 H1 locs1 ls hP1 (va_D_wl hD) hS1 hl
theorem Go_callVN_V (C : Cx G cc BIG own nL ret rm sh N) {y : MethodName} {rmy : Room} {av : (Nat → Nat) → List Value} {Q1 : St → Prop} {bytes : ByteArray} {maxL idx n : Nat} {rty : Option FieldType} {ci o : Nat} {CN : String} {T : u_T} {NN : Nat} (ho : ok sh N o ci 0) (hci : vwCl[ci]? = some (CN, T, NN)) (hc13 : ci < 13) (hM : MetV (Gl G) y (wB y bytes maxL rty) rmy sh N RC (fun ad => .ref (ad o) :: av ad) S Q1)
    {host : String} (hnw : Cond.methodLinkNest own idx y host ∈ nwL) (hini : Cond.initialized y.cls ∈ BIG) (hins : Cond.instanceMethod y ∈ BIG) (hsel : Cond.selects CN y y ∈ BIG) (hcode : Cond.code y bytes maxL rty ∈ BIG) (hd : y.cls ≠ "java/lang/invoke/MethodHandle" ∧ y.cls ≠ "java/lang/invoke/VarHandle" ∧ (parseMethodDescriptor y.desc).map (fun d => d.parameters.length) = some n) (hr0 : rmy.cells = 0 ∧ rmy.slots = 0) (hroom : rmy.frames + 1 ≤ rm.frames ∧ 8 + (maxL + 11) + rmy.locals ≤ rm.locals) (hlen : (av (Gad G)).length = n) (hst : (av (Gad G)).reverse ++ .ref (Gad G o) :: st = st0) (hW : (st.map fun v => v.category).sum ≤ 8) (hdg : decode cc pc = .ok (.invokevirtual idx, 3)) (hq : pc + 3 = q)
    (k : ∀ S', Q1 S' → RC S' → Go G nL q (st) lv S') : Go G nL pc st0 lv S := by
  subst hq; subst hst
  obtain ⟨-, -, -, -, -, -, -, -, -, -, hrm, hsh, hN, hk9, hw9⟩ := id C
  subst hsh; subst hN; subst hrm
  intro H locs ls hP hD hS hl
  have hc := wl_get (X := GX G) (cy := Gcy G) (ad := Gad G) (sh := Gsh G) (S := S) ho.1
  rw [cell_obj ho hc13] at hc
  have hA1 : ∀ q, va_A (Wd G S) H.size q → GA G q := inA (D := GD G) hD C.2.2.2.2.2.2.2.2.1 hS.1
  have pre : ∀ U : State, U.heap = H → (Gs G).WarmedH U.vm → va_Pc (Value.ref (Gad G o) :: av (Gad G)) (PreB (GD G) (Gcy G) (Gad G) (GX G) H.size (Gsh G) (GN G) S) (Value.ref (Gad G o) :: av (Gad G)).toArray U := fun U hU hW => ⟨rfl, by rw [hU], by rw [hU]; exact hP, va_K.moved hW.alike C.2.2.2.2.2.2.2.1, hD.weaken (fun _ _ _ _ => trivial), NW.warm hW C.2.2.2.2.2.2.2.2.2.1⟩
  refine va_callv (va_runVN (As := av (Gad G)) (rest := st) ⟨C.1, C.2.1, C.2.2.1, C.2.2.2.1, C.2.2.2.2.1⟩ (hM (GD G) (Gcy G) (Gad G) (GX G) H.size) (⟨va_cnB n C.2.2.2.2.1 (gdN hcode) rfl hr0.1 hr0.2 (C.2.2.2.2.2.2.2.2.2.1 _ hnw) (C.2.2.2.2.1 _ hini) hd hroom, C.2.2.2.2.1 _ hins, C.2.2.2.2.1 _ hsel⟩) ⟨preB_blind, va_recv C.2.2.2.2.2.2.2.1 hP (ci := ci) (q0 := (GX G).length + o) hci hc, pre⟩ rfl hlen hl.1 rfl (lv_room hW) hdg ⟨hk9, hw9⟩) hS (fun q _ h => hA1 q h) hA1 (fun u t H1 locs1 ht hvm hw hB hz hk hS1 => ?_)
  have hP1 := hB.1
  rw [ht] at hP1
  exact k u hw hB.2 H1 locs1 ls hP1 (va_D_wl hD) hS1 hl
theorem Go_callVN_O (C : Cx G cc BIG own nL ret rm sh N) {y : MethodName} {rmy : Room} {av : (Nat → Nat) → List Value} {Q1 : Option Nat → St → Prop} {bytes : ByteArray} {maxL idx n : Nat} {rty : Option FieldType} {ci o : Nat} {CN : String} {T : u_T} {NN : Nat} (ho : ok sh N o ci 0) (hci : vwCl[ci]? = some (CN, T, NN)) (hc13 : ci < 13) (hM : MetO (Gl G) y (wB y bytes maxL rty) rmy sh N RC (fun ad => .ref (ad o) :: av ad) S Q1)
    {host : String} (hnw : Cond.methodLinkNest own idx y host ∈ nwL) (hini : Cond.initialized y.cls ∈ BIG) (hins : Cond.instanceMethod y ∈ BIG) (hsel : Cond.selects CN y y ∈ BIG) (hcode : Cond.code y bytes maxL rty ∈ BIG) (hd : y.cls ≠ "java/lang/invoke/MethodHandle" ∧ y.cls ≠ "java/lang/invoke/VarHandle" ∧ (parseMethodDescriptor y.desc).map (fun d => d.parameters.length) = some n) (hr0 : rmy.cells = 0 ∧ rmy.slots = 0) (hroom : rmy.frames + 1 ≤ rm.frames ∧ 8 + (maxL + 11) + rmy.locals ≤ rm.locals) (hlen : (av (Gad G)).length = n) (hst : (av (Gad G)).reverse ++ .ref (Gad G o) :: st = st0) (hW : (st.map fun v => v.category).sum ≤ 8) (hdg : decode cc pc = .ok (.invokevirtual idx, 3)) (hq : pc + 3 = q)
    (k : ∀ r S', Q1 r S' → RC S' → Go G nL q (va_rf (r.map (Gad G)) :: st) lv S') : Go G nL pc st0 lv S := by
  subst hq; subst hst
  obtain ⟨-, -, -, -, -, -, -, -, -, -, hrm, hsh, hN, hk9, hw9⟩ := id C
  subst hsh; subst hN; subst hrm
  intro H locs ls hP hD hS hl
  have hc := wl_get (X := GX G) (cy := Gcy G) (ad := Gad G) (sh := Gsh G) (S := S) ho.1
  rw [cell_obj ho hc13] at hc
  have hA1 : ∀ q, va_A (Wd G S) H.size q → GA G q := inA (D := GD G) hD C.2.2.2.2.2.2.2.2.1 hS.1
  have pre : ∀ U : State, U.heap = H → (Gs G).WarmedH U.vm → va_Pc (Value.ref (Gad G o) :: av (Gad G)) (PreB (GD G) (Gcy G) (Gad G) (GX G) H.size (Gsh G) (GN G) S) (Value.ref (Gad G o) :: av (Gad G)).toArray U := fun U hU hW => ⟨rfl, by rw [hU], by rw [hU]; exact hP, va_K.moved hW.alike C.2.2.2.2.2.2.2.1, hD.weaken (fun _ _ _ _ => trivial), NW.warm hW C.2.2.2.2.2.2.2.2.2.1⟩
  refine va_callq (va_runVN (As := av (Gad G)) (rest := st) ⟨C.1, C.2.1, C.2.2.1, C.2.2.2.1, C.2.2.2.2.1⟩ (hM (GD G) (Gcy G) (Gad G) (GX G) H.size) (⟨va_cnB n C.2.2.2.2.1 (gdN hcode) rfl hr0.1 hr0.2 (C.2.2.2.2.2.2.2.2.2.1 _ hnw) (C.2.2.2.2.1 _ hini) hd hroom, C.2.2.2.2.1 _ hins, C.2.2.2.2.1 _ hsel⟩) ⟨preB_blind, va_recv C.2.2.2.2.2.2.2.1 hP (ci := ci) (q0 := (GX G).length + o) hci hc, pre⟩ rfl hlen hl.1 rfl (lv_room hW) hdg ⟨hk9, hw9⟩) hS (fun q _ h => hA1 q h) hA1 (fun r0 u t H1 locs1 ht hvm hw hB hz hk hS1 => ?_)
  obtain ⟨r, rfl, hw⟩ := hw
  have hP1 := hB.1
  rw [ht] at hP1
  exact k r u hw hB.2 H1 locs1 ls hP1 (va_D_wl hD) hS1 hl
theorem Go_callS_I (C : Cx G cc BIG own nL ret rm sh N) {y : MethodName} {rmy : Room} {av : (Nat → Nat) → List Value} {Q1 : Int32 → St → Prop} {bytes : ByteArray} {maxL idx n : Nat} {rty : Option FieldType} (hM : MetI (Gl G) y (wB y bytes maxL rty) rmy sh N RC av S Q1)
    (hlk : Cond.methodLink own idx y ∈ BIG) (hini : Cond.initialized y.cls ∈ BIG) (hst2 : Cond.static y ∈ BIG) (hcode : Cond.code y bytes maxL rty ∈ BIG) (hd : y.cls ≠ "java/lang/invoke/MethodHandle" ∧ y.cls ≠ "java/lang/invoke/VarHandle" ∧ (parseMethodDescriptor y.desc).map (fun d => d.parameters.length) = some n) (hr0 : rmy.cells = 0 ∧ rmy.slots = 0) (hroom : rmy.frames + 1 ≤ rm.frames ∧ 8 + (maxL + 11) + rmy.locals ≤ rm.locals) (hlen : (av (Gad G)).length = n) (hst : (av (Gad G)).reverse ++ st = st0) (hW : (st.map fun v => v.category).sum ≤ 8) (hdg : decode cc pc = .ok (.invokestatic idx, 3)) (hq : pc + 3 = q)
    (k : ∀ r S', Q1 r S' → RC S' → Go G nL q (.int r :: st) lv S') : Go G nL pc st0 lv S := by
  subst hq; subst hst
  obtain ⟨-, -, -, -, -, -, -, -, -, -, hrm, hsh, hN, hk9, hw9⟩ := id C
  subst hsh; subst hN; subst hrm
  intro H locs ls hP hD hS hl
  have hA1 : ∀ q, va_A (Wd G S) H.size q → GA G q := inA (D := GD G) hD C.2.2.2.2.2.2.2.2.1 hS.1
  have pre : ∀ U : State, U.heap = H → (Gs G).WarmedH U.vm → va_Pc (av (Gad G)) (PreB (GD G) (Gcy G) (Gad G) (GX G) H.size (Gsh G) (GN G) S) (av (Gad G)).toArray U := fun U hU hW => ⟨rfl, by rw [hU], by rw [hU]; exact hP, va_K.moved hW.alike C.2.2.2.2.2.2.2.1, hD.weaken (fun _ _ _ _ => trivial), NW.warm hW C.2.2.2.2.2.2.2.2.2.1⟩
  refine va_calli (va_runS (As := av (Gad G)) (rest := st) ⟨C.1, C.2.1, C.2.2.1, C.2.2.2.1, C.2.2.2.2.1⟩ (hM (GD G) (Gcy G) (Gad G) (GX G) H.size) (va_cwS n C.2.2.2.2.1 (gdS hlk hst2 hini hcode) rfl hr0.1 hr0.2 hd hroom) ⟨preB_blind, pre⟩ rfl hlen hl.1 rfl (lv_room hW) hdg ⟨hk9, hw9⟩) hS (fun q _ h => hA1 q h) hA1 (fun r u t H1 locs1 ht hvm hw hB hz hk hS1 => ?_)
  have hP1 := hB.1
  rw [ht] at hP1
  exact k r u hw hB.2 H1 locs1 ls hP1 (va_D_wl hD) hS1 hl
theorem Go_callS_L (C : Cx G cc BIG own nL ret rm sh N) {y : MethodName} {rmy : Room} {av : (Nat → Nat) → List Value} {Q1 : Int64 → St → Prop} {bytes : ByteArray} {maxL idx n : Nat} {rty : Option FieldType} (hM : MetL (Gl G) y (wB y bytes maxL rty) rmy sh N RC av S Q1)
    (hlk : Cond.methodLink own idx y ∈ BIG) (hini : Cond.initialized y.cls ∈ BIG) (hst2 : Cond.static y ∈ BIG) (hcode : Cond.code y bytes maxL rty ∈ BIG) (hd : y.cls ≠ "java/lang/invoke/MethodHandle" ∧ y.cls ≠ "java/lang/invoke/VarHandle" ∧ (parseMethodDescriptor y.desc).map (fun d => d.parameters.length) = some n) (hr0 : rmy.cells = 0 ∧ rmy.slots = 0) (hroom : rmy.frames + 1 ≤ rm.frames ∧ 8 + (maxL + 11) + rmy.locals ≤ rm.locals) (hlen : (av (Gad G)).length = n) (hst : (av (Gad G)).reverse ++ st = st0) (hW : (st.map fun v => v.category).sum ≤ 8) (hdg : decode cc pc = .ok (.invokestatic idx, 3)) (hq : pc + 3 = q)
    (k : ∀ r S', Q1 r S' → RC S' → Go G nL q (.long r :: st) lv S') : Go G nL pc st0 lv S := by
  subst hq; subst hst
  obtain ⟨-, -, -, -, -, -, -, -, -, -, hrm, hsh, hN, hk9, hw9⟩ := id C
  subst hsh; subst hN; subst hrm
  intro H locs ls hP hD hS hl
  have hA1 : ∀ q, va_A (Wd G S) H.size q → GA G q := inA (D := GD G) hD C.2.2.2.2.2.2.2.2.1 hS.1
  have pre : ∀ U : State, U.heap = H → (Gs G).WarmedH U.vm → va_Pc (av (Gad G)) (PreB (GD G) (Gcy G) (Gad G) (GX G) H.size (Gsh G) (GN G) S) (av (Gad G)).toArray U := fun U hU hW => ⟨rfl, by rw [hU], by rw [hU]; exact hP, va_K.moved hW.alike C.2.2.2.2.2.2.2.1, hD.weaken (fun _ _ _ _ => trivial), NW.warm hW C.2.2.2.2.2.2.2.2.2.1⟩
  refine va_calll (va_runS (As := av (Gad G)) (rest := st) ⟨C.1, C.2.1, C.2.2.1, C.2.2.2.1, C.2.2.2.2.1⟩ (hM (GD G) (Gcy G) (Gad G) (GX G) H.size) (va_cwS n C.2.2.2.2.1 (gdS hlk hst2 hini hcode) rfl hr0.1 hr0.2 hd hroom) ⟨preB_blind, pre⟩ rfl hlen hl.1 rfl (lv_room hW) hdg ⟨hk9, hw9⟩) hS (fun q _ h => hA1 q h) hA1 (fun r u t H1 locs1 ht hvm hw hB hz hk hS1 => ?_)
  have hP1 := hB.1
  rw [ht] at hP1
  exact k r u hw hB.2 H1 locs1 ls hP1 (va_D_wl hD) hS1 hl
theorem Go_callS_V (C : Cx G cc BIG own nL ret rm sh N) {y : MethodName} {rmy : Room} {av : (Nat → Nat) → List Value} {Q1 : St → Prop} {bytes : ByteArray} {maxL idx n : Nat} {rty : Option FieldType} (hM : MetV (Gl G) y (wB y bytes maxL rty) rmy sh N RC av S Q1)
    (hlk : Cond.methodLink own idx y ∈ BIG) (hini : Cond.initialized y.cls ∈ BIG) (hst2 : Cond.static y ∈ BIG) (hcode : Cond.code y bytes maxL rty ∈ BIG) (hd : y.cls ≠ "java/lang/invoke/MethodHandle" ∧ y.cls ≠ "java/lang/invoke/VarHandle" ∧ (parseMethodDescriptor y.desc).map (fun d => d.parameters.length) = some n) (hr0 : rmy.cells = 0 ∧ rmy.slots = 0) (hroom : rmy.frames + 1 ≤ rm.frames ∧ 8 + (maxL + 11) + rmy.locals ≤ rm.locals) (hlen : (av (Gad G)).length = n) (hst : (av (Gad G)).reverse ++ st = st0) (hW : (st.map fun v => v.category).sum ≤ 8) (hdg : decode cc pc = .ok (.invokestatic idx, 3)) (hq : pc + 3 = q)
    (k : ∀ S', Q1 S' → RC S' → Go G nL q (st) lv S') : Go G nL pc st0 lv S := by
  subst hq; subst hst
  obtain ⟨-, -, -, -, -, -, -, -, -, -, hrm, hsh, hN, hk9, hw9⟩ := id C
  subst hsh; subst hN; subst hrm
  intro H locs ls hP hD hS hl
  have hA1 : ∀ q, va_A (Wd G S) H.size q → GA G q := inA (D := GD G) hD C.2.2.2.2.2.2.2.2.1 hS.1
  have pre : ∀ U : State, U.heap = H → (Gs G).WarmedH U.vm → va_Pc (av (Gad G)) (PreB (GD G) (Gcy G) (Gad G) (GX G) H.size (Gsh G) (GN G) S) (av (Gad G)).toArray U := fun U hU hW => ⟨rfl, by rw [hU], by rw [hU]; exact hP, va_K.moved hW.alike C.2.2.2.2.2.2.2.1, hD.weaken (fun _ _ _ _ => trivial), NW.warm hW C.2.2.2.2.2.2.2.2.2.1⟩
  refine va_callv (va_runS (As := av (Gad G)) (rest := st) ⟨C.1, C.2.1, C.2.2.1, C.2.2.2.1, C.2.2.2.2.1⟩ (hM (GD G) (Gcy G) (Gad G) (GX G) H.size) (va_cwS n C.2.2.2.2.1 (gdS hlk hst2 hini hcode) rfl hr0.1 hr0.2 hd hroom) ⟨preB_blind, pre⟩ rfl hlen hl.1 rfl (lv_room hW) hdg ⟨hk9, hw9⟩) hS (fun q _ h => hA1 q h) hA1 (fun u t H1 locs1 ht hvm hw hB hz hk hS1 => ?_)
  have hP1 := hB.1
  rw [ht] at hP1
  exact k u hw hB.2 H1 locs1 ls hP1 (va_D_wl hD) hS1 hl
theorem Go_callS_O (C : Cx G cc BIG own nL ret rm sh N) {y : MethodName} {rmy : Room} {av : (Nat → Nat) → List Value} {Q1 : Option Nat → St → Prop} {bytes : ByteArray} {maxL idx n : Nat} {rty : Option FieldType} (hM : MetO (Gl G) y (wB y bytes maxL rty) rmy sh N RC av S Q1)
    (hlk : Cond.methodLink own idx y ∈ BIG) (hini : Cond.initialized y.cls ∈ BIG) (hst2 : Cond.static y ∈ BIG) (hcode : Cond.code y bytes maxL rty ∈ BIG) (hd : y.cls ≠ "java/lang/invoke/MethodHandle" ∧ y.cls ≠ "java/lang/invoke/VarHandle" ∧ (parseMethodDescriptor y.desc).map (fun d => d.parameters.length) = some n) (hr0 : rmy.cells = 0 ∧ rmy.slots = 0) (hroom : rmy.frames + 1 ≤ rm.frames ∧ 8 + (maxL + 11) + rmy.locals ≤ rm.locals) (hlen : (av (Gad G)).length = n) (hst : (av (Gad G)).reverse ++ st = st0) (hW : (st.map fun v => v.category).sum ≤ 8) (hdg : decode cc pc = .ok (.invokestatic idx, 3)) (hq : pc + 3 = q)
    (k : ∀ r S', Q1 r S' → RC S' → Go G nL q (va_rf (r.map (Gad G)) :: st) lv S') : Go G nL pc st0 lv S := by
  subst hq; subst hst
  obtain ⟨-, -, -, -, -, -, -, -, -, -, hrm, hsh, hN, hk9, hw9⟩ := id C
  subst hsh; subst hN; subst hrm
  intro H locs ls hP hD hS hl
  have hA1 : ∀ q, va_A (Wd G S) H.size q → GA G q := inA (D := GD G) hD C.2.2.2.2.2.2.2.2.1 hS.1
  have pre : ∀ U : State, U.heap = H → (Gs G).WarmedH U.vm → va_Pc (av (Gad G)) (PreB (GD G) (Gcy G) (Gad G) (GX G) H.size (Gsh G) (GN G) S) (av (Gad G)).toArray U := fun U hU hW => ⟨rfl, by rw [hU], by rw [hU]; exact hP, va_K.moved hW.alike C.2.2.2.2.2.2.2.1, hD.weaken (fun _ _ _ _ => trivial), NW.warm hW C.2.2.2.2.2.2.2.2.2.1⟩
  refine va_callq (va_runS (As := av (Gad G)) (rest := st) ⟨C.1, C.2.1, C.2.2.1, C.2.2.2.1, C.2.2.2.2.1⟩ (hM (GD G) (Gcy G) (Gad G) (GX G) H.size) (va_cwS n C.2.2.2.2.1 (gdS hlk hst2 hini hcode) rfl hr0.1 hr0.2 hd hroom) ⟨preB_blind, pre⟩ rfl hlen hl.1 rfl (lv_room hW) hdg ⟨hk9, hw9⟩) hS (fun q _ h => hA1 q h) hA1 (fun r0 u t H1 locs1 ht hvm hw hB hz hk hS1 => ?_)
  obtain ⟨r, rfl, hw⟩ := hw
  have hP1 := hB.1
  rw [ht] at hP1
  exact k r u hw hB.2 H1 locs1 ls hP1 (va_D_wl hD) hS1 hl
theorem Go_callSN_I (C : Cx G cc BIG own nL ret rm sh N) {y : MethodName} {rmy : Room} {av : (Nat → Nat) → List Value} {Q1 : Int32 → St → Prop} {bytes : ByteArray} {maxL idx n : Nat} {rty : Option FieldType} (hM : MetI (Gl G) y (wB y bytes maxL rty) rmy sh N RC av S Q1)
    {host : String} (hnw : Cond.methodLinkNest own idx y host ∈ nwL) (hini : Cond.initialized y.cls ∈ BIG) (hst2 : Cond.static y ∈ BIG) (hcode : Cond.code y bytes maxL rty ∈ BIG) (hd : y.cls ≠ "java/lang/invoke/MethodHandle" ∧ y.cls ≠ "java/lang/invoke/VarHandle" ∧ (parseMethodDescriptor y.desc).map (fun d => d.parameters.length) = some n) (hr0 : rmy.cells = 0 ∧ rmy.slots = 0) (hroom : rmy.frames + 1 ≤ rm.frames ∧ 8 + (maxL + 11) + rmy.locals ≤ rm.locals) (hlen : (av (Gad G)).length = n) (hst : (av (Gad G)).reverse ++ st = st0) (hW : (st.map fun v => v.category).sum ≤ 8) (hdg : decode cc pc = .ok (.invokestatic idx, 3)) (hq : pc + 3 = q)
    (k : ∀ r S', Q1 r S' → RC S' → Go G nL q (.int r :: st) lv S') : Go G nL pc st0 lv S := by
  subst hq; subst hst
  obtain ⟨-, -, -, -, -, -, -, -, -, -, hrm, hsh, hN, hk9, hw9⟩ := id C
  subst hsh; subst hN; subst hrm
  intro H locs ls hP hD hS hl
  have hA1 : ∀ q, va_A (Wd G S) H.size q → GA G q := inA (D := GD G) hD C.2.2.2.2.2.2.2.2.1 hS.1
  have pre : ∀ U : State, U.heap = H → (Gs G).WarmedH U.vm → va_Pc (av (Gad G)) (PreB (GD G) (Gcy G) (Gad G) (GX G) H.size (Gsh G) (GN G) S) (av (Gad G)).toArray U := fun U hU hW => ⟨rfl, by rw [hU], by rw [hU]; exact hP, va_K.moved hW.alike C.2.2.2.2.2.2.2.1, hD.weaken (fun _ _ _ _ => trivial), NW.warm hW C.2.2.2.2.2.2.2.2.2.1⟩
  refine va_calli (va_runSN (As := av (Gad G)) (rest := st) ⟨C.1, C.2.1, C.2.2.1, C.2.2.2.1, C.2.2.2.2.1⟩ (hM (GD G) (Gcy G) (Gad G) (GX G) H.size) (⟨va_cnB n C.2.2.2.2.1 (gdN hcode) rfl hr0.1 hr0.2 (C.2.2.2.2.2.2.2.2.2.1 _ hnw) (C.2.2.2.2.1 _ hini) hd hroom, C.2.2.2.2.1 _ hst2, trivial⟩) ⟨preB_blind, pre⟩ rfl hlen hl.1 rfl (lv_room hW) hdg ⟨hk9, hw9⟩) hS (fun q _ h => hA1 q h) hA1 (fun r u t H1 locs1 ht hvm hw hB hz hk hS1 => ?_)
  have hP1 := hB.1
  rw [ht] at hP1
  exact k r u hw hB.2 H1 locs1 ls hP1 (va_D_wl hD) hS1 hl
theorem Go_callSN_L (C : Cx G cc BIG own nL ret rm sh N) {y : MethodName} {rmy : Room} {av : (Nat → Nat) → List Value} {Q1 : Int64 → St → Prop} {bytes : ByteArray} {maxL idx n : Nat} {rty : Option FieldType} (hM : MetL (Gl G) y (wB y bytes maxL rty) rmy sh N RC av S Q1)
    {host : String} (hnw : Cond.methodLinkNest own idx y host ∈ nwL) (hini : Cond.initialized y.cls ∈ BIG) (hst2 : Cond.static y ∈ BIG) (hcode : Cond.code y bytes maxL rty ∈ BIG) (hd : y.cls ≠ "java/lang/invoke/MethodHandle" ∧ y.cls ≠ "java/lang/invoke/VarHandle" ∧ (parseMethodDescriptor y.desc).map (fun d => d.parameters.length) = some n) (hr0 : rmy.cells = 0 ∧ rmy.slots = 0) (hroom : rmy.frames + 1 ≤ rm.frames ∧ 8 + (maxL + 11) + rmy.locals ≤ rm.locals) (hlen : (av (Gad G)).length = n) (hst : (av (Gad G)).reverse ++ st = st0) (hW : (st.map fun v => v.category).sum ≤ 8) (hdg : decode cc pc = .ok (.invokestatic idx, 3)) (hq : pc + 3 = q)
    (k : ∀ r S', Q1 r S' → RC S' → Go G nL q (.long r :: st) lv S') : Go G nL pc st0 lv S := by
  subst hq; subst hst
  obtain ⟨-, -, -, -, -, -, -, -, -, -, hrm, hsh, hN, hk9, hw9⟩ := id C
  subst hsh; subst hN; subst hrm
  intro H locs ls hP hD hS hl
  have hA1 : ∀ q, va_A (Wd G S) H.size q → GA G q := inA (D := GD G) hD C.2.2.2.2.2.2.2.2.1 hS.1
  have pre : ∀ U : State, U.heap = H → (Gs G).WarmedH U.vm → va_Pc (av (Gad G)) (PreB (GD G) (Gcy G) (Gad G) (GX G) H.size (Gsh G) (GN G) S) (av (Gad G)).toArray U := fun U hU hW => ⟨rfl, by rw [hU], by rw [hU]; exact hP, va_K.moved hW.alike C.2.2.2.2.2.2.2.1, hD.weaken (fun _ _ _ _ => trivial), NW.warm hW C.2.2.2.2.2.2.2.2.2.1⟩
  refine va_calll (va_runSN (As := av (Gad G)) (rest := st) ⟨C.1, C.2.1, C.2.2.1, C.2.2.2.1, C.2.2.2.2.1⟩ (hM (GD G) (Gcy G) (Gad G) (GX G) H.size) (⟨va_cnB n C.2.2.2.2.1 (gdN hcode) rfl hr0.1 hr0.2 (C.2.2.2.2.2.2.2.2.2.1 _ hnw) (C.2.2.2.2.1 _ hini) hd hroom, C.2.2.2.2.1 _ hst2, trivial⟩) ⟨preB_blind, pre⟩ rfl hlen hl.1 rfl (lv_room hW) hdg ⟨hk9, hw9⟩) hS (fun q _ h => hA1 q h) hA1 (fun r u t H1 locs1 ht hvm hw hB hz hk hS1 => ?_)
  have hP1 := hB.1
  rw [ht] at hP1
  exact k r u hw hB.2 H1 locs1 ls hP1 (va_D_wl hD) hS1 hl
theorem Go_callSN_V (C : Cx G cc BIG own nL ret rm sh N) {y : MethodName} {rmy : Room} {av : (Nat → Nat) → List Value} {Q1 : St → Prop} {bytes : ByteArray} {maxL idx n : Nat} {rty : Option FieldType} (hM : MetV (Gl G) y (wB y bytes maxL rty) rmy sh N RC av S Q1)
    {host : String} (hnw : Cond.methodLinkNest own idx y host ∈ nwL) (hini : Cond.initialized y.cls ∈ BIG) (hst2 : Cond.static y ∈ BIG) (hcode : Cond.code y bytes maxL rty ∈ BIG) (hd : y.cls ≠ "java/lang/invoke/MethodHandle" ∧ y.cls ≠ "java/lang/invoke/VarHandle" ∧ (parseMethodDescriptor y.desc).map (fun d => d.parameters.length) = some n) (hr0 : rmy.cells = 0 ∧ rmy.slots = 0) (hroom : rmy.frames + 1 ≤ rm.frames ∧ 8 + (maxL + 11) + rmy.locals ≤ rm.locals) (hlen : (av (Gad G)).length = n) (hst : (av (Gad G)).reverse ++ st = st0) (hW : (st.map fun v => v.category).sum ≤ 8) (hdg : decode cc pc = .ok (.invokestatic idx, 3)) (hq : pc + 3 = q)
    (k : ∀ S', Q1 S' → RC S' → Go G nL q (st) lv S') : Go G nL pc st0 lv S := by
  subst hq; subst hst
  obtain ⟨-, -, -, -, -, -, -, -, -, -, hrm, hsh, hN, hk9, hw9⟩ := id C
  subst hsh; subst hN; subst hrm
  intro H locs ls hP hD hS hl
  have hA1 : ∀ q, va_A (Wd G S) H.size q → GA G q := inA (D := GD G) hD C.2.2.2.2.2.2.2.2.1 hS.1
  have pre : ∀ U : State, U.heap = H → (Gs G).WarmedH U.vm → va_Pc (av (Gad G)) (PreB (GD G) (Gcy G) (Gad G) (GX G) H.size (Gsh G) (GN G) S) (av (Gad G)).toArray U := fun U hU hW => ⟨rfl, by rw [hU], by rw [hU]; exact hP, va_K.moved hW.alike C.2.2.2.2.2.2.2.1, hD.weaken (fun _ _ _ _ => trivial), NW.warm hW C.2.2.2.2.2.2.2.2.2.1⟩
  refine va_callv (va_runSN (As := av (Gad G)) (rest := st) ⟨C.1, C.2.1, C.2.2.1, C.2.2.2.1, C.2.2.2.2.1⟩ (hM (GD G) (Gcy G) (Gad G) (GX G) H.size) (⟨va_cnB n C.2.2.2.2.1 (gdN hcode) rfl hr0.1 hr0.2 (C.2.2.2.2.2.2.2.2.2.1 _ hnw) (C.2.2.2.2.1 _ hini) hd hroom, C.2.2.2.2.1 _ hst2, trivial⟩) ⟨preB_blind, pre⟩ rfl hlen hl.1 rfl (lv_room hW) hdg ⟨hk9, hw9⟩) hS (fun q _ h => hA1 q h) hA1 (fun u t H1 locs1 ht hvm hw hB hz hk hS1 => ?_)
  have hP1 := hB.1
  rw [ht] at hP1
  exact k u hw hB.2 H1 locs1 ls hP1 (va_D_wl hD) hS1 hl
theorem Go_callSN_O (C : Cx G cc BIG own nL ret rm sh N) {y : MethodName} {rmy : Room} {av : (Nat → Nat) → List Value} {Q1 : Option Nat → St → Prop} {bytes : ByteArray} {maxL idx n : Nat} {rty : Option FieldType} (hM : MetO (Gl G) y (wB y bytes maxL rty) rmy sh N RC av S Q1)
    {host : String} (hnw : Cond.methodLinkNest own idx y host ∈ nwL) (hini : Cond.initialized y.cls ∈ BIG) (hst2 : Cond.static y ∈ BIG) (hcode : Cond.code y bytes maxL rty ∈ BIG) (hd : y.cls ≠ "java/lang/invoke/MethodHandle" ∧ y.cls ≠ "java/lang/invoke/VarHandle" ∧ (parseMethodDescriptor y.desc).map (fun d => d.parameters.length) = some n) (hr0 : rmy.cells = 0 ∧ rmy.slots = 0) (hroom : rmy.frames + 1 ≤ rm.frames ∧ 8 + (maxL + 11) + rmy.locals ≤ rm.locals) (hlen : (av (Gad G)).length = n) (hst : (av (Gad G)).reverse ++ st = st0) (hW : (st.map fun v => v.category).sum ≤ 8) (hdg : decode cc pc = .ok (.invokestatic idx, 3)) (hq : pc + 3 = q)
    (k : ∀ r S', Q1 r S' → RC S' → Go G nL q (va_rf (r.map (Gad G)) :: st) lv S') : Go G nL pc st0 lv S := by
  subst hq; subst hst
  obtain ⟨-, -, -, -, -, -, -, -, -, -, hrm, hsh, hN, hk9, hw9⟩ := id C
  subst hsh; subst hN; subst hrm
  intro H locs ls hP hD hS hl
  have hA1 : ∀ q, va_A (Wd G S) H.size q → GA G q := inA (D := GD G) hD C.2.2.2.2.2.2.2.2.1 hS.1
  have pre : ∀ U : State, U.heap = H → (Gs G).WarmedH U.vm → va_Pc (av (Gad G)) (PreB (GD G) (Gcy G) (Gad G) (GX G) H.size (Gsh G) (GN G) S) (av (Gad G)).toArray U := fun U hU hW => ⟨rfl, by rw [hU], by rw [hU]; exact hP, va_K.moved hW.alike C.2.2.2.2.2.2.2.1, hD.weaken (fun _ _ _ _ => trivial), NW.warm hW C.2.2.2.2.2.2.2.2.2.1⟩
  refine va_callq (va_runSN (As := av (Gad G)) (rest := st) ⟨C.1, C.2.1, C.2.2.1, C.2.2.2.1, C.2.2.2.2.1⟩ (hM (GD G) (Gcy G) (Gad G) (GX G) H.size) (⟨va_cnB n C.2.2.2.2.1 (gdN hcode) rfl hr0.1 hr0.2 (C.2.2.2.2.2.2.2.2.2.1 _ hnw) (C.2.2.2.2.1 _ hini) hd hroom, C.2.2.2.2.1 _ hst2, trivial⟩) ⟨preB_blind, pre⟩ rfl hlen hl.1 rfl (lv_room hW) hdg ⟨hk9, hw9⟩) hS (fun q _ h => hA1 q h) hA1 (fun r0 u t H1 locs1 ht hvm hw hB hz hk hS1 => ?_)
  obtain ⟨r, rfl, hw⟩ := hw
  have hP1 := hB.1
  rw [ht] at hP1
  exact k r u hw hB.2 H1 locs1 ls hP1 (va_D_wl hD) hS1 hl
end GoCalls
section GoMath
variable {G : GC} {cc : ByteArray} {own : String} {nL : Nat} {ret : Option FieldType} {rm : Room} {sh : Nat → Nat × Nat} {N : Nat} {pc q : Nat} {st : List Value} {lv : List (Nat × Value)} {S : St}
theorem Go_mmax (C : Cx G cc BIG own nL ret rm sh N) {idx : Nat} {x y : Int32} (hlink : Cond.methodLink own idx Lib.Math.max.name ∈ BIG) (hstat : Cond.static Lib.Math.max.name ∈ BIG) (hini : Cond.initialized "java/lang/Math" ∈ BIG) (hcode : Cond.code Lib.Math.max.name Lib.Math.max.code 2 (some .int) ∈ BIG) (hfr : 1 ≤ rm.frames) (hlo : (st.map fun v => v.category).sum + 13 ≤ rm.locals) (hdg : decode cc pc = .ok (.invokestatic idx, 3)) (hq : pc + 3 = q) (k : Go G nL q (.int (if x < y then y else x) :: st) lv S) : Go G nL pc (.int y :: .int x :: st) lv S := by
  subst hq
  obtain ⟨-, -, -, -, -, -, -, -, -, -, hrm, -, -, hk9, hw9⟩ := id C
  subst hrm
  exact fun H locs ls hP hD hS hl => va_mmax C.1 C.2.1 (C.2.2.1.trans hl.1.symm) C.2.2.2.1 (C.2.2.2.2.1 _ hlink) (C.2.2.2.2.1 _ hstat) (C.2.2.2.2.1 _ hini) (C.2.2.2.2.1 _ hcode) hfr hlo hk9 hw9 hdg (k H locs ls hP hD hS hl)
theorem Go_mmin (C : Cx G cc BIG own nL ret rm sh N) {idx : Nat} {x y : Int32} (hlink : Cond.methodLink own idx Lib.Math.min.name ∈ BIG) (hstat : Cond.static Lib.Math.min.name ∈ BIG) (hini : Cond.initialized "java/lang/Math" ∈ BIG) (hcode : Cond.code Lib.Math.min.name Lib.Math.min.code 2 (some .int) ∈ BIG) (hfr : 1 ≤ rm.frames) (hlo : (st.map fun v => v.category).sum + 13 ≤ rm.locals) (hdg : decode cc pc = .ok (.invokestatic idx, 3)) (hq : pc + 3 = q) (k : Go G nL q (.int (if y < x then y else x) :: st) lv S) : Go G nL pc (.int y :: .int x :: st) lv S := by
  subst hq
  obtain ⟨-, -, -, -, -, -, -, -, -, -, hrm, -, -, hk9, hw9⟩ := id C
  subst hrm
  exact fun H locs ls hP hD hS hl => va_mmin C.1 C.2.1 (C.2.2.1.trans hl.1.symm) C.2.2.2.1 (C.2.2.2.2.1 _ hlink) (C.2.2.2.2.1 _ hstat) (C.2.2.2.2.1 _ hini) (C.2.2.2.2.1 _ hcode) hfr hlo hk9 hw9 hdg (k H locs ls hP hD hS hl)
theorem Go_mabs (C : Cx G cc BIG own nL ret rm sh N) {idx : Nat} {x : Int32} (hlink : Cond.methodLink own idx Lib.Math.abs.name ∈ BIG) (hstat : Cond.static Lib.Math.abs.name ∈ BIG) (hini : Cond.initialized "java/lang/Math" ∈ BIG) (hcode : Cond.code Lib.Math.abs.name Lib.Math.abs.code 1 (some .int) ∈ BIG) (hfr : 1 ≤ rm.frames) (hlo : (st.map fun v => v.category).sum + 13 ≤ rm.locals) (hdg : decode cc pc = .ok (.invokestatic idx, 3)) (hq : pc + 3 = q) (k : Go G nL q (.int (if 0 ≤ x then x else 0 - x) :: st) lv S) : Go G nL pc (.int x :: st) lv S := by
  subst hq
  obtain ⟨-, -, -, -, -, -, -, -, -, -, hrm, -, -, hk9, hw9⟩ := id C
  subst hrm
  exact fun H locs ls hP hD hS hl => va_mabs C.1 C.2.1 (C.2.2.1.trans hl.1.symm) C.2.2.2.1 (C.2.2.2.2.1 _ hlink) (C.2.2.2.2.1 _ hstat) (C.2.2.2.2.1 _ hini) (C.2.2.2.2.1 _ hcode) hfr hlo hk9 hw9 hdg (k H locs ls hP hD hS hl)
end GoMath
