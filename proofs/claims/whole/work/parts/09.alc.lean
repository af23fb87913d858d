/-! ===== making: Go while cells come; the cells made so far are 0 .. n-1, the rest of the state is blank (IR) ===== -/
def IR (n : Nat) (S : St) : Prop := (∀ i k, n ≤ i → gI S i k = 0 ∧ gJ S i k = 0 ∧ gR S i k = none) ∧ ∀ i k r, gR S i k = some r → r < n
theorem IR.mono {n m : Nat} {S : St} (h : IR n S) (hm : n ≤ m) : IR m S := ⟨fun i k hi => h.1 i k (Nat.le_trans hm hi), fun i k r hr => Nat.lt_of_lt_of_le (h.2 i k r hr) hm⟩
theorem irI {n a k : Nat} {S S1 : St} {v : Int32} (e : S1 = sI S a k v) (ha : a < n) (h : IR n S) : IR n S1 := by
  subst e
  refine ⟨fun i j hi => ?_, fun i j r hr => h.2 i j r hr⟩
  obtain ⟨h1, h2, h3⟩ := h.1 i j hi
  refine ⟨?_, h2, h3⟩
  rw [gI_sI, if_neg (fun e => by omega)]
  exact h1
theorem irJ {n a k : Nat} {S S1 : St} {v : Int64} (e : S1 = sJ S a k v) (ha : a < n) (h : IR n S) : IR n S1 := by
  subst e
  refine ⟨fun i j hi => ?_, fun i j r hr => h.2 i j r hr⟩
  obtain ⟨h1, h2, h3⟩ := h.1 i j hi
  refine ⟨h1, ?_, h3⟩
  rw [gJ_sJ, if_neg (fun e => by omega)]
  exact h2
theorem irR {n a k r0 : Nat} {S S1 : St} (e : S1 = sR S a k (some r0)) (ha : a < n) (hr0 : r0 < n) (h : IR n S) : IR n S1 := by
  subst e
  refine ⟨fun i j hi => ?_, fun i j r hr => ?_⟩
  · obtain ⟨h1, h2, h3⟩ := h.1 i j hi
    refine ⟨h1, h2, ?_⟩
    rw [gR_sR, if_neg (fun e => by omega)]
    exact h3
  · rw [gR_sR] at hr
    by_cases c : i = a ∧ j = k
    · rw [if_pos c] at hr; cases hr; exact hr0
    · rw [if_neg c] at hr; exact h.2 i j r hr
abbrev gset (G : GC) (ad : Nat → Nat) (n k w : Nat) : GC := (Gp G, Gl G, Ge G, GRm G, Gs G, Gm G, Ga G, Gb G, Gme G, Gc G, GQ G, GD G, Gcy G, ad, GX G, GA G, Gsh G, n, k, w)
theorem Cx_gset {G : GC} {cc : ByteArray} {own : String} {nL : Nat} {ret : Option FieldType} {rm : Room} {sh : Nat → Nat × Nat} {n : Nat} (C : Cx G cc BIG own nL ret rm sh n) {ad : Nat → Nat} {m k w : Nat} (hk : k ≤ rm.cells) (hw : w ≤ rm.slots) : Cx (gset G ad m k w) cc BIG own nL ret rm sh m :=
  ⟨C.1, C.2.1, C.2.2.1, C.2.2.2.1, C.2.2.2.2.1, C.2.2.2.2.2.1, C.2.2.2.2.2.2.1, C.2.2.2.2.2.2.2.1, C.2.2.2.2.2.2.2.2.1, C.2.2.2.2.2.2.2.2.2.1, C.2.2.2.2.2.2.2.2.2.2.1, C.2.2.2.2.2.2.2.2.2.2.2.1, rfl, hk, hw⟩
theorem cell_ad {cy : Nat → ClassId} {ad ad1 : Nat → Nat} {sh : Nat → Nat × Nat} {S : St} {n i : Nat} (hI : IR n S) (hag : ∀ j, j < n → ad1 j = ad j) : cellOf cy ad1 sh S i = cellOf cy ad sh S i := by
  have e : ∀ a k, Option.map ad1 (gR S a k) = Option.map ad (gR S a k) := by
    intro a k
    cases hr : gR S a k with
    | none => rfl
    | some r => simp only [Option.map_some, hag r (hI.2 a k r hr)]
  simp only [cellOf, obj, fvl, e]
theorem wl_push {X : va_W} {cy : Nat → ClassId} {ad : Nat → Nat} {sh : Nat → Nat × Nat} {S : St} {n q : Nat} {e : va_E} (hI : IR n S) (he : cellOf cy (fun i => if i = n then q else ad i) sh S n = e) :
    (X ++ wl cy ad sh n S) ++ [(q, e)] = X ++ wl cy (fun i => if i = n then q else ad i) sh (n + 1) S := by
  rw [List.append_assoc]
  congr 1
  simp only [wl, List.range_succ, List.map_append, List.map_cons, List.map_nil, if_true, he]
  congr 1
  refine List.map_congr_left (fun i hi => ?_)
  have hlt : i < n := List.mem_range.mp hi
  rw [if_neg (by omega), cell_ad (ad := ad) (ad1 := fun i => if i = n then q else ad i) hI (fun j hj => if_neg (Nat.ne_of_lt hj))]
def dflt (kd : Nat) : Value := if kd = 0 then .int 0 else if kd = 1 then .long 0 else .null
theorem obj_blank {ad : Nat → Nat} {S : St} {n a : Nat} {kds : List Nat} (hI : IR n S) (ha : n ≤ a) : obj ad S a kds = kds.map dflt := by
  apply List.ext_getElem?
  intro j
  simp only [obj, List.getElem?_mapIdx, List.getElem?_map]
  cases kds[j]? with
  | none => rfl
  | some d =>
    obtain ⟨h1, h2, h3⟩ := hI.1 a j ha
    simp only [Option.map_some, fvl, dflt, h1, h2, h3]
    rfl
section GoMake
variable {G : GC} {cc : ByteArray} {own : String} {nL : Nat} {ret : Option FieldType} {rm : Room} {sh : Nat → Nat × Nat} {n : Nat} {pc q : Nat} {stF : (Nat → Nat) → List Value} {lvF : (Nat → Nat) → List (Nat × Value)} {st : List Value} {lv : List (Nat × Value)} {S : St}
theorem Go_new (C : Cx G cc BIG own nL ret rm sh n) {ci idx NN : Nat} {CN : String} {T : u_T} {ty : Nat → FieldType} (K : CI ci CN T NN ty) (hin : ∀ w ∈ u_ws CN T NN, w ∈ BIG) (hfs : ∀ j, j < NN → defaultValue (ty j) = vp_V ((fkd ci).map dflt) j) (hcl : Cond.classLink own idx CN ∈ BIG) (hinst : Cond.instantiable CN NN ∈ BIG) (hini : Cond.initialized CN ∈ BIG)
    (hsh : sh n = (ci, 0)) (hI : IR n S) (hst : stF (Gad G) = st) (hlv : lvF (Gad G) = lv) (hs1 : ∀ ad, (∀ i, i < n → ad i = Gad G i) → stF ad = st) (hl1 : ∀ ad, (∀ i, i < n → ad i = Gad G i) → lvF ad = lv)
    (hk : Gk G + 1 ≤ rm.cells) (hw : Gw G + NN ≤ rm.slots) (hdg : decode cc pc = .ok (.new idx, 3)) (hq : pc + 3 = q)
    (kk : ∀ ad, (∀ i, i < n → ad i = Gad G i) → IR (n + 1) S → Go (gset G ad (n + 1) (Gk G + 1) (Gw G + NN)) nL q (.ref (ad n) :: stF ad) (lvF ad) S) : Go G nL pc st lv S := by
  subst hq
  have C' := C
  obtain ⟨-, -, -, -, -, -, -, -, -, -, hrm, hshe, hN, -, -⟩ := C'
  subst hshe; subst hN; subst hrm
  intro H locs ls hP hD hS hl
  refine va_new C.1 C.2.1 C.2.2.2.2.1 hin ty K.2.2.2.1 C.2.2.2.1 (C.2.2.2.2.1 _ hcl) (C.2.2.2.2.1 _ hinst) (C.2.2.2.2.1 _ hini) C.2.2.2.2.2.2.2.1 hP hD hS C.2.2.2.2.2.2.2.2.1 K.1 hfs hk hw hdg (fun q1 H1 hP1 hD1 hS1 => ?_)
  have hag : ∀ i, i < GN G → (fun i => if i = GN G then q1 else Gad G i) i = Gad G i := fun i hi => by simp [Nat.ne_of_lt hi]
  have hce : cellOf (Gcy G) (fun i => if i = GN G then q1 else Gad G i) (Gsh G) S (GN G) = .inr (ci, (fkd ci).map dflt) := by
    rw [cell_obj (N := GN G + 1) ⟨Nat.lt_succ_self _, hsh⟩ K.2.1, obj_blank hI (Nat.le_refl _)]
  rw [wl_push hI hce] at hP1 hD1
  have h := kk (fun i => if i = GN G then q1 else Gad G i) hag (hI.mono (Nat.le_succ _)) H1 locs ls hP1 hD1 hS1 (by rw [hl1 _ hag]; exact hl)
  rw [hs1 _ hag] at h
  simpa using h
theorem Go_newa_i (C : Cx G cc BIG own nL ret rm sh n) {x : Int32} {len : Nat} (harr : Cond.arrayClass .int ∈ BIG) (hx : ¬ x < 0) (hlen : x.toNatClampNeg = len) (hbytes : len * 8 ≤ 536870912)
    (hsh : sh n = (14, len)) (hI : IR n S) (hst : stF (Gad G) = st) (hlv : lvF (Gad G) = lv) (hs1 : ∀ ad, (∀ i, i < n → ad i = Gad G i) → stF ad = st) (hl1 : ∀ ad, (∀ i, i < n → ad i = Gad G i) → lvF ad = lv)
    (hk : Gk G + 1 ≤ rm.cells) (hw : Gw G + len ≤ rm.slots) (hdg : decode cc pc = .ok (.newarray .int, 2)) (hq : pc + 2 = q)
    (kk : ∀ ad, (∀ i, i < n → ad i = Gad G i) → IR (n + 1) S → Go (gset G ad (n + 1) (Gk G + 1) (Gw G + len)) nL q (.ref (ad n) :: stF ad) (lvF ad) S) : Go G nL pc (.int x :: st) lv S := by
  subst hq
  have C' := C
  obtain ⟨-, -, -, -, -, -, -, -, -, -, hrm, hshe, hN, -, -⟩ := C'
  subst hshe; subst hN; subst hrm
  intro H locs ls hP hD hS hl
  refine va_newa (atype := .int) (ty := .int) (a0 := (len, .inl (fun _ => 0))) C.1 C.2.1 (C.2.2.2.2.1 _ harr) rfl C.2.2.2.2.2.2.2.1 hP hD hS C.2.2.2.2.2.2.2.2.1 (fun cA => rfl) hx hlen (Nat.le_trans (Nat.mul_le_mul_left _ (by decide)) hbytes) hk hw hdg (fun q1 cA H1 hK1 hP1 hD1 hS1 => ?_)
  have hcA : cA = Gcy G 1 := by
    have h1 := (hK1.2 5 (cA, .int) rfl).2
    have h2 := (hK1.2 1 (Gcy G 1, .int) rfl).2
    exact Option.some.inj (h1.symm.trans h2)
  subst hcA
  have hag : ∀ i, i < GN G → (fun i => if i = GN G then q1 else Gad G i) i = Gad G i := fun i hi => by simp [Nat.ne_of_lt hi]
  have hce : cellOf (Gcy G) (fun i => if i = GN G then q1 else Gad G i) (Gsh G) S (GN G) = .inl (Gcy G 1, (len, .inl (fun _ => 0))) := by
    rw [cell_i (N := GN G + 1) ⟨Nat.lt_succ_self _, hsh⟩]
    have e : gI S (GN G) = fun _ => 0 := by funext j; exact (hI.1 (GN G) j (Nat.le_refl _)).1
    rw [e]
  rw [wl_push hI hce] at hP1 hD1
  have h := kk (fun i => if i = GN G then q1 else Gad G i) hag (hI.mono (Nat.le_succ _)) H1 locs ls hP1 hD1 hS1 (by rw [hl1 _ hag]; exact hl)
  rw [hs1 _ hag] at h
  simpa using h
theorem Go_newa_c (C : Cx G cc BIG own nL ret rm sh n) {x : Int32} {len : Nat} (harr : Cond.arrayClass .char ∈ BIG) (hx : ¬ x < 0) (hlen : x.toNatClampNeg = len) (hbytes : len * 8 ≤ 536870912)
    (hsh : sh n = (13, len)) (hI : IR n S) (hst : stF (Gad G) = st) (hlv : lvF (Gad G) = lv) (hs1 : ∀ ad, (∀ i, i < n → ad i = Gad G i) → stF ad = st) (hl1 : ∀ ad, (∀ i, i < n → ad i = Gad G i) → lvF ad = lv)
    (hk : Gk G + 1 ≤ rm.cells) (hw : Gw G + len ≤ rm.slots) (hdg : decode cc pc = .ok (.newarray .char, 2)) (hq : pc + 2 = q)
    (kk : ∀ ad, (∀ i, i < n → ad i = Gad G i) → IR (n + 1) S → Go (gset G ad (n + 1) (Gk G + 1) (Gw G + len)) nL q (.ref (ad n) :: stF ad) (lvF ad) S) : Go G nL pc (.int x :: st) lv S := by
  subst hq
  have C' := C
  obtain ⟨-, -, -, -, -, -, -, -, -, -, hrm, hshe, hN, -, -⟩ := C'
  subst hshe; subst hN; subst hrm
  intro H locs ls hP hD hS hl
  refine va_newa (atype := .char) (ty := .char) (a0 := (len, .inl (fun _ => 0))) C.1 C.2.1 (C.2.2.2.2.1 _ harr) rfl C.2.2.2.2.2.2.2.1 hP hD hS C.2.2.2.2.2.2.2.2.1 (fun cA => rfl) hx hlen (Nat.le_trans (Nat.mul_le_mul_left _ (by decide)) hbytes) hk hw hdg (fun q1 cA H1 hK1 hP1 hD1 hS1 => ?_)
  have hcA : cA = Gcy G 0 := by
    have h1 := (hK1.2 5 (cA, .char) rfl).2
    have h2 := (hK1.2 0 (Gcy G 0, .char) rfl).2
    exact Option.some.inj (h1.symm.trans h2)
  subst hcA
  have hag : ∀ i, i < GN G → (fun i => if i = GN G then q1 else Gad G i) i = Gad G i := fun i hi => by simp [Nat.ne_of_lt hi]
  have hce : cellOf (Gcy G) (fun i => if i = GN G then q1 else Gad G i) (Gsh G) S (GN G) = .inl (Gcy G 0, (len, .inl (fun _ => 0))) := by
    rw [cell_c (N := GN G + 1) ⟨Nat.lt_succ_self _, hsh⟩]
    have e : gI S (GN G) = fun _ => 0 := by funext j; exact (hI.1 (GN G) j (Nat.le_refl _)).1
    rw [e]
  rw [wl_push hI hce] at hP1 hD1
  have h := kk (fun i => if i = GN G then q1 else Gad G i) hag (hI.mono (Nat.le_succ _)) H1 locs ls hP1 hD1 hS1 (by rw [hl1 _ hag]; exact hl)
  rw [hs1 _ hag] at h
  simpa using h
theorem Go_newa_z (C : Cx G cc BIG own nL ret rm sh n) {x : Int32} {len : Nat} (harr : Cond.arrayClass .boolean ∈ BIG) (hx : ¬ x < 0) (hlen : x.toNatClampNeg = len) (hbytes : len * 8 ≤ 536870912)
    (hsh : sh n = (16, len)) (hI : IR n S) (hst : stF (Gad G) = st) (hlv : lvF (Gad G) = lv) (hs1 : ∀ ad, (∀ i, i < n → ad i = Gad G i) → stF ad = st) (hl1 : ∀ ad, (∀ i, i < n → ad i = Gad G i) → lvF ad = lv)
    (hk : Gk G + 1 ≤ rm.cells) (hw : Gw G + len ≤ rm.slots) (hdg : decode cc pc = .ok (.newarray .boolean, 2)) (hq : pc + 2 = q)
    (kk : ∀ ad, (∀ i, i < n → ad i = Gad G i) → IR (n + 1) S → Go (gset G ad (n + 1) (Gk G + 1) (Gw G + len)) nL q (.ref (ad n) :: stF ad) (lvF ad) S) : Go G nL pc (.int x :: st) lv S := by
  subst hq
  have C' := C
  obtain ⟨-, -, -, -, -, -, -, -, -, -, hrm, hshe, hN, -, -⟩ := C'
  subst hshe; subst hN; subst hrm
  intro H locs ls hP hD hS hl
  refine va_newa (atype := .boolean) (ty := .boolean) (a0 := (len, .inl (fun _ => 0))) C.1 C.2.1 (C.2.2.2.2.1 _ harr) rfl C.2.2.2.2.2.2.2.1 hP hD hS C.2.2.2.2.2.2.2.2.1 (fun cA => rfl) hx hlen (Nat.le_trans (Nat.mul_le_mul_left _ (by decide)) hbytes) hk hw hdg (fun q1 cA H1 hK1 hP1 hD1 hS1 => ?_)
  have hcA : cA = Gcy G 3 := by
    have h1 := (hK1.2 5 (cA, .boolean) rfl).2
    have h2 := (hK1.2 3 (Gcy G 3, .boolean) rfl).2
    exact Option.some.inj (h1.symm.trans h2)
  subst hcA
  have hag : ∀ i, i < GN G → (fun i => if i = GN G then q1 else Gad G i) i = Gad G i := fun i hi => by simp [Nat.ne_of_lt hi]
  have hce : cellOf (Gcy G) (fun i => if i = GN G then q1 else Gad G i) (Gsh G) S (GN G) = .inl (Gcy G 3, (len, .inl (fun _ => 0))) := by
    rw [cell_z (N := GN G + 1) ⟨Nat.lt_succ_self _, hsh⟩]
    have e : gI S (GN G) = fun _ => 0 := by funext j; exact (hI.1 (GN G) j (Nat.le_refl _)).1
    rw [e]
  rw [wl_push hI hce] at hP1 hD1
  have h := kk (fun i => if i = GN G then q1 else Gad G i) hag (hI.mono (Nat.le_succ _)) H1 locs ls hP1 hD1 hS1 (by rw [hl1 _ hag]; exact hl)
  rw [hs1 _ hag] at h
  simpa using h
theorem Go_newa_j (C : Cx G cc BIG own nL ret rm sh n) {x : Int32} {len : Nat} (harr : Cond.arrayClass .long ∈ BIG) (hx : ¬ x < 0) (hlen : x.toNatClampNeg = len) (hbytes : len * 8 ≤ 536870912)
    (hsh : sh n = (15, len)) (hI : IR n S) (hst : stF (Gad G) = st) (hlv : lvF (Gad G) = lv) (hs1 : ∀ ad, (∀ i, i < n → ad i = Gad G i) → stF ad = st) (hl1 : ∀ ad, (∀ i, i < n → ad i = Gad G i) → lvF ad = lv)
    (hk : Gk G + 1 ≤ rm.cells) (hw : Gw G + len ≤ rm.slots) (hdg : decode cc pc = .ok (.newarray .long, 2)) (hq : pc + 2 = q)
    (kk : ∀ ad, (∀ i, i < n → ad i = Gad G i) → IR (n + 1) S → Go (gset G ad (n + 1) (Gk G + 1) (Gw G + len)) nL q (.ref (ad n) :: stF ad) (lvF ad) S) : Go G nL pc (.int x :: st) lv S := by
  subst hq
  have C' := C
  obtain ⟨-, -, -, -, -, -, -, -, -, -, hrm, hshe, hN, -, -⟩ := C'
  subst hshe; subst hN; subst hrm
  intro H locs ls hP hD hS hl
  refine va_newa (atype := .long) (ty := .long) (a0 := (len, .inr (.inl (fun _ => 0)))) C.1 C.2.1 (C.2.2.2.2.1 _ harr) rfl C.2.2.2.2.2.2.2.1 hP hD hS C.2.2.2.2.2.2.2.2.1 (fun cA => rfl) hx hlen (Nat.le_trans (Nat.mul_le_mul_left _ (by decide)) hbytes) hk hw hdg (fun q1 cA H1 hK1 hP1 hD1 hS1 => ?_)
  have hcA : cA = Gcy G 2 := by
    have h1 := (hK1.2 5 (cA, .long) rfl).2
    have h2 := (hK1.2 2 (Gcy G 2, .long) rfl).2
    exact Option.some.inj (h1.symm.trans h2)
  subst hcA
  have hag : ∀ i, i < GN G → (fun i => if i = GN G then q1 else Gad G i) i = Gad G i := fun i hi => by simp [Nat.ne_of_lt hi]
  have hce : cellOf (Gcy G) (fun i => if i = GN G then q1 else Gad G i) (Gsh G) S (GN G) = .inl (Gcy G 2, (len, .inr (.inl (fun _ => 0)))) := by
    rw [cell_j (N := GN G + 1) ⟨Nat.lt_succ_self _, hsh⟩]
    have e : gJ S (GN G) = fun _ => 0 := by funext j; exact (hI.1 (GN G) j (Nat.le_refl _)).2.1
    rw [e]
  rw [wl_push hI hce] at hP1 hD1
  have h := kk (fun i => if i = GN G then q1 else Gad G i) hag (hI.mono (Nat.le_succ _)) H1 locs ls hP1 hD1 hS1 (by rw [hl1 _ hag]; exact hl)
  rw [hs1 _ hag] at h
  simpa using h
theorem Go_objinit (C : Cx G cc BIG own nL ret rm sh n) {idx : Nat} {a : Nat} (h1 : Cond.methodLink own idx objectInit ∈ BIG) (h2 : Cond.instanceMethod objectInit ∈ BIG) (h3 : Cond.code objectInit ⟨#[0xb1]⟩ 1 none ∈ BIG) (hfr : 1 ≤ rm.frames) (hlo : (st.map fun v => v.category).sum + 12 ≤ rm.locals) (hdg : decode cc pc = .ok (.invokespecial idx, 3)) (hq : pc + 3 = q) (k : Go G nL q st lv S) : Go G nL pc (.ref a :: st) lv S := by
  subst hq
  have C' := C
  obtain ⟨-, -, -, -, -, -, -, -, -, -, hrm, -, -, -, -⟩ := C'
  subst hrm
  intro H locs ls hP hD hS hl
  refine W.objInit C.1 C.2.1 C.2.2.2.1 (C.2.2.2.2.1 _ h1) (C.2.2.2.2.1 _ h2) (C.2.2.2.2.1 _ h3) rfl (by rw [C.2.2.1]; exact hl.1) rfl hdg hfr (by simpa using hlo) ?_
  exact W.eq rfl (k H locs ls hP hD hS hl)
end GoMake
