/-! ===== the law's layer: two systems side by side, the script, the row for judged's answer ===== -/
abbrev gw (G : GC) (ad : Nat → Nat) (X : va_W) (sh : Nat → Nat × Nat) (N k w : Nat) : GC := (Gp G, Gl G, Ge G, GRm G, Gs G, Gm G, Ga G, Gb G, Gme G, Gc G, GQ G, GD G, Gcy G, ad, X, GA G, sh, N, k, w)
theorem va_P_perm {D : va_G} {cl : List vw_C} {w w' : va_W} {H : Heap} (hp : w.Perm w') (h : va_P D cl w H) : va_P D cl w' H := by
  intro k q hk
  obtain ⟨i, hi⟩ := List.mem_iff_getElem?.mp (hp.mem_iff.mpr (List.mem_of_getElem? hk))
  exact h i q hi
theorem va_D_nodup {A : Nat → Prop} {w : va_W} (h : va_D A w) : (w.map Prod.fst).Nodup := by
  rw [List.nodup_iff_pairwise_ne, List.pairwise_iff_getElem]
  intro i j hi hj hij e
  simp only [List.length_map] at hi hj
  simp only [List.getElem_map] at e
  exact absurd (h.1 i j _ _ (List.getElem?_eq_getElem hi) (List.getElem?_eq_getElem hj) e) (Nat.ne_of_lt hij)
theorem va_D_of {A : Nat → Prop} {w : va_W} (h1 : (w.map Prod.fst).Nodup) (h2 : ∀ q ∈ w, A q.1) : va_D A w := by
  rw [List.nodup_iff_pairwise_ne, List.pairwise_iff_getElem] at h1
  refine ⟨fun i j p q hi hj e => ?_, fun k q hk => h2 q (List.mem_of_getElem? hk)⟩
  obtain ⟨hi1, hi2⟩ := List.getElem?_eq_some_iff.mp hi
  obtain ⟨hj1, hj2⟩ := List.getElem?_eq_some_iff.mp hj
  rcases Nat.lt_trichotomy i j with c | c | c
  · have h9 := h1 i j (by simpa using hi1) (by simpa using hj1) c
    rw [List.getElem_map, List.getElem_map, hi2, hj2] at h9
    exact absurd e h9
  · exact c
  · have h9 := h1 j i (by simpa using hj1) (by simpa using hi1) c
    rw [List.getElem_map, List.getElem_map, hi2, hj2] at h9
    exact absurd e.symm h9
theorem va_D_perm {A : Nat → Prop} {w w' : va_W} (hp : w.Perm w') (h : va_D A w) : va_D A w' :=
  va_D_of ((hp.map Prod.fst).nodup_iff.mp (va_D_nodup h)) (fun q hq => by
    obtain ⟨i, hi⟩ := List.mem_iff_getElem?.mp (hp.mem_iff.mpr hq)
    exact h.2 i q hi)
theorem va_D_fst {A : Nat → Prop} {w w' : va_W} (e : w.map Prod.fst = w'.map Prod.fst) (h : va_D A w) : va_D A w' :=
  va_D_of (e ▸ va_D_nodup h) (fun q hq => by
    have h1 : q.1 ∈ w.map Prod.fst := by rw [e]; exact List.mem_map_of_mem hq
    obtain ⟨p, hp, hpe⟩ := List.mem_map.mp h1
    obtain ⟨i, hi⟩ := List.mem_iff_getElem?.mp hp
    rw [← hpe]; exact h.2 i p hi)
section GoLaw
variable {G : GC} {cc : ByteArray} {ws : List Cond} {own : String} {nL : Nat} {ret : Option FieldType} {rm : Room} {sh : Nat → Nat × Nat} {N : Nat} {pc q : Nat} {st : List Value} {lv lv' : List (Nat × Value)} {S : St}
theorem Cx_gw (C : Cx G cc ws own nL ret rm sh N) {ad : Nat → Nat} {X : va_W} {sh' : Nat → Nat × Nat} {N' k w : Nat} (hk : k ≤ rm.cells) (hw : w ≤ rm.slots) : Cx (gw G ad X sh' N' k w) cc ws own nL ret rm sh' N' := by
  obtain ⟨a1, a2, a3, a4, a5, a6, a7, a8, a9, a10, a11, -, -, -, -⟩ := C
  exact ⟨a1, a2, a3, a4, a5, a6, a7, a8, a9, a10, a11, rfl, rfl, hk, hw⟩
/-- the same world, seen from another system, with more room spent -/
theorem Go_perm {ad : Nat → Nat} {X : va_W} {sh' : Nat → Nat × Nat} {N' k w : Nat} {S' : St} (hp : (Wd G S).Perm (X ++ wl (Gcy G) ad sh' N' S')) (hk : Gk G ≤ k) (hw : Gw G ≤ w) (h : Go (gw G ad X sh' N' k w) nL pc st lv S') : Go G nL pc st lv S := by
  intro H locs ls hP hD hS hl
  exact W.widen hk hw (h H locs ls (va_P_perm hp hP) (va_D_perm hp hD) hS hl)
theorem Go_sld (C : Cx G cc ws own nL ret rm sh N) {b L : Nat} {xs : Nat → Int32} (hX : va_X b L xs (Gs G) (Gs G).heap) (hb : b < (Gs G).heap.size) (hA : ¬ GA G b) {i : Int32} {n : Nat} (hi : i = nI n) (hn : n < L) (hL : L ≤ 448) (hdg : decode cc pc = .ok (.iaload, 1)) (hq : pc + 1 = q) (k : Go G nL q (.int (xs n) :: st) lv S) : Go G nL pc (.int i :: .ref b :: st) lv S := by
  subst hq; subst hi
  intro H locs ls hP hD hS hl
  refine va_sld C.1 C.2.1 hX hb hA hS (vp_in_nI hn (by omega)) hdg ?_
  rw [nI_clamp (by omega)]
  exact k H locs ls hP hD hS hl
theorem Go_slen (C : Cx G cc ws own nL ret rm sh N) {b L : Nat} {xs : Nat → Int32} (hX : va_X b L xs (Gs G) (Gs G).heap) (hb : b < (Gs G).heap.size) (hA : ¬ GA G b) (hdg : decode cc pc = .ok (.arraylength, 1)) (hq : pc + 1 = q) (k : Go G nL q (.int (nI L) :: st) lv S) : Go G nL pc (.ref b :: st) lv S := by
  subst hq
  intro H locs ls hP hD hS hl
  exact va_slen C.1 C.2.1 hX hb hA hS hdg (k H locs ls hP hD hS hl)
theorem Go_oload (C : Cx G cc ws own nL ret rm sh N) {aO : Nat} {f : Nat → Int64} {X1 : va_W} (hX : GX G = (aO, oc (Gcy G) f) :: X1) (hdg : decode cc pc = .ok (.laload, 1)) (hq : pc + 1 = q) (k : Go G nL q (.long (f 0) :: st) lv S) : Go G nL pc (.int 0 :: .ref aO :: st) lv S := by
  subst hq
  intro H locs ls hP hD hS hl
  have e : (Wd G S)[0]? = some (aO, oc (Gcy G) f) := by show (GX G ++ wl (Gcy G) (Gad G) (Gsh G) (GN G) S)[0]? = _; rw [hX]; rfl
  exact va_lald C.1 C.2.1 C.2.2.2.2.2.2.2.1 hP 0 2 e rfl (i := 0) (vp_in_nI (n := 0) (N := 1) (by omega) (by omega)) hdg (k H locs ls hP hD hS hl)
end GoLaw
section GoLaw2
variable {G : GC} {cc : ByteArray} {own : String} {nL : Nat} {ret : Option FieldType} {rm : Room} {sh : Nat → Nat × Nat} {N : Nat} {pc q : Nat} {st : List Value} {lv lv' : List (Nat × Value)} {S : St}
theorem aeblind {aK aV : Nat} {av : List Value} {D : va_G} {cy : Nat → ClassId} {ad : Nat → Nat} {X : va_W} {sz : Nat} {S : St} {A : Nat → Prop} : FrameBlind (va_Pc av (fun U => PreB D cy ad X sz shE 1 S U ∧ SPre aK aV A U ∧ vk_R RX10 29 TX aK U ∧ va_AO "EndsRound$Mark" U)) :=
  fun a U g mk q => ⟨(preB_blind a U g mk ⟨q.1, q.2.1⟩).1, (preB_blind a U g mk ⟨q.1, q.2.1⟩).2, (spre_blind a U g mk ⟨q.1, q.2.2.1⟩).2, vk_R.warm (s := U) (U := U.calling g mk a) (State.WarmedH.refl U) q.2.2.2.1, va_AO.moved (Vm.Alike.refl U.vm) q.2.2.2.2⟩
/-- the call of EndsRound's constructor -/
theorem Go_callAE (C : Cx G cc BIG own nL ret rm shE 1) {aK aV : Nat} {rmy : Room} {mc ms idx : Nat} {Q1 : St → Prop} (hM : MetAE aK aV (Gl G) yX11_init (wB yX11_init cX11_init 2 none) rmy mc ms S Q1)
    (hSP : SPre aK aV (GA G) (Gs G)) (hK : vk_R RX10 29 TX aK (Gs G)) (hAO : va_AO "EndsRound$Mark" (Gs G))
    (hlk : Cond.methodLink own idx yX11_init ∈ BIG) (hr0 : rmy.cells = mc ∧ rmy.slots = ms) (hroom : rmy.frames + 1 ≤ rm.frames ∧ 8 + (2 + 11) + rmy.locals ≤ rm.locals) (hW : (st.map fun v => v.category).sum ≤ 8)
    {stF : (Nat → Nat) → List Value} {lvF : (Nat → Nat) → List (Nat × Value)} (hs1 : ∀ ad, (∀ i, i < 1 → ad i = Gad G i) → stF ad = st) (hl1 : ∀ ad, (∀ i, i < 1 → ad i = Gad G i) → lvF ad = lv)
    (hk : Gk G + mc ≤ rm.cells) (hw : Gw G + ms ≤ rm.slots) (hdg : decode cc pc = .ok (.invokespecial idx, 3)) (hq : pc + 3 = q)
    (k : ∀ ad S', (∀ i, i < 1 → ad i = Gad G i) → Q1 S' → RCE S' → Go (gset G ad 123 (Gk G + mc) (Gw G + ms)) nL q (stF ad) (lvF ad) S') : Go G nL pc (.ref (Gad G 0) :: st) lv S := by
  subst hq
  have C' := C
  obtain ⟨-, -, -, -, -, -, -, -, -, -, hrm, hsh, hN, -, -⟩ := C'
  subst hrm
  intro H locs ls hP hD hS hl
  have hP' : va_P (GD G) vwCl (GX G ++ wl (Gcy G) (Gad G) shE 1 S) H := by rw [← hsh, ← hN]; exact hP
  have hD' : va_D (GA G) (GX G ++ wl (Gcy G) (Gad G) shE 1 S) := by rw [← hsh, ← hN]; exact hD
  have hA1 : ∀ q, va_A (GX G ++ wl (Gcy G) (Gad G) shE 1 S) H.size q → GA G q := inA (D := GD G) hD' C.2.2.2.2.2.2.2.2.1 hS.1
  have pre : ∀ U : State, U.heap = H → (Gs G).WarmedH U.vm → va_Pc [Value.ref (Gad G 0)] (fun U => PreB (GD G) (Gcy G) (Gad G) (GX G) H.size shE 1 S U ∧ SPre aK aV (va_A (GX G ++ wl (Gcy G) (Gad G) shE 1 S) H.size) U ∧ vk_R RX10 29 TX aK U ∧ va_AO "EndsRound$Mark" U) ([Value.ref (Gad G 0)] : List Value).toArray U := fun U hU hW =>
    ⟨rfl, ⟨by rw [hU], by rw [hU]; exact hP', va_K.moved hW.alike C.2.2.2.2.2.2.2.1, hD'.weaken (fun _ _ _ _ => trivial), NW.warm hW C.2.2.2.2.2.2.2.2.2.1⟩, SPre.go hSP hS hA1 hU hW.alike, vk_R.warm hW hK, va_AO.moved hW.alike hAO⟩
  refine va_callv (va_runI (As := []) (rest := st) ⟨C.1, C.2.1, C.2.2.1, C.2.2.2.1, C.2.2.2.2.1⟩ (hM (GD G) (Gcy G) (Gad G) (GX G) H.size) (cwI 0 C.2.2.2.2.1 (gdN wm_1_10) rfl hr0.1 hr0.2 (C.2.2.2.2.1 _ wm_1_2) (C.2.2.2.2.1 _ hlk) (C.2.2.2.2.1 _ wm_1_9) rfl (by decide +kernel) hroom) ⟨aeblind, pre⟩ rfl rfl hl.1 rfl (lv_room hW) hdg ⟨hk, hw⟩) hS (fun q _ h => hA1 q h) hA1 (fun u t H1 locs1 ht hvm hw2 hB hz hk2 hS1 => ?_)
  obtain ⟨hag, hq1, hI1⟩ := hw2
  have hP1 := hB.1
  rw [ht] at hP1
  have h := k u.1 u.2 hag hq1 hI1 H1 locs1 ls (by show va_P _ _ (GX G ++ wl (Gcy G) u.1 (Gsh G) 123 u.2) _; rw [hsh]; exact hP1) (by show va_D _ (GX G ++ wl (Gcy G) u.1 (Gsh G) 123 u.2); rw [hsh]; exact hB.2.weaken (fun k q hk h => hA1 _ h)) hS1 (by rw [hl1 _ hag]; exact hl)
  rw [hs1 _ hag] at h
  exact h
/-- the law's call of its own judged -/
theorem gdLJ : GoodIn wsJX (va_wsS RL 100 yL_judged wsLJ) := fun w hw => by
  rcases List.mem_append.mp hw with hw | hw
  · refine jgo (List.mem_append_left _ ?_)
    rcases List.mem_cons.mp hw with rfl | hw
    · exact wm_44_6
    rcases List.mem_cons.mp hw with rfl | hw
    · exact wm_44_7
    rcases List.mem_cons.mp hw with rfl | hw
    · exact wm_44_8
    exact absurd hw List.not_mem_nil
  · refine jgo ?_
    rcases List.mem_cons.mp hw with rfl | hw
    · exact List.mem_append_left _ wm_44_9
    · exact hw
theorem Go_LJ (C : Cx G cc wsJX RL nL ret rm shE NE) {aO : Nat} {f : Nat → Int64} {X1 : va_W} {p0 : Int32} {Q : Int32 → St → Prop} (hX : GX G = (aO, oc (Gcy G) f) :: X1) (h0 : ¬ p0 < 0) (h1 : p0 ≤ 1) (hR : RCE S) (hw : w_X11_judged p0 S Q) (hr : 10 + 1 ≤ rm.frames ∧ 8 + (4 + 11) + 140 ≤ rm.locals) (hst : (st.map fun v => v.category).sum ≤ 8) (hdg : decode cc pc = .ok (.invokestatic 100, 3)) (hq : pc + 3 = q)
    (k : ∀ v S' f', Q v S' → RCE S' → f' 0 = v.toInt64 → Go (gw G (Gad G) ((aO, oc (Gcy G) f') :: X1) shE NE (Gk G) (Gw G)) nL q (.int 0 :: st) lv S') : Go G nL pc (.ref aO :: .int p0 :: .ref (Gad G 0) :: st) lv S := by
  subst hq
  have C' := C
  obtain ⟨-, -, -, -, -, -, -, -, -, -, hrm, hsh, hN, hk9, hw9⟩ := C'
  subst hrm
  intro H locs ls hP hD hS hl
  have eW : Wd G S = ((aO, oc (Gcy G) f) :: X1) ++ wl (Gcy G) (Gad G) shE NE S := by show GX G ++ wl (Gcy G) (Gad G) (Gsh G) (GN G) S = _; rw [hX, hsh, hN]
  rw [eW] at hP hD
  have hA1 : ∀ q, va_A (((aO, oc (Gcy G) f) :: X1) ++ wl (Gcy G) (Gad G) shE NE S) H.size q → GA G q := inA (D := GD G) hD C.2.2.2.2.2.2.2.2.1 hS.1
  have pre : ∀ U : State, U.heap = H → (Gs G).WarmedH U.vm → va_Pc [Value.ref (Gad G 0), .int p0, .ref aO] (PreB (GD G) (Gcy G) (Gad G) ((aO, oc (Gcy G) f) :: X1) H.size shE NE S) ([Value.ref (Gad G 0), .int p0, .ref aO] : List Value).toArray U := fun U hU hW =>
    ⟨rfl, by rw [hU], by rw [hU]; exact hP, va_K.moved hW.alike C.2.2.2.2.2.2.2.1, hD.weaken (fun _ _ _ _ => trivial), NW.warm hW C.2.2.2.2.2.2.2.2.2.1⟩
  refine va_calli (vx_runSW (As := [Value.ref (Gad G 0), .int p0, .ref aO]) (rest := st) ⟨C.1, C.2.1, C.2.2.1, C.2.2.2.1, C.2.2.2.2.1⟩ (c_L_judged (Gl G) h0 h1 hR hw (GD G) (Gcy G) (Gad G) aO f X1 H.size) (vx_cwSW 3 C.2.2.2.2.1 gdLJ rfl rfl rfl (by decide +kernel) hr) ⟨preB_blind, pre⟩ rfl rfl hl.1 rfl (lv_room hst) hdg ⟨hk9, hw9⟩) hS (fun q _ h => hA1 q h) hA1 (fun r u t H1 locs1 ht hvm hw2 hB hz hk2 hS1 => ?_)
  obtain ⟨rfl, v, hv, hf⟩ := hw2
  have hP1 := hB.1
  rw [ht] at hP1
  refine k v u.1 u.2 hv hB.2 hf H1 locs1 ls hP1 ?_ hS1 hl
  exact va_D_fst (by show List.map Prod.fst (((aO, oc (Gcy G) f) :: X1) ++ wl (Gcy G) (Gad G) shE NE S) = List.map Prod.fst (((aO, oc (Gcy G) u.2) :: X1) ++ wl (Gcy G) (Gad G) shE NE u.1); simp [wl, Function.comp_def]) hD
theorem Go_LJX (C : Cx G cc wsJX RL nL ret rm shE NE) (hfl : (Gl G).stackTraces = false) {aO : Nat} {f : Nat → Int64} {X1 : va_W} {p0 : Int32} (hX : GX G = (aO, oc (Gcy G) f) :: X1) (h0 : p0 < 0 ∨ 1 < p0) (hR : RCE S) (hJ : JX (GA G) (Gs G)) (hr : 10 + 1 ≤ rm.frames ∧ 8 + (4 + 11) + 140 ≤ rm.locals) (hk9 : Gk G + 1 ≤ rm.cells) (hw9 : Gw G + 6 ≤ rm.slots) (hst : (st.map fun v => v.category).sum ≤ 8) (hdg : decode cc pc = .ok (.invokestatic 100, 3)) (hq : pc + 3 = q)
    (k : Go (gw G (Gad G) (GX G) shE NE (Gk G + 1) (Gw G + 6)) nL q (.int 1 :: st) lv S) : Go G nL pc (.ref aO :: .int p0 :: .ref (Gad G 0) :: st) lv S := by
  subst hq
  have C' := C
  obtain ⟨-, -, -, -, -, -, -, -, -, -, hrm, hsh, hN, -, -⟩ := C'
  subst hrm
  intro H locs ls hP hD hS hl
  have eW : Wd G S = ((aO, oc (Gcy G) f) :: X1) ++ wl (Gcy G) (Gad G) shE NE S := by show GX G ++ wl (Gcy G) (Gad G) (Gsh G) (GN G) S = _; rw [hX, hsh, hN]
  rw [eW] at hP hD
  have hA1 : ∀ q, va_A (((aO, oc (Gcy G) f) :: X1) ++ wl (Gcy G) (Gad G) shE NE S) H.size q → GA G q := inA (D := GD G) hD C.2.2.2.2.2.2.2.2.1 hS.1
  have pre : ∀ U : State, U.heap = H → (Gs G).WarmedH U.vm → va_Pc [Value.ref (Gad G 0), .int p0, .ref aO] (PreX (GD G) (Gcy G) (Gad G) ((aO, oc (Gcy G) f) :: X1) H.size S) ([Value.ref (Gad G 0), .int p0, .ref aO] : List Value).toArray U := fun U hU hW =>
    ⟨rfl, ⟨by rw [hU], by rw [hU]; exact hP, va_K.moved hW.alike C.2.2.2.2.2.2.2.1, hD.weaken (fun _ _ _ _ => trivial), NW.warm hW C.2.2.2.2.2.2.2.2.2.1⟩, JX.go hJ hS hA1 hU hW⟩
  refine va_calli (vx_runSW (As := [Value.ref (Gad G 0), .int p0, .ref aO]) (rest := st) ⟨C.1, C.2.1, C.2.2.1, C.2.2.2.1, C.2.2.2.2.1⟩ (c_L_judgedX (Gl G) hfl h0 hR (GD G) (Gcy G) (Gad G) aO f X1 H.size) (vx_cwSW 3 C.2.2.2.2.1 gdLJ rfl rfl rfl (by decide +kernel) hr) ⟨preX_blind, pre⟩ rfl rfl hl.1 rfl (lv_room hst) hdg ⟨hk9, hw9⟩) hS (fun q _ h => hA1 q h) hA1 (fun r u t H1 locs1 ht hvm hw2 hB hz hk2 hS1 => ?_)
  obtain ⟨rfl, e1, e2⟩ := hw2
  have hP1 := hB.1
  rw [ht, e1, e2] at hP1
  refine k H1 locs1 ls (by show va_P _ _ (GX G ++ wl (Gcy G) (Gad G) shE NE S) _; rw [hX]; exact hP1) (by show va_D _ (GX G ++ wl (Gcy G) (Gad G) shE NE S); rw [hX]; exact hD) hS1 hl
end GoLaw2
