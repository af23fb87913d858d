/-! ===== what the law's start gives ===== -/
theorem arrOf {s : State} {args : Array Value} {ty : FieldType} (h : (Cond.arrayClass ty).before args s = true) : ∃ cA, ArrOfT s cA ty ∧ s.vm.findClass ("[" ++ ty.toString) = some cA := by
  obtain ⟨c, k, comp, h1, h2, h3⟩ := Cond.arrayClass_spec h
  exact ⟨c, fun n z => ⟨(fun k => by simp [arrV]), k, h2, comp, h3⟩, h1⟩
theorem start_K {s : State} {args : Array Value} (hts : ∀ w ∈ lw_tbl, w.before args s = true) : ∃ (D : va_G) (cy : Nat → ClassId), va_K D vwCl (tysOf cy) s := by
  have hB : ∀ w ∈ BIG, w.before args s = true := fun w h => hts w (BIG_tbl w h)
  obtain ⟨c0, i0, k0⟩ := u_known (C := RX0) (T := TX0) (N := 4) (n := 4) hB iw_0 (hts _ (tt_1 _ (List.mem_of_getElem? (i := 131) rfl)))
  obtain ⟨c1, i1, k1⟩ := u_known (C := RX1) (T := TX1) (N := 6) (n := 6) hB iw_1 (hB _ wm_3_3)
  obtain ⟨c2, i2, k2⟩ := u_known (C := RX2) (T := TX2) (N := 4) (n := 4) hB iw_2 (hB _ wm_2_3)
  obtain ⟨c3, i3, k3⟩ := u_known (C := RX3) (T := TX3) (N := 15) (n := 15) hB iw_3 (hB _ wm_2_11)
  obtain ⟨c4, i4, k4⟩ := u_known (C := RX4) (T := TX4) (N := 15) (n := 15) hB iw_4 (hB _ wm_1_23)
  obtain ⟨c5, i5, k5⟩ := u_known (C := RX5) (T := TX5) (N := 3) (n := 3) hB iw_5 (hB _ wm_3_0)
  obtain ⟨c6, i6, k6⟩ := u_known (C := RX6) (T := TX6) (N := 10) (n := 10) hB iw_6 (hB _ wm_2_15)
  obtain ⟨c7, i7, k7⟩ := u_known (C := RX7) (T := TX7) (N := 8) (n := 8) hB iw_7 (hB _ wm_2_19)
  obtain ⟨c8, i8, k8⟩ := u_known (C := RX8) (T := TX8) (N := 9) (n := 9) hB iw_8 (hB _ wm_1_19)
  obtain ⟨c9, i9, k9⟩ := u_known (C := RX9) (T := TX9) (N := 8) (n := 8) hB iw_9 (hB _ wm_2_7)
  obtain ⟨c10, i10, k10⟩ := u_known (C := RX10) (T := TX10) (N := 7) (n := 7) hB iw_10 (hB _ wm_1_15)
  obtain ⟨c11, i11, k11⟩ := u_known (C := RX11) (T := TX11) (N := 11) (n := 11) hB iw_11 (hB _ wm_1_1)
  obtain ⟨c12, i12, k12⟩ := u_known (C := RX12) (T := TX12) (N := 75) (n := 75) hB iw_12 (hB _ wm_1_4)
  obtain ⟨a0, r0, f0⟩ := arrOf (ty := .char) (hts _ (tt_1 _ (List.mem_of_getElem? (i := 120) rfl)))
  obtain ⟨a1, r1, f1⟩ := arrOf (ty := .int) (hts _ (tt_1 _ (List.mem_of_getElem? (i := 121) rfl)))
  obtain ⟨a2, r2, f2⟩ := arrOf (ty := .long) (hts _ (tt_1 _ (List.mem_of_getElem? (i := 122) rfl)))
  obtain ⟨a3, r3, f3⟩ := arrOf (ty := .boolean) (hts _ (tt_6 _ (List.mem_of_getElem? (i := 234) rfl)))
  obtain ⟨cm, a4, k4a, g1, -, g3, g4, g5⟩ := Cond.arrayOver_spec (hts (.arrayOver (.object "EndsRound$Mark")) (tt_3 _ (List.mem_of_getElem? (i := 7) rfl)))
  refine ⟨(fun c => [c0, c1, c2, c3, c4, c5, c6, c7, c8, c9, c10, c11, c12].getD c c0, fun c => [i0, i1, i2, i3, i4, i5, i6, i7, i8, i9, i10, i11, i12].getD c i0), (fun k => [a0, a1, a2, a3, a4].getD k a0), ?_, ?_⟩
  · intro c q h
    match c, h with
    | 0, h => cases h; exact k0
    | 1, h => cases h; exact k1
    | 2, h => cases h; exact k2
    | 3, h => cases h; exact k3
    | 4, h => cases h; exact k4
    | 5, h => cases h; exact k5
    | 6, h => cases h; exact k6
    | 7, h => cases h; exact k7
    | 8, h => cases h; exact k8
    | 9, h => cases h; exact k9
    | 10, h => cases h; exact k10
    | 11, h => cases h; exact k11
    | 12, h => cases h; exact k12
    | n + 13, h => simp [vwCl] at h
  · intro k q h
    match k, h with
    | 0, h => cases h; exact ⟨r0, f0⟩
    | 1, h => cases h; exact ⟨r1, f1⟩
    | 2, h => cases h; exact ⟨r2, f2⟩
    | 3, h => cases h; exact ⟨r3, f3⟩
    | 4, h => cases h; exact ⟨fun n z => ⟨(fun k => by simp [arrV]), k4a, g3, cm, g4⟩, k4a, cm, g3, g4, g1, g5⟩
    | n + 5, h => simp [tysOf] at h
theorem start_NW {s : State} {b : Nat} (hts : ∀ w ∈ lw_tbl, w.before #[Value.ref b] s = true) : NW s := fun w hw => va_tabs (nest_on (nwL_nest w hw)) rfl (hts w (tn_L w hw))
theorem start_SP {s : State} {args : Array Value} (hts : ∀ w ∈ lw_tbl, w.before args s = true) (hgv : (Jvm.Cond.and given_1 narrow_1).before args s = true) : ∃ aK aV, SPre aK aV (fun q => s.heap.size ≤ q) s ∧ vk_R RX10 29 TX aK s := by
  have hs := flat_of_before _ hgv
  have hA : ∀ a : Nat, a < s.heap.size → ¬ s.heap.size ≤ a := fun a h => Nat.not_le.mpr h
  obtain ⟨adK, adV, ⟨h1, -⟩, h2⟩ := vk_Sof (args := args) (s := s) (N := 1) (tm := fun _ => .string RX10 29) (len := [128]) (byt := [tbN.map nI]) (A := fun q => s.heap.size ≤ q)
    (fun i hi => by have e : i = 0 := by omega
                    subst e; decide)
    (fun i hi => hs _ (by decide +kernel)) (fun i hi => hs _ (by decide +kernel)) (fun i hi => hs _ (by decide +kernel))
    (fun i hi => by have e : i = 0 := by omega
                    subst e; exact hs _ (by decide +kernel))
    (fun i hi j hj => by have e : i = 0 := by omega
                         subst e; exact hs _ ((by decide +kernel : ∀ j, j < 128 → (Cond.eq (.elem (.field (.string RX10 29) "java/lang/String" "value" "[B") (.int (Int32.ofNat j))) (.int ((([tbN.map nI] : List (List Int32)).getD 0 []).getD j 0))) ∈ flatC (Jvm.Cond.and given_1 narrow_1)) j hj))
    (fun i j hi hj hne => absurd (by omega) hne) hA
  obtain ⟨g1, g2, g3, g4⟩ := h1 0 (by decide)
  refine ⟨adK 0, adV 0, ⟨g1, g2, g3, ?_, va_Zof (hts _ (tt_1 _ (List.mem_of_getElem? (i := 48) rfl))) (hts _ (tt_1 _ (List.mem_of_getElem? (i := 3) rfl))) (va_eqi (hs _ (by decide +kernel))) hA, va_Zqof (hts _ (tt_1 _ (List.mem_of_getElem? (i := 64) rfl))) (hts _ (tt_1 _ (List.mem_of_getElem? (i := 5) rfl))) (hs _ (by decide +kernel)) hA⟩, vk_R.of (hts _ (tt_1 _ (List.mem_of_getElem? (i := 38) rfl))) (h2 0 (by decide))⟩
  have e : (fun j => Value.int ((([tbN.map nI] : List (List Int32)).getD 0 []).getD j 0)) = fun j => Value.int (tbI j) := by
    funext j
    refine congrArg Value.int ?_
    show (tbN.map nI).getD j 0 = nI (tbN.getD j 0)
    simp only [List.getD_eq_getElem?_getD, List.getElem?_map]
    cases tbN[j]? <;> rfl
  exact e ▸ g4
theorem start_J {s : State} {args : Array Value} (hts : ∀ w ∈ lw_tbl, w.before args s = true) (hgv : (Jvm.Cond.and given_1 narrow_1).before args s = true) : JX (fun q => s.heap.size ≤ q) s := by
  have hs := flat_of_before _ hgv
  have hA : ∀ a : Nat, a < s.heap.size → ¬ s.heap.size ≤ a := fun a h => Nat.not_le.mpr h
  refine ⟨?_, vx_Zqof (hts _ (tt_5 _ (List.mem_of_getElem? (i := 191) rfl))) (hts _ (tt_1 _ (List.mem_of_getElem? (i := 20) rfl))) (hs _ (by decide +kernel)) hA, vx_Zqof (hts _ (tt_5 _ (List.mem_of_getElem? (i := 193) rfl))) (hts _ (tt_1 _ (List.mem_of_getElem? (i := 20) rfl))) (hs _ (by decide +kernel)) hA⟩
  obtain ⟨a, _, _, _, ha, -⟩ := Cond.exactly_spec (hs (.exactly (.string RX11 244) "java/lang/String") (by decide +kernel))
  exact ⟨a, vk_R.of (hts _ (tt_5 _ (List.mem_of_getElem? (i := 203) rfl))) ha⟩
