-- X1_ofLength
abbrev rm_X1_ofLength : Room := { frames := 1, cells := 0, slots := 0, locals := 21 }
set_option maxRecDepth 100000 in
set_option maxHeartbeats 4000000 in
theorem g_X1_ofLength_30 {G : GC} (C : Cx G cX1_ofLength BIG RX1 4 (some .int) rm_X1_ofLength shE NE) {Q : Int32 → St → Prop} (hQ : QI G RCE Q) (o : Nat) (p0 : Int32) (ho : isE1 o) (v3 : Int32) (t0 : Int32) (t1 : Int32) {k4 : Int32 → Int32 → St → Prop} (hk4 : ∀ (v2 : Int32) (v3 : Int32) (S : St), RCE S → k4 v2 v3 S → Go G 4 4 [] [(0, .ref (Gad G (o))), (1, .int p0), (2, .int v2), (3, .int v3)] S) {S : St} (hR : RCE S) (hw : w_X1_ofLength_30 o p0 k4 v3 t0 t1 S) : Go G 4 30 [.int t0, .int t1] [(0, .ref (Gad G (o))), (1, .int p0), (3, .int v3)] S := by
  unfold w_X1_ofLength_30 at hw
  refine Go_iadd (q := 31) C dX1_ofLength_30 rfl ?_
  refine Go_topi (fun x31_3 e_x31_3 => ?_)
  have hw := hw x31_3 e_x31_3
  refine Go_istore_n (q := 32) (lv' := [(2, .int x31_3), (0, .ref (Gad G (o))), (1, .int p0), (3, .int v3)]) C rfl dX1_ofLength_31 (by decide) rfl rfl ?_
  refine Go_iinc2 (q := 35) (kp := 3) (cst := (1 : Int32)) C dX1_ofLength_32 rfl rfl (by decide) rfl (fun x32_4 e_x32_4 => ?_)
  have hw := hw x32_4 e_x32_4
  refine Go_lve (lv' := [(3, .int x32_4), (2, .int x31_3), (0, .ref (Gad G (o))), (1, .int p0)]) rfl ?_
  refine Go_goto (q := 4) C dX1_ofLength_35 rfl ?_
  refine Go_lvp [2, 3, 1, 0] rfl ?_
  exact hk4 _ _ _ hR hw
set_option maxRecDepth 100000 in
set_option maxHeartbeats 4000000 in
theorem g_X1_ofLength_4 {G : GC} (C : Cx G cX1_ofLength BIG RX1 4 (some .int) rm_X1_ofLength shE NE) {Q : Int32 → St → Prop} (hQ : QI G RCE Q) (o : Nat) (p0 : Int32) (ho : isE1 o) (v2 : Int32) (v3 : Int32) {S : St} (hR : RCE S) (hw : w_X1_ofLength_4 o p0 Q v2 v3 S) : Go G 4 4 [] [(0, .ref (Gad G (o))), (1, .int p0), (2, .int v2), (3, .int v3)] S := by
  obtain ⟨n, hw⟩ := hw
  induction n generalizing v2 v3 S with
  | zero => exact hw.elim
  | succ n ih =>
    have hw : b_X1_ofLength_4 o p0 Q (lpn (fun _ _ _ => False) (b_X1_ofLength_4 o p0 Q) n) v2 v3 S := hw
    generalize lpn (fun _ _ _ => False) (b_X1_ofLength_4 o p0 Q) n = kf at hw ih
    have hk4 := fun (v2 : Int32) (v3 : Int32) (S : St) (hR : RCE S) hw => ih v2 v3 hR hw
    unfold b_X1_ofLength_4 at hw
    refine Go_iload_n (q := 5) C 3 rfl dX1_ofLength_4 rfl ?_
    refine Go_aload_n (q := 6) C 0 rfl dX1_ofLength_5 rfl ?_
    refine Go_getI (q := 9) (k := 1) C ci1 iw_1 (oE1 ho) rfl wm_11_4 rfl dX1_ofLength_6 rfl ?_
    refine Go_icmp_ge (t := 38) (q := 12) C hw dX1_ofLength_9 rfl rfl (fun hw => ?_) (fun hw => ?_)
    · refine Go_iload_n (q := 39) C 1 rfl dX1_ofLength_38 rfl ?_
      refine Go_iconst (q := 40) (v := (1 : Int32)) C dX1_ofLength_39 rfl rfl ?_
      refine Go_icmp_ge (t := 47) (q := 43) C hw dX1_ofLength_40 rfl rfl (fun hw => ?_) (fun hw => ?_)
      · refine Go_iload_n (q := 48) C 2 rfl dX1_ofLength_47 rfl ?_
        refine Go_iload_n (q := 49) C 1 rfl dX1_ofLength_48 rfl ?_
        obtain ⟨hne, hw⟩ := hw
        refine Go_idiv (q := 50) C hne dX1_ofLength_49 rfl ?_
        exact Go_iret C hQ hR hw dX1_ofLength_50
      · refine Go_iconst (q := 44) (v := (0 : Int32)) C dX1_ofLength_43 rfl rfl ?_
        refine Go_goto (q := 50) C dX1_ofLength_44 rfl ?_
        exact Go_iret C hQ hR hw dX1_ofLength_50
    · refine Go_iload_n (q := 13) C 2 rfl dX1_ofLength_12 rfl ?_
      refine Go_aload_n (q := 14) C 0 rfl dX1_ofLength_13 rfl ?_
      refine Go_getA (q := 17) (k := 0) C ci1 iw_1 (oE1 ho) (rE1_0 hR ho) rfl wm_8_2 rfl dX1_ofLength_14 rfl ?_
      refine Go_iload_n (q := 18) C 3 rfl dX1_ofLength_17 rfl ?_
      refine Go_callSN_I (av := (fun ad => [.ref (ad ((o + 1))), .int v3])) (st := [.int v2]) (C := C) (hM := c_X11_cell (Gl G) (ok_ln (oE1_0 ho)) hR hw) (host := "EndsRound") (hnw := nw_80) (hini := wm_1_2) (hst2 := wm_10_22) (hcode := wm_10_23) (n := 2) (hd := by decide +kernel) (hr0 := ⟨rfl, rfl⟩) (hroom := ⟨by first | decide | (dsimp only; omega), by first | decide | (dsimp only; omega)⟩) (hlen := rfl) (hst := rfl) (hW := Nat.le_of_ble_eq_true rfl) (hdg := dX1_ofLength_18) (q := 21) (hq := rfl) (fun r18_2 S18_1 hw hR => ?_)
      refine Go_iload_n (q := 22) C 1 rfl dX1_ofLength_21 rfl ?_
      refine Go_icmp_ne (t := 29) (q := 25) C hw dX1_ofLength_22 rfl rfl (fun hw => ?_) (fun hw => ?_)
      · refine Go_iconst (q := 26) (v := (1 : Int32)) C dX1_ofLength_25 rfl rfl ?_
        refine Go_goto (q := 30) C dX1_ofLength_26 rfl ?_
        refine Go_lvp [0, 1, 3] rfl ?_
        exact g_X1_ofLength_30 C hQ o p0 ho _ _ _ hk4 hR hw
      · refine Go_iconst (q := 30) (v := (0 : Int32)) C dX1_ofLength_29 rfl rfl ?_
        refine Go_lvp [0, 1, 3] rfl ?_
        exact g_X1_ofLength_30 C hQ o p0 ho _ _ _ hk4 hR hw
set_option maxRecDepth 100000 in
set_option maxHeartbeats 4000000 in
theorem c_X1_ofLength (l : Launch) {o : Nat} (ho : isE1 o) {p0 : Int32} {S : St} {Q : Int32 → St → Prop} (hR : RCE S) (hw : w_X1_ofLength o p0 S Q) : MetI l yX1_ofLength (wB yX1_ofLength cX1_ofLength 4 (some .int)) rm_X1_ofLength shE NE RCE (fun ad => [.ref (ad (o)), .int p0]) S Q := by
  refine MetI_of (cc := cX1_ofLength) (maxL := 4) (ret := (some .int)) (plainFor_of_name (by decide)) (fun _ => Nat.le_of_ble_eq_true rfl) (fun G C hl hQ => ?_)
  subst hl
  have C : Cx G cX1_ofLength BIG RX1 4 (some .int) rm_X1_ofLength shE NE := C
  show Go G 4 0 [] [(0, .ref (Gad G (o))), (1, .int p0)] S
  unfold w_X1_ofLength at hw
  refine Go_iconst (q := 1) (v := (0 : Int32)) C dX1_ofLength_0 rfl rfl ?_
  refine Go_istore_n (q := 2) (lv' := [(2, .int (0 : Int32)), (0, .ref (Gad G (o))), (1, .int p0)]) C rfl dX1_ofLength_1 (by decide) rfl rfl ?_
  refine Go_iconst (q := 3) (v := (0 : Int32)) C dX1_ofLength_2 rfl rfl ?_
  refine Go_istore_n (q := 4) (lv' := [(3, .int (0 : Int32)), (2, .int (0 : Int32)), (0, .ref (Gad G (o))), (1, .int p0)]) C rfl dX1_ofLength_3 (by decide) rfl rfl ?_
  refine Go_lvp [2, 3, 1, 0] rfl ?_
  exact g_X1_ofLength_4 C hQ o p0 ho _ _ hR hw
-- X11_rootsOfAlike
abbrev rm_X11_rootsOfAlike : Room := { frames := 0, cells := 0, slots := 0, locals := 0 }
set_option maxRecDepth 100000 in
set_option maxHeartbeats 4000000 in
theorem g_X11_rootsOfAlike_14 {G : GC} (C : Cx G cX11_rootsOfAlike BIG RX11 11 (some .long) rm_X11_rootsOfAlike shE NE) {Q : Int64 → St → Prop} (hQ : QL G RCE Q) (p0 : Int32) (p1 : Int32) (v2 : Int64) (v4 : Int64) (v6 : Int64) (v8 : Int32) {S : St} (hR : RCE S) (hw : w_X11_rootsOfAlike_14 p0 p1 Q v2 v4 v6 v8 S) : Go G 11 14 [] [(0, .int p0), (1, .int p1), (2, .long v2), (4, .long v4), (6, .long v6), (8, .int v8)] S := by
  obtain ⟨n, hw⟩ := hw
  induction n generalizing v4 v6 v8 S with
  | zero => exact hw.elim
  | succ n ih =>
    have hw : b_X11_rootsOfAlike_14 p0 p1 Q v2 (lpn (fun _ _ _ _ => False) (b_X11_rootsOfAlike_14 p0 p1 Q v2) n) v4 v6 v8 S := hw
    generalize lpn (fun _ _ _ _ => False) (b_X11_rootsOfAlike_14 p0 p1 Q v2) n = kf at hw ih
    have hk14 := fun (v4 : Int64) (v6 : Int64) (v8 : Int32) (S : St) (hR : RCE S) hw => ih v4 v6 v8 hR hw
    unfold b_X11_rootsOfAlike_14 at hw
    refine Go_iload (q := 16) C 5 rfl dX11_rootsOfAlike_14 rfl ?_
    refine Go_iload_n (q := 17) C 1 rfl dX11_rootsOfAlike_16 rfl ?_
    refine Go_icmp_gt (t := 52) (q := 20) C hw dX11_rootsOfAlike_17 rfl rfl (fun hw => ?_) (fun hw => ?_)
    · refine Go_lload (q := 54) C 4 rfl dX11_rootsOfAlike_52 rfl ?_
      exact Go_lret C hQ hR hw dX11_rootsOfAlike_54
    · refine Go_lload (q := 22) C 4 rfl dX11_rootsOfAlike_20 rfl ?_
      refine Go_lload_n (q := 23) C 2 rfl dX11_rootsOfAlike_22 rfl ?_
      refine Go_lmul (q := 24) C dX11_rootsOfAlike_23 rfl ?_
      refine Go_lload (q := 26) C 3 rfl dX11_rootsOfAlike_24 rfl ?_
      refine Go_iload (q := 28) C 5 rfl dX11_rootsOfAlike_26 rfl ?_
      refine Go_iconst (q := 29) (v := (1 : Int32)) C dX11_rootsOfAlike_28 rfl rfl ?_
      refine Go_isub (q := 30) C dX11_rootsOfAlike_29 rfl ?_
      refine Go_i2l (q := 31) C dX11_rootsOfAlike_30 rfl ?_
      refine Go_lmul (q := 32) C dX11_rootsOfAlike_31 rfl ?_
      refine Go_iload_n (q := 33) C 0 rfl dX11_rootsOfAlike_32 rfl ?_
      refine Go_i2l (q := 34) C dX11_rootsOfAlike_33 rfl ?_
      refine Go_lmul (q := 35) C dX11_rootsOfAlike_34 rfl ?_
      refine Go_ladd (q := 36) C dX11_rootsOfAlike_35 rfl ?_
      refine Go_topl (fun x36_2 e_x36_2 => ?_)
      have hw := hw x36_2 e_x36_2
      refine Go_lstore (q := 38) (lv' := [(9, .long x36_2), (0, .int p0), (1, .int p1), (2, .long v2), (4, .long v4), (6, .long v6), (8, .int v8)]) C dX11_rootsOfAlike_36 (by decide) rfl rfl ?_
      refine Go_lload (q := 40) C 5 rfl dX11_rootsOfAlike_38 rfl ?_
      refine Go_lstore (q := 42) (lv' := [(4, .long v6), (9, .long x36_2), (0, .int p0), (1, .int p1), (2, .long v2), (6, .long v6), (8, .int v8)]) C dX11_rootsOfAlike_40 (by decide) rfl rfl ?_
      refine Go_lload (q := 44) C 1 rfl dX11_rootsOfAlike_42 rfl ?_
      refine Go_lstore (q := 46) (lv' := [(6, .long x36_2), (4, .long v6), (9, .long x36_2), (0, .int p0), (1, .int p1), (2, .long v2), (8, .int v8)]) C dX11_rootsOfAlike_44 (by decide) rfl rfl ?_
      refine Go_iinc2 (q := 49) (kp := 6) (cst := (1 : Int32)) C dX11_rootsOfAlike_46 rfl rfl (by decide) rfl (fun x46_3 e_x46_3 => ?_)
      have hw := hw x46_3 e_x46_3
      refine Go_lve (lv' := [(8, .int x46_3), (6, .long x36_2), (4, .long v6), (9, .long x36_2), (0, .int p0), (1, .int p1), (2, .long v2)]) rfl ?_
      refine Go_goto (q := 14) C dX11_rootsOfAlike_49 rfl ?_
      refine Go_lvp [4, 5, 6, 2, 1, 0] rfl ?_
      exact hk14 _ _ _ _ hR hw
set_option maxRecDepth 100000 in
set_option maxHeartbeats 4000000 in
theorem c_X11_rootsOfAlike (l : Launch) {p0 : Int32} {p1 : Int32} {S : St} {Q : Int64 → St → Prop} (hR : RCE S) (hw : w_X11_rootsOfAlike p0 p1 S Q) : MetL l yX11_rootsOfAlike (wB yX11_rootsOfAlike cX11_rootsOfAlike 11 (some .long)) rm_X11_rootsOfAlike shE NE RCE (fun ad => [.int p0, .int p1]) S Q := by
  refine MetL_of (cc := cX11_rootsOfAlike) (maxL := 11) (ret := (some .long)) (plainFor_of_name (by decide)) (fun _ => Nat.le_of_ble_eq_true rfl) (fun G C hl hQ => ?_)
  subst hl
  have C : Cx G cX11_rootsOfAlike BIG RX11 11 (some .long) rm_X11_rootsOfAlike shE NE := C
  show Go G 11 0 [] [(0, .int p0), (1, .int p1)] S
  unfold w_X11_rootsOfAlike at hw
  refine Go_iload_n (q := 1) C 0 rfl dX11_rootsOfAlike_0 rfl ?_
  refine Go_iconst (q := 2) (v := (1 : Int32)) C dX11_rootsOfAlike_1 rfl rfl ?_
  refine Go_iand (q := 3) C dX11_rootsOfAlike_2 rfl ?_
  refine Go_i2l (q := 4) C dX11_rootsOfAlike_3 rfl ?_
  refine Go_topl (fun x4_1 e_x4_1 => ?_)
  have hw := hw x4_1 e_x4_1
  refine Go_lstore_n (q := 5) (lv' := [(2, .long x4_1), (0, .int p0), (1, .int p1)]) C rfl dX11_rootsOfAlike_4 (by decide) rfl rfl ?_
  refine Go_lconst (q := 6) (v := (0 : Int64)) C dX11_rootsOfAlike_5 rfl rfl ?_
  refine Go_lstore (q := 8) (lv' := [(4, .long (0 : Int64)), (2, .long x4_1), (0, .int p0), (1, .int p1)]) C dX11_rootsOfAlike_6 (by decide) rfl rfl ?_
  refine Go_lconst (q := 9) (v := (1 : Int64)) C dX11_rootsOfAlike_8 rfl rfl ?_
  refine Go_lstore (q := 11) (lv' := [(6, .long (1 : Int64)), (4, .long (0 : Int64)), (2, .long x4_1), (0, .int p0), (1, .int p1)]) C dX11_rootsOfAlike_9 (by decide) rfl rfl ?_
  refine Go_iconst (q := 12) (v := (1 : Int32)) C dX11_rootsOfAlike_11 rfl rfl ?_
  refine Go_istore (q := 14) (lv' := [(8, .int (1 : Int32)), (6, .long (1 : Int64)), (4, .long (0 : Int64)), (2, .long x4_1), (0, .int p0), (1, .int p1)]) C dX11_rootsOfAlike_12 (by decide) rfl rfl ?_
  refine Go_lvp [4, 5, 3, 2, 1, 0] rfl ?_
  exact g_X11_rootsOfAlike_14 C hQ p0 p1 _ _ _ _ hR hw
-- X11_roots
abbrev rm_X11_roots : Room := { frames := 2, cells := 0, slots := 0, locals := 44 }
set_option maxRecDepth 100000 in
set_option maxHeartbeats 4000000 in
theorem g_X11_roots_4 {G : GC} (C : Cx G cX11_roots BIG RX11 4 (some .long) rm_X11_roots shE NE) {Q : Int64 → St → Prop} (hQ : QL G RCE Q) (v1 : Int64) (v3 : Int32) {S : St} (hR : RCE S) (hw : w_X11_roots_4 Q v1 v3 S) : Go G 4 4 [] [(0, .ref (Gad G (0))), (1, .long v1), (3, .int v3)] S := by
  obtain ⟨n, hw⟩ := hw
  induction n generalizing v1 v3 S with
  | zero => exact hw.elim
  | succ n ih =>
    have hw : b_X11_roots_4 Q (lpn (fun _ _ _ => False) (b_X11_roots_4 Q) n) v1 v3 S := hw
    generalize lpn (fun _ _ _ => False) (b_X11_roots_4 Q) n = kf at hw ih
    have hk4 := fun (v1 : Int64) (v3 : Int32) (S : St) (hR : RCE S) hw => ih v1 v3 hR hw
    unfold b_X11_roots_4 at hw
    refine Go_iload_n (q := 5) C 2 rfl dX11_roots_4 rfl ?_
    refine Go_aload_n (q := 6) C 0 rfl dX11_roots_5 rfl ?_
    refine Go_getA (q := 9) (k := 2) C ci11 iw_11 kE_0 (rE_0_2 hR) rfl wm_2_1 rfl dX11_roots_6 rfl ?_
    refine Go_getIN (q := 12) (k := 0) (host := "EndsRound") C ci4 iw_4 kE_21 rfl nw_11 rfl dX11_roots_9 rfl ?_
    refine Go_icmp_gt (t := 39) (q := 15) C hw dX11_roots_12 rfl rfl (fun hw => ?_) (fun hw => ?_)
    · refine Go_lload_n (q := 40) C 1 rfl dX11_roots_39 rfl ?_
      exact Go_lret C hQ hR hw dX11_roots_40
    · refine Go_lload_n (q := 16) C 1 rfl dX11_roots_15 rfl ?_
      refine Go_iload_n (q := 17) C 2 rfl dX11_roots_16 rfl ?_
      refine Go_aload_n (q := 18) C 0 rfl dX11_roots_17 rfl ?_
      refine Go_getA (q := 21) (k := 4) C ci11 iw_11 kE_0 (rE_0_4 hR) rfl wm_2_9 rfl dX11_roots_18 rfl ?_
      refine Go_getAN (q := 24) (k := 0) (host := "EndsRound") C ci9 iw_9 kE_34 (rE_34_0 hR) rfl nw_56 rfl dX11_roots_21 rfl ?_
      refine Go_iload_n (q := 25) C 2 rfl dX11_roots_24 rfl ?_
      refine Go_callV_I (av := (fun ad => [.int v3])) (st := [.int v3, .long v1]) (C := C) (hM := c_X1_ofLength (Gl G) isE1_35 hR hw) (hlk := wm_35_18) (hini := wm_3_4) (hins := wm_35_19) (hsel := wm_35_20) (hcode := wm_35_21) (ho := kE_35) (hci := rfl) (hc13 := by decide) (n := 1) (hd := by decide +kernel) (hr0 := ⟨rfl, rfl⟩) (hroom := ⟨by first | decide | (dsimp only; omega), by first | decide | (dsimp only; omega)⟩) (hlen := rfl) (hst := rfl) (hW := Nat.le_of_ble_eq_true rfl) (hdg := dX11_roots_25) (q := 28) (hq := rfl) (fun r25_2 S25_1 hw hR => ?_)
      refine Go_callS_L (av := (fun ad => [.int v3, .int r25_2])) (st := [.long v1]) (C := C) (hM := c_X11_rootsOfAlike (Gl G) hR hw) (hlk := wm_35_22) (hini := wm_1_2) (hst2 := wm_35_23) (hcode := wm_36_0) (n := 2) (hd := by decide +kernel) (hr0 := ⟨rfl, rfl⟩) (hroom := ⟨by first | decide | (dsimp only; omega), by first | decide | (dsimp only; omega)⟩) (hlen := rfl) (hst := rfl) (hW := Nat.le_of_ble_eq_true rfl) (hdg := dX11_roots_28) (q := 31) (hq := rfl) (fun r28_4 S28_3 hw hR => ?_)
      refine Go_lmul (q := 32) C dX11_roots_31 rfl ?_
      refine Go_topl (fun x32_5 e_x32_5 => ?_)
      have hw := hw x32_5 e_x32_5
      refine Go_lstore_n (q := 33) (lv' := [(1, .long x32_5), (0, .ref (Gad G (0))), (3, .int v3)]) C rfl dX11_roots_32 (by decide) rfl rfl ?_
      refine Go_iinc2 (q := 36) (kp := 2) (cst := (1 : Int32)) C dX11_roots_33 rfl rfl (by decide) rfl (fun x33_6 e_x33_6 => ?_)
      have hw := hw x33_6 e_x33_6
      refine Go_lve (lv' := [(3, .int x33_6), (1, .long x32_5), (0, .ref (Gad G (0)))]) rfl ?_
      refine Go_goto (q := 4) C dX11_roots_36 rfl ?_
      refine Go_lvp [2, 1, 0] rfl ?_
      exact hk4 _ _ _ hR hw
set_option maxRecDepth 100000 in
set_option maxHeartbeats 4000000 in
theorem c_X11_roots (l : Launch) {S : St} {Q : Int64 → St → Prop} (hR : RCE S) (hw : w_X11_roots S Q) : MetL l yX11_roots (wB yX11_roots cX11_roots 4 (some .long)) rm_X11_roots shE NE RCE (fun ad => [.ref (ad (0))]) S Q := by
  refine MetL_of (cc := cX11_roots) (maxL := 4) (ret := (some .long)) (plainFor_of_name (by decide)) (fun _ => Nat.le_of_ble_eq_true rfl) (fun G C hl hQ => ?_)
  subst hl
  have C : Cx G cX11_roots BIG RX11 4 (some .long) rm_X11_roots shE NE := C
  show Go G 4 0 [] [(0, .ref (Gad G (0)))] S
  unfold w_X11_roots at hw
  refine Go_lconst (q := 1) (v := (1 : Int64)) C dX11_roots_0 rfl rfl ?_
  refine Go_lstore_n (q := 2) (lv' := [(1, .long (1 : Int64)), (0, .ref (Gad G (0)))]) C rfl dX11_roots_1 (by decide) rfl rfl ?_
  refine Go_iconst (q := 3) (v := (1 : Int32)) C dX11_roots_2 rfl rfl ?_
  refine Go_istore_n (q := 4) (lv' := [(3, .int (1 : Int32)), (1, .long (1 : Int64)), (0, .ref (Gad G (0)))]) C rfl dX11_roots_3 (by decide) rfl rfl ?_
  refine Go_lvp [2, 1, 0] rfl ?_
  exact g_X11_roots_4 C hQ _ _ hR hw
-- X11_spiral
abbrev rm_X11_spiral : Room := { frames := 3, cells := 0, slots := 0, locals := 78 }
set_option maxRecDepth 100000 in
set_option maxHeartbeats 4000000 in
theorem g_X11_spiral_16 {G : GC} (C : Cx G cX11_spiral BIG RX11 4 (some .int) rm_X11_spiral shE NE) {Q : Int32 → St → Prop} (hQ : QI G RCE Q) (p0 : Int32) (p1 : Int32) (v3 : Int32) {S : St} (hR : RCE S) (hw : w_X11_spiral_16 p0 p1 Q v3 S) : Go G 4 16 [] [(0, .ref (Gad G (0))), (1, .int p0), (2, .int p1), (3, .int v3)] S := by
  obtain ⟨n, hw⟩ := hw
  induction n generalizing v3 S with
  | zero => exact hw.elim
  | succ n ih =>
    have hw : b_X11_spiral_16 p0 p1 Q (lpn (fun _ _ => False) (b_X11_spiral_16 p0 p1 Q) n) v3 S := hw
    generalize lpn (fun _ _ => False) (b_X11_spiral_16 p0 p1 Q) n = kf at hw ih
    have hk16 := fun (v3 : Int32) (S : St) (hR : RCE S) hw => ih v3 hR hw
    unfold b_X11_spiral_16 at hw
    refine Go_iload_n (q := 17) C 3 rfl dX11_spiral_16 rfl ?_
    refine Go_iload_n (q := 18) C 1 rfl dX11_spiral_17 rfl ?_
    refine Go_icmp_ge (t := 40) (q := 21) C hw dX11_spiral_18 rfl rfl (fun hw => ?_) (fun hw => ?_)
    · refine Go_aload_n (q := 41) C 0 rfl dX11_spiral_40 rfl ?_
      refine Go_getA (q := 44) (k := 9) C ci11 iw_11 kE_0 (rE_0_9 hR) rfl wm_3_5 rfl dX11_spiral_41 rfl ?_
      refine Go_aload_n (q := 45) C 0 rfl dX11_spiral_44 rfl ?_
      refine Go_getA (q := 48) (k := 10) C ci11 iw_11 kE_0 (rE_0_10 hR) rfl wm_3_7 rfl dX11_spiral_45 rfl ?_
      refine Go_iload_n (q := 49) C 1 rfl dX11_spiral_48 rfl ?_
      refine Go_callV_V (av := (fun ad => [.ref (ad (122)), .int p0])) (st := []) (C := C) (hM := c_X1_follow (Gl G) isE1_120 (ok_ln kE_122) hR hw) (hlk := wm_36_15) (hini := wm_3_4) (hins := wm_11_1) (hsel := wm_11_2) (hcode := wm_11_3) (ho := kE_120) (hci := rfl) (hc13 := by decide) (n := 2) (hd := by decide +kernel) (hr0 := ⟨rfl, rfl⟩) (hroom := ⟨by first | decide | (dsimp only; omega), by first | decide | (dsimp only; omega)⟩) (hlen := rfl) (hst := rfl) (hW := Nat.le_of_ble_eq_true rfl) (hdg := dX11_spiral_49) (q := 52) (hq := rfl) (fun S49_1 hw hR => ?_)
      refine Go_iload_n (q := 53) C 2 rfl dX11_spiral_52 rfl ?_
      by_cases hk0 : p1 = (0 : Int32)
      · have hw := ite_t hw hk0
        refine Go_tableIn (t := 80) C dX11_spiral_53 (by rw [hk0]; decide) (by rw [hk0]; decide) (by rw [hk0]; rfl) rfl ?_
        refine Go_aload_n (q := 81) C 0 rfl dX11_spiral_80 rfl ?_
        refine Go_getA (q := 84) (k := 9) C ci11 iw_11 kE_0 (rE_0_9 hR) rfl wm_3_5 rfl dX11_spiral_81 rfl ?_
        refine Go_getIN (q := 87) (k := 2) (host := "EndsRound") C ci1 iw_1 kE_120 rfl nw_51 rfl dX11_spiral_84 rfl ?_
        exact Go_iret C hQ hR hw dX11_spiral_87
      have hw := ite_f hw hk0
      by_cases hk1 : p1 = (1 : Int32)
      · have hw := ite_t hw hk1
        refine Go_tableIn (t := 88) C dX11_spiral_53 (by rw [hk1]; decide) (by rw [hk1]; decide) (by rw [hk1]; rfl) rfl ?_
        refine Go_aload_n (q := 89) C 0 rfl dX11_spiral_88 rfl ?_
        refine Go_getA (q := 92) (k := 9) C ci11 iw_11 kE_0 (rE_0_9 hR) rfl wm_3_5 rfl dX11_spiral_89 rfl ?_
        refine Go_getIN (q := 95) (k := 3) (host := "EndsRound") C ci1 iw_1 kE_120 rfl nw_52 rfl dX11_spiral_92 rfl ?_
        exact Go_iret C hQ hR hw dX11_spiral_95
      have hw := ite_f hw hk1
      by_cases hk2 : p1 = (2 : Int32)
      · have hw := ite_t hw hk2
        refine Go_tableIn (t := 96) C dX11_spiral_53 (by rw [hk2]; decide) (by rw [hk2]; decide) (by rw [hk2]; rfl) rfl ?_
        refine Go_aload_n (q := 97) C 0 rfl dX11_spiral_96 rfl ?_
        refine Go_getA (q := 100) (k := 9) C ci11 iw_11 kE_0 (rE_0_9 hR) rfl wm_3_5 rfl dX11_spiral_97 rfl ?_
        refine Go_getJN (q := 103) (k := 5) (host := "EndsRound") C ci1 iw_1 kE_120 rfl nw_55 rfl dX11_spiral_100 rfl ?_
        refine Go_ldc2 (q := 106) (v := (1000000007 : Int64)) C wm_36_12 dX11_spiral_103 rfl ?_
        refine Go_lrem (q := 107) C (by decide) dX11_spiral_106 rfl ?_
        refine Go_l2i (q := 108) C dX11_spiral_107 rfl ?_
        exact Go_iret C hQ hR hw dX11_spiral_108
      have hw := ite_f hw hk2
      refine Go_tableOut (t := 109) C dX11_spiral_53 (by have g0 : ¬ (p1).toInt = 0 := ne_toInt hk0; have g1 : ¬ (p1).toInt = 1 := ne_toInt hk1; have g2 : ¬ (p1).toInt = 2 := ne_toInt hk2; omega) rfl ?_
      refine Go_iconst (q := 110) (v := (-1 : Int32)) C dX11_spiral_109 rfl rfl ?_
      exact Go_iret C hQ hR hw dX11_spiral_110
    · refine Go_aload_n (q := 22) C 0 rfl dX11_spiral_21 rfl ?_
      refine Go_getA (q := 25) (k := 10) C ci11 iw_11 kE_0 (rE_0_10 hR) rfl wm_3_7 rfl dX11_spiral_22 rfl ?_
      refine Go_iload_n (q := 26) C 3 rfl dX11_spiral_25 rfl ?_
      refine Go_iload_n (q := 27) C 1 rfl dX11_spiral_26 rfl ?_
      refine Go_iload_n (q := 28) C 3 rfl dX11_spiral_27 rfl ?_
      refine Go_callS_I (av := (fun ad => [.int p0, .int v3])) (st := [.int v3, .ref (Gad G (122))]) (C := C) (hM := c_X11_spiralSource (Gl G) hR hw) (hlk := wm_36_13) (hini := wm_1_2) (hst2 := wm_19_11) (hcode := wm_19_12) (n := 2) (hd := by decide +kernel) (hr0 := ⟨rfl, rfl⟩) (hroom := ⟨by first | decide | (dsimp only; omega), by first | decide | (dsimp only; omega)⟩) (hlen := rfl) (hst := rfl) (hW := Nat.le_of_ble_eq_true rfl) (hdg := dX11_spiral_28) (q := 31) (hq := rfl) (fun r28_4 S28_3 hw hR => ?_)
      refine Go_callS_V (av := (fun ad => [.ref (ad (122)), .int v3, .int r28_4])) (st := []) (C := C) (hM := c_X11_put (Gl G) (ok_ln kE_122) hR hw) (hlk := wm_36_14) (hini := wm_1_2) (hst2 := wm_10_11) (hcode := wm_10_12) (n := 3) (hd := by decide +kernel) (hr0 := ⟨rfl, rfl⟩) (hroom := ⟨by first | decide | (dsimp only; omega), by first | decide | (dsimp only; omega)⟩) (hlen := rfl) (hst := rfl) (hW := Nat.le_of_ble_eq_true rfl) (hdg := dX11_spiral_31) (q := 34) (hq := rfl) (fun S31_5 hw hR => ?_)
      refine Go_iinc2 (q := 37) (kp := 3) (cst := (1 : Int32)) C dX11_spiral_34 rfl rfl (by decide) rfl (fun x34_6 e_x34_6 => ?_)
      have hw := hw x34_6 e_x34_6
      refine Go_lve (lv' := [(3, .int x34_6), (0, .ref (Gad G (0))), (1, .int p0), (2, .int p1)]) rfl ?_
      refine Go_goto (q := 16) C dX11_spiral_37 rfl ?_
      refine Go_lvp [1, 2, 3, 0] rfl ?_
      exact hk16 _ _ hR hw
set_option maxRecDepth 100000 in
set_option maxHeartbeats 4000000 in
theorem c_X11_spiral (l : Launch) {p0 : Int32} {p1 : Int32} {S : St} {Q : Int32 → St → Prop} (hR : RCE S) (hw : w_X11_spiral p0 p1 S Q) : MetI l yX11_spiral (wB yX11_spiral cX11_spiral 4 (some .int)) rm_X11_spiral shE NE RCE (fun ad => [.ref (ad (0)), .int p0, .int p1]) S Q := by
  refine MetI_of (cc := cX11_spiral) (maxL := 4) (ret := (some .int)) (plainFor_of_name (by decide)) (fun _ => Nat.le_of_ble_eq_true rfl) (fun G C hl hQ => ?_)
  subst hl
  have C : Cx G cX11_spiral BIG RX11 4 (some .int) rm_X11_spiral shE NE := C
  show Go G 4 0 [] [(0, .ref (Gad G (0))), (1, .int p0), (2, .int p1)] S
  unfold w_X11_spiral at hw
  refine Go_iload_n (q := 1) C 1 rfl dX11_spiral_0 rfl ?_
  refine Go_iconst (q := 2) (v := (1 : Int32)) C dX11_spiral_1 rfl rfl ?_
  refine Go_icmp_lt (t := 12) (q := 5) C hw dX11_spiral_2 rfl rfl (fun hw => ?_) (fun hw => ?_)
  · refine Go_iconst (q := 13) (v := (-1 : Int32)) C dX11_spiral_12 rfl rfl ?_
    exact Go_iret C hQ hR hw dX11_spiral_13
  · refine Go_iload_n (q := 6) C 1 rfl dX11_spiral_5 rfl ?_
    refine Go_sipush (q := 9) (v := (200 : Int32)) C dX11_spiral_6 rfl rfl ?_
    refine Go_icmp_le (t := 14) (q := 12) C hw dX11_spiral_9 rfl rfl (fun hw => ?_) (fun hw => ?_)
    · refine Go_iconst (q := 15) (v := (0 : Int32)) C dX11_spiral_14 rfl rfl ?_
      refine Go_istore_n (q := 16) (lv' := [(3, .int (0 : Int32)), (0, .ref (Gad G (0))), (1, .int p0), (2, .int p1)]) C rfl dX11_spiral_15 (by decide) rfl rfl ?_
      refine Go_lvp [1, 2, 3, 0] rfl ?_
      exact g_X11_spiral_16 C hQ p0 p1 _ hR hw
    · refine Go_iconst (q := 13) (v := (-1 : Int32)) C dX11_spiral_12 rfl rfl ?_
      exact Go_iret C hQ hR hw dX11_spiral_13
-- X11_rhymes
abbrev rm_X11_rhymes : Room := { frames := 1, cells := 0, slots := 0, locals := 21 }
set_option maxRecDepth 100000 in
set_option maxHeartbeats 4000000 in
theorem c_X11_rhymes (l : Launch) {p0 : Int32} {S : St} {Q : Int32 → St → Prop} (hR : RCE S) (hw : w_X11_rhymes p0 S Q) : MetI l yX11_rhymes (wB yX11_rhymes cX11_rhymes 2 (some .int)) rm_X11_rhymes shE NE RCE (fun ad => [.ref (ad (0)), .int p0]) S Q := by
  refine MetI_of (cc := cX11_rhymes) (maxL := 2) (ret := (some .int)) (plainFor_of_name (by decide)) (fun _ => Nat.le_of_ble_eq_true rfl) (fun G C hl hQ => ?_)
  subst hl
  have C : Cx G cX11_rhymes BIG RX11 2 (some .int) rm_X11_rhymes shE NE := C
  show Go G 2 0 [] [(0, .ref (Gad G (0))), (1, .int p0)] S
  unfold w_X11_rhymes at hw
  refine Go_aload_n (q := 1) C 0 rfl dX11_rhymes_0 rfl ?_
  refine Go_iload_n (q := 2) C 1 rfl dX11_rhymes_1 rfl ?_
  refine Go_callV_I (av := (fun ad => [.int p0])) (st := []) (C := C) (hM := c_X11_isEnd (Gl G)  hR hw) (hlk := wm_31_13) (hini := wm_1_2) (hins := wm_31_14) (hsel := wm_31_15) (hcode := wm_31_16) (ho := kE_0) (hci := rfl) (hc13 := by decide) (n := 1) (hd := by decide +kernel) (hr0 := ⟨rfl, rfl⟩) (hroom := ⟨by first | decide | (dsimp only; omega), by first | decide | (dsimp only; omega)⟩) (hlen := rfl) (hst := rfl) (hW := Nat.le_of_ble_eq_true rfl) (hdg := dX11_rhymes_2) (q := 5) (hq := rfl) (fun r2_2 S2_1 hw hR => ?_)
  refine Go_if_eq (t := 22) (q := 8) C hw dX11_rhymes_5 rfl rfl (fun hw => ?_) (fun hw => ?_)
  · refine Go_iconst (q := 23) (v := (-1 : Int32)) C dX11_rhymes_22 rfl rfl ?_
    exact Go_iret C hQ hR hw dX11_rhymes_23
  · refine Go_aload_n (q := 9) C 0 rfl dX11_rhymes_8 rfl ?_
    refine Go_getA (q := 12) (k := 4) C ci11 iw_11 kE_0 (rE_0_4 hR) rfl wm_2_9 rfl dX11_rhymes_9 rfl ?_
    refine Go_getAN (q := 15) (k := 3) (host := "EndsRound") C ci9 iw_9 kE_34 (rE_34_3 hR) rfl nw_59 rfl dX11_rhymes_12 rfl ?_
    refine Go_iload_n (q := 16) C 1 rfl dX11_rhymes_15 rfl ?_
    refine Go_callS_I (av := (fun ad => [.ref (ad (39)), .int p0])) (st := []) (C := C) (hM := c_X11_cell (Gl G) (ok_ln kE_39) hR hw) (hlk := wm_31_17) (hini := wm_1_2) (hst2 := wm_10_22) (hcode := wm_10_23) (n := 2) (hd := by decide +kernel) (hr0 := ⟨rfl, rfl⟩) (hroom := ⟨by first | decide | (dsimp only; omega), by first | decide | (dsimp only; omega)⟩) (hlen := rfl) (hst := rfl) (hW := Nat.le_of_ble_eq_true rfl) (hdg := dX11_rhymes_16) (q := 19) (hq := rfl) (fun r16_4 S16_3 hw hR => ?_)
    refine Go_goto (q := 23) C dX11_rhymes_19 rfl ?_
    exact Go_iret C hQ hR hw dX11_rhymes_23
-- X9_timesAhead
abbrev rm_X9_timesAhead : Room := { frames := 1, cells := 0, slots := 0, locals := 21 }
set_option maxRecDepth 100000 in
set_option maxHeartbeats 4000000 in
theorem c_X9_timesAhead (l : Launch) {p0 : Int32} {p1 : Int32} {S : St} {Q : Int32 → St → Prop} (hR : RCE S) (hw : w_X9_timesAhead p0 p1 S Q) : MetI l yX9_timesAhead (wB yX9_timesAhead cX9_timesAhead 3 (some .int)) rm_X9_timesAhead shE NE RCE (fun ad => [.ref (ad (34)), .int p0, .int p1]) S Q := by
  refine MetI_of (cc := cX9_timesAhead) (maxL := 3) (ret := (some .int)) (plainFor_of_name (by decide)) (fun _ => Nat.le_of_ble_eq_true rfl) (fun G C hl hQ => ?_)
  subst hl
  have C : Cx G cX9_timesAhead BIG RX9 3 (some .int) rm_X9_timesAhead shE NE := C
  show Go G 3 0 [] [(0, .ref (Gad G (34))), (1, .int p0), (2, .int p1)] S
  unfold w_X9_timesAhead at hw
  refine Go_aload_n (q := 1) C 0 rfl dX9_timesAhead_0 rfl ?_
  refine Go_getA (q := 4) (k := 4) C ci9 iw_9 kE_34 (rE_34_4 hR) rfl wm_7_19 rfl dX9_timesAhead_1 rfl ?_
  refine Go_iload_n (q := 5) C 1 rfl dX9_timesAhead_4 rfl ?_
  refine Go_bipush (q := 7) (v := (12 : Int32)) C dX9_timesAhead_5 rfl rfl ?_
  refine Go_imul (q := 8) C dX9_timesAhead_7 rfl ?_
  refine Go_iload_n (q := 9) C 2 rfl dX9_timesAhead_8 rfl ?_
  refine Go_iadd (q := 10) C dX9_timesAhead_9 rfl ?_
  refine Go_callSN_I (av := (fun ad => [.ref (ad (40)), .int ((p0 * (12 : Int32)) + p1)])) (st := []) (C := C) (hM := c_X11_cell (Gl G) (ok_ln kE_40) hR hw) (host := "EndsRound") (hnw := nw_77) (hini := wm_1_2) (hst2 := wm_10_22) (hcode := wm_10_23) (n := 2) (hd := by decide +kernel) (hr0 := ⟨rfl, rfl⟩) (hroom := ⟨by first | decide | (dsimp only; omega), by first | decide | (dsimp only; omega)⟩) (hlen := rfl) (hst := rfl) (hW := Nat.le_of_ble_eq_true rfl) (hdg := dX9_timesAhead_10) (q := 13) (hq := rfl) (fun r10_2 S10_1 hw hR => ?_)
  exact Go_iret C hQ hR hw dX9_timesAhead_13
-- X11_beside
abbrev rm_X11_beside : Room := { frames := 2, cells := 0, slots := 0, locals := 43 }
set_option maxRecDepth 100000 in
set_option maxHeartbeats 4000000 in
theorem c_X11_beside (l : Launch) {p0 : Int32} {p1 : Int32} {S : St} {Q : Int32 → St → Prop} (hR : RCE S) (hw : w_X11_beside p0 p1 S Q) : MetI l yX11_beside (wB yX11_beside cX11_beside 3 (some .int)) rm_X11_beside shE NE RCE (fun ad => [.ref (ad (0)), .int p0, .int p1]) S Q := by
  refine MetI_of (cc := cX11_beside) (maxL := 3) (ret := (some .int)) (plainFor_of_name (by decide)) (fun _ => Nat.le_of_ble_eq_true rfl) (fun G C hl hQ => ?_)
  subst hl
  have C : Cx G cX11_beside BIG RX11 3 (some .int) rm_X11_beside shE NE := C
  show Go G 3 0 [] [(0, .ref (Gad G (0))), (1, .int p0), (2, .int p1)] S
  unfold w_X11_beside at hw
  refine Go_aload_n (q := 1) C 0 rfl dX11_beside_0 rfl ?_
  refine Go_iload_n (q := 2) C 1 rfl dX11_beside_1 rfl ?_
  refine Go_callV_I (av := (fun ad => [.int p0])) (st := []) (C := C) (hM := c_X11_isEnd (Gl G)  hR hw) (hlk := wm_31_13) (hini := wm_1_2) (hins := wm_31_14) (hsel := wm_31_15) (hcode := wm_31_16) (ho := kE_0) (hci := rfl) (hc13 := by decide) (n := 1) (hd := by decide +kernel) (hr0 := ⟨rfl, rfl⟩) (hroom := ⟨by first | decide | (dsimp only; omega), by first | decide | (dsimp only; omega)⟩) (hlen := rfl) (hst := rfl) (hW := Nat.le_of_ble_eq_true rfl) (hdg := dX11_beside_2) (q := 5) (hq := rfl) (fun r2_2 S2_1 hw hR => ?_)
  refine Go_if_eq (t := 21) (q := 8) C hw dX11_beside_5 rfl rfl (fun hw => ?_) (fun hw => ?_)
  · refine Go_iconst (q := 22) (v := (-1 : Int32)) C dX11_beside_21 rfl rfl ?_
    exact Go_iret C hQ hR hw dX11_beside_22
  · refine Go_aload_n (q := 9) C 0 rfl dX11_beside_8 rfl ?_
    refine Go_iload_n (q := 10) C 2 rfl dX11_beside_9 rfl ?_
    refine Go_callV_I (av := (fun ad => [.int p1])) (st := []) (C := C) (hM := c_X11_isEnd (Gl G)  hR hw) (hlk := wm_31_13) (hini := wm_1_2) (hins := wm_31_14) (hsel := wm_31_15) (hcode := wm_31_16) (ho := kE_0) (hci := rfl) (hc13 := by decide) (n := 1) (hd := by decide +kernel) (hr0 := ⟨rfl, rfl⟩) (hroom := ⟨by first | decide | (dsimp only; omega), by first | decide | (dsimp only; omega)⟩) (hlen := rfl) (hst := rfl) (hW := Nat.le_of_ble_eq_true rfl) (hdg := dX11_beside_10) (q := 13) (hq := rfl) (fun r10_4 S10_3 hw hR => ?_)
    refine Go_if_eq (t := 21) (q := 16) C hw dX11_beside_13 rfl rfl (fun hw => ?_) (fun hw => ?_)
    · refine Go_iconst (q := 22) (v := (-1 : Int32)) C dX11_beside_21 rfl rfl ?_
      exact Go_iret C hQ hR hw dX11_beside_22
    · refine Go_iload_n (q := 17) C 1 rfl dX11_beside_16 rfl ?_
      refine Go_iload_n (q := 18) C 2 rfl dX11_beside_17 rfl ?_
      refine Go_icmp_ne (t := 23) (q := 21) C hw dX11_beside_18 rfl rfl (fun hw => ?_) (fun hw => ?_)
      · refine Go_iconst (q := 22) (v := (-1 : Int32)) C dX11_beside_21 rfl rfl ?_
        exact Go_iret C hQ hR hw dX11_beside_22
      · refine Go_aload_n (q := 24) C 0 rfl dX11_beside_23 rfl ?_
        refine Go_getA (q := 27) (k := 4) C ci11 iw_11 kE_0 (rE_0_4 hR) rfl wm_2_9 rfl dX11_beside_24 rfl ?_
        refine Go_iload_n (q := 28) C 1 rfl dX11_beside_27 rfl ?_
        refine Go_iload_n (q := 29) C 2 rfl dX11_beside_28 rfl ?_
        refine Go_callV_I (av := (fun ad => [.int p0, .int p1])) (st := []) (C := C) (hM := c_X9_timesAhead (Gl G)  hR hw) (hlk := wm_37_14) (hini := wm_2_8) (hins := wm_37_15) (hsel := wm_37_16) (hcode := wm_37_17) (ho := kE_34) (hci := rfl) (hc13 := by decide) (n := 2) (hd := by decide +kernel) (hr0 := ⟨rfl, rfl⟩) (hroom := ⟨by first | decide | (dsimp only; omega), by first | decide | (dsimp only; omega)⟩) (hlen := rfl) (hst := rfl) (hW := Nat.le_of_ble_eq_true rfl) (hdg := dX11_beside_29) (q := 32) (hq := rfl) (fun r29_6 S29_5 hw hR => ?_)
        refine Go_aload_n (q := 33) C 0 rfl dX11_beside_32 rfl ?_
        refine Go_getA (q := 36) (k := 4) C ci11 iw_11 kE_0 (rE_0_4 hR) rfl wm_2_9 rfl dX11_beside_33 rfl ?_
        refine Go_iload_n (q := 37) C 2 rfl dX11_beside_36 rfl ?_
        refine Go_iload_n (q := 38) C 1 rfl dX11_beside_37 rfl ?_
        refine Go_callV_I (av := (fun ad => [.int p1, .int p0])) (st := [.int r29_6]) (C := C) (hM := c_X9_timesAhead (Gl G)  hR hw) (hlk := wm_37_14) (hini := wm_2_8) (hins := wm_37_15) (hsel := wm_37_16) (hcode := wm_37_17) (ho := kE_34) (hci := rfl) (hc13 := by decide) (n := 2) (hd := by decide +kernel) (hr0 := ⟨rfl, rfl⟩) (hroom := ⟨by first | decide | (dsimp only; omega), by first | decide | (dsimp only; omega)⟩) (hlen := rfl) (hst := rfl) (hW := Nat.le_of_ble_eq_true rfl) (hdg := dX11_beside_38) (q := 41) (hq := rfl) (fun r38_8 S38_7 hw hR => ?_)
        refine Go_iadd (q := 42) C dX11_beside_41 rfl ?_
        exact Go_iret C hQ hR hw dX11_beside_42
-- X11_isWord
abbrev rm_X11_isWord : Room := { frames := 0, cells := 0, slots := 0, locals := 0 }
set_option maxRecDepth 100000 in
set_option maxHeartbeats 4000000 in
theorem c_X11_isWord (l : Launch) {p0 : Int32} {S : St} {Q : Int32 → St → Prop} (hR : RCE S) (hw : w_X11_isWord p0 S Q) : MetI l yX11_isWord (wB yX11_isWord cX11_isWord 2 (some .boolean)) rm_X11_isWord shE NE RCE (fun ad => [.ref (ad (0)), .int p0]) S Q := by
  refine MetI_of (cc := cX11_isWord) (maxL := 2) (ret := (some .boolean)) (plainFor_of_name (by decide)) (fun _ => Nat.le_of_ble_eq_true rfl) (fun G C hl hQ => ?_)
  subst hl
  have C : Cx G cX11_isWord BIG RX11 2 (some .boolean) rm_X11_isWord shE NE := C
  show Go G 2 0 [] [(0, .ref (Gad G (0))), (1, .int p0)] S
  unfold w_X11_isWord at hw
  refine Go_iload_n (q := 1) C 1 rfl dX11_isWord_0 rfl ?_
  refine Go_if_lt (t := 19) (q := 4) C hw dX11_isWord_1 rfl rfl (fun hw => ?_) (fun hw => ?_)
  · refine Go_iconst (q := 20) (v := (0 : Int32)) C dX11_isWord_19 rfl rfl ?_
    exact Go_zret C hQ hR rfl hw dX11_isWord_20
  · refine Go_iload_n (q := 5) C 1 rfl dX11_isWord_4 rfl ?_
    refine Go_aload_n (q := 6) C 0 rfl dX11_isWord_5 rfl ?_
    refine Go_getA (q := 9) (k := 2) C ci11 iw_11 kE_0 (rE_0_2 hR) rfl wm_2_1 rfl dX11_isWord_6 rfl ?_
    refine Go_getIN (q := 12) (k := 5) (host := "EndsRound") C ci4 iw_4 kE_21 rfl nw_23 rfl dX11_isWord_9 rfl ?_
    refine Go_icmp_ge (t := 19) (q := 15) C hw dX11_isWord_12 rfl rfl (fun hw => ?_) (fun hw => ?_)
    · refine Go_iconst (q := 20) (v := (0 : Int32)) C dX11_isWord_19 rfl rfl ?_
      exact Go_zret C hQ hR rfl hw dX11_isWord_20
    · refine Go_iconst (q := 16) (v := (1 : Int32)) C dX11_isWord_15 rfl rfl ?_
      refine Go_goto (q := 20) C dX11_isWord_16 rfl ?_
      exact Go_zret C hQ hR rfl hw dX11_isWord_20
-- X11_word
abbrev rm_X11_word : Room := { frames := 1, cells := 0, slots := 0, locals := 21 }
set_option maxRecDepth 100000 in
set_option maxHeartbeats 4000000 in
theorem c_X11_word (l : Launch) {p0 : Int32} {p1 : Int32} {S : St} {Q : Int32 → St → Prop} (hR : RCE S) (hw : w_X11_word p0 p1 S Q) : MetI l yX11_word (wB yX11_word cX11_word 3 (some .int)) rm_X11_word shE NE RCE (fun ad => [.ref (ad (0)), .int p0, .int p1]) S Q := by
  refine MetI_of (cc := cX11_word) (maxL := 3) (ret := (some .int)) (plainFor_of_name (by decide)) (fun _ => Nat.le_of_ble_eq_true rfl) (fun G C hl hQ => ?_)
  subst hl
  have C : Cx G cX11_word BIG RX11 3 (some .int) rm_X11_word shE NE := C
  show Go G 3 0 [] [(0, .ref (Gad G (0))), (1, .int p0), (2, .int p1)] S
  unfold w_X11_word at hw
  refine Go_aload_n (q := 1) C 0 rfl dX11_word_0 rfl ?_
  refine Go_iload_n (q := 2) C 1 rfl dX11_word_1 rfl ?_
  refine Go_callV_I (av := (fun ad => [.int p0])) (st := []) (C := C) (hM := c_X11_isWord (Gl G)  hR hw) (hlk := wm_38_5) (hini := wm_1_2) (hins := wm_38_6) (hsel := wm_38_7) (hcode := wm_38_8) (ho := kE_0) (hci := rfl) (hc13 := by decide) (n := 1) (hd := by decide +kernel) (hr0 := ⟨rfl, rfl⟩) (hroom := ⟨by first | decide | (dsimp only; omega), by first | decide | (dsimp only; omega)⟩) (hlen := rfl) (hst := rfl) (hW := Nat.le_of_ble_eq_true rfl) (hdg := dX11_word_2) (q := 5) (hq := rfl) (fun r2_2 S2_1 hw hR => ?_)
  refine Go_if_ne (t := 10) (q := 8) C hw dX11_word_5 rfl rfl (fun hw => ?_) (fun hw => ?_)
  · refine Go_iconst (q := 9) (v := (-1 : Int32)) C dX11_word_8 rfl rfl ?_
    exact Go_iret C hQ hR hw dX11_word_9
  · refine Go_iload_n (q := 11) C 2 rfl dX11_word_10 rfl ?_
    by_cases hk0 : p1 = (0 : Int32)
    · have hw := ite_t hw hk0
      refine Go_tableIn (t := 36) C dX11_word_11 (by rw [hk0]; decide) (by rw [hk0]; decide) (by rw [hk0]; rfl) rfl ?_
      refine Go_aload_n (q := 37) C 0 rfl dX11_word_36 rfl ?_
      refine Go_getA (q := 40) (k := 2) C ci11 iw_11 kE_0 (rE_0_2 hR) rfl wm_2_1 rfl dX11_word_37 rfl ?_
      refine Go_getAN (q := 43) (k := 10) (host := "EndsRound") C ci4 iw_4 kE_21 (rE4_10 hR isE4_21) rfl nw_35 rfl dX11_word_40 rfl ?_
      refine Go_iload_n (q := 44) C 1 rfl dX11_word_43 rfl ?_
      refine Go_callS_I (av := (fun ad => [.ref (ad (25)), .int p0])) (st := []) (C := C) (hM := c_X11_cell (Gl G) (ok_ln kE_25) hR hw) (hlk := wm_31_17) (hini := wm_1_2) (hst2 := wm_10_22) (hcode := wm_10_23) (n := 2) (hd := by decide +kernel) (hr0 := ⟨rfl, rfl⟩) (hroom := ⟨by first | decide | (dsimp only; omega), by first | decide | (dsimp only; omega)⟩) (hlen := rfl) (hst := rfl) (hW := Nat.le_of_ble_eq_true rfl) (hdg := dX11_word_44) (q := 47) (hq := rfl) (fun r44_5 S44_4 hw hR => ?_)
      exact Go_iret C hQ hR hw dX11_word_47
    have hw := ite_f hw hk0
    by_cases hk1 : p1 = (1 : Int32)
    · have hw := ite_t hw hk1
      refine Go_tableIn (t := 48) C dX11_word_11 (by rw [hk1]; decide) (by rw [hk1]; decide) (by rw [hk1]; rfl) rfl ?_
      refine Go_aload_n (q := 49) C 0 rfl dX11_word_48 rfl ?_
      refine Go_getA (q := 52) (k := 2) C ci11 iw_11 kE_0 (rE_0_2 hR) rfl wm_2_1 rfl dX11_word_49 rfl ?_
      refine Go_getAN (q := 55) (k := 11) (host := "EndsRound") C ci4 iw_4 kE_21 (rE4_11 hR isE4_21) rfl nw_37 rfl dX11_word_52 rfl ?_
      refine Go_iload_n (q := 56) C 1 rfl dX11_word_55 rfl ?_
      refine Go_callS_I (av := (fun ad => [.ref (ad (26)), .int p0])) (st := []) (C := C) (hM := c_X11_cell (Gl G) (ok_ln kE_26) hR hw) (hlk := wm_31_17) (hini := wm_1_2) (hst2 := wm_10_22) (hcode := wm_10_23) (n := 2) (hd := by decide +kernel) (hr0 := ⟨rfl, rfl⟩) (hroom := ⟨by first | decide | (dsimp only; omega), by first | decide | (dsimp only; omega)⟩) (hlen := rfl) (hst := rfl) (hW := Nat.le_of_ble_eq_true rfl) (hdg := dX11_word_56) (q := 59) (hq := rfl) (fun r56_7 S56_6 hw hR => ?_)
      exact Go_iret C hQ hR hw dX11_word_59
    have hw := ite_f hw hk1
    by_cases hk2 : p1 = (2 : Int32)
    · have hw := ite_t hw hk2
      refine Go_tableIn (t := 60) C dX11_word_11 (by rw [hk2]; decide) (by rw [hk2]; decide) (by rw [hk2]; rfl) rfl ?_
      refine Go_aload_n (q := 61) C 0 rfl dX11_word_60 rfl ?_
      refine Go_getA (q := 64) (k := 2) C ci11 iw_11 kE_0 (rE_0_2 hR) rfl wm_2_1 rfl dX11_word_61 rfl ?_
      refine Go_getAN (q := 67) (k := 12) (host := "EndsRound") C ci4 iw_4 kE_21 (rE4_12 hR isE4_21) rfl nw_39 rfl dX11_word_64 rfl ?_
      refine Go_iload_n (q := 68) C 1 rfl dX11_word_67 rfl ?_
      refine Go_callS_I (av := (fun ad => [.ref (ad (27)), .int p0])) (st := []) (C := C) (hM := c_X11_cell (Gl G) (ok_ln kE_27) hR hw) (hlk := wm_31_17) (hini := wm_1_2) (hst2 := wm_10_22) (hcode := wm_10_23) (n := 2) (hd := by decide +kernel) (hr0 := ⟨rfl, rfl⟩) (hroom := ⟨by first | decide | (dsimp only; omega), by first | decide | (dsimp only; omega)⟩) (hlen := rfl) (hst := rfl) (hW := Nat.le_of_ble_eq_true rfl) (hdg := dX11_word_68) (q := 71) (hq := rfl) (fun r68_9 S68_8 hw hR => ?_)
      exact Go_iret C hQ hR hw dX11_word_71
    have hw := ite_f hw hk2
    refine Go_tableOut (t := 72) C dX11_word_11 (by have g0 : ¬ (p1).toInt = 0 := ne_toInt hk0; have g1 : ¬ (p1).toInt = 1 := ne_toInt hk1; have g2 : ¬ (p1).toInt = 2 := ne_toInt hk2; omega) rfl ?_
    refine Go_iconst (q := 73) (v := (-1 : Int32)) C dX11_word_72 rfl rfl ?_
    exact Go_iret C hQ hR hw dX11_word_73
-- X4_forbids
abbrev rm_X4_forbids : Room := { frames := 1, cells := 0, slots := 0, locals := 21 }
set_option maxRecDepth 100000 in
set_option maxHeartbeats 4000000 in
theorem c_X4_forbids (l : Launch) {o : Nat} (ho : isE4 o) {p0 : Int32} {p1 : Int32} {S : St} {Q : Int32 → St → Prop} (hR : RCE S) (hw : w_X4_forbids o p0 p1 S Q) : MetI l yX4_forbids (wB yX4_forbids cX4_forbids 3 (some .boolean)) rm_X4_forbids shE NE RCE (fun ad => [.ref (ad (o)), .int p0, .int p1]) S Q := by
  refine MetI_of (cc := cX4_forbids) (maxL := 3) (ret := (some .boolean)) (plainFor_of_name (by decide)) (fun _ => Nat.le_of_ble_eq_true rfl) (fun G C hl hQ => ?_)
  subst hl
  have C : Cx G cX4_forbids BIG RX4 3 (some .boolean) rm_X4_forbids shE NE := C
  show Go G 3 0 [] [(0, .ref (Gad G (o))), (1, .int p0), (2, .int p1)] S
  unfold w_X4_forbids at hw
  refine Go_aload_n (q := 1) C 0 rfl dX4_forbids_0 rfl ?_
  refine Go_getA (q := 4) (k := 13) C ci4 iw_4 (oE4 ho) (rE4_13 hR ho) rfl wm_7_3 rfl dX4_forbids_1 rfl ?_
  refine Go_iload_n (q := 5) C 1 rfl dX4_forbids_4 rfl ?_
  refine Go_callSN_I (av := (fun ad => [.ref (ad ((o + 7))), .int p0])) (st := []) (C := C) (hM := c_X11_cell (Gl G) (ok_ln (oE4_13 ho)) hR hw) (host := "EndsRound") (hnw := nw_86) (hini := wm_1_2) (hst2 := wm_10_22) (hcode := wm_10_23) (n := 2) (hd := by decide +kernel) (hr0 := ⟨rfl, rfl⟩) (hroom := ⟨by first | decide | (dsimp only; omega), by first | decide | (dsimp only; omega)⟩) (hlen := rfl) (hst := rfl) (hW := Nat.le_of_ble_eq_true rfl) (hdg := dX4_forbids_5) (q := 8) (hq := rfl) (fun r5_2 S5_1 hw hR => ?_)
  refine Go_iload_n (q := 9) C 2 rfl dX4_forbids_8 rfl ?_
  refine Go_ishr (q := 10) C dX4_forbids_9 rfl ?_
  refine Go_iconst (q := 11) (v := (1 : Int32)) C dX4_forbids_10 rfl rfl ?_
  refine Go_iand (q := 12) C dX4_forbids_11 rfl ?_
  refine Go_if_eq (t := 19) (q := 15) C hw dX4_forbids_12 rfl rfl (fun hw => ?_) (fun hw => ?_)
  · refine Go_iconst (q := 20) (v := (0 : Int32)) C dX4_forbids_19 rfl rfl ?_
    exact Go_zret C hQ hR rfl hw dX4_forbids_20
  · refine Go_iconst (q := 16) (v := (1 : Int32)) C dX4_forbids_15 rfl rfl ?_
    refine Go_goto (q := 20) C dX4_forbids_16 rfl ?_
    exact Go_zret C hQ hR rfl hw dX4_forbids_20
-- X11_barred
abbrev rm_X11_barred : Room := { frames := 2, cells := 0, slots := 0, locals := 43 }
set_option maxRecDepth 100000 in
set_option maxHeartbeats 4000000 in
theorem c_X11_barred (l : Launch) {p0 : Int32} {p1 : Int32} {S : St} {Q : Int32 → St → Prop} (hR : RCE S) (hw : w_X11_barred p0 p1 S Q) : MetI l yX11_barred (wB yX11_barred cX11_barred 3 (some .int)) rm_X11_barred shE NE RCE (fun ad => [.ref (ad (0)), .int p0, .int p1]) S Q := by
  refine MetI_of (cc := cX11_barred) (maxL := 3) (ret := (some .int)) (plainFor_of_name (by decide)) (fun _ => Nat.le_of_ble_eq_true rfl) (fun G C hl hQ => ?_)
  subst hl
  have C : Cx G cX11_barred BIG RX11 3 (some .int) rm_X11_barred shE NE := C
  show Go G 3 0 [] [(0, .ref (Gad G (0))), (1, .int p0), (2, .int p1)] S
  unfold w_X11_barred at hw
  refine Go_aload_n (q := 1) C 0 rfl dX11_barred_0 rfl ?_
  refine Go_iload_n (q := 2) C 1 rfl dX11_barred_1 rfl ?_
  refine Go_callV_I (av := (fun ad => [.int p0])) (st := []) (C := C) (hM := c_X11_isWord (Gl G)  hR hw) (hlk := wm_38_5) (hini := wm_1_2) (hins := wm_38_6) (hsel := wm_38_7) (hcode := wm_38_8) (ho := kE_0) (hci := rfl) (hc13 := by decide) (n := 1) (hd := by decide +kernel) (hr0 := ⟨rfl, rfl⟩) (hroom := ⟨by first | decide | (dsimp only; omega), by first | decide | (dsimp only; omega)⟩) (hlen := rfl) (hst := rfl) (hW := Nat.le_of_ble_eq_true rfl) (hdg := dX11_barred_2) (q := 5) (hq := rfl) (fun r2_2 S2_1 hw hR => ?_)
  refine Go_if_eq (t := 16) (q := 8) C hw dX11_barred_5 rfl rfl (fun hw => ?_) (fun hw => ?_)
  · refine Go_iconst (q := 17) (v := (-1 : Int32)) C dX11_barred_16 rfl rfl ?_
    exact Go_iret C hQ hR hw dX11_barred_17
  · refine Go_aload_n (q := 9) C 0 rfl dX11_barred_8 rfl ?_
    refine Go_iload_n (q := 10) C 2 rfl dX11_barred_9 rfl ?_
    refine Go_callV_I (av := (fun ad => [.int p1])) (st := []) (C := C) (hM := c_X11_isWord (Gl G)  hR hw) (hlk := wm_38_5) (hini := wm_1_2) (hins := wm_38_6) (hsel := wm_38_7) (hcode := wm_38_8) (ho := kE_0) (hci := rfl) (hc13 := by decide) (n := 1) (hd := by decide +kernel) (hr0 := ⟨rfl, rfl⟩) (hroom := ⟨by first | decide | (dsimp only; omega), by first | decide | (dsimp only; omega)⟩) (hlen := rfl) (hst := rfl) (hW := Nat.le_of_ble_eq_true rfl) (hdg := dX11_barred_10) (q := 13) (hq := rfl) (fun r10_4 S10_3 hw hR => ?_)
    refine Go_if_ne (t := 18) (q := 16) C hw dX11_barred_13 rfl rfl (fun hw => ?_) (fun hw => ?_)
    · refine Go_iconst (q := 17) (v := (-1 : Int32)) C dX11_barred_16 rfl rfl ?_
      exact Go_iret C hQ hR hw dX11_barred_17
    · refine Go_aload_n (q := 19) C 0 rfl dX11_barred_18 rfl ?_
      refine Go_getA (q := 22) (k := 2) C ci11 iw_11 kE_0 (rE_0_2 hR) rfl wm_2_1 rfl dX11_barred_19 rfl ?_
      refine Go_iload_n (q := 23) C 1 rfl dX11_barred_22 rfl ?_
      refine Go_iload_n (q := 24) C 2 rfl dX11_barred_23 rfl ?_
      refine Go_callV_I (av := (fun ad => [.int p0, .int p1])) (st := []) (C := C) (hM := c_X4_forbids (Gl G) isE4_21 hR hw) (hlk := wm_38_21) (hini := wm_2_0) (hins := wm_38_22) (hsel := wm_38_23) (hcode := wm_39_0) (ho := kE_21) (hci := rfl) (hc13 := by decide) (n := 2) (hd := by decide +kernel) (hr0 := ⟨rfl, rfl⟩) (hroom := ⟨by first | decide | (dsimp only; omega), by first | decide | (dsimp only; omega)⟩) (hlen := rfl) (hst := rfl) (hW := Nat.le_of_ble_eq_true rfl) (hdg := dX11_barred_24) (q := 27) (hq := rfl) (fun r24_6 S24_5 hw hR => ?_)
      refine Go_if_eq (t := 34) (q := 30) C hw dX11_barred_27 rfl rfl (fun hw => ?_) (fun hw => ?_)
      · refine Go_iconst (q := 35) (v := (0 : Int32)) C dX11_barred_34 rfl rfl ?_
        exact Go_iret C hQ hR hw dX11_barred_35
      · refine Go_iconst (q := 31) (v := (1 : Int32)) C dX11_barred_30 rfl rfl ?_
        refine Go_goto (q := 35) C dX11_barred_31 rfl ?_
        exact Go_iret C hQ hR hw dX11_barred_35
-- X9_areOneClass
abbrev rm_X9_areOneClass : Room := { frames := 1, cells := 0, slots := 0, locals := 21 }
set_option maxRecDepth 100000 in
set_option maxHeartbeats 4000000 in
theorem c_X9_areOneClass (l : Launch) {p0 : Int32} {p1 : Int32} {S : St} {Q : Int32 → St → Prop} (hR : RCE S) (hw : w_X9_areOneClass p0 p1 S Q) : MetI l yX9_areOneClass (wB yX9_areOneClass cX9_areOneClass 3 (some .boolean)) rm_X9_areOneClass shE NE RCE (fun ad => [.ref (ad (34)), .int p0, .int p1]) S Q := by
  refine MetI_of (cc := cX9_areOneClass) (maxL := 3) (ret := (some .boolean)) (plainFor_of_name (by decide)) (fun _ => Nat.le_of_ble_eq_true rfl) (fun G C hl hQ => ?_)
  subst hl
  have C : Cx G cX9_areOneClass BIG RX9 3 (some .boolean) rm_X9_areOneClass shE NE := C
  show Go G 3 0 [] [(0, .ref (Gad G (34))), (1, .int p0), (2, .int p1)] S
  unfold w_X9_areOneClass at hw
  refine Go_aload_n (q := 1) C 0 rfl dX9_areOneClass_0 rfl ?_
  refine Go_getA (q := 4) (k := 3) C ci9 iw_9 kE_34 (rE_34_3 hR) rfl wm_7_18 rfl dX9_areOneClass_1 rfl ?_
  refine Go_iload_n (q := 5) C 1 rfl dX9_areOneClass_4 rfl ?_
  refine Go_callSN_I (av := (fun ad => [.ref (ad (39)), .int p0])) (st := []) (C := C) (hM := c_X11_cell (Gl G) (ok_ln kE_39) hR hw) (host := "EndsRound") (hnw := nw_77) (hini := wm_1_2) (hst2 := wm_10_22) (hcode := wm_10_23) (n := 2) (hd := by decide +kernel) (hr0 := ⟨rfl, rfl⟩) (hroom := ⟨by first | decide | (dsimp only; omega), by first | decide | (dsimp only; omega)⟩) (hlen := rfl) (hst := rfl) (hW := Nat.le_of_ble_eq_true rfl) (hdg := dX9_areOneClass_5) (q := 8) (hq := rfl) (fun r5_2 S5_1 hw hR => ?_)
  refine Go_aload_n (q := 9) C 0 rfl dX9_areOneClass_8 rfl ?_
  refine Go_getA (q := 12) (k := 3) C ci9 iw_9 kE_34 (rE_34_3 hR) rfl wm_7_18 rfl dX9_areOneClass_9 rfl ?_
  refine Go_iload_n (q := 13) C 2 rfl dX9_areOneClass_12 rfl ?_
  refine Go_callSN_I (av := (fun ad => [.ref (ad (39)), .int p1])) (st := [.int r5_2]) (C := C) (hM := c_X11_cell (Gl G) (ok_ln kE_39) hR hw) (host := "EndsRound") (hnw := nw_77) (hini := wm_1_2) (hst2 := wm_10_22) (hcode := wm_10_23) (n := 2) (hd := by decide +kernel) (hr0 := ⟨rfl, rfl⟩) (hroom := ⟨by first | decide | (dsimp only; omega), by first | decide | (dsimp only; omega)⟩) (hlen := rfl) (hst := rfl) (hW := Nat.le_of_ble_eq_true rfl) (hdg := dX9_areOneClass_13) (q := 16) (hq := rfl) (fun r13_4 S13_3 hw hR => ?_)
  refine Go_icmp_ne (t := 23) (q := 19) C hw dX9_areOneClass_16 rfl rfl (fun hw => ?_) (fun hw => ?_)
  · refine Go_iconst (q := 20) (v := (1 : Int32)) C dX9_areOneClass_19 rfl rfl ?_
    refine Go_goto (q := 24) C dX9_areOneClass_20 rfl ?_
    exact Go_zret C hQ hR rfl hw dX9_areOneClass_24
  · refine Go_iconst (q := 24) (v := (0 : Int32)) C dX9_areOneClass_23 rfl rfl ?_
    exact Go_zret C hQ hR rfl hw dX9_areOneClass_24
-- X3_allowedBy
abbrev rm_X3_allowedBy : Room := { frames := 2, cells := 0, slots := 0, locals := 43 }
set_option maxRecDepth 100000 in
set_option maxHeartbeats 4000000 in
theorem g_X3_allowedBy_101 {G : GC} (C : Cx G cX3_allowedBy BIG RX3 6 (some .int) rm_X3_allowedBy shE NE) {Q : Int32 → St → Prop} (hQ : QI G RCE Q) (p0 : Int32) (p1 : Int32) (v4 : Int32) (t0 : Int32) (t1 : Int32) {k5 : Int32 → Int32 → St → Prop} (hk5 : ∀ (v3 : Int32) (v4 : Int32) (S : St), RCE S → k5 v3 v4 S → Go G 6 5 [] [(0, .ref (Gad G (43))), (1, .int p0), (2, .int p1), (3, .int v3), (4, .int v4)] S) {S : St} (hR : RCE S) (hw : w_X3_allowedBy_101 p0 p1 k5 v4 t0 t1 S) : Go G 6 101 [.int t0, .int t1] [(0, .ref (Gad G (43))), (1, .int p0), (2, .int p1), (4, .int v4)] S := by
  unfold w_X3_allowedBy_101 at hw
  refine Go_ior (q := 102) C dX3_allowedBy_101 rfl ?_
  refine Go_topi (fun x102_1 e_x102_1 => ?_)
  have hw := hw x102_1 e_x102_1
  refine Go_istore_n (q := 103) (lv' := [(3, .int x102_1), (0, .ref (Gad G (43))), (1, .int p0), (2, .int p1), (4, .int v4)]) C rfl dX3_allowedBy_102 (by decide) rfl rfl ?_
  refine Go_iinc2 (q := 106) (kp := 4) (cst := (1 : Int32)) C dX3_allowedBy_103 rfl rfl (by decide) rfl (fun x103_2 e_x103_2 => ?_)
  have hw := hw x103_2 e_x103_2
  refine Go_lve (lv' := [(4, .int x103_2), (3, .int x102_1), (0, .ref (Gad G (43))), (1, .int p0), (2, .int p1)]) rfl ?_
  refine Go_goto (q := 5) C dX3_allowedBy_106 rfl ?_
  refine Go_lvp [2, 3, 4, 1, 0] rfl ?_
  exact hk5 _ _ _ hR hw
set_option maxRecDepth 100000 in
set_option maxHeartbeats 4000000 in
theorem g_X3_allowedBy_85 {G : GC} (C : Cx G cX3_allowedBy BIG RX3 6 (some .int) rm_X3_allowedBy shE NE) {Q : Int32 → St → Prop} (hQ : QI G RCE Q) (p0 : Int32) (p1 : Int32) (v3 : Int32) (v4 : Int32) (t0 : Int32) {k5 : Int32 → Int32 → St → Prop} (hk5 : ∀ (v3 : Int32) (v4 : Int32) (S : St), RCE S → k5 v3 v4 S → Go G 6 5 [] [(0, .ref (Gad G (43))), (1, .int p0), (2, .int p1), (3, .int v3), (4, .int v4)] S) {S : St} (hR : RCE S) (hw : w_X3_allowedBy_85 p0 p1 k5 v3 v4 t0 S) : Go G 6 85 [.int t0] [(0, .ref (Gad G (43))), (1, .int p0), (2, .int p1), (3, .int v3), (4, .int v4)] S := by
  unfold w_X3_allowedBy_85 at hw
  refine Go_istore (q := 87) (lv' := [(5, .int t0), (0, .ref (Gad G (43))), (1, .int p0), (2, .int p1), (3, .int v3), (4, .int v4)]) C dX3_allowedBy_85 (by decide) rfl rfl ?_
  refine Go_iload_n (q := 88) C 4 rfl dX3_allowedBy_87 rfl ?_
  refine Go_iload (q := 90) C 0 rfl dX3_allowedBy_88 rfl ?_
  refine Go_if_eq (t := 97) (q := 93) C hw dX3_allowedBy_90 rfl rfl (fun hw => ?_) (fun hw => ?_)
  · refine Go_iconst (q := 98) (v := (1 : Int32)) C dX3_allowedBy_97 rfl rfl ?_
    refine Go_iload (q := 100) C 5 rfl dX3_allowedBy_98 rfl ?_
    refine Go_ishl (q := 101) C dX3_allowedBy_100 rfl ?_
    refine Go_lvp [1, 2, 3, 5] rfl ?_
    exact g_X3_allowedBy_101 C hQ p0 p1 _ _ _ hk5 hR hw
  · refine Go_iconst (q := 94) (v := (0 : Int32)) C dX3_allowedBy_93 rfl rfl ?_
    refine Go_goto (q := 101) C dX3_allowedBy_94 rfl ?_
    refine Go_lvp [1, 2, 3, 5] rfl ?_
    exact g_X3_allowedBy_101 C hQ p0 p1 _ _ _ hk5 hR hw
set_option maxRecDepth 100000 in
set_option maxHeartbeats 4000000 in
theorem g_X3_allowedBy_80 {G : GC} (C : Cx G cX3_allowedBy BIG RX3 6 (some .int) rm_X3_allowedBy shE NE) {Q : Int32 → St → Prop} (hQ : QI G RCE Q) (p0 : Int32) (p1 : Int32) (v3 : Int32) (v4 : Int32) {k5 : Int32 → Int32 → St → Prop} (hk5 : ∀ (v3 : Int32) (v4 : Int32) (S : St), RCE S → k5 v3 v4 S → Go G 6 5 [] [(0, .ref (Gad G (43))), (1, .int p0), (2, .int p1), (3, .int v3), (4, .int v4)] S) {S : St} (hR : RCE S) (hw : w_X3_allowedBy_80 p0 p1 k5 v3 v4 S) : Go G 6 80 [] [(0, .ref (Gad G (43))), (1, .int p0), (2, .int p1), (3, .int v3), (4, .int v4)] S := by
  unfold w_X3_allowedBy_80 at hw
  refine Go_iconst (q := 81) (v := (1 : Int32)) C dX3_allowedBy_80 rfl rfl ?_
  refine Go_goto (q := 85) C dX3_allowedBy_81 rfl ?_
  refine Go_lvp [0, 1, 2, 3, 4] rfl ?_
  exact g_X3_allowedBy_85 C hQ p0 p1 _ _ _ hk5 hR hw
set_option maxRecDepth 100000 in
set_option maxHeartbeats 4000000 in
theorem g_X3_allowedBy_84 {G : GC} (C : Cx G cX3_allowedBy BIG RX3 6 (some .int) rm_X3_allowedBy shE NE) {Q : Int32 → St → Prop} (hQ : QI G RCE Q) (p0 : Int32) (p1 : Int32) (v3 : Int32) (v4 : Int32) {k5 : Int32 → Int32 → St → Prop} (hk5 : ∀ (v3 : Int32) (v4 : Int32) (S : St), RCE S → k5 v3 v4 S → Go G 6 5 [] [(0, .ref (Gad G (43))), (1, .int p0), (2, .int p1), (3, .int v3), (4, .int v4)] S) {S : St} (hR : RCE S) (hw : w_X3_allowedBy_84 p0 p1 k5 v3 v4 S) : Go G 6 84 [] [(0, .ref (Gad G (43))), (1, .int p0), (2, .int p1), (3, .int v3), (4, .int v4)] S := by
  unfold w_X3_allowedBy_84 at hw
  refine Go_iconst (q := 85) (v := (0 : Int32)) C dX3_allowedBy_84 rfl rfl ?_
  refine Go_lvp [0, 1, 2, 3, 4] rfl ?_
  exact g_X3_allowedBy_85 C hQ p0 p1 _ _ _ hk5 hR hw
set_option maxRecDepth 100000 in
set_option maxHeartbeats 4000000 in
theorem g_X3_allowedBy_61 {G : GC} (C : Cx G cX3_allowedBy BIG RX3 6 (some .int) rm_X3_allowedBy shE NE) {Q : Int32 → St → Prop} (hQ : QI G RCE Q) (p0 : Int32) (p1 : Int32) (v3 : Int32) (v4 : Int32) {k5 : Int32 → Int32 → St → Prop} (hk5 : ∀ (v3 : Int32) (v4 : Int32) (S : St), RCE S → k5 v3 v4 S → Go G 6 5 [] [(0, .ref (Gad G (43))), (1, .int p0), (2, .int p1), (3, .int v3), (4, .int v4)] S) {S : St} (hR : RCE S) (hw : w_X3_allowedBy_61 p0 p1 k5 v3 v4 S) : Go G 6 61 [] [(0, .ref (Gad G (43))), (1, .int p0), (2, .int p1), (3, .int v3), (4, .int v4)] S := by
  unfold w_X3_allowedBy_61 at hw
  refine Go_iload_n (q := 62) C 1 rfl dX3_allowedBy_61 rfl ?_
  refine Go_iconst (q := 63) (v := (4 : Int32)) C dX3_allowedBy_62 rfl rfl ?_
  refine Go_iand (q := 64) C dX3_allowedBy_63 rfl ?_
  refine Go_if_eq (t := 84) (q := 67) C hw dX3_allowedBy_64 rfl rfl (fun hw => ?_) (fun hw => ?_)
  · refine Go_lvp [0, 1, 2, 3, 4] rfl ?_
    exact g_X3_allowedBy_84 C hQ p0 p1 _ _ hk5 hR hw
  · refine Go_aload_n (q := 68) C 0 rfl dX3_allowedBy_67 rfl ?_
    refine Go_getA (q := 71) (k := 0) C ci3 iw_3 kE_43 (rE_43_0 hR) rfl wm_8_13 rfl dX3_allowedBy_68 rfl ?_
    refine Go_iload (q := 73) C 4 rfl dX3_allowedBy_71 rfl ?_
    refine Go_iload_n (q := 74) C 2 rfl dX3_allowedBy_73 rfl ?_
    refine Go_callV_I (av := (fun ad => [.int v4, .int p1])) (st := []) (C := C) (hM := c_X4_forbids (Gl G) isE4_21 hR hw) (hlk := wm_40_10) (hini := wm_2_0) (hins := wm_38_22) (hsel := wm_38_23) (hcode := wm_39_0) (ho := kE_21) (hci := rfl) (hc13 := by decide) (n := 2) (hd := by decide +kernel) (hr0 := ⟨rfl, rfl⟩) (hroom := ⟨by first | decide | (dsimp only; omega), by first | decide | (dsimp only; omega)⟩) (hlen := rfl) (hst := rfl) (hW := Nat.le_of_ble_eq_true rfl) (hdg := dX3_allowedBy_74) (q := 77) (hq := rfl) (fun r74_4 S74_3 hw hR => ?_)
    refine Go_if_eq (t := 84) (q := 80) C hw dX3_allowedBy_77 rfl rfl (fun hw => ?_) (fun hw => ?_)
    · refine Go_lvp [0, 1, 2, 3, 4] rfl ?_
      exact g_X3_allowedBy_84 C hQ p0 p1 _ _ hk5 hR hw
    · refine Go_lvp [0, 1, 2, 3, 4] rfl ?_
      exact g_X3_allowedBy_80 C hQ p0 p1 _ _ hk5 hR hw
set_option maxRecDepth 100000 in
set_option maxHeartbeats 4000000 in
theorem g_X3_allowedBy_42 {G : GC} (C : Cx G cX3_allowedBy BIG RX3 6 (some .int) rm_X3_allowedBy shE NE) {Q : Int32 → St → Prop} (hQ : QI G RCE Q) (p0 : Int32) (p1 : Int32) (v3 : Int32) (v4 : Int32) {k5 : Int32 → Int32 → St → Prop} (hk5 : ∀ (v3 : Int32) (v4 : Int32) (S : St), RCE S → k5 v3 v4 S → Go G 6 5 [] [(0, .ref (Gad G (43))), (1, .int p0), (2, .int p1), (3, .int v3), (4, .int v4)] S) {S : St} (hR : RCE S) (hw : w_X3_allowedBy_42 p0 p1 k5 v3 v4 S) : Go G 6 42 [] [(0, .ref (Gad G (43))), (1, .int p0), (2, .int p1), (3, .int v3), (4, .int v4)] S := by
  unfold w_X3_allowedBy_42 at hw
  refine Go_iload_n (q := 43) C 1 rfl dX3_allowedBy_42 rfl ?_
  refine Go_iconst (q := 44) (v := (2 : Int32)) C dX3_allowedBy_43 rfl rfl ?_
  refine Go_iand (q := 45) C dX3_allowedBy_44 rfl ?_
  refine Go_if_eq (t := 61) (q := 48) C hw dX3_allowedBy_45 rfl rfl (fun hw => ?_) (fun hw => ?_)
  · refine Go_lvp [0, 1, 2, 3, 4] rfl ?_
    exact g_X3_allowedBy_61 C hQ p0 p1 _ _ hk5 hR hw
  · refine Go_aload_n (q := 49) C 0 rfl dX3_allowedBy_48 rfl ?_
    refine Go_getA (q := 52) (k := 0) C ci3 iw_3 kE_43 (rE_43_0 hR) rfl wm_8_13 rfl dX3_allowedBy_49 rfl ?_
    refine Go_iload_n (q := 53) C 2 rfl dX3_allowedBy_52 rfl ?_
    refine Go_iload (q := 55) C 4 rfl dX3_allowedBy_53 rfl ?_
    refine Go_callV_I (av := (fun ad => [.int p1, .int v4])) (st := []) (C := C) (hM := c_X4_forbids (Gl G) isE4_21 hR hw) (hlk := wm_40_10) (hini := wm_2_0) (hins := wm_38_22) (hsel := wm_38_23) (hcode := wm_39_0) (ho := kE_21) (hci := rfl) (hc13 := by decide) (n := 2) (hd := by decide +kernel) (hr0 := ⟨rfl, rfl⟩) (hroom := ⟨by first | decide | (dsimp only; omega), by first | decide | (dsimp only; omega)⟩) (hlen := rfl) (hst := rfl) (hW := Nat.le_of_ble_eq_true rfl) (hdg := dX3_allowedBy_55) (q := 58) (hq := rfl) (fun r55_6 S55_5 hw hR => ?_)
    refine Go_if_ne (t := 80) (q := 61) C hw dX3_allowedBy_58 rfl rfl (fun hw => ?_) (fun hw => ?_)
    · refine Go_lvp [0, 1, 2, 3, 4] rfl ?_
      exact g_X3_allowedBy_61 C hQ p0 p1 _ _ hk5 hR hw
    · refine Go_lvp [0, 1, 2, 3, 4] rfl ?_
      exact g_X3_allowedBy_80 C hQ p0 p1 _ _ hk5 hR hw
set_option maxRecDepth 100000 in
set_option maxHeartbeats 4000000 in
theorem g_X3_allowedBy_5 {G : GC} (C : Cx G cX3_allowedBy BIG RX3 6 (some .int) rm_X3_allowedBy shE NE) {Q : Int32 → St → Prop} (hQ : QI G RCE Q) (p0 : Int32) (p1 : Int32) (v3 : Int32) (v4 : Int32) {S : St} (hR : RCE S) (hw : w_X3_allowedBy_5 p0 p1 Q v3 v4 S) : Go G 6 5 [] [(0, .ref (Gad G (43))), (1, .int p0), (2, .int p1), (3, .int v3), (4, .int v4)] S := by
  obtain ⟨n, hw⟩ := hw
  induction n generalizing v3 v4 S with
  | zero => exact hw.elim
  | succ n ih =>
    have hw : b_X3_allowedBy_5 p0 p1 Q (lpn (fun _ _ _ => False) (b_X3_allowedBy_5 p0 p1 Q) n) v3 v4 S := hw
    generalize lpn (fun _ _ _ => False) (b_X3_allowedBy_5 p0 p1 Q) n = kf at hw ih
    have hk5 := fun (v3 : Int32) (v4 : Int32) (S : St) (hR : RCE S) hw => ih v3 v4 hR hw
    unfold b_X3_allowedBy_5 at hw
    refine Go_iload (q := 7) C 4 rfl dX3_allowedBy_5 rfl ?_
    refine Go_aload_n (q := 8) C 0 rfl dX3_allowedBy_7 rfl ?_
    refine Go_getA (q := 11) (k := 0) C ci3 iw_3 kE_43 (rE_43_0 hR) rfl wm_8_13 rfl dX3_allowedBy_8 rfl ?_
    refine Go_getIN (q := 14) (k := 5) (host := "EndsRound") C ci4 iw_4 kE_21 rfl nw_21 rfl dX3_allowedBy_11 rfl ?_
    refine Go_icmp_ge (t := 109) (q := 17) C hw dX3_allowedBy_14 rfl rfl (fun hw => ?_) (fun hw => ?_)
    · refine Go_iload_n (q := 110) C 3 rfl dX3_allowedBy_109 rfl ?_
      exact Go_iret C hQ hR hw dX3_allowedBy_110
    · refine Go_iload (q := 19) C 4 rfl dX3_allowedBy_17 rfl ?_
      refine Go_iload_n (q := 20) C 2 rfl dX3_allowedBy_19 rfl ?_
      refine Go_icmp_eq (t := 80) (q := 23) C hw dX3_allowedBy_20 rfl rfl (fun hw => ?_) (fun hw => ?_)
      · refine Go_lvp [0, 1, 2, 3, 4] rfl ?_
        exact g_X3_allowedBy_80 C hQ p0 p1 _ _ hk5 hR hw
      · refine Go_iload_n (q := 24) C 1 rfl dX3_allowedBy_23 rfl ?_
        refine Go_iconst (q := 25) (v := (1 : Int32)) C dX3_allowedBy_24 rfl rfl ?_
        refine Go_iand (q := 26) C dX3_allowedBy_25 rfl ?_
        refine Go_if_eq (t := 42) (q := 29) C hw dX3_allowedBy_26 rfl rfl (fun hw => ?_) (fun hw => ?_)
        · refine Go_lvp [0, 1, 2, 3, 4] rfl ?_
          exact g_X3_allowedBy_42 C hQ p0 p1 _ _ hk5 hR hw
        · refine Go_aload_n (q := 30) C 0 rfl dX3_allowedBy_29 rfl ?_
          refine Go_getA (q := 33) (k := 0) C ci3 iw_3 kE_43 (rE_43_0 hR) rfl wm_8_13 rfl dX3_allowedBy_30 rfl ?_
          refine Go_iload_n (q := 34) C 2 rfl dX3_allowedBy_33 rfl ?_
          refine Go_iload (q := 36) C 4 rfl dX3_allowedBy_34 rfl ?_
          refine Go_callV_I (av := (fun ad => [.int p1, .int v4])) (st := []) (C := C) (hM := c_X4_areRhyming (Gl G) isE4_21 hR hw) (hlk := wm_40_9) (hini := wm_2_0) (hins := wm_23_3) (hsel := wm_23_4) (hcode := wm_23_5) (ho := kE_21) (hci := rfl) (hc13 := by decide) (n := 2) (hd := by decide +kernel) (hr0 := ⟨rfl, rfl⟩) (hroom := ⟨by first | decide | (dsimp only; omega), by first | decide | (dsimp only; omega)⟩) (hlen := rfl) (hst := rfl) (hW := Nat.le_of_ble_eq_true rfl) (hdg := dX3_allowedBy_36) (q := 39) (hq := rfl) (fun r36_8 S36_7 hw hR => ?_)
          refine Go_if_eq (t := 80) (q := 42) C hw dX3_allowedBy_39 rfl rfl (fun hw => ?_) (fun hw => ?_)
          · refine Go_lvp [0, 1, 2, 3, 4] rfl ?_
            exact g_X3_allowedBy_80 C hQ p0 p1 _ _ hk5 hR hw
          · refine Go_lvp [0, 1, 2, 3, 4] rfl ?_
            exact g_X3_allowedBy_42 C hQ p0 p1 _ _ hk5 hR hw
set_option maxRecDepth 100000 in
set_option maxHeartbeats 4000000 in
theorem c_X3_allowedBy (l : Launch) {p0 : Int32} {p1 : Int32} {S : St} {Q : Int32 → St → Prop} (hR : RCE S) (hw : w_X3_allowedBy p0 p1 S Q) : MetI l yX3_allowedBy (wB yX3_allowedBy cX3_allowedBy 6 (some .int)) rm_X3_allowedBy shE NE RCE (fun ad => [.ref (ad (43)), .int p0, .int p1]) S Q := by
  refine MetI_of (cc := cX3_allowedBy) (maxL := 6) (ret := (some .int)) (plainFor_of_name (by decide)) (fun _ => Nat.le_of_ble_eq_true rfl) (fun G C hl hQ => ?_)
  subst hl
  have C : Cx G cX3_allowedBy BIG RX3 6 (some .int) rm_X3_allowedBy shE NE := C
  show Go G 6 0 [] [(0, .ref (Gad G (43))), (1, .int p0), (2, .int p1)] S
  unfold w_X3_allowedBy at hw
  refine Go_iconst (q := 1) (v := (0 : Int32)) C dX3_allowedBy_0 rfl rfl ?_
  refine Go_istore_n (q := 2) (lv' := [(3, .int (0 : Int32)), (0, .ref (Gad G (43))), (1, .int p0), (2, .int p1)]) C rfl dX3_allowedBy_1 (by decide) rfl rfl ?_
  refine Go_iconst (q := 3) (v := (0 : Int32)) C dX3_allowedBy_2 rfl rfl ?_
  refine Go_istore (q := 5) (lv' := [(4, .int (0 : Int32)), (3, .int (0 : Int32)), (0, .ref (Gad G (43))), (1, .int p0), (2, .int p1)]) C dX3_allowedBy_3 (by decide) rfl rfl ?_
  refine Go_lvp [2, 3, 4, 1, 0] rfl ?_
  exact g_X3_allowedBy_5 C hQ p0 p1 _ _ hR hw
-- X3_prepare
abbrev rm_X3_prepare : Room := { frames := 3, cells := 0, slots := 0, locals := 68 }
set_option maxRecDepth 100000 in
set_option maxHeartbeats 4000000 in
theorem g_X3_prepare_110 {G : GC} (C : Cx G cX3_prepare BIG RX3 4 none rm_X3_prepare shE NE) {Q : St → Prop} (hQ : QV G RCE Q) (v1 : Int32) {k102 : Int32 → St → Prop} (hk102 : ∀ (v1 : Int32) (S : St), RCE S → k102 v1 S → Go G 4 102 [] [(0, .ref (Gad G (43))), (1, .int v1)] S) (v2 : Int32) {S : St} (hR : RCE S) (hw : w_X3_prepare_110 k102 v1 v2 S) : Go G 4 110 [] [(0, .ref (Gad G (43))), (1, .int v1), (2, .int v2)] S := by
  obtain ⟨n, hw⟩ := hw
  induction n generalizing v2 S with
  | zero => exact hw.elim
  | succ n ih =>
    have hw : b_X3_prepare_110 k102 v1 (lpn (fun _ _ => False) (b_X3_prepare_110 k102 v1) n) v2 S := hw
    generalize lpn (fun _ _ => False) (b_X3_prepare_110 k102 v1) n = kf at hw ih
    have hk110 := fun (v2 : Int32) (S : St) (hR : RCE S) hw => ih v2 hR hw
    unfold b_X3_prepare_110 at hw
    refine Go_iload_n (q := 111) C 2 rfl dX3_prepare_110 rfl ?_
    refine Go_aload_n (q := 112) C 0 rfl dX3_prepare_111 rfl ?_
    refine Go_getA (q := 115) (k := 0) C ci3 iw_3 kE_43 (rE_43_0 hR) rfl wm_8_13 rfl dX3_prepare_112 rfl ?_
    refine Go_getIN (q := 118) (k := 5) (host := "EndsRound") C ci4 iw_4 kE_21 rfl nw_21 rfl dX3_prepare_115 rfl ?_
    refine Go_icmp_ge (t := 146) (q := 121) C hw dX3_prepare_118 rfl rfl (fun hw => ?_) (fun hw => ?_)
    · refine Go_iinc2 (q := 149) (kp := 1) (cst := (1 : Int32)) C dX3_prepare_146 rfl rfl (by decide) rfl (fun x146_2 e_x146_2 => ?_)
      have hw := hw x146_2 e_x146_2
      refine Go_lve (lv' := [(1, .int x146_2), (0, .ref (Gad G (43))), (2, .int v2)]) rfl ?_
      refine Go_goto (q := 102) C dX3_prepare_149 rfl ?_
      refine Go_lvp [1, 0] rfl ?_
      exact hk102 _ _ hR hw
    · refine Go_aload_n (q := 122) C 0 rfl dX3_prepare_121 rfl ?_
      refine Go_getA (q := 125) (k := 3) C ci3 iw_3 kE_43 (rE_43_3 hR) rfl wm_8_8 rfl dX3_prepare_122 rfl ?_
      refine Go_iload_n (q := 126) C 1 rfl dX3_prepare_125 rfl ?_
      refine Go_bipush (q := 128) (v := (12 : Int32)) C dX3_prepare_126 rfl rfl ?_
      refine Go_imul (q := 129) C dX3_prepare_128 rfl ?_
      refine Go_iload_n (q := 130) C 2 rfl dX3_prepare_129 rfl ?_
      refine Go_iadd (q := 131) C dX3_prepare_130 rfl ?_
      refine Go_aload_n (q := 132) C 0 rfl dX3_prepare_131 rfl ?_
      refine Go_iload_n (q := 133) C 1 rfl dX3_prepare_132 rfl ?_
      refine Go_iload_n (q := 134) C 2 rfl dX3_prepare_133 rfl ?_
      refine Go_callV_I (av := (fun ad => [.int v1, .int v2])) (st := [.int ((v1 * (12 : Int32)) + v2), .ref (Gad G (45))]) (C := C) (hM := c_X3_allowedBy (Gl G) hR hw) (hlk := wm_40_5) (hini := wm_2_12) (hins := wm_40_6) (hsel := wm_40_7) (hcode := wm_40_8) (ho := kE_43) (hci := rfl) (hc13 := by decide) (n := 2) (hd := by decide +kernel) (hr0 := ⟨rfl, rfl⟩) (hroom := ⟨by first | decide | (dsimp only; omega), by first | decide | (dsimp only; omega)⟩) (hlen := rfl) (hst := rfl) (hW := Nat.le_of_ble_eq_true rfl) (hdg := dX3_prepare_134) (q := 137) (hq := rfl) (fun r134_4 S134_3 hw hR => ?_)
      refine Go_callSN_V (av := (fun ad => [.ref (ad (45)), .int ((v1 * (12 : Int32)) + v2), .int r134_4])) (st := []) (C := C) (hM := c_X11_put (Gl G) (ok_ln kE_45) hR hw) (host := "EndsRound") (hnw := nw_90) (hini := wm_1_2) (hst2 := wm_10_11) (hcode := wm_10_12) (n := 3) (hd := by decide +kernel) (hr0 := ⟨rfl, rfl⟩) (hroom := ⟨by first | decide | (dsimp only; omega), by first | decide | (dsimp only; omega)⟩) (hlen := rfl) (hst := rfl) (hW := Nat.le_of_ble_eq_true rfl) (hdg := dX3_prepare_137) (q := 140) (hq := rfl) (fun S137_5 hw hR => ?_)
      refine Go_iinc2 (q := 143) (kp := 2) (cst := (1 : Int32)) C dX3_prepare_140 rfl rfl (by decide) rfl (fun x140_6 e_x140_6 => ?_)
      have hw := hw x140_6 e_x140_6
      refine Go_lve (lv' := [(2, .int x140_6), (0, .ref (Gad G (43))), (1, .int v1)]) rfl ?_
      refine Go_goto (q := 110) C dX3_prepare_143 rfl ?_
      refine Go_lvp [1, 2, 0] rfl ?_
      exact hk110 _ _ hR hw
set_option maxRecDepth 100000 in
set_option maxHeartbeats 4000000 in
theorem g_X3_prepare_102 {G : GC} (C : Cx G cX3_prepare BIG RX3 4 none rm_X3_prepare shE NE) {Q : St → Prop} (hQ : QV G RCE Q) (v1 : Int32) {S : St} (hR : RCE S) (hw : w_X3_prepare_102 Q v1 S) : Go G 4 102 [] [(0, .ref (Gad G (43))), (1, .int v1)] S := by
  obtain ⟨n, hw⟩ := hw
  induction n generalizing v1 S with
  | zero => exact hw.elim
  | succ n ih =>
    have hw : b_X3_prepare_102 Q (lpn (fun _ _ => False) (b_X3_prepare_102 Q) n) v1 S := hw
    generalize lpn (fun _ _ => False) (b_X3_prepare_102 Q) n = kf at hw ih
    have hk102 := fun (v1 : Int32) (S : St) (hR : RCE S) hw => ih v1 hR hw
    unfold b_X3_prepare_102 at hw
    refine Go_iload_n (q := 103) C 1 rfl dX3_prepare_102 rfl ?_
    refine Go_bipush (q := 105) (v := (8 : Int32)) C dX3_prepare_103 rfl rfl ?_
    refine Go_icmp_ge (t := 152) (q := 108) C hw dX3_prepare_105 rfl rfl (fun hw => ?_) (fun hw => ?_)
    · refine Go_aload_n (q := 153) C 0 rfl dX3_prepare_152 rfl ?_
      refine Go_iconst (q := 154) (v := (1 : Int32)) C dX3_prepare_153 rfl rfl ?_
      refine Go_putI (q := 157) (k := 9) C ci3 iw_3 kE_43 rfl wm_24_1 rfl rfl (ci3.2.2.2.1 9 (by decide)) rfl rfl dX3_prepare_154 rfl ?_
      refine Go_S (fun S154_1 e_S154_1 => ?_)
      have hw := hw S154_1 e_S154_1
      have hR := rcE e_S154_1 hR
      exact Go_vret C hQ hR hw dX3_prepare_157
    · refine Go_iconst (q := 109) (v := (0 : Int32)) C dX3_prepare_108 rfl rfl ?_
      refine Go_istore_n (q := 110) (lv' := [(2, .int (0 : Int32)), (0, .ref (Gad G (43))), (1, .int v1)]) C rfl dX3_prepare_109 (by decide) rfl rfl ?_
      refine Go_lvp [1, 2, 0] rfl ?_
      exact g_X3_prepare_110 C hQ _ hk102 _ hR hw
set_option maxRecDepth 100000 in
set_option maxHeartbeats 4000000 in
theorem g_X3_prepare_72 {G : GC} (C : Cx G cX3_prepare BIG RX3 4 none rm_X3_prepare shE NE) {Q : St → Prop} (hQ : QV G RCE Q) (v1 : Int32) (v2 : Int32) (t0 : Int32) (t1 : Int32) {k10 : Int32 → St → Prop} (hk10 : ∀ (v2 : Int32) (S : St), RCE S → k10 v2 S → Go G 4 10 [] [(0, .ref (Gad G (43))), (1, .int v1), (2, .int v2)] S) {S : St} (hR : RCE S) (hw : w_X3_prepare_72 k10 v1 v2 t0 t1 S) : Go G 4 72 [.int t0, .int t1] [(0, .ref (Gad G (43))), (1, .int v1), (2, .int v2)] S := by
  unfold w_X3_prepare_72 at hw
  refine Go_ior (q := 73) C dX3_prepare_72 rfl ?_
  refine Go_topi (fun x73_15 e_x73_15 => ?_)
  have hw := hw x73_15 e_x73_15
  refine Go_istore_n (q := 74) (lv' := [(3, .int x73_15), (0, .ref (Gad G (43))), (1, .int v1), (2, .int v2)]) C rfl dX3_prepare_73 (by decide) rfl rfl ?_
  refine Go_aload_n (q := 75) C 1 rfl dX3_prepare_74 rfl ?_
  refine Go_getA (q := 78) (k := 4) C ci3 iw_3 kE_43 (rE_43_4 hR) rfl wm_8_9 rfl dX3_prepare_75 rfl ?_
  refine Go_iload_n (q := 79) C 2 rfl dX3_prepare_78 rfl ?_
  refine Go_bipush (q := 81) (v := (7 : Int32)) C dX3_prepare_79 rfl rfl ?_
  refine Go_imul (q := 82) C dX3_prepare_81 rfl ?_
  refine Go_iload_n (q := 83) C 3 rfl dX3_prepare_82 rfl ?_
  refine Go_iadd (q := 84) C dX3_prepare_83 rfl ?_
  refine Go_iload_n (q := 85) C 0 rfl dX3_prepare_84 rfl ?_
  refine Go_callSN_V (av := (fun ad => [.ref (ad (46)), .int ((v1 * (7 : Int32)) + v2), .int x73_15])) (st := []) (C := C) (hM := c_X11_put (Gl G) (ok_ln kE_46) hR hw) (host := "EndsRound") (hnw := nw_90) (hini := wm_1_2) (hst2 := wm_10_11) (hcode := wm_10_12) (n := 3) (hd := by decide +kernel) (hr0 := ⟨rfl, rfl⟩) (hroom := ⟨by first | decide | (dsimp only; omega), by first | decide | (dsimp only; omega)⟩) (hlen := rfl) (hst := rfl) (hW := Nat.le_of_ble_eq_true rfl) (hdg := dX3_prepare_85) (q := 88) (hq := rfl) (fun S85_16 hw hR => ?_)
  refine Go_iinc2 (q := 91) (kp := 3) (cst := (1 : Int32)) C dX3_prepare_88 rfl rfl (by decide) rfl (fun x88_17 e_x88_17 => ?_)
  have hw := hw x88_17 e_x88_17
  refine Go_lve (lv' := [(2, .int x88_17), (3, .int x73_15), (0, .ref (Gad G (43))), (1, .int v1)]) rfl ?_
  refine Go_goto (q := 10) C dX3_prepare_91 rfl ?_
  refine Go_lvp [2, 3, 0] rfl ?_
  exact hk10 _ _ hR hw
set_option maxRecDepth 100000 in
set_option maxHeartbeats 4000000 in
theorem g_X3_prepare_52 {G : GC} (C : Cx G cX3_prepare BIG RX3 4 none rm_X3_prepare shE NE) {Q : St → Prop} (hQ : QV G RCE Q) (v1 : Int32) (v2 : Int32) (t0 : Int32) (t1 : Int32) {k10 : Int32 → St → Prop} (hk10 : ∀ (v2 : Int32) (S : St), RCE S → k10 v2 S → Go G 4 10 [] [(0, .ref (Gad G (43))), (1, .int v1), (2, .int v2)] S) {S : St} (hR : RCE S) (hw : w_X3_prepare_52 k10 v1 v2 t0 t1 S) : Go G 4 52 [.int t0, .int t1] [(0, .ref (Gad G (43))), (1, .int v1), (2, .int v2)] S := by
  unfold w_X3_prepare_52 at hw
  refine Go_ior (q := 53) C dX3_prepare_52 rfl ?_
  refine Go_topi (fun x53_12 e_x53_12 => ?_)
  have hw := hw x53_12 e_x53_12
  refine Go_istore_n (q := 54) (lv' := [(3, .int x53_12), (0, .ref (Gad G (43))), (1, .int v1), (2, .int v2)]) C rfl dX3_prepare_53 (by decide) rfl rfl ?_
  refine Go_iload_n (q := 55) C 0 rfl dX3_prepare_54 rfl ?_
  refine Go_aload_n (q := 56) C 1 rfl dX3_prepare_55 rfl ?_
  refine Go_getA (q := 59) (k := 1) C ci3 iw_3 kE_43 (rE_43_1 hR) rfl wm_8_14 rfl dX3_prepare_56 rfl ?_
  refine Go_iload_n (q := 60) C 3 rfl dX3_prepare_59 rfl ?_
  refine Go_iload_n (q := 61) C 2 rfl dX3_prepare_60 rfl ?_
  refine Go_callV_I (av := (fun ad => [.int v2, .int v1])) (st := [.int x53_12]) (C := C) (hM := c_X9_timesAhead (Gl G) hR hw) (hlk := wm_40_4) (hini := wm_2_8) (hins := wm_37_15) (hsel := wm_37_16) (hcode := wm_37_17) (ho := kE_34) (hci := rfl) (hc13 := by decide) (n := 2) (hd := by decide +kernel) (hr0 := ⟨rfl, rfl⟩) (hroom := ⟨by first | decide | (dsimp only; omega), by first | decide | (dsimp only; omega)⟩) (hlen := rfl) (hst := rfl) (hW := Nat.le_of_ble_eq_true rfl) (hdg := dX3_prepare_61) (q := 64) (hq := rfl) (fun r61_14 S61_13 hw hR => ?_)
  refine Go_if_le (t := 71) (q := 67) C hw dX3_prepare_64 rfl rfl (fun hw => ?_) (fun hw => ?_)
  · refine Go_iconst (q := 72) (v := (0 : Int32)) C dX3_prepare_71 rfl rfl ?_
    refine Go_lvp [1, 2, 3] rfl ?_
    exact g_X3_prepare_72 C hQ _ _ _ _ hk10 hR hw
  · refine Go_iconst (q := 68) (v := (4 : Int32)) C dX3_prepare_67 rfl rfl ?_
    refine Go_goto (q := 72) C dX3_prepare_68 rfl ?_
    refine Go_lvp [1, 2, 3] rfl ?_
    exact g_X3_prepare_72 C hQ _ _ _ _ hk10 hR hw
set_option maxRecDepth 100000 in
set_option maxHeartbeats 4000000 in
theorem g_X3_prepare_33 {G : GC} (C : Cx G cX3_prepare BIG RX3 4 none rm_X3_prepare shE NE) {Q : St → Prop} (hQ : QV G RCE Q) (v1 : Int32) (v2 : Int32) (t0 : Int32) {k10 : Int32 → St → Prop} (hk10 : ∀ (v2 : Int32) (S : St), RCE S → k10 v2 S → Go G 4 10 [] [(0, .ref (Gad G (43))), (1, .int v1), (2, .int v2)] S) {S : St} (hR : RCE S) (hw : w_X3_prepare_33 k10 v1 v2 t0 S) : Go G 4 33 [.int t0] [(0, .ref (Gad G (43))), (1, .int v1), (2, .int v2)] S := by
  unfold w_X3_prepare_33 at hw
  refine Go_istore_n (q := 34) (lv' := [(3, .int t0), (0, .ref (Gad G (43))), (1, .int v1), (2, .int v2)]) C rfl dX3_prepare_33 (by decide) rfl rfl ?_
  refine Go_iload_n (q := 35) C 0 rfl dX3_prepare_34 rfl ?_
  refine Go_aload_n (q := 36) C 1 rfl dX3_prepare_35 rfl ?_
  refine Go_getA (q := 39) (k := 1) C ci3 iw_3 kE_43 (rE_43_1 hR) rfl wm_8_14 rfl dX3_prepare_36 rfl ?_
  refine Go_iload_n (q := 40) C 2 rfl dX3_prepare_39 rfl ?_
  refine Go_iload_n (q := 41) C 3 rfl dX3_prepare_40 rfl ?_
  refine Go_callV_I (av := (fun ad => [.int v1, .int v2])) (st := [.int t0]) (C := C) (hM := c_X9_timesAhead (Gl G) hR hw) (hlk := wm_40_4) (hini := wm_2_8) (hins := wm_37_15) (hsel := wm_37_16) (hcode := wm_37_17) (ho := kE_34) (hci := rfl) (hc13 := by decide) (n := 2) (hd := by decide +kernel) (hr0 := ⟨rfl, rfl⟩) (hroom := ⟨by first | decide | (dsimp only; omega), by first | decide | (dsimp only; omega)⟩) (hlen := rfl) (hst := rfl) (hW := Nat.le_of_ble_eq_true rfl) (hdg := dX3_prepare_41) (q := 44) (hq := rfl) (fun r41_11 S41_10 hw hR => ?_)
  refine Go_if_le (t := 51) (q := 47) C hw dX3_prepare_44 rfl rfl (fun hw => ?_) (fun hw => ?_)
  · refine Go_iconst (q := 52) (v := (0 : Int32)) C dX3_prepare_51 rfl rfl ?_
    refine Go_lvp [1, 2, 3] rfl ?_
    exact g_X3_prepare_52 C hQ _ _ _ _ hk10 hR hw
  · refine Go_iconst (q := 48) (v := (2 : Int32)) C dX3_prepare_47 rfl rfl ?_
    refine Go_goto (q := 52) C dX3_prepare_48 rfl ?_
    refine Go_lvp [1, 2, 3] rfl ?_
    exact g_X3_prepare_52 C hQ _ _ _ _ hk10 hR hw
set_option maxRecDepth 100000 in
set_option maxHeartbeats 4000000 in
theorem g_X3_prepare_10 {G : GC} (C : Cx G cX3_prepare BIG RX3 4 none rm_X3_prepare shE NE) {Q : St → Prop} (hQ : QV G RCE Q) (v1 : Int32) {k2 : Int32 → St → Prop} (hk2 : ∀ (v1 : Int32) (S : St), RCE S → k2 v1 S → Go G 4 2 [] [(0, .ref (Gad G (43))), (1, .int v1)] S) (v2 : Int32) {S : St} (hR : RCE S) (hw : w_X3_prepare_10 k2 v1 v2 S) : Go G 4 10 [] [(0, .ref (Gad G (43))), (1, .int v1), (2, .int v2)] S := by
  obtain ⟨n, hw⟩ := hw
  induction n generalizing v2 S with
  | zero => exact hw.elim
  | succ n ih =>
    have hw : b_X3_prepare_10 k2 v1 (lpn (fun _ _ => False) (b_X3_prepare_10 k2 v1) n) v2 S := hw
    generalize lpn (fun _ _ => False) (b_X3_prepare_10 k2 v1) n = kf at hw ih
    have hk10 := fun (v2 : Int32) (S : St) (hR : RCE S) hw => ih v2 hR hw
    unfold b_X3_prepare_10 at hw
    refine Go_iload_n (q := 11) C 2 rfl dX3_prepare_10 rfl ?_
    refine Go_bipush (q := 13) (v := (7 : Int32)) C dX3_prepare_11 rfl rfl ?_
    refine Go_icmp_ge (t := 94) (q := 16) C hw dX3_prepare_13 rfl rfl (fun hw => ?_) (fun hw => ?_)
    · refine Go_iinc2 (q := 97) (kp := 1) (cst := (1 : Int32)) C dX3_prepare_94 rfl rfl (by decide) rfl (fun x94_7 e_x94_7 => ?_)
      have hw := hw x94_7 e_x94_7
      refine Go_lve (lv' := [(1, .int x94_7), (0, .ref (Gad G (43))), (2, .int v2)]) rfl ?_
      refine Go_goto (q := 2) C dX3_prepare_97 rfl ?_
      refine Go_lvp [1, 0] rfl ?_
      exact hk2 _ _ hR hw
    · refine Go_aload_n (q := 17) C 0 rfl dX3_prepare_16 rfl ?_
      refine Go_getA (q := 20) (k := 1) C ci3 iw_3 kE_43 (rE_43_1 hR) rfl wm_8_14 rfl dX3_prepare_17 rfl ?_
      refine Go_iload_n (q := 21) C 1 rfl dX3_prepare_20 rfl ?_
      refine Go_iload_n (q := 22) C 2 rfl dX3_prepare_21 rfl ?_
      refine Go_callV_I (av := (fun ad => [.int v1, .int v2])) (st := []) (C := C) (hM := c_X9_areOneClass (Gl G) hR hw) (hlk := wm_40_0) (hini := wm_2_8) (hins := wm_40_1) (hsel := wm_40_2) (hcode := wm_40_3) (ho := kE_34) (hci := rfl) (hc13 := by decide) (n := 2) (hd := by decide +kernel) (hr0 := ⟨rfl, rfl⟩) (hroom := ⟨by first | decide | (dsimp only; omega), by first | decide | (dsimp only; omega)⟩) (hlen := rfl) (hst := rfl) (hW := Nat.le_of_ble_eq_true rfl) (hdg := dX3_prepare_22) (q := 25) (hq := rfl) (fun r22_9 S22_8 hw hR => ?_)
      refine Go_if_eq (t := 32) (q := 28) C hw dX3_prepare_25 rfl rfl (fun hw => ?_) (fun hw => ?_)
      · refine Go_iconst (q := 33) (v := (0 : Int32)) C dX3_prepare_32 rfl rfl ?_
        refine Go_lvp [0, 1, 2] rfl ?_
        exact g_X3_prepare_33 C hQ _ _ _ hk10 hR hw
      · refine Go_iconst (q := 29) (v := (1 : Int32)) C dX3_prepare_28 rfl rfl ?_
        refine Go_goto (q := 33) C dX3_prepare_29 rfl ?_
        refine Go_lvp [0, 1, 2] rfl ?_
        exact g_X3_prepare_33 C hQ _ _ _ hk10 hR hw
set_option maxRecDepth 100000 in
set_option maxHeartbeats 4000000 in
theorem g_X3_prepare_2 {G : GC} (C : Cx G cX3_prepare BIG RX3 4 none rm_X3_prepare shE NE) {Q : St → Prop} (hQ : QV G RCE Q) (v1 : Int32) {S : St} (hR : RCE S) (hw : w_X3_prepare_2 Q v1 S) : Go G 4 2 [] [(0, .ref (Gad G (43))), (1, .int v1)] S := by
  obtain ⟨n, hw⟩ := hw
  induction n generalizing v1 S with
  | zero => exact hw.elim
  | succ n ih =>
    have hw : b_X3_prepare_2 Q (lpn (fun _ _ => False) (b_X3_prepare_2 Q) n) v1 S := hw
    generalize lpn (fun _ _ => False) (b_X3_prepare_2 Q) n = kf at hw ih
    have hk2 := fun (v1 : Int32) (S : St) (hR : RCE S) hw => ih v1 hR hw
    unfold b_X3_prepare_2 at hw
    refine Go_iload_n (q := 3) C 1 rfl dX3_prepare_2 rfl ?_
    refine Go_bipush (q := 5) (v := (7 : Int32)) C dX3_prepare_3 rfl rfl ?_
    refine Go_icmp_ge (t := 100) (q := 8) C hw dX3_prepare_5 rfl rfl (fun hw => ?_) (fun hw => ?_)
    · refine Go_iconst (q := 101) (v := (0 : Int32)) C dX3_prepare_100 rfl rfl ?_
      refine Go_istore_n (q := 102) (lv' := [(1, .int (0 : Int32)), (0, .ref (Gad G (43)))]) C rfl dX3_prepare_101 (by decide) rfl rfl ?_
      refine Go_lvp [1, 0] rfl ?_
      exact g_X3_prepare_102 C hQ _ hR hw
    · refine Go_iconst (q := 9) (v := (0 : Int32)) C dX3_prepare_8 rfl rfl ?_
      refine Go_istore_n (q := 10) (lv' := [(2, .int (0 : Int32)), (0, .ref (Gad G (43))), (1, .int v1)]) C rfl dX3_prepare_9 (by decide) rfl rfl ?_
      refine Go_lvp [1, 2, 0] rfl ?_
      exact g_X3_prepare_10 C hQ _ hk2 _ hR hw
set_option maxRecDepth 100000 in
set_option maxHeartbeats 4000000 in
theorem c_X3_prepare (l : Launch) {S : St} {Q : St → Prop} (hR : RCE S) (hw : w_X3_prepare S Q) : MetV l yX3_prepare (wB yX3_prepare cX3_prepare 4 none) rm_X3_prepare shE NE RCE (fun ad => [.ref (ad (43))]) S Q := by
  refine MetV_of (cc := cX3_prepare) (maxL := 4) (ret := none) (plainFor_of_name (by decide)) (fun _ => Nat.le_of_ble_eq_true rfl) (fun G C hl hQ => ?_)
  subst hl
  have C : Cx G cX3_prepare BIG RX3 4 none rm_X3_prepare shE NE := C
  show Go G 4 0 [] [(0, .ref (Gad G (43)))] S
  unfold w_X3_prepare at hw
  refine Go_iconst (q := 1) (v := (0 : Int32)) C dX3_prepare_0 rfl rfl ?_
  refine Go_istore_n (q := 2) (lv' := [(1, .int (0 : Int32)), (0, .ref (Gad G (43)))]) C rfl dX3_prepare_1 (by decide) rfl rfl ?_
  refine Go_lvp [1, 0] rfl ?_
  exact g_X3_prepare_2 C hQ _ hR hw
-- X3_choose
abbrev rm_X3_choose : Room := { frames := 4, cells := 0, slots := 0, locals := 91 }
set_option maxRecDepth 100000 in
set_option maxHeartbeats 4000000 in
theorem g_X3_choose_18 {G : GC} (C : Cx G cX3_choose BIG RX3 3 none rm_X3_choose shE NE) {Q : St → Prop} (hQ : QV G RCE Q) (p0 : Int32) (v2 : Int32) {S : St} (hR : RCE S) (hw : w_X3_choose_18 p0 Q v2 S) : Go G 3 18 [] [(0, .ref (Gad G (43))), (1, .int p0), (2, .int v2)] S := by
  obtain ⟨n, hw⟩ := hw
  induction n generalizing v2 S with
  | zero => exact hw.elim
  | succ n ih =>
    have hw : b_X3_choose_18 p0 Q (lpn (fun _ _ => False) (b_X3_choose_18 p0 Q) n) v2 S := hw
    generalize lpn (fun _ _ => False) (b_X3_choose_18 p0 Q) n = kf at hw ih
    have hk18 := fun (v2 : Int32) (S : St) (hR : RCE S) hw => ih v2 hR hw
    unfold b_X3_choose_18 at hw
    refine Go_iload_n (q := 19) C 2 rfl dX3_choose_18 rfl ?_
    refine Go_aload_n (q := 20) C 0 rfl dX3_choose_19 rfl ?_
    refine Go_getA (q := 23) (k := 0) C ci3 iw_3 kE_43 (rE_43_0 hR) rfl wm_8_13 rfl dX3_choose_20 rfl ?_
    refine Go_getIN (q := 26) (k := 0) (host := "EndsRound") C ci4 iw_4 kE_21 rfl nw_8 rfl dX3_choose_23 rfl ?_
    refine Go_icmp_ge (t := 93) (q := 29) C hw dX3_choose_26 rfl rfl (fun hw => ?_) (fun hw => ?_)
    · exact Go_vret C hQ hR hw dX3_choose_93
    · refine Go_iload_n (q := 30) C 2 rfl dX3_choose_29 rfl ?_
      refine Go_bipush (q := 32) (v := (7 : Int32)) C dX3_choose_30 rfl rfl ?_
      refine Go_icmp_ge (t := 93) (q := 35) C hw dX3_choose_32 rfl rfl (fun hw => ?_) (fun hw => ?_)
      · exact Go_vret C hQ hR hw dX3_choose_93
      · refine Go_iload_n (q := 36) C 1 rfl dX3_choose_35 rfl ?_
        refine Go_iload_n (q := 37) C 2 rfl dX3_choose_36 rfl ?_
        refine Go_ishr (q := 38) C dX3_choose_37 rfl ?_
        refine Go_iconst (q := 39) (v := (1 : Int32)) C dX3_choose_38 rfl rfl ?_
        refine Go_iand (q := 40) C dX3_choose_39 rfl ?_
        refine Go_if_eq (t := 87) (q := 43) C hw dX3_choose_40 rfl rfl (fun hw => ?_) (fun hw => ?_)
        · refine Go_iinc2 (q := 90) (kp := 2) (cst := (1 : Int32)) C dX3_choose_87 rfl rfl (by decide) rfl (fun x87_3 e_x87_3 => ?_)
          have hw := hw x87_3 e_x87_3
          refine Go_lve (lv' := [(2, .int x87_3), (0, .ref (Gad G (43))), (1, .int p0)]) rfl ?_
          refine Go_goto (q := 18) C dX3_choose_90 rfl ?_
          refine Go_lvp [1, 2, 0] rfl ?_
          exact hk18 _ _ hR hw
        · refine Go_aload_n (q := 44) C 0 rfl dX3_choose_43 rfl ?_
          refine Go_getA (q := 47) (k := 5) C ci3 iw_3 kE_43 (rE_43_5 hR) rfl wm_8_10 rfl dX3_choose_44 rfl ?_
          refine Go_aload_n (q := 48) C 0 rfl dX3_choose_47 rfl ?_
          refine Go_getI (q := 51) (k := 8) C ci3 iw_3 kE_43 rfl wm_39_19 rfl dX3_choose_48 rfl ?_
          refine Go_iload_n (q := 52) C 2 rfl dX3_choose_51 rfl ?_
          refine Go_callSN_V (av := (fun ad => [.ref (ad (47)), .int (gI S 43 8), .int v2])) (st := []) (C := C) (hM := c_X11_put (Gl G) (ok_ln kE_47) hR hw) (host := "EndsRound") (hnw := nw_90) (hini := wm_1_2) (hst2 := wm_10_11) (hcode := wm_10_12) (n := 3) (hd := by decide +kernel) (hr0 := ⟨rfl, rfl⟩) (hroom := ⟨by first | decide | (dsimp only; omega), by first | decide | (dsimp only; omega)⟩) (hlen := rfl) (hst := rfl) (hW := Nat.le_of_ble_eq_true rfl) (hdg := dX3_choose_52) (q := 55) (hq := rfl) (fun S52_4 hw hR => ?_)
          refine Go_aload_n (q := 56) C 0 rfl dX3_choose_55 rfl ?_
          refine Go_getA (q := 59) (k := 7) C ci3 iw_3 kE_43 (rE_43_7 hR) rfl wm_8_12 rfl dX3_choose_56 rfl ?_
          refine Go_aload_n (q := 60) C 0 rfl dX3_choose_59 rfl ?_
          refine Go_getI (q := 63) (k := 8) C ci3 iw_3 kE_43 rfl wm_39_19 rfl dX3_choose_60 rfl ?_
          refine Go_iconst (q := 64) (v := (1 : Int32)) C dX3_choose_63 rfl rfl ?_
          refine Go_aload_n (q := 65) C 0 rfl dX3_choose_64 rfl ?_
          refine Go_getA (q := 68) (k := 0) C ci3 iw_3 kE_43 (rE_43_0 hR) rfl wm_8_13 rfl dX3_choose_65 rfl ?_
          refine Go_getIN (q := 71) (k := 5) (host := "EndsRound") C ci4 iw_4 kE_21 rfl nw_21 rfl dX3_choose_68 rfl ?_
          refine Go_ishl (q := 72) C dX3_choose_71 rfl ?_
          refine Go_iconst (q := 73) (v := (1 : Int32)) C dX3_choose_72 rfl rfl ?_
          refine Go_isub (q := 74) C dX3_choose_73 rfl ?_
          refine Go_callSN_V (av := (fun ad => [.ref (ad (49)), .int (gI S52_4 43 8), .int (((1 : Int32) <<< ((gI S52_4 21 5) &&& 31)) - (1 : Int32))])) (st := []) (C := C) (hM := c_X11_put (Gl G) (ok_ln kE_49) hR hw) (host := "EndsRound") (hnw := nw_90) (hini := wm_1_2) (hst2 := wm_10_11) (hcode := wm_10_12) (n := 3) (hd := by decide +kernel) (hr0 := ⟨rfl, rfl⟩) (hroom := ⟨by first | decide | (dsimp only; omega), by first | decide | (dsimp only; omega)⟩) (hlen := rfl) (hst := rfl) (hW := Nat.le_of_ble_eq_true rfl) (hdg := dX3_choose_74) (q := 77) (hq := rfl) (fun S74_5 hw hR => ?_)
          refine Go_aload_n (q := 78) C 0 rfl dX3_choose_77 rfl ?_
          refine Go_dup (q := 79) C rfl dX3_choose_78 rfl ?_
          refine Go_getI (q := 82) (k := 8) C ci3 iw_3 kE_43 rfl wm_39_19 rfl dX3_choose_79 rfl ?_
          refine Go_iconst (q := 83) (v := (1 : Int32)) C dX3_choose_82 rfl rfl ?_
          refine Go_iadd (q := 84) C dX3_choose_83 rfl ?_
          refine Go_putI (q := 87) (k := 8) C ci3 iw_3 kE_43 rfl wm_39_19 rfl rfl (ci3.2.2.2.1 8 (by decide)) rfl rfl dX3_choose_84 rfl ?_
          refine Go_S (fun S84_6 e_S84_6 => ?_)
          have hw := hw S84_6 e_S84_6
          have hR := rcE e_S84_6 hR
          refine Go_iinc2 (q := 90) (kp := 2) (cst := (1 : Int32)) C dX3_choose_87 rfl rfl (by decide) rfl (fun x87_7 e_x87_7 => ?_)
          have hw := hw x87_7 e_x87_7
          refine Go_lve (lv' := [(2, .int x87_7), (0, .ref (Gad G (43))), (1, .int p0)]) rfl ?_
          refine Go_goto (q := 18) C dX3_choose_90 rfl ?_
          refine Go_lvp [1, 2, 0] rfl ?_
          exact hk18 _ _ hR hw
set_option maxRecDepth 100000 in
set_option maxHeartbeats 4000000 in
theorem g_X3_choose_11 {G : GC} (C : Cx G cX3_choose BIG RX3 3 none rm_X3_choose shE NE) {Q : St → Prop} (hQ : QV G RCE Q) (p0 : Int32) {S : St} (hR : RCE S) (hw : w_X3_choose_11 p0 Q S) : Go G 3 11 [] [(0, .ref (Gad G (43))), (1, .int p0)] S := by
  unfold w_X3_choose_11 at hw
  refine Go_aload_n (q := 12) C 0 rfl dX3_choose_11 rfl ?_
  refine Go_iconst (q := 13) (v := (0 : Int32)) C dX3_choose_12 rfl rfl ?_
  refine Go_putI (q := 16) (k := 8) C ci3 iw_3 kE_43 rfl wm_39_19 rfl rfl (ci3.2.2.2.1 8 (by decide)) rfl rfl dX3_choose_13 rfl ?_
  refine Go_S (fun S13_2 e_S13_2 => ?_)
  have hw := hw S13_2 e_S13_2
  have hR := rcE e_S13_2 hR
  refine Go_iconst (q := 17) (v := (0 : Int32)) C dX3_choose_16 rfl rfl ?_
  refine Go_istore_n (q := 18) (lv' := [(2, .int (0 : Int32)), (0, .ref (Gad G (43))), (1, .int p0)]) C rfl dX3_choose_17 (by decide) rfl rfl ?_
  refine Go_lvp [1, 2, 0] rfl ?_
  exact g_X3_choose_18 C hQ p0 _ hR hw
set_option maxRecDepth 100000 in
set_option maxHeartbeats 4000000 in
theorem c_X3_choose (l : Launch) {p0 : Int32} {S : St} {Q : St → Prop} (hR : RCE S) (hw : w_X3_choose p0 S Q) : MetV l yX3_choose (wB yX3_choose cX3_choose 3 none) rm_X3_choose shE NE RCE (fun ad => [.ref (ad (43)), .int p0]) S Q := by
  refine MetV_of (cc := cX3_choose) (maxL := 3) (ret := none) (plainFor_of_name (by decide)) (fun _ => Nat.le_of_ble_eq_true rfl) (fun G C hl hQ => ?_)
  subst hl
  have C : Cx G cX3_choose BIG RX3 3 none rm_X3_choose shE NE := C
  show Go G 3 0 [] [(0, .ref (Gad G (43))), (1, .int p0)] S
  unfold w_X3_choose at hw
  refine Go_aload_n (q := 1) C 0 rfl dX3_choose_0 rfl ?_
  refine Go_getI (q := 4) (k := 9) C ci3 iw_3 kE_43 rfl wm_24_1 rfl dX3_choose_1 rfl ?_
  refine Go_if_ne (t := 11) (q := 7) C hw dX3_choose_4 rfl rfl (fun hw => ?_) (fun hw => ?_)
  · refine Go_aload_n (q := 8) C 0 rfl dX3_choose_7 rfl ?_
    refine Go_callV_V (av := (fun ad => [])) (st := []) (C := C) (hM := c_X3_prepare (Gl G)  hR hw) (hlk := wm_39_20) (hini := wm_2_12) (hins := wm_39_21) (hsel := wm_39_22) (hcode := wm_39_23) (ho := kE_43) (hci := rfl) (hc13 := by decide) (n := 0) (hd := by decide +kernel) (hr0 := ⟨rfl, rfl⟩) (hroom := ⟨by first | decide | (dsimp only; omega), by first | decide | (dsimp only; omega)⟩) (hlen := rfl) (hst := rfl) (hW := Nat.le_of_ble_eq_true rfl) (hdg := dX3_choose_8) (q := 11) (hq := rfl) (fun S8_1 hw hR => ?_)
    refine Go_lvp [0, 1] rfl ?_
    exact g_X3_choose_11 C hQ p0 hR hw
  · refine Go_lvp [0, 1] rfl ?_
    exact g_X3_choose_11 C hQ p0 hR hw
-- J6_bitCount_0f7a4
abbrev rm_J6_bitCount_0f7a4 : Room := { frames := 0, cells := 0, slots := 0, locals := 0 }
set_option maxRecDepth 100000 in
set_option maxHeartbeats 4000000 in
theorem c_J6_bitCount_0f7a4 (l : Launch) {p0 : Int32} {S : St} {Q : Int32 → St → Prop} (hR : RCE S) (hw : w_J6_bitCount_0f7a4 p0 S Q) : MetI l yJ6_bitCount_0f7a4 (wB yJ6_bitCount_0f7a4 cJ6_bitCount_0f7a4 1 (some .int)) rm_J6_bitCount_0f7a4 shE NE RCE (fun ad => [.int p0]) S Q := by
  refine MetI_of (cc := cJ6_bitCount_0f7a4) (maxL := 1) (ret := (some .int)) (by decide +kernel) (fun _ => Nat.le_of_ble_eq_true rfl) (fun G C hl hQ => ?_)
  subst hl
  have C : Cx G cJ6_bitCount_0f7a4 BIG RJ6 1 (some .int) rm_J6_bitCount_0f7a4 shE NE := C
  show Go G 1 0 [] [(0, .int p0)] S
  unfold w_J6_bitCount_0f7a4 at hw
  refine Go_iload_n (q := 1) C 0 rfl dJ6_bitCount_0f7a4_0 rfl ?_
  refine Go_iload_n (q := 2) C 0 rfl dJ6_bitCount_0f7a4_1 rfl ?_
  refine Go_iconst (q := 3) (v := (1 : Int32)) C dJ6_bitCount_0f7a4_2 rfl rfl ?_
  refine Go_iushr (q := 4) C dJ6_bitCount_0f7a4_3 rfl ?_
  refine Go_ldc_w (q := 7) (v := (1431655765 : Int32)) C wm_40_19 dJ6_bitCount_0f7a4_4 rfl ?_
  refine Go_iand (q := 8) C dJ6_bitCount_0f7a4_7 rfl ?_
  refine Go_isub (q := 9) C dJ6_bitCount_0f7a4_8 rfl ?_
  refine Go_topi (fun x9_1 e_x9_1 => ?_)
  have hw := hw x9_1 e_x9_1
  refine Go_istore_n (q := 10) (lv' := [(0, .int x9_1)]) C rfl dJ6_bitCount_0f7a4_9 (by decide) rfl rfl ?_
  refine Go_iload_n (q := 11) C 0 rfl dJ6_bitCount_0f7a4_10 rfl ?_
  refine Go_ldc_w (q := 14) (v := (858993459 : Int32)) C wm_40_20 dJ6_bitCount_0f7a4_11 rfl ?_
  refine Go_iand (q := 15) C dJ6_bitCount_0f7a4_14 rfl ?_
  refine Go_iload_n (q := 16) C 0 rfl dJ6_bitCount_0f7a4_15 rfl ?_
  refine Go_iconst (q := 17) (v := (2 : Int32)) C dJ6_bitCount_0f7a4_16 rfl rfl ?_
  refine Go_iushr (q := 18) C dJ6_bitCount_0f7a4_17 rfl ?_
  refine Go_ldc_w (q := 21) (v := (858993459 : Int32)) C wm_40_20 dJ6_bitCount_0f7a4_18 rfl ?_
  refine Go_iand (q := 22) C dJ6_bitCount_0f7a4_21 rfl ?_
  refine Go_iadd (q := 23) C dJ6_bitCount_0f7a4_22 rfl ?_
  refine Go_topi (fun x23_2 e_x23_2 => ?_)
  have hw := hw x23_2 e_x23_2
  refine Go_istore_n (q := 24) (lv' := [(0, .int x23_2)]) C rfl dJ6_bitCount_0f7a4_23 (by decide) rfl rfl ?_
  refine Go_iload_n (q := 25) C 0 rfl dJ6_bitCount_0f7a4_24 rfl ?_
  refine Go_iload_n (q := 26) C 0 rfl dJ6_bitCount_0f7a4_25 rfl ?_
  refine Go_iconst (q := 27) (v := (4 : Int32)) C dJ6_bitCount_0f7a4_26 rfl rfl ?_
  refine Go_iushr (q := 28) C dJ6_bitCount_0f7a4_27 rfl ?_
  refine Go_iadd (q := 29) C dJ6_bitCount_0f7a4_28 rfl ?_
  refine Go_ldc_w (q := 32) (v := (252645135 : Int32)) C wm_40_21 dJ6_bitCount_0f7a4_29 rfl ?_
  refine Go_iand (q := 33) C dJ6_bitCount_0f7a4_32 rfl ?_
  refine Go_topi (fun x33_3 e_x33_3 => ?_)
  have hw := hw x33_3 e_x33_3
  refine Go_istore_n (q := 34) (lv' := [(0, .int x33_3)]) C rfl dJ6_bitCount_0f7a4_33 (by decide) rfl rfl ?_
  refine Go_iload_n (q := 35) C 0 rfl dJ6_bitCount_0f7a4_34 rfl ?_
  refine Go_iload_n (q := 36) C 0 rfl dJ6_bitCount_0f7a4_35 rfl ?_
  refine Go_bipush (q := 38) (v := (8 : Int32)) C dJ6_bitCount_0f7a4_36 rfl rfl ?_
  refine Go_iushr (q := 39) C dJ6_bitCount_0f7a4_38 rfl ?_
  refine Go_iadd (q := 40) C dJ6_bitCount_0f7a4_39 rfl ?_
  refine Go_topi (fun x40_4 e_x40_4 => ?_)
  have hw := hw x40_4 e_x40_4
  refine Go_istore_n (q := 41) (lv' := [(0, .int x40_4)]) C rfl dJ6_bitCount_0f7a4_40 (by decide) rfl rfl ?_
  refine Go_iload_n (q := 42) C 0 rfl dJ6_bitCount_0f7a4_41 rfl ?_
  refine Go_iload_n (q := 43) C 0 rfl dJ6_bitCount_0f7a4_42 rfl ?_
  refine Go_bipush (q := 45) (v := (16 : Int32)) C dJ6_bitCount_0f7a4_43 rfl rfl ?_
  refine Go_iushr (q := 46) C dJ6_bitCount_0f7a4_45 rfl ?_
  refine Go_iadd (q := 47) C dJ6_bitCount_0f7a4_46 rfl ?_
  refine Go_topi (fun x47_5 e_x47_5 => ?_)
  have hw := hw x47_5 e_x47_5
  refine Go_istore_n (q := 48) (lv' := [(0, .int x47_5)]) C rfl dJ6_bitCount_0f7a4_47 (by decide) rfl rfl ?_
  refine Go_iload_n (q := 49) C 0 rfl dJ6_bitCount_0f7a4_48 rfl ?_
  refine Go_bipush (q := 51) (v := (63 : Int32)) C dJ6_bitCount_0f7a4_49 rfl rfl ?_
  refine Go_iand (q := 52) C dJ6_bitCount_0f7a4_51 rfl ?_
  exact Go_iret C hQ hR hw dJ6_bitCount_0f7a4_52
-- X3_leavesOpen
abbrev rm_X3_leavesOpen : Room := { frames := 1, cells := 0, slots := 0, locals := 22 }
set_option maxRecDepth 100000 in
set_option maxHeartbeats 4000000 in
theorem g_X3_leavesOpen_23 {G : GC} (C : Cx G cX3_leavesOpen BIG RX3 8 (some .boolean) rm_X3_leavesOpen shE NE) {Q : Int32 → St → Prop} (hQ : QI G RCE Q) (p1 : Int32) (v3 : Int32) (v4 : Int32) (v5 : Int32) {S : St} (hR : RCE S) (hw : w_X3_leavesOpen_23 p1 Q v3 v4 v5 S) : Go G 8 23 [] [(0, .ref (Gad G (43))), (2, .int p1), (3, .int v3), (4, .int v4), (5, .int v5)] S := by
  obtain ⟨n, hw⟩ := hw
  induction n generalizing v5 S with
  | zero => exact hw.elim
  | succ n ih =>
    have hw : b_X3_leavesOpen_23 p1 Q v3 v4 (lpn (fun _ _ => False) (b_X3_leavesOpen_23 p1 Q v3 v4) n) v5 S := hw
    generalize lpn (fun _ _ => False) (b_X3_leavesOpen_23 p1 Q v3 v4) n = kf at hw ih
    have hk23 := fun (v5 : Int32) (S : St) (hR : RCE S) hw => ih v5 hR hw
    unfold b_X3_leavesOpen_23 at hw
    refine Go_iload (q := 25) C 4 rfl dX3_leavesOpen_23 rfl ?_
    refine Go_aload_n (q := 26) C 0 rfl dX3_leavesOpen_25 rfl ?_
    refine Go_getI (q := 29) (k := 8) C ci3 iw_3 kE_43 rfl wm_39_19 rfl dX3_leavesOpen_26 rfl ?_
    refine Go_icmp_ge (t := 111) (q := 32) C hw dX3_leavesOpen_29 rfl rfl (fun hw => ?_) (fun hw => ?_)
    · refine Go_iconst (q := 112) (v := (1 : Int32)) C dX3_leavesOpen_111 rfl rfl ?_
      exact Go_zret C hQ hR rfl hw dX3_leavesOpen_112
    · refine Go_aload_n (q := 33) C 0 rfl dX3_leavesOpen_32 rfl ?_
      refine Go_getA (q := 36) (k := 4) C ci3 iw_3 kE_43 (rE_43_4 hR) rfl wm_8_9 rfl dX3_leavesOpen_33 rfl ?_
      refine Go_iload_n (q := 37) C 2 rfl dX3_leavesOpen_36 rfl ?_
      refine Go_aload_n (q := 38) C 0 rfl dX3_leavesOpen_37 rfl ?_
      refine Go_getA (q := 41) (k := 5) C ci3 iw_3 kE_43 (rE_43_5 hR) rfl wm_8_10 rfl dX3_leavesOpen_38 rfl ?_
      refine Go_iload (q := 43) C 4 rfl dX3_leavesOpen_41 rfl ?_
      refine Go_callSN_I (av := (fun ad => [.ref (ad (47)), .int v5])) (st := [.int v3, .ref (Gad G (46))]) (C := C) (hM := c_X11_cell (Gl G) (ok_ln kE_47) hR hw) (host := "EndsRound") (hnw := nw_91) (hini := wm_1_2) (hst2 := wm_10_22) (hcode := wm_10_23) (n := 2) (hd := by decide +kernel) (hr0 := ⟨rfl, rfl⟩) (hroom := ⟨by first | decide | (dsimp only; omega), by first | decide | (dsimp only; omega)⟩) (hlen := rfl) (hst := rfl) (hW := Nat.le_of_ble_eq_true rfl) (hdg := dX3_leavesOpen_43) (q := 46) (hq := rfl) (fun r43_7 S43_6 hw hR => ?_)
      refine Go_iadd (q := 47) C dX3_leavesOpen_46 rfl ?_
      refine Go_callSN_I (av := (fun ad => [.ref (ad (46)), .int (v3 + r43_7)])) (st := []) (C := C) (hM := c_X11_cell (Gl G) (ok_ln kE_46) hR hw) (host := "EndsRound") (hnw := nw_91) (hini := wm_1_2) (hst2 := wm_10_22) (hcode := wm_10_23) (n := 2) (hd := by decide +kernel) (hr0 := ⟨rfl, rfl⟩) (hroom := ⟨by first | decide | (dsimp only; omega), by first | decide | (dsimp only; omega)⟩) (hlen := rfl) (hst := rfl) (hW := Nat.le_of_ble_eq_true rfl) (hdg := dX3_leavesOpen_47) (q := 50) (hq := rfl) (fun r47_9 S47_8 hw hR => ?_)
      refine Go_istore (q := 52) (lv' := [(6, .int r47_9), (0, .ref (Gad G (43))), (2, .int p1), (3, .int v3), (4, .int v4), (5, .int v5)]) C dX3_leavesOpen_50 (by decide) rfl rfl ?_
      refine Go_aload_n (q := 53) C 1 rfl dX3_leavesOpen_52 rfl ?_
      refine Go_getA (q := 56) (k := 7) C ci3 iw_3 kE_43 (rE_43_7 hR) rfl wm_8_12 rfl dX3_leavesOpen_53 rfl ?_
      refine Go_iload (q := 58) C 4 rfl dX3_leavesOpen_56 rfl ?_
      refine Go_iload (q := 60) C 5 rfl dX3_leavesOpen_58 rfl ?_
      refine Go_iadd (q := 61) C dX3_leavesOpen_60 rfl ?_
      refine Go_callSN_I (av := (fun ad => [.ref (ad (49)), .int (v4 + v5)])) (st := []) (C := C) (hM := c_X11_cell (Gl G) (ok_ln kE_49) hR hw) (host := "EndsRound") (hnw := nw_91) (hini := wm_1_2) (hst2 := wm_10_22) (hcode := wm_10_23) (n := 2) (hd := by decide +kernel) (hr0 := ⟨rfl, rfl⟩) (hroom := ⟨by first | decide | (dsimp only; omega), by first | decide | (dsimp only; omega)⟩) (hlen := rfl) (hst := rfl) (hW := Nat.le_of_ble_eq_true rfl) (hdg := dX3_leavesOpen_61) (q := 64) (hq := rfl) (fun r61_11 S61_10 hw hR => ?_)
      refine Go_aload_n (q := 65) C 1 rfl dX3_leavesOpen_64 rfl ?_
      refine Go_getA (q := 68) (k := 3) C ci3 iw_3 kE_43 (rE_43_3 hR) rfl wm_8_8 rfl dX3_leavesOpen_65 rfl ?_
      refine Go_iload (q := 70) C 0 rfl dX3_leavesOpen_68 rfl ?_
      refine Go_bipush (q := 72) (v := (12 : Int32)) C dX3_leavesOpen_70 rfl rfl ?_
      refine Go_imul (q := 73) C dX3_leavesOpen_72 rfl ?_
      refine Go_iload_n (q := 74) C 2 rfl dX3_leavesOpen_73 rfl ?_
      refine Go_iadd (q := 75) C dX3_leavesOpen_74 rfl ?_
      refine Go_callSN_I (av := (fun ad => [.ref (ad (45)), .int ((r47_9 * (12 : Int32)) + p1)])) (st := [.int r61_11]) (C := C) (hM := c_X11_cell (Gl G) (ok_ln kE_45) hR hw) (host := "EndsRound") (hnw := nw_91) (hini := wm_1_2) (hst2 := wm_10_22) (hcode := wm_10_23) (n := 2) (hd := by decide +kernel) (hr0 := ⟨rfl, rfl⟩) (hroom := ⟨by first | decide | (dsimp only; omega), by first | decide | (dsimp only; omega)⟩) (hlen := rfl) (hst := rfl) (hW := Nat.le_of_ble_eq_true rfl) (hdg := dX3_leavesOpen_75) (q := 78) (hq := rfl) (fun r75_13 S75_12 hw hR => ?_)
      refine Go_iand (q := 79) C dX3_leavesOpen_78 rfl ?_
      refine Go_topi (fun x79_14 e_x79_14 => ?_)
      have hw := hw x79_14 e_x79_14
      refine Go_istore (q := 81) (lv' := [(7, .int x79_14), (6, .int r47_9), (0, .ref (Gad G (43))), (2, .int p1), (3, .int v3), (4, .int v4), (5, .int v5)]) C dX3_leavesOpen_79 (by decide) rfl rfl ?_
      refine Go_aload_n (q := 82) C 2 rfl dX3_leavesOpen_81 rfl ?_
      refine Go_getA (q := 85) (k := 7) C ci3 iw_3 kE_43 (rE_43_7 hR) rfl wm_8_12 rfl dX3_leavesOpen_82 rfl ?_
      refine Go_iload (q := 87) C 5 rfl dX3_leavesOpen_85 rfl ?_
      refine Go_bipush (q := 89) (v := (7 : Int32)) C dX3_leavesOpen_87 rfl rfl ?_
      refine Go_iadd (q := 90) C dX3_leavesOpen_89 rfl ?_
      refine Go_iload (q := 92) C 6 rfl dX3_leavesOpen_90 rfl ?_
      refine Go_iadd (q := 93) C dX3_leavesOpen_92 rfl ?_
      refine Go_iload (q := 95) C 0 rfl dX3_leavesOpen_93 rfl ?_
      refine Go_callSN_V (av := (fun ad => [.ref (ad (49)), .int ((v4 + (7 : Int32)) + v5), .int x79_14])) (st := []) (C := C) (hM := c_X11_put (Gl G) (ok_ln kE_49) hR hw) (host := "EndsRound") (hnw := nw_90) (hini := wm_1_2) (hst2 := wm_10_11) (hcode := wm_10_12) (n := 3) (hd := by decide +kernel) (hr0 := ⟨rfl, rfl⟩) (hroom := ⟨by first | decide | (dsimp only; omega), by first | decide | (dsimp only; omega)⟩) (hlen := rfl) (hst := rfl) (hW := Nat.le_of_ble_eq_true rfl) (hdg := dX3_leavesOpen_95) (q := 98) (hq := rfl) (fun S95_15 hw hR => ?_)
      refine Go_iload (q := 100) C 0 rfl dX3_leavesOpen_98 rfl ?_
      refine Go_if_ne (t := 105) (q := 103) C hw dX3_leavesOpen_100 rfl rfl (fun hw => ?_) (fun hw => ?_)
      · refine Go_iconst (q := 104) (v := (0 : Int32)) C dX3_leavesOpen_103 rfl rfl ?_
        exact Go_zret C hQ hR rfl hw dX3_leavesOpen_104
      · refine Go_iinc2 (q := 108) (kp := 6) (cst := (1 : Int32)) C dX3_leavesOpen_105 rfl rfl (by decide) rfl (fun x105_16 e_x105_16 => ?_)
        have hw := hw x105_16 e_x105_16
        refine Go_lve (lv' := [(5, .int x105_16), (7, .int x79_14), (6, .int r47_9), (0, .ref (Gad G (43))), (2, .int p1), (3, .int v3), (4, .int v4)]) rfl ?_
        refine Go_goto (q := 23) C dX3_leavesOpen_108 rfl ?_
        refine Go_lvp [3, 4, 5, 6, 0] rfl ?_
        exact hk23 _ _ hR hw
set_option maxRecDepth 100000 in
set_option maxHeartbeats 4000000 in
theorem c_X3_leavesOpen (l : Launch) {p0 : Int32} {p1 : Int32} {S : St} {Q : Int32 → St → Prop} (hR : RCE S) (hw : w_X3_leavesOpen p0 p1 S Q) : MetI l yX3_leavesOpen (wB yX3_leavesOpen cX3_leavesOpen 8 (some .boolean)) rm_X3_leavesOpen shE NE RCE (fun ad => [.ref (ad (43)), .int p0, .int p1]) S Q := by
  refine MetI_of (cc := cX3_leavesOpen) (maxL := 8) (ret := (some .boolean)) (plainFor_of_name (by decide)) (fun _ => Nat.le_of_ble_eq_true rfl) (fun G C hl hQ => ?_)
  subst hl
  have C : Cx G cX3_leavesOpen BIG RX3 8 (some .boolean) rm_X3_leavesOpen shE NE := C
  show Go G 8 0 [] [(0, .ref (Gad G (43))), (1, .int p0), (2, .int p1)] S
  unfold w_X3_leavesOpen at hw
  refine Go_aload_n (q := 1) C 0 rfl dX3_leavesOpen_0 rfl ?_
  refine Go_getA (q := 4) (k := 5) C ci3 iw_3 kE_43 (rE_43_5 hR) rfl wm_8_10 rfl dX3_leavesOpen_1 rfl ?_
  refine Go_iload_n (q := 5) C 1 rfl dX3_leavesOpen_4 rfl ?_
  refine Go_callSN_I (av := (fun ad => [.ref (ad (47)), .int p0])) (st := []) (C := C) (hM := c_X11_cell (Gl G) (ok_ln kE_47) hR hw) (host := "EndsRound") (hnw := nw_91) (hini := wm_1_2) (hst2 := wm_10_22) (hcode := wm_10_23) (n := 2) (hd := by decide +kernel) (hr0 := ⟨rfl, rfl⟩) (hroom := ⟨by first | decide | (dsimp only; omega), by first | decide | (dsimp only; omega)⟩) (hlen := rfl) (hst := rfl) (hW := Nat.le_of_ble_eq_true rfl) (hdg := dX3_leavesOpen_5) (q := 8) (hq := rfl) (fun r5_2 S5_1 hw hR => ?_)
  refine Go_bipush (q := 10) (v := (7 : Int32)) C dX3_leavesOpen_8 rfl rfl ?_
  refine Go_imul (q := 11) C dX3_leavesOpen_10 rfl ?_
  refine Go_topi (fun x11_3 e_x11_3 => ?_)
  have hw := hw x11_3 e_x11_3
  refine Go_istore_n (q := 12) (lv' := [(3, .int x11_3), (0, .ref (Gad G (43))), (1, .int p0), (2, .int p1)]) C rfl dX3_leavesOpen_11 (by decide) rfl rfl ?_
  refine Go_iload_n (q := 13) C 2 rfl dX3_leavesOpen_12 rfl ?_
  refine Go_bipush (q := 15) (v := (7 : Int32)) C dX3_leavesOpen_13 rfl rfl ?_
  refine Go_imul (q := 16) C dX3_leavesOpen_15 rfl ?_
  refine Go_topi (fun x16_4 e_x16_4 => ?_)
  have hw := hw x16_4 e_x16_4
  refine Go_istore (q := 18) (lv' := [(4, .int x16_4), (3, .int x11_3), (0, .ref (Gad G (43))), (1, .int p0), (2, .int p1)]) C dX3_leavesOpen_16 (by decide) rfl rfl ?_
  refine Go_iload_n (q := 19) C 3 rfl dX3_leavesOpen_18 rfl ?_
  refine Go_iconst (q := 20) (v := (1 : Int32)) C dX3_leavesOpen_19 rfl rfl ?_
  refine Go_iadd (q := 21) C dX3_leavesOpen_20 rfl ?_
  refine Go_topi (fun x21_5 e_x21_5 => ?_)
  have hw := hw x21_5 e_x21_5
  refine Go_istore (q := 23) (lv' := [(5, .int x21_5), (4, .int x16_4), (3, .int x11_3), (0, .ref (Gad G (43))), (1, .int p0), (2, .int p1)]) C dX3_leavesOpen_21 (by decide) rfl rfl ?_
  refine Go_lvp [3, 5, 2, 1, 0] rfl ?_
  exact g_X3_leavesOpen_23 C hQ p1 _ _ _ hR hw
-- X3_waysWith
abbrev rm_X3_ways (d : Nat) : Room := { frames := d * 16, cells := 0, slots := 0, locals := d * 700 }
abbrev rm_X3_waysWith (d : Nat) : Room := { frames := d * 16 + 2, cells := 0, slots := 0, locals := d * 700 + 49 }
set_option maxRecDepth 100000 in
set_option maxHeartbeats 4000000 in
theorem c_X3_waysWith (l : Launch) {d : Nat} {rec : Int32 → Int32 → St → (Int64 → St → Prop) → Prop} (hrec : ∀ {p0 : Int32} {p1 : Int32} {S : St} {Q : Int64 → St → Prop}, RCE S → rec p0 p1 S Q → MetL l yX3_ways (wB yX3_ways cX3_ways 7 (some .long)) (rm_X3_ways d) shE NE RCE (fun ad => [.ref (ad (43)), .int p0, .int p1]) S Q) {p0 : Int32} {p1 : Int32} {p2 : Int32} {S : St} {Q : Int64 → St → Prop} (hR : RCE S) (hw : w_X3_waysWith rec p0 p1 p2 S Q) : MetL l yX3_waysWith (wB yX3_waysWith cX3_waysWith 4 (some .long)) (rm_X3_waysWith d) shE NE RCE (fun ad => [.ref (ad (43)), .int p0, .int p1, .int p2]) S Q := by
  refine MetL_of (cc := cX3_waysWith) (maxL := 4) (ret := (some .long)) (plainFor_of_name (by decide)) (fun _ => Nat.le_of_ble_eq_true rfl) (fun G C hl hQ => ?_)
  subst hl
  have C : Cx G cX3_waysWith BIG RX3 4 (some .long) (rm_X3_waysWith d) shE NE := C
  show Go G 4 0 [] [(0, .ref (Gad G (43))), (1, .int p0), (2, .int p1), (3, .int p2)] S
  unfold w_X3_waysWith at hw
  refine Go_aload_n (q := 1) C 0 rfl dX3_waysWith_0 rfl ?_
  refine Go_iload_n (q := 2) C 1 rfl dX3_waysWith_1 rfl ?_
  refine Go_iload_n (q := 3) C 2 rfl dX3_waysWith_2 rfl ?_
  refine Go_callV_I (av := (fun ad => [.int p0, .int p1])) (st := []) (C := C) (hM := c_X3_leavesOpen (Gl G)  hR hw) (hlk := wm_41_2) (hini := wm_2_12) (hins := wm_41_3) (hsel := wm_41_4) (hcode := wm_41_5) (ho := kE_43) (hci := rfl) (hc13 := by decide) (n := 2) (hd := by decide +kernel) (hr0 := ⟨rfl, rfl⟩) (hroom := ⟨by first | decide | (dsimp only; omega), by first | decide | (dsimp only; omega)⟩) (hlen := rfl) (hst := rfl) (hW := Nat.le_of_ble_eq_true rfl) (hdg := dX3_waysWith_3) (q := 6) (hq := rfl) (fun r3_2 S3_1 hw hR => ?_)
  refine Go_if_ne (t := 11) (q := 9) C hw dX3_waysWith_6 rfl rfl (fun hw => ?_) (fun hw => ?_)
  · refine Go_lconst (q := 10) (v := (0 : Int64)) C dX3_waysWith_9 rfl rfl ?_
    exact Go_lret C hQ hR hw dX3_waysWith_10
  · refine Go_aload_n (q := 12) C 0 rfl dX3_waysWith_11 rfl ?_
    refine Go_getA (q := 15) (k := 6) C ci3 iw_3 kE_43 (rE_43_6 hR) rfl wm_8_11 rfl dX3_waysWith_12 rfl ?_
    refine Go_iload_n (q := 16) C 1 rfl dX3_waysWith_15 rfl ?_
    refine Go_iload_n (q := 17) C 2 rfl dX3_waysWith_16 rfl ?_
    refine Go_callSN_V (av := (fun ad => [.ref (ad (48)), .int p0, .int p1])) (st := []) (C := C) (hM := c_X11_put (Gl G) (ok_ln kE_48) hR hw) (host := "EndsRound") (hnw := nw_90) (hini := wm_1_2) (hst2 := wm_10_11) (hcode := wm_10_12) (n := 3) (hd := by decide +kernel) (hr0 := ⟨rfl, rfl⟩) (hroom := ⟨by first | decide | (dsimp only; omega), by first | decide | (dsimp only; omega)⟩) (hlen := rfl) (hst := rfl) (hW := Nat.le_of_ble_eq_true rfl) (hdg := dX3_waysWith_17) (q := 20) (hq := rfl) (fun S17_3 hw hR => ?_)
    refine Go_aload_n (q := 21) C 0 rfl dX3_waysWith_20 rfl ?_
    refine Go_iload_n (q := 22) C 1 rfl dX3_waysWith_21 rfl ?_
    refine Go_iconst (q := 23) (v := (1 : Int32)) C dX3_waysWith_22 rfl rfl ?_
    refine Go_iadd (q := 24) C dX3_waysWith_23 rfl ?_
    refine Go_iload_n (q := 25) C 3 rfl dX3_waysWith_24 rfl ?_
    refine Go_callV_L (av := (fun ad => [.int (p0 + (1 : Int32)), .int p2])) (st := []) (C := C) (hM := hrec  hR hw) (hlk := wm_40_11) (hini := wm_2_12) (hins := wm_40_12) (hsel := wm_40_13) (hcode := wm_40_14) (ho := kE_43) (hci := rfl) (hc13 := by decide) (n := 2) (hd := by decide +kernel) (hr0 := ⟨rfl, rfl⟩) (hroom := ⟨by first | decide | (dsimp only; omega), by first | decide | (dsimp only; omega)⟩) (hlen := rfl) (hst := rfl) (hW := Nat.le_of_ble_eq_true rfl) (hdg := dX3_waysWith_25) (q := 28) (hq := rfl) (fun r25_5 S25_4 hw hR => ?_)
    exact Go_lret C hQ hR hw dX3_waysWith_28
-- X3_ways

set_option maxRecDepth 100000 in
set_option maxHeartbeats 4000000 in
theorem g_X3_ways_96 {G : GC} {d : Nat} (C : Cx G cX3_ways BIG RX3 7 (some .long) (rm_X3_ways (d + 1)) shE NE) {Q : Int64 → St → Prop} (hQ : QL G RCE Q) {rec : Int32 → Int32 → St → (Int64 → St → Prop) → Prop} (hrec : ∀ {p0 : Int32} {p1 : Int32} {S : St} {Q : Int64 → St → Prop}, RCE S → rec p0 p1 S Q → MetL (Gl G) yX3_ways (wB yX3_ways cX3_ways 7 (some .long)) (rm_X3_ways d) shE NE RCE (fun ad => [.ref (ad (43)), .int p0, .int p1]) S Q) (p0 : Int32) (p1 : Int32) (v3 : Int32) (v4 : Int64) (v6 : Int32) {k73 : Int64 → Int32 → St → Prop} (hk73 : ∀ (v4 : Int64) (v6 : Int32) (S : St), RCE S → k73 v4 v6 S → Go G 7 73 [] [(0, .ref (Gad G (43))), (1, .int p0), (2, .int p1), (3, .int v3), (4, .long v4), (6, .int v6)] S) {S : St} (hR : RCE S) (hw : w_X3_ways_96 p0 p1 rec k73 v3 v4 v6 S) : Go G 7 96 [] [(0, .ref (Gad G (43))), (1, .int p0), (2, .int p1), (3, .int v3), (4, .long v4), (6, .int v6)] S := by
  unfold w_X3_ways_96 at hw
  refine Go_iload_n (q := 97) C 3 rfl dX3_ways_96 rfl ?_
  refine Go_iload (q := 99) C 5 rfl dX3_ways_97 rfl ?_
  refine Go_ishr (q := 100) C dX3_ways_99 rfl ?_
  refine Go_iconst (q := 101) (v := (1 : Int32)) C dX3_ways_100 rfl rfl ?_
  refine Go_iand (q := 102) C dX3_ways_101 rfl ?_
  refine Go_if_eq (t := 118) (q := 105) C hw dX3_ways_102 rfl rfl (fun hw => ?_) (fun hw => ?_)
  · refine Go_iinc2 (q := 121) (kp := 5) (cst := (1 : Int32)) C dX3_ways_118 rfl rfl (by decide) rfl (fun x118_8 e_x118_8 => ?_)
    have hw := hw x118_8 e_x118_8
    refine Go_lve (lv' := [(6, .int x118_8), (0, .ref (Gad G (43))), (1, .int p0), (2, .int p1), (3, .int v3), (4, .long v4)]) rfl ?_
    refine Go_goto (q := 73) C dX3_ways_121 rfl ?_
    refine Go_lvp [1, 2, 3, 4, 5, 0] rfl ?_
    exact hk73 _ _ _ hR hw
  · refine Go_lload (q := 107) C 4 rfl dX3_ways_105 rfl ?_
    refine Go_aload_n (q := 108) C 0 rfl dX3_ways_107 rfl ?_
    refine Go_iload_n (q := 109) C 1 rfl dX3_ways_108 rfl ?_
    refine Go_iload (q := 111) C 5 rfl dX3_ways_109 rfl ?_
    refine Go_iload_n (q := 112) C 2 rfl dX3_ways_111 rfl ?_
    refine Go_callV_L (av := (fun ad => [.int p0, .int v6, .int p1])) (st := [.long v4]) (C := C) (hM := c_X3_waysWith (Gl G) @hrec hR hw) (hlk := wm_40_22) (hini := wm_2_12) (hins := wm_40_23) (hsel := wm_41_0) (hcode := wm_41_1) (ho := kE_43) (hci := rfl) (hc13 := by decide) (n := 3) (hd := by decide +kernel) (hr0 := ⟨rfl, rfl⟩) (hroom := ⟨by first | decide | (dsimp only; omega), by first | decide | (dsimp only; omega)⟩) (hlen := rfl) (hst := rfl) (hW := Nat.le_of_ble_eq_true rfl) (hdg := dX3_ways_112) (q := 115) (hq := rfl) (fun r112_10 S112_9 hw hR => ?_)
    refine Go_ladd (q := 116) C dX3_ways_115 rfl ?_
    refine Go_topl (fun x116_11 e_x116_11 => ?_)
    have hw := hw x116_11 e_x116_11
    refine Go_lstore (q := 118) (lv' := [(4, .long x116_11), (0, .ref (Gad G (43))), (1, .int p0), (2, .int p1), (3, .int v3), (6, .int v6)]) C dX3_ways_116 (by decide) rfl rfl ?_
    refine Go_iinc2 (q := 121) (kp := 5) (cst := (1 : Int32)) C dX3_ways_118 rfl rfl (by decide) rfl (fun x118_12 e_x118_12 => ?_)
    have hw := hw x118_12 e_x118_12
    refine Go_lve (lv' := [(6, .int x118_12), (4, .long x116_11), (0, .ref (Gad G (43))), (1, .int p0), (2, .int p1), (3, .int v3)]) rfl ?_
    refine Go_goto (q := 73) C dX3_ways_121 rfl ?_
    refine Go_lvp [2, 3, 4, 5, 1, 0] rfl ?_
    exact hk73 _ _ _ hR hw
set_option maxRecDepth 100000 in
set_option maxHeartbeats 4000000 in
theorem g_X3_ways_73 {G : GC} {d : Nat} (C : Cx G cX3_ways BIG RX3 7 (some .long) (rm_X3_ways (d + 1)) shE NE) {Q : Int64 → St → Prop} (hQ : QL G RCE Q) {rec : Int32 → Int32 → St → (Int64 → St → Prop) → Prop} (hrec : ∀ {p0 : Int32} {p1 : Int32} {S : St} {Q : Int64 → St → Prop}, RCE S → rec p0 p1 S Q → MetL (Gl G) yX3_ways (wB yX3_ways cX3_ways 7 (some .long)) (rm_X3_ways d) shE NE RCE (fun ad => [.ref (ad (43)), .int p0, .int p1]) S Q) (p0 : Int32) (p1 : Int32) (v3 : Int32) (v4 : Int64) (v6 : Int32) {S : St} (hR : RCE S) (hw : w_X3_ways_73 p0 p1 rec Q v3 v4 v6 S) : Go G 7 73 [] [(0, .ref (Gad G (43))), (1, .int p0), (2, .int p1), (3, .int v3), (4, .long v4), (6, .int v6)] S := by
  obtain ⟨n, hw⟩ := hw
  induction n generalizing v4 v6 S with
  | zero => exact hw.elim
  | succ n ih =>
    have hw : b_X3_ways_73 p0 p1 rec Q v3 (lpn (fun _ _ _ => False) (b_X3_ways_73 p0 p1 rec Q v3) n) v4 v6 S := hw
    generalize lpn (fun _ _ _ => False) (b_X3_ways_73 p0 p1 rec Q v3) n = kf at hw ih
    have hk73 := fun (v4 : Int64) (v6 : Int32) (S : St) (hR : RCE S) hw => ih v4 v6 hR hw
    unfold b_X3_ways_73 at hw
    refine Go_iload (q := 75) C 5 rfl dX3_ways_73 rfl ?_
    refine Go_aload_n (q := 76) C 0 rfl dX3_ways_75 rfl ?_
    refine Go_getA (q := 79) (k := 0) C ci3 iw_3 kE_43 (rE_43_0 hR) rfl wm_8_13 rfl dX3_ways_76 rfl ?_
    refine Go_getIN (q := 82) (k := 5) (host := "EndsRound") C ci4 iw_4 kE_21 rfl nw_21 rfl dX3_ways_79 rfl ?_
    refine Go_icmp_ge (t := 124) (q := 85) C hw dX3_ways_82 rfl rfl (fun hw => ?_) (fun hw => ?_)
    · refine Go_lload (q := 126) C 4 rfl dX3_ways_124 rfl ?_
      exact Go_lret C hQ hR hw dX3_ways_126
    · refine Go_iload_n (q := 86) C 2 rfl dX3_ways_85 rfl ?_
      refine Go_if_eq (t := 96) (q := 89) C hw dX3_ways_86 rfl rfl (fun hw => ?_) (fun hw => ?_)
      · refine Go_lvp [0, 1, 2, 3, 4, 5] rfl ?_
        exact g_X3_ways_96 C hQ @hrec p0 p1 _ _ _ hk73 hR hw
      · refine Go_lload (q := 91) C 4 rfl dX3_ways_89 rfl ?_
        refine Go_lconst (q := 92) (v := (0 : Int64)) C dX3_ways_91 rfl rfl ?_
        refine Go_lcmp_gt (t := 124) (q := 93) (q2 := 96) C hw dX3_ways_92 rfl dX3_ways_93 rfl rfl (fun hw => ?_) (fun hw => ?_)
        · refine Go_lload (q := 126) C 4 rfl dX3_ways_124 rfl ?_
          exact Go_lret C hQ hR hw dX3_ways_126
        · refine Go_lvp [0, 1, 2, 3, 4, 5] rfl ?_
          exact g_X3_ways_96 C hQ @hrec p0 p1 _ _ _ hk73 hR hw
set_option maxRecDepth 100000 in
set_option maxHeartbeats 4000000 in
theorem h_X3_ways (l : Launch) {d : Nat} {rec : Int32 → Int32 → St → (Int64 → St → Prop) → Prop} (hrec : ∀ {p0 : Int32} {p1 : Int32} {S : St} {Q : Int64 → St → Prop}, RCE S → rec p0 p1 S Q → MetL l yX3_ways (wB yX3_ways cX3_ways 7 (some .long)) (rm_X3_ways d) shE NE RCE (fun ad => [.ref (ad (43)), .int p0, .int p1]) S Q) {p0 : Int32} {p1 : Int32} {S : St} {Q : Int64 → St → Prop} (hR : RCE S) (hw : u_X3_ways rec p0 p1 S Q) : MetL l yX3_ways (wB yX3_ways cX3_ways 7 (some .long)) (rm_X3_ways (d + 1)) shE NE RCE (fun ad => [.ref (ad (43)), .int p0, .int p1]) S Q := by
  refine MetL_of (cc := cX3_ways) (maxL := 7) (ret := (some .long)) (plainFor_of_name (by decide)) (fun _ => Nat.le_of_ble_eq_true rfl) (fun G C hl hQ => ?_)
  subst hl
  have C : Cx G cX3_ways BIG RX3 7 (some .long) (rm_X3_ways (d + 1)) shE NE := C
  show Go G 7 0 [] [(0, .ref (Gad G (43))), (1, .int p0), (2, .int p1)] S
  unfold u_X3_ways at hw
  refine Go_iload_n (q := 1) C 1 rfl dX3_ways_0 rfl ?_
  refine Go_if_lt (t := 18) (q := 4) C hw dX3_ways_1 rfl rfl (fun hw => ?_) (fun hw => ?_)
  · refine Go_lconst (q := 19) (v := (0 : Int64)) C dX3_ways_18 rfl rfl ?_
    exact Go_lret C hQ hR hw dX3_ways_19
  · refine Go_iload_n (q := 5) C 1 rfl dX3_ways_4 rfl ?_
    refine Go_aload_n (q := 6) C 0 rfl dX3_ways_5 rfl ?_
    refine Go_getI (q := 9) (k := 8) C ci3 iw_3 kE_43 rfl wm_39_19 rfl dX3_ways_6 rfl ?_
    refine Go_icmp_ge (t := 18) (q := 12) C hw dX3_ways_9 rfl rfl (fun hw => ?_) (fun hw => ?_)
    · refine Go_lconst (q := 19) (v := (0 : Int64)) C dX3_ways_18 rfl rfl ?_
      exact Go_lret C hQ hR hw dX3_ways_19
    · refine Go_iload_n (q := 13) C 1 rfl dX3_ways_12 rfl ?_
      refine Go_bipush (q := 15) (v := (7 : Int32)) C dX3_ways_13 rfl rfl ?_
      refine Go_icmp_lt (t := 20) (q := 18) C hw dX3_ways_15 rfl rfl (fun hw => ?_) (fun hw => ?_)
      · refine Go_aload_n (q := 21) C 0 rfl dX3_ways_20 rfl ?_
        refine Go_getA (q := 24) (k := 7) C ci3 iw_3 kE_43 (rE_43_7 hR) rfl wm_8_12 rfl dX3_ways_21 rfl ?_
        refine Go_iload_n (q := 25) C 1 rfl dX3_ways_24 rfl ?_
        refine Go_bipush (q := 27) (v := (7 : Int32)) C dX3_ways_25 rfl rfl ?_
        refine Go_imul (q := 28) C dX3_ways_27 rfl ?_
        refine Go_iload_n (q := 29) C 1 rfl dX3_ways_28 rfl ?_
        refine Go_iadd (q := 30) C dX3_ways_29 rfl ?_
        refine Go_callSN_I (av := (fun ad => [.ref (ad (49)), .int ((p0 * (7 : Int32)) + p0)])) (st := []) (C := C) (hM := c_X11_cell (Gl G) (ok_ln kE_49) hR hw) (host := "EndsRound") (hnw := nw_91) (hini := wm_1_2) (hst2 := wm_10_22) (hcode := wm_10_23) (n := 2) (hd := by decide +kernel) (hr0 := ⟨rfl, rfl⟩) (hroom := ⟨by first | decide | (dsimp only; omega), by first | decide | (dsimp only; omega)⟩) (hlen := rfl) (hst := rfl) (hW := Nat.le_of_ble_eq_true rfl) (hdg := dX3_ways_30) (q := 33) (hq := rfl) (fun r30_2 S30_1 hw hR => ?_)
        refine Go_istore_n (q := 34) (lv' := [(3, .int r30_2), (0, .ref (Gad G (43))), (1, .int p0), (2, .int p1)]) C rfl dX3_ways_33 (by decide) rfl rfl ?_
        refine Go_iload_n (q := 35) C 2 rfl dX3_ways_34 rfl ?_
        refine Go_aload_n (q := 36) C 1 rfl dX3_ways_35 rfl ?_
        refine Go_getI (q := 39) (k := 8) C ci3 iw_3 kE_43 rfl wm_39_19 rfl dX3_ways_36 rfl ?_
        refine Go_iconst (q := 40) (v := (1 : Int32)) C dX3_ways_39 rfl rfl ?_
        refine Go_isub (q := 41) C dX3_ways_40 rfl ?_
        refine Go_icmp_ne (t := 67) (q := 44) C hw dX3_ways_41 rfl rfl (fun hw => ?_) (fun hw => ?_)
        · refine Go_aload_n (q := 45) C 1 rfl dX3_ways_44 rfl ?_
          refine Go_getA (q := 48) (k := 6) C ci3 iw_3 kE_43 (rE_43_6 hR) rfl wm_8_11 rfl dX3_ways_45 rfl ?_
          refine Go_iload_n (q := 49) C 2 rfl dX3_ways_48 rfl ?_
          refine Go_iload_n (q := 50) C 0 rfl dX3_ways_49 rfl ?_
          refine Go_iload_n (q := 51) C 0 rfl dX3_ways_50 rfl ?_
          refine Go_ineg (q := 52) C dX3_ways_51 rfl ?_
          refine Go_iand (q := 53) C dX3_ways_52 rfl ?_
          refine Go_iconst (q := 54) (v := (1 : Int32)) C dX3_ways_53 rfl rfl ?_
          refine Go_isub (q := 55) C dX3_ways_54 rfl ?_
          refine Go_callS_I (av := (fun ad => [.int ((r30_2 &&& (-r30_2)) - (1 : Int32))])) (st := [.int p0, .ref (Gad G (48))]) (C := C) (hM := c_J6_bitCount_0f7a4 (Gl G)  hR hw) (hlk := wm_40_15) (hini := wm_40_17) (hst2 := wm_40_16) (hcode := wm_40_18) (n := 1) (hd := by decide +kernel) (hr0 := ⟨rfl, rfl⟩) (hroom := ⟨by first | decide | (dsimp only; omega), by first | decide | (dsimp only; omega)⟩) (hlen := rfl) (hst := rfl) (hW := Nat.le_of_ble_eq_true rfl) (hdg := dX3_ways_55) (q := 58) (hq := rfl) (fun r55_4 S55_3 hw hR => ?_)
          refine Go_callSN_V (av := (fun ad => [.ref (ad (48)), .int p0, .int r55_4])) (st := []) (C := C) (hM := c_X11_put (Gl G) (ok_ln kE_48) hR hw) (host := "EndsRound") (hnw := nw_90) (hini := wm_1_2) (hst2 := wm_10_11) (hcode := wm_10_12) (n := 3) (hd := by decide +kernel) (hr0 := ⟨rfl, rfl⟩) (hroom := ⟨by first | decide | (dsimp only; omega), by first | decide | (dsimp only; omega)⟩) (hlen := rfl) (hst := rfl) (hW := Nat.le_of_ble_eq_true rfl) (hdg := dX3_ways_58) (q := 61) (hq := rfl) (fun S58_5 hw hR => ?_)
          refine Go_iload_n (q := 62) C 0 rfl dX3_ways_61 rfl ?_
          refine Go_callS_I (av := (fun ad => [.int r30_2])) (st := []) (C := C) (hM := c_J6_bitCount_0f7a4 (Gl G)  hR hw) (hlk := wm_40_15) (hini := wm_40_17) (hst2 := wm_40_16) (hcode := wm_40_18) (n := 1) (hd := by decide +kernel) (hr0 := ⟨rfl, rfl⟩) (hroom := ⟨by first | decide | (dsimp only; omega), by first | decide | (dsimp only; omega)⟩) (hlen := rfl) (hst := rfl) (hW := Nat.le_of_ble_eq_true rfl) (hdg := dX3_ways_62) (q := 65) (hq := rfl) (fun r62_7 S62_6 hw hR => ?_)
          refine Go_i2l (q := 66) C dX3_ways_65 rfl ?_
          exact Go_lret C hQ hR hw dX3_ways_66
        · refine Go_lconst (q := 68) (v := (0 : Int64)) C dX3_ways_67 rfl rfl ?_
          refine Go_lstore (q := 70) (lv' := [(4, .long (0 : Int64)), (3, .int r30_2), (0, .ref (Gad G (43))), (1, .int p0), (2, .int p1)]) C dX3_ways_68 (by decide) rfl rfl ?_
          refine Go_iconst (q := 71) (v := (0 : Int32)) C dX3_ways_70 rfl rfl ?_
          refine Go_istore (q := 73) (lv' := [(6, .int (0 : Int32)), (4, .long (0 : Int64)), (3, .int r30_2), (0, .ref (Gad G (43))), (1, .int p0), (2, .int p1)]) C dX3_ways_71 (by decide) rfl rfl ?_
          refine Go_lvp [3, 4, 5, 2, 1, 0] rfl ?_
          exact g_X3_ways_73 C hQ @hrec p0 p1 _ _ _ hR hw
      · refine Go_lconst (q := 19) (v := (0 : Int64)) C dX3_ways_18 rfl rfl ?_
        exact Go_lret C hQ hR hw dX3_ways_19
theorem c_X3_ways (l : Launch) : ∀ (d : Nat) {p0 : Int32} {p1 : Int32} {S : St} {Q : Int64 → St → Prop}, RCE S → w_X3_ways d p0 p1 S Q → MetL l yX3_ways (wB yX3_ways cX3_ways 7 (some .long)) (rm_X3_ways d) shE NE RCE (fun ad => [.ref (ad (43)), .int p0, .int p1]) S Q := by
  intro d
  induction d with
  | zero => intro _ _ _ _ _ hw; exact hw.elim
  | succ d ih => intro p0 p1 S Q hR hw; exact h_X3_ways l (d := d) (rec := w_X3_ways d) @ih  hR hw
-- X3_howMany
abbrev rm_X3_howMany : Room := { frames := 513, cells := 0, slots := 0, locals := 22426 }
set_option maxRecDepth 100000 in
set_option maxHeartbeats 4000000 in
theorem c_X3_howMany (l : Launch) {S : St} {Q : Int64 → St → Prop} (hR : RCE S) (hw : w_X3_howMany S Q) : MetL l yX3_howMany (wB yX3_howMany cX3_howMany 1 (some .long)) rm_X3_howMany shE NE RCE (fun ad => [.ref (ad (43))]) S Q := by
  refine MetL_of (cc := cX3_howMany) (maxL := 1) (ret := (some .long)) (plainFor_of_name (by decide)) (fun _ => Nat.le_of_ble_eq_true rfl) (fun G C hl hQ => ?_)
  subst hl
  have C : Cx G cX3_howMany BIG RX3 1 (some .long) rm_X3_howMany shE NE := C
  show Go G 1 0 [] [(0, .ref (Gad G (43)))] S
  unfold w_X3_howMany at hw
  refine Go_aload_n (q := 1) C 0 rfl dX3_howMany_0 rfl ?_
  refine Go_getI (q := 4) (k := 10) C ci3 iw_3 kE_43 rfl wm_24_2 rfl dX3_howMany_1 rfl ?_
  refine Go_if_ne (t := 37) (q := 7) C hw dX3_howMany_4 rfl rfl (fun hw => ?_) (fun hw => ?_)
  · refine Go_aload_n (q := 8) C 0 rfl dX3_howMany_7 rfl ?_
    refine Go_iconst (q := 9) (v := (1 : Int32)) C dX3_howMany_8 rfl rfl ?_
    refine Go_aload_n (q := 10) C 0 rfl dX3_howMany_9 rfl ?_
    refine Go_getA (q := 13) (k := 0) C ci3 iw_3 kE_43 (rE_43_0 hR) rfl wm_8_13 rfl dX3_howMany_10 rfl ?_
    refine Go_getIN (q := 16) (k := 0) (host := "EndsRound") C ci4 iw_4 kE_21 rfl nw_8 rfl dX3_howMany_13 rfl ?_
    refine Go_ishl (q := 17) C dX3_howMany_16 rfl ?_
    refine Go_iconst (q := 18) (v := (1 : Int32)) C dX3_howMany_17 rfl rfl ?_
    refine Go_isub (q := 19) C dX3_howMany_18 rfl ?_
    refine Go_callV_V (av := (fun ad => [.int (((1 : Int32) <<< ((gI S 21 0) &&& 31)) - (1 : Int32))])) (st := []) (C := C) (hM := c_X3_choose (Gl G)  hR hw) (hlk := wm_39_15) (hini := wm_2_12) (hins := wm_39_16) (hsel := wm_39_17) (hcode := wm_39_18) (ho := kE_43) (hci := rfl) (hc13 := by decide) (n := 1) (hd := by decide +kernel) (hr0 := ⟨rfl, rfl⟩) (hroom := ⟨by first | decide | (dsimp only; omega), by first | decide | (dsimp only; omega)⟩) (hlen := rfl) (hst := rfl) (hW := Nat.le_of_ble_eq_true rfl) (hdg := dX3_howMany_19) (q := 22) (hq := rfl) (fun S19_1 hw hR => ?_)
    refine Go_aload_n (q := 23) C 0 rfl dX3_howMany_22 rfl ?_
    refine Go_aload_n (q := 24) C 0 rfl dX3_howMany_23 rfl ?_
    refine Go_iconst (q := 25) (v := (0 : Int32)) C dX3_howMany_24 rfl rfl ?_
    refine Go_iconst (q := 26) (v := (0 : Int32)) C dX3_howMany_25 rfl rfl ?_
    obtain ⟨d26_4, hle_d26_4, hw⟩ := hw
    refine Go_callV_L (av := (fun ad => [.int (0 : Int32), .int (0 : Int32)])) (st := [.ref (Gad G (43))]) (C := C) (hM := c_X3_ways (Gl G) d26_4  hR hw) (hlk := wm_40_11) (hini := wm_2_12) (hins := wm_40_12) (hsel := wm_40_13) (hcode := wm_40_14) (ho := kE_43) (hci := rfl) (hc13 := by decide) (n := 2) (hd := by decide +kernel) (hr0 := ⟨rfl, rfl⟩) (hroom := ⟨by first | decide | (dsimp only; omega), by first | decide | (dsimp only; omega)⟩) (hlen := rfl) (hst := rfl) (hW := Nat.le_of_ble_eq_true rfl) (hdg := dX3_howMany_26) (q := 29) (hq := rfl) (fun r26_3 S26_2 hw hR => ?_)
    refine Go_putJ (q := 32) (k := 13) C ci3 iw_3 kE_43 rfl wm_39_14 rfl rfl (ci3.2.2.2.1 13 (by decide)) rfl rfl dX3_howMany_29 rfl ?_
    refine Go_S (fun S29_5 e_S29_5 => ?_)
    have hw := hw S29_5 e_S29_5
    have hR := rcEJ e_S29_5 hR
    refine Go_aload_n (q := 33) C 0 rfl dX3_howMany_32 rfl ?_
    refine Go_iconst (q := 34) (v := (1 : Int32)) C dX3_howMany_33 rfl rfl ?_
    refine Go_putI (q := 37) (k := 10) C ci3 iw_3 kE_43 rfl wm_24_2 rfl rfl (ci3.2.2.2.1 10 (by decide)) rfl rfl dX3_howMany_34 rfl ?_
    refine Go_S (fun S34_6 e_S34_6 => ?_)
    have hw := hw S34_6 e_S34_6
    have hR := rcE e_S34_6 hR
    refine Go_aload_n (q := 38) C 0 rfl dX3_howMany_37 rfl ?_
    refine Go_getJ (q := 41) (k := 13) C ci3 iw_3 kE_43 rfl wm_39_14 rfl dX3_howMany_38 rfl ?_
    exact Go_lret C hQ hR hw dX3_howMany_41
  · refine Go_aload_n (q := 38) C 0 rfl dX3_howMany_37 rfl ?_
    refine Go_getJ (q := 41) (k := 13) C ci3 iw_3 kE_43 rfl wm_39_14 rfl dX3_howMany_38 rfl ?_
    exact Go_lret C hQ hR hw dX3_howMany_41
-- X11_fills
abbrev rm_X11_fills : Room := { frames := 514, cells := 0, slots := 0, locals := 22446 }
set_option maxRecDepth 100000 in
set_option maxHeartbeats 4000000 in
theorem c_X11_fills (l : Launch) {S : St} {Q : Int64 → St → Prop} (hR : RCE S) (hw : w_X11_fills S Q) : MetL l yX11_fills (wB yX11_fills cX11_fills 1 (some .long)) rm_X11_fills shE NE RCE (fun ad => [.ref (ad (0))]) S Q := by
  refine MetL_of (cc := cX11_fills) (maxL := 1) (ret := (some .long)) (plainFor_of_name (by decide)) (fun _ => Nat.le_of_ble_eq_true rfl) (fun G C hl hQ => ?_)
  subst hl
  have C : Cx G cX11_fills BIG RX11 1 (some .long) rm_X11_fills shE NE := C
  show Go G 1 0 [] [(0, .ref (Gad G (0)))] S
  unfold w_X11_fills at hw
  refine Go_aload_n (q := 1) C 0 rfl dX11_fills_0 rfl ?_
  refine Go_getA (q := 4) (k := 2) C ci11 iw_11 kE_0 (rE_0_2 hR) rfl wm_2_1 rfl dX11_fills_1 rfl ?_
  refine Go_getIN (q := 7) (k := 0) (host := "EndsRound") C ci4 iw_4 kE_21 rfl nw_11 rfl dX11_fills_4 rfl ?_
  refine Go_bipush (q := 9) (v := (7 : Int32)) C dX11_fills_7 rfl rfl ?_
  refine Go_icmp_le (t := 18) (q := 12) C hw dX11_fills_9 rfl rfl (fun hw => ?_) (fun hw => ?_)
  · refine Go_aload_n (q := 19) C 0 rfl dX11_fills_18 rfl ?_
    refine Go_getA (q := 22) (k := 5) C ci11 iw_11 kE_0 (rE_0_5 hR) rfl wm_2_13 rfl dX11_fills_19 rfl ?_
    refine Go_callV_L (av := (fun ad => [])) (st := []) (C := C) (hM := c_X3_howMany (Gl G)  hR hw) (hlk := wm_39_10) (hini := wm_2_12) (hins := wm_39_11) (hsel := wm_39_12) (hcode := wm_39_13) (ho := kE_43) (hci := rfl) (hc13 := by decide) (n := 0) (hd := by decide +kernel) (hr0 := ⟨rfl, rfl⟩) (hroom := ⟨by first | decide | (dsimp only; omega), by first | decide | (dsimp only; omega)⟩) (hlen := rfl) (hst := rfl) (hW := Nat.le_of_ble_eq_true rfl) (hdg := dX11_fills_22) (q := 25) (hq := rfl) (fun r22_2 S22_1 hw hR => ?_)
    exact Go_lret C hQ hR hw dX11_fills_25
  · refine Go_ldc2 (q := 15) (v := (-1 : Int64)) C wm_39_9 dX11_fills_12 rfl ?_
    refine Go_goto (q := 25) C dX11_fills_15 rfl ?_
    exact Go_lret C hQ hR hw dX11_fills_25
-- X3_canAll
abbrev rm_X3_canAll : Room := { frames := 513, cells := 0, slots := 0, locals := 22426 }
set_option maxRecDepth 100000 in
set_option maxHeartbeats 4000000 in
theorem g_X3_canAll_39 {G : GC} (C : Cx G cX3_canAll BIG RX3 1 (some .boolean) rm_X3_canAll shE NE) {Q : Int32 → St → Prop} (hQ : QI G RCE Q) (t0 : Int32) {S : St} (hR : RCE S) (hw : w_X3_canAll_39 Q t0 S) : Go G 1 39 [.int t0, .ref (Gad G (43))] [(0, .ref (Gad G (43)))] S := by
  unfold w_X3_canAll_39 at hw
  obtain ⟨hz, hw⟩ := hw
  refine Go_putI (q := 42) (k := 12) C ci3 iw_3 kE_43 rfl wm_42_12 rfl rfl (ci3.2.2.2.1 12 (by decide)) (zb hz) (zf hz) dX3_canAll_39 rfl ?_
  refine Go_S (fun S39_5 e_S39_5 => ?_)
  have hw := hw S39_5 e_S39_5
  have hR := rcE e_S39_5 hR
  refine Go_aload_n (q := 43) C 0 rfl dX3_canAll_42 rfl ?_
  refine Go_getA (q := 46) (k := 6) C ci3 iw_3 kE_43 (rE_43_6 hR) rfl wm_8_11 rfl dX3_canAll_43 rfl ?_
  refine Go_aload_n (q := 47) C 0 rfl dX3_canAll_46 rfl ?_
  refine Go_getA (q := 50) (k := 2) C ci3 iw_3 kE_43 (rE_43_2 hR) rfl wm_8_7 rfl dX3_canAll_47 rfl ?_
  refine Go_callSN_V (av := (fun ad => [.ref (ad (48)), .ref (ad (44))])) (st := []) (C := C) (hM := c_X11_copyRow (Gl G) (ok_ln kE_48) (ok_ln kE_44) hR hw) (host := "EndsRound") (hnw := nw_92) (hini := wm_1_2) (hst2 := wm_10_20) (hcode := wm_10_21) (n := 2) (hd := by decide +kernel) (hr0 := ⟨rfl, rfl⟩) (hroom := ⟨by first | decide | (dsimp only; omega), by first | decide | (dsimp only; omega)⟩) (hlen := rfl) (hst := rfl) (hW := Nat.le_of_ble_eq_true rfl) (hdg := dX3_canAll_50) (q := 53) (hq := rfl) (fun S50_6 hw hR => ?_)
  refine Go_aload_n (q := 54) C 0 rfl dX3_canAll_53 rfl ?_
  refine Go_iconst (q := 55) (v := (1 : Int32)) C dX3_canAll_54 rfl rfl ?_
  refine Go_putI (q := 58) (k := 11) C ci3 iw_3 kE_43 rfl wm_24_3 rfl rfl (ci3.2.2.2.1 11 (by decide)) rfl rfl dX3_canAll_55 rfl ?_
  refine Go_S (fun S55_7 e_S55_7 => ?_)
  have hw := hw S55_7 e_S55_7
  have hR := rcE e_S55_7 hR
  refine Go_aload_n (q := 59) C 0 rfl dX3_canAll_58 rfl ?_
  refine Go_getI (q := 62) (k := 12) C ci3 iw_3 kE_43 rfl wm_42_12 rfl dX3_canAll_59 rfl ?_
  exact Go_zret C hQ hR (zb hw.1) hw.2 dX3_canAll_62
set_option maxRecDepth 100000 in
set_option maxHeartbeats 4000000 in
theorem c_X3_canAll (l : Launch) {S : St} {Q : Int32 → St → Prop} (hR : RCE S) (hw : w_X3_canAll S Q) : MetI l yX3_canAll (wB yX3_canAll cX3_canAll 1 (some .boolean)) rm_X3_canAll shE NE RCE (fun ad => [.ref (ad (43))]) S Q := by
  refine MetI_of (cc := cX3_canAll) (maxL := 1) (ret := (some .boolean)) (plainFor_of_name (by decide)) (fun _ => Nat.le_of_ble_eq_true rfl) (fun G C hl hQ => ?_)
  subst hl
  have C : Cx G cX3_canAll BIG RX3 1 (some .boolean) rm_X3_canAll shE NE := C
  show Go G 1 0 [] [(0, .ref (Gad G (43)))] S
  unfold w_X3_canAll at hw
  refine Go_aload_n (q := 1) C 0 rfl dX3_canAll_0 rfl ?_
  refine Go_getI (q := 4) (k := 11) C ci3 iw_3 kE_43 rfl wm_24_3 rfl dX3_canAll_1 rfl ?_
  refine Go_if_ne (t := 58) (q := 7) C hw dX3_canAll_4 rfl rfl (fun hw => ?_) (fun hw => ?_)
  · refine Go_aload_n (q := 8) C 0 rfl dX3_canAll_7 rfl ?_
    refine Go_iconst (q := 9) (v := (1 : Int32)) C dX3_canAll_8 rfl rfl ?_
    refine Go_aload_n (q := 10) C 0 rfl dX3_canAll_9 rfl ?_
    refine Go_getA (q := 13) (k := 0) C ci3 iw_3 kE_43 (rE_43_0 hR) rfl wm_8_13 rfl dX3_canAll_10 rfl ?_
    refine Go_getIN (q := 16) (k := 0) (host := "EndsRound") C ci4 iw_4 kE_21 rfl nw_8 rfl dX3_canAll_13 rfl ?_
    refine Go_ishl (q := 17) C dX3_canAll_16 rfl ?_
    refine Go_iconst (q := 18) (v := (1 : Int32)) C dX3_canAll_17 rfl rfl ?_
    refine Go_isub (q := 19) C dX3_canAll_18 rfl ?_
    refine Go_callV_V (av := (fun ad => [.int (((1 : Int32) <<< ((gI S 21 0) &&& 31)) - (1 : Int32))])) (st := []) (C := C) (hM := c_X3_choose (Gl G)  hR hw) (hlk := wm_39_15) (hini := wm_2_12) (hins := wm_39_16) (hsel := wm_39_17) (hcode := wm_39_18) (ho := kE_43) (hci := rfl) (hc13 := by decide) (n := 1) (hd := by decide +kernel) (hr0 := ⟨rfl, rfl⟩) (hroom := ⟨by first | decide | (dsimp only; omega), by first | decide | (dsimp only; omega)⟩) (hlen := rfl) (hst := rfl) (hW := Nat.le_of_ble_eq_true rfl) (hdg := dX3_canAll_19) (q := 22) (hq := rfl) (fun S19_1 hw hR => ?_)
    refine Go_aload_n (q := 23) C 0 rfl dX3_canAll_22 rfl ?_
    refine Go_aload_n (q := 24) C 0 rfl dX3_canAll_23 rfl ?_
    refine Go_iconst (q := 25) (v := (0 : Int32)) C dX3_canAll_24 rfl rfl ?_
    refine Go_iconst (q := 26) (v := (1 : Int32)) C dX3_canAll_25 rfl rfl ?_
    obtain ⟨d26_4, hle_d26_4, hw⟩ := hw
    refine Go_callV_L (av := (fun ad => [.int (0 : Int32), .int (1 : Int32)])) (st := [.ref (Gad G (43))]) (C := C) (hM := c_X3_ways (Gl G) d26_4  hR hw) (hlk := wm_40_11) (hini := wm_2_12) (hins := wm_40_12) (hsel := wm_40_13) (hcode := wm_40_14) (ho := kE_43) (hci := rfl) (hc13 := by decide) (n := 2) (hd := by decide +kernel) (hr0 := ⟨rfl, rfl⟩) (hroom := ⟨by first | decide | (dsimp only; omega), by first | decide | (dsimp only; omega)⟩) (hlen := rfl) (hst := rfl) (hW := Nat.le_of_ble_eq_true rfl) (hdg := dX3_canAll_26) (q := 29) (hq := rfl) (fun r26_3 S26_2 hw hR => ?_)
    refine Go_lconst (q := 30) (v := (0 : Int64)) C dX3_canAll_29 rfl rfl ?_
    refine Go_lcmp_le (t := 38) (q := 31) (q2 := 34) C hw dX3_canAll_30 rfl dX3_canAll_31 rfl rfl (fun hw => ?_) (fun hw => ?_)
    · refine Go_iconst (q := 35) (v := (1 : Int32)) C dX3_canAll_34 rfl rfl ?_
      refine Go_goto (q := 39) C dX3_canAll_35 rfl ?_
      refine Go_lvp [0] rfl ?_
      exact g_X3_canAll_39 C hQ _ hR hw
    · refine Go_iconst (q := 39) (v := (0 : Int32)) C dX3_canAll_38 rfl rfl ?_
      refine Go_lvp [0] rfl ?_
      exact g_X3_canAll_39 C hQ _ hR hw
  · refine Go_aload_n (q := 59) C 0 rfl dX3_canAll_58 rfl ?_
    refine Go_getI (q := 62) (k := 12) C ci3 iw_3 kE_43 rfl wm_42_12 rfl dX3_canAll_59 rfl ?_
    exact Go_zret C hQ hR (zb hw.1) hw.2 dX3_canAll_62
-- X11_fill
abbrev rm_X11_fill : Room := { frames := 514, cells := 0, slots := 0, locals := 22446 }
set_option maxRecDepth 100000 in
set_option maxHeartbeats 4000000 in
theorem c_X11_fill (l : Launch) {p0 : Int32} {S : St} {Q : Int32 → St → Prop} (hR : RCE S) (hw : w_X11_fill p0 S Q) : MetI l yX11_fill (wB yX11_fill cX11_fill 2 (some .int)) rm_X11_fill shE NE RCE (fun ad => [.ref (ad (0)), .int p0]) S Q := by
  refine MetI_of (cc := cX11_fill) (maxL := 2) (ret := (some .int)) (plainFor_of_name (by decide)) (fun _ => Nat.le_of_ble_eq_true rfl) (fun G C hl hQ => ?_)
  subst hl
  have C : Cx G cX11_fill BIG RX11 2 (some .int) rm_X11_fill shE NE := C
  show Go G 2 0 [] [(0, .ref (Gad G (0))), (1, .int p0)] S
  unfold w_X11_fill at hw
  refine Go_aload_n (q := 1) C 0 rfl dX11_fill_0 rfl ?_
  refine Go_getA (q := 4) (k := 2) C ci11 iw_11 kE_0 (rE_0_2 hR) rfl wm_2_1 rfl dX11_fill_1 rfl ?_
  refine Go_getIN (q := 7) (k := 0) (host := "EndsRound") C ci4 iw_4 kE_21 rfl nw_11 rfl dX11_fill_4 rfl ?_
  refine Go_bipush (q := 9) (v := (7 : Int32)) C dX11_fill_7 rfl rfl ?_
  refine Go_icmp_gt (t := 30) (q := 12) C hw dX11_fill_9 rfl rfl (fun hw => ?_) (fun hw => ?_)
  · refine Go_iconst (q := 31) (v := (-1 : Int32)) C dX11_fill_30 rfl rfl ?_
    exact Go_iret C hQ hR hw dX11_fill_31
  · refine Go_aload_n (q := 13) C 0 rfl dX11_fill_12 rfl ?_
    refine Go_iload_n (q := 14) C 1 rfl dX11_fill_13 rfl ?_
    refine Go_callV_I (av := (fun ad => [.int p0])) (st := []) (C := C) (hM := c_X11_isEnd (Gl G)  hR hw) (hlk := wm_31_13) (hini := wm_1_2) (hins := wm_31_14) (hsel := wm_31_15) (hcode := wm_31_16) (ho := kE_0) (hci := rfl) (hc13 := by decide) (n := 1) (hd := by decide +kernel) (hr0 := ⟨rfl, rfl⟩) (hroom := ⟨by first | decide | (dsimp only; omega), by first | decide | (dsimp only; omega)⟩) (hlen := rfl) (hst := rfl) (hW := Nat.le_of_ble_eq_true rfl) (hdg := dX11_fill_14) (q := 17) (hq := rfl) (fun r14_2 S14_1 hw hR => ?_)
    refine Go_if_eq (t := 30) (q := 20) C hw dX11_fill_17 rfl rfl (fun hw => ?_) (fun hw => ?_)
    · refine Go_iconst (q := 31) (v := (-1 : Int32)) C dX11_fill_30 rfl rfl ?_
      exact Go_iret C hQ hR hw dX11_fill_31
    · refine Go_aload_n (q := 21) C 0 rfl dX11_fill_20 rfl ?_
      refine Go_getA (q := 24) (k := 5) C ci11 iw_11 kE_0 (rE_0_5 hR) rfl wm_2_13 rfl dX11_fill_21 rfl ?_
      refine Go_callV_I (av := (fun ad => [])) (st := []) (C := C) (hM := c_X3_canAll (Gl G)  hR hw) (hlk := wm_42_8) (hini := wm_2_12) (hins := wm_42_9) (hsel := wm_42_10) (hcode := wm_42_11) (ho := kE_43) (hci := rfl) (hc13 := by decide) (n := 0) (hd := by decide +kernel) (hr0 := ⟨rfl, rfl⟩) (hroom := ⟨by first | decide | (dsimp only; omega), by first | decide | (dsimp only; omega)⟩) (hlen := rfl) (hst := rfl) (hW := Nat.le_of_ble_eq_true rfl) (hdg := dX11_fill_24) (q := 27) (hq := rfl) (fun r24_4 S24_3 hw hR => ?_)
      refine Go_if_ne (t := 32) (q := 30) C hw dX11_fill_27 rfl rfl (fun hw => ?_) (fun hw => ?_)
      · refine Go_iconst (q := 31) (v := (-1 : Int32)) C dX11_fill_30 rfl rfl ?_
        exact Go_iret C hQ hR hw dX11_fill_31
      · refine Go_aload_n (q := 33) C 0 rfl dX11_fill_32 rfl ?_
        refine Go_getA (q := 36) (k := 5) C ci11 iw_11 kE_0 (rE_0_5 hR) rfl wm_2_13 rfl dX11_fill_33 rfl ?_
        refine Go_getAN (q := 39) (k := 2) (host := "EndsRound") C ci3 iw_3 kE_43 (rE_43_2 hR) rfl nw_60 rfl dX11_fill_36 rfl ?_
        refine Go_iload_n (q := 40) C 1 rfl dX11_fill_39 rfl ?_
        refine Go_callS_I (av := (fun ad => [.ref (ad (44)), .int p0])) (st := []) (C := C) (hM := c_X11_cell (Gl G) (ok_ln kE_44) hR hw) (hlk := wm_31_17) (hini := wm_1_2) (hst2 := wm_10_22) (hcode := wm_10_23) (n := 2) (hd := by decide +kernel) (hr0 := ⟨rfl, rfl⟩) (hroom := ⟨by first | decide | (dsimp only; omega), by first | decide | (dsimp only; omega)⟩) (hlen := rfl) (hst := rfl) (hW := Nat.le_of_ble_eq_true rfl) (hdg := dX11_fill_40) (q := 43) (hq := rfl) (fun r40_6 S40_5 hw hR => ?_)
        exact Go_iret C hQ hR hw dX11_fill_43
-- X3_fewestStuck
abbrev rm_X3_fewestStuck : Room := { frames := 513, cells := 0, slots := 0, locals := 22426 }
set_option maxRecDepth 100000 in
set_option maxHeartbeats 4000000 in
theorem g_X3_fewestStuck_72 {G : GC} (C : Cx G cX3_fewestStuck BIG RX3 3 (some .int) rm_X3_fewestStuck shE NE) {Q : Int32 → St → Prop} (hQ : QI G RCE Q) (v1 : Int32) (v2 : Int32) (t0 : Int32) {k22 : Int32 → St → Prop} (hk22 : ∀ (v2 : Int32) (S : St), RCE S → k22 v2 S → Go G 3 22 [] [(0, .ref (Gad G (43))), (1, .int v1), (2, .int v2)] S) {S : St} (hR : RCE S) (hw : w_X3_fewestStuck_72 k22 v1 v2 t0 S) : Go G 3 72 [.int t0, .ref (Gad G (43))] [(0, .ref (Gad G (43))), (1, .int v1), (2, .int v2)] S := by
  unfold w_X3_fewestStuck_72 at hw
  refine Go_putI (q := 75) (k := 14) C ci3 iw_3 kE_43 rfl wm_24_4 rfl rfl (ci3.2.2.2.1 14 (by decide)) rfl rfl dX3_fewestStuck_72 rfl ?_
  refine Go_S (fun S72_8 e_S72_8 => ?_)
  have hw := hw S72_8 e_S72_8
  have hR := rcE e_S72_8 hR
  refine Go_iinc2 (q := 78) (kp := 2) (cst := (1 : Int32)) C dX3_fewestStuck_75 rfl rfl (by decide) rfl (fun x75_9 e_x75_9 => ?_)
  have hw := hw x75_9 e_x75_9
  refine Go_lve (lv' := [(2, .int x75_9), (0, .ref (Gad G (43))), (1, .int v1)]) rfl ?_
  refine Go_goto (q := 22) C dX3_fewestStuck_78 rfl ?_
  refine Go_lvp [1, 2, 0] rfl ?_
  exact hk22 _ _ hR hw
set_option maxRecDepth 100000 in
set_option maxHeartbeats 4000000 in
theorem g_X3_fewestStuck_22 {G : GC} (C : Cx G cX3_fewestStuck BIG RX3 3 (some .int) rm_X3_fewestStuck shE NE) {Q : Int32 → St → Prop} (hQ : QI G RCE Q) (v1 : Int32) {k2 : Int32 → St → Prop} (hk2 : ∀ (v1 : Int32) (S : St), RCE S → k2 v1 S → Go G 3 2 [] [(0, .ref (Gad G (43))), (1, .int v1)] S) (v2 : Int32) {S : St} (hR : RCE S) (hw : w_X3_fewestStuck_22 k2 v1 v2 S) : Go G 3 22 [] [(0, .ref (Gad G (43))), (1, .int v1), (2, .int v2)] S := by
  obtain ⟨n, hw⟩ := hw
  induction n generalizing v2 S with
  | zero => exact hw.elim
  | succ n ih =>
    have hw : b_X3_fewestStuck_22 k2 v1 (lpn (fun _ _ => False) (b_X3_fewestStuck_22 k2 v1) n) v2 S := hw
    generalize lpn (fun _ _ => False) (b_X3_fewestStuck_22 k2 v1) n = kf at hw ih
    have hk22 := fun (v2 : Int32) (S : St) (hR : RCE S) hw => ih v2 hR hw
    unfold b_X3_fewestStuck_22 at hw
    refine Go_iload_n (q := 23) C 2 rfl dX3_fewestStuck_22 rfl ?_
    refine Go_iconst (q := 24) (v := (1 : Int32)) C dX3_fewestStuck_23 rfl rfl ?_
    refine Go_aload_n (q := 25) C 0 rfl dX3_fewestStuck_24 rfl ?_
    refine Go_getA (q := 28) (k := 0) C ci3 iw_3 kE_43 (rE_43_0 hR) rfl wm_8_13 rfl dX3_fewestStuck_25 rfl ?_
    refine Go_getIN (q := 31) (k := 0) (host := "EndsRound") C ci4 iw_4 kE_21 rfl nw_8 rfl dX3_fewestStuck_28 rfl ?_
    refine Go_ishl (q := 32) C dX3_fewestStuck_31 rfl ?_
    refine Go_icmp_ge (t := 81) (q := 35) C hw dX3_fewestStuck_32 rfl rfl (fun hw => ?_) (fun hw => ?_)
    · refine Go_iinc2 (q := 84) (kp := 1) (cst := (1 : Int32)) C dX3_fewestStuck_81 rfl rfl (by decide) rfl (fun x81_1 e_x81_1 => ?_)
      have hw := hw x81_1 e_x81_1
      refine Go_lve (lv' := [(1, .int x81_1), (0, .ref (Gad G (43))), (2, .int v2)]) rfl ?_
      refine Go_goto (q := 2) C dX3_fewestStuck_84 rfl ?_
      refine Go_lvp [1, 0] rfl ?_
      exact hk2 _ _ hR hw
    · refine Go_aload_n (q := 36) C 0 rfl dX3_fewestStuck_35 rfl ?_
      refine Go_getI (q := 39) (k := 14) C ci3 iw_3 kE_43 rfl wm_24_4 rfl dX3_fewestStuck_36 rfl ?_
      refine Go_if_ne (t := 81) (q := 42) C hw dX3_fewestStuck_39 rfl rfl (fun hw => ?_) (fun hw => ?_)
      · refine Go_iload_n (q := 43) C 2 rfl dX3_fewestStuck_42 rfl ?_
        refine Go_callS_I (av := (fun ad => [.int v2])) (st := []) (C := C) (hM := c_J6_bitCount_0f7a4 (Gl G) hR hw) (hlk := wm_40_15) (hini := wm_40_17) (hst2 := wm_40_16) (hcode := wm_40_18) (n := 1) (hd := by decide +kernel) (hr0 := ⟨rfl, rfl⟩) (hroom := ⟨by first | decide | (dsimp only; omega), by first | decide | (dsimp only; omega)⟩) (hlen := rfl) (hst := rfl) (hW := Nat.le_of_ble_eq_true rfl) (hdg := dX3_fewestStuck_43) (q := 46) (hq := rfl) (fun r43_3 S43_2 hw hR => ?_)
        refine Go_iload_n (q := 47) C 1 rfl dX3_fewestStuck_46 rfl ?_
        refine Go_icmp_ne (t := 75) (q := 50) C hw dX3_fewestStuck_47 rfl rfl (fun hw => ?_) (fun hw => ?_)
        · refine Go_aload_n (q := 51) C 0 rfl dX3_fewestStuck_50 rfl ?_
          refine Go_iload_n (q := 52) C 2 rfl dX3_fewestStuck_51 rfl ?_
          refine Go_callV_V (av := (fun ad => [.int v2])) (st := []) (C := C) (hM := c_X3_choose (Gl G) hR hw) (hlk := wm_39_15) (hini := wm_2_12) (hins := wm_39_16) (hsel := wm_39_17) (hcode := wm_39_18) (ho := kE_43) (hci := rfl) (hc13 := by decide) (n := 1) (hd := by decide +kernel) (hr0 := ⟨rfl, rfl⟩) (hroom := ⟨by first | decide | (dsimp only; omega), by first | decide | (dsimp only; omega)⟩) (hlen := rfl) (hst := rfl) (hW := Nat.le_of_ble_eq_true rfl) (hdg := dX3_fewestStuck_52) (q := 55) (hq := rfl) (fun S52_4 hw hR => ?_)
          refine Go_aload_n (q := 56) C 0 rfl dX3_fewestStuck_55 rfl ?_
          refine Go_aload_n (q := 57) C 0 rfl dX3_fewestStuck_56 rfl ?_
          refine Go_iconst (q := 58) (v := (0 : Int32)) C dX3_fewestStuck_57 rfl rfl ?_
          refine Go_iconst (q := 59) (v := (1 : Int32)) C dX3_fewestStuck_58 rfl rfl ?_
          obtain ⟨d59_7, hle_d59_7, hw⟩ := hw
          refine Go_callV_L (av := (fun ad => [.int (0 : Int32), .int (1 : Int32)])) (st := [.ref (Gad G (43))]) (C := C) (hM := c_X3_ways (Gl G) d59_7 hR hw) (hlk := wm_40_11) (hini := wm_2_12) (hins := wm_40_12) (hsel := wm_40_13) (hcode := wm_40_14) (ho := kE_43) (hci := rfl) (hc13 := by decide) (n := 2) (hd := by decide +kernel) (hr0 := ⟨rfl, rfl⟩) (hroom := ⟨by first | decide | (dsimp only; omega), by first | decide | (dsimp only; omega)⟩) (hlen := rfl) (hst := rfl) (hW := Nat.le_of_ble_eq_true rfl) (hdg := dX3_fewestStuck_59) (q := 62) (hq := rfl) (fun r59_6 S59_5 hw hR => ?_)
          refine Go_lconst (q := 63) (v := (0 : Int64)) C dX3_fewestStuck_62 rfl rfl ?_
          refine Go_lcmp_le (t := 71) (q := 64) (q2 := 67) C hw dX3_fewestStuck_63 rfl dX3_fewestStuck_64 rfl rfl (fun hw => ?_) (fun hw => ?_)
          · refine Go_iconst (q := 68) (v := (0 : Int32)) C dX3_fewestStuck_67 rfl rfl ?_
            refine Go_goto (q := 72) C dX3_fewestStuck_68 rfl ?_
            refine Go_lvp [0, 1, 2] rfl ?_
            exact g_X3_fewestStuck_72 C hQ _ _ _ hk22 hR hw
          · refine Go_iload_n (q := 72) C 2 rfl dX3_fewestStuck_71 rfl ?_
            refine Go_lvp [0, 1, 2] rfl ?_
            exact g_X3_fewestStuck_72 C hQ _ _ _ hk22 hR hw
        · refine Go_iinc2 (q := 78) (kp := 2) (cst := (1 : Int32)) C dX3_fewestStuck_75 rfl rfl (by decide) rfl (fun x75_10 e_x75_10 => ?_)
          have hw := hw x75_10 e_x75_10
          refine Go_lve (lv' := [(2, .int x75_10), (0, .ref (Gad G (43))), (1, .int v1)]) rfl ?_
          refine Go_goto (q := 22) C dX3_fewestStuck_78 rfl ?_
          refine Go_lvp [1, 2, 0] rfl ?_
          exact hk22 _ _ hR hw
      · refine Go_iinc2 (q := 84) (kp := 1) (cst := (1 : Int32)) C dX3_fewestStuck_81 rfl rfl (by decide) rfl (fun x81_11 e_x81_11 => ?_)
        have hw := hw x81_11 e_x81_11
        refine Go_lve (lv' := [(1, .int x81_11), (0, .ref (Gad G (43))), (2, .int v2)]) rfl ?_
        refine Go_goto (q := 2) C dX3_fewestStuck_84 rfl ?_
        refine Go_lvp [1, 0] rfl ?_
        exact hk2 _ _ hR hw
set_option maxRecDepth 100000 in
set_option maxHeartbeats 4000000 in
theorem g_X3_fewestStuck_2 {G : GC} (C : Cx G cX3_fewestStuck BIG RX3 3 (some .int) rm_X3_fewestStuck shE NE) {Q : Int32 → St → Prop} (hQ : QI G RCE Q) (v1 : Int32) {S : St} (hR : RCE S) (hw : w_X3_fewestStuck_2 Q v1 S) : Go G 3 2 [] [(0, .ref (Gad G (43))), (1, .int v1)] S := by
  obtain ⟨n, hw⟩ := hw
  induction n generalizing v1 S with
  | zero => exact hw.elim
  | succ n ih =>
    have hw : b_X3_fewestStuck_2 Q (lpn (fun _ _ => False) (b_X3_fewestStuck_2 Q) n) v1 S := hw
    generalize lpn (fun _ _ => False) (b_X3_fewestStuck_2 Q) n = kf at hw ih
    have hk2 := fun (v1 : Int32) (S : St) (hR : RCE S) hw => ih v1 hR hw
    unfold b_X3_fewestStuck_2 at hw
    refine Go_iload_n (q := 3) C 1 rfl dX3_fewestStuck_2 rfl ?_
    refine Go_aload_n (q := 4) C 0 rfl dX3_fewestStuck_3 rfl ?_
    refine Go_getA (q := 7) (k := 0) C ci3 iw_3 kE_43 (rE_43_0 hR) rfl wm_8_13 rfl dX3_fewestStuck_4 rfl ?_
    refine Go_getIN (q := 10) (k := 0) (host := "EndsRound") C ci4 iw_4 kE_21 rfl nw_8 rfl dX3_fewestStuck_7 rfl ?_
    refine Go_icmp_gt (t := 87) (q := 13) C hw dX3_fewestStuck_10 rfl rfl (fun hw => ?_) (fun hw => ?_)
    · refine Go_aload_n (q := 88) C 0 rfl dX3_fewestStuck_87 rfl ?_
      refine Go_getI (q := 91) (k := 14) C ci3 iw_3 kE_43 rfl wm_24_4 rfl dX3_fewestStuck_88 rfl ?_
      exact Go_iret C hQ hR hw dX3_fewestStuck_91
    · refine Go_aload_n (q := 14) C 0 rfl dX3_fewestStuck_13 rfl ?_
      refine Go_getI (q := 17) (k := 14) C ci3 iw_3 kE_43 rfl wm_24_4 rfl dX3_fewestStuck_14 rfl ?_
      refine Go_if_ne (t := 87) (q := 20) C hw dX3_fewestStuck_17 rfl rfl (fun hw => ?_) (fun hw => ?_)
      · refine Go_iconst (q := 21) (v := (1 : Int32)) C dX3_fewestStuck_20 rfl rfl ?_
        refine Go_istore_n (q := 22) (lv' := [(2, .int (1 : Int32)), (0, .ref (Gad G (43))), (1, .int v1)]) C rfl dX3_fewestStuck_21 (by decide) rfl rfl ?_
        refine Go_lvp [1, 2, 0] rfl ?_
        exact g_X3_fewestStuck_22 C hQ _ hk2 _ hR hw
      · refine Go_aload_n (q := 88) C 0 rfl dX3_fewestStuck_87 rfl ?_
        refine Go_getI (q := 91) (k := 14) C ci3 iw_3 kE_43 rfl wm_24_4 rfl dX3_fewestStuck_88 rfl ?_
        exact Go_iret C hQ hR hw dX3_fewestStuck_91
set_option maxRecDepth 100000 in
set_option maxHeartbeats 4000000 in
theorem c_X3_fewestStuck (l : Launch) {S : St} {Q : Int32 → St → Prop} (hR : RCE S) (hw : w_X3_fewestStuck S Q) : MetI l yX3_fewestStuck (wB yX3_fewestStuck cX3_fewestStuck 3 (some .int)) rm_X3_fewestStuck shE NE RCE (fun ad => [.ref (ad (43))]) S Q := by
  refine MetI_of (cc := cX3_fewestStuck) (maxL := 3) (ret := (some .int)) (plainFor_of_name (by decide)) (fun _ => Nat.le_of_ble_eq_true rfl) (fun G C hl hQ => ?_)
  subst hl
  have C : Cx G cX3_fewestStuck BIG RX3 3 (some .int) rm_X3_fewestStuck shE NE := C
  show Go G 3 0 [] [(0, .ref (Gad G (43)))] S
  unfold w_X3_fewestStuck at hw
  refine Go_iconst (q := 1) (v := (1 : Int32)) C dX3_fewestStuck_0 rfl rfl ?_
  refine Go_istore_n (q := 2) (lv' := [(1, .int (1 : Int32)), (0, .ref (Gad G (43)))]) C rfl dX3_fewestStuck_1 (by decide) rfl rfl ?_
  refine Go_lvp [1, 0] rfl ?_
  exact g_X3_fewestStuck_2 C hQ _ hR hw
-- X11_stuck
abbrev rm_X11_stuck : Room := { frames := 514, cells := 0, slots := 0, locals := 22448 }
set_option maxRecDepth 100000 in
set_option maxHeartbeats 4000000 in
theorem c_X11_stuck (l : Launch) {p0 : Int32} {S : St} {Q : Int32 → St → Prop} (hR : RCE S) (hw : w_X11_stuck p0 S Q) : MetI l yX11_stuck (wB yX11_stuck cX11_stuck 3 (some .int)) rm_X11_stuck shE NE RCE (fun ad => [.ref (ad (0)), .int p0]) S Q := by
  refine MetI_of (cc := cX11_stuck) (maxL := 3) (ret := (some .int)) (plainFor_of_name (by decide)) (fun _ => Nat.le_of_ble_eq_true rfl) (fun G C hl hQ => ?_)
  subst hl
  have C : Cx G cX11_stuck BIG RX11 3 (some .int) rm_X11_stuck shE NE := C
  show Go G 3 0 [] [(0, .ref (Gad G (0))), (1, .int p0)] S
  unfold w_X11_stuck at hw
  refine Go_iload_n (q := 1) C 1 rfl dX11_stuck_0 rfl ?_
  refine Go_if_lt (t := 31) (q := 4) C hw dX11_stuck_1 rfl rfl (fun hw => ?_) (fun hw => ?_)
  · refine Go_iconst (q := 32) (v := (-1 : Int32)) C dX11_stuck_31 rfl rfl ?_
    exact Go_iret C hQ hR hw dX11_stuck_32
  · refine Go_iload_n (q := 5) C 1 rfl dX11_stuck_4 rfl ?_
    refine Go_iconst (q := 6) (v := (1 : Int32)) C dX11_stuck_5 rfl rfl ?_
    refine Go_icmp_gt (t := 31) (q := 9) C hw dX11_stuck_6 rfl rfl (fun hw => ?_) (fun hw => ?_)
    · refine Go_iconst (q := 32) (v := (-1 : Int32)) C dX11_stuck_31 rfl rfl ?_
      exact Go_iret C hQ hR hw dX11_stuck_32
    · refine Go_aload_n (q := 10) C 0 rfl dX11_stuck_9 rfl ?_
      refine Go_getA (q := 13) (k := 2) C ci11 iw_11 kE_0 (rE_0_2 hR) rfl wm_2_1 rfl dX11_stuck_10 rfl ?_
      refine Go_getIN (q := 16) (k := 0) (host := "EndsRound") C ci4 iw_4 kE_21 rfl nw_11 rfl dX11_stuck_13 rfl ?_
      refine Go_bipush (q := 18) (v := (7 : Int32)) C dX11_stuck_16 rfl rfl ?_
      refine Go_icmp_gt (t := 31) (q := 21) C hw dX11_stuck_18 rfl rfl (fun hw => ?_) (fun hw => ?_)
      · refine Go_iconst (q := 32) (v := (-1 : Int32)) C dX11_stuck_31 rfl rfl ?_
        exact Go_iret C hQ hR hw dX11_stuck_32
      · refine Go_aload_n (q := 22) C 0 rfl dX11_stuck_21 rfl ?_
        refine Go_getA (q := 25) (k := 5) C ci11 iw_11 kE_0 (rE_0_5 hR) rfl wm_2_13 rfl dX11_stuck_22 rfl ?_
        refine Go_callV_I (av := (fun ad => [])) (st := []) (C := C) (hM := c_X3_canAll (Gl G)  hR hw) (hlk := wm_42_8) (hini := wm_2_12) (hins := wm_42_9) (hsel := wm_42_10) (hcode := wm_42_11) (ho := kE_43) (hci := rfl) (hc13 := by decide) (n := 0) (hd := by decide +kernel) (hr0 := ⟨rfl, rfl⟩) (hroom := ⟨by first | decide | (dsimp only; omega), by first | decide | (dsimp only; omega)⟩) (hlen := rfl) (hst := rfl) (hW := Nat.le_of_ble_eq_true rfl) (hdg := dX11_stuck_25) (q := 28) (hq := rfl) (fun r25_2 S25_1 hw hR => ?_)
        refine Go_if_eq (t := 33) (q := 31) C hw dX11_stuck_28 rfl rfl (fun hw => ?_) (fun hw => ?_)
        · refine Go_aload_n (q := 34) C 0 rfl dX11_stuck_33 rfl ?_
          refine Go_getA (q := 37) (k := 5) C ci11 iw_11 kE_0 (rE_0_5 hR) rfl wm_2_13 rfl dX11_stuck_34 rfl ?_
          refine Go_callV_I (av := (fun ad => [])) (st := []) (C := C) (hM := c_X3_fewestStuck (Gl G)  hR hw) (hlk := wm_42_21) (hini := wm_2_12) (hins := wm_42_22) (hsel := wm_42_23) (hcode := wm_43_0) (ho := kE_43) (hci := rfl) (hc13 := by decide) (n := 0) (hd := by decide +kernel) (hr0 := ⟨rfl, rfl⟩) (hroom := ⟨by first | decide | (dsimp only; omega), by first | decide | (dsimp only; omega)⟩) (hlen := rfl) (hst := rfl) (hW := Nat.le_of_ble_eq_true rfl) (hdg := dX11_stuck_37) (q := 40) (hq := rfl) (fun r37_4 S37_3 hw hR => ?_)
          refine Go_istore_n (q := 41) (lv' := [(2, .int r37_4), (0, .ref (Gad G (0))), (1, .int p0)]) C rfl dX11_stuck_40 (by decide) rfl rfl ?_
          refine Go_iload_n (q := 42) C 2 rfl dX11_stuck_41 rfl ?_
          refine Go_if_ne (t := 52) (q := 45) C hw dX11_stuck_42 rfl rfl (fun hw => ?_) (fun hw => ?_)
          · refine Go_iload_n (q := 46) C 0 rfl dX11_stuck_45 rfl ?_
            refine Go_callS_I (av := (fun ad => [.int r37_4])) (st := []) (C := C) (hM := c_J6_bitCount_0f7a4 (Gl G)  hR hw) (hlk := wm_43_1) (hini := wm_40_17) (hst2 := wm_40_16) (hcode := wm_40_18) (n := 1) (hd := by decide +kernel) (hr0 := ⟨rfl, rfl⟩) (hroom := ⟨by first | decide | (dsimp only; omega), by first | decide | (dsimp only; omega)⟩) (hlen := rfl) (hst := rfl) (hW := Nat.le_of_ble_eq_true rfl) (hdg := dX11_stuck_46) (q := 49) (hq := rfl) (fun r46_6 S46_5 hw hR => ?_)
            refine Go_goto (q := 53) C dX11_stuck_49 rfl ?_
            exact Go_iret C hQ hR hw dX11_stuck_53
          · refine Go_iload_n (q := 53) C 0 rfl dX11_stuck_52 rfl ?_
            exact Go_iret C hQ hR hw dX11_stuck_53
        · refine Go_iconst (q := 32) (v := (-1 : Int32)) C dX11_stuck_31 rfl rfl ?_
          exact Go_iret C hQ hR hw dX11_stuck_32
-- X2_add
abbrev rm_X2_add : Room := { frames := 1, cells := 0, slots := 0, locals := 22 }
set_option maxRecDepth 100000 in
set_option maxHeartbeats 4000000 in
theorem c_X2_add (l : Launch) {o : Nat} (ho : isE2 o) {p0 : Int32} {p1 : Int32} {p2 : Int32} {S : St} {Q : St → Prop} (hR : RCE S) (hw : w_X2_add o p0 p1 p2 S Q) : MetV l yX2_add (wB yX2_add cX2_add 4 none) rm_X2_add shE NE RCE (fun ad => [.ref (ad (o)), .int p0, .int p1, .int p2]) S Q := by
  refine MetV_of (cc := cX2_add) (maxL := 4) (ret := none) (plainFor_of_name (by decide)) (fun _ => Nat.le_of_ble_eq_true rfl) (fun G C hl hQ => ?_)
  subst hl
  have C : Cx G cX2_add BIG RX2 4 none rm_X2_add shE NE := C
  show Go G 4 0 [] [(0, .ref (Gad G (o))), (1, .int p0), (2, .int p1), (3, .int p2)] S
  unfold w_X2_add at hw
  refine Go_aload_n (q := 1) C 0 rfl dX2_add_0 rfl ?_
  refine Go_getA (q := 4) (k := 0) C ci2 iw_2 (oE2 ho) (rE2_0 hR ho) rfl wm_7_8 rfl dX2_add_1 rfl ?_
  refine Go_aload_n (q := 5) C 0 rfl dX2_add_4 rfl ?_
  refine Go_getI (q := 8) (k := 3) C ci2 iw_2 (oE2 ho) rfl wm_43_17 rfl dX2_add_5 rfl ?_
  refine Go_iload_n (q := 9) C 1 rfl dX2_add_8 rfl ?_
  refine Go_callSN_V (av := (fun ad => [.ref (ad ((o + 1))), .int (gI S o 3), .int p0])) (st := []) (C := C) (hM := c_X11_put (Gl G) (ok_ln (oE2_0 ho)) hR hw) (host := "EndsRound") (hnw := nw_93) (hini := wm_1_2) (hst2 := wm_10_11) (hcode := wm_10_12) (n := 3) (hd := by decide +kernel) (hr0 := ⟨rfl, rfl⟩) (hroom := ⟨by first | decide | (dsimp only; omega), by first | decide | (dsimp only; omega)⟩) (hlen := rfl) (hst := rfl) (hW := Nat.le_of_ble_eq_true rfl) (hdg := dX2_add_9) (q := 12) (hq := rfl) (fun S9_1 hw hR => ?_)
  refine Go_aload_n (q := 13) C 0 rfl dX2_add_12 rfl ?_
  refine Go_getA (q := 16) (k := 1) C ci2 iw_2 (oE2 ho) (rE2_1 hR ho) rfl wm_7_9 rfl dX2_add_13 rfl ?_
  refine Go_aload_n (q := 17) C 0 rfl dX2_add_16 rfl ?_
  refine Go_getI (q := 20) (k := 3) C ci2 iw_2 (oE2 ho) rfl wm_43_17 rfl dX2_add_17 rfl ?_
  refine Go_iload_n (q := 21) C 2 rfl dX2_add_20 rfl ?_
  refine Go_callSN_V (av := (fun ad => [.ref (ad ((o + 2))), .int (gI S9_1 o 3), .int p1])) (st := []) (C := C) (hM := c_X11_put (Gl G) (ok_ln (oE2_1 ho)) hR hw) (host := "EndsRound") (hnw := nw_93) (hini := wm_1_2) (hst2 := wm_10_11) (hcode := wm_10_12) (n := 3) (hd := by decide +kernel) (hr0 := ⟨rfl, rfl⟩) (hroom := ⟨by first | decide | (dsimp only; omega), by first | decide | (dsimp only; omega)⟩) (hlen := rfl) (hst := rfl) (hW := Nat.le_of_ble_eq_true rfl) (hdg := dX2_add_21) (q := 24) (hq := rfl) (fun S21_2 hw hR => ?_)
  refine Go_aload_n (q := 25) C 0 rfl dX2_add_24 rfl ?_
  refine Go_getA (q := 28) (k := 2) C ci2 iw_2 (oE2 ho) (rE2_2 hR ho) rfl wm_7_10 rfl dX2_add_25 rfl ?_
  refine Go_aload_n (q := 29) C 0 rfl dX2_add_28 rfl ?_
  refine Go_getI (q := 32) (k := 3) C ci2 iw_2 (oE2 ho) rfl wm_43_17 rfl dX2_add_29 rfl ?_
  refine Go_iload_n (q := 33) C 3 rfl dX2_add_32 rfl ?_
  refine Go_callSN_V (av := (fun ad => [.ref (ad ((o + 3))), .int (gI S21_2 o 3), .int p2])) (st := []) (C := C) (hM := c_X11_put (Gl G) (ok_ln (oE2_2 ho)) hR hw) (host := "EndsRound") (hnw := nw_93) (hini := wm_1_2) (hst2 := wm_10_11) (hcode := wm_10_12) (n := 3) (hd := by decide +kernel) (hr0 := ⟨rfl, rfl⟩) (hroom := ⟨by first | decide | (dsimp only; omega), by first | decide | (dsimp only; omega)⟩) (hlen := rfl) (hst := rfl) (hW := Nat.le_of_ble_eq_true rfl) (hdg := dX2_add_33) (q := 36) (hq := rfl) (fun S33_3 hw hR => ?_)
  refine Go_aload_n (q := 37) C 0 rfl dX2_add_36 rfl ?_
  refine Go_dup (q := 38) C rfl dX2_add_37 rfl ?_
  refine Go_getI (q := 41) (k := 3) C ci2 iw_2 (oE2 ho) rfl wm_43_17 rfl dX2_add_38 rfl ?_
  refine Go_iconst (q := 42) (v := (1 : Int32)) C dX2_add_41 rfl rfl ?_
  refine Go_iadd (q := 43) C dX2_add_42 rfl ?_
  refine Go_putI (q := 46) (k := 3) C ci2 iw_2 (oE2 ho) rfl wm_43_17 rfl rfl (ci2.2.2.2.1 3 (by decide)) rfl rfl dX2_add_43 rfl ?_
  refine Go_S (fun S43_4 e_S43_4 => ?_)
  have hw := hw S43_4 e_S43_4
  have hR := rcE e_S43_4 hR
  exact Go_vret C hQ hR hw dX2_add_46
-- X11_line
abbrev rm_X11_line : Room := { frames := 2, cells := 0, slots := 0, locals := 45 }
set_option maxRecDepth 100000 in
set_option maxHeartbeats 4000000 in
theorem c_X11_line (l : Launch) {p0 : Int32} {p1 : Int32} {p2 : Int32} {S : St} {Q : Int32 → St → Prop} (hR : RCE S) (hw : w_X11_line p0 p1 p2 S Q) : MetI l yX11_line (wB yX11_line cX11_line 4 (some .int)) rm_X11_line shE NE RCE (fun ad => [.ref (ad (0)), .int p0, .int p1, .int p2]) S Q := by
  refine MetI_of (cc := cX11_line) (maxL := 4) (ret := (some .int)) (plainFor_of_name (by decide)) (fun _ => Nat.le_of_ble_eq_true rfl) (fun G C hl hQ => ?_)
  subst hl
  have C : Cx G cX11_line BIG RX11 4 (some .int) rm_X11_line shE NE := C
  show Go G 4 0 [] [(0, .ref (Gad G (0))), (1, .int p0), (2, .int p1), (3, .int p2)] S
  unfold w_X11_line at hw
  refine Go_aload_n (q := 1) C 0 rfl dX11_line_0 rfl ?_
  refine Go_iload_n (q := 2) C 1 rfl dX11_line_1 rfl ?_
  refine Go_callV_I (av := (fun ad => [.int p0])) (st := []) (C := C) (hM := c_X11_isWord (Gl G)  hR hw) (hlk := wm_38_5) (hini := wm_1_2) (hins := wm_38_6) (hsel := wm_38_7) (hcode := wm_38_8) (ho := kE_0) (hci := rfl) (hc13 := by decide) (n := 1) (hd := by decide +kernel) (hr0 := ⟨rfl, rfl⟩) (hroom := ⟨by first | decide | (dsimp only; omega), by first | decide | (dsimp only; omega)⟩) (hlen := rfl) (hst := rfl) (hW := Nat.le_of_ble_eq_true rfl) (hdg := dX11_line_2) (q := 5) (hq := rfl) (fun r2_2 S2_1 hw hR => ?_)
  refine Go_if_eq (t := 41) (q := 8) C hw dX11_line_5 rfl rfl (fun hw => ?_) (fun hw => ?_)
  · refine Go_iconst (q := 42) (v := (-1 : Int32)) C dX11_line_41 rfl rfl ?_
    exact Go_iret C hQ hR hw dX11_line_42
  · refine Go_iload_n (q := 9) C 2 rfl dX11_line_8 rfl ?_
    refine Go_if_lt (t := 41) (q := 12) C hw dX11_line_9 rfl rfl (fun hw => ?_) (fun hw => ?_)
    · refine Go_iconst (q := 42) (v := (-1 : Int32)) C dX11_line_41 rfl rfl ?_
      exact Go_iret C hQ hR hw dX11_line_42
    · refine Go_iload_n (q := 13) C 2 rfl dX11_line_12 rfl ?_
      refine Go_sipush (q := 16) (v := (999 : Int32)) C dX11_line_13 rfl rfl ?_
      refine Go_icmp_gt (t := 41) (q := 19) C hw dX11_line_16 rfl rfl (fun hw => ?_) (fun hw => ?_)
      · refine Go_iconst (q := 42) (v := (-1 : Int32)) C dX11_line_41 rfl rfl ?_
        exact Go_iret C hQ hR hw dX11_line_42
      · refine Go_iload_n (q := 20) C 3 rfl dX11_line_19 rfl ?_
        refine Go_if_lt (t := 41) (q := 23) C hw dX11_line_20 rfl rfl (fun hw => ?_) (fun hw => ?_)
        · refine Go_iconst (q := 42) (v := (-1 : Int32)) C dX11_line_41 rfl rfl ?_
          exact Go_iret C hQ hR hw dX11_line_42
        · refine Go_iload_n (q := 24) C 3 rfl dX11_line_23 rfl ?_
          refine Go_bipush (q := 26) (v := (99 : Int32)) C dX11_line_24 rfl rfl ?_
          refine Go_icmp_gt (t := 41) (q := 29) C hw dX11_line_26 rfl rfl (fun hw => ?_) (fun hw => ?_)
          · refine Go_iconst (q := 42) (v := (-1 : Int32)) C dX11_line_41 rfl rfl ?_
            exact Go_iret C hQ hR hw dX11_line_42
          · refine Go_aload_n (q := 30) C 0 rfl dX11_line_29 rfl ?_
            refine Go_getA (q := 33) (k := 3) C ci11 iw_11 kE_0 (rE_0_3 hR) rfl wm_2_5 rfl dX11_line_30 rfl ?_
            refine Go_getIN (q := 36) (k := 3) (host := "EndsRound") C ci2 iw_2 kE_30 rfl nw_46 rfl dX11_line_33 rfl ?_
            refine Go_bipush (q := 38) (v := (60 : Int32)) C dX11_line_36 rfl rfl ?_
            refine Go_icmp_lt (t := 43) (q := 41) C hw dX11_line_38 rfl rfl (fun hw => ?_) (fun hw => ?_)
            · refine Go_aload_n (q := 44) C 0 rfl dX11_line_43 rfl ?_
              refine Go_getA (q := 47) (k := 3) C ci11 iw_11 kE_0 (rE_0_3 hR) rfl wm_2_5 rfl dX11_line_44 rfl ?_
              refine Go_iload_n (q := 48) C 1 rfl dX11_line_47 rfl ?_
              refine Go_iload_n (q := 49) C 2 rfl dX11_line_48 rfl ?_
              refine Go_iload_n (q := 50) C 3 rfl dX11_line_49 rfl ?_
              refine Go_callV_V (av := (fun ad => [.int p0, .int p1, .int p2])) (st := []) (C := C) (hM := c_X2_add (Gl G) isE2_30 hR hw) (hlk := wm_43_13) (hini := wm_2_4) (hins := wm_43_14) (hsel := wm_43_15) (hcode := wm_43_16) (ho := kE_30) (hci := rfl) (hc13 := by decide) (n := 3) (hd := by decide +kernel) (hr0 := ⟨rfl, rfl⟩) (hroom := ⟨by first | decide | (dsimp only; omega), by first | decide | (dsimp only; omega)⟩) (hlen := rfl) (hst := rfl) (hW := Nat.le_of_ble_eq_true rfl) (hdg := dX11_line_50) (q := 53) (hq := rfl) (fun S50_3 hw hR => ?_)
              refine Go_aload_n (q := 54) C 0 rfl dX11_line_53 rfl ?_
              refine Go_getA (q := 57) (k := 6) C ci11 iw_11 kE_0 (rE_0_6 hR) rfl wm_2_17 rfl dX11_line_54 rfl ?_
              refine Go_callV_V (av := (fun ad => [])) (st := []) (C := C) (hM := c_X6_forget (Gl G)  hR hw) (hlk := wm_24_5) (hini := wm_2_16) (hins := wm_24_6) (hsel := wm_24_7) (hcode := wm_24_8) (ho := kE_50) (hci := rfl) (hc13 := by decide) (n := 0) (hd := by decide +kernel) (hr0 := ⟨rfl, rfl⟩) (hroom := ⟨by first | decide | (dsimp only; omega), by first | decide | (dsimp only; omega)⟩) (hlen := rfl) (hst := rfl) (hW := Nat.le_of_ble_eq_true rfl) (hdg := dX11_line_57) (q := 60) (hq := rfl) (fun S57_4 hw hR => ?_)
              refine Go_aload_n (q := 61) C 0 rfl dX11_line_60 rfl ?_
              refine Go_getA (q := 64) (k := 3) C ci11 iw_11 kE_0 (rE_0_3 hR) rfl wm_2_5 rfl dX11_line_61 rfl ?_
              refine Go_getIN (q := 67) (k := 3) (host := "EndsRound") C ci2 iw_2 kE_30 rfl nw_46 rfl dX11_line_64 rfl ?_
              exact Go_iret C hQ hR hw dX11_line_67
            · refine Go_iconst (q := 42) (v := (-1 : Int32)) C dX11_line_41 rfl rfl ?_
              exact Go_iret C hQ hR hw dX11_line_42
-- X11_clear
abbrev rm_X11_clear : Room := { frames := 1, cells := 0, slots := 0, locals := 20 }
set_option maxRecDepth 100000 in
set_option maxHeartbeats 4000000 in
theorem c_X11_clear (l : Launch) {S : St} {Q : Int32 → St → Prop} (hR : RCE S) (hw : w_X11_clear S Q) : MetI l yX11_clear (wB yX11_clear cX11_clear 1 (some .boolean)) rm_X11_clear shE NE RCE (fun ad => [.ref (ad (0))]) S Q := by
  refine MetI_of (cc := cX11_clear) (maxL := 1) (ret := (some .boolean)) (plainFor_of_name (by decide)) (fun _ => Nat.le_of_ble_eq_true rfl) (fun G C hl hQ => ?_)
  subst hl
  have C : Cx G cX11_clear BIG RX11 1 (some .boolean) rm_X11_clear shE NE := C
  show Go G 1 0 [] [(0, .ref (Gad G (0)))] S
  unfold w_X11_clear at hw
  refine Go_aload_n (q := 1) C 0 rfl dX11_clear_0 rfl ?_
  refine Go_getA (q := 4) (k := 3) C ci11 iw_11 kE_0 (rE_0_3 hR) rfl wm_2_5 rfl dX11_clear_1 rfl ?_
  refine Go_iconst (q := 5) (v := (0 : Int32)) C dX11_clear_4 rfl rfl ?_
  refine Go_putIN (q := 8) (k := 3) (host := "EndsRound") C ci2 iw_2 kE_30 rfl nw_46 rfl rfl (ci2.2.2.2.1 3 (by decide)) rfl rfl dX11_clear_5 rfl ?_
  refine Go_S (fun S5_1 e_S5_1 => ?_)
  have hw := hw S5_1 e_S5_1
  have hR := rcE e_S5_1 hR
  refine Go_aload_n (q := 9) C 0 rfl dX11_clear_8 rfl ?_
  refine Go_getA (q := 12) (k := 6) C ci11 iw_11 kE_0 (rE_0_6 hR) rfl wm_2_17 rfl dX11_clear_9 rfl ?_
  refine Go_callV_V (av := (fun ad => [])) (st := []) (C := C) (hM := c_X6_forget (Gl G)  hR hw) (hlk := wm_24_5) (hini := wm_2_16) (hins := wm_24_6) (hsel := wm_24_7) (hcode := wm_24_8) (ho := kE_50) (hci := rfl) (hc13 := by decide) (n := 0) (hd := by decide +kernel) (hr0 := ⟨rfl, rfl⟩) (hroom := ⟨by first | decide | (dsimp only; omega), by first | decide | (dsimp only; omega)⟩) (hlen := rfl) (hst := rfl) (hW := Nat.le_of_ble_eq_true rfl) (hdg := dX11_clear_12) (q := 15) (hq := rfl) (fun S12_2 hw hR => ?_)
  refine Go_iconst (q := 16) (v := (1 : Int32)) C dX11_clear_15 rfl rfl ?_
  exact Go_zret C hQ hR rfl hw dX11_clear_16
-- X6_countChanges
abbrev rm_X6_countChanges : Room := { frames := 3, cells := 0, slots := 0, locals := 74 }
set_option maxRecDepth 100000 in
set_option maxHeartbeats 4000000 in
theorem g_X6_countChanges_114 {G : GC} (C : Cx G cX6_countChanges BIG RX6 5 none rm_X6_countChanges shE NE) {Q : St → Prop} (hQ : QV G RCE Q) (v1 : Int32) (v2 : Int32) (v3 : Int32) (t0 : Int32) (t1 : Int32) (t2 : Int32) {k60 : Int32 → St → Prop} (hk60 : ∀ (v3 : Int32) (S : St), RCE S → k60 v3 S → Go G 5 60 [] [(0, .ref (Gad G (50))), (1, .int v1), (2, .int v2), (3, .int v3)] S) {S : St} (hR : RCE S) (hw : w_X6_countChanges_114 k60 v1 v2 v3 t0 t1 t2 S) : Go G 5 114 [.int t0, .int t1, .int t2, .ref (Gad G (52))] [(0, .ref (Gad G (50))), (1, .int v1), (2, .int v2), (3, .int v3)] S := by
  unfold w_X6_countChanges_114 at hw
  refine Go_iadd (q := 115) C dX6_countChanges_114 rfl ?_
  refine Go_callSN_V (av := (fun ad => [.ref (ad (52)), .int t2, .int (t1 + t0)])) (st := []) (C := C) (hM := c_X11_put (Gl G) (ok_ln kE_52) hR hw) (host := "EndsRound") (hnw := nw_96) (hini := wm_1_2) (hst2 := wm_10_11) (hcode := wm_10_12) (n := 3) (hd := by decide +kernel) (hr0 := ⟨rfl, rfl⟩) (hroom := ⟨by first | decide | (dsimp only; omega), by first | decide | (dsimp only; omega)⟩) (hlen := rfl) (hst := rfl) (hW := Nat.le_of_ble_eq_true rfl) (hdg := dX6_countChanges_115) (q := 118) (hq := rfl) (fun S115_10 hw hR => ?_)
  refine Go_iinc2 (q := 121) (kp := 3) (cst := (1 : Int32)) C dX6_countChanges_118 rfl rfl (by decide) rfl (fun x118_11 e_x118_11 => ?_)
  have hw := hw x118_11 e_x118_11
  refine Go_lve (lv' := [(3, .int x118_11), (0, .ref (Gad G (50))), (1, .int v1), (2, .int v2)]) rfl ?_
  refine Go_goto (q := 60) C dX6_countChanges_121 rfl ?_
  refine Go_lvp [1, 2, 3, 0] rfl ?_
  exact hk60 _ _ hR hw
set_option maxRecDepth 100000 in
set_option maxHeartbeats 4000000 in
theorem g_X6_countChanges_60 {G : GC} (C : Cx G cX6_countChanges BIG RX6 5 none rm_X6_countChanges shE NE) {Q : St → Prop} (hQ : QV G RCE Q) (v1 : Int32) (v2 : Int32) {k10 : Int32 → St → Prop} (hk10 : ∀ (v1 : Int32) (S : St), RCE S → k10 v1 S → Go G 5 10 [] [(0, .ref (Gad G (50))), (1, .int v1)] S) (v3 : Int32) {S : St} (hR : RCE S) (hw : w_X6_countChanges_60 k10 v1 v2 v3 S) : Go G 5 60 [] [(0, .ref (Gad G (50))), (1, .int v1), (2, .int v2), (3, .int v3)] S := by
  obtain ⟨n, hw⟩ := hw
  induction n generalizing v3 S with
  | zero => exact hw.elim
  | succ n ih =>
    have hw : b_X6_countChanges_60 k10 v1 v2 (lpn (fun _ _ => False) (b_X6_countChanges_60 k10 v1 v2) n) v3 S := hw
    generalize lpn (fun _ _ => False) (b_X6_countChanges_60 k10 v1 v2) n = kf at hw ih
    have hk60 := fun (v3 : Int32) (S : St) (hR : RCE S) hw => ih v3 hR hw
    unfold b_X6_countChanges_60 at hw
    refine Go_iload_n (q := 61) C 3 rfl dX6_countChanges_60 rfl ?_
    refine Go_aload_n (q := 62) C 0 rfl dX6_countChanges_61 rfl ?_
    refine Go_getA (q := 65) (k := 0) C ci6 iw_6 kE_50 (rE_50_0 hR) rfl wm_9_0 rfl dX6_countChanges_62 rfl ?_
    refine Go_getIN (q := 68) (k := 5) (host := "EndsRound") C ci4 iw_4 kE_21 rfl nw_20 rfl dX6_countChanges_65 rfl ?_
    refine Go_icmp_ge (t := 124) (q := 71) C hw dX6_countChanges_68 rfl rfl (fun hw => ?_) (fun hw => ?_)
    · refine Go_iinc2 (q := 127) (kp := 1) (cst := (1 : Int32)) C dX6_countChanges_124 rfl rfl (by decide) rfl (fun x124_4 e_x124_4 => ?_)
      have hw := hw x124_4 e_x124_4
      refine Go_lve (lv' := [(1, .int x124_4), (0, .ref (Gad G (50))), (2, .int v2), (3, .int v3)]) rfl ?_
      refine Go_goto (q := 10) C dX6_countChanges_127 rfl ?_
      refine Go_lvp [1, 0] rfl ?_
      exact hk10 _ _ hR hw
    · refine Go_iload_n (q := 72) C 2 rfl dX6_countChanges_71 rfl ?_
      refine Go_bipush (q := 74) (v := (12 : Int32)) C dX6_countChanges_72 rfl rfl ?_
      refine Go_imul (q := 75) C dX6_countChanges_74 rfl ?_
      refine Go_iload_n (q := 76) C 3 rfl dX6_countChanges_75 rfl ?_
      refine Go_iadd (q := 77) C dX6_countChanges_76 rfl ?_
      refine Go_topi (fun x77_5 e_x77_5 => ?_)
      have hw := hw x77_5 e_x77_5
      refine Go_istore (q := 79) (lv' := [(4, .int x77_5), (0, .ref (Gad G (50))), (1, .int v1), (2, .int v2), (3, .int v3)]) C dX6_countChanges_77 (by decide) rfl rfl ?_
      refine Go_aload_n (q := 80) C 1 rfl dX6_countChanges_79 rfl ?_
      refine Go_getA (q := 83) (k := 4) C ci6 iw_6 kE_50 (rE_50_4 hR) rfl wm_8_20 rfl dX6_countChanges_80 rfl ?_
      refine Go_iload (q := 85) C 0 rfl dX6_countChanges_83 rfl ?_
      refine Go_aload_n (q := 86) C 1 rfl dX6_countChanges_85 rfl ?_
      refine Go_getA (q := 89) (k := 4) C ci6 iw_6 kE_50 (rE_50_4 hR) rfl wm_8_20 rfl dX6_countChanges_86 rfl ?_
      refine Go_iload (q := 91) C 0 rfl dX6_countChanges_89 rfl ?_
      refine Go_callSN_I (av := (fun ad => [.ref (ad (52)), .int x77_5])) (st := [.int x77_5, .ref (Gad G (52))]) (C := C) (hM := c_X11_cell (Gl G) (ok_ln kE_52) hR hw) (host := "EndsRound") (hnw := nw_95) (hini := wm_1_2) (hst2 := wm_10_22) (hcode := wm_10_23) (n := 2) (hd := by decide +kernel) (hr0 := ⟨rfl, rfl⟩) (hroom := ⟨by first | decide | (dsimp only; omega), by first | decide | (dsimp only; omega)⟩) (hlen := rfl) (hst := rfl) (hW := Nat.le_of_ble_eq_true rfl) (hdg := dX6_countChanges_91) (q := 94) (hq := rfl) (fun r91_7 S91_6 hw hR => ?_)
      refine Go_aload_n (q := 95) C 1 rfl dX6_countChanges_94 rfl ?_
      refine Go_getA (q := 98) (k := 2) C ci6 iw_6 kE_50 (rE_50_2 hR) rfl wm_9_2 rfl dX6_countChanges_95 rfl ?_
      refine Go_getAN (q := 101) (k := 0) (host := "EndsRound") C ci2 iw_2 kE_30 (rE2_0 hR isE2_30) rfl nw_42 rfl dX6_countChanges_98 rfl ?_
      refine Go_iload_n (q := 102) C 2 rfl dX6_countChanges_101 rfl ?_
      refine Go_callSN_I (av := (fun ad => [.ref (ad (31)), .int v1])) (st := [.int r91_7, .int x77_5, .ref (Gad G (52))]) (C := C) (hM := c_X11_cell (Gl G) (ok_ln kE_31) hR hw) (host := "EndsRound") (hnw := nw_95) (hini := wm_1_2) (hst2 := wm_10_22) (hcode := wm_10_23) (n := 2) (hd := by decide +kernel) (hr0 := ⟨rfl, rfl⟩) (hroom := ⟨by first | decide | (dsimp only; omega), by first | decide | (dsimp only; omega)⟩) (hlen := rfl) (hst := rfl) (hW := Nat.le_of_ble_eq_true rfl) (hdg := dX6_countChanges_102) (q := 105) (hq := rfl) (fun r102_9 S102_8 hw hR => ?_)
      refine Go_iload_n (q := 106) C 4 rfl dX6_countChanges_105 rfl ?_
      refine Go_icmp_ne (t := 113) (q := 109) C hw dX6_countChanges_106 rfl rfl (fun hw => ?_) (fun hw => ?_)
      · refine Go_iconst (q := 110) (v := (0 : Int32)) C dX6_countChanges_109 rfl rfl ?_
        refine Go_goto (q := 114) C dX6_countChanges_110 rfl ?_
        refine Go_lvp [1, 2, 3, 4] rfl ?_
        exact g_X6_countChanges_114 C hQ _ _ _ _ _ _ hk60 hR hw
      · refine Go_iconst (q := 114) (v := (1 : Int32)) C dX6_countChanges_113 rfl rfl ?_
        refine Go_lvp [1, 2, 3, 4] rfl ?_
        exact g_X6_countChanges_114 C hQ _ _ _ _ _ _ hk60 hR hw
set_option maxRecDepth 100000 in
set_option maxHeartbeats 4000000 in
theorem g_X6_countChanges_10 {G : GC} (C : Cx G cX6_countChanges BIG RX6 5 none rm_X6_countChanges shE NE) {Q : St → Prop} (hQ : QV G RCE Q) (v1 : Int32) {S : St} (hR : RCE S) (hw : w_X6_countChanges_10 Q v1 S) : Go G 5 10 [] [(0, .ref (Gad G (50))), (1, .int v1)] S := by
  obtain ⟨n, hw⟩ := hw
  induction n generalizing v1 S with
  | zero => exact hw.elim
  | succ n ih =>
    have hw : b_X6_countChanges_10 Q (lpn (fun _ _ => False) (b_X6_countChanges_10 Q) n) v1 S := hw
    generalize lpn (fun _ _ => False) (b_X6_countChanges_10 Q) n = kf at hw ih
    have hk10 := fun (v1 : Int32) (S : St) (hR : RCE S) hw => ih v1 hR hw
    unfold b_X6_countChanges_10 at hw
    refine Go_iload_n (q := 11) C 1 rfl dX6_countChanges_10 rfl ?_
    refine Go_aload_n (q := 12) C 0 rfl dX6_countChanges_11 rfl ?_
    refine Go_getA (q := 15) (k := 2) C ci6 iw_6 kE_50 (rE_50_2 hR) rfl wm_9_2 rfl dX6_countChanges_12 rfl ?_
    refine Go_getIN (q := 18) (k := 3) (host := "EndsRound") C ci2 iw_2 kE_30 rfl nw_47 rfl dX6_countChanges_15 rfl ?_
    refine Go_icmp_ge (t := 130) (q := 21) C hw dX6_countChanges_18 rfl rfl (fun hw => ?_) (fun hw => ?_)
    · exact Go_vret C hQ hR hw dX6_countChanges_130
    · refine Go_aload_n (q := 22) C 0 rfl dX6_countChanges_21 rfl ?_
      refine Go_getA (q := 25) (k := 0) C ci6 iw_6 kE_50 (rE_50_0 hR) rfl wm_9_0 rfl dX6_countChanges_22 rfl ?_
      refine Go_getIN (q := 28) (k := 0) (host := "EndsRound") C ci4 iw_4 kE_21 rfl nw_9 rfl dX6_countChanges_25 rfl ?_
      refine Go_if_le (t := 130) (q := 31) C hw dX6_countChanges_28 rfl rfl (fun hw => ?_) (fun hw => ?_)
      · exact Go_vret C hQ hR hw dX6_countChanges_130
      · refine Go_aload_n (q := 32) C 0 rfl dX6_countChanges_31 rfl ?_
        refine Go_getA (q := 35) (k := 1) C ci6 iw_6 kE_50 (rE_50_1 hR) rfl wm_9_1 rfl dX6_countChanges_32 rfl ?_
        refine Go_iload_n (q := 36) C 1 rfl dX6_countChanges_35 rfl ?_
        refine Go_aload_n (q := 37) C 0 rfl dX6_countChanges_36 rfl ?_
        refine Go_getA (q := 40) (k := 0) C ci6 iw_6 kE_50 (rE_50_0 hR) rfl wm_9_0 rfl dX6_countChanges_37 rfl ?_
        refine Go_getIN (q := 43) (k := 0) (host := "EndsRound") C ci4 iw_4 kE_21 rfl nw_9 rfl dX6_countChanges_40 rfl ?_
        obtain ⟨hne, hw⟩ := hw
        refine Go_idiv (q := 44) C hne dX6_countChanges_43 rfl ?_
        refine Go_i2l (q := 45) C dX6_countChanges_44 rfl ?_
        refine Go_iload_n (q := 46) C 1 rfl dX6_countChanges_45 rfl ?_
        refine Go_aload_n (q := 47) C 0 rfl dX6_countChanges_46 rfl ?_
        refine Go_getA (q := 50) (k := 0) C ci6 iw_6 kE_50 (rE_50_0 hR) rfl wm_9_0 rfl dX6_countChanges_47 rfl ?_
        refine Go_getIN (q := 53) (k := 0) (host := "EndsRound") C ci4 iw_4 kE_21 rfl nw_9 rfl dX6_countChanges_50 rfl ?_
        obtain ⟨hne, hw⟩ := hw
        refine Go_irem (q := 54) C hne dX6_countChanges_53 rfl ?_
        refine Go_callV_I (av := (fun ad => [.long ((v1 / (gI S 21 0)).toInt64), .int (v1 - v1 / (gI S 21 0) * (gI S 21 0))])) (st := []) (C := C) (hM := c_X9_endAt (Gl G) hR hw) (hlk := wm_46_11) (hini := wm_2_8) (hins := wm_32_19) (hsel := wm_32_20) (hcode := wm_32_21) (ho := kE_34) (hci := rfl) (hc13 := by decide) (n := 2) (hd := by decide +kernel) (hr0 := ⟨rfl, rfl⟩) (hroom := ⟨by first | decide | (dsimp only; omega), by first | decide | (dsimp only; omega)⟩) (hlen := rfl) (hst := rfl) (hW := Nat.le_of_ble_eq_true rfl) (hdg := dX6_countChanges_54) (q := 57) (hq := rfl) (fun r54_3 S54_2 hw hR => ?_)
        refine Go_istore_n (q := 58) (lv' := [(2, .int r54_3), (0, .ref (Gad G (50))), (1, .int v1)]) C rfl dX6_countChanges_57 (by decide) rfl rfl ?_
        refine Go_iconst (q := 59) (v := (0 : Int32)) C dX6_countChanges_58 rfl rfl ?_
        refine Go_istore_n (q := 60) (lv' := [(3, .int (0 : Int32)), (2, .int r54_3), (0, .ref (Gad G (50))), (1, .int v1)]) C rfl dX6_countChanges_59 (by decide) rfl rfl ?_
        refine Go_lvp [2, 3, 1, 0] rfl ?_
        exact g_X6_countChanges_60 C hQ _ _ hk10 _ hR hw
set_option maxRecDepth 100000 in
set_option maxHeartbeats 4000000 in
theorem c_X6_countChanges (l : Launch) {S : St} {Q : St → Prop} (hR : RCE S) (hw : w_X6_countChanges S Q) : MetV l yX6_countChanges (wB yX6_countChanges cX6_countChanges 5 none) rm_X6_countChanges shE NE RCE (fun ad => [.ref (ad (50))]) S Q := by
  refine MetV_of (cc := cX6_countChanges) (maxL := 5) (ret := none) (plainFor_of_name (by decide)) (fun _ => Nat.le_of_ble_eq_true rfl) (fun G C hl hQ => ?_)
  subst hl
  have C : Cx G cX6_countChanges BIG RX6 5 none rm_X6_countChanges shE NE := C
  show Go G 5 0 [] [(0, .ref (Gad G (50)))] S
  unfold w_X6_countChanges at hw
  refine Go_aload_n (q := 1) C 0 rfl dX6_countChanges_0 rfl ?_
  refine Go_getA (q := 4) (k := 4) C ci6 iw_6 kE_50 (rE_50_4 hR) rfl wm_8_20 rfl dX6_countChanges_1 rfl ?_
  refine Go_iconst (q := 5) (v := (0 : Int32)) C dX6_countChanges_4 rfl rfl ?_
  refine Go_callSN_V (av := (fun ad => [.ref (ad (52)), .int (0 : Int32)])) (st := []) (C := C) (hM := c_X11_blank (Gl G) (ok_ln kE_52) hR hw) (host := "EndsRound") (hnw := nw_94) (hini := wm_1_2) (hst2 := wm_10_13) (hcode := wm_10_14) (n := 2) (hd := by decide +kernel) (hr0 := ⟨rfl, rfl⟩) (hroom := ⟨by first | decide | (dsimp only; omega), by first | decide | (dsimp only; omega)⟩) (hlen := rfl) (hst := rfl) (hW := Nat.le_of_ble_eq_true rfl) (hdg := dX6_countChanges_5) (q := 8) (hq := rfl) (fun S5_1 hw hR => ?_)
  refine Go_iconst (q := 9) (v := (0 : Int32)) C dX6_countChanges_8 rfl rfl ?_
  refine Go_istore_n (q := 10) (lv' := [(1, .int (0 : Int32)), (0, .ref (Gad G (50)))]) C rfl dX6_countChanges_9 (by decide) rfl rfl ?_
  refine Go_lvp [1, 0] rfl ?_
  exact g_X6_countChanges_10 C hQ _ hR hw
-- X6_sortWords
abbrev rm_X6_sortWords : Room := { frames := 1, cells := 0, slots := 0, locals := 22 }
set_option maxRecDepth 100000 in
set_option maxHeartbeats 4000000 in
theorem g_X6_sortWords_86 {G : GC} (C : Cx G cX6_sortWords BIG RX6 5 none rm_X6_sortWords shE NE) {Q : St → Prop} (hQ : QV G RCE Q) (v1 : Int32) (v2 : Int32) {k2 : Int32 → St → Prop} (hk2 : ∀ (v1 : Int32) (S : St), RCE S → k2 v1 S → Go G 5 2 [] [(0, .ref (Gad G (50))), (1, .int v1)] S) {S : St} (hR : RCE S) (hw : w_X6_sortWords_86 k2 v1 v2 S) : Go G 5 86 [] [(0, .ref (Gad G (50))), (1, .int v1), (2, .int v2)] S := by
  unfold w_X6_sortWords_86 at hw
  refine Go_aload_n (q := 87) C 0 rfl dX6_sortWords_86 rfl ?_
  refine Go_getA (q := 90) (k := 5) C ci6 iw_6 kE_50 (rE_50_5 hR) rfl wm_8_21 rfl dX6_sortWords_87 rfl ?_
  refine Go_iload_n (q := 91) C 2 rfl dX6_sortWords_90 rfl ?_
  refine Go_iload_n (q := 92) C 1 rfl dX6_sortWords_91 rfl ?_
  refine Go_callSN_V (av := (fun ad => [.ref (ad (53)), .int v2, .int v1])) (st := []) (C := C) (hM := c_X11_put (Gl G) (ok_ln kE_53) hR hw) (host := "EndsRound") (hnw := nw_96) (hini := wm_1_2) (hst2 := wm_10_11) (hcode := wm_10_12) (n := 3) (hd := by decide +kernel) (hr0 := ⟨rfl, rfl⟩) (hroom := ⟨by first | decide | (dsimp only; omega), by first | decide | (dsimp only; omega)⟩) (hlen := rfl) (hst := rfl) (hW := Nat.le_of_ble_eq_true rfl) (hdg := dX6_sortWords_92) (q := 95) (hq := rfl) (fun S92_1 hw hR => ?_)
  refine Go_iinc2 (q := 98) (kp := 1) (cst := (1 : Int32)) C dX6_sortWords_95 rfl rfl (by decide) rfl (fun x95_2 e_x95_2 => ?_)
  have hw := hw x95_2 e_x95_2
  refine Go_lve (lv' := [(1, .int x95_2), (0, .ref (Gad G (50))), (2, .int v2)]) rfl ?_
  refine Go_goto (q := 2) C dX6_sortWords_98 rfl ?_
  refine Go_lvp [1, 0] rfl ?_
  exact hk2 _ _ hR hw
set_option maxRecDepth 100000 in
set_option maxHeartbeats 4000000 in
theorem g_X6_sortWords_17 {G : GC} (C : Cx G cX6_sortWords BIG RX6 5 none rm_X6_sortWords shE NE) {Q : St → Prop} (hQ : QV G RCE Q) (v1 : Int32) {k2 : Int32 → St → Prop} (hk2 : ∀ (v1 : Int32) (S : St), RCE S → k2 v1 S → Go G 5 2 [] [(0, .ref (Gad G (50))), (1, .int v1)] S) (v2 : Int32) (v3 : Int32) {S : St} (hR : RCE S) (hw : w_X6_sortWords_17 k2 v1 v2 v3 S) : Go G 5 17 [] [(0, .ref (Gad G (50))), (1, .int v1), (2, .int v2), (3, .int v3)] S := by
  obtain ⟨n, hw⟩ := hw
  induction n generalizing v2 v3 S with
  | zero => exact hw.elim
  | succ n ih =>
    have hw : b_X6_sortWords_17 k2 v1 (lpn (fun _ _ _ => False) (b_X6_sortWords_17 k2 v1) n) v2 v3 S := hw
    generalize lpn (fun _ _ _ => False) (b_X6_sortWords_17 k2 v1) n = kf at hw ih
    have hk17 := fun (v2 : Int32) (v3 : Int32) (S : St) (hR : RCE S) hw => ih v2 v3 hR hw
    unfold b_X6_sortWords_17 at hw
    refine Go_iload_n (q := 18) C 3 rfl dX6_sortWords_17 rfl ?_
    refine Go_iload_n (q := 19) C 1 rfl dX6_sortWords_18 rfl ?_
    refine Go_icmp_ge (t := 86) (q := 22) C hw dX6_sortWords_19 rfl rfl (fun hw => ?_) (fun hw => ?_)
    · refine Go_lvp [0, 1, 2] rfl ?_
      exact g_X6_sortWords_86 C hQ _ _ hk2 hR hw
    · refine Go_iload_n (q := 23) C 2 rfl dX6_sortWords_22 rfl ?_
      refine Go_if_le (t := 86) (q := 26) C hw dX6_sortWords_23 rfl rfl (fun hw => ?_) (fun hw => ?_)
      · refine Go_lvp [0, 1, 2] rfl ?_
        exact g_X6_sortWords_86 C hQ _ _ hk2 hR hw
      · refine Go_aload_n (q := 27) C 0 rfl dX6_sortWords_26 rfl ?_
        refine Go_getA (q := 30) (k := 5) C ci6 iw_6 kE_50 (rE_50_5 hR) rfl wm_8_21 rfl dX6_sortWords_27 rfl ?_
        refine Go_iload_n (q := 31) C 2 rfl dX6_sortWords_30 rfl ?_
        refine Go_iconst (q := 32) (v := (1 : Int32)) C dX6_sortWords_31 rfl rfl ?_
        refine Go_isub (q := 33) C dX6_sortWords_32 rfl ?_
        refine Go_callSN_I (av := (fun ad => [.ref (ad (53)), .int (v2 - (1 : Int32))])) (st := []) (C := C) (hM := c_X11_cell (Gl G) (ok_ln kE_53) hR hw) (host := "EndsRound") (hnw := nw_95) (hini := wm_1_2) (hst2 := wm_10_22) (hcode := wm_10_23) (n := 2) (hd := by decide +kernel) (hr0 := ⟨rfl, rfl⟩) (hroom := ⟨by first | decide | (dsimp only; omega), by first | decide | (dsimp only; omega)⟩) (hlen := rfl) (hst := rfl) (hW := Nat.le_of_ble_eq_true rfl) (hdg := dX6_sortWords_33) (q := 36) (hq := rfl) (fun r33_4 S33_3 hw hR => ?_)
        refine Go_istore (q := 38) (lv' := [(4, .int r33_4), (0, .ref (Gad G (50))), (1, .int v1), (2, .int v2), (3, .int v3)]) C dX6_sortWords_36 (by decide) rfl rfl ?_
        refine Go_aload_n (q := 39) C 1 rfl dX6_sortWords_38 rfl ?_
        refine Go_getA (q := 42) (k := 0) C ci6 iw_6 kE_50 (rE_50_0 hR) rfl wm_9_0 rfl dX6_sortWords_39 rfl ?_
        refine Go_getAN (q := 45) (k := 10) (host := "EndsRound") C ci4 iw_4 kE_21 (rE4_10 hR isE4_21) rfl nw_34 rfl dX6_sortWords_42 rfl ?_
        refine Go_iload (q := 47) C 0 rfl dX6_sortWords_45 rfl ?_
        refine Go_callSN_I (av := (fun ad => [.ref (ad (25)), .int r33_4])) (st := []) (C := C) (hM := c_X11_cell (Gl G) (ok_ln kE_25) hR hw) (host := "EndsRound") (hnw := nw_95) (hini := wm_1_2) (hst2 := wm_10_22) (hcode := wm_10_23) (n := 2) (hd := by decide +kernel) (hr0 := ⟨rfl, rfl⟩) (hroom := ⟨by first | decide | (dsimp only; omega), by first | decide | (dsimp only; omega)⟩) (hlen := rfl) (hst := rfl) (hW := Nat.le_of_ble_eq_true rfl) (hdg := dX6_sortWords_47) (q := 50) (hq := rfl) (fun r47_6 S47_5 hw hR => ?_)
        refine Go_aload_n (q := 51) C 1 rfl dX6_sortWords_50 rfl ?_
        refine Go_getA (q := 54) (k := 0) C ci6 iw_6 kE_50 (rE_50_0 hR) rfl wm_9_0 rfl dX6_sortWords_51 rfl ?_
        refine Go_getAN (q := 57) (k := 10) (host := "EndsRound") C ci4 iw_4 kE_21 (rE4_10 hR isE4_21) rfl nw_34 rfl dX6_sortWords_54 rfl ?_
        refine Go_iload_n (q := 58) C 2 rfl dX6_sortWords_57 rfl ?_
        refine Go_callSN_I (av := (fun ad => [.ref (ad (25)), .int v1])) (st := [.int r47_6]) (C := C) (hM := c_X11_cell (Gl G) (ok_ln kE_25) hR hw) (host := "EndsRound") (hnw := nw_95) (hini := wm_1_2) (hst2 := wm_10_22) (hcode := wm_10_23) (n := 2) (hd := by decide +kernel) (hr0 := ⟨rfl, rfl⟩) (hroom := ⟨by first | decide | (dsimp only; omega), by first | decide | (dsimp only; omega)⟩) (hlen := rfl) (hst := rfl) (hW := Nat.le_of_ble_eq_true rfl) (hdg := dX6_sortWords_58) (q := 61) (hq := rfl) (fun r58_8 S58_7 hw hR => ?_)
        refine Go_icmp_gt (t := 67) (q := 64) C hw dX6_sortWords_61 rfl rfl (fun hw => ?_) (fun hw => ?_)
        · refine Go_aload_n (q := 68) C 1 rfl dX6_sortWords_67 rfl ?_
          refine Go_getA (q := 71) (k := 5) C ci6 iw_6 kE_50 (rE_50_5 hR) rfl wm_8_21 rfl dX6_sortWords_68 rfl ?_
          refine Go_iload_n (q := 72) C 3 rfl dX6_sortWords_71 rfl ?_
          refine Go_iload (q := 74) C 0 rfl dX6_sortWords_72 rfl ?_
          refine Go_callSN_V (av := (fun ad => [.ref (ad (53)), .int v2, .int r33_4])) (st := []) (C := C) (hM := c_X11_put (Gl G) (ok_ln kE_53) hR hw) (host := "EndsRound") (hnw := nw_96) (hini := wm_1_2) (hst2 := wm_10_11) (hcode := wm_10_12) (n := 3) (hd := by decide +kernel) (hr0 := ⟨rfl, rfl⟩) (hroom := ⟨by first | decide | (dsimp only; omega), by first | decide | (dsimp only; omega)⟩) (hlen := rfl) (hst := rfl) (hW := Nat.le_of_ble_eq_true rfl) (hdg := dX6_sortWords_74) (q := 77) (hq := rfl) (fun S74_9 hw hR => ?_)
          refine Go_iinc2 (q := 80) (kp := 3) (cst := (-1 : Int32)) C dX6_sortWords_77 rfl rfl (by decide) rfl (fun x77_10 e_x77_10 => ?_)
          have hw := hw x77_10 e_x77_10
          refine Go_lve (lv' := [(2, .int x77_10), (4, .int r33_4), (0, .ref (Gad G (50))), (1, .int v1), (3, .int v3)]) rfl ?_
          refine Go_iinc2 (q := 83) (kp := 4) (cst := (1 : Int32)) C dX6_sortWords_80 rfl rfl (by decide) rfl (fun x80_11 e_x80_11 => ?_)
          have hw := hw x80_11 e_x80_11
          refine Go_lve (lv' := [(3, .int x80_11), (2, .int x77_10), (4, .int r33_4), (0, .ref (Gad G (50))), (1, .int v1)]) rfl ?_
          refine Go_goto (q := 17) C dX6_sortWords_83 rfl ?_
          refine Go_lvp [3, 4, 1, 0] rfl ?_
          exact hk17 _ _ _ hR hw
        · refine Go_goto (q := 86) C dX6_sortWords_64 rfl ?_
          refine Go_lvp [1, 2, 3] rfl ?_
          exact g_X6_sortWords_86 C hQ _ _ hk2 hR hw
set_option maxRecDepth 100000 in
set_option maxHeartbeats 4000000 in
theorem g_X6_sortWords_2 {G : GC} (C : Cx G cX6_sortWords BIG RX6 5 none rm_X6_sortWords shE NE) {Q : St → Prop} (hQ : QV G RCE Q) (v1 : Int32) {S : St} (hR : RCE S) (hw : w_X6_sortWords_2 Q v1 S) : Go G 5 2 [] [(0, .ref (Gad G (50))), (1, .int v1)] S := by
  obtain ⟨n, hw⟩ := hw
  induction n generalizing v1 S with
  | zero => exact hw.elim
  | succ n ih =>
    have hw : b_X6_sortWords_2 Q (lpn (fun _ _ => False) (b_X6_sortWords_2 Q) n) v1 S := hw
    generalize lpn (fun _ _ => False) (b_X6_sortWords_2 Q) n = kf at hw ih
    have hk2 := fun (v1 : Int32) (S : St) (hR : RCE S) hw => ih v1 hR hw
    unfold b_X6_sortWords_2 at hw
    refine Go_iload_n (q := 3) C 1 rfl dX6_sortWords_2 rfl ?_
    refine Go_aload_n (q := 4) C 0 rfl dX6_sortWords_3 rfl ?_
    refine Go_getA (q := 7) (k := 0) C ci6 iw_6 kE_50 (rE_50_0 hR) rfl wm_9_0 rfl dX6_sortWords_4 rfl ?_
    refine Go_getIN (q := 10) (k := 5) (host := "EndsRound") C ci4 iw_4 kE_21 rfl nw_20 rfl dX6_sortWords_7 rfl ?_
    refine Go_icmp_ge (t := 101) (q := 13) C hw dX6_sortWords_10 rfl rfl (fun hw => ?_) (fun hw => ?_)
    · exact Go_vret C hQ hR hw dX6_sortWords_101
    · refine Go_iload_n (q := 14) C 1 rfl dX6_sortWords_13 rfl ?_
      refine Go_istore_n (q := 15) (lv' := [(2, .int v1), (0, .ref (Gad G (50))), (1, .int v1)]) C rfl dX6_sortWords_14 (by decide) rfl rfl ?_
      refine Go_iconst (q := 16) (v := (0 : Int32)) C dX6_sortWords_15 rfl rfl ?_
      refine Go_istore_n (q := 17) (lv' := [(3, .int (0 : Int32)), (2, .int v1), (0, .ref (Gad G (50))), (1, .int v1)]) C rfl dX6_sortWords_16 (by decide) rfl rfl ?_
      refine Go_lvp [2, 3, 1, 0] rfl ?_
      exact g_X6_sortWords_17 C hQ _ hk2 _ _ hR hw
set_option maxRecDepth 100000 in
set_option maxHeartbeats 4000000 in
theorem c_X6_sortWords (l : Launch) {S : St} {Q : St → Prop} (hR : RCE S) (hw : w_X6_sortWords S Q) : MetV l yX6_sortWords (wB yX6_sortWords cX6_sortWords 5 none) rm_X6_sortWords shE NE RCE (fun ad => [.ref (ad (50))]) S Q := by
  refine MetV_of (cc := cX6_sortWords) (maxL := 5) (ret := none) (plainFor_of_name (by decide)) (fun _ => Nat.le_of_ble_eq_true rfl) (fun G C hl hQ => ?_)
  subst hl
  have C : Cx G cX6_sortWords BIG RX6 5 none rm_X6_sortWords shE NE := C
  show Go G 5 0 [] [(0, .ref (Gad G (50)))] S
  unfold w_X6_sortWords at hw
  refine Go_iconst (q := 1) (v := (0 : Int32)) C dX6_sortWords_0 rfl rfl ?_
  refine Go_istore_n (q := 2) (lv' := [(1, .int (0 : Int32)), (0, .ref (Gad G (50)))]) C rfl dX6_sortWords_1 (by decide) rfl rfl ?_
  refine Go_lvp [1, 0] rfl ?_
  exact g_X6_sortWords_2 C hQ _ hR hw
-- X6_findUnbroken
abbrev rm_X6_findUnbroken : Room := { frames := 1, cells := 0, slots := 0, locals := 22 }
set_option maxRecDepth 100000 in
set_option maxHeartbeats 4000000 in
theorem g_X6_findUnbroken_63 {G : GC} (C : Cx G cX6_findUnbroken BIG RX6 5 none rm_X6_findUnbroken shE NE) {Q : St → Prop} (hQ : QV G RCE Q) (v1 : Int32) (v3 : Int32) (t0 : Int32) (t1 : Int32) {k19 : Int32 → Int32 → St → Prop} (hk19 : ∀ (v2 : Int32) (v3 : Int32) (S : St), RCE S → k19 v2 v3 S → Go G 5 19 [] [(0, .ref (Gad G (50))), (1, .int v1), (2, .int v2), (3, .int v3)] S) {S : St} (hR : RCE S) (hw : w_X6_findUnbroken_63 k19 v1 v3 t0 t1 S) : Go G 5 63 [.int t0, .int t1] [(0, .ref (Gad G (50))), (1, .int v1), (3, .int v3)] S := by
  unfold w_X6_findUnbroken_63 at hw
  refine Go_iand (q := 64) C dX6_findUnbroken_63 rfl ?_
  refine Go_topi (fun x64_5 e_x64_5 => ?_)
  have hw := hw x64_5 e_x64_5
  refine Go_istore_n (q := 65) (lv' := [(2, .int x64_5), (0, .ref (Gad G (50))), (1, .int v1), (3, .int v3)]) C rfl dX6_findUnbroken_64 (by decide) rfl rfl ?_
  refine Go_iinc2 (q := 68) (kp := 3) (cst := (1 : Int32)) C dX6_findUnbroken_65 rfl rfl (by decide) rfl (fun x65_6 e_x65_6 => ?_)
  have hw := hw x65_6 e_x65_6
  refine Go_lve (lv' := [(3, .int x65_6), (2, .int x64_5), (0, .ref (Gad G (50))), (1, .int v1)]) rfl ?_
  refine Go_goto (q := 19) C dX6_findUnbroken_68 rfl ?_
  refine Go_lvp [2, 3, 1, 0] rfl ?_
  exact hk19 _ _ _ hR hw
set_option maxRecDepth 100000 in
set_option maxHeartbeats 4000000 in
theorem g_X6_findUnbroken_19 {G : GC} (C : Cx G cX6_findUnbroken BIG RX6 5 none rm_X6_findUnbroken shE NE) {Q : St → Prop} (hQ : QV G RCE Q) (v1 : Int32) {k2 : Int32 → St → Prop} (hk2 : ∀ (v1 : Int32) (S : St), RCE S → k2 v1 S → Go G 5 2 [] [(0, .ref (Gad G (50))), (1, .int v1)] S) (v2 : Int32) (v3 : Int32) {S : St} (hR : RCE S) (hw : w_X6_findUnbroken_19 k2 v1 v2 v3 S) : Go G 5 19 [] [(0, .ref (Gad G (50))), (1, .int v1), (2, .int v2), (3, .int v3)] S := by
  obtain ⟨n, hw⟩ := hw
  induction n generalizing v2 v3 S with
  | zero => exact hw.elim
  | succ n ih =>
    have hw : b_X6_findUnbroken_19 k2 v1 (lpn (fun _ _ _ => False) (b_X6_findUnbroken_19 k2 v1) n) v2 v3 S := hw
    generalize lpn (fun _ _ _ => False) (b_X6_findUnbroken_19 k2 v1) n = kf at hw ih
    have hk19 := fun (v2 : Int32) (v3 : Int32) (S : St) (hR : RCE S) hw => ih v2 v3 hR hw
    unfold b_X6_findUnbroken_19 at hw
    refine Go_iload_n (q := 20) C 3 rfl dX6_findUnbroken_19 rfl ?_
    refine Go_aload_n (q := 21) C 0 rfl dX6_findUnbroken_20 rfl ?_
    refine Go_getA (q := 24) (k := 0) C ci6 iw_6 kE_50 (rE_50_0 hR) rfl wm_9_0 rfl dX6_findUnbroken_21 rfl ?_
    refine Go_getIN (q := 27) (k := 0) (host := "EndsRound") C ci4 iw_4 kE_21 rfl nw_9 rfl dX6_findUnbroken_24 rfl ?_
    refine Go_icmp_ge (t := 71) (q := 30) C hw dX6_findUnbroken_27 rfl rfl (fun hw => ?_) (fun hw => ?_)
    · refine Go_aload_n (q := 72) C 0 rfl dX6_findUnbroken_71 rfl ?_
      refine Go_getA (q := 75) (k := 6) C ci6 iw_6 kE_50 (rE_50_6 hR) rfl wm_8_22 rfl dX6_findUnbroken_72 rfl ?_
      refine Go_iload_n (q := 76) C 1 rfl dX6_findUnbroken_75 rfl ?_
      refine Go_iload_n (q := 77) C 2 rfl dX6_findUnbroken_76 rfl ?_
      refine Go_callSN_V (av := (fun ad => [.ref (ad (54)), .int v1, .int v2])) (st := []) (C := C) (hM := c_X11_put (Gl G) (ok_ln kE_54) hR hw) (host := "EndsRound") (hnw := nw_96) (hini := wm_1_2) (hst2 := wm_10_11) (hcode := wm_10_12) (n := 3) (hd := by decide +kernel) (hr0 := ⟨rfl, rfl⟩) (hroom := ⟨by first | decide | (dsimp only; omega), by first | decide | (dsimp only; omega)⟩) (hlen := rfl) (hst := rfl) (hW := Nat.le_of_ble_eq_true rfl) (hdg := dX6_findUnbroken_77) (q := 80) (hq := rfl) (fun S77_1 hw hR => ?_)
      refine Go_iinc2 (q := 83) (kp := 1) (cst := (1 : Int32)) C dX6_findUnbroken_80 rfl rfl (by decide) rfl (fun x80_2 e_x80_2 => ?_)
      have hw := hw x80_2 e_x80_2
      refine Go_lve (lv' := [(1, .int x80_2), (0, .ref (Gad G (50))), (2, .int v2), (3, .int v3)]) rfl ?_
      refine Go_goto (q := 2) C dX6_findUnbroken_83 rfl ?_
      refine Go_lvp [1, 0] rfl ?_
      exact hk2 _ _ hR hw
    · refine Go_aload_n (q := 31) C 0 rfl dX6_findUnbroken_30 rfl ?_
      refine Go_getA (q := 34) (k := 1) C ci6 iw_6 kE_50 (rE_50_1 hR) rfl wm_9_1 rfl dX6_findUnbroken_31 rfl ?_
      refine Go_getAN (q := 37) (k := 3) (host := "EndsRound") C ci9 iw_9 kE_34 (rE_34_3 hR) rfl nw_58 rfl dX6_findUnbroken_34 rfl ?_
      refine Go_iload_n (q := 38) C 3 rfl dX6_findUnbroken_37 rfl ?_
      refine Go_callSN_I (av := (fun ad => [.ref (ad (39)), .int v3])) (st := []) (C := C) (hM := c_X11_cell (Gl G) (ok_ln kE_39) hR hw) (host := "EndsRound") (hnw := nw_95) (hini := wm_1_2) (hst2 := wm_10_22) (hcode := wm_10_23) (n := 2) (hd := by decide +kernel) (hr0 := ⟨rfl, rfl⟩) (hroom := ⟨by first | decide | (dsimp only; omega), by first | decide | (dsimp only; omega)⟩) (hlen := rfl) (hst := rfl) (hW := Nat.le_of_ble_eq_true rfl) (hdg := dX6_findUnbroken_38) (q := 41) (hq := rfl) (fun r38_4 S38_3 hw hR => ?_)
      refine Go_istore (q := 43) (lv' := [(4, .int r38_4), (0, .ref (Gad G (50))), (1, .int v1), (2, .int v2), (3, .int v3)]) C dX6_findUnbroken_41 (by decide) rfl rfl ?_
      refine Go_iload_n (q := 44) C 3 rfl dX6_findUnbroken_43 rfl ?_
      refine Go_iload_n (q := 45) C 2 rfl dX6_findUnbroken_44 rfl ?_
      refine Go_iload_n (q := 46) C 4 rfl dX6_findUnbroken_45 rfl ?_
      refine Go_ishr (q := 47) C dX6_findUnbroken_46 rfl ?_
      refine Go_iconst (q := 48) (v := (1 : Int32)) C dX6_findUnbroken_47 rfl rfl ?_
      refine Go_iand (q := 49) C dX6_findUnbroken_48 rfl ?_
      refine Go_iload_n (q := 50) C 2 rfl dX6_findUnbroken_49 rfl ?_
      refine Go_iload (q := 52) C 0 rfl dX6_findUnbroken_50 rfl ?_
      refine Go_ishr (q := 53) C dX6_findUnbroken_52 rfl ?_
      refine Go_iconst (q := 54) (v := (1 : Int32)) C dX6_findUnbroken_53 rfl rfl ?_
      refine Go_iand (q := 55) C dX6_findUnbroken_54 rfl ?_
      refine Go_icmp_ne (t := 62) (q := 58) C hw dX6_findUnbroken_55 rfl rfl (fun hw => ?_) (fun hw => ?_)
      · refine Go_iconst (q := 59) (v := (1 : Int32)) C dX6_findUnbroken_58 rfl rfl ?_
        refine Go_goto (q := 63) C dX6_findUnbroken_59 rfl ?_
        refine Go_lvp [1, 2, 4] rfl ?_
        exact g_X6_findUnbroken_63 C hQ _ _ _ _ hk19 hR hw
      · refine Go_iconst (q := 63) (v := (0 : Int32)) C dX6_findUnbroken_62 rfl rfl ?_
        refine Go_lvp [1, 2, 4] rfl ?_
        exact g_X6_findUnbroken_63 C hQ _ _ _ _ hk19 hR hw
set_option maxRecDepth 100000 in
set_option maxHeartbeats 4000000 in
theorem g_X6_findUnbroken_2 {G : GC} (C : Cx G cX6_findUnbroken BIG RX6 5 none rm_X6_findUnbroken shE NE) {Q : St → Prop} (hQ : QV G RCE Q) (v1 : Int32) {S : St} (hR : RCE S) (hw : w_X6_findUnbroken_2 Q v1 S) : Go G 5 2 [] [(0, .ref (Gad G (50))), (1, .int v1)] S := by
  obtain ⟨n, hw⟩ := hw
  induction n generalizing v1 S with
  | zero => exact hw.elim
  | succ n ih =>
    have hw : b_X6_findUnbroken_2 Q (lpn (fun _ _ => False) (b_X6_findUnbroken_2 Q) n) v1 S := hw
    generalize lpn (fun _ _ => False) (b_X6_findUnbroken_2 Q) n = kf at hw ih
    have hk2 := fun (v1 : Int32) (S : St) (hR : RCE S) hw => ih v1 hR hw
    unfold b_X6_findUnbroken_2 at hw
    refine Go_iload_n (q := 3) C 1 rfl dX6_findUnbroken_2 rfl ?_
    refine Go_iconst (q := 4) (v := (1 : Int32)) C dX6_findUnbroken_3 rfl rfl ?_
    refine Go_aload_n (q := 5) C 0 rfl dX6_findUnbroken_4 rfl ?_
    refine Go_getA (q := 8) (k := 0) C ci6 iw_6 kE_50 (rE_50_0 hR) rfl wm_9_0 rfl dX6_findUnbroken_5 rfl ?_
    refine Go_getIN (q := 11) (k := 0) (host := "EndsRound") C ci4 iw_4 kE_21 rfl nw_9 rfl dX6_findUnbroken_8 rfl ?_
    refine Go_ishl (q := 12) C dX6_findUnbroken_11 rfl ?_
    refine Go_icmp_ge (t := 86) (q := 15) C hw dX6_findUnbroken_12 rfl rfl (fun hw => ?_) (fun hw => ?_)
    · exact Go_vret C hQ hR hw dX6_findUnbroken_86
    · refine Go_iconst (q := 16) (v := (1 : Int32)) C dX6_findUnbroken_15 rfl rfl ?_
      refine Go_istore_n (q := 17) (lv' := [(2, .int (1 : Int32)), (0, .ref (Gad G (50))), (1, .int v1)]) C rfl dX6_findUnbroken_16 (by decide) rfl rfl ?_
      refine Go_iconst (q := 18) (v := (0 : Int32)) C dX6_findUnbroken_17 rfl rfl ?_
      refine Go_istore_n (q := 19) (lv' := [(3, .int (0 : Int32)), (2, .int (1 : Int32)), (0, .ref (Gad G (50))), (1, .int v1)]) C rfl dX6_findUnbroken_18 (by decide) rfl rfl ?_
      refine Go_lvp [2, 3, 1, 0] rfl ?_
      exact g_X6_findUnbroken_19 C hQ _ hk2 _ _ hR hw
set_option maxRecDepth 100000 in
set_option maxHeartbeats 4000000 in
theorem c_X6_findUnbroken (l : Launch) {S : St} {Q : St → Prop} (hR : RCE S) (hw : w_X6_findUnbroken S Q) : MetV l yX6_findUnbroken (wB yX6_findUnbroken cX6_findUnbroken 5 none) rm_X6_findUnbroken shE NE RCE (fun ad => [.ref (ad (50))]) S Q := by
  refine MetV_of (cc := cX6_findUnbroken) (maxL := 5) (ret := none) (plainFor_of_name (by decide)) (fun _ => Nat.le_of_ble_eq_true rfl) (fun G C hl hQ => ?_)
  subst hl
  have C : Cx G cX6_findUnbroken BIG RX6 5 none rm_X6_findUnbroken shE NE := C
  show Go G 5 0 [] [(0, .ref (Gad G (50)))] S
  unfold w_X6_findUnbroken at hw
  refine Go_iconst (q := 1) (v := (0 : Int32)) C dX6_findUnbroken_0 rfl rfl ?_
  refine Go_istore_n (q := 2) (lv' := [(1, .int (0 : Int32)), (0, .ref (Gad G (50)))]) C rfl dX6_findUnbroken_1 (by decide) rfl rfl ?_
  refine Go_lvp [1, 0] rfl ?_
  exact g_X6_findUnbroken_2 C hQ _ hR hw
-- X6_offer
abbrev rm_X6_offer : Room := { frames := 1, cells := 0, slots := 0, locals := 22 }
set_option maxRecDepth 100000 in
set_option maxHeartbeats 4000000 in
theorem g_X6_offer_43 {G : GC} (C : Cx G cX6_offer BIG RX6 7 none rm_X6_offer shE NE) {Q : St → Prop} (hQ : QV G RCE Q) (p0 : Int32) (p1 : Int32) (v3 : Int32) {k2 : Int32 → St → Prop} (hk2 : ∀ (v3 : Int32) (S : St), RCE S → k2 v3 S → Go G 7 2 [] [(0, .ref (Gad G (50))), (1, .int p0), (2, .int p1), (3, .int v3)] S) {S : St} (hR : RCE S) (hw : w_X6_offer_43 p0 p1 k2 v3 S) : Go G 7 43 [] [(0, .ref (Gad G (50))), (1, .int p0), (2, .int p1), (3, .int v3)] S := by
  unfold w_X6_offer_43 at hw
  refine Go_iload_n (q := 44) C 2 rfl dX6_offer_43 rfl ?_
  refine Go_iconst (q := 45) (v := (1 : Int32)) C dX6_offer_44 rfl rfl ?_
  refine Go_iload_n (q := 46) C 3 rfl dX6_offer_45 rfl ?_
  refine Go_ishl (q := 47) C dX6_offer_46 rfl ?_
  refine Go_ior (q := 48) C dX6_offer_47 rfl ?_
  refine Go_topi (fun x48_3 e_x48_3 => ?_)
  have hw := hw x48_3 e_x48_3
  refine Go_istore (q := 50) (lv' := [(5, .int x48_3), (0, .ref (Gad G (50))), (1, .int p0), (2, .int p1), (3, .int v3)]) C dX6_offer_48 (by decide) rfl rfl ?_
  refine Go_aload_n (q := 51) C 1 rfl dX6_offer_50 rfl ?_
  refine Go_getA (q := 54) (k := 7) C ci6 iw_6 kE_50 (rE_50_7 hR) rfl wm_8_23 rfl dX6_offer_51 rfl ?_
  refine Go_iload_n (q := 55) C 3 rfl dX6_offer_54 rfl ?_
  refine Go_callSN_I (av := (fun ad => [.ref (ad (55)), .int p1])) (st := []) (C := C) (hM := c_X11_cell (Gl G) (ok_ln kE_55) hR hw) (host := "EndsRound") (hnw := nw_95) (hini := wm_1_2) (hst2 := wm_10_22) (hcode := wm_10_23) (n := 2) (hd := by decide +kernel) (hr0 := ⟨rfl, rfl⟩) (hroom := ⟨by first | decide | (dsimp only; omega), by first | decide | (dsimp only; omega)⟩) (hlen := rfl) (hst := rfl) (hW := Nat.le_of_ble_eq_true rfl) (hdg := dX6_offer_55) (q := 58) (hq := rfl) (fun r55_5 S55_4 hw hR => ?_)
  refine Go_aload_n (q := 59) C 1 rfl dX6_offer_58 rfl ?_
  refine Go_getA (q := 62) (k := 4) C ci6 iw_6 kE_50 (rE_50_4 hR) rfl wm_8_20 rfl dX6_offer_59 rfl ?_
  refine Go_iload_n (q := 63) C 4 rfl dX6_offer_62 rfl ?_
  refine Go_bipush (q := 65) (v := (12 : Int32)) C dX6_offer_63 rfl rfl ?_
  refine Go_imul (q := 66) C dX6_offer_65 rfl ?_
  refine Go_iload_n (q := 67) C 2 rfl dX6_offer_66 rfl ?_
  refine Go_iadd (q := 68) C dX6_offer_67 rfl ?_
  refine Go_callSN_I (av := (fun ad => [.ref (ad (52)), .int ((v3 * (12 : Int32)) + p0)])) (st := [.int r55_5]) (C := C) (hM := c_X11_cell (Gl G) (ok_ln kE_52) hR hw) (host := "EndsRound") (hnw := nw_95) (hini := wm_1_2) (hst2 := wm_10_22) (hcode := wm_10_23) (n := 2) (hd := by decide +kernel) (hr0 := ⟨rfl, rfl⟩) (hroom := ⟨by first | decide | (dsimp only; omega), by first | decide | (dsimp only; omega)⟩) (hlen := rfl) (hst := rfl) (hW := Nat.le_of_ble_eq_true rfl) (hdg := dX6_offer_68) (q := 71) (hq := rfl) (fun r68_7 S68_6 hw hR => ?_)
  refine Go_iadd (q := 72) C dX6_offer_71 rfl ?_
  refine Go_topi (fun x72_8 e_x72_8 => ?_)
  have hw := hw x72_8 e_x72_8
  refine Go_istore (q := 74) (lv' := [(6, .int x72_8), (5, .int x48_3), (0, .ref (Gad G (50))), (1, .int p0), (2, .int p1), (3, .int v3)]) C dX6_offer_72 (by decide) rfl rfl ?_
  refine Go_aload_n (q := 75) C 2 rfl dX6_offer_74 rfl ?_
  refine Go_getA (q := 78) (k := 7) C ci6 iw_6 kE_50 (rE_50_7 hR) rfl wm_8_23 rfl dX6_offer_75 rfl ?_
  refine Go_iload (q := 80) C 1 rfl dX6_offer_78 rfl ?_
  refine Go_aload_n (q := 81) C 2 rfl dX6_offer_80 rfl ?_
  refine Go_getA (q := 84) (k := 7) C ci6 iw_6 kE_50 (rE_50_7 hR) rfl wm_8_23 rfl dX6_offer_81 rfl ?_
  refine Go_iload (q := 86) C 1 rfl dX6_offer_84 rfl ?_
  refine Go_callSN_I (av := (fun ad => [.ref (ad (55)), .int x48_3])) (st := [.int x48_3, .ref (Gad G (55))]) (C := C) (hM := c_X11_cell (Gl G) (ok_ln kE_55) hR hw) (host := "EndsRound") (hnw := nw_95) (hini := wm_1_2) (hst2 := wm_10_22) (hcode := wm_10_23) (n := 2) (hd := by decide +kernel) (hr0 := ⟨rfl, rfl⟩) (hroom := ⟨by first | decide | (dsimp only; omega), by first | decide | (dsimp only; omega)⟩) (hlen := rfl) (hst := rfl) (hW := Nat.le_of_ble_eq_true rfl) (hdg := dX6_offer_86) (q := 89) (hq := rfl) (fun r86_10 S86_9 hw hR => ?_)
  refine Go_iload (q := 91) C 0 rfl dX6_offer_89 rfl ?_
  refine Go_mmin (q := 94) C wm_47_4 wm_12_9 wm_11_15 wm_12_10 (by first | decide | (dsimp only; omega)) (Nat.le_of_ble_eq_true rfl) dX6_offer_91 rfl ?_
  refine Go_callSN_V (av := (fun ad => [.ref (ad (55)), .int x48_3, .int ((if x72_8 < r86_10 then x72_8 else r86_10))])) (st := []) (C := C) (hM := c_X11_put (Gl G) (ok_ln kE_55) hR hw) (host := "EndsRound") (hnw := nw_96) (hini := wm_1_2) (hst2 := wm_10_11) (hcode := wm_10_12) (n := 3) (hd := by decide +kernel) (hr0 := ⟨rfl, rfl⟩) (hroom := ⟨by first | decide | (dsimp only; omega), by first | decide | (dsimp only; omega)⟩) (hlen := rfl) (hst := rfl) (hW := Nat.le_of_ble_eq_true rfl) (hdg := dX6_offer_94) (q := 97) (hq := rfl) (fun S94_11 hw hR => ?_)
  refine Go_iinc2 (q := 100) (kp := 5) (cst := (1 : Int32)) C dX6_offer_97 rfl rfl (by decide) rfl (fun x97_12 e_x97_12 => ?_)
  have hw := hw x97_12 e_x97_12
  refine Go_lve (lv' := [(3, .int x97_12), (6, .int x72_8), (5, .int x48_3), (0, .ref (Gad G (50))), (1, .int p0), (2, .int p1)]) rfl ?_
  refine Go_goto (q := 2) C dX6_offer_100 rfl ?_
  refine Go_lvp [3, 4, 5, 0] rfl ?_
  exact hk2 _ _ hR hw
set_option maxRecDepth 100000 in
set_option maxHeartbeats 4000000 in
theorem g_X6_offer_2 {G : GC} (C : Cx G cX6_offer BIG RX6 7 none rm_X6_offer shE NE) {Q : St → Prop} (hQ : QV G RCE Q) (p0 : Int32) (p1 : Int32) (v3 : Int32) {S : St} (hR : RCE S) (hw : w_X6_offer_2 p0 p1 Q v3 S) : Go G 7 2 [] [(0, .ref (Gad G (50))), (1, .int p0), (2, .int p1), (3, .int v3)] S := by
  obtain ⟨n, hw⟩ := hw
  induction n generalizing v3 S with
  | zero => exact hw.elim
  | succ n ih =>
    have hw : b_X6_offer_2 p0 p1 Q (lpn (fun _ _ => False) (b_X6_offer_2 p0 p1 Q) n) v3 S := hw
    generalize lpn (fun _ _ => False) (b_X6_offer_2 p0 p1 Q) n = kf at hw ih
    have hk2 := fun (v3 : Int32) (S : St) (hR : RCE S) hw => ih v3 hR hw
    unfold b_X6_offer_2 at hw
    refine Go_iload_n (q := 3) C 3 rfl dX6_offer_2 rfl ?_
    refine Go_aload_n (q := 4) C 0 rfl dX6_offer_3 rfl ?_
    refine Go_getA (q := 7) (k := 0) C ci6 iw_6 kE_50 (rE_50_0 hR) rfl wm_9_0 rfl dX6_offer_4 rfl ?_
    refine Go_getIN (q := 10) (k := 0) (host := "EndsRound") C ci4 iw_4 kE_21 rfl nw_9 rfl dX6_offer_7 rfl ?_
    refine Go_icmp_ge (t := 103) (q := 13) C hw dX6_offer_10 rfl rfl (fun hw => ?_) (fun hw => ?_)
    · exact Go_vret C hQ hR hw dX6_offer_103
    · refine Go_aload_n (q := 14) C 0 rfl dX6_offer_13 rfl ?_
      refine Go_getA (q := 17) (k := 3) C ci6 iw_6 kE_50 (rE_50_3 hR) rfl wm_8_19 rfl dX6_offer_14 rfl ?_
      refine Go_iload_n (q := 18) C 3 rfl dX6_offer_17 rfl ?_
      refine Go_callSN_I (av := (fun ad => [.ref (ad (51)), .int v3])) (st := []) (C := C) (hM := c_X11_cell (Gl G) (ok_ln kE_51) hR hw) (host := "EndsRound") (hnw := nw_95) (hini := wm_1_2) (hst2 := wm_10_22) (hcode := wm_10_23) (n := 2) (hd := by decide +kernel) (hr0 := ⟨rfl, rfl⟩) (hroom := ⟨by first | decide | (dsimp only; omega), by first | decide | (dsimp only; omega)⟩) (hlen := rfl) (hst := rfl) (hW := Nat.le_of_ble_eq_true rfl) (hdg := dX6_offer_18) (q := 21) (hq := rfl) (fun r18_2 S18_1 hw hR => ?_)
      refine Go_istore (q := 23) (lv' := [(4, .int r18_2), (0, .ref (Gad G (50))), (1, .int p0), (2, .int p1), (3, .int v3)]) C dX6_offer_21 (by decide) rfl rfl ?_
      refine Go_iload_n (q := 24) C 3 rfl dX6_offer_23 rfl ?_
      refine Go_iload_n (q := 25) C 4 rfl dX6_offer_24 rfl ?_
      refine Go_ishr (q := 26) C dX6_offer_25 rfl ?_
      refine Go_iconst (q := 27) (v := (1 : Int32)) C dX6_offer_26 rfl rfl ?_
      refine Go_iand (q := 28) C dX6_offer_27 rfl ?_
      refine Go_if_ne (t := 97) (q := 31) C hw dX6_offer_28 rfl rfl (fun hw => ?_) (fun hw => ?_)
      · refine Go_iload (q := 33) C 0 rfl dX6_offer_31 rfl ?_
        refine Go_iconst (q := 34) (v := (-1 : Int32)) C dX6_offer_33 rfl rfl ?_
        refine Go_icmp_eq (t := 43) (q := 37) C hw dX6_offer_34 rfl rfl (fun hw => ?_) (fun hw => ?_)
        · refine Go_lvp [1, 2, 3, 4] rfl ?_
          exact g_X6_offer_43 C hQ p0 p1 _ hk2 hR hw
        · refine Go_iload (q := 39) C 0 rfl dX6_offer_37 rfl ?_
          refine Go_iload_n (q := 40) C 2 rfl dX6_offer_39 rfl ?_
          refine Go_icmp_ne (t := 97) (q := 43) C hw dX6_offer_40 rfl rfl (fun hw => ?_) (fun hw => ?_)
          · refine Go_lvp [1, 2, 3, 4] rfl ?_
            exact g_X6_offer_43 C hQ p0 p1 _ hk2 hR hw
          · refine Go_iinc2 (q := 100) (kp := 4) (cst := (1 : Int32)) C dX6_offer_97 rfl rfl (by decide) rfl (fun x97_13 e_x97_13 => ?_)
            have hw := hw x97_13 e_x97_13
            refine Go_lve (lv' := [(3, .int x97_13), (4, .int r18_2), (0, .ref (Gad G (50))), (1, .int p0), (2, .int p1)]) rfl ?_
            refine Go_goto (q := 2) C dX6_offer_100 rfl ?_
            refine Go_lvp [2, 3, 4, 0] rfl ?_
            exact hk2 _ _ hR hw
      · refine Go_iinc2 (q := 100) (kp := 4) (cst := (1 : Int32)) C dX6_offer_97 rfl rfl (by decide) rfl (fun x97_14 e_x97_14 => ?_)
        have hw := hw x97_14 e_x97_14
        refine Go_lve (lv' := [(3, .int x97_14), (4, .int r18_2), (0, .ref (Gad G (50))), (1, .int p0), (2, .int p1)]) rfl ?_
        refine Go_goto (q := 2) C dX6_offer_100 rfl ?_
        refine Go_lvp [2, 3, 4, 0] rfl ?_
        exact hk2 _ _ hR hw
set_option maxRecDepth 100000 in
set_option maxHeartbeats 4000000 in
theorem c_X6_offer (l : Launch) {p0 : Int32} {p1 : Int32} {S : St} {Q : St → Prop} (hR : RCE S) (hw : w_X6_offer p0 p1 S Q) : MetV l yX6_offer (wB yX6_offer cX6_offer 7 none) rm_X6_offer shE NE RCE (fun ad => [.ref (ad (50)), .int p0, .int p1]) S Q := by
  refine MetV_of (cc := cX6_offer) (maxL := 7) (ret := none) (plainFor_of_name (by decide)) (fun _ => Nat.le_of_ble_eq_true rfl) (fun G C hl hQ => ?_)
  subst hl
  have C : Cx G cX6_offer BIG RX6 7 none rm_X6_offer shE NE := C
  show Go G 7 0 [] [(0, .ref (Gad G (50))), (1, .int p0), (2, .int p1)] S
  unfold w_X6_offer at hw
  refine Go_iconst (q := 1) (v := (0 : Int32)) C dX6_offer_0 rfl rfl ?_
  refine Go_istore_n (q := 2) (lv' := [(3, .int (0 : Int32)), (0, .ref (Gad G (50))), (1, .int p0), (2, .int p1)]) C rfl dX6_offer_1 (by decide) rfl rfl ?_
  refine Go_lvp [1, 2, 3, 0] rfl ?_
  exact g_X6_offer_2 C hQ p0 p1 _ hR hw
-- X6_dropBroken
abbrev rm_X6_dropBroken : Room := { frames := 1, cells := 0, slots := 0, locals := 22 }
set_option maxRecDepth 100000 in
set_option maxHeartbeats 4000000 in
theorem g_X6_dropBroken_2 {G : GC} (C : Cx G cX6_dropBroken BIG RX6 3 none rm_X6_dropBroken shE NE) {Q : St → Prop} (hQ : QV G RCE Q) (p0 : Int32) (v2 : Int32) {S : St} (hR : RCE S) (hw : w_X6_dropBroken_2 p0 Q v2 S) : Go G 3 2 [] [(0, .ref (Gad G (50))), (1, .int p0), (2, .int v2)] S := by
  obtain ⟨n, hw⟩ := hw
  induction n generalizing v2 S with
  | zero => exact hw.elim
  | succ n ih =>
    have hw : b_X6_dropBroken_2 p0 Q (lpn (fun _ _ => False) (b_X6_dropBroken_2 p0 Q) n) v2 S := hw
    generalize lpn (fun _ _ => False) (b_X6_dropBroken_2 p0 Q) n = kf at hw ih
    have hk2 := fun (v2 : Int32) (S : St) (hR : RCE S) hw => ih v2 hR hw
    unfold b_X6_dropBroken_2 at hw
    refine Go_iload_n (q := 3) C 2 rfl dX6_dropBroken_2 rfl ?_
    refine Go_iload_n (q := 4) C 1 rfl dX6_dropBroken_3 rfl ?_
    refine Go_icmp_gt (t := 35) (q := 7) C hw dX6_dropBroken_4 rfl rfl (fun hw => ?_) (fun hw => ?_)
    · exact Go_vret C hQ hR hw dX6_dropBroken_35
    · refine Go_aload_n (q := 8) C 0 rfl dX6_dropBroken_7 rfl ?_
      refine Go_getA (q := 11) (k := 6) C ci6 iw_6 kE_50 (rE_50_6 hR) rfl wm_8_22 rfl dX6_dropBroken_8 rfl ?_
      refine Go_iload_n (q := 12) C 2 rfl dX6_dropBroken_11 rfl ?_
      refine Go_callSN_I (av := (fun ad => [.ref (ad (54)), .int v2])) (st := []) (C := C) (hM := c_X11_cell (Gl G) (ok_ln kE_54) hR hw) (host := "EndsRound") (hnw := nw_95) (hini := wm_1_2) (hst2 := wm_10_22) (hcode := wm_10_23) (n := 2) (hd := by decide +kernel) (hr0 := ⟨rfl, rfl⟩) (hroom := ⟨by first | decide | (dsimp only; omega), by first | decide | (dsimp only; omega)⟩) (hlen := rfl) (hst := rfl) (hW := Nat.le_of_ble_eq_true rfl) (hdg := dX6_dropBroken_12) (q := 15) (hq := rfl) (fun r12_2 S12_1 hw hR => ?_)
      refine Go_if_ne (t := 29) (q := 18) C hw dX6_dropBroken_15 rfl rfl (fun hw => ?_) (fun hw => ?_)
      · refine Go_aload_n (q := 19) C 0 rfl dX6_dropBroken_18 rfl ?_
        refine Go_getA (q := 22) (k := 7) C ci6 iw_6 kE_50 (rE_50_7 hR) rfl wm_8_23 rfl dX6_dropBroken_19 rfl ?_
        refine Go_iload_n (q := 23) C 2 rfl dX6_dropBroken_22 rfl ?_
        refine Go_sipush (q := 26) (v := (1000 : Int32)) C dX6_dropBroken_23 rfl rfl ?_
        refine Go_callSN_V (av := (fun ad => [.ref (ad (55)), .int v2, .int (1000 : Int32)])) (st := []) (C := C) (hM := c_X11_put (Gl G) (ok_ln kE_55) hR hw) (host := "EndsRound") (hnw := nw_96) (hini := wm_1_2) (hst2 := wm_10_11) (hcode := wm_10_12) (n := 3) (hd := by decide +kernel) (hr0 := ⟨rfl, rfl⟩) (hroom := ⟨by first | decide | (dsimp only; omega), by first | decide | (dsimp only; omega)⟩) (hlen := rfl) (hst := rfl) (hW := Nat.le_of_ble_eq_true rfl) (hdg := dX6_dropBroken_26) (q := 29) (hq := rfl) (fun S26_3 hw hR => ?_)
        refine Go_iinc2 (q := 32) (kp := 2) (cst := (1 : Int32)) C dX6_dropBroken_29 rfl rfl (by decide) rfl (fun x29_4 e_x29_4 => ?_)
        have hw := hw x29_4 e_x29_4
        refine Go_lve (lv' := [(2, .int x29_4), (0, .ref (Gad G (50))), (1, .int p0)]) rfl ?_
        refine Go_goto (q := 2) C dX6_dropBroken_32 rfl ?_
        refine Go_lvp [1, 2, 0] rfl ?_
        exact hk2 _ _ hR hw
      · refine Go_iinc2 (q := 32) (kp := 2) (cst := (1 : Int32)) C dX6_dropBroken_29 rfl rfl (by decide) rfl (fun x29_5 e_x29_5 => ?_)
        have hw := hw x29_5 e_x29_5
        refine Go_lve (lv' := [(2, .int x29_5), (0, .ref (Gad G (50))), (1, .int p0)]) rfl ?_
        refine Go_goto (q := 2) C dX6_dropBroken_32 rfl ?_
        refine Go_lvp [1, 2, 0] rfl ?_
        exact hk2 _ _ hR hw
set_option maxRecDepth 100000 in
set_option maxHeartbeats 4000000 in
theorem c_X6_dropBroken (l : Launch) {p0 : Int32} {S : St} {Q : St → Prop} (hR : RCE S) (hw : w_X6_dropBroken p0 S Q) : MetV l yX6_dropBroken (wB yX6_dropBroken cX6_dropBroken 3 none) rm_X6_dropBroken shE NE RCE (fun ad => [.ref (ad (50)), .int p0]) S Q := by
  refine MetV_of (cc := cX6_dropBroken) (maxL := 3) (ret := none) (plainFor_of_name (by decide)) (fun _ => Nat.le_of_ble_eq_true rfl) (fun G C hl hQ => ?_)
  subst hl
  have C : Cx G cX6_dropBroken BIG RX6 3 none rm_X6_dropBroken shE NE := C
  show Go G 3 0 [] [(0, .ref (Gad G (50))), (1, .int p0)] S
  unfold w_X6_dropBroken at hw
  refine Go_iconst (q := 1) (v := (0 : Int32)) C dX6_dropBroken_0 rfl rfl ?_
  refine Go_istore_n (q := 2) (lv' := [(2, .int (0 : Int32)), (0, .ref (Gad G (50))), (1, .int p0)]) C rfl dX6_dropBroken_1 (by decide) rfl rfl ?_
  refine Go_lvp [1, 2, 0] rfl ?_
  exact g_X6_dropBroken_2 C hQ p0 _ hR hw
-- X6_cheapest
abbrev rm_X6_cheapest : Room := { frames := 2, cells := 0, slots := 0, locals := 48 }
set_option maxRecDepth 100000 in
set_option maxHeartbeats 4000000 in
theorem g_X6_cheapest_58 {G : GC} (C : Cx G cX6_cheapest BIG RX6 5 (some .int) rm_X6_cheapest shE NE) {Q : Int32 → St → Prop} (hQ : QI G RCE Q) (v1 : Int32) (v2 : Int32) (v3 : Int32) {k33 : Int32 → St → Prop} (hk33 : ∀ (v2 : Int32) (S : St), RCE S → k33 v2 S → Go G 5 33 [] [(0, .ref (Gad G (50))), (1, .int v1), (2, .int v2)] S) (v4 : Int32) {S : St} (hR : RCE S) (hw : w_X6_cheapest_58 k33 v1 v2 v3 v4 S) : Go G 5 58 [] [(0, .ref (Gad G (50))), (1, .int v1), (2, .int v2), (3, .int v3), (4, .int v4)] S := by
  obtain ⟨n, hw⟩ := hw
  induction n generalizing v4 S with
  | zero => exact hw.elim
  | succ n ih =>
    have hw : b_X6_cheapest_58 k33 v1 v2 v3 (lpn (fun _ _ => False) (b_X6_cheapest_58 k33 v1 v2 v3) n) v4 S := hw
    generalize lpn (fun _ _ => False) (b_X6_cheapest_58 k33 v1 v2 v3) n = kf at hw ih
    have hk58 := fun (v4 : Int32) (S : St) (hR : RCE S) hw => ih v4 hR hw
    unfold b_X6_cheapest_58 at hw
    refine Go_iload (q := 60) C 4 rfl dX6_cheapest_58 rfl ?_
    refine Go_if_lt (t := 91) (q := 63) C hw dX6_cheapest_60 rfl rfl (fun hw => ?_) (fun hw => ?_)
    · refine Go_iload_n (q := 92) C 2 rfl dX6_cheapest_91 rfl ?_
      refine Go_iconst (q := 93) (v := (1 : Int32)) C dX6_cheapest_92 rfl rfl ?_
      refine Go_iadd (q := 94) C dX6_cheapest_93 rfl ?_
      refine Go_aload_n (q := 95) C 0 rfl dX6_cheapest_94 rfl ?_
      refine Go_getA (q := 98) (k := 0) C ci6 iw_6 kE_50 (rE_50_0 hR) rfl wm_9_0 rfl dX6_cheapest_95 rfl ?_
      refine Go_getIN (q := 101) (k := 5) (host := "EndsRound") C ci4 iw_4 kE_21 rfl nw_20 rfl dX6_cheapest_98 rfl ?_
      refine Go_icmp_ge (t := 130) (q := 104) C hw dX6_cheapest_101 rfl rfl (fun hw => ?_) (fun hw => ?_)
      · refine Go_iinc2 (q := 133) (kp := 2) (cst := (1 : Int32)) C dX6_cheapest_130 rfl rfl (by decide) rfl (fun x130_11 e_x130_11 => ?_)
        have hw := hw x130_11 e_x130_11
        refine Go_lve (lv' := [(2, .int x130_11), (0, .ref (Gad G (50))), (1, .int v1), (3, .int v3), (4, .int v4)]) rfl ?_
        refine Go_goto (q := 33) C dX6_cheapest_133 rfl ?_
        refine Go_lvp [1, 2, 0] rfl ?_
        exact hk33 _ _ hR hw
      · refine Go_aload_n (q := 105) C 0 rfl dX6_cheapest_104 rfl ?_
        refine Go_getA (q := 108) (k := 0) C ci6 iw_6 kE_50 (rE_50_0 hR) rfl wm_9_0 rfl dX6_cheapest_105 rfl ?_
        refine Go_iload_n (q := 109) C 3 rfl dX6_cheapest_108 rfl ?_
        refine Go_aload_n (q := 110) C 0 rfl dX6_cheapest_109 rfl ?_
        refine Go_getA (q := 113) (k := 5) C ci6 iw_6 kE_50 (rE_50_5 hR) rfl wm_8_21 rfl dX6_cheapest_110 rfl ?_
        refine Go_iload_n (q := 114) C 2 rfl dX6_cheapest_113 rfl ?_
        refine Go_iconst (q := 115) (v := (1 : Int32)) C dX6_cheapest_114 rfl rfl ?_
        refine Go_iadd (q := 116) C dX6_cheapest_115 rfl ?_
        refine Go_callSN_I (av := (fun ad => [.ref (ad (53)), .int (v2 + (1 : Int32))])) (st := [.int v3, .ref (Gad G (21))]) (C := C) (hM := c_X11_cell (Gl G) (ok_ln kE_53) hR hw) (host := "EndsRound") (hnw := nw_95) (hini := wm_1_2) (hst2 := wm_10_22) (hcode := wm_10_23) (n := 2) (hd := by decide +kernel) (hr0 := ⟨rfl, rfl⟩) (hroom := ⟨by first | decide | (dsimp only; omega), by first | decide | (dsimp only; omega)⟩) (hlen := rfl) (hst := rfl) (hW := Nat.le_of_ble_eq_true rfl) (hdg := dX6_cheapest_116) (q := 119) (hq := rfl) (fun r116_13 S116_12 hw hR => ?_)
        refine Go_callV_I (av := (fun ad => [.int v3, .int r116_13])) (st := []) (C := C) (hM := c_X4_areRhyming (Gl G) isE4_21 hR hw) (hlk := wm_47_5) (hini := wm_2_0) (hins := wm_23_3) (hsel := wm_23_4) (hcode := wm_23_5) (ho := kE_21) (hci := rfl) (hc13 := by decide) (n := 2) (hd := by decide +kernel) (hr0 := ⟨rfl, rfl⟩) (hroom := ⟨by first | decide | (dsimp only; omega), by first | decide | (dsimp only; omega)⟩) (hlen := rfl) (hst := rfl) (hW := Nat.le_of_ble_eq_true rfl) (hdg := dX6_cheapest_119) (q := 122) (hq := rfl) (fun r119_15 S119_14 hw hR => ?_)
        refine Go_if_ne (t := 130) (q := 125) C hw dX6_cheapest_122 rfl rfl (fun hw => ?_) (fun hw => ?_)
        · refine Go_aload_n (q := 126) C 0 rfl dX6_cheapest_125 rfl ?_
          refine Go_iload_n (q := 127) C 1 rfl dX6_cheapest_126 rfl ?_
          refine Go_callV_V (av := (fun ad => [.int v1])) (st := []) (C := C) (hM := c_X6_dropBroken (Gl G) hR hw) (hlk := wm_47_6) (hini := wm_2_16) (hins := wm_47_7) (hsel := wm_47_8) (hcode := wm_47_9) (ho := kE_50) (hci := rfl) (hc13 := by decide) (n := 1) (hd := by decide +kernel) (hr0 := ⟨rfl, rfl⟩) (hroom := ⟨by first | decide | (dsimp only; omega), by first | decide | (dsimp only; omega)⟩) (hlen := rfl) (hst := rfl) (hW := Nat.le_of_ble_eq_true rfl) (hdg := dX6_cheapest_127) (q := 130) (hq := rfl) (fun S127_16 hw hR => ?_)
          refine Go_iinc2 (q := 133) (kp := 2) (cst := (1 : Int32)) C dX6_cheapest_130 rfl rfl (by decide) rfl (fun x130_17 e_x130_17 => ?_)
          have hw := hw x130_17 e_x130_17
          refine Go_lve (lv' := [(2, .int x130_17), (0, .ref (Gad G (50))), (1, .int v1), (3, .int v3), (4, .int v4)]) rfl ?_
          refine Go_goto (q := 33) C dX6_cheapest_133 rfl ?_
          refine Go_lvp [1, 2, 0] rfl ?_
          exact hk33 _ _ hR hw
        · refine Go_iinc2 (q := 133) (kp := 2) (cst := (1 : Int32)) C dX6_cheapest_130 rfl rfl (by decide) rfl (fun x130_18 e_x130_18 => ?_)
          have hw := hw x130_18 e_x130_18
          refine Go_lve (lv' := [(2, .int x130_18), (0, .ref (Gad G (50))), (1, .int v1), (3, .int v3), (4, .int v4)]) rfl ?_
          refine Go_goto (q := 33) C dX6_cheapest_133 rfl ?_
          refine Go_lvp [1, 2, 0] rfl ?_
          exact hk33 _ _ hR hw
    · refine Go_aload_n (q := 64) C 0 rfl dX6_cheapest_63 rfl ?_
      refine Go_getA (q := 67) (k := 7) C ci6 iw_6 kE_50 (rE_50_7 hR) rfl wm_8_23 rfl dX6_cheapest_64 rfl ?_
      refine Go_iload (q := 69) C 4 rfl dX6_cheapest_67 rfl ?_
      refine Go_callSN_I (av := (fun ad => [.ref (ad (55)), .int v4])) (st := []) (C := C) (hM := c_X11_cell (Gl G) (ok_ln kE_55) hR hw) (host := "EndsRound") (hnw := nw_95) (hini := wm_1_2) (hst2 := wm_10_22) (hcode := wm_10_23) (n := 2) (hd := by decide +kernel) (hr0 := ⟨rfl, rfl⟩) (hroom := ⟨by first | decide | (dsimp only; omega), by first | decide | (dsimp only; omega)⟩) (hlen := rfl) (hst := rfl) (hW := Nat.le_of_ble_eq_true rfl) (hdg := dX6_cheapest_69) (q := 72) (hq := rfl) (fun r69_20 S69_19 hw hR => ?_)
      refine Go_sipush (q := 75) (v := (1000 : Int32)) C dX6_cheapest_72 rfl rfl ?_
      refine Go_icmp_ge (t := 85) (q := 78) C hw dX6_cheapest_75 rfl rfl (fun hw => ?_) (fun hw => ?_)
      · refine Go_iinc2 (q := 88) (kp := 4) (cst := (-1 : Int32)) C dX6_cheapest_85 rfl rfl (by decide) rfl (fun x85_21 e_x85_21 => ?_)
        have hw := hw x85_21 e_x85_21
        refine Go_lve (lv' := [(4, .int x85_21), (0, .ref (Gad G (50))), (1, .int v1), (2, .int v2), (3, .int v3)]) rfl ?_
        refine Go_goto (q := 58) C dX6_cheapest_88 rfl ?_
        refine Go_lvp [1, 2, 3, 4, 0] rfl ?_
        exact hk58 _ _ hR hw
      · refine Go_aload_n (q := 79) C 0 rfl dX6_cheapest_78 rfl ?_
        refine Go_iload_n (q := 80) C 3 rfl dX6_cheapest_79 rfl ?_
        refine Go_iload (q := 82) C 4 rfl dX6_cheapest_80 rfl ?_
        refine Go_callV_V (av := (fun ad => [.int v3, .int v4])) (st := []) (C := C) (hM := c_X6_offer (Gl G) hR hw) (hlk := wm_47_0) (hini := wm_2_16) (hins := wm_47_1) (hsel := wm_47_2) (hcode := wm_47_3) (ho := kE_50) (hci := rfl) (hc13 := by decide) (n := 2) (hd := by decide +kernel) (hr0 := ⟨rfl, rfl⟩) (hroom := ⟨by first | decide | (dsimp only; omega), by first | decide | (dsimp only; omega)⟩) (hlen := rfl) (hst := rfl) (hW := Nat.le_of_ble_eq_true rfl) (hdg := dX6_cheapest_82) (q := 85) (hq := rfl) (fun S82_22 hw hR => ?_)
        refine Go_iinc2 (q := 88) (kp := 4) (cst := (-1 : Int32)) C dX6_cheapest_85 rfl rfl (by decide) rfl (fun x85_23 e_x85_23 => ?_)
        have hw := hw x85_23 e_x85_23
        refine Go_lve (lv' := [(4, .int x85_23), (0, .ref (Gad G (50))), (1, .int v1), (2, .int v2), (3, .int v3)]) rfl ?_
        refine Go_goto (q := 58) C dX6_cheapest_88 rfl ?_
        refine Go_lvp [1, 2, 3, 4, 0] rfl ?_
        exact hk58 _ _ hR hw
set_option maxRecDepth 100000 in
set_option maxHeartbeats 4000000 in
theorem g_X6_cheapest_33 {G : GC} (C : Cx G cX6_cheapest BIG RX6 5 (some .int) rm_X6_cheapest shE NE) {Q : Int32 → St → Prop} (hQ : QI G RCE Q) (v1 : Int32) (v2 : Int32) {S : St} (hR : RCE S) (hw : w_X6_cheapest_33 Q v1 v2 S) : Go G 5 33 [] [(0, .ref (Gad G (50))), (1, .int v1), (2, .int v2)] S := by
  obtain ⟨n, hw⟩ := hw
  induction n generalizing v2 S with
  | zero => exact hw.elim
  | succ n ih =>
    have hw : b_X6_cheapest_33 Q v1 (lpn (fun _ _ => False) (b_X6_cheapest_33 Q v1) n) v2 S := hw
    generalize lpn (fun _ _ => False) (b_X6_cheapest_33 Q v1) n = kf at hw ih
    have hk33 := fun (v2 : Int32) (S : St) (hR : RCE S) hw => ih v2 hR hw
    unfold b_X6_cheapest_33 at hw
    refine Go_iload_n (q := 34) C 2 rfl dX6_cheapest_33 rfl ?_
    refine Go_aload_n (q := 35) C 0 rfl dX6_cheapest_34 rfl ?_
    refine Go_getA (q := 38) (k := 0) C ci6 iw_6 kE_50 (rE_50_0 hR) rfl wm_9_0 rfl dX6_cheapest_35 rfl ?_
    refine Go_getIN (q := 41) (k := 5) (host := "EndsRound") C ci4 iw_4 kE_21 rfl nw_20 rfl dX6_cheapest_38 rfl ?_
    refine Go_icmp_ge (t := 136) (q := 44) C hw dX6_cheapest_41 rfl rfl (fun hw => ?_) (fun hw => ?_)
    · refine Go_aload_n (q := 137) C 0 rfl dX6_cheapest_136 rfl ?_
      refine Go_getA (q := 140) (k := 7) C ci6 iw_6 kE_50 (rE_50_7 hR) rfl wm_8_23 rfl dX6_cheapest_137 rfl ?_
      refine Go_iload_n (q := 141) C 1 rfl dX6_cheapest_140 rfl ?_
      refine Go_callSN_I (av := (fun ad => [.ref (ad (55)), .int v1])) (st := []) (C := C) (hM := c_X11_cell (Gl G) (ok_ln kE_55) hR hw) (host := "EndsRound") (hnw := nw_95) (hini := wm_1_2) (hst2 := wm_10_22) (hcode := wm_10_23) (n := 2) (hd := by decide +kernel) (hr0 := ⟨rfl, rfl⟩) (hroom := ⟨by first | decide | (dsimp only; omega), by first | decide | (dsimp only; omega)⟩) (hlen := rfl) (hst := rfl) (hW := Nat.le_of_ble_eq_true rfl) (hdg := dX6_cheapest_141) (q := 144) (hq := rfl) (fun r141_5 S141_4 hw hR => ?_)
      refine Go_sipush (q := 147) (v := (1000 : Int32)) C dX6_cheapest_144 rfl rfl ?_
      refine Go_icmp_ge (t := 161) (q := 150) C hw dX6_cheapest_147 rfl rfl (fun hw => ?_) (fun hw => ?_)
      · refine Go_iconst (q := 162) (v := (-1 : Int32)) C dX6_cheapest_161 rfl rfl ?_
        exact Go_iret C hQ hR hw dX6_cheapest_162
      · refine Go_aload_n (q := 151) C 0 rfl dX6_cheapest_150 rfl ?_
        refine Go_getA (q := 154) (k := 7) C ci6 iw_6 kE_50 (rE_50_7 hR) rfl wm_8_23 rfl dX6_cheapest_151 rfl ?_
        refine Go_iload_n (q := 155) C 1 rfl dX6_cheapest_154 rfl ?_
        refine Go_callSN_I (av := (fun ad => [.ref (ad (55)), .int v1])) (st := []) (C := C) (hM := c_X11_cell (Gl G) (ok_ln kE_55) hR hw) (host := "EndsRound") (hnw := nw_95) (hini := wm_1_2) (hst2 := wm_10_22) (hcode := wm_10_23) (n := 2) (hd := by decide +kernel) (hr0 := ⟨rfl, rfl⟩) (hroom := ⟨by first | decide | (dsimp only; omega), by first | decide | (dsimp only; omega)⟩) (hlen := rfl) (hst := rfl) (hW := Nat.le_of_ble_eq_true rfl) (hdg := dX6_cheapest_155) (q := 158) (hq := rfl) (fun r155_7 S155_6 hw hR => ?_)
        refine Go_goto (q := 162) C dX6_cheapest_158 rfl ?_
        exact Go_iret C hQ hR hw dX6_cheapest_162
    · refine Go_aload_n (q := 45) C 0 rfl dX6_cheapest_44 rfl ?_
      refine Go_getA (q := 48) (k := 5) C ci6 iw_6 kE_50 (rE_50_5 hR) rfl wm_8_21 rfl dX6_cheapest_45 rfl ?_
      refine Go_iload_n (q := 49) C 2 rfl dX6_cheapest_48 rfl ?_
      refine Go_callSN_I (av := (fun ad => [.ref (ad (53)), .int v2])) (st := []) (C := C) (hM := c_X11_cell (Gl G) (ok_ln kE_53) hR hw) (host := "EndsRound") (hnw := nw_95) (hini := wm_1_2) (hst2 := wm_10_22) (hcode := wm_10_23) (n := 2) (hd := by decide +kernel) (hr0 := ⟨rfl, rfl⟩) (hroom := ⟨by first | decide | (dsimp only; omega), by first | decide | (dsimp only; omega)⟩) (hlen := rfl) (hst := rfl) (hW := Nat.le_of_ble_eq_true rfl) (hdg := dX6_cheapest_49) (q := 52) (hq := rfl) (fun r49_9 S49_8 hw hR => ?_)
      refine Go_istore_n (q := 53) (lv' := [(3, .int r49_9), (0, .ref (Gad G (50))), (1, .int v1), (2, .int v2)]) C rfl dX6_cheapest_52 (by decide) rfl rfl ?_
      refine Go_iload_n (q := 54) C 2 rfl dX6_cheapest_53 rfl ?_
      refine Go_iconst (q := 55) (v := (1 : Int32)) C dX6_cheapest_54 rfl rfl ?_
      refine Go_isub (q := 56) C dX6_cheapest_55 rfl ?_
      refine Go_topi (fun x56_10 e_x56_10 => ?_)
      have hw := hw x56_10 e_x56_10
      refine Go_istore (q := 58) (lv' := [(4, .int x56_10), (3, .int r49_9), (0, .ref (Gad G (50))), (1, .int v1), (2, .int v2)]) C dX6_cheapest_56 (by decide) rfl rfl ?_
      refine Go_lvp [2, 3, 4, 1, 0] rfl ?_
      exact g_X6_cheapest_58 C hQ _ _ _ hk33 _ hR hw
set_option maxRecDepth 100000 in
set_option maxHeartbeats 4000000 in
theorem c_X6_cheapest (l : Launch) {S : St} {Q : Int32 → St → Prop} (hR : RCE S) (hw : w_X6_cheapest S Q) : MetI l yX6_cheapest (wB yX6_cheapest cX6_cheapest 5 (some .int)) rm_X6_cheapest shE NE RCE (fun ad => [.ref (ad (50))]) S Q := by
  refine MetI_of (cc := cX6_cheapest) (maxL := 5) (ret := (some .int)) (plainFor_of_name (by decide)) (fun _ => Nat.le_of_ble_eq_true rfl) (fun G C hl hQ => ?_)
  subst hl
  have C : Cx G cX6_cheapest BIG RX6 5 (some .int) rm_X6_cheapest shE NE := C
  show Go G 5 0 [] [(0, .ref (Gad G (50)))] S
  unfold w_X6_cheapest at hw
  refine Go_iconst (q := 1) (v := (1 : Int32)) C dX6_cheapest_0 rfl rfl ?_
  refine Go_aload_n (q := 2) C 0 rfl dX6_cheapest_1 rfl ?_
  refine Go_getA (q := 5) (k := 0) C ci6 iw_6 kE_50 (rE_50_0 hR) rfl wm_9_0 rfl dX6_cheapest_2 rfl ?_
  refine Go_getIN (q := 8) (k := 0) (host := "EndsRound") C ci4 iw_4 kE_21 rfl nw_9 rfl dX6_cheapest_5 rfl ?_
  refine Go_ishl (q := 9) C dX6_cheapest_8 rfl ?_
  refine Go_iconst (q := 10) (v := (1 : Int32)) C dX6_cheapest_9 rfl rfl ?_
  refine Go_isub (q := 11) C dX6_cheapest_10 rfl ?_
  refine Go_topi (fun x11_1 e_x11_1 => ?_)
  have hw := hw x11_1 e_x11_1
  refine Go_istore_n (q := 12) (lv' := [(1, .int x11_1), (0, .ref (Gad G (50)))]) C rfl dX6_cheapest_11 (by decide) rfl rfl ?_
  refine Go_aload_n (q := 13) C 1 rfl dX6_cheapest_12 rfl ?_
  refine Go_getA (q := 16) (k := 7) C ci6 iw_6 kE_50 (rE_50_7 hR) rfl wm_8_23 rfl dX6_cheapest_13 rfl ?_
  refine Go_sipush (q := 19) (v := (1000 : Int32)) C dX6_cheapest_16 rfl rfl ?_
  refine Go_callSN_V (av := (fun ad => [.ref (ad (55)), .int (1000 : Int32)])) (st := []) (C := C) (hM := c_X11_blank (Gl G) (ok_ln kE_55) hR hw) (host := "EndsRound") (hnw := nw_94) (hini := wm_1_2) (hst2 := wm_10_13) (hcode := wm_10_14) (n := 2) (hd := by decide +kernel) (hr0 := ⟨rfl, rfl⟩) (hroom := ⟨by first | decide | (dsimp only; omega), by first | decide | (dsimp only; omega)⟩) (hlen := rfl) (hst := rfl) (hW := Nat.le_of_ble_eq_true rfl) (hdg := dX6_cheapest_19) (q := 22) (hq := rfl) (fun S19_2 hw hR => ?_)
  refine Go_aload_n (q := 23) C 1 rfl dX6_cheapest_22 rfl ?_
  refine Go_getA (q := 26) (k := 7) C ci6 iw_6 kE_50 (rE_50_7 hR) rfl wm_8_23 rfl dX6_cheapest_23 rfl ?_
  refine Go_iconst (q := 27) (v := (0 : Int32)) C dX6_cheapest_26 rfl rfl ?_
  refine Go_iconst (q := 28) (v := (0 : Int32)) C dX6_cheapest_27 rfl rfl ?_
  refine Go_callSN_V (av := (fun ad => [.ref (ad (55)), .int (0 : Int32), .int (0 : Int32)])) (st := []) (C := C) (hM := c_X11_put (Gl G) (ok_ln kE_55) hR hw) (host := "EndsRound") (hnw := nw_96) (hini := wm_1_2) (hst2 := wm_10_11) (hcode := wm_10_12) (n := 3) (hd := by decide +kernel) (hr0 := ⟨rfl, rfl⟩) (hroom := ⟨by first | decide | (dsimp only; omega), by first | decide | (dsimp only; omega)⟩) (hlen := rfl) (hst := rfl) (hW := Nat.le_of_ble_eq_true rfl) (hdg := dX6_cheapest_28) (q := 31) (hq := rfl) (fun S28_3 hw hR => ?_)
  refine Go_iconst (q := 32) (v := (0 : Int32)) C dX6_cheapest_31 rfl rfl ?_
  refine Go_istore_n (q := 33) (lv' := [(2, .int (0 : Int32)), (1, .int x11_1), (0, .ref (Gad G (50)))]) C rfl dX6_cheapest_32 (by decide) rfl rfl ?_
  refine Go_lvp [2, 1, 0] rfl ?_
  exact g_X6_cheapest_33 C hQ _ _ hR hw
