-- X6_giveLeast
abbrev rm_X6_giveLeast : Room := { frames := 3, cells := 0, slots := 0, locals := 72 }
set_option maxRecDepth 100000 in
set_option maxHeartbeats 4000000 in
theorem g_X6_giveLeast_2 {G : GC} (C : Cx G cX6_giveLeast BIG RX6 3 none rm_X6_giveLeast shE NE) {Q : St → Prop} (hQ : QV G RCE Q) (p0 : Int32) (v2 : Int32) {S : St} (hR : RCE S) (hw : w_X6_giveLeast_2 p0 Q v2 S) : Go G 3 2 [] [(0, .ref (Gad G (50))), (1, .int p0), (2, .int v2)] S := by
  obtain ⟨n, hw⟩ := hw
  induction n generalizing v2 S with
  | zero => exact hw.elim
  | succ n ih =>
    have hw : b_X6_giveLeast_2 p0 Q (lpn (fun _ _ => False) (b_X6_giveLeast_2 p0 Q) n) v2 S := hw
    generalize lpn (fun _ _ => False) (b_X6_giveLeast_2 p0 Q) n = kf at hw ih
    have hk2 := fun (v2 : Int32) (S : St) (hR : RCE S) hw => ih v2 hR hw
    unfold b_X6_giveLeast_2 at hw
    refine Go_iload_n (q := 3) C 2 rfl dX6_giveLeast_2 rfl ?_
    refine Go_aload_n (q := 4) C 0 rfl dX6_giveLeast_3 rfl ?_
    refine Go_getA (q := 7) (k := 0) C ci6 iw_6 kE_50 (rE_50_0 hR) rfl wm_9_0 rfl dX6_giveLeast_4 rfl ?_
    refine Go_getIN (q := 10) (k := 5) (host := "EndsRound") C ci4 iw_4 kE_21 rfl nw_20 rfl dX6_giveLeast_7 rfl ?_
    refine Go_icmp_ge (t := 40) (q := 13) C hw dX6_giveLeast_10 rfl rfl (fun hw => ?_) (fun hw => ?_)
    · exact Go_vret C hQ hR hw dX6_giveLeast_40
    · refine Go_aload_n (q := 14) C 0 rfl dX6_giveLeast_13 rfl ?_
      refine Go_getA (q := 17) (k := 3) C ci6 iw_6 kE_50 (rE_50_3 hR) rfl wm_8_19 rfl dX6_giveLeast_14 rfl ?_
      refine Go_iload_n (q := 18) C 1 rfl dX6_giveLeast_17 rfl ?_
      refine Go_iload_n (q := 19) C 2 rfl dX6_giveLeast_18 rfl ?_
      refine Go_callSN_V (av := (fun ad => [.ref (ad (51)), .int p0, .int v2])) (st := []) (C := C) (hM := c_X11_put (Gl G) (ok_ln kE_51) hR hw) (host := "EndsRound") (hnw := nw_96) (hini := wm_1_2) (hst2 := wm_10_11) (hcode := wm_10_12) (n := 3) (hd := by decide +kernel) (hr0 := ⟨rfl, rfl⟩) (hroom := ⟨by first | decide | (dsimp only; omega), by first | decide | (dsimp only; omega)⟩) (hlen := rfl) (hst := rfl) (hW := Nat.le_of_ble_eq_true rfl) (hdg := dX6_giveLeast_19) (q := 22) (hq := rfl) (fun S19_1 hw hR => ?_)
      refine Go_aload_n (q := 23) C 0 rfl dX6_giveLeast_22 rfl ?_
      refine Go_callV_I (av := (fun ad => [])) (st := []) (C := C) (hM := c_X6_cheapest (Gl G) hR hw) (hlk := wm_46_20) (hini := wm_2_16) (hins := wm_46_21) (hsel := wm_46_22) (hcode := wm_46_23) (ho := kE_50) (hci := rfl) (hc13 := by decide) (n := 0) (hd := by decide +kernel) (hr0 := ⟨rfl, rfl⟩) (hroom := ⟨by first | decide | (dsimp only; omega), by first | decide | (dsimp only; omega)⟩) (hlen := rfl) (hst := rfl) (hW := Nat.le_of_ble_eq_true rfl) (hdg := dX6_giveLeast_23) (q := 26) (hq := rfl) (fun r23_3 S23_2 hw hR => ?_)
      refine Go_aload_n (q := 27) C 0 rfl dX6_giveLeast_26 rfl ?_
      refine Go_getI (q := 30) (k := 9) C ci6 iw_6 kE_50 rfl wm_46_2 rfl dX6_giveLeast_27 rfl ?_
      refine Go_icmp_ne (t := 34) (q := 33) C hw dX6_giveLeast_30 rfl rfl (fun hw => ?_) (fun hw => ?_)
      · exact Go_vret C hQ hR hw dX6_giveLeast_33
      · refine Go_iinc2 (q := 37) (kp := 2) (cst := (1 : Int32)) C dX6_giveLeast_34 rfl rfl (by decide) rfl (fun x34_4 e_x34_4 => ?_)
        have hw := hw x34_4 e_x34_4
        refine Go_lve (lv' := [(2, .int x34_4), (0, .ref (Gad G (50))), (1, .int p0)]) rfl ?_
        refine Go_goto (q := 2) C dX6_giveLeast_37 rfl ?_
        refine Go_lvp [1, 2, 0] rfl ?_
        exact hk2 _ _ hR hw
set_option maxRecDepth 100000 in
set_option maxHeartbeats 4000000 in
theorem c_X6_giveLeast (l : Launch) {p0 : Int32} {S : St} {Q : St → Prop} (hR : RCE S) (hw : w_X6_giveLeast p0 S Q) : MetV l yX6_giveLeast (wB yX6_giveLeast cX6_giveLeast 3 none) rm_X6_giveLeast shE NE RCE (fun ad => [.ref (ad (50)), .int p0]) S Q := by
  refine MetV_of (cc := cX6_giveLeast) (maxL := 3) (ret := none) (plainFor_of_name (by decide)) (fun _ => Nat.le_of_ble_eq_true rfl) (fun G C hl hQ => ?_)
  subst hl
  have C : Cx G cX6_giveLeast BIG RX6 3 none rm_X6_giveLeast shE NE := C
  show Go G 3 0 [] [(0, .ref (Gad G (50))), (1, .int p0)] S
  unfold w_X6_giveLeast at hw
  refine Go_iconst (q := 1) (v := (0 : Int32)) C dX6_giveLeast_0 rfl rfl ?_
  refine Go_istore_n (q := 2) (lv' := [(2, .int (0 : Int32)), (0, .ref (Gad G (50))), (1, .int p0)]) C rfl dX6_giveLeast_1 (by decide) rfl rfl ?_
  refine Go_lvp [1, 2, 0] rfl ?_
  exact g_X6_giveLeast_2 C hQ p0 _ hR hw
-- X6_settle
abbrev rm_X6_settle : Room := { frames := 4, cells := 0, slots := 0, locals := 98 }
set_option maxRecDepth 100000 in
set_option maxHeartbeats 4000000 in
theorem g_X6_settle_48 {G : GC} (C : Cx G cX6_settle BIG RX6 2 none rm_X6_settle shE NE) {Q : St → Prop} (hQ : QV G RCE Q) (v1 : Int32) {S : St} (hR : RCE S) (hw : w_X6_settle_48 Q v1 S) : Go G 2 48 [] [(0, .ref (Gad G (50))), (1, .int v1)] S := by
  obtain ⟨n, hw⟩ := hw
  induction n generalizing v1 S with
  | zero => exact hw.elim
  | succ n ih =>
    have hw : b_X6_settle_48 Q (lpn (fun _ _ => False) (b_X6_settle_48 Q) n) v1 S := hw
    generalize lpn (fun _ _ => False) (b_X6_settle_48 Q) n = kf at hw ih
    have hk48 := fun (v1 : Int32) (S : St) (hR : RCE S) hw => ih v1 hR hw
    unfold b_X6_settle_48 at hw
    refine Go_iload_n (q := 49) C 1 rfl dX6_settle_48 rfl ?_
    refine Go_aload_n (q := 50) C 0 rfl dX6_settle_49 rfl ?_
    refine Go_getA (q := 53) (k := 0) C ci6 iw_6 kE_50 (rE_50_0 hR) rfl wm_9_0 rfl dX6_settle_50 rfl ?_
    refine Go_getIN (q := 56) (k := 0) (host := "EndsRound") C ci4 iw_4 kE_21 rfl nw_9 rfl dX6_settle_53 rfl ?_
    refine Go_icmp_ge (t := 78) (q := 59) C hw dX6_settle_56 rfl rfl (fun hw => ?_) (fun hw => ?_)
    · exact Go_vret C hQ hR hw dX6_settle_78
    · refine Go_aload_n (q := 60) C 0 rfl dX6_settle_59 rfl ?_
      refine Go_getI (q := 63) (k := 9) C ci6 iw_6 kE_50 rfl wm_46_2 rfl dX6_settle_60 rfl ?_
      refine Go_iconst (q := 64) (v := (-1 : Int32)) C dX6_settle_63 rfl rfl ?_
      refine Go_icmp_eq (t := 78) (q := 67) C hw dX6_settle_64 rfl rfl (fun hw => ?_) (fun hw => ?_)
      · exact Go_vret C hQ hR hw dX6_settle_78
      · refine Go_aload_n (q := 68) C 0 rfl dX6_settle_67 rfl ?_
        refine Go_iload_n (q := 69) C 1 rfl dX6_settle_68 rfl ?_
        refine Go_callV_V (av := (fun ad => [.int v1])) (st := []) (C := C) (hM := c_X6_giveLeast (Gl G) hR hw) (hlk := wm_47_10) (hini := wm_2_16) (hins := wm_47_11) (hsel := wm_47_12) (hcode := wm_47_13) (ho := kE_50) (hci := rfl) (hc13 := by decide) (n := 1) (hd := by decide +kernel) (hr0 := ⟨rfl, rfl⟩) (hroom := ⟨by first | decide | (dsimp only; omega), by first | decide | (dsimp only; omega)⟩) (hlen := rfl) (hst := rfl) (hW := Nat.le_of_ble_eq_true rfl) (hdg := dX6_settle_69) (q := 72) (hq := rfl) (fun S69_9 hw hR => ?_)
        refine Go_iinc2 (q := 75) (kp := 1) (cst := (1 : Int32)) C dX6_settle_72 rfl rfl (by decide) rfl (fun x72_10 e_x72_10 => ?_)
        have hw := hw x72_10 e_x72_10
        refine Go_lve (lv' := [(1, .int x72_10), (0, .ref (Gad G (50)))]) rfl ?_
        refine Go_goto (q := 48) C dX6_settle_75 rfl ?_
        refine Go_lvp [1, 0] rfl ?_
        exact hk48 _ _ hR hw
set_option maxRecDepth 100000 in
set_option maxHeartbeats 4000000 in
theorem c_X6_settle (l : Launch) {S : St} {Q : St → Prop} (hR : RCE S) (hw : w_X6_settle S Q) : MetV l yX6_settle (wB yX6_settle cX6_settle 2 none) rm_X6_settle shE NE RCE (fun ad => [.ref (ad (50))]) S Q := by
  refine MetV_of (cc := cX6_settle) (maxL := 2) (ret := none) (plainFor_of_name (by decide)) (fun _ => Nat.le_of_ble_eq_true rfl) (fun G C hl hQ => ?_)
  subst hl
  have C : Cx G cX6_settle BIG RX6 2 none rm_X6_settle shE NE := C
  show Go G 2 0 [] [(0, .ref (Gad G (50)))] S
  unfold w_X6_settle at hw
  refine Go_aload_n (q := 1) C 0 rfl dX6_settle_0 rfl ?_
  refine Go_iconst (q := 2) (v := (-1 : Int32)) C dX6_settle_1 rfl rfl ?_
  refine Go_putI (q := 5) (k := 9) C ci6 iw_6 kE_50 rfl wm_46_2 rfl rfl (ci6.2.2.2.1 9 (by decide)) rfl rfl dX6_settle_2 rfl ?_
  refine Go_S (fun S2_1 e_S2_1 => ?_)
  have hw := hw S2_1 e_S2_1
  have hR := rcE e_S2_1 hR
  refine Go_aload_n (q := 6) C 0 rfl dX6_settle_5 rfl ?_
  refine Go_getA (q := 9) (k := 0) C ci6 iw_6 kE_50 (rE_50_0 hR) rfl wm_9_0 rfl dX6_settle_6 rfl ?_
  refine Go_getIN (q := 12) (k := 0) (host := "EndsRound") C ci4 iw_4 kE_21 rfl nw_9 rfl dX6_settle_9 rfl ?_
  refine Go_bipush (q := 14) (v := (7 : Int32)) C dX6_settle_12 rfl rfl ?_
  refine Go_icmp_le (t := 18) (q := 17) C hw dX6_settle_14 rfl rfl (fun hw => ?_) (fun hw => ?_)
  · refine Go_aload_n (q := 19) C 0 rfl dX6_settle_18 rfl ?_
    refine Go_callV_V (av := (fun ad => [])) (st := []) (C := C) (hM := c_X6_countChanges (Gl G)  hR hw) (hlk := wm_46_7) (hini := wm_2_16) (hins := wm_46_8) (hsel := wm_46_9) (hcode := wm_46_10) (ho := kE_50) (hci := rfl) (hc13 := by decide) (n := 0) (hd := by decide +kernel) (hr0 := ⟨rfl, rfl⟩) (hroom := ⟨by first | decide | (dsimp only; omega), by first | decide | (dsimp only; omega)⟩) (hlen := rfl) (hst := rfl) (hW := Nat.le_of_ble_eq_true rfl) (hdg := dX6_settle_19) (q := 22) (hq := rfl) (fun S19_2 hw hR => ?_)
    refine Go_aload_n (q := 23) C 0 rfl dX6_settle_22 rfl ?_
    refine Go_callV_V (av := (fun ad => [])) (st := []) (C := C) (hM := c_X6_sortWords (Gl G)  hR hw) (hlk := wm_46_12) (hini := wm_2_16) (hins := wm_46_13) (hsel := wm_46_14) (hcode := wm_46_15) (ho := kE_50) (hci := rfl) (hc13 := by decide) (n := 0) (hd := by decide +kernel) (hr0 := ⟨rfl, rfl⟩) (hroom := ⟨by first | decide | (dsimp only; omega), by first | decide | (dsimp only; omega)⟩) (hlen := rfl) (hst := rfl) (hW := Nat.le_of_ble_eq_true rfl) (hdg := dX6_settle_23) (q := 26) (hq := rfl) (fun S23_3 hw hR => ?_)
    refine Go_aload_n (q := 27) C 0 rfl dX6_settle_26 rfl ?_
    refine Go_callV_V (av := (fun ad => [])) (st := []) (C := C) (hM := c_X6_findUnbroken (Gl G)  hR hw) (hlk := wm_46_16) (hini := wm_2_16) (hins := wm_46_17) (hsel := wm_46_18) (hcode := wm_46_19) (ho := kE_50) (hci := rfl) (hc13 := by decide) (n := 0) (hd := by decide +kernel) (hr0 := ⟨rfl, rfl⟩) (hroom := ⟨by first | decide | (dsimp only; omega), by first | decide | (dsimp only; omega)⟩) (hlen := rfl) (hst := rfl) (hW := Nat.le_of_ble_eq_true rfl) (hdg := dX6_settle_27) (q := 30) (hq := rfl) (fun S27_4 hw hR => ?_)
    refine Go_aload_n (q := 31) C 0 rfl dX6_settle_30 rfl ?_
    refine Go_getA (q := 34) (k := 3) C ci6 iw_6 kE_50 (rE_50_3 hR) rfl wm_8_19 rfl dX6_settle_31 rfl ?_
    refine Go_iconst (q := 35) (v := (-1 : Int32)) C dX6_settle_34 rfl rfl ?_
    refine Go_callSN_V (av := (fun ad => [.ref (ad (51)), .int (-1 : Int32)])) (st := []) (C := C) (hM := c_X11_blank (Gl G) (ok_ln kE_51) hR hw) (host := "EndsRound") (hnw := nw_94) (hini := wm_1_2) (hst2 := wm_10_13) (hcode := wm_10_14) (n := 2) (hd := by decide +kernel) (hr0 := ⟨rfl, rfl⟩) (hroom := ⟨by first | decide | (dsimp only; omega), by first | decide | (dsimp only; omega)⟩) (hlen := rfl) (hst := rfl) (hW := Nat.le_of_ble_eq_true rfl) (hdg := dX6_settle_35) (q := 38) (hq := rfl) (fun S35_5 hw hR => ?_)
    refine Go_aload_n (q := 39) C 0 rfl dX6_settle_38 rfl ?_
    refine Go_aload_n (q := 40) C 0 rfl dX6_settle_39 rfl ?_
    refine Go_callV_I (av := (fun ad => [])) (st := [.ref (Gad G (50))]) (C := C) (hM := c_X6_cheapest (Gl G)  hR hw) (hlk := wm_46_20) (hini := wm_2_16) (hins := wm_46_21) (hsel := wm_46_22) (hcode := wm_46_23) (ho := kE_50) (hci := rfl) (hc13 := by decide) (n := 0) (hd := by decide +kernel) (hr0 := ⟨rfl, rfl⟩) (hroom := ⟨by first | decide | (dsimp only; omega), by first | decide | (dsimp only; omega)⟩) (hlen := rfl) (hst := rfl) (hW := Nat.le_of_ble_eq_true rfl) (hdg := dX6_settle_40) (q := 43) (hq := rfl) (fun r40_7 S40_6 hw hR => ?_)
    refine Go_putI (q := 46) (k := 9) C ci6 iw_6 kE_50 rfl wm_46_2 rfl rfl (ci6.2.2.2.1 9 (by decide)) rfl rfl dX6_settle_43 rfl ?_
    refine Go_S (fun S43_8 e_S43_8 => ?_)
    have hw := hw S43_8 e_S43_8
    have hR := rcE e_S43_8 hR
    refine Go_iconst (q := 47) (v := (0 : Int32)) C dX6_settle_46 rfl rfl ?_
    refine Go_istore_n (q := 48) (lv' := [(1, .int (0 : Int32)), (0, .ref (Gad G (50)))]) C rfl dX6_settle_47 (by decide) rfl rfl ?_
    refine Go_lvp [1, 0] rfl ?_
    exact g_X6_settle_48 C hQ _ hR hw
  · exact Go_vret C hQ hR hw dX6_settle_17
-- X6_howMany
abbrev rm_X6_howMany : Room := { frames := 5, cells := 0, slots := 0, locals := 119 }
set_option maxRecDepth 100000 in
set_option maxHeartbeats 4000000 in
theorem c_X6_howMany (l : Launch) {S : St} {Q : Int32 → St → Prop} (hR : RCE S) (hw : w_X6_howMany S Q) : MetI l yX6_howMany (wB yX6_howMany cX6_howMany 1 (some .int)) rm_X6_howMany shE NE RCE (fun ad => [.ref (ad (50))]) S Q := by
  refine MetI_of (cc := cX6_howMany) (maxL := 1) (ret := (some .int)) (plainFor_of_name (by decide)) (fun _ => Nat.le_of_ble_eq_true rfl) (fun G C hl hQ => ?_)
  subst hl
  have C : Cx G cX6_howMany BIG RX6 1 (some .int) rm_X6_howMany shE NE := C
  show Go G 1 0 [] [(0, .ref (Gad G (50)))] S
  unfold w_X6_howMany at hw
  refine Go_aload_n (q := 1) C 0 rfl dX6_howMany_0 rfl ?_
  refine Go_getI (q := 4) (k := 8) C ci6 iw_6 kE_50 rfl wm_24_9 rfl dX6_howMany_1 rfl ?_
  refine Go_if_ne (t := 16) (q := 7) C hw dX6_howMany_4 rfl rfl (fun hw => ?_) (fun hw => ?_)
  · refine Go_aload_n (q := 8) C 0 rfl dX6_howMany_7 rfl ?_
    refine Go_callV_V (av := (fun ad => [])) (st := []) (C := C) (hM := c_X6_settle (Gl G)  hR hw) (hlk := wm_46_3) (hini := wm_2_16) (hins := wm_46_4) (hsel := wm_46_5) (hcode := wm_46_6) (ho := kE_50) (hci := rfl) (hc13 := by decide) (n := 0) (hd := by decide +kernel) (hr0 := ⟨rfl, rfl⟩) (hroom := ⟨by first | decide | (dsimp only; omega), by first | decide | (dsimp only; omega)⟩) (hlen := rfl) (hst := rfl) (hW := Nat.le_of_ble_eq_true rfl) (hdg := dX6_howMany_8) (q := 11) (hq := rfl) (fun S8_1 hw hR => ?_)
    refine Go_aload_n (q := 12) C 0 rfl dX6_howMany_11 rfl ?_
    refine Go_iconst (q := 13) (v := (1 : Int32)) C dX6_howMany_12 rfl rfl ?_
    refine Go_putI (q := 16) (k := 8) C ci6 iw_6 kE_50 rfl wm_24_9 rfl rfl (ci6.2.2.2.1 8 (by decide)) rfl rfl dX6_howMany_13 rfl ?_
    refine Go_S (fun S13_2 e_S13_2 => ?_)
    have hw := hw S13_2 e_S13_2
    have hR := rcE e_S13_2 hR
    refine Go_aload_n (q := 17) C 0 rfl dX6_howMany_16 rfl ?_
    refine Go_getI (q := 20) (k := 9) C ci6 iw_6 kE_50 rfl wm_46_2 rfl dX6_howMany_17 rfl ?_
    exact Go_iret C hQ hR hw dX6_howMany_20
  · refine Go_aload_n (q := 17) C 0 rfl dX6_howMany_16 rfl ?_
    refine Go_getI (q := 20) (k := 9) C ci6 iw_6 kE_50 rfl wm_46_2 rfl dX6_howMany_17 rfl ?_
    exact Go_iret C hQ hR hw dX6_howMany_20
-- X11_mend
abbrev rm_X11_mend : Room := { frames := 6, cells := 0, slots := 0, locals := 139 }
set_option maxRecDepth 100000 in
set_option maxHeartbeats 4000000 in
theorem c_X11_mend (l : Launch) {S : St} {Q : Int32 → St → Prop} (hR : RCE S) (hw : w_X11_mend S Q) : MetI l yX11_mend (wB yX11_mend cX11_mend 1 (some .int)) rm_X11_mend shE NE RCE (fun ad => [.ref (ad (0))]) S Q := by
  refine MetI_of (cc := cX11_mend) (maxL := 1) (ret := (some .int)) (plainFor_of_name (by decide)) (fun _ => Nat.le_of_ble_eq_true rfl) (fun G C hl hQ => ?_)
  subst hl
  have C : Cx G cX11_mend BIG RX11 1 (some .int) rm_X11_mend shE NE := C
  show Go G 1 0 [] [(0, .ref (Gad G (0)))] S
  unfold w_X11_mend at hw
  refine Go_aload_n (q := 1) C 0 rfl dX11_mend_0 rfl ?_
  refine Go_getA (q := 4) (k := 6) C ci11 iw_11 kE_0 (rE_0_6 hR) rfl wm_2_17 rfl dX11_mend_1 rfl ?_
  refine Go_callV_I (av := (fun ad => [])) (st := []) (C := C) (hM := c_X6_howMany (Gl G)  hR hw) (hlk := wm_45_22) (hini := wm_2_16) (hins := wm_45_23) (hsel := wm_46_0) (hcode := wm_46_1) (ho := kE_50) (hci := rfl) (hc13 := by decide) (n := 0) (hd := by decide +kernel) (hr0 := ⟨rfl, rfl⟩) (hroom := ⟨by first | decide | (dsimp only; omega), by first | decide | (dsimp only; omega)⟩) (hlen := rfl) (hst := rfl) (hW := Nat.le_of_ble_eq_true rfl) (hdg := dX11_mend_4) (q := 7) (hq := rfl) (fun r4_2 S4_1 hw hR => ?_)
  exact Go_iret C hQ hR hw dX11_mend_7
-- X11_mended
abbrev rm_X11_mended : Room := { frames := 6, cells := 0, slots := 0, locals := 139 }
set_option maxRecDepth 100000 in
set_option maxHeartbeats 4000000 in
theorem c_X11_mended (l : Launch) {p0 : Int32} {S : St} {Q : Int32 → St → Prop} (hR : RCE S) (hw : w_X11_mended p0 S Q) : MetI l yX11_mended (wB yX11_mended cX11_mended 2 (some .int)) rm_X11_mended shE NE RCE (fun ad => [.ref (ad (0)), .int p0]) S Q := by
  refine MetI_of (cc := cX11_mended) (maxL := 2) (ret := (some .int)) (plainFor_of_name (by decide)) (fun _ => Nat.le_of_ble_eq_true rfl) (fun G C hl hQ => ?_)
  subst hl
  have C : Cx G cX11_mended BIG RX11 2 (some .int) rm_X11_mended shE NE := C
  show Go G 2 0 [] [(0, .ref (Gad G (0))), (1, .int p0)] S
  unfold w_X11_mended at hw
  refine Go_aload_n (q := 1) C 0 rfl dX11_mended_0 rfl ?_
  refine Go_iload_n (q := 2) C 1 rfl dX11_mended_1 rfl ?_
  refine Go_callV_I (av := (fun ad => [.int p0])) (st := []) (C := C) (hM := c_X11_isEnd (Gl G)  hR hw) (hlk := wm_31_13) (hini := wm_1_2) (hins := wm_31_14) (hsel := wm_31_15) (hcode := wm_31_16) (ho := kE_0) (hci := rfl) (hc13 := by decide) (n := 1) (hd := by decide +kernel) (hr0 := ⟨rfl, rfl⟩) (hroom := ⟨by first | decide | (dsimp only; omega), by first | decide | (dsimp only; omega)⟩) (hlen := rfl) (hst := rfl) (hW := Nat.le_of_ble_eq_true rfl) (hdg := dX11_mended_2) (q := 5) (hq := rfl) (fun r2_2 S2_1 hw hR => ?_)
  refine Go_if_eq (t := 33) (q := 8) C hw dX11_mended_5 rfl rfl (fun hw => ?_) (fun hw => ?_)
  · refine Go_iconst (q := 34) (v := (-1 : Int32)) C dX11_mended_33 rfl rfl ?_
    exact Go_iret C hQ hR hw dX11_mended_34
  · refine Go_aload_n (q := 9) C 0 rfl dX11_mended_8 rfl ?_
    refine Go_getA (q := 12) (k := 6) C ci11 iw_11 kE_0 (rE_0_6 hR) rfl wm_2_17 rfl dX11_mended_9 rfl ?_
    refine Go_callV_I (av := (fun ad => [])) (st := []) (C := C) (hM := c_X6_howMany (Gl G)  hR hw) (hlk := wm_45_22) (hini := wm_2_16) (hins := wm_45_23) (hsel := wm_46_0) (hcode := wm_46_1) (ho := kE_50) (hci := rfl) (hc13 := by decide) (n := 0) (hd := by decide +kernel) (hr0 := ⟨rfl, rfl⟩) (hroom := ⟨by first | decide | (dsimp only; omega), by first | decide | (dsimp only; omega)⟩) (hlen := rfl) (hst := rfl) (hW := Nat.le_of_ble_eq_true rfl) (hdg := dX11_mended_12) (q := 15) (hq := rfl) (fun r12_4 S12_3 hw hR => ?_)
    refine Go_iconst (q := 16) (v := (-1 : Int32)) C dX11_mended_15 rfl rfl ?_
    refine Go_icmp_eq (t := 33) (q := 19) C hw dX11_mended_16 rfl rfl (fun hw => ?_) (fun hw => ?_)
    · refine Go_iconst (q := 34) (v := (-1 : Int32)) C dX11_mended_33 rfl rfl ?_
      exact Go_iret C hQ hR hw dX11_mended_34
    · refine Go_aload_n (q := 20) C 0 rfl dX11_mended_19 rfl ?_
      refine Go_getA (q := 23) (k := 6) C ci11 iw_11 kE_0 (rE_0_6 hR) rfl wm_2_17 rfl dX11_mended_20 rfl ?_
      refine Go_getAN (q := 26) (k := 3) (host := "EndsRound") C ci6 iw_6 kE_50 (rE_50_3 hR) rfl nw_61 rfl dX11_mended_23 rfl ?_
      refine Go_iload_n (q := 27) C 1 rfl dX11_mended_26 rfl ?_
      refine Go_callS_I (av := (fun ad => [.ref (ad (51)), .int p0])) (st := []) (C := C) (hM := c_X11_cell (Gl G) (ok_ln kE_51) hR hw) (hlk := wm_31_17) (hini := wm_1_2) (hst2 := wm_10_22) (hcode := wm_10_23) (n := 2) (hd := by decide +kernel) (hr0 := ⟨rfl, rfl⟩) (hroom := ⟨by first | decide | (dsimp only; omega), by first | decide | (dsimp only; omega)⟩) (hlen := rfl) (hst := rfl) (hW := Nat.le_of_ble_eq_true rfl) (hdg := dX11_mended_27) (q := 30) (hq := rfl) (fun r27_6 S27_5 hw hR => ?_)
      refine Go_goto (q := 34) C dX11_mended_30 rfl ?_
      exact Go_iret C hQ hR hw dX11_mended_34
-- X11_markAt
abbrev rm_X11_markAt : Room := { frames := 0, cells := 0, slots := 0, locals := 0 }
set_option maxRecDepth 100000 in
set_option maxHeartbeats 4000000 in
theorem c_X11_markAt (l : Launch) {p0 : Int32} {S : St} {Q : Option Nat → St → Prop} (hR : RCE S) (hw : w_X11_markAt p0 S Q) : MetO l yX11_markAt (wB yX11_markAt cX11_markAt 2 (some (.object "EndsRound$Mark"))) rm_X11_markAt shE NE RCE (fun ad => [.ref (ad (0)), .int p0]) S Q := by
  refine MetO_of (cc := cX11_markAt) (maxL := 2) (ret := (some (.object "EndsRound$Mark"))) (plainFor_of_name (by decide)) (fun _ => Nat.le_of_ble_eq_true rfl) (fun G C hl hQ => ?_)
  subst hl
  have C : Cx G cX11_markAt BIG RX11 2 (some (.object "EndsRound$Mark")) rm_X11_markAt shE NE := C
  show Go G 2 0 [] [(0, .ref (Gad G (0))), (1, .int p0)] S
  unfold w_X11_markAt at hw
  refine Go_iload_n (q := 1) C 1 rfl dX11_markAt_0 rfl ?_
  refine Go_if_lt (t := 22) (q := 4) C hw dX11_markAt_1 rfl rfl (fun hw => ?_) (fun hw => ?_)
  · refine Go_anull (q := 23) C dX11_markAt_22 rfl ?_
    exact Go_oret (v := none) C hQ hR hw dX11_markAt_23
  · refine Go_iload_n (q := 5) C 1 rfl dX11_markAt_4 rfl ?_
    refine Go_aload_n (q := 6) C 0 rfl dX11_markAt_5 rfl ?_
    refine Go_getA (q := 9) (k := 8) C ci11 iw_11 kE_0 (rE_0_8 hR) rfl wm_2_23 rfl dX11_markAt_6 rfl ?_
    refine Go_alen2 (q := 10) (v := (4 : Int32)) C kE_63 (by decide) rfl dX11_markAt_9 rfl ?_
    refine Go_icmp_ge (t := 22) (q := 13) C hw dX11_markAt_10 rfl rfl (fun hw => ?_) (fun hw => ?_)
    · refine Go_anull (q := 23) C dX11_markAt_22 rfl ?_
      exact Go_oret (v := none) C hQ hR hw dX11_markAt_23
    · refine Go_aload_n (q := 14) C 0 rfl dX11_markAt_13 rfl ?_
      refine Go_getA (q := 17) (k := 8) C ci11 iw_11 kE_0 (rE_0_8 hR) rfl wm_2_23 rfl dX11_markAt_14 rfl ?_
      refine Go_iload_n (q := 18) C 1 rfl dX11_markAt_17 rfl ?_
      obtain ⟨hin, hw⟩ := hw
      refine Go_maload (q := 19) C kE_63 hin dX11_markAt_18 rfl ?_
      refine Go_goto (q := 23) C dX11_markAt_19 rfl ?_
      exact Go_oret (v := gR S 63 p0.toNatClampNeg) C hQ hR hw dX11_markAt_23
-- X7_spread
abbrev rm_X7_spread : Room := { frames := 0, cells := 0, slots := 0, locals := 0 }
set_option maxRecDepth 100000 in
set_option maxHeartbeats 4000000 in
theorem c_X7_spread (l : Launch) {p0 : Int32} {S : St} {Q : Int32 → St → Prop} (hR : RCE S) (hw : w_X7_spread p0 S Q) : MetI l yX7_spread (wB yX7_spread cX7_spread 1 (some .int)) rm_X7_spread shE NE RCE (fun ad => [.int p0]) S Q := by
  refine MetI_of (cc := cX7_spread) (maxL := 1) (ret := (some .int)) (plainFor_of_name (by decide)) (fun _ => Nat.le_of_ble_eq_true rfl) (fun G C hl hQ => ?_)
  subst hl
  have C : Cx G cX7_spread BIG RX7 1 (some .int) rm_X7_spread shE NE := C
  show Go G 1 0 [] [(0, .int p0)] S
  unfold w_X7_spread at hw
  refine Go_iload_n (q := 1) C 0 rfl dX7_spread_0 rfl ?_
  refine Go_iload_n (q := 2) C 0 rfl dX7_spread_1 rfl ?_
  refine Go_bipush (q := 4) (v := (15 : Int32)) C dX7_spread_2 rfl rfl ?_
  refine Go_iushr (q := 5) C dX7_spread_4 rfl ?_
  refine Go_ixor (q := 6) C dX7_spread_5 rfl ?_
  refine Go_ldc (q := 8) (v := (73471 : Int32)) C wm_49_11 dX7_spread_6 rfl ?_
  refine Go_imul (q := 9) C dX7_spread_8 rfl ?_
  refine Go_iconst (q := 10) (v := (5 : Int32)) C dX7_spread_9 rfl rfl ?_
  refine Go_iadd (q := 11) C dX7_spread_10 rfl ?_
  exact Go_iret C hQ hR hw dX7_spread_11
-- X7_mixed
abbrev rm_X7_mixed : Room := { frames := 1, cells := 0, slots := 0, locals := 21 }
set_option maxRecDepth 100000 in
set_option maxHeartbeats 4000000 in
theorem g_X7_mixed_82 {G : GC} (C : Cx G cX7_mixed BIG RX7 6 (some .int) rm_X7_mixed shE NE) {Q : Int32 → St → Prop} (hQ : QI G RCE Q) (p0 : Nat) (p1 : Nat) (hp0 : isE4 p0) (hp1 : ok shE NE p1 14 (lnE p1)) (v4 : Int32) (v5 : Int32) (t0 : Int32) (t1 : Int32) {k44 : Int32 → Int32 → St → Prop} (hk44 : ∀ (v3 : Int32) (v5 : Int32) (S : St), RCE S → k44 v3 v5 S → Go G 6 44 [] [(0, .ref (Gad G (p0))), (1, .ref (Gad G (p1))), (3, .int v3), (4, .int v4), (5, .int v5)] S) {S : St} (hR : RCE S) (hw : w_X7_mixed_82 p0 p1 k44 v4 v5 t0 t1 S) : Go G 6 82 [.int t0, .int t1] [(0, .ref (Gad G (p0))), (1, .ref (Gad G (p1))), (4, .int v4), (5, .int v5)] S := by
  unfold w_X7_mixed_82 at hw
  refine Go_iadd (q := 83) C dX7_mixed_82 rfl ?_
  refine Go_topi (fun x83_14 e_x83_14 => ?_)
  have hw := hw x83_14 e_x83_14
  refine Go_istore_n (q := 84) (lv' := [(3, .int x83_14), (0, .ref (Gad G (p0))), (1, .ref (Gad G (p1))), (4, .int v4), (5, .int v5)]) C rfl dX7_mixed_83 (by decide) rfl rfl ?_
  refine Go_iinc2 (q := 87) (kp := 4) (cst := (1 : Int32)) C dX7_mixed_84 rfl rfl (by decide) rfl (fun x84_15 e_x84_15 => ?_)
  have hw := hw x84_15 e_x84_15
  refine Go_lve (lv' := [(5, .int x84_15), (3, .int x83_14), (0, .ref (Gad G (p0))), (1, .ref (Gad G (p1))), (4, .int v4)]) rfl ?_
  refine Go_goto (q := 44) C dX7_mixed_87 rfl ?_
  refine Go_lvp [2, 3, 1, 4, 0] rfl ?_
  exact hk44 _ _ _ hR hw
set_option maxRecDepth 100000 in
set_option maxHeartbeats 4000000 in
theorem g_X7_mixed_44 {G : GC} (C : Cx G cX7_mixed BIG RX7 6 (some .int) rm_X7_mixed shE NE) {Q : Int32 → St → Prop} (hQ : QI G RCE Q) (p0 : Nat) (p1 : Nat) (hp0 : isE4 p0) (hp1 : ok shE NE p1 14 (lnE p1)) (v4 : Int32) (v3 : Int32) (v5 : Int32) {S : St} (hR : RCE S) (hw : w_X7_mixed_44 p0 p1 Q v4 v3 v5 S) : Go G 6 44 [] [(0, .ref (Gad G (p0))), (1, .ref (Gad G (p1))), (3, .int v3), (4, .int v4), (5, .int v5)] S := by
  obtain ⟨n, hw⟩ := hw
  induction n generalizing v3 v5 S with
  | zero => exact hw.elim
  | succ n ih =>
    have hw : b_X7_mixed_44 p0 p1 Q v4 (lpn (fun _ _ _ => False) (b_X7_mixed_44 p0 p1 Q v4) n) v3 v5 S := hw
    generalize lpn (fun _ _ _ => False) (b_X7_mixed_44 p0 p1 Q v4) n = kf at hw ih
    have hk44 := fun (v3 : Int32) (v5 : Int32) (S : St) (hR : RCE S) hw => ih v3 v5 hR hw
    unfold b_X7_mixed_44 at hw
    refine Go_iload (q := 46) C 3 rfl dX7_mixed_44 rfl ?_
    refine Go_if_eq (t := 90) (q := 49) C hw dX7_mixed_46 rfl rfl (fun hw => ?_) (fun hw => ?_)
    · refine Go_iload_n (q := 91) C 2 rfl dX7_mixed_90 rfl ?_
      exact Go_iret C hQ hR hw dX7_mixed_91
    · refine Go_iload (q := 51) C 4 rfl dX7_mixed_49 rfl ?_
      refine Go_aload_n (q := 52) C 0 rfl dX7_mixed_51 rfl ?_
      refine Go_getIN (q := 55) (k := 0) (host := "EndsRound") C ci4 iw_4 (oE4 hp0) rfl nw_7 rfl dX7_mixed_52 rfl ?_
      refine Go_icmp_ge (t := 90) (q := 58) C hw dX7_mixed_55 rfl rfl (fun hw => ?_) (fun hw => ?_)
      · refine Go_iload_n (q := 91) C 2 rfl dX7_mixed_90 rfl ?_
        exact Go_iret C hQ hR hw dX7_mixed_91
      · refine Go_iload_n (q := 59) C 2 rfl dX7_mixed_58 rfl ?_
        refine Go_iload (q := 61) C 3 rfl dX7_mixed_59 rfl ?_
        refine Go_iload (q := 63) C 4 rfl dX7_mixed_61 rfl ?_
        refine Go_ishr (q := 64) C dX7_mixed_63 rfl ?_
        refine Go_iconst (q := 65) (v := (1 : Int32)) C dX7_mixed_64 rfl rfl ?_
        refine Go_iand (q := 66) C dX7_mixed_65 rfl ?_
        refine Go_if_eq (t := 81) (q := 69) C hw dX7_mixed_66 rfl rfl (fun hw => ?_) (fun hw => ?_)
        · refine Go_iconst (q := 82) (v := (0 : Int32)) C dX7_mixed_81 rfl rfl ?_
          refine Go_lvp [0, 1, 3, 4] rfl ?_
          exact g_X7_mixed_82 C hQ p0 p1 hp0 hp1 _ _ _ _ hk44 hR hw
        · refine Go_aload_n (q := 70) C 1 rfl dX7_mixed_69 rfl ?_
          refine Go_iload (q := 72) C 4 rfl dX7_mixed_70 rfl ?_
          refine Go_callSN_I (av := (fun ad => [.ref (ad (p1)), .int v5])) (st := [.int v3]) (C := C) (hM := c_X11_cell (Gl G) (ok_ln hp1) hR hw) (host := "EndsRound") (hnw := nw_97) (hini := wm_1_2) (hst2 := wm_10_22) (hcode := wm_10_23) (n := 2) (hd := by decide +kernel) (hr0 := ⟨rfl, rfl⟩) (hroom := ⟨by first | decide | (dsimp only; omega), by first | decide | (dsimp only; omega)⟩) (hlen := rfl) (hst := rfl) (hW := Nat.le_of_ble_eq_true rfl) (hdg := dX7_mixed_72) (q := 75) (hq := rfl) (fun r72_17 S72_16 hw hR => ?_)
          refine Go_callS_I (av := (fun ad => [.int r72_17])) (st := [.int v3]) (C := C) (hM := c_X7_spread (Gl G) hR hw) (hlk := wm_49_8) (hini := wm_2_20) (hst2 := wm_49_9) (hcode := wm_49_10) (n := 1) (hd := by decide +kernel) (hr0 := ⟨rfl, rfl⟩) (hroom := ⟨by first | decide | (dsimp only; omega), by first | decide | (dsimp only; omega)⟩) (hlen := rfl) (hst := rfl) (hW := Nat.le_of_ble_eq_true rfl) (hdg := dX7_mixed_75) (q := 78) (hq := rfl) (fun r75_19 S75_18 hw hR => ?_)
          refine Go_goto (q := 82) C dX7_mixed_78 rfl ?_
          refine Go_lvp [0, 1, 3, 4] rfl ?_
          exact g_X7_mixed_82 C hQ p0 p1 hp0 hp1 _ _ _ _ hk44 hR hw
set_option maxRecDepth 100000 in
set_option maxHeartbeats 4000000 in
theorem c_X7_mixed (l : Launch) {p0 : Nat} (hp0 : isE4 p0) {p1 : Nat} (hp1 : ok shE NE p1 14 (lnE p1)) {p2 : Int32} {S : St} {Q : Int32 → St → Prop} (hR : RCE S) (hw : w_X7_mixed p0 p1 p2 S Q) : MetI l yX7_mixed (wB yX7_mixed cX7_mixed 6 (some .int)) rm_X7_mixed shE NE RCE (fun ad => [.ref (ad (p0)), .ref (ad (p1)), .int p2]) S Q := by
  refine MetI_of (cc := cX7_mixed) (maxL := 6) (ret := (some .int)) (plainFor_of_name (by decide)) (fun _ => Nat.le_of_ble_eq_true rfl) (fun G C hl hQ => ?_)
  subst hl
  have C : Cx G cX7_mixed BIG RX7 6 (some .int) rm_X7_mixed shE NE := C
  show Go G 6 0 [] [(0, .ref (Gad G (p0))), (1, .ref (Gad G (p1))), (2, .int p2)] S
  unfold w_X7_mixed at hw
  refine Go_aload_n (q := 1) C 1 rfl dX7_mixed_0 rfl ?_
  refine Go_iload_n (q := 2) C 2 rfl dX7_mixed_1 rfl ?_
  refine Go_callSN_I (av := (fun ad => [.ref (ad (p1)), .int p2])) (st := []) (C := C) (hM := c_X11_cell (Gl G) (ok_ln hp1) hR hw) (host := "EndsRound") (hnw := nw_97) (hini := wm_1_2) (hst2 := wm_10_22) (hcode := wm_10_23) (n := 2) (hd := by decide +kernel) (hr0 := ⟨rfl, rfl⟩) (hroom := ⟨by first | decide | (dsimp only; omega), by first | decide | (dsimp only; omega)⟩) (hlen := rfl) (hst := rfl) (hW := Nat.le_of_ble_eq_true rfl) (hdg := dX7_mixed_2) (q := 5) (hq := rfl) (fun r2_2 S2_1 hw hR => ?_)
  refine Go_callS_I (av := (fun ad => [.int r2_2])) (st := []) (C := C) (hM := c_X7_spread (Gl G)  hR hw) (hlk := wm_49_8) (hini := wm_2_20) (hst2 := wm_49_9) (hcode := wm_49_10) (n := 1) (hd := by decide +kernel) (hr0 := ⟨rfl, rfl⟩) (hroom := ⟨by first | decide | (dsimp only; omega), by first | decide | (dsimp only; omega)⟩) (hlen := rfl) (hst := rfl) (hW := Nat.le_of_ble_eq_true rfl) (hdg := dX7_mixed_5) (q := 8) (hq := rfl) (fun r5_4 S5_3 hw hR => ?_)
  refine Go_bipush (q := 10) (v := (31 : Int32)) C dX7_mixed_8 rfl rfl ?_
  refine Go_imul (q := 11) C dX7_mixed_10 rfl ?_
  refine Go_aload_n (q := 12) C 1 rfl dX7_mixed_11 rfl ?_
  refine Go_aload_n (q := 13) C 0 rfl dX7_mixed_12 rfl ?_
  refine Go_getAN (q := 16) (k := 7) (host := "EndsRound") C ci4 iw_4 (oE4 hp0) (rE4_7 hR hp0) rfl nw_27 rfl dX7_mixed_13 rfl ?_
  refine Go_iload_n (q := 17) C 2 rfl dX7_mixed_16 rfl ?_
  refine Go_callSN_I (av := (fun ad => [.ref (ad ((p0 + 1))), .int p2])) (st := [.ref (Gad G (p1)), .int (r5_4 * (31 : Int32))]) (C := C) (hM := c_X11_cell (Gl G) (ok_ln (oE4_7 hp0)) hR hw) (host := "EndsRound") (hnw := nw_97) (hini := wm_1_2) (hst2 := wm_10_22) (hcode := wm_10_23) (n := 2) (hd := by decide +kernel) (hr0 := ⟨rfl, rfl⟩) (hroom := ⟨by first | decide | (dsimp only; omega), by first | decide | (dsimp only; omega)⟩) (hlen := rfl) (hst := rfl) (hW := Nat.le_of_ble_eq_true rfl) (hdg := dX7_mixed_17) (q := 20) (hq := rfl) (fun r17_6 S17_5 hw hR => ?_)
  refine Go_callSN_I (av := (fun ad => [.ref (ad (p1)), .int r17_6])) (st := [.int (r5_4 * (31 : Int32))]) (C := C) (hM := c_X11_cell (Gl G) (ok_ln hp1) hR hw) (host := "EndsRound") (hnw := nw_97) (hini := wm_1_2) (hst2 := wm_10_22) (hcode := wm_10_23) (n := 2) (hd := by decide +kernel) (hr0 := ⟨rfl, rfl⟩) (hroom := ⟨by first | decide | (dsimp only; omega), by first | decide | (dsimp only; omega)⟩) (hlen := rfl) (hst := rfl) (hW := Nat.le_of_ble_eq_true rfl) (hdg := dX7_mixed_20) (q := 23) (hq := rfl) (fun r20_8 S20_7 hw hR => ?_)
  refine Go_callS_I (av := (fun ad => [.int r20_8])) (st := [.int (r5_4 * (31 : Int32))]) (C := C) (hM := c_X7_spread (Gl G)  hR hw) (hlk := wm_49_8) (hini := wm_2_20) (hst2 := wm_49_9) (hcode := wm_49_10) (n := 1) (hd := by decide +kernel) (hr0 := ⟨rfl, rfl⟩) (hroom := ⟨by first | decide | (dsimp only; omega), by first | decide | (dsimp only; omega)⟩) (hlen := rfl) (hst := rfl) (hW := Nat.le_of_ble_eq_true rfl) (hdg := dX7_mixed_23) (q := 26) (hq := rfl) (fun r23_10 S23_9 hw hR => ?_)
  refine Go_bipush (q := 28) (v := (18 : Int32)) C dX7_mixed_26 rfl rfl ?_
  refine Go_imul (q := 29) C dX7_mixed_28 rfl ?_
  refine Go_iadd (q := 30) C dX7_mixed_29 rfl ?_
  refine Go_topi (fun x30_11 e_x30_11 => ?_)
  have hw := hw x30_11 e_x30_11
  refine Go_istore_n (q := 31) (lv' := [(3, .int x30_11), (0, .ref (Gad G (p0))), (1, .ref (Gad G (p1))), (2, .int p2)]) C rfl dX7_mixed_30 (by decide) rfl rfl ?_
  refine Go_aload_n (q := 32) C 1 rfl dX7_mixed_31 rfl ?_
  refine Go_getAN (q := 35) (k := 8) (host := "EndsRound") C ci4 iw_4 (oE4 hp0) (rE4_8 hR hp0) rfl nw_30 rfl dX7_mixed_32 rfl ?_
  refine Go_iload_n (q := 36) C 3 rfl dX7_mixed_35 rfl ?_
  refine Go_callSN_I (av := (fun ad => [.ref (ad ((p0 + 2))), .int p2])) (st := []) (C := C) (hM := c_X11_cell (Gl G) (ok_ln (oE4_8 hp0)) hR hw) (host := "EndsRound") (hnw := nw_97) (hini := wm_1_2) (hst2 := wm_10_22) (hcode := wm_10_23) (n := 2) (hd := by decide +kernel) (hr0 := ⟨rfl, rfl⟩) (hroom := ⟨by first | decide | (dsimp only; omega), by first | decide | (dsimp only; omega)⟩) (hlen := rfl) (hst := rfl) (hW := Nat.le_of_ble_eq_true rfl) (hdg := dX7_mixed_36) (q := 39) (hq := rfl) (fun r36_13 S36_12 hw hR => ?_)
  refine Go_istore (q := 41) (lv' := [(4, .int r36_13), (3, .int x30_11), (0, .ref (Gad G (p0))), (1, .ref (Gad G (p1))), (2, .int p2)]) C dX7_mixed_39 (by decide) rfl rfl ?_
  refine Go_iconst (q := 42) (v := (0 : Int32)) C dX7_mixed_41 rfl rfl ?_
  refine Go_istore (q := 44) (lv' := [(5, .int (0 : Int32)), (4, .int r36_13), (3, .int x30_11), (0, .ref (Gad G (p0))), (1, .ref (Gad G (p1))), (2, .int p2)]) C dX7_mixed_42 (by decide) rfl rfl ?_
  refine Go_lvp [3, 4, 2, 1, 0] rfl ?_
  exact g_X7_mixed_44 C hQ p0 p1 hp0 hp1 _ _ _ hR hw
-- X7_tint
abbrev rm_X7_tint : Room := { frames := 3, cells := 0, slots := 0, locals := 78 }
set_option maxRecDepth 100000 in
set_option maxHeartbeats 4000000 in
theorem g_X7_tint_73 {G : GC} (C : Cx G cX7_tint BIG RX7 5 none rm_X7_tint shE NE) {Q : St → Prop} (hQ : QV G RCE Q) (p0 : Nat) (p1 : Nat) (hp0 : isE4 p0) (hp1 : ok shE NE p1 14 (lnE p1)) (v3 : Int32) {k62 : Int32 → St → Prop} (hk62 : ∀ (v3 : Int32) (S : St), RCE S → k62 v3 S → Go G 5 62 [] [(0, .ref (Gad G (56))), (1, .ref (Gad G (p0))), (2, .ref (Gad G (p1))), (3, .int v3)] S) (v4 : Int32) {S : St} (hR : RCE S) (hw : w_X7_tint_73 p0 p1 k62 v3 v4 S) : Go G 5 73 [] [(0, .ref (Gad G (56))), (1, .ref (Gad G (p0))), (2, .ref (Gad G (p1))), (3, .int v3), (4, .int v4)] S := by
  obtain ⟨n, hw⟩ := hw
  induction n generalizing v4 S with
  | zero => exact hw.elim
  | succ n ih =>
    have hw : b_X7_tint_73 p0 p1 k62 v3 (lpn (fun _ _ => False) (b_X7_tint_73 p0 p1 k62 v3) n) v4 S := hw
    generalize lpn (fun _ _ => False) (b_X7_tint_73 p0 p1 k62 v3) n = kf at hw ih
    have hk73 := fun (v4 : Int32) (S : St) (hR : RCE S) hw => ih v4 hR hw
    unfold b_X7_tint_73 at hw
    refine Go_iload (q := 75) C 4 rfl dX7_tint_73 rfl ?_
    refine Go_aload_n (q := 76) C 1 rfl dX7_tint_75 rfl ?_
    refine Go_getIN (q := 79) (k := 0) (host := "EndsRound") C ci4 iw_4 (oE4 hp0) rfl nw_7 rfl dX7_tint_76 rfl ?_
    refine Go_icmp_ge (t := 104) (q := 82) C hw dX7_tint_79 rfl rfl (fun hw => ?_) (fun hw => ?_)
    · refine Go_aload_n (q := 105) C 0 rfl dX7_tint_104 rfl ?_
      refine Go_getA (q := 108) (k := 3) C ci7 iw_7 kE_56 (rE_56_3 hR) rfl wm_9_10 rfl dX7_tint_105 rfl ?_
      refine Go_aload_n (q := 109) C 2 rfl dX7_tint_108 rfl ?_
      refine Go_callSN_V (av := (fun ad => [.ref (ad (60)), .ref (ad (p1))])) (st := []) (C := C) (hM := c_X11_copyRow (Gl G) (ok_ln kE_60) (ok_ln hp1) hR hw) (host := "EndsRound") (hnw := nw_99) (hini := wm_1_2) (hst2 := wm_10_20) (hcode := wm_10_21) (n := 2) (hd := by decide +kernel) (hr0 := ⟨rfl, rfl⟩) (hroom := ⟨by first | decide | (dsimp only; omega), by first | decide | (dsimp only; omega)⟩) (hlen := rfl) (hst := rfl) (hW := Nat.le_of_ble_eq_true rfl) (hdg := dX7_tint_109) (q := 112) (hq := rfl) (fun S109_2 hw hR => ?_)
      refine Go_iinc2 (q := 115) (kp := 3) (cst := (1 : Int32)) C dX7_tint_112 rfl rfl (by decide) rfl (fun x112_3 e_x112_3 => ?_)
      have hw := hw x112_3 e_x112_3
      refine Go_lve (lv' := [(3, .int x112_3), (0, .ref (Gad G (56))), (1, .ref (Gad G (p0))), (2, .ref (Gad G (p1))), (4, .int v4)]) rfl ?_
      refine Go_goto (q := 62) C dX7_tint_115 rfl ?_
      refine Go_lvp [1, 2, 3, 0] rfl ?_
      exact hk62 _ _ hR hw
    · refine Go_aload_n (q := 83) C 0 rfl dX7_tint_82 rfl ?_
      refine Go_getA (q := 86) (k := 3) C ci7 iw_7 kE_56 (rE_56_3 hR) rfl wm_9_10 rfl dX7_tint_83 rfl ?_
      refine Go_iload (q := 88) C 4 rfl dX7_tint_86 rfl ?_
      refine Go_aload_n (q := 89) C 1 rfl dX7_tint_88 rfl ?_
      refine Go_aload_n (q := 90) C 2 rfl dX7_tint_89 rfl ?_
      refine Go_iload (q := 92) C 4 rfl dX7_tint_90 rfl ?_
      refine Go_callS_I (av := (fun ad => [.ref (ad (p0)), .ref (ad (p1)), .int v4])) (st := [.int v4, .ref (Gad G (60))]) (C := C) (hM := c_X7_mixed (Gl G) hp0 (ok_ln hp1) hR hw) (hlk := wm_49_5) (hini := wm_2_20) (hst2 := wm_49_6) (hcode := wm_49_7) (n := 3) (hd := by decide +kernel) (hr0 := ⟨rfl, rfl⟩) (hroom := ⟨by first | decide | (dsimp only; omega), by first | decide | (dsimp only; omega)⟩) (hlen := rfl) (hst := rfl) (hW := Nat.le_of_ble_eq_true rfl) (hdg := dX7_tint_92) (q := 95) (hq := rfl) (fun r92_5 S92_4 hw hR => ?_)
      refine Go_callSN_V (av := (fun ad => [.ref (ad (60)), .int v4, .int r92_5])) (st := []) (C := C) (hM := c_X11_put (Gl G) (ok_ln kE_60) hR hw) (host := "EndsRound") (hnw := nw_98) (hini := wm_1_2) (hst2 := wm_10_11) (hcode := wm_10_12) (n := 3) (hd := by decide +kernel) (hr0 := ⟨rfl, rfl⟩) (hroom := ⟨by first | decide | (dsimp only; omega), by first | decide | (dsimp only; omega)⟩) (hlen := rfl) (hst := rfl) (hW := Nat.le_of_ble_eq_true rfl) (hdg := dX7_tint_95) (q := 98) (hq := rfl) (fun S95_6 hw hR => ?_)
      refine Go_iinc2 (q := 101) (kp := 4) (cst := (1 : Int32)) C dX7_tint_98 rfl rfl (by decide) rfl (fun x98_7 e_x98_7 => ?_)
      have hw := hw x98_7 e_x98_7
      refine Go_lve (lv' := [(4, .int x98_7), (0, .ref (Gad G (56))), (1, .ref (Gad G (p0))), (2, .ref (Gad G (p1))), (3, .int v3)]) rfl ?_
      refine Go_goto (q := 73) C dX7_tint_101 rfl ?_
      refine Go_lvp [1, 2, 3, 4, 0] rfl ?_
      exact hk73 _ _ hR hw
set_option maxRecDepth 100000 in
set_option maxHeartbeats 4000000 in
theorem g_X7_tint_62 {G : GC} (C : Cx G cX7_tint BIG RX7 5 none rm_X7_tint shE NE) {Q : St → Prop} (hQ : QV G RCE Q) (p0 : Nat) (p1 : Nat) (hp0 : isE4 p0) (hp1 : ok shE NE p1 14 (lnE p1)) (v3 : Int32) {S : St} (hR : RCE S) (hw : w_X7_tint_62 p0 p1 Q v3 S) : Go G 5 62 [] [(0, .ref (Gad G (56))), (1, .ref (Gad G (p0))), (2, .ref (Gad G (p1))), (3, .int v3)] S := by
  obtain ⟨n, hw⟩ := hw
  induction n generalizing v3 S with
  | zero => exact hw.elim
  | succ n ih =>
    have hw : b_X7_tint_62 p0 p1 Q (lpn (fun _ _ => False) (b_X7_tint_62 p0 p1 Q) n) v3 S := hw
    generalize lpn (fun _ _ => False) (b_X7_tint_62 p0 p1 Q) n = kf at hw ih
    have hk62 := fun (v3 : Int32) (S : St) (hR : RCE S) hw => ih v3 hR hw
    unfold b_X7_tint_62 at hw
    refine Go_iload_n (q := 63) C 3 rfl dX7_tint_62 rfl ?_
    refine Go_aload_n (q := 64) C 1 rfl dX7_tint_63 rfl ?_
    refine Go_getIN (q := 67) (k := 0) (host := "EndsRound") C ci4 iw_4 (oE4 hp0) rfl nw_7 rfl dX7_tint_64 rfl ?_
    refine Go_icmp_ge (t := 118) (q := 70) C hw dX7_tint_67 rfl rfl (fun hw => ?_) (fun hw => ?_)
    · exact Go_vret C hQ hR hw dX7_tint_118
    · refine Go_iconst (q := 71) (v := (0 : Int32)) C dX7_tint_70 rfl rfl ?_
      refine Go_istore (q := 73) (lv' := [(4, .int (0 : Int32)), (0, .ref (Gad G (56))), (1, .ref (Gad G (p0))), (2, .ref (Gad G (p1))), (3, .int v3)]) C dX7_tint_71 (by decide) rfl rfl ?_
      refine Go_lvp [1, 2, 3, 4, 0] rfl ?_
      exact g_X7_tint_73 C hQ p0 p1 hp0 hp1 _ hk62 _ hR hw
set_option maxRecDepth 100000 in
set_option maxHeartbeats 4000000 in
theorem g_X7_tint_17 {G : GC} (C : Cx G cX7_tint BIG RX7 5 none rm_X7_tint shE NE) {Q : St → Prop} (hQ : QV G RCE Q) (p0 : Nat) (p1 : Nat) (hp0 : isE4 p0) (hp1 : ok shE NE p1 14 (lnE p1)) (v3 : Int32) {S : St} (hR : RCE S) (hw : w_X7_tint_17 p0 p1 Q v3 S) : Go G 5 17 [] [(0, .ref (Gad G (56))), (1, .ref (Gad G (p0))), (2, .ref (Gad G (p1))), (3, .int v3)] S := by
  obtain ⟨n, hw⟩ := hw
  induction n generalizing v3 S with
  | zero => exact hw.elim
  | succ n ih =>
    have hw : b_X7_tint_17 p0 p1 Q (lpn (fun _ _ => False) (b_X7_tint_17 p0 p1 Q) n) v3 S := hw
    generalize lpn (fun _ _ => False) (b_X7_tint_17 p0 p1 Q) n = kf at hw ih
    have hk17 := fun (v3 : Int32) (S : St) (hR : RCE S) hw => ih v3 hR hw
    unfold b_X7_tint_17 at hw
    refine Go_iload_n (q := 18) C 3 rfl dX7_tint_17 rfl ?_
    refine Go_aload_n (q := 19) C 1 rfl dX7_tint_18 rfl ?_
    refine Go_getIN (q := 22) (k := 0) (host := "EndsRound") C ci4 iw_4 (oE4 hp0) rfl nw_7 rfl dX7_tint_19 rfl ?_
    refine Go_icmp_ge (t := 60) (q := 25) C hw dX7_tint_22 rfl rfl (fun hw => ?_) (fun hw => ?_)
    · refine Go_iconst (q := 61) (v := (0 : Int32)) C dX7_tint_60 rfl rfl ?_
      refine Go_istore_n (q := 62) (lv' := [(3, .int (0 : Int32)), (0, .ref (Gad G (56))), (1, .ref (Gad G (p0))), (2, .ref (Gad G (p1)))]) C rfl dX7_tint_61 (by decide) rfl rfl ?_
      refine Go_lvp [1, 2, 3, 0] rfl ?_
      exact g_X7_tint_62 C hQ p0 p1 hp0 hp1 _ hR hw
    · refine Go_aload_n (q := 26) C 2 rfl dX7_tint_25 rfl ?_
      refine Go_iload_n (q := 27) C 3 rfl dX7_tint_26 rfl ?_
      refine Go_aload_n (q := 28) C 0 rfl dX7_tint_27 rfl ?_
      refine Go_getA (q := 31) (k := 4) C ci7 iw_7 kE_56 (rE_56_4 hR) rfl wm_9_12 rfl dX7_tint_28 rfl ?_
      refine Go_getAN (q := 34) (k := 0) (host := "EndsRound") C ci1 iw_1 kE_61 (rE1_0 hR isE1_61) rfl nw_48 rfl dX7_tint_31 rfl ?_
      refine Go_iload_n (q := 35) C 3 rfl dX7_tint_34 rfl ?_
      refine Go_callSN_I (av := (fun ad => [.ref (ad (62)), .int v3])) (st := [.int v3, .ref (Gad G (p1))]) (C := C) (hM := c_X11_cell (Gl G) (ok_ln kE_62) hR hw) (host := "EndsRound") (hnw := nw_97) (hini := wm_1_2) (hst2 := wm_10_22) (hcode := wm_10_23) (n := 2) (hd := by decide +kernel) (hr0 := ⟨rfl, rfl⟩) (hroom := ⟨by first | decide | (dsimp only; omega), by first | decide | (dsimp only; omega)⟩) (hlen := rfl) (hst := rfl) (hW := Nat.le_of_ble_eq_true rfl) (hdg := dX7_tint_35) (q := 38) (hq := rfl) (fun r35_9 S35_8 hw hR => ?_)
      refine Go_sipush (q := 41) (v := (128 : Int32)) C dX7_tint_38 rfl rfl ?_
      refine Go_imul (q := 42) C dX7_tint_41 rfl ?_
      refine Go_aload_n (q := 43) C 1 rfl dX7_tint_42 rfl ?_
      refine Go_getAN (q := 46) (k := 9) (host := "EndsRound") C ci4 iw_4 (oE4 hp0) (rE4_9 hR hp0) rfl nw_31 rfl dX7_tint_43 rfl ?_
      refine Go_iload_n (q := 47) C 3 rfl dX7_tint_46 rfl ?_
      refine Go_callSN_I (av := (fun ad => [.ref (ad ((p0 + 3))), .int v3])) (st := [.int (r35_9 * (128 : Int32)), .int v3, .ref (Gad G (p1))]) (C := C) (hM := c_X11_cell (Gl G) (ok_ln (oE4_9 hp0)) hR hw) (host := "EndsRound") (hnw := nw_97) (hini := wm_1_2) (hst2 := wm_10_22) (hcode := wm_10_23) (n := 2) (hd := by decide +kernel) (hr0 := ⟨rfl, rfl⟩) (hroom := ⟨by first | decide | (dsimp only; omega), by first | decide | (dsimp only; omega)⟩) (hlen := rfl) (hst := rfl) (hW := Nat.le_of_ble_eq_true rfl) (hdg := dX7_tint_47) (q := 50) (hq := rfl) (fun r47_11 S47_10 hw hR => ?_)
      refine Go_iadd (q := 51) C dX7_tint_50 rfl ?_
      refine Go_callSN_V (av := (fun ad => [.ref (ad (p1)), .int v3, .int ((r35_9 * (128 : Int32)) + r47_11)])) (st := []) (C := C) (hM := c_X11_put (Gl G) (ok_ln hp1) hR hw) (host := "EndsRound") (hnw := nw_98) (hini := wm_1_2) (hst2 := wm_10_11) (hcode := wm_10_12) (n := 3) (hd := by decide +kernel) (hr0 := ⟨rfl, rfl⟩) (hroom := ⟨by first | decide | (dsimp only; omega), by first | decide | (dsimp only; omega)⟩) (hlen := rfl) (hst := rfl) (hW := Nat.le_of_ble_eq_true rfl) (hdg := dX7_tint_51) (q := 54) (hq := rfl) (fun S51_12 hw hR => ?_)
      refine Go_iinc2 (q := 57) (kp := 3) (cst := (1 : Int32)) C dX7_tint_54 rfl rfl (by decide) rfl (fun x54_13 e_x54_13 => ?_)
      have hw := hw x54_13 e_x54_13
      refine Go_lve (lv' := [(3, .int x54_13), (0, .ref (Gad G (56))), (1, .ref (Gad G (p0))), (2, .ref (Gad G (p1)))]) rfl ?_
      refine Go_goto (q := 17) C dX7_tint_57 rfl ?_
      refine Go_lvp [1, 2, 3, 0] rfl ?_
      exact hk17 _ _ hR hw
set_option maxRecDepth 100000 in
set_option maxHeartbeats 4000000 in
theorem c_X7_tint (l : Launch) {p0 : Nat} (hp0 : isE4 p0) {p1 : Nat} (hp1 : ok shE NE p1 14 (lnE p1)) {S : St} {Q : St → Prop} (hR : RCE S) (hw : w_X7_tint p0 p1 S Q) : MetV l yX7_tint (wB yX7_tint cX7_tint 5 none) rm_X7_tint shE NE RCE (fun ad => [.ref (ad (56)), .ref (ad (p0)), .ref (ad (p1))]) S Q := by
  refine MetV_of (cc := cX7_tint) (maxL := 5) (ret := none) (plainFor_of_name (by decide)) (fun _ => Nat.le_of_ble_eq_true rfl) (fun G C hl hQ => ?_)
  subst hl
  have C : Cx G cX7_tint BIG RX7 5 none rm_X7_tint shE NE := C
  show Go G 5 0 [] [(0, .ref (Gad G (56))), (1, .ref (Gad G (p0))), (2, .ref (Gad G (p1)))] S
  unfold w_X7_tint at hw
  refine Go_aload_n (q := 1) C 0 rfl dX7_tint_0 rfl ?_
  refine Go_getA (q := 4) (k := 4) C ci7 iw_7 kE_56 (rE_56_4 hR) rfl wm_9_12 rfl dX7_tint_1 rfl ?_
  refine Go_aload_n (q := 5) C 1 rfl dX7_tint_4 rfl ?_
  refine Go_getAN (q := 8) (k := 7) (host := "EndsRound") C ci4 iw_4 (oE4 hp0) (rE4_7 hR hp0) rfl nw_27 rfl dX7_tint_5 rfl ?_
  refine Go_aload_n (q := 9) C 1 rfl dX7_tint_8 rfl ?_
  refine Go_getIN (q := 12) (k := 0) (host := "EndsRound") C ci4 iw_4 (oE4 hp0) rfl nw_7 rfl dX7_tint_9 rfl ?_
  refine Go_callV_V (av := (fun ad => [.ref (ad ((p0 + 1))), .int (gI S p0 0)])) (st := []) (C := C) (hM := c_X1_follow (Gl G) isE1_61 (ok_ln (oE4_7 hp0)) hR hw) (hlk := wm_49_4) (hini := wm_3_4) (hins := wm_11_1) (hsel := wm_11_2) (hcode := wm_11_3) (ho := kE_61) (hci := rfl) (hc13 := by decide) (n := 2) (hd := by decide +kernel) (hr0 := ⟨rfl, rfl⟩) (hroom := ⟨by first | decide | (dsimp only; omega), by first | decide | (dsimp only; omega)⟩) (hlen := rfl) (hst := rfl) (hW := Nat.le_of_ble_eq_true rfl) (hdg := dX7_tint_12) (q := 15) (hq := rfl) (fun S12_1 hw hR => ?_)
  refine Go_iconst (q := 16) (v := (0 : Int32)) C dX7_tint_15 rfl rfl ?_
  refine Go_istore_n (q := 17) (lv' := [(3, .int (0 : Int32)), (0, .ref (Gad G (56))), (1, .ref (Gad G (p0))), (2, .ref (Gad G (p1)))]) C rfl dX7_tint_16 (by decide) rfl rfl ?_
  refine Go_lvp [1, 2, 3, 0] rfl ?_
  exact g_X7_tint_17 C hQ p0 p1 hp0 hp1 _ hR hw
-- X7_haveSameTints
abbrev rm_X7_haveSameTints : Room := { frames := 1, cells := 0, slots := 0, locals := 21 }
set_option maxRecDepth 100000 in
set_option maxHeartbeats 4000000 in
theorem g_X7_haveSameTints_80 {G : GC} (C : Cx G cX7_haveSameTints BIG RX7 4 (some .boolean) rm_X7_haveSameTints shE NE) {Q : Int32 → St → Prop} (hQ : QI G RCE Q) (v1 : Int32) (v3 : Int32) (t0 : Int32) (t1 : Int32) {k17 : Int32 → Int32 → St → Prop} (hk17 : ∀ (v2 : Int32) (v3 : Int32) (S : St), RCE S → k17 v2 v3 S → Go G 4 17 [] [(0, .ref (Gad G (56))), (1, .int v1), (2, .int v2), (3, .int v3)] S) {S : St} (hR : RCE S) (hw : w_X7_haveSameTints_80 k17 v1 v3 t0 t1 S) : Go G 4 80 [.int t0, .int t1] [(0, .ref (Gad G (56))), (1, .int v1), (3, .int v3)] S := by
  unfold w_X7_haveSameTints_80 at hw
  refine Go_isub (q := 81) C dX7_haveSameTints_80 rfl ?_
  refine Go_topi (fun x81_11 e_x81_11 => ?_)
  have hw := hw x81_11 e_x81_11
  refine Go_istore_n (q := 82) (lv' := [(2, .int x81_11), (0, .ref (Gad G (56))), (1, .int v1), (3, .int v3)]) C rfl dX7_haveSameTints_81 (by decide) rfl rfl ?_
  refine Go_iinc2 (q := 85) (kp := 3) (cst := (1 : Int32)) C dX7_haveSameTints_82 rfl rfl (by decide) rfl (fun x82_12 e_x82_12 => ?_)
  have hw := hw x82_12 e_x82_12
  refine Go_lve (lv' := [(3, .int x82_12), (2, .int x81_11), (0, .ref (Gad G (56))), (1, .int v1)]) rfl ?_
  refine Go_goto (q := 17) C dX7_haveSameTints_85 rfl ?_
  refine Go_lvp [2, 3, 1, 0] rfl ?_
  exact hk17 _ _ _ hR hw
set_option maxRecDepth 100000 in
set_option maxHeartbeats 4000000 in
theorem g_X7_haveSameTints_53 {G : GC} (C : Cx G cX7_haveSameTints BIG RX7 4 (some .boolean) rm_X7_haveSameTints shE NE) {Q : Int32 → St → Prop} (hQ : QI G RCE Q) (v1 : Int32) (v3 : Int32) (t0 : Int32) (t1 : Int32) {k17 : Int32 → Int32 → St → Prop} (hk17 : ∀ (v2 : Int32) (v3 : Int32) (S : St), RCE S → k17 v2 v3 S → Go G 4 17 [] [(0, .ref (Gad G (56))), (1, .int v1), (2, .int v2), (3, .int v3)] S) {S : St} (hR : RCE S) (hw : w_X7_haveSameTints_53 k17 v1 v3 t0 t1 S) : Go G 4 53 [.int t0, .int t1] [(0, .ref (Gad G (56))), (1, .int v1), (3, .int v3)] S := by
  unfold w_X7_haveSameTints_53 at hw
  refine Go_iadd (q := 54) C dX7_haveSameTints_53 rfl ?_
  refine Go_topi (fun x54_6 e_x54_6 => ?_)
  have hw := hw x54_6 e_x54_6
  refine Go_istore_n (q := 55) (lv' := [(2, .int x54_6), (0, .ref (Gad G (56))), (1, .int v1), (3, .int v3)]) C rfl dX7_haveSameTints_54 (by decide) rfl rfl ?_
  refine Go_iload_n (q := 56) C 0 rfl dX7_haveSameTints_55 rfl ?_
  refine Go_aload_n (q := 57) C 1 rfl dX7_haveSameTints_56 rfl ?_
  refine Go_getA (q := 60) (k := 2) C ci7 iw_7 kE_56 (rE_56_2 hR) rfl wm_9_9 rfl dX7_haveSameTints_57 rfl ?_
  refine Go_iload_n (q := 61) C 3 rfl dX7_haveSameTints_60 rfl ?_
  refine Go_callSN_I (av := (fun ad => [.ref (ad (59)), .int v3])) (st := [.int x54_6]) (C := C) (hM := c_X11_cell (Gl G) (ok_ln kE_59) hR hw) (host := "EndsRound") (hnw := nw_97) (hini := wm_1_2) (hst2 := wm_10_22) (hcode := wm_10_23) (n := 2) (hd := by decide +kernel) (hr0 := ⟨rfl, rfl⟩) (hroom := ⟨by first | decide | (dsimp only; omega), by first | decide | (dsimp only; omega)⟩) (hlen := rfl) (hst := rfl) (hW := Nat.le_of_ble_eq_true rfl) (hdg := dX7_haveSameTints_61) (q := 64) (hq := rfl) (fun r61_8 S61_7 hw hR => ?_)
  refine Go_aload_n (q := 65) C 1 rfl dX7_haveSameTints_64 rfl ?_
  refine Go_getA (q := 68) (k := 1) C ci7 iw_7 kE_56 (rE_56_1 hR) rfl wm_9_8 rfl dX7_haveSameTints_65 rfl ?_
  refine Go_iload_n (q := 69) C 2 rfl dX7_haveSameTints_68 rfl ?_
  refine Go_callSN_I (av := (fun ad => [.ref (ad (58)), .int v1])) (st := [.int r61_8, .int x54_6]) (C := C) (hM := c_X11_cell (Gl G) (ok_ln kE_58) hR hw) (host := "EndsRound") (hnw := nw_97) (hini := wm_1_2) (hst2 := wm_10_22) (hcode := wm_10_23) (n := 2) (hd := by decide +kernel) (hr0 := ⟨rfl, rfl⟩) (hroom := ⟨by first | decide | (dsimp only; omega), by first | decide | (dsimp only; omega)⟩) (hlen := rfl) (hst := rfl) (hW := Nat.le_of_ble_eq_true rfl) (hdg := dX7_haveSameTints_69) (q := 72) (hq := rfl) (fun r69_10 S69_9 hw hR => ?_)
  refine Go_icmp_ne (t := 79) (q := 75) C hw dX7_haveSameTints_72 rfl rfl (fun hw => ?_) (fun hw => ?_)
  · refine Go_iconst (q := 76) (v := (1 : Int32)) C dX7_haveSameTints_75 rfl rfl ?_
    refine Go_goto (q := 80) C dX7_haveSameTints_76 rfl ?_
    refine Go_lvp [1, 2, 3] rfl ?_
    exact g_X7_haveSameTints_80 C hQ _ _ _ _ hk17 hR hw
  · refine Go_iconst (q := 80) (v := (0 : Int32)) C dX7_haveSameTints_79 rfl rfl ?_
    refine Go_lvp [1, 2, 3] rfl ?_
    exact g_X7_haveSameTints_80 C hQ _ _ _ _ hk17 hR hw
set_option maxRecDepth 100000 in
set_option maxHeartbeats 4000000 in
theorem g_X7_haveSameTints_17 {G : GC} (C : Cx G cX7_haveSameTints BIG RX7 4 (some .boolean) rm_X7_haveSameTints shE NE) {Q : Int32 → St → Prop} (hQ : QI G RCE Q) (v1 : Int32) {k2 : Int32 → St → Prop} (hk2 : ∀ (v1 : Int32) (S : St), RCE S → k2 v1 S → Go G 4 2 [] [(0, .ref (Gad G (56))), (1, .int v1)] S) (v2 : Int32) (v3 : Int32) {S : St} (hR : RCE S) (hw : w_X7_haveSameTints_17 Q k2 v1 v2 v3 S) : Go G 4 17 [] [(0, .ref (Gad G (56))), (1, .int v1), (2, .int v2), (3, .int v3)] S := by
  obtain ⟨n, hw⟩ := hw
  induction n generalizing v2 v3 S with
  | zero => exact hw.elim
  | succ n ih =>
    have hw : b_X7_haveSameTints_17 Q k2 v1 (lpn (fun _ _ _ => False) (b_X7_haveSameTints_17 Q k2 v1) n) v2 v3 S := hw
    generalize lpn (fun _ _ _ => False) (b_X7_haveSameTints_17 Q k2 v1) n = kf at hw ih
    have hk17 := fun (v2 : Int32) (v3 : Int32) (S : St) (hR : RCE S) hw => ih v2 v3 hR hw
    unfold b_X7_haveSameTints_17 at hw
    refine Go_iload_n (q := 18) C 3 rfl dX7_haveSameTints_17 rfl ?_
    refine Go_aload_n (q := 19) C 0 rfl dX7_haveSameTints_18 rfl ?_
    refine Go_getA (q := 22) (k := 5) C ci7 iw_7 kE_56 (rE_56_5 hR) rfl wm_9_13 rfl dX7_haveSameTints_19 rfl ?_
    refine Go_getIN (q := 25) (k := 0) (host := "EndsRound") C ci4 iw_4 kE_21 rfl nw_7 rfl dX7_haveSameTints_22 rfl ?_
    refine Go_icmp_ge (t := 88) (q := 28) C hw dX7_haveSameTints_25 rfl rfl (fun hw => ?_) (fun hw => ?_)
    · refine Go_iload_n (q := 89) C 2 rfl dX7_haveSameTints_88 rfl ?_
      refine Go_if_eq (t := 94) (q := 92) C hw dX7_haveSameTints_89 rfl rfl (fun hw => ?_) (fun hw => ?_)
      · refine Go_iinc2 (q := 97) (kp := 1) (cst := (1 : Int32)) C dX7_haveSameTints_94 rfl rfl (by decide) rfl (fun x94_1 e_x94_1 => ?_)
        have hw := hw x94_1 e_x94_1
        refine Go_lve (lv' := [(1, .int x94_1), (0, .ref (Gad G (56))), (2, .int v2), (3, .int v3)]) rfl ?_
        refine Go_goto (q := 2) C dX7_haveSameTints_97 rfl ?_
        refine Go_lvp [1, 0] rfl ?_
        exact hk2 _ _ hR hw
      · refine Go_iconst (q := 93) (v := (0 : Int32)) C dX7_haveSameTints_92 rfl rfl ?_
        exact Go_zret C hQ hR rfl hw dX7_haveSameTints_93
    · refine Go_iload_n (q := 29) C 2 rfl dX7_haveSameTints_28 rfl ?_
      refine Go_aload_n (q := 30) C 0 rfl dX7_haveSameTints_29 rfl ?_
      refine Go_getA (q := 33) (k := 1) C ci7 iw_7 kE_56 (rE_56_1 hR) rfl wm_9_8 rfl dX7_haveSameTints_30 rfl ?_
      refine Go_iload_n (q := 34) C 3 rfl dX7_haveSameTints_33 rfl ?_
      refine Go_callSN_I (av := (fun ad => [.ref (ad (58)), .int v3])) (st := [.int v2]) (C := C) (hM := c_X11_cell (Gl G) (ok_ln kE_58) hR hw) (host := "EndsRound") (hnw := nw_97) (hini := wm_1_2) (hst2 := wm_10_22) (hcode := wm_10_23) (n := 2) (hd := by decide +kernel) (hr0 := ⟨rfl, rfl⟩) (hroom := ⟨by first | decide | (dsimp only; omega), by first | decide | (dsimp only; omega)⟩) (hlen := rfl) (hst := rfl) (hW := Nat.le_of_ble_eq_true rfl) (hdg := dX7_haveSameTints_34) (q := 37) (hq := rfl) (fun r34_3 S34_2 hw hR => ?_)
      refine Go_aload_n (q := 38) C 0 rfl dX7_haveSameTints_37 rfl ?_
      refine Go_getA (q := 41) (k := 1) C ci7 iw_7 kE_56 (rE_56_1 hR) rfl wm_9_8 rfl dX7_haveSameTints_38 rfl ?_
      refine Go_iload_n (q := 42) C 1 rfl dX7_haveSameTints_41 rfl ?_
      refine Go_callSN_I (av := (fun ad => [.ref (ad (58)), .int v1])) (st := [.int r34_3, .int v2]) (C := C) (hM := c_X11_cell (Gl G) (ok_ln kE_58) hR hw) (host := "EndsRound") (hnw := nw_97) (hini := wm_1_2) (hst2 := wm_10_22) (hcode := wm_10_23) (n := 2) (hd := by decide +kernel) (hr0 := ⟨rfl, rfl⟩) (hroom := ⟨by first | decide | (dsimp only; omega), by first | decide | (dsimp only; omega)⟩) (hlen := rfl) (hst := rfl) (hW := Nat.le_of_ble_eq_true rfl) (hdg := dX7_haveSameTints_42) (q := 45) (hq := rfl) (fun r42_5 S42_4 hw hR => ?_)
      refine Go_icmp_ne (t := 52) (q := 48) C hw dX7_haveSameTints_45 rfl rfl (fun hw => ?_) (fun hw => ?_)
      · refine Go_iconst (q := 49) (v := (1 : Int32)) C dX7_haveSameTints_48 rfl rfl ?_
        refine Go_goto (q := 53) C dX7_haveSameTints_49 rfl ?_
        refine Go_lvp [0, 1, 3] rfl ?_
        exact g_X7_haveSameTints_53 C hQ _ _ _ _ hk17 hR hw
      · refine Go_iconst (q := 53) (v := (0 : Int32)) C dX7_haveSameTints_52 rfl rfl ?_
        refine Go_lvp [0, 1, 3] rfl ?_
        exact g_X7_haveSameTints_53 C hQ _ _ _ _ hk17 hR hw
set_option maxRecDepth 100000 in
set_option maxHeartbeats 4000000 in
theorem g_X7_haveSameTints_2 {G : GC} (C : Cx G cX7_haveSameTints BIG RX7 4 (some .boolean) rm_X7_haveSameTints shE NE) {Q : Int32 → St → Prop} (hQ : QI G RCE Q) (v1 : Int32) {S : St} (hR : RCE S) (hw : w_X7_haveSameTints_2 Q v1 S) : Go G 4 2 [] [(0, .ref (Gad G (56))), (1, .int v1)] S := by
  obtain ⟨n, hw⟩ := hw
  induction n generalizing v1 S with
  | zero => exact hw.elim
  | succ n ih =>
    have hw : b_X7_haveSameTints_2 Q (lpn (fun _ _ => False) (b_X7_haveSameTints_2 Q) n) v1 S := hw
    generalize lpn (fun _ _ => False) (b_X7_haveSameTints_2 Q) n = kf at hw ih
    have hk2 := fun (v1 : Int32) (S : St) (hR : RCE S) hw => ih v1 hR hw
    unfold b_X7_haveSameTints_2 at hw
    refine Go_iload_n (q := 3) C 1 rfl dX7_haveSameTints_2 rfl ?_
    refine Go_aload_n (q := 4) C 0 rfl dX7_haveSameTints_3 rfl ?_
    refine Go_getA (q := 7) (k := 5) C ci7 iw_7 kE_56 (rE_56_5 hR) rfl wm_9_13 rfl dX7_haveSameTints_4 rfl ?_
    refine Go_getIN (q := 10) (k := 0) (host := "EndsRound") C ci4 iw_4 kE_21 rfl nw_7 rfl dX7_haveSameTints_7 rfl ?_
    refine Go_icmp_ge (t := 100) (q := 13) C hw dX7_haveSameTints_10 rfl rfl (fun hw => ?_) (fun hw => ?_)
    · refine Go_iconst (q := 101) (v := (1 : Int32)) C dX7_haveSameTints_100 rfl rfl ?_
      exact Go_zret C hQ hR rfl hw dX7_haveSameTints_101
    · refine Go_iconst (q := 14) (v := (0 : Int32)) C dX7_haveSameTints_13 rfl rfl ?_
      refine Go_istore_n (q := 15) (lv' := [(2, .int (0 : Int32)), (0, .ref (Gad G (56))), (1, .int v1)]) C rfl dX7_haveSameTints_14 (by decide) rfl rfl ?_
      refine Go_iconst (q := 16) (v := (0 : Int32)) C dX7_haveSameTints_15 rfl rfl ?_
      refine Go_istore_n (q := 17) (lv' := [(3, .int (0 : Int32)), (2, .int (0 : Int32)), (0, .ref (Gad G (56))), (1, .int v1)]) C rfl dX7_haveSameTints_16 (by decide) rfl rfl ?_
      refine Go_lvp [2, 3, 1, 0] rfl ?_
      exact g_X7_haveSameTints_17 C hQ _ hk2 _ _ hR hw
set_option maxRecDepth 100000 in
set_option maxHeartbeats 4000000 in
theorem c_X7_haveSameTints (l : Launch) {S : St} {Q : Int32 → St → Prop} (hR : RCE S) (hw : w_X7_haveSameTints S Q) : MetI l yX7_haveSameTints (wB yX7_haveSameTints cX7_haveSameTints 4 (some .boolean)) rm_X7_haveSameTints shE NE RCE (fun ad => [.ref (ad (56))]) S Q := by
  refine MetI_of (cc := cX7_haveSameTints) (maxL := 4) (ret := (some .boolean)) (plainFor_of_name (by decide)) (fun _ => Nat.le_of_ble_eq_true rfl) (fun G C hl hQ => ?_)
  subst hl
  have C : Cx G cX7_haveSameTints BIG RX7 4 (some .boolean) rm_X7_haveSameTints shE NE := C
  show Go G 4 0 [] [(0, .ref (Gad G (56)))] S
  unfold w_X7_haveSameTints at hw
  refine Go_iconst (q := 1) (v := (0 : Int32)) C dX7_haveSameTints_0 rfl rfl ?_
  refine Go_istore_n (q := 2) (lv' := [(1, .int (0 : Int32)), (0, .ref (Gad G (56)))]) C rfl dX7_haveSameTints_1 (by decide) rfl rfl ?_
  refine Go_lvp [1, 0] rfl ?_
  exact g_X7_haveSameTints_2 C hQ _ hR hw
-- X7_fits
abbrev rm_X7_fits : Room := { frames := 1, cells := 0, slots := 0, locals := 21 }
set_option maxRecDepth 100000 in
set_option maxHeartbeats 4000000 in
theorem g_X7_fits_48 {G : GC} (C : Cx G cX7_fits BIG RX7 5 (some .boolean) rm_X7_fits shE NE) {Q : Int32 → St → Prop} (hQ : QI G RCE Q) (p0 : Int32) (p1 : Int32) (v3 : Int32) {S : St} (hR : RCE S) (hw : w_X7_fits_48 p0 p1 Q v3 S) : Go G 5 48 [] [(0, .ref (Gad G (56))), (1, .int p0), (2, .int p1), (3, .int v3)] S := by
  obtain ⟨n, hw⟩ := hw
  induction n generalizing v3 S with
  | zero => exact hw.elim
  | succ n ih =>
    have hw : b_X7_fits_48 p0 p1 Q (lpn (fun _ _ => False) (b_X7_fits_48 p0 p1 Q) n) v3 S := hw
    generalize lpn (fun _ _ => False) (b_X7_fits_48 p0 p1 Q) n = kf at hw ih
    have hk48 := fun (v3 : Int32) (S : St) (hR : RCE S) hw => ih v3 hR hw
    unfold b_X7_fits_48 at hw
    refine Go_iload_n (q := 49) C 3 rfl dX7_fits_48 rfl ?_
    refine Go_aload_n (q := 50) C 0 rfl dX7_fits_49 rfl ?_
    refine Go_getA (q := 53) (k := 5) C ci7 iw_7 kE_56 (rE_56_5 hR) rfl wm_9_13 rfl dX7_fits_50 rfl ?_
    refine Go_getIN (q := 56) (k := 0) (host := "EndsRound") C ci4 iw_4 kE_21 rfl nw_7 rfl dX7_fits_53 rfl ?_
    refine Go_icmp_ge (t := 117) (q := 59) C hw dX7_fits_56 rfl rfl (fun hw => ?_) (fun hw => ?_)
    · refine Go_iconst (q := 118) (v := (1 : Int32)) C dX7_fits_117 rfl rfl ?_
      exact Go_zret C hQ hR rfl hw dX7_fits_118
    · refine Go_aload_n (q := 60) C 0 rfl dX7_fits_59 rfl ?_
      refine Go_getA (q := 63) (k := 0) C ci7 iw_7 kE_56 (rE_56_0 hR) rfl wm_9_7 rfl dX7_fits_60 rfl ?_
      refine Go_iload_n (q := 64) C 3 rfl dX7_fits_63 rfl ?_
      refine Go_callSN_I (av := (fun ad => [.ref (ad (57)), .int v3])) (st := []) (C := C) (hM := c_X11_cell (Gl G) (ok_ln kE_57) hR hw) (host := "EndsRound") (hnw := nw_97) (hini := wm_1_2) (hst2 := wm_10_22) (hcode := wm_10_23) (n := 2) (hd := by decide +kernel) (hr0 := ⟨rfl, rfl⟩) (hroom := ⟨by first | decide | (dsimp only; omega), by first | decide | (dsimp only; omega)⟩) (hlen := rfl) (hst := rfl) (hW := Nat.le_of_ble_eq_true rfl) (hdg := dX7_fits_64) (q := 67) (hq := rfl) (fun r64_11 S64_10 hw hR => ?_)
      refine Go_istore (q := 69) (lv' := [(4, .int r64_11), (0, .ref (Gad G (56))), (1, .int p0), (2, .int p1), (3, .int v3)]) C dX7_fits_67 (by decide) rfl rfl ?_
      refine Go_iload (q := 71) C 0 rfl dX7_fits_69 rfl ?_
      refine Go_iconst (q := 72) (v := (-1 : Int32)) C dX7_fits_71 rfl rfl ?_
      refine Go_icmp_eq (t := 111) (q := 75) C hw dX7_fits_72 rfl rfl (fun hw => ?_) (fun hw => ?_)
      · refine Go_iinc2 (q := 114) (kp := 4) (cst := (1 : Int32)) C dX7_fits_111 rfl rfl (by decide) rfl (fun x111_12 e_x111_12 => ?_)
        have hw := hw x111_12 e_x111_12
        refine Go_lve (lv' := [(3, .int x111_12), (4, .int r64_11), (0, .ref (Gad G (56))), (1, .int p0), (2, .int p1)]) rfl ?_
        refine Go_goto (q := 48) C dX7_fits_114 rfl ?_
        refine Go_lvp [2, 3, 4, 0] rfl ?_
        exact hk48 _ _ hR hw
      · refine Go_aload_n (q := 76) C 1 rfl dX7_fits_75 rfl ?_
        refine Go_getA (q := 79) (k := 5) C ci7 iw_7 kE_56 (rE_56_5 hR) rfl wm_9_13 rfl dX7_fits_76 rfl ?_
        refine Go_getAN (q := 82) (k := 8) (host := "EndsRound") C ci4 iw_4 kE_21 (rE4_8 hR isE4_21) rfl nw_30 rfl dX7_fits_79 rfl ?_
        refine Go_iload_n (q := 83) C 2 rfl dX7_fits_82 rfl ?_
        refine Go_callSN_I (av := (fun ad => [.ref (ad (23)), .int p0])) (st := []) (C := C) (hM := c_X11_cell (Gl G) (ok_ln kE_23) hR hw) (host := "EndsRound") (hnw := nw_97) (hini := wm_1_2) (hst2 := wm_10_22) (hcode := wm_10_23) (n := 2) (hd := by decide +kernel) (hr0 := ⟨rfl, rfl⟩) (hroom := ⟨by first | decide | (dsimp only; omega), by first | decide | (dsimp only; omega)⟩) (hlen := rfl) (hst := rfl) (hW := Nat.le_of_ble_eq_true rfl) (hdg := dX7_fits_83) (q := 86) (hq := rfl) (fun r83_14 S83_13 hw hR => ?_)
        refine Go_iload_n (q := 87) C 4 rfl dX7_fits_86 rfl ?_
        refine Go_ishr (q := 88) C dX7_fits_87 rfl ?_
        refine Go_iconst (q := 89) (v := (1 : Int32)) C dX7_fits_88 rfl rfl ?_
        refine Go_iand (q := 90) C dX7_fits_89 rfl ?_
        refine Go_aload_n (q := 91) C 1 rfl dX7_fits_90 rfl ?_
        refine Go_getO (q := 94) (k := 6) C ci7 iw_7 kE_56 rfl wm_9_14 rfl dX7_fits_91 rfl ?_
        obtain ⟨m91_15, e_m91_15, i_m91_15, hw⟩ := hw
        refine Go_deref e_m91_15 ?_
        refine Go_getAN (q := 97) (k := 8) (host := "EndsRound") C ci4 iw_4 (oE4 i_m91_15) (rE4_8 hR i_m91_15) rfl nw_30 rfl dX7_fits_94 rfl ?_
        refine Go_iload_n (q := 98) C 3 rfl dX7_fits_97 rfl ?_
        refine Go_callSN_I (av := (fun ad => [.ref (ad ((m91_15 + 2))), .int p1])) (st := [.int ((r83_14 >>> (v3 &&& 31)) &&& (1 : Int32))]) (C := C) (hM := c_X11_cell (Gl G) (ok_ln (oE4_8 i_m91_15)) hR hw) (host := "EndsRound") (hnw := nw_97) (hini := wm_1_2) (hst2 := wm_10_22) (hcode := wm_10_23) (n := 2) (hd := by decide +kernel) (hr0 := ⟨rfl, rfl⟩) (hroom := ⟨by first | decide | (dsimp only; omega), by first | decide | (dsimp only; omega)⟩) (hlen := rfl) (hst := rfl) (hW := Nat.le_of_ble_eq_true rfl) (hdg := dX7_fits_98) (q := 101) (hq := rfl) (fun r98_17 S98_16 hw hR => ?_)
        refine Go_iload (q := 103) C 0 rfl dX7_fits_101 rfl ?_
        refine Go_ishr (q := 104) C dX7_fits_103 rfl ?_
        refine Go_iconst (q := 105) (v := (1 : Int32)) C dX7_fits_104 rfl rfl ?_
        refine Go_iand (q := 106) C dX7_fits_105 rfl ?_
        refine Go_icmp_eq (t := 111) (q := 109) C hw dX7_fits_106 rfl rfl (fun hw => ?_) (fun hw => ?_)
        · refine Go_iinc2 (q := 114) (kp := 4) (cst := (1 : Int32)) C dX7_fits_111 rfl rfl (by decide) rfl (fun x111_18 e_x111_18 => ?_)
          have hw := hw x111_18 e_x111_18
          refine Go_lve (lv' := [(3, .int x111_18), (4, .int r64_11), (0, .ref (Gad G (56))), (1, .int p0), (2, .int p1)]) rfl ?_
          refine Go_goto (q := 48) C dX7_fits_114 rfl ?_
          refine Go_lvp [2, 3, 4, 0] rfl ?_
          exact hk48 _ _ hR hw
        · refine Go_iconst (q := 110) (v := (0 : Int32)) C dX7_fits_109 rfl rfl ?_
          exact Go_zret C hQ hR rfl hw dX7_fits_110
set_option maxRecDepth 100000 in
set_option maxHeartbeats 4000000 in
theorem c_X7_fits (l : Launch) {p0 : Int32} {p1 : Int32} {S : St} {Q : Int32 → St → Prop} (hR : RCE S) (hw : w_X7_fits p0 p1 S Q) : MetI l yX7_fits (wB yX7_fits cX7_fits 5 (some .boolean)) rm_X7_fits shE NE RCE (fun ad => [.ref (ad (56)), .int p0, .int p1]) S Q := by
  refine MetI_of (cc := cX7_fits) (maxL := 5) (ret := (some .boolean)) (plainFor_of_name (by decide)) (fun _ => Nat.le_of_ble_eq_true rfl) (fun G C hl hQ => ?_)
  subst hl
  have C : Cx G cX7_fits BIG RX7 5 (some .boolean) rm_X7_fits shE NE := C
  show Go G 5 0 [] [(0, .ref (Gad G (56))), (1, .int p0), (2, .int p1)] S
  unfold w_X7_fits at hw
  refine Go_aload_n (q := 1) C 0 rfl dX7_fits_0 rfl ?_
  refine Go_getA (q := 4) (k := 1) C ci7 iw_7 kE_56 (rE_56_1 hR) rfl wm_9_8 rfl dX7_fits_1 rfl ?_
  refine Go_iload_n (q := 5) C 1 rfl dX7_fits_4 rfl ?_
  refine Go_callSN_I (av := (fun ad => [.ref (ad (58)), .int p0])) (st := []) (C := C) (hM := c_X11_cell (Gl G) (ok_ln kE_58) hR hw) (host := "EndsRound") (hnw := nw_97) (hini := wm_1_2) (hst2 := wm_10_22) (hcode := wm_10_23) (n := 2) (hd := by decide +kernel) (hr0 := ⟨rfl, rfl⟩) (hroom := ⟨by first | decide | (dsimp only; omega), by first | decide | (dsimp only; omega)⟩) (hlen := rfl) (hst := rfl) (hW := Nat.le_of_ble_eq_true rfl) (hdg := dX7_fits_5) (q := 8) (hq := rfl) (fun r5_2 S5_1 hw hR => ?_)
  refine Go_aload_n (q := 9) C 0 rfl dX7_fits_8 rfl ?_
  refine Go_getA (q := 12) (k := 2) C ci7 iw_7 kE_56 (rE_56_2 hR) rfl wm_9_9 rfl dX7_fits_9 rfl ?_
  refine Go_iload_n (q := 13) C 2 rfl dX7_fits_12 rfl ?_
  refine Go_callSN_I (av := (fun ad => [.ref (ad (59)), .int p1])) (st := [.int r5_2]) (C := C) (hM := c_X11_cell (Gl G) (ok_ln kE_59) hR hw) (host := "EndsRound") (hnw := nw_97) (hini := wm_1_2) (hst2 := wm_10_22) (hcode := wm_10_23) (n := 2) (hd := by decide +kernel) (hr0 := ⟨rfl, rfl⟩) (hroom := ⟨by first | decide | (dsimp only; omega), by first | decide | (dsimp only; omega)⟩) (hlen := rfl) (hst := rfl) (hW := Nat.le_of_ble_eq_true rfl) (hdg := dX7_fits_13) (q := 16) (hq := rfl) (fun r13_4 S13_3 hw hR => ?_)
  refine Go_icmp_ne (t := 44) (q := 19) C hw dX7_fits_16 rfl rfl (fun hw => ?_) (fun hw => ?_)
  · refine Go_aload_n (q := 20) C 0 rfl dX7_fits_19 rfl ?_
    refine Go_getA (q := 23) (k := 5) C ci7 iw_7 kE_56 (rE_56_5 hR) rfl wm_9_13 rfl dX7_fits_20 rfl ?_
    refine Go_getAN (q := 26) (k := 9) (host := "EndsRound") C ci4 iw_4 kE_21 (rE4_9 hR isE4_21) rfl nw_31 rfl dX7_fits_23 rfl ?_
    refine Go_iload_n (q := 27) C 1 rfl dX7_fits_26 rfl ?_
    refine Go_callSN_I (av := (fun ad => [.ref (ad (24)), .int p0])) (st := []) (C := C) (hM := c_X11_cell (Gl G) (ok_ln kE_24) hR hw) (host := "EndsRound") (hnw := nw_97) (hini := wm_1_2) (hst2 := wm_10_22) (hcode := wm_10_23) (n := 2) (hd := by decide +kernel) (hr0 := ⟨rfl, rfl⟩) (hroom := ⟨by first | decide | (dsimp only; omega), by first | decide | (dsimp only; omega)⟩) (hlen := rfl) (hst := rfl) (hW := Nat.le_of_ble_eq_true rfl) (hdg := dX7_fits_27) (q := 30) (hq := rfl) (fun r27_6 S27_5 hw hR => ?_)
    refine Go_aload_n (q := 31) C 0 rfl dX7_fits_30 rfl ?_
    refine Go_getO (q := 34) (k := 6) C ci7 iw_7 kE_56 rfl wm_9_14 rfl dX7_fits_31 rfl ?_
    obtain ⟨m31_7, e_m31_7, i_m31_7, hw⟩ := hw
    refine Go_deref e_m31_7 ?_
    refine Go_getAN (q := 37) (k := 9) (host := "EndsRound") C ci4 iw_4 (oE4 i_m31_7) (rE4_9 hR i_m31_7) rfl nw_31 rfl dX7_fits_34 rfl ?_
    refine Go_iload_n (q := 38) C 2 rfl dX7_fits_37 rfl ?_
    refine Go_callSN_I (av := (fun ad => [.ref (ad ((m31_7 + 3))), .int p1])) (st := [.int r27_6]) (C := C) (hM := c_X11_cell (Gl G) (ok_ln (oE4_9 i_m31_7)) hR hw) (host := "EndsRound") (hnw := nw_97) (hini := wm_1_2) (hst2 := wm_10_22) (hcode := wm_10_23) (n := 2) (hd := by decide +kernel) (hr0 := ⟨rfl, rfl⟩) (hroom := ⟨by first | decide | (dsimp only; omega), by first | decide | (dsimp only; omega)⟩) (hlen := rfl) (hst := rfl) (hW := Nat.le_of_ble_eq_true rfl) (hdg := dX7_fits_38) (q := 41) (hq := rfl) (fun r38_9 S38_8 hw hR => ?_)
    refine Go_icmp_eq (t := 46) (q := 44) C hw dX7_fits_41 rfl rfl (fun hw => ?_) (fun hw => ?_)
    · refine Go_iconst (q := 47) (v := (0 : Int32)) C dX7_fits_46 rfl rfl ?_
      refine Go_istore_n (q := 48) (lv' := [(3, .int (0 : Int32)), (0, .ref (Gad G (56))), (1, .int p0), (2, .int p1)]) C rfl dX7_fits_47 (by decide) rfl rfl ?_
      refine Go_lvp [1, 2, 3, 0] rfl ?_
      exact g_X7_fits_48 C hQ p0 p1 _ hR hw
    · refine Go_iconst (q := 45) (v := (0 : Int32)) C dX7_fits_44 rfl rfl ?_
      exact Go_zret C hQ hR rfl hw dX7_fits_45
  · refine Go_iconst (q := 45) (v := (0 : Int32)) C dX7_fits_44 rfl rfl ?_
    exact Go_zret C hQ hR rfl hw dX7_fits_45
-- X7_givesCycle
abbrev rm_X7_givesCycle : Room := { frames := 2, cells := 0, slots := 0, locals := 45 }
set_option maxRecDepth 100000 in
set_option maxHeartbeats 4000000 in
theorem g_X7_givesCycle_111 {G : GC} (C : Cx G cX7_givesCycle BIG RX7 6 (some .boolean) rm_X7_givesCycle shE NE) {Q : Int32 → St → Prop} (hQ : QI G RCE Q) (v3 : Int32) (v4 : Int32) {S : St} (hR : RCE S) (hw : w_X7_givesCycle_111 Q v3 v4 S) : Go G 6 111 [] [(0, .ref (Gad G (56))), (3, .int v3), (4, .int v4)] S := by
  unfold w_X7_givesCycle_111 at hw
  refine Go_aload_n (q := 112) C 0 rfl dX7_givesCycle_111 rfl ?_
  refine Go_getA (q := 115) (k := 0) C ci7 iw_7 kE_56 (rE_56_0 hR) rfl wm_9_7 rfl dX7_givesCycle_112 rfl ?_
  refine Go_iload_n (q := 116) C 1 rfl dX7_givesCycle_115 rfl ?_
  refine Go_callSN_I (av := (fun ad => [.ref (ad (57)), .int v3])) (st := []) (C := C) (hM := c_X11_cell (Gl G) (ok_ln kE_57) hR hw) (host := "EndsRound") (hnw := nw_97) (hini := wm_1_2) (hst2 := wm_10_22) (hcode := wm_10_23) (n := 2) (hd := by decide +kernel) (hr0 := ⟨rfl, rfl⟩) (hroom := ⟨by first | decide | (dsimp only; omega), by first | decide | (dsimp only; omega)⟩) (hlen := rfl) (hst := rfl) (hW := Nat.le_of_ble_eq_true rfl) (hdg := dX7_givesCycle_116) (q := 119) (hq := rfl) (fun r116_2 S116_1 hw hR => ?_)
  refine Go_iload (q := 121) C 2 rfl dX7_givesCycle_119 rfl ?_
  refine Go_icmp_ne (t := 128) (q := 124) C hw dX7_givesCycle_121 rfl rfl (fun hw => ?_) (fun hw => ?_)
  · refine Go_iconst (q := 125) (v := (1 : Int32)) C dX7_givesCycle_124 rfl rfl ?_
    refine Go_goto (q := 129) C dX7_givesCycle_125 rfl ?_
    exact Go_zret C hQ hR rfl hw dX7_givesCycle_129
  · refine Go_iconst (q := 129) (v := (0 : Int32)) C dX7_givesCycle_128 rfl rfl ?_
    exact Go_zret C hQ hR rfl hw dX7_givesCycle_129
set_option maxRecDepth 100000 in
set_option maxHeartbeats 4000000 in
theorem g_X7_givesCycle_8 {G : GC} (C : Cx G cX7_givesCycle BIG RX7 6 (some .boolean) rm_X7_givesCycle shE NE) {Q : Int32 → St → Prop} (hQ : QI G RCE Q) (v3 : Int32) (v4 : Int32) (v5 : Int32) {S : St} (hR : RCE S) (hw : w_X7_givesCycle_8 Q v3 v4 v5 S) : Go G 6 8 [] [(0, .ref (Gad G (56))), (3, .int v3), (4, .int v4), (5, .int v5)] S := by
  obtain ⟨n, hw⟩ := hw
  induction n generalizing v3 v4 v5 S with
  | zero => exact hw.elim
  | succ n ih =>
    have hw : b_X7_givesCycle_8 Q (lpn (fun _ _ _ _ => False) (b_X7_givesCycle_8 Q) n) v3 v4 v5 S := hw
    generalize lpn (fun _ _ _ _ => False) (b_X7_givesCycle_8 Q) n = kf at hw ih
    have hk8 := fun (v3 : Int32) (v4 : Int32) (v5 : Int32) (S : St) (hR : RCE S) hw => ih v3 v4 v5 hR hw
    unfold b_X7_givesCycle_8 at hw
    refine Go_iload (q := 10) C 3 rfl dX7_givesCycle_8 rfl ?_
    refine Go_aload_n (q := 11) C 0 rfl dX7_givesCycle_10 rfl ?_
    refine Go_getA (q := 14) (k := 5) C ci7 iw_7 kE_56 (rE_56_5 hR) rfl wm_9_13 rfl dX7_givesCycle_11 rfl ?_
    refine Go_getIN (q := 17) (k := 0) (host := "EndsRound") C ci4 iw_4 kE_21 rfl nw_7 rfl dX7_givesCycle_14 rfl ?_
    refine Go_icmp_ge (t := 111) (q := 20) C hw dX7_givesCycle_17 rfl rfl (fun hw => ?_) (fun hw => ?_)
    · refine Go_lvp [0, 1, 2] rfl ?_
      exact g_X7_givesCycle_111 C hQ _ _ hR hw
    · refine Go_aload_n (q := 21) C 0 rfl dX7_givesCycle_20 rfl ?_
      refine Go_getA (q := 24) (k := 0) C ci7 iw_7 kE_56 (rE_56_0 hR) rfl wm_9_7 rfl dX7_givesCycle_21 rfl ?_
      refine Go_iload_n (q := 25) C 1 rfl dX7_givesCycle_24 rfl ?_
      refine Go_callSN_I (av := (fun ad => [.ref (ad (57)), .int v3])) (st := []) (C := C) (hM := c_X11_cell (Gl G) (ok_ln kE_57) hR hw) (host := "EndsRound") (hnw := nw_97) (hini := wm_1_2) (hst2 := wm_10_22) (hcode := wm_10_23) (n := 2) (hd := by decide +kernel) (hr0 := ⟨rfl, rfl⟩) (hroom := ⟨by first | decide | (dsimp only; omega), by first | decide | (dsimp only; omega)⟩) (hlen := rfl) (hst := rfl) (hW := Nat.le_of_ble_eq_true rfl) (hdg := dX7_givesCycle_25) (q := 28) (hq := rfl) (fun r25_4 S25_3 hw hR => ?_)
      refine Go_iconst (q := 29) (v := (-1 : Int32)) C dX7_givesCycle_28 rfl rfl ?_
      refine Go_icmp_ne (t := 111) (q := 32) C hw dX7_givesCycle_29 rfl rfl (fun hw => ?_) (fun hw => ?_)
      · refine Go_aload_n (q := 33) C 0 rfl dX7_givesCycle_32 rfl ?_
        refine Go_getI (q := 36) (k := 7) C ci7 iw_7 kE_56 rfl wm_48_23 rfl dX7_givesCycle_33 rfl ?_
        refine Go_iload (q := 38) C 2 rfl dX7_givesCycle_36 rfl ?_
        refine Go_ishr (q := 39) C dX7_givesCycle_38 rfl ?_
        refine Go_iconst (q := 40) (v := (1 : Int32)) C dX7_givesCycle_39 rfl rfl ?_
        refine Go_iand (q := 41) C dX7_givesCycle_40 rfl ?_
        refine Go_if_ne (t := 54) (q := 44) C hw dX7_givesCycle_41 rfl rfl (fun hw => ?_) (fun hw => ?_)
        · refine Go_aload_n (q := 45) C 0 rfl dX7_givesCycle_44 rfl ?_
          refine Go_iload_n (q := 46) C 1 rfl dX7_givesCycle_45 rfl ?_
          refine Go_iload (q := 48) C 2 rfl dX7_givesCycle_46 rfl ?_
          refine Go_callV_I (av := (fun ad => [.int v3, .int v4])) (st := []) (C := C) (hM := c_X7_fits (Gl G) hR hw) (hlk := wm_50_4) (hini := wm_2_20) (hins := wm_50_5) (hsel := wm_50_6) (hcode := wm_50_7) (ho := kE_56) (hci := rfl) (hc13 := by decide) (n := 2) (hd := by decide +kernel) (hr0 := ⟨rfl, rfl⟩) (hroom := ⟨by first | decide | (dsimp only; omega), by first | decide | (dsimp only; omega)⟩) (hlen := rfl) (hst := rfl) (hW := Nat.le_of_ble_eq_true rfl) (hdg := dX7_givesCycle_48) (q := 51) (hq := rfl) (fun r48_6 S48_5 hw hR => ?_)
          refine Go_if_ne (t := 56) (q := 54) C hw dX7_givesCycle_51 rfl rfl (fun hw => ?_) (fun hw => ?_)
          · refine Go_iconst (q := 55) (v := (0 : Int32)) C dX7_givesCycle_54 rfl rfl ?_
            exact Go_zret C hQ hR rfl hw dX7_givesCycle_55
          · refine Go_aload_n (q := 57) C 0 rfl dX7_givesCycle_56 rfl ?_
            refine Go_getA (q := 60) (k := 0) C ci7 iw_7 kE_56 (rE_56_0 hR) rfl wm_9_7 rfl dX7_givesCycle_57 rfl ?_
            refine Go_iload_n (q := 61) C 1 rfl dX7_givesCycle_60 rfl ?_
            refine Go_iload (q := 63) C 2 rfl dX7_givesCycle_61 rfl ?_
            refine Go_callSN_V (av := (fun ad => [.ref (ad (57)), .int v3, .int v4])) (st := []) (C := C) (hM := c_X11_put (Gl G) (ok_ln kE_57) hR hw) (host := "EndsRound") (hnw := nw_98) (hini := wm_1_2) (hst2 := wm_10_11) (hcode := wm_10_12) (n := 3) (hd := by decide +kernel) (hr0 := ⟨rfl, rfl⟩) (hroom := ⟨by first | decide | (dsimp only; omega), by first | decide | (dsimp only; omega)⟩) (hlen := rfl) (hst := rfl) (hW := Nat.le_of_ble_eq_true rfl) (hdg := dX7_givesCycle_63) (q := 66) (hq := rfl) (fun S63_7 hw hR => ?_)
            refine Go_aload_n (q := 67) C 0 rfl dX7_givesCycle_66 rfl ?_
            refine Go_dup (q := 68) C rfl dX7_givesCycle_67 rfl ?_
            refine Go_getI (q := 71) (k := 7) C ci7 iw_7 kE_56 rfl wm_48_23 rfl dX7_givesCycle_68 rfl ?_
            refine Go_iconst (q := 72) (v := (1 : Int32)) C dX7_givesCycle_71 rfl rfl ?_
            refine Go_iload (q := 74) C 2 rfl dX7_givesCycle_72 rfl ?_
            refine Go_ishl (q := 75) C dX7_givesCycle_74 rfl ?_
            refine Go_ior (q := 76) C dX7_givesCycle_75 rfl ?_
            refine Go_putI (q := 79) (k := 7) C ci7 iw_7 kE_56 rfl wm_48_23 rfl rfl (ci7.2.2.2.1 7 (by decide)) rfl rfl dX7_givesCycle_76 rfl ?_
            refine Go_S (fun S76_8 e_S76_8 => ?_)
            have hw := hw S76_8 e_S76_8
            have hR := rcE e_S76_8 hR
            refine Go_aload_n (q := 80) C 0 rfl dX7_givesCycle_79 rfl ?_
            refine Go_getA (q := 83) (k := 5) C ci7 iw_7 kE_56 (rE_56_5 hR) rfl wm_9_13 rfl dX7_givesCycle_80 rfl ?_
            refine Go_getAN (q := 86) (k := 7) (host := "EndsRound") C ci4 iw_4 kE_21 (rE4_7 hR isE4_21) rfl nw_27 rfl dX7_givesCycle_83 rfl ?_
            refine Go_iload_n (q := 87) C 1 rfl dX7_givesCycle_86 rfl ?_
            refine Go_callSN_I (av := (fun ad => [.ref (ad (22)), .int v3])) (st := []) (C := C) (hM := c_X11_cell (Gl G) (ok_ln kE_22) hR hw) (host := "EndsRound") (hnw := nw_97) (hini := wm_1_2) (hst2 := wm_10_22) (hcode := wm_10_23) (n := 2) (hd := by decide +kernel) (hr0 := ⟨rfl, rfl⟩) (hroom := ⟨by first | decide | (dsimp only; omega), by first | decide | (dsimp only; omega)⟩) (hlen := rfl) (hst := rfl) (hW := Nat.le_of_ble_eq_true rfl) (hdg := dX7_givesCycle_87) (q := 90) (hq := rfl) (fun r87_10 S87_9 hw hR => ?_)
            refine Go_istore_n (q := 91) (lv' := [(3, .int r87_10), (0, .ref (Gad G (56))), (4, .int v4), (5, .int v5)]) C rfl dX7_givesCycle_90 (by decide) rfl rfl ?_
            refine Go_aload_n (q := 92) C 1 rfl dX7_givesCycle_91 rfl ?_
            refine Go_getO (q := 95) (k := 6) C ci7 iw_7 kE_56 rfl wm_9_14 rfl dX7_givesCycle_92 rfl ?_
            obtain ⟨m92_11, e_m92_11, i_m92_11, hw⟩ := hw
            refine Go_deref e_m92_11 ?_
            refine Go_getAN (q := 98) (k := 7) (host := "EndsRound") C ci4 iw_4 (oE4 i_m92_11) (rE4_7 hR i_m92_11) rfl nw_27 rfl dX7_givesCycle_95 rfl ?_
            refine Go_iload (q := 100) C 2 rfl dX7_givesCycle_98 rfl ?_
            refine Go_callSN_I (av := (fun ad => [.ref (ad ((m92_11 + 1))), .int v4])) (st := []) (C := C) (hM := c_X11_cell (Gl G) (ok_ln (oE4_7 i_m92_11)) hR hw) (host := "EndsRound") (hnw := nw_97) (hini := wm_1_2) (hst2 := wm_10_22) (hcode := wm_10_23) (n := 2) (hd := by decide +kernel) (hr0 := ⟨rfl, rfl⟩) (hroom := ⟨by first | decide | (dsimp only; omega), by first | decide | (dsimp only; omega)⟩) (hlen := rfl) (hst := rfl) (hW := Nat.le_of_ble_eq_true rfl) (hdg := dX7_givesCycle_100) (q := 103) (hq := rfl) (fun r100_13 S100_12 hw hR => ?_)
            refine Go_istore (q := 105) (lv' := [(4, .int r100_13), (3, .int r87_10), (0, .ref (Gad G (56))), (5, .int v5)]) C dX7_givesCycle_103 (by decide) rfl rfl ?_
            refine Go_iinc2 (q := 108) (kp := 3) (cst := (1 : Int32)) C dX7_givesCycle_105 rfl rfl (by decide) rfl (fun x105_14 e_x105_14 => ?_)
            have hw := hw x105_14 e_x105_14
            refine Go_lve (lv' := [(5, .int x105_14), (4, .int r100_13), (3, .int r87_10), (0, .ref (Gad G (56)))]) rfl ?_
            refine Go_goto (q := 8) C dX7_givesCycle_108 rfl ?_
            refine Go_lvp [3, 2, 1, 0] rfl ?_
            exact hk8 _ _ _ _ hR hw
        · refine Go_iconst (q := 55) (v := (0 : Int32)) C dX7_givesCycle_54 rfl rfl ?_
          exact Go_zret C hQ hR rfl hw dX7_givesCycle_55
      · refine Go_lvp [0, 1, 2] rfl ?_
        exact g_X7_givesCycle_111 C hQ _ _ hR hw
set_option maxRecDepth 100000 in
set_option maxHeartbeats 4000000 in
theorem c_X7_givesCycle (l : Launch) {p0 : Int32} {p1 : Int32} {S : St} {Q : Int32 → St → Prop} (hR : RCE S) (hw : w_X7_givesCycle p0 p1 S Q) : MetI l yX7_givesCycle (wB yX7_givesCycle cX7_givesCycle 6 (some .boolean)) rm_X7_givesCycle shE NE RCE (fun ad => [.ref (ad (56)), .int p0, .int p1]) S Q := by
  refine MetI_of (cc := cX7_givesCycle) (maxL := 6) (ret := (some .boolean)) (plainFor_of_name (by decide)) (fun _ => Nat.le_of_ble_eq_true rfl) (fun G C hl hQ => ?_)
  subst hl
  have C : Cx G cX7_givesCycle BIG RX7 6 (some .boolean) rm_X7_givesCycle shE NE := C
  show Go G 6 0 [] [(0, .ref (Gad G (56))), (1, .int p0), (2, .int p1)] S
  unfold w_X7_givesCycle at hw
  refine Go_iload_n (q := 1) C 1 rfl dX7_givesCycle_0 rfl ?_
  refine Go_istore_n (q := 2) (lv' := [(3, .int p0), (0, .ref (Gad G (56))), (1, .int p0), (2, .int p1)]) C rfl dX7_givesCycle_1 (by decide) rfl rfl ?_
  refine Go_iload_n (q := 3) C 3 rfl dX7_givesCycle_2 rfl ?_
  refine Go_istore (q := 5) (lv' := [(4, .int p1), (3, .int p0), (0, .ref (Gad G (56))), (1, .int p0), (2, .int p1)]) C dX7_givesCycle_3 (by decide) rfl rfl ?_
  refine Go_iconst (q := 6) (v := (0 : Int32)) C dX7_givesCycle_5 rfl rfl ?_
  refine Go_istore (q := 8) (lv' := [(5, .int (0 : Int32)), (4, .int p1), (3, .int p0), (0, .ref (Gad G (56))), (1, .int p0), (2, .int p1)]) C dX7_givesCycle_6 (by decide) rfl rfl ?_
  refine Go_lvp [3, 2, 1, 0] rfl ?_
  exact g_X7_givesCycle_8 C hQ _ _ _ hR hw
-- X7_takeCycleBack
abbrev rm_X7_takeCycleBack : Room := { frames := 1, cells := 0, slots := 0, locals := 22 }
set_option maxRecDepth 100000 in
set_option maxHeartbeats 4000000 in
theorem g_X7_takeCycleBack_4 {G : GC} (C : Cx G cX7_takeCycleBack BIG RX7 4 none rm_X7_takeCycleBack shE NE) {Q : St → Prop} (hQ : QV G RCE Q) (v2 : Int32) (v3 : Int32) {S : St} (hR : RCE S) (hw : w_X7_takeCycleBack_4 Q v2 v3 S) : Go G 4 4 [] [(0, .ref (Gad G (56))), (2, .int v2), (3, .int v3)] S := by
  obtain ⟨n, hw⟩ := hw
  induction n generalizing v2 v3 S with
  | zero => exact hw.elim
  | succ n ih =>
    have hw : b_X7_takeCycleBack_4 Q (lpn (fun _ _ _ => False) (b_X7_takeCycleBack_4 Q) n) v2 v3 S := hw
    generalize lpn (fun _ _ _ => False) (b_X7_takeCycleBack_4 Q) n = kf at hw ih
    have hk4 := fun (v2 : Int32) (v3 : Int32) (S : St) (hR : RCE S) hw => ih v2 v3 hR hw
    unfold b_X7_takeCycleBack_4 at hw
    refine Go_iload_n (q := 5) C 2 rfl dX7_takeCycleBack_4 rfl ?_
    refine Go_aload_n (q := 6) C 0 rfl dX7_takeCycleBack_5 rfl ?_
    refine Go_getA (q := 9) (k := 5) C ci7 iw_7 kE_56 (rE_56_5 hR) rfl wm_9_13 rfl dX7_takeCycleBack_6 rfl ?_
    refine Go_getIN (q := 12) (k := 0) (host := "EndsRound") C ci4 iw_4 kE_21 rfl nw_7 rfl dX7_takeCycleBack_9 rfl ?_
    refine Go_icmp_ge (t := 75) (q := 15) C hw dX7_takeCycleBack_12 rfl rfl (fun hw => ?_) (fun hw => ?_)
    · exact Go_vret C hQ hR hw dX7_takeCycleBack_75
    · refine Go_aload_n (q := 16) C 0 rfl dX7_takeCycleBack_15 rfl ?_
      refine Go_getA (q := 19) (k := 0) C ci7 iw_7 kE_56 (rE_56_0 hR) rfl wm_9_7 rfl dX7_takeCycleBack_16 rfl ?_
      refine Go_iload_n (q := 20) C 1 rfl dX7_takeCycleBack_19 rfl ?_
      refine Go_callSN_I (av := (fun ad => [.ref (ad (57)), .int v2])) (st := []) (C := C) (hM := c_X11_cell (Gl G) (ok_ln kE_57) hR hw) (host := "EndsRound") (hnw := nw_97) (hini := wm_1_2) (hst2 := wm_10_22) (hcode := wm_10_23) (n := 2) (hd := by decide +kernel) (hr0 := ⟨rfl, rfl⟩) (hroom := ⟨by first | decide | (dsimp only; omega), by first | decide | (dsimp only; omega)⟩) (hlen := rfl) (hst := rfl) (hW := Nat.le_of_ble_eq_true rfl) (hdg := dX7_takeCycleBack_20) (q := 23) (hq := rfl) (fun r20_2 S20_1 hw hR => ?_)
      refine Go_iconst (q := 24) (v := (-1 : Int32)) C dX7_takeCycleBack_23 rfl rfl ?_
      refine Go_icmp_eq (t := 75) (q := 27) C hw dX7_takeCycleBack_24 rfl rfl (fun hw => ?_) (fun hw => ?_)
      · exact Go_vret C hQ hR hw dX7_takeCycleBack_75
      · refine Go_aload_n (q := 28) C 0 rfl dX7_takeCycleBack_27 rfl ?_
        refine Go_dup (q := 29) C rfl dX7_takeCycleBack_28 rfl ?_
        refine Go_getI (q := 32) (k := 7) C ci7 iw_7 kE_56 rfl wm_48_23 rfl dX7_takeCycleBack_29 rfl ?_
        refine Go_iconst (q := 33) (v := (1 : Int32)) C dX7_takeCycleBack_32 rfl rfl ?_
        refine Go_aload_n (q := 34) C 0 rfl dX7_takeCycleBack_33 rfl ?_
        refine Go_getA (q := 37) (k := 0) C ci7 iw_7 kE_56 (rE_56_0 hR) rfl wm_9_7 rfl dX7_takeCycleBack_34 rfl ?_
        refine Go_iload_n (q := 38) C 1 rfl dX7_takeCycleBack_37 rfl ?_
        refine Go_callSN_I (av := (fun ad => [.ref (ad (57)), .int v2])) (st := [.int (1 : Int32), .int (gI S20_1 56 7), .ref (Gad G (56))]) (C := C) (hM := c_X11_cell (Gl G) (ok_ln kE_57) hR hw) (host := "EndsRound") (hnw := nw_97) (hini := wm_1_2) (hst2 := wm_10_22) (hcode := wm_10_23) (n := 2) (hd := by decide +kernel) (hr0 := ⟨rfl, rfl⟩) (hroom := ⟨by first | decide | (dsimp only; omega), by first | decide | (dsimp only; omega)⟩) (hlen := rfl) (hst := rfl) (hW := Nat.le_of_ble_eq_true rfl) (hdg := dX7_takeCycleBack_38) (q := 41) (hq := rfl) (fun r38_4 S38_3 hw hR => ?_)
        refine Go_ishl (q := 42) C dX7_takeCycleBack_41 rfl ?_
        refine Go_iconst (q := 43) (v := (-1 : Int32)) C dX7_takeCycleBack_42 rfl rfl ?_
        refine Go_ixor (q := 44) C dX7_takeCycleBack_43 rfl ?_
        refine Go_iand (q := 45) C dX7_takeCycleBack_44 rfl ?_
        refine Go_putI (q := 48) (k := 7) C ci7 iw_7 kE_56 rfl wm_48_23 rfl rfl (ci7.2.2.2.1 7 (by decide)) rfl rfl dX7_takeCycleBack_45 rfl ?_
        refine Go_S (fun S45_5 e_S45_5 => ?_)
        have hw := hw S45_5 e_S45_5
        have hR := rcE e_S45_5 hR
        refine Go_aload_n (q := 49) C 0 rfl dX7_takeCycleBack_48 rfl ?_
        refine Go_getA (q := 52) (k := 0) C ci7 iw_7 kE_56 (rE_56_0 hR) rfl wm_9_7 rfl dX7_takeCycleBack_49 rfl ?_
        refine Go_iload_n (q := 53) C 1 rfl dX7_takeCycleBack_52 rfl ?_
        refine Go_iconst (q := 54) (v := (-1 : Int32)) C dX7_takeCycleBack_53 rfl rfl ?_
        refine Go_callSN_V (av := (fun ad => [.ref (ad (57)), .int v2, .int (-1 : Int32)])) (st := []) (C := C) (hM := c_X11_put (Gl G) (ok_ln kE_57) hR hw) (host := "EndsRound") (hnw := nw_98) (hini := wm_1_2) (hst2 := wm_10_11) (hcode := wm_10_12) (n := 3) (hd := by decide +kernel) (hr0 := ⟨rfl, rfl⟩) (hroom := ⟨by first | decide | (dsimp only; omega), by first | decide | (dsimp only; omega)⟩) (hlen := rfl) (hst := rfl) (hW := Nat.le_of_ble_eq_true rfl) (hdg := dX7_takeCycleBack_54) (q := 57) (hq := rfl) (fun S54_6 hw hR => ?_)
        refine Go_aload_n (q := 58) C 0 rfl dX7_takeCycleBack_57 rfl ?_
        refine Go_getA (q := 61) (k := 5) C ci7 iw_7 kE_56 (rE_56_5 hR) rfl wm_9_13 rfl dX7_takeCycleBack_58 rfl ?_
        refine Go_getAN (q := 64) (k := 7) (host := "EndsRound") C ci4 iw_4 kE_21 (rE4_7 hR isE4_21) rfl nw_27 rfl dX7_takeCycleBack_61 rfl ?_
        refine Go_iload_n (q := 65) C 1 rfl dX7_takeCycleBack_64 rfl ?_
        refine Go_callSN_I (av := (fun ad => [.ref (ad (22)), .int v2])) (st := []) (C := C) (hM := c_X11_cell (Gl G) (ok_ln kE_22) hR hw) (host := "EndsRound") (hnw := nw_97) (hini := wm_1_2) (hst2 := wm_10_22) (hcode := wm_10_23) (n := 2) (hd := by decide +kernel) (hr0 := ⟨rfl, rfl⟩) (hroom := ⟨by first | decide | (dsimp only; omega), by first | decide | (dsimp only; omega)⟩) (hlen := rfl) (hst := rfl) (hW := Nat.le_of_ble_eq_true rfl) (hdg := dX7_takeCycleBack_65) (q := 68) (hq := rfl) (fun r65_8 S65_7 hw hR => ?_)
        refine Go_istore_n (q := 69) (lv' := [(2, .int r65_8), (0, .ref (Gad G (56))), (3, .int v3)]) C rfl dX7_takeCycleBack_68 (by decide) rfl rfl ?_
        refine Go_iinc2 (q := 72) (kp := 2) (cst := (1 : Int32)) C dX7_takeCycleBack_69 rfl rfl (by decide) rfl (fun x69_9 e_x69_9 => ?_)
        have hw := hw x69_9 e_x69_9
        refine Go_lve (lv' := [(3, .int x69_9), (2, .int r65_8), (0, .ref (Gad G (56)))]) rfl ?_
        refine Go_goto (q := 4) C dX7_takeCycleBack_72 rfl ?_
        refine Go_lvp [2, 1, 0] rfl ?_
        exact hk4 _ _ _ hR hw
set_option maxRecDepth 100000 in
set_option maxHeartbeats 4000000 in
theorem c_X7_takeCycleBack (l : Launch) {p0 : Int32} {S : St} {Q : St → Prop} (hR : RCE S) (hw : w_X7_takeCycleBack p0 S Q) : MetV l yX7_takeCycleBack (wB yX7_takeCycleBack cX7_takeCycleBack 4 none) rm_X7_takeCycleBack shE NE RCE (fun ad => [.ref (ad (56)), .int p0]) S Q := by
  refine MetV_of (cc := cX7_takeCycleBack) (maxL := 4) (ret := none) (plainFor_of_name (by decide)) (fun _ => Nat.le_of_ble_eq_true rfl) (fun G C hl hQ => ?_)
  subst hl
  have C : Cx G cX7_takeCycleBack BIG RX7 4 none rm_X7_takeCycleBack shE NE := C
  show Go G 4 0 [] [(0, .ref (Gad G (56))), (1, .int p0)] S
  unfold w_X7_takeCycleBack at hw
  refine Go_iload_n (q := 1) C 1 rfl dX7_takeCycleBack_0 rfl ?_
  refine Go_istore_n (q := 2) (lv' := [(2, .int p0), (0, .ref (Gad G (56))), (1, .int p0)]) C rfl dX7_takeCycleBack_1 (by decide) rfl rfl ?_
  refine Go_iconst (q := 3) (v := (0 : Int32)) C dX7_takeCycleBack_2 rfl rfl ?_
  refine Go_istore_n (q := 4) (lv' := [(3, .int (0 : Int32)), (2, .int p0), (0, .ref (Gad G (56))), (1, .int p0)]) C rfl dX7_takeCycleBack_3 (by decide) rfl rfl ?_
  refine Go_lvp [2, 1, 0] rfl ?_
  exact g_X7_takeCycleBack_4 C hQ _ _ hR hw
-- X7_namesWith
abbrev rm_X7_namesFrom (d : Nat) : Room := { frames := d * 16, cells := 0, slots := 0, locals := d * 700 }
abbrev rm_X7_namesWith (d : Nat) : Room := { frames := d * 16 + 3, cells := 0, slots := 0, locals := d * 700 + 70 }
set_option maxRecDepth 100000 in
set_option maxHeartbeats 4000000 in
theorem g_X7_namesWith_21 {G : GC} {d : Nat} (C : Cx G cX7_namesWith BIG RX7 3 (some .boolean) (rm_X7_namesWith d) shE NE) {Q : Int32 → St → Prop} (hQ : QI G RCE Q) {rec : Int32 → St → (Int32 → St → Prop) → Prop} (hrec : ∀ {p0 : Int32} {S : St} {Q : Int32 → St → Prop}, RCE S → rec p0 S Q → MetI (Gl G) yX7_namesFrom (wB yX7_namesFrom cX7_namesFrom 3 (some .boolean)) (rm_X7_namesFrom d) shE NE RCE (fun ad => [.ref (ad (56)), .int p0]) S Q) (p0 : Int32) {S : St} (hR : RCE S) (hw : w_X7_namesWith_21 p0 Q S) : Go G 3 21 [] [(0, .ref (Gad G (56))), (1, .int p0)] S := by
  unfold w_X7_namesWith_21 at hw
  refine Go_aload_n (q := 22) C 0 rfl dX7_namesWith_21 rfl ?_
  refine Go_iload_n (q := 23) C 1 rfl dX7_namesWith_22 rfl ?_
  refine Go_callV_V (av := (fun ad => [.int p0])) (st := []) (C := C) (hM := c_X7_takeCycleBack (Gl G) hR hw) (hlk := wm_50_8) (hini := wm_2_20) (hins := wm_50_9) (hsel := wm_50_10) (hcode := wm_50_11) (ho := kE_56) (hci := rfl) (hc13 := by decide) (n := 1) (hd := by decide +kernel) (hr0 := ⟨rfl, rfl⟩) (hroom := ⟨by first | decide | (dsimp only; omega), by first | decide | (dsimp only; omega)⟩) (hlen := rfl) (hst := rfl) (hW := Nat.le_of_ble_eq_true rfl) (hdg := dX7_namesWith_23) (q := 26) (hq := rfl) (fun S23_3 hw hR => ?_)
  refine Go_iconst (q := 27) (v := (0 : Int32)) C dX7_namesWith_26 rfl rfl ?_
  exact Go_zret C hQ hR rfl hw dX7_namesWith_27
set_option maxRecDepth 100000 in
set_option maxHeartbeats 4000000 in
theorem c_X7_namesWith (l : Launch) {d : Nat} {rec : Int32 → St → (Int32 → St → Prop) → Prop} (hrec : ∀ {p0 : Int32} {S : St} {Q : Int32 → St → Prop}, RCE S → rec p0 S Q → MetI l yX7_namesFrom (wB yX7_namesFrom cX7_namesFrom 3 (some .boolean)) (rm_X7_namesFrom d) shE NE RCE (fun ad => [.ref (ad (56)), .int p0]) S Q) {p0 : Int32} {p1 : Int32} {S : St} {Q : Int32 → St → Prop} (hR : RCE S) (hw : w_X7_namesWith rec p0 p1 S Q) : MetI l yX7_namesWith (wB yX7_namesWith cX7_namesWith 3 (some .boolean)) (rm_X7_namesWith d) shE NE RCE (fun ad => [.ref (ad (56)), .int p0, .int p1]) S Q := by
  refine MetI_of (cc := cX7_namesWith) (maxL := 3) (ret := (some .boolean)) (plainFor_of_name (by decide)) (fun _ => Nat.le_of_ble_eq_true rfl) (fun G C hl hQ => ?_)
  subst hl
  have C : Cx G cX7_namesWith BIG RX7 3 (some .boolean) (rm_X7_namesWith d) shE NE := C
  show Go G 3 0 [] [(0, .ref (Gad G (56))), (1, .int p0), (2, .int p1)] S
  unfold w_X7_namesWith at hw
  refine Go_aload_n (q := 1) C 0 rfl dX7_namesWith_0 rfl ?_
  refine Go_iload_n (q := 2) C 1 rfl dX7_namesWith_1 rfl ?_
  refine Go_iload_n (q := 3) C 2 rfl dX7_namesWith_2 rfl ?_
  refine Go_callV_I (av := (fun ad => [.int p0, .int p1])) (st := []) (C := C) (hM := c_X7_givesCycle (Gl G)  hR hw) (hlk := wm_50_0) (hini := wm_2_20) (hins := wm_50_1) (hsel := wm_50_2) (hcode := wm_50_3) (ho := kE_56) (hci := rfl) (hc13 := by decide) (n := 2) (hd := by decide +kernel) (hr0 := ⟨rfl, rfl⟩) (hroom := ⟨by first | decide | (dsimp only; omega), by first | decide | (dsimp only; omega)⟩) (hlen := rfl) (hst := rfl) (hW := Nat.le_of_ble_eq_true rfl) (hdg := dX7_namesWith_3) (q := 6) (hq := rfl) (fun r3_2 S3_1 hw hR => ?_)
  refine Go_if_eq (t := 21) (q := 9) C hw dX7_namesWith_6 rfl rfl (fun hw => ?_) (fun hw => ?_)
  · refine Go_lvp [0, 1] rfl ?_
    exact g_X7_namesWith_21 C hQ @hrec p0 hR hw
  · refine Go_aload_n (q := 10) C 0 rfl dX7_namesWith_9 rfl ?_
    refine Go_iload_n (q := 11) C 1 rfl dX7_namesWith_10 rfl ?_
    refine Go_iconst (q := 12) (v := (1 : Int32)) C dX7_namesWith_11 rfl rfl ?_
    refine Go_iadd (q := 13) C dX7_namesWith_12 rfl ?_
    refine Go_callV_I (av := (fun ad => [.int (p0 + (1 : Int32))])) (st := []) (C := C) (hM := hrec  hR hw) (hlk := wm_49_16) (hini := wm_2_20) (hins := wm_49_17) (hsel := wm_49_18) (hcode := wm_49_19) (ho := kE_56) (hci := rfl) (hc13 := by decide) (n := 1) (hd := by decide +kernel) (hr0 := ⟨rfl, rfl⟩) (hroom := ⟨by first | decide | (dsimp only; omega), by first | decide | (dsimp only; omega)⟩) (hlen := rfl) (hst := rfl) (hW := Nat.le_of_ble_eq_true rfl) (hdg := dX7_namesWith_13) (q := 16) (hq := rfl) (fun r13_5 S13_4 hw hR => ?_)
    refine Go_if_eq (t := 21) (q := 19) C hw dX7_namesWith_16 rfl rfl (fun hw => ?_) (fun hw => ?_)
    · refine Go_lvp [0, 1] rfl ?_
      exact g_X7_namesWith_21 C hQ @hrec p0 hR hw
    · refine Go_iconst (q := 20) (v := (1 : Int32)) C dX7_namesWith_19 rfl rfl ?_
      exact Go_zret C hQ hR rfl hw dX7_namesWith_20
-- X7_namesFrom

set_option maxRecDepth 100000 in
set_option maxHeartbeats 4000000 in
theorem g_X7_namesFrom_45 {G : GC} {d : Nat} (C : Cx G cX7_namesFrom BIG RX7 3 (some .boolean) (rm_X7_namesFrom (d + 1)) shE NE) {Q : Int32 → St → Prop} (hQ : QI G RCE Q) {rec : Int32 → St → (Int32 → St → Prop) → Prop} (hrec : ∀ {p0 : Int32} {S : St} {Q : Int32 → St → Prop}, RCE S → rec p0 S Q → MetI (Gl G) yX7_namesFrom (wB yX7_namesFrom cX7_namesFrom 3 (some .boolean)) (rm_X7_namesFrom d) shE NE RCE (fun ad => [.ref (ad (56)), .int p0]) S Q) (p0 : Int32) (v2 : Int32) {S : St} (hR : RCE S) (hw : w_X7_namesFrom_45 p0 rec Q v2 S) : Go G 3 45 [] [(0, .ref (Gad G (56))), (1, .int p0), (2, .int v2)] S := by
  obtain ⟨n, hw⟩ := hw
  induction n generalizing v2 S with
  | zero => exact hw.elim
  | succ n ih =>
    have hw : b_X7_namesFrom_45 p0 rec Q (lpn (fun _ _ => False) (b_X7_namesFrom_45 p0 rec Q) n) v2 S := hw
    generalize lpn (fun _ _ => False) (b_X7_namesFrom_45 p0 rec Q) n = kf at hw ih
    have hk45 := fun (v2 : Int32) (S : St) (hR : RCE S) hw => ih v2 hR hw
    unfold b_X7_namesFrom_45 at hw
    refine Go_iload_n (q := 46) C 2 rfl dX7_namesFrom_45 rfl ?_
    refine Go_aload_n (q := 47) C 0 rfl dX7_namesFrom_46 rfl ?_
    refine Go_getO (q := 50) (k := 6) C ci7 iw_7 kE_56 rfl wm_9_14 rfl dX7_namesFrom_47 rfl ?_
    obtain ⟨m47_3, e_m47_3, i_m47_3, hw⟩ := hw
    refine Go_deref e_m47_3 ?_
    refine Go_getIN (q := 53) (k := 0) (host := "EndsRound") C ci4 iw_4 (oE4 i_m47_3) rfl nw_7 rfl dX7_namesFrom_50 rfl ?_
    refine Go_icmp_ge (t := 84) (q := 56) C hw dX7_namesFrom_53 rfl rfl (fun hw => ?_) (fun hw => ?_)
    · refine Go_iconst (q := 85) (v := (0 : Int32)) C dX7_namesFrom_84 rfl rfl ?_
      exact Go_zret C hQ hR rfl hw dX7_namesFrom_85
    · refine Go_aload_n (q := 57) C 0 rfl dX7_namesFrom_56 rfl ?_
      refine Go_getI (q := 60) (k := 7) C ci7 iw_7 kE_56 rfl wm_48_23 rfl dX7_namesFrom_57 rfl ?_
      refine Go_iload_n (q := 61) C 2 rfl dX7_namesFrom_60 rfl ?_
      refine Go_ishr (q := 62) C dX7_namesFrom_61 rfl ?_
      refine Go_iconst (q := 63) (v := (1 : Int32)) C dX7_namesFrom_62 rfl rfl ?_
      refine Go_iand (q := 64) C dX7_namesFrom_63 rfl ?_
      refine Go_if_ne (t := 78) (q := 67) C hw dX7_namesFrom_64 rfl rfl (fun hw => ?_) (fun hw => ?_)
      · refine Go_aload_n (q := 68) C 0 rfl dX7_namesFrom_67 rfl ?_
        refine Go_iload_n (q := 69) C 1 rfl dX7_namesFrom_68 rfl ?_
        refine Go_iload_n (q := 70) C 2 rfl dX7_namesFrom_69 rfl ?_
        refine Go_callV_I (av := (fun ad => [.int p0, .int v2])) (st := []) (C := C) (hM := c_X7_namesWith (Gl G) @hrec hR hw) (hlk := wm_49_20) (hini := wm_2_20) (hins := wm_49_21) (hsel := wm_49_22) (hcode := wm_49_23) (ho := kE_56) (hci := rfl) (hc13 := by decide) (n := 2) (hd := by decide +kernel) (hr0 := ⟨rfl, rfl⟩) (hroom := ⟨by first | decide | (dsimp only; omega), by first | decide | (dsimp only; omega)⟩) (hlen := rfl) (hst := rfl) (hW := Nat.le_of_ble_eq_true rfl) (hdg := dX7_namesFrom_70) (q := 73) (hq := rfl) (fun r70_5 S70_4 hw hR => ?_)
        refine Go_if_eq (t := 78) (q := 76) C hw dX7_namesFrom_73 rfl rfl (fun hw => ?_) (fun hw => ?_)
        · refine Go_iinc2 (q := 81) (kp := 2) (cst := (1 : Int32)) C dX7_namesFrom_78 rfl rfl (by decide) rfl (fun x78_6 e_x78_6 => ?_)
          have hw := hw x78_6 e_x78_6
          refine Go_lve (lv' := [(2, .int x78_6), (0, .ref (Gad G (56))), (1, .int p0)]) rfl ?_
          refine Go_goto (q := 45) C dX7_namesFrom_81 rfl ?_
          refine Go_lvp [1, 2, 0] rfl ?_
          exact hk45 _ _ hR hw
        · refine Go_iconst (q := 77) (v := (1 : Int32)) C dX7_namesFrom_76 rfl rfl ?_
          exact Go_zret C hQ hR rfl hw dX7_namesFrom_77
      · refine Go_iinc2 (q := 81) (kp := 2) (cst := (1 : Int32)) C dX7_namesFrom_78 rfl rfl (by decide) rfl (fun x78_7 e_x78_7 => ?_)
        have hw := hw x78_7 e_x78_7
        refine Go_lve (lv' := [(2, .int x78_7), (0, .ref (Gad G (56))), (1, .int p0)]) rfl ?_
        refine Go_goto (q := 45) C dX7_namesFrom_81 rfl ?_
        refine Go_lvp [1, 2, 0] rfl ?_
        exact hk45 _ _ hR hw
set_option maxRecDepth 100000 in
set_option maxHeartbeats 4000000 in
theorem h_X7_namesFrom (l : Launch) {d : Nat} {rec : Int32 → St → (Int32 → St → Prop) → Prop} (hrec : ∀ {p0 : Int32} {S : St} {Q : Int32 → St → Prop}, RCE S → rec p0 S Q → MetI l yX7_namesFrom (wB yX7_namesFrom cX7_namesFrom 3 (some .boolean)) (rm_X7_namesFrom d) shE NE RCE (fun ad => [.ref (ad (56)), .int p0]) S Q) {p0 : Int32} {S : St} {Q : Int32 → St → Prop} (hR : RCE S) (hw : u_X7_namesFrom rec p0 S Q) : MetI l yX7_namesFrom (wB yX7_namesFrom cX7_namesFrom 3 (some .boolean)) (rm_X7_namesFrom (d + 1)) shE NE RCE (fun ad => [.ref (ad (56)), .int p0]) S Q := by
  refine MetI_of (cc := cX7_namesFrom) (maxL := 3) (ret := (some .boolean)) (plainFor_of_name (by decide)) (fun _ => Nat.le_of_ble_eq_true rfl) (fun G C hl hQ => ?_)
  subst hl
  have C : Cx G cX7_namesFrom BIG RX7 3 (some .boolean) (rm_X7_namesFrom (d + 1)) shE NE := C
  show Go G 3 0 [] [(0, .ref (Gad G (56))), (1, .int p0)] S
  unfold u_X7_namesFrom at hw
  refine Go_iload_n (q := 1) C 1 rfl dX7_namesFrom_0 rfl ?_
  refine Go_if_lt (t := 21) (q := 4) C hw dX7_namesFrom_1 rfl rfl (fun hw => ?_) (fun hw => ?_)
  · refine Go_iconst (q := 22) (v := (1 : Int32)) C dX7_namesFrom_21 rfl rfl ?_
    exact Go_zret C hQ hR rfl hw dX7_namesFrom_22
  · refine Go_iload_n (q := 5) C 1 rfl dX7_namesFrom_4 rfl ?_
    refine Go_aload_n (q := 6) C 0 rfl dX7_namesFrom_5 rfl ?_
    refine Go_getA (q := 9) (k := 5) C ci7 iw_7 kE_56 (rE_56_5 hR) rfl wm_9_13 rfl dX7_namesFrom_6 rfl ?_
    refine Go_getIN (q := 12) (k := 0) (host := "EndsRound") C ci4 iw_4 kE_21 rfl nw_7 rfl dX7_namesFrom_9 rfl ?_
    refine Go_icmp_ge (t := 21) (q := 15) C hw dX7_namesFrom_12 rfl rfl (fun hw => ?_) (fun hw => ?_)
    · refine Go_iconst (q := 22) (v := (1 : Int32)) C dX7_namesFrom_21 rfl rfl ?_
      exact Go_zret C hQ hR rfl hw dX7_namesFrom_22
    · refine Go_iload_n (q := 16) C 1 rfl dX7_namesFrom_15 rfl ?_
      refine Go_bipush (q := 18) (v := (12 : Int32)) C dX7_namesFrom_16 rfl rfl ?_
      refine Go_icmp_lt (t := 23) (q := 21) C hw dX7_namesFrom_18 rfl rfl (fun hw => ?_) (fun hw => ?_)
      · refine Go_aload_n (q := 24) C 0 rfl dX7_namesFrom_23 rfl ?_
        refine Go_getA (q := 27) (k := 0) C ci7 iw_7 kE_56 (rE_56_0 hR) rfl wm_9_7 rfl dX7_namesFrom_24 rfl ?_
        refine Go_iload_n (q := 28) C 1 rfl dX7_namesFrom_27 rfl ?_
        refine Go_callSN_I (av := (fun ad => [.ref (ad (57)), .int p0])) (st := []) (C := C) (hM := c_X11_cell (Gl G) (ok_ln kE_57) hR hw) (host := "EndsRound") (hnw := nw_97) (hini := wm_1_2) (hst2 := wm_10_22) (hcode := wm_10_23) (n := 2) (hd := by decide +kernel) (hr0 := ⟨rfl, rfl⟩) (hroom := ⟨by first | decide | (dsimp only; omega), by first | decide | (dsimp only; omega)⟩) (hlen := rfl) (hst := rfl) (hW := Nat.le_of_ble_eq_true rfl) (hdg := dX7_namesFrom_28) (q := 31) (hq := rfl) (fun r28_2 S28_1 hw hR => ?_)
        refine Go_iconst (q := 32) (v := (-1 : Int32)) C dX7_namesFrom_31 rfl rfl ?_
        refine Go_icmp_eq (t := 43) (q := 35) C hw dX7_namesFrom_32 rfl rfl (fun hw => ?_) (fun hw => ?_)
        · refine Go_iconst (q := 44) (v := (0 : Int32)) C dX7_namesFrom_43 rfl rfl ?_
          refine Go_istore_n (q := 45) (lv' := [(2, .int (0 : Int32)), (0, .ref (Gad G (56))), (1, .int p0)]) C rfl dX7_namesFrom_44 (by decide) rfl rfl ?_
          refine Go_lvp [1, 2, 0] rfl ?_
          exact g_X7_namesFrom_45 C hQ @hrec p0 _ hR hw
        · refine Go_aload_n (q := 36) C 0 rfl dX7_namesFrom_35 rfl ?_
          refine Go_iload_n (q := 37) C 1 rfl dX7_namesFrom_36 rfl ?_
          refine Go_iconst (q := 38) (v := (1 : Int32)) C dX7_namesFrom_37 rfl rfl ?_
          refine Go_iadd (q := 39) C dX7_namesFrom_38 rfl ?_
          refine Go_callV_I (av := (fun ad => [.int (p0 + (1 : Int32))])) (st := []) (C := C) (hM := hrec  hR hw) (hlk := wm_49_16) (hini := wm_2_20) (hins := wm_49_17) (hsel := wm_49_18) (hcode := wm_49_19) (ho := kE_56) (hci := rfl) (hc13 := by decide) (n := 1) (hd := by decide +kernel) (hr0 := ⟨rfl, rfl⟩) (hroom := ⟨by first | decide | (dsimp only; omega), by first | decide | (dsimp only; omega)⟩) (hlen := rfl) (hst := rfl) (hW := Nat.le_of_ble_eq_true rfl) (hdg := dX7_namesFrom_39) (q := 42) (hq := rfl) (fun r39_9 S39_8 hw hR => ?_)
          exact Go_zret C hQ hR (zb hw.1) hw.2 dX7_namesFrom_42
      · refine Go_iconst (q := 22) (v := (1 : Int32)) C dX7_namesFrom_21 rfl rfl ?_
        exact Go_zret C hQ hR rfl hw dX7_namesFrom_22
theorem c_X7_namesFrom (l : Launch) : ∀ (d : Nat) {p0 : Int32} {S : St} {Q : Int32 → St → Prop}, RCE S → w_X7_namesFrom d p0 S Q → MetI l yX7_namesFrom (wB yX7_namesFrom cX7_namesFrom 3 (some .boolean)) (rm_X7_namesFrom d) shE NE RCE (fun ad => [.ref (ad (56)), .int p0]) S Q := by
  intro d
  induction d with
  | zero => intro _ _ _ _ hw; exact hw.elim
  | succ d ih => intro p0 S Q hR hw; exact h_X7_namesFrom l (d := d) (rec := w_X7_namesFrom d) @ih  hR hw
-- X7_finds
abbrev rm_X7_finds : Room := { frames := 513, cells := 0, slots := 0, locals := 22422 }
set_option maxRecDepth 100000 in
set_option maxHeartbeats 4000000 in
theorem c_X7_finds (l : Launch) {p0 : Nat} (hp0 : isE4 p0) {S : St} {Q : Int32 → St → Prop} (hR : RCE S) (hw : w_X7_finds p0 S Q) : MetI l yX7_finds (wB yX7_finds cX7_finds 2 (some .boolean)) rm_X7_finds shE NE RCE (fun ad => [.ref (ad (56)), .ref (ad (p0))]) S Q := by
  refine MetI_of (cc := cX7_finds) (maxL := 2) (ret := (some .boolean)) (plainFor_of_name (by decide)) (fun _ => Nat.le_of_ble_eq_true rfl) (fun G C hl hQ => ?_)
  subst hl
  have C : Cx G cX7_finds BIG RX7 2 (some .boolean) rm_X7_finds shE NE := C
  show Go G 2 0 [] [(0, .ref (Gad G (56))), (1, .ref (Gad G (p0)))] S
  unfold w_X7_finds at hw
  refine Go_aload_n (q := 1) C 0 rfl dX7_finds_0 rfl ?_
  refine Go_aload_n (q := 2) C 1 rfl dX7_finds_1 rfl ?_
  refine Go_putA (q := 5) (k := 6) C ci7 iw_7 kE_56 rfl wm_9_14 rfl rfl (ci7.2.2.2.1 6 (by decide)) rfl rfl dX7_finds_2 rfl ?_
  refine Go_S (fun S2_1 e_S2_1 => ?_)
  have hw := hw S2_1 e_S2_1
  have hR := rcER e_S2_1 hR
  refine Go_aload_n (q := 6) C 0 rfl dX7_finds_5 rfl ?_
  refine Go_getA (q := 9) (k := 5) C ci7 iw_7 kE_56 (rE_56_5 hR) rfl wm_9_13 rfl dX7_finds_6 rfl ?_
  refine Go_getIN (q := 12) (k := 0) (host := "EndsRound") C ci4 iw_4 kE_21 rfl nw_7 rfl dX7_finds_9 rfl ?_
  refine Go_aload_n (q := 13) C 0 rfl dX7_finds_12 rfl ?_
  refine Go_getO (q := 16) (k := 6) C ci7 iw_7 kE_56 rfl wm_9_14 rfl dX7_finds_13 rfl ?_
  obtain ⟨m13_2, e_m13_2, i_m13_2, hw⟩ := hw
  refine Go_deref e_m13_2 ?_
  refine Go_getIN (q := 19) (k := 0) (host := "EndsRound") C ci4 iw_4 (oE4 i_m13_2) rfl nw_7 rfl dX7_finds_16 rfl ?_
  refine Go_icmp_eq (t := 24) (q := 22) C hw dX7_finds_19 rfl rfl (fun hw => ?_) (fun hw => ?_)
  · refine Go_aload_n (q := 25) C 0 rfl dX7_finds_24 rfl ?_
    refine Go_aload_n (q := 26) C 0 rfl dX7_finds_25 rfl ?_
    refine Go_getA (q := 29) (k := 5) C ci7 iw_7 kE_56 (rE_56_5 hR) rfl wm_9_13 rfl dX7_finds_26 rfl ?_
    refine Go_aload_n (q := 30) C 0 rfl dX7_finds_29 rfl ?_
    refine Go_getA (q := 33) (k := 1) C ci7 iw_7 kE_56 (rE_56_1 hR) rfl wm_9_8 rfl dX7_finds_30 rfl ?_
    refine Go_callV_V (av := (fun ad => [.ref (ad (21)), .ref (ad (58))])) (st := []) (C := C) (hM := c_X7_tint (Gl G) isE4_21 (ok_ln kE_58) hR hw) (hlk := wm_49_0) (hini := wm_2_20) (hins := wm_49_1) (hsel := wm_49_2) (hcode := wm_49_3) (ho := kE_56) (hci := rfl) (hc13 := by decide) (n := 2) (hd := by decide +kernel) (hr0 := ⟨rfl, rfl⟩) (hroom := ⟨by first | decide | (dsimp only; omega), by first | decide | (dsimp only; omega)⟩) (hlen := rfl) (hst := rfl) (hW := Nat.le_of_ble_eq_true rfl) (hdg := dX7_finds_33) (q := 36) (hq := rfl) (fun S33_3 hw hR => ?_)
    refine Go_aload_n (q := 37) C 0 rfl dX7_finds_36 rfl ?_
    refine Go_aload_n (q := 38) C 0 rfl dX7_finds_37 rfl ?_
    refine Go_getO (q := 41) (k := 6) C ci7 iw_7 kE_56 rfl wm_9_14 rfl dX7_finds_38 rfl ?_
    obtain ⟨m38_4, e_m38_4, i_m38_4, hw⟩ := hw
    refine Go_deref e_m38_4 ?_
    refine Go_aload_n (q := 42) C 0 rfl dX7_finds_41 rfl ?_
    refine Go_getA (q := 45) (k := 2) C ci7 iw_7 kE_56 (rE_56_2 hR) rfl wm_9_9 rfl dX7_finds_42 rfl ?_
    refine Go_callV_V (av := (fun ad => [.ref (ad (m38_4)), .ref (ad (59))])) (st := []) (C := C) (hM := c_X7_tint (Gl G) i_m38_4 (ok_ln kE_59) hR hw) (hlk := wm_49_0) (hini := wm_2_20) (hins := wm_49_1) (hsel := wm_49_2) (hcode := wm_49_3) (ho := kE_56) (hci := rfl) (hc13 := by decide) (n := 2) (hd := by decide +kernel) (hr0 := ⟨rfl, rfl⟩) (hroom := ⟨by first | decide | (dsimp only; omega), by first | decide | (dsimp only; omega)⟩) (hlen := rfl) (hst := rfl) (hW := Nat.le_of_ble_eq_true rfl) (hdg := dX7_finds_45) (q := 48) (hq := rfl) (fun S45_5 hw hR => ?_)
    refine Go_aload_n (q := 49) C 0 rfl dX7_finds_48 rfl ?_
    refine Go_callV_I (av := (fun ad => [])) (st := []) (C := C) (hM := c_X7_haveSameTints (Gl G)  hR hw) (hlk := wm_49_12) (hini := wm_2_20) (hins := wm_49_13) (hsel := wm_49_14) (hcode := wm_49_15) (ho := kE_56) (hci := rfl) (hc13 := by decide) (n := 0) (hd := by decide +kernel) (hr0 := ⟨rfl, rfl⟩) (hroom := ⟨by first | decide | (dsimp only; omega), by first | decide | (dsimp only; omega)⟩) (hlen := rfl) (hst := rfl) (hW := Nat.le_of_ble_eq_true rfl) (hdg := dX7_finds_49) (q := 52) (hq := rfl) (fun r49_7 S49_6 hw hR => ?_)
    refine Go_if_ne (t := 57) (q := 55) C hw dX7_finds_52 rfl rfl (fun hw => ?_) (fun hw => ?_)
    · refine Go_iconst (q := 56) (v := (0 : Int32)) C dX7_finds_55 rfl rfl ?_
      exact Go_zret C hQ hR rfl hw dX7_finds_56
    · refine Go_aload_n (q := 58) C 0 rfl dX7_finds_57 rfl ?_
      refine Go_iconst (q := 59) (v := (0 : Int32)) C dX7_finds_58 rfl rfl ?_
      refine Go_putI (q := 62) (k := 7) C ci7 iw_7 kE_56 rfl wm_48_23 rfl rfl (ci7.2.2.2.1 7 (by decide)) rfl rfl dX7_finds_59 rfl ?_
      refine Go_S (fun S59_8 e_S59_8 => ?_)
      have hw := hw S59_8 e_S59_8
      have hR := rcE e_S59_8 hR
      refine Go_aload_n (q := 63) C 0 rfl dX7_finds_62 rfl ?_
      refine Go_getA (q := 66) (k := 0) C ci7 iw_7 kE_56 (rE_56_0 hR) rfl wm_9_7 rfl dX7_finds_63 rfl ?_
      refine Go_iconst (q := 67) (v := (-1 : Int32)) C dX7_finds_66 rfl rfl ?_
      refine Go_callSN_V (av := (fun ad => [.ref (ad (57)), .int (-1 : Int32)])) (st := []) (C := C) (hM := c_X11_blank (Gl G) (ok_ln kE_57) hR hw) (host := "EndsRound") (hnw := nw_100) (hini := wm_1_2) (hst2 := wm_10_13) (hcode := wm_10_14) (n := 2) (hd := by decide +kernel) (hr0 := ⟨rfl, rfl⟩) (hroom := ⟨by first | decide | (dsimp only; omega), by first | decide | (dsimp only; omega)⟩) (hlen := rfl) (hst := rfl) (hW := Nat.le_of_ble_eq_true rfl) (hdg := dX7_finds_67) (q := 70) (hq := rfl) (fun S67_9 hw hR => ?_)
      refine Go_aload_n (q := 71) C 0 rfl dX7_finds_70 rfl ?_
      refine Go_iconst (q := 72) (v := (0 : Int32)) C dX7_finds_71 rfl rfl ?_
      obtain ⟨d72_12, hle_d72_12, hw⟩ := hw
      refine Go_callV_I (av := (fun ad => [.int (0 : Int32)])) (st := []) (C := C) (hM := c_X7_namesFrom (Gl G) d72_12  hR hw) (hlk := wm_49_16) (hini := wm_2_20) (hins := wm_49_17) (hsel := wm_49_18) (hcode := wm_49_19) (ho := kE_56) (hci := rfl) (hc13 := by decide) (n := 1) (hd := by decide +kernel) (hr0 := ⟨rfl, rfl⟩) (hroom := ⟨by first | decide | (dsimp only; omega), by first | decide | (dsimp only; omega)⟩) (hlen := rfl) (hst := rfl) (hW := Nat.le_of_ble_eq_true rfl) (hdg := dX7_finds_72) (q := 75) (hq := rfl) (fun r72_11 S72_10 hw hR => ?_)
      exact Go_zret C hQ hR (zb hw.1) hw.2 dX7_finds_75
  · refine Go_iconst (q := 23) (v := (0 : Int32)) C dX7_finds_22 rfl rfl ?_
    exact Go_zret C hQ hR rfl hw dX7_finds_23
-- X11_same
abbrev rm_X11_same : Room := { frames := 514, cells := 0, slots := 0, locals := 22443 }
set_option maxRecDepth 100000 in
set_option maxHeartbeats 4000000 in
theorem c_X11_same (l : Launch) {p0 : Int32} {S : St} {Q : Int32 → St → Prop} (hR : RCE S) (hw : w_X11_same p0 S Q) : MetI l yX11_same (wB yX11_same cX11_same 3 (some .int)) rm_X11_same shE NE RCE (fun ad => [.ref (ad (0)), .int p0]) S Q := by
  refine MetI_of (cc := cX11_same) (maxL := 3) (ret := (some .int)) (plainFor_of_name (by decide)) (fun _ => Nat.le_of_ble_eq_true rfl) (fun G C hl hQ => ?_)
  subst hl
  have C : Cx G cX11_same BIG RX11 3 (some .int) rm_X11_same shE NE := C
  show Go G 3 0 [] [(0, .ref (Gad G (0))), (1, .int p0)] S
  unfold w_X11_same at hw
  refine Go_aload_n (q := 1) C 0 rfl dX11_same_0 rfl ?_
  refine Go_iload_n (q := 2) C 1 rfl dX11_same_1 rfl ?_
  refine Go_callV_O (av := (fun ad => [.int p0])) (st := []) (C := C) (hM := c_X11_markAt (Gl G)  hR hw) (hlk := wm_48_15) (hini := wm_1_2) (hins := wm_48_16) (hsel := wm_48_17) (hcode := wm_48_18) (ho := kE_0) (hci := rfl) (hc13 := by decide) (n := 1) (hd := by decide +kernel) (hr0 := ⟨rfl, rfl⟩) (hroom := ⟨by first | decide | (dsimp only; omega), by first | decide | (dsimp only; omega)⟩) (hlen := rfl) (hst := rfl) (hW := Nat.le_of_ble_eq_true rfl) (hdg := dX11_same_2) (q := 5) (hq := rfl) (fun r2_2 S2_1 hw hR => ?_)
  refine Go_astoreO_n (q := 6) (lv' := [(2, va_rf (Option.map (Gad G) (r2_2))), (0, .ref (Gad G (0))), (1, .int p0)]) C rfl dX11_same_5 (by decide) rfl rfl ?_
  refine Go_aloadO_n (q := 7) C 0 rfl dX11_same_6 rfl ?_
  refine Go_ifnull (t := 17) (q := 10) C hw dX11_same_7 rfl rfl (fun hw => ?_) (fun hw => ?_)
  · refine Go_iconst (q := 18) (v := (-1 : Int32)) C dX11_same_17 rfl rfl ?_
    exact Go_iret C hQ hR hw dX11_same_18
  · refine Go_aloadO_n (q := 11) C 0 rfl dX11_same_10 rfl ?_
    obtain ⟨m10_3, e_m10_3, i_m10_3, hw⟩ := hw
    refine Go_deref e_m10_3 ?_
    refine Go_getIN (q := 14) (k := 2) (host := "EndsRound") C ci5 iw_5 (oE5 i_m10_3) rfl nw_65 rfl dX11_same_11 rfl ?_
    refine Go_if_ne (t := 19) (q := 17) C hw dX11_same_14 rfl rfl (fun hw => ?_) (fun hw => ?_)
    · refine Go_iconst (q := 18) (v := (-1 : Int32)) C dX11_same_17 rfl rfl ?_
      exact Go_iret C hQ hR hw dX11_same_18
    · refine Go_aload_n (q := 20) C 1 rfl dX11_same_19 rfl ?_
      refine Go_getA (q := 23) (k := 7) C ci11 iw_11 kE_0 (rE_0_7 hR) rfl wm_2_21 rfl dX11_same_20 rfl ?_
      refine Go_aloadO_n (q := 24) C 0 rfl dX11_same_23 rfl ?_
      obtain ⟨m23_4, e_m23_4, i_m23_4, hw⟩ := hw
      refine Go_deref e_m23_4 ?_
      refine Go_getAN (q := 27) (k := 0) (host := "EndsRound") C ci5 iw_5 (oE5 i_m23_4) (rE5_0 hR i_m23_4) rfl nw_63 rfl dX11_same_24 rfl ?_
      refine Go_callV_I (av := (fun ad => [.ref (ad ((m23_4 + 1)))])) (st := []) (C := C) (hM := c_X7_finds (Gl G) (iE5_0 i_m23_4) hR hw) (hlk := wm_48_19) (hini := wm_2_20) (hins := wm_48_20) (hsel := wm_48_21) (hcode := wm_48_22) (ho := kE_56) (hci := rfl) (hc13 := by decide) (n := 1) (hd := by decide +kernel) (hr0 := ⟨rfl, rfl⟩) (hroom := ⟨by first | decide | (dsimp only; omega), by first | decide | (dsimp only; omega)⟩) (hlen := rfl) (hst := rfl) (hW := Nat.le_of_ble_eq_true rfl) (hdg := dX11_same_27) (q := 30) (hq := rfl) (fun r27_6 S27_5 hw hR => ?_)
      refine Go_if_eq (t := 37) (q := 33) C hw dX11_same_30 rfl rfl (fun hw => ?_) (fun hw => ?_)
      · refine Go_iconst (q := 38) (v := (0 : Int32)) C dX11_same_37 rfl rfl ?_
        exact Go_iret C hQ hR hw dX11_same_38
      · refine Go_iconst (q := 34) (v := (1 : Int32)) C dX11_same_33 rfl rfl ?_
        refine Go_goto (q := 38) C dX11_same_34 rfl ?_
        exact Go_iret C hQ hR hw dX11_same_38
-- X11_renamed
abbrev rm_X11_renamed : Room := { frames := 515, cells := 0, slots := 0, locals := 22465 }
set_option maxRecDepth 100000 in
set_option maxHeartbeats 4000000 in
theorem c_X11_renamed (l : Launch) {p0 : Int32} {p1 : Int32} {S : St} {Q : Int32 → St → Prop} (hR : RCE S) (hw : w_X11_renamed p0 p1 S Q) : MetI l yX11_renamed (wB yX11_renamed cX11_renamed 3 (some .int)) rm_X11_renamed shE NE RCE (fun ad => [.ref (ad (0)), .int p0, .int p1]) S Q := by
  refine MetI_of (cc := cX11_renamed) (maxL := 3) (ret := (some .int)) (plainFor_of_name (by decide)) (fun _ => Nat.le_of_ble_eq_true rfl) (fun G C hl hQ => ?_)
  subst hl
  have C : Cx G cX11_renamed BIG RX11 3 (some .int) rm_X11_renamed shE NE := C
  show Go G 3 0 [] [(0, .ref (Gad G (0))), (1, .int p0), (2, .int p1)] S
  unfold w_X11_renamed at hw
  refine Go_aload_n (q := 1) C 0 rfl dX11_renamed_0 rfl ?_
  refine Go_iload_n (q := 2) C 2 rfl dX11_renamed_1 rfl ?_
  refine Go_callV_I (av := (fun ad => [.int p1])) (st := []) (C := C) (hM := c_X11_isEnd (Gl G)  hR hw) (hlk := wm_31_13) (hini := wm_1_2) (hins := wm_31_14) (hsel := wm_31_15) (hcode := wm_31_16) (ho := kE_0) (hci := rfl) (hc13 := by decide) (n := 1) (hd := by decide +kernel) (hr0 := ⟨rfl, rfl⟩) (hroom := ⟨by first | decide | (dsimp only; omega), by first | decide | (dsimp only; omega)⟩) (hlen := rfl) (hst := rfl) (hW := Nat.le_of_ble_eq_true rfl) (hdg := dX11_renamed_2) (q := 5) (hq := rfl) (fun r2_2 S2_1 hw hR => ?_)
  refine Go_if_eq (t := 31) (q := 8) C hw dX11_renamed_5 rfl rfl (fun hw => ?_) (fun hw => ?_)
  · refine Go_iconst (q := 32) (v := (-1 : Int32)) C dX11_renamed_31 rfl rfl ?_
    exact Go_iret C hQ hR hw dX11_renamed_32
  · refine Go_aload_n (q := 9) C 0 rfl dX11_renamed_8 rfl ?_
    refine Go_iload_n (q := 10) C 1 rfl dX11_renamed_9 rfl ?_
    refine Go_callV_I (av := (fun ad => [.int p0])) (st := []) (C := C) (hM := c_X11_same (Gl G)  hR hw) (hlk := wm_51_20) (hini := wm_1_2) (hins := wm_48_12) (hsel := wm_48_13) (hcode := wm_48_14) (ho := kE_0) (hci := rfl) (hc13 := by decide) (n := 1) (hd := by decide +kernel) (hr0 := ⟨rfl, rfl⟩) (hroom := ⟨by first | decide | (dsimp only; omega), by first | decide | (dsimp only; omega)⟩) (hlen := rfl) (hst := rfl) (hW := Nat.le_of_ble_eq_true rfl) (hdg := dX11_renamed_10) (q := 13) (hq := rfl) (fun r10_4 S10_3 hw hR => ?_)
    refine Go_iconst (q := 14) (v := (1 : Int32)) C dX11_renamed_13 rfl rfl ?_
    refine Go_icmp_ne (t := 31) (q := 17) C hw dX11_renamed_14 rfl rfl (fun hw => ?_) (fun hw => ?_)
    · refine Go_aload_n (q := 18) C 0 rfl dX11_renamed_17 rfl ?_
      refine Go_getA (q := 21) (k := 7) C ci11 iw_11 kE_0 (rE_0_7 hR) rfl wm_2_21 rfl dX11_renamed_18 rfl ?_
      refine Go_getAN (q := 24) (k := 0) (host := "EndsRound") C ci7 iw_7 kE_56 (rE_56_0 hR) rfl nw_62 rfl dX11_renamed_21 rfl ?_
      refine Go_iload_n (q := 25) C 2 rfl dX11_renamed_24 rfl ?_
      refine Go_callS_I (av := (fun ad => [.ref (ad (57)), .int p1])) (st := []) (C := C) (hM := c_X11_cell (Gl G) (ok_ln kE_57) hR hw) (hlk := wm_31_17) (hini := wm_1_2) (hst2 := wm_10_22) (hcode := wm_10_23) (n := 2) (hd := by decide +kernel) (hr0 := ⟨rfl, rfl⟩) (hroom := ⟨by first | decide | (dsimp only; omega), by first | decide | (dsimp only; omega)⟩) (hlen := rfl) (hst := rfl) (hW := Nat.le_of_ble_eq_true rfl) (hdg := dX11_renamed_25) (q := 28) (hq := rfl) (fun r25_6 S25_5 hw hR => ?_)
      refine Go_goto (q := 32) C dX11_renamed_28 rfl ?_
      exact Go_iret C hQ hR hw dX11_renamed_32
    · refine Go_iconst (q := 32) (v := (-1 : Int32)) C dX11_renamed_31 rfl rfl ?_
      exact Go_iret C hQ hR hw dX11_renamed_32
-- X2_copy
abbrev rm_X2_copy : Room := { frames := 1, cells := 0, slots := 0, locals := 22 }
set_option maxRecDepth 100000 in
set_option maxHeartbeats 4000000 in
theorem c_X2_copy (l : Launch) {o : Nat} (ho : isE2 o) {p0 : Nat} (hp0 : isE2 p0) {S : St} {Q : St → Prop} (hR : RCE S) (hw : w_X2_copy o p0 S Q) : MetV l yX2_copy (wB yX2_copy cX2_copy 2 none) rm_X2_copy shE NE RCE (fun ad => [.ref (ad (o)), .ref (ad (p0))]) S Q := by
  refine MetV_of (cc := cX2_copy) (maxL := 2) (ret := none) (plainFor_of_name (by decide)) (fun _ => Nat.le_of_ble_eq_true rfl) (fun G C hl hQ => ?_)
  subst hl
  have C : Cx G cX2_copy BIG RX2 2 none rm_X2_copy shE NE := C
  show Go G 2 0 [] [(0, .ref (Gad G (o))), (1, .ref (Gad G (p0)))] S
  unfold w_X2_copy at hw
  refine Go_aload_n (q := 1) C 0 rfl dX2_copy_0 rfl ?_
  refine Go_aload_n (q := 2) C 1 rfl dX2_copy_1 rfl ?_
  refine Go_getI (q := 5) (k := 3) C ci2 iw_2 (oE2 hp0) rfl wm_43_17 rfl dX2_copy_2 rfl ?_
  refine Go_putI (q := 8) (k := 3) C ci2 iw_2 (oE2 ho) rfl wm_43_17 rfl rfl (ci2.2.2.2.1 3 (by decide)) rfl rfl dX2_copy_5 rfl ?_
  refine Go_S (fun S5_1 e_S5_1 => ?_)
  have hw := hw S5_1 e_S5_1
  have hR := rcE e_S5_1 hR
  refine Go_aload_n (q := 9) C 1 rfl dX2_copy_8 rfl ?_
  refine Go_getA (q := 12) (k := 0) C ci2 iw_2 (oE2 hp0) (rE2_0 hR hp0) rfl wm_7_8 rfl dX2_copy_9 rfl ?_
  refine Go_aload_n (q := 13) C 0 rfl dX2_copy_12 rfl ?_
  refine Go_getA (q := 16) (k := 0) C ci2 iw_2 (oE2 ho) (rE2_0 hR ho) rfl wm_7_8 rfl dX2_copy_13 rfl ?_
  refine Go_callSN_V (av := (fun ad => [.ref (ad ((p0 + 1))), .ref (ad ((o + 1)))])) (st := []) (C := C) (hM := c_X11_copyRow (Gl G) (ok_ln (oE2_0 hp0)) (ok_ln (oE2_0 ho)) hR hw) (host := "EndsRound") (hnw := nw_101) (hini := wm_1_2) (hst2 := wm_10_20) (hcode := wm_10_21) (n := 2) (hd := by decide +kernel) (hr0 := ⟨rfl, rfl⟩) (hroom := ⟨by first | decide | (dsimp only; omega), by first | decide | (dsimp only; omega)⟩) (hlen := rfl) (hst := rfl) (hW := Nat.le_of_ble_eq_true rfl) (hdg := dX2_copy_16) (q := 19) (hq := rfl) (fun S16_2 hw hR => ?_)
  refine Go_aload_n (q := 20) C 1 rfl dX2_copy_19 rfl ?_
  refine Go_getA (q := 23) (k := 1) C ci2 iw_2 (oE2 hp0) (rE2_1 hR hp0) rfl wm_7_9 rfl dX2_copy_20 rfl ?_
  refine Go_aload_n (q := 24) C 0 rfl dX2_copy_23 rfl ?_
  refine Go_getA (q := 27) (k := 1) C ci2 iw_2 (oE2 ho) (rE2_1 hR ho) rfl wm_7_9 rfl dX2_copy_24 rfl ?_
  refine Go_callSN_V (av := (fun ad => [.ref (ad ((p0 + 2))), .ref (ad ((o + 2)))])) (st := []) (C := C) (hM := c_X11_copyRow (Gl G) (ok_ln (oE2_1 hp0)) (ok_ln (oE2_1 ho)) hR hw) (host := "EndsRound") (hnw := nw_101) (hini := wm_1_2) (hst2 := wm_10_20) (hcode := wm_10_21) (n := 2) (hd := by decide +kernel) (hr0 := ⟨rfl, rfl⟩) (hroom := ⟨by first | decide | (dsimp only; omega), by first | decide | (dsimp only; omega)⟩) (hlen := rfl) (hst := rfl) (hW := Nat.le_of_ble_eq_true rfl) (hdg := dX2_copy_27) (q := 30) (hq := rfl) (fun S27_3 hw hR => ?_)
  refine Go_aload_n (q := 31) C 1 rfl dX2_copy_30 rfl ?_
  refine Go_getA (q := 34) (k := 2) C ci2 iw_2 (oE2 hp0) (rE2_2 hR hp0) rfl wm_7_10 rfl dX2_copy_31 rfl ?_
  refine Go_aload_n (q := 35) C 0 rfl dX2_copy_34 rfl ?_
  refine Go_getA (q := 38) (k := 2) C ci2 iw_2 (oE2 ho) (rE2_2 hR ho) rfl wm_7_10 rfl dX2_copy_35 rfl ?_
  refine Go_callSN_V (av := (fun ad => [.ref (ad ((p0 + 3))), .ref (ad ((o + 3)))])) (st := []) (C := C) (hM := c_X11_copyRow (Gl G) (ok_ln (oE2_2 hp0)) (ok_ln (oE2_2 ho)) hR hw) (host := "EndsRound") (hnw := nw_101) (hini := wm_1_2) (hst2 := wm_10_20) (hcode := wm_10_21) (n := 2) (hd := by decide +kernel) (hr0 := ⟨rfl, rfl⟩) (hroom := ⟨by first | decide | (dsimp only; omega), by first | decide | (dsimp only; omega)⟩) (hlen := rfl) (hst := rfl) (hW := Nat.le_of_ble_eq_true rfl) (hdg := dX2_copy_38) (q := 41) (hq := rfl) (fun S38_4 hw hR => ?_)
  exact Go_vret C hQ hR hw dX2_copy_41
-- X5_lay
abbrev rm_X5_lay : Room := { frames := 2, cells := 0, slots := 0, locals := 43 }
set_option maxRecDepth 100000 in
set_option maxHeartbeats 4000000 in
theorem c_X5_lay (l : Launch) {o : Nat} (ho : isE5 o) {p0 : Nat} (hp0 : isE4 p0) {p1 : Nat} (hp1 : isE2 p1) {S : St} {Q : St → Prop} (hR : RCE S) (hw : w_X5_lay o p0 p1 S Q) : MetV l yX5_lay (wB yX5_lay cX5_lay 3 none) rm_X5_lay shE NE RCE (fun ad => [.ref (ad (o)), .ref (ad (p0)), .ref (ad (p1))]) S Q := by
  refine MetV_of (cc := cX5_lay) (maxL := 3) (ret := none) (plainFor_of_name (by decide)) (fun _ => Nat.le_of_ble_eq_true rfl) (fun G C hl hQ => ?_)
  subst hl
  have C : Cx G cX5_lay BIG RX5 3 none rm_X5_lay shE NE := C
  show Go G 3 0 [] [(0, .ref (Gad G (o))), (1, .ref (Gad G (p0))), (2, .ref (Gad G (p1)))] S
  unfold w_X5_lay at hw
  refine Go_aload_n (q := 1) C 0 rfl dX5_lay_0 rfl ?_
  refine Go_getA (q := 4) (k := 0) C ci5 iw_5 (oE5 ho) (rE5_0 hR ho) rfl wm_9_20 rfl dX5_lay_1 rfl ?_
  refine Go_aload_n (q := 5) C 1 rfl dX5_lay_4 rfl ?_
  refine Go_callV_V (av := (fun ad => [.ref (ad (p0))])) (st := []) (C := C) (hM := c_X4_copy (Gl G) (iE5_0 ho) hp0 hR hw) (hlk := wm_52_14) (hini := wm_2_0) (hins := wm_23_14) (hsel := wm_23_15) (hcode := wm_23_16) (ho := (oE5_0 ho)) (hci := rfl) (hc13 := by decide) (n := 1) (hd := by decide +kernel) (hr0 := ⟨rfl, rfl⟩) (hroom := ⟨by first | decide | (dsimp only; omega), by first | decide | (dsimp only; omega)⟩) (hlen := rfl) (hst := rfl) (hW := Nat.le_of_ble_eq_true rfl) (hdg := dX5_lay_5) (q := 8) (hq := rfl) (fun S5_1 hw hR => ?_)
  refine Go_aload_n (q := 9) C 0 rfl dX5_lay_8 rfl ?_
  refine Go_getA (q := 12) (k := 1) C ci5 iw_5 (oE5 ho) (rE5_1 hR ho) rfl wm_9_22 rfl dX5_lay_9 rfl ?_
  refine Go_aload_n (q := 13) C 2 rfl dX5_lay_12 rfl ?_
  refine Go_callV_V (av := (fun ad => [.ref (ad (p1))])) (st := []) (C := C) (hM := c_X2_copy (Gl G) (iE5_1 ho) hp1 hR hw) (hlk := wm_52_15) (hini := wm_2_4) (hins := wm_52_6) (hsel := wm_52_7) (hcode := wm_52_8) (ho := (oE5_1 ho)) (hci := rfl) (hc13 := by decide) (n := 1) (hd := by decide +kernel) (hr0 := ⟨rfl, rfl⟩) (hroom := ⟨by first | decide | (dsimp only; omega), by first | decide | (dsimp only; omega)⟩) (hlen := rfl) (hst := rfl) (hW := Nat.le_of_ble_eq_true rfl) (hdg := dX5_lay_13) (q := 16) (hq := rfl) (fun S13_2 hw hR => ?_)
  refine Go_aload_n (q := 17) C 0 rfl dX5_lay_16 rfl ?_
  refine Go_iconst (q := 18) (v := (1 : Int32)) C dX5_lay_17 rfl rfl ?_
  refine Go_putI (q := 21) (k := 2) C ci5 iw_5 (oE5 ho) rfl wm_52_13 rfl rfl (ci5.2.2.2.1 2 (by decide)) rfl rfl dX5_lay_18 rfl ?_
  refine Go_S (fun S18_3 e_S18_3 => ?_)
  have hw := hw S18_3 e_S18_3
  have hR := rcE e_S18_3 hR
  exact Go_vret C hQ hR hw dX5_lay_21
-- X11_mark
abbrev rm_X11_mark : Room := { frames := 5, cells := 0, slots := 0, locals := 121 }
set_option maxRecDepth 100000 in
set_option maxHeartbeats 4000000 in
theorem g_X11_mark_23 {G : GC} (C : Cx G cX11_mark BIG RX11 4 (some .boolean) rm_X11_mark shE NE) {Q : Int32 → St → Prop} (hQ : QI G RCE Q) (p1 : Int32) (v3 : Option Nat) {S : St} (hR : RCE S) (hw : w_X11_mark_23 p1 Q v3 S) : Go G 4 23 [] [(0, .ref (Gad G (0))), (2, .int p1), (3, va_rf (Option.map (Gad G) (v3)))] S := by
  unfold w_X11_mark_23 at hw
  refine Go_iload_n (q := 24) C 1 rfl dX11_mark_23 rfl ?_
  refine Go_if_eq (t := 56) (q := 27) C hw dX11_mark_24 rfl rfl (fun hw => ?_) (fun hw => ?_)
  · refine Go_aloadO_n (q := 57) C 2 rfl dX11_mark_56 rfl ?_
    obtain ⟨m56_3, e_m56_3, i_m56_3, hw⟩ := hw
    refine Go_deref e_m56_3 ?_
    refine Go_aload_n (q := 58) C 0 rfl dX11_mark_57 rfl ?_
    refine Go_getA (q := 61) (k := 2) C ci11 iw_11 kE_0 (rE_0_2 hR) rfl wm_2_1 rfl dX11_mark_58 rfl ?_
    refine Go_aload_n (q := 62) C 0 rfl dX11_mark_61 rfl ?_
    refine Go_getA (q := 65) (k := 3) C ci11 iw_11 kE_0 (rE_0_3 hR) rfl wm_2_5 rfl dX11_mark_62 rfl ?_
    refine Go_callV_V (av := (fun ad => [.ref (ad (21)), .ref (ad (30))])) (st := []) (C := C) (hM := c_X5_lay (Gl G) i_m56_3 isE4_21 isE2_30 hR hw) (hlk := wm_52_9) (hini := wm_3_1) (hins := wm_52_10) (hsel := wm_52_11) (hcode := wm_52_12) (ho := (oE5 i_m56_3)) (hci := rfl) (hc13 := by decide) (n := 2) (hd := by decide +kernel) (hr0 := ⟨rfl, rfl⟩) (hroom := ⟨by first | decide | (dsimp only; omega), by first | decide | (dsimp only; omega)⟩) (hlen := rfl) (hst := rfl) (hW := Nat.le_of_ble_eq_true rfl) (hdg := dX11_mark_65) (q := 68) (hq := rfl) (fun S65_4 hw hR => ?_)
    refine Go_iconst (q := 69) (v := (1 : Int32)) C dX11_mark_68 rfl rfl ?_
    exact Go_zret C hQ hR rfl hw dX11_mark_69
  · refine Go_aload_n (q := 28) C 0 rfl dX11_mark_27 rfl ?_
    refine Go_getA (q := 31) (k := 2) C ci11 iw_11 kE_0 (rE_0_2 hR) rfl wm_2_1 rfl dX11_mark_28 rfl ?_
    refine Go_aloadO_n (q := 32) C 2 rfl dX11_mark_31 rfl ?_
    obtain ⟨m31_5, e_m31_5, i_m31_5, hw⟩ := hw
    refine Go_deref e_m31_5 ?_
    refine Go_getAN (q := 35) (k := 0) (host := "EndsRound") C ci5 iw_5 (oE5 i_m31_5) (rE5_0 hR i_m31_5) rfl nw_63 rfl dX11_mark_32 rfl ?_
    refine Go_callV_V (av := (fun ad => [.ref (ad ((m31_5 + 1)))])) (st := []) (C := C) (hM := c_X4_copy (Gl G) isE4_21 (iE5_0 i_m31_5) hR hw) (hlk := wm_23_13) (hini := wm_2_0) (hins := wm_23_14) (hsel := wm_23_15) (hcode := wm_23_16) (ho := kE_21) (hci := rfl) (hc13 := by decide) (n := 1) (hd := by decide +kernel) (hr0 := ⟨rfl, rfl⟩) (hroom := ⟨by first | decide | (dsimp only; omega), by first | decide | (dsimp only; omega)⟩) (hlen := rfl) (hst := rfl) (hW := Nat.le_of_ble_eq_true rfl) (hdg := dX11_mark_35) (q := 38) (hq := rfl) (fun S35_6 hw hR => ?_)
    refine Go_aload_n (q := 39) C 0 rfl dX11_mark_38 rfl ?_
    refine Go_getA (q := 42) (k := 3) C ci11 iw_11 kE_0 (rE_0_3 hR) rfl wm_2_5 rfl dX11_mark_39 rfl ?_
    refine Go_aloadO_n (q := 43) C 2 rfl dX11_mark_42 rfl ?_
    obtain ⟨m42_7, e_m42_7, i_m42_7, hw⟩ := hw
    refine Go_deref e_m42_7 ?_
    refine Go_getAN (q := 46) (k := 1) (host := "EndsRound") C ci5 iw_5 (oE5 i_m42_7) (rE5_1 hR i_m42_7) rfl nw_64 rfl dX11_mark_43 rfl ?_
    refine Go_callV_V (av := (fun ad => [.ref (ad ((m42_7 + 10)))])) (st := []) (C := C) (hM := c_X2_copy (Gl G) isE2_30 (iE5_1 i_m42_7) hR hw) (hlk := wm_52_5) (hini := wm_2_4) (hins := wm_52_6) (hsel := wm_52_7) (hcode := wm_52_8) (ho := kE_30) (hci := rfl) (hc13 := by decide) (n := 1) (hd := by decide +kernel) (hr0 := ⟨rfl, rfl⟩) (hroom := ⟨by first | decide | (dsimp only; omega), by first | decide | (dsimp only; omega)⟩) (hlen := rfl) (hst := rfl) (hW := Nat.le_of_ble_eq_true rfl) (hdg := dX11_mark_46) (q := 49) (hq := rfl) (fun S46_8 hw hR => ?_)
    refine Go_aload_n (q := 50) C 0 rfl dX11_mark_49 rfl ?_
    refine Go_callV_V (av := (fun ad => [])) (st := []) (C := C) (hM := c_X11_formChanged (Gl G) hR hw) (hlk := wm_23_17) (hini := wm_1_2) (hins := wm_23_18) (hsel := wm_23_19) (hcode := wm_23_20) (ho := kE_0) (hci := rfl) (hc13 := by decide) (n := 0) (hd := by decide +kernel) (hr0 := ⟨rfl, rfl⟩) (hroom := ⟨by first | decide | (dsimp only; omega), by first | decide | (dsimp only; omega)⟩) (hlen := rfl) (hst := rfl) (hW := Nat.le_of_ble_eq_true rfl) (hdg := dX11_mark_50) (q := 53) (hq := rfl) (fun S50_9 hw hR => ?_)
    refine Go_goto (q := 68) C dX11_mark_53 rfl ?_
    refine Go_iconst (q := 69) (v := (1 : Int32)) C dX11_mark_68 rfl rfl ?_
    exact Go_zret C hQ hR rfl hw dX11_mark_69
set_option maxRecDepth 100000 in
set_option maxHeartbeats 4000000 in
theorem c_X11_mark (l : Launch) {p0 : Int32} {p1 : Int32} {S : St} {Q : Int32 → St → Prop} (hR : RCE S) (hw : w_X11_mark p0 p1 S Q) : MetI l yX11_mark (wB yX11_mark cX11_mark 4 (some .boolean)) rm_X11_mark shE NE RCE (fun ad => [.ref (ad (0)), .int p0, .int p1]) S Q := by
  refine MetI_of (cc := cX11_mark) (maxL := 4) (ret := (some .boolean)) (plainFor_of_name (by decide)) (fun _ => Nat.le_of_ble_eq_true rfl) (fun G C hl hQ => ?_)
  subst hl
  have C : Cx G cX11_mark BIG RX11 4 (some .boolean) rm_X11_mark shE NE := C
  show Go G 4 0 [] [(0, .ref (Gad G (0))), (1, .int p0), (2, .int p1)] S
  unfold w_X11_mark at hw
  refine Go_aload_n (q := 1) C 0 rfl dX11_mark_0 rfl ?_
  refine Go_iload_n (q := 2) C 1 rfl dX11_mark_1 rfl ?_
  refine Go_callV_O (av := (fun ad => [.int p0])) (st := []) (C := C) (hM := c_X11_markAt (Gl G)  hR hw) (hlk := wm_48_15) (hini := wm_1_2) (hins := wm_48_16) (hsel := wm_48_17) (hcode := wm_48_18) (ho := kE_0) (hci := rfl) (hc13 := by decide) (n := 1) (hd := by decide +kernel) (hr0 := ⟨rfl, rfl⟩) (hroom := ⟨by first | decide | (dsimp only; omega), by first | decide | (dsimp only; omega)⟩) (hlen := rfl) (hst := rfl) (hW := Nat.le_of_ble_eq_true rfl) (hdg := dX11_mark_2) (q := 5) (hq := rfl) (fun r2_2 S2_1 hw hR => ?_)
  refine Go_astoreO_n (q := 6) (lv' := [(3, va_rf (Option.map (Gad G) (r2_2))), (0, .ref (Gad G (0))), (1, .int p0), (2, .int p1)]) C rfl dX11_mark_5 (by decide) rfl rfl ?_
  refine Go_aloadO_n (q := 7) C 0 rfl dX11_mark_6 rfl ?_
  refine Go_ifnull (t := 21) (q := 10) C hw dX11_mark_7 rfl rfl (fun hw => ?_) (fun hw => ?_)
  · refine Go_iconst (q := 22) (v := (0 : Int32)) C dX11_mark_21 rfl rfl ?_
    exact Go_zret C hQ hR rfl hw dX11_mark_22
  · refine Go_iload_n (q := 11) C 3 rfl dX11_mark_10 rfl ?_
    refine Go_if_eq (t := 23) (q := 14) C hw dX11_mark_11 rfl rfl (fun hw => ?_) (fun hw => ?_)
    · refine Go_lvp [1, 3, 0] rfl ?_
      exact g_X11_mark_23 C hQ p1 _ hR hw
    · refine Go_aloadO_n (q := 15) C 0 rfl dX11_mark_14 rfl ?_
      obtain ⟨m14_10, e_m14_10, i_m14_10, hw⟩ := hw
      refine Go_deref e_m14_10 ?_
      refine Go_getIN (q := 18) (k := 2) (host := "EndsRound") C ci5 iw_5 (oE5 i_m14_10) rfl nw_65 rfl dX11_mark_15 rfl ?_
      refine Go_if_ne (t := 23) (q := 21) C hw dX11_mark_18 rfl rfl (fun hw => ?_) (fun hw => ?_)
      · refine Go_iconst (q := 22) (v := (0 : Int32)) C dX11_mark_21 rfl rfl ?_
        exact Go_zret C hQ hR rfl hw dX11_mark_22
      · refine Go_lvp [1, 3, 0] rfl ?_
        exact g_X11_mark_23 C hQ p1 _ hR hw
-- X11_count
abbrev rm_X11_count : Room := { frames := 0, cells := 0, slots := 0, locals := 0 }
set_option maxRecDepth 100000 in
set_option maxHeartbeats 4000000 in
theorem c_X11_count (l : Launch) {p0 : Int32} {S : St} {Q : Int32 → St → Prop} (hR : RCE S) (hw : w_X11_count p0 S Q) : MetI l yX11_count (wB yX11_count cX11_count 2 (some .int)) rm_X11_count shE NE RCE (fun ad => [.ref (ad (0)), .int p0]) S Q := by
  refine MetI_of (cc := cX11_count) (maxL := 2) (ret := (some .int)) (plainFor_of_name (by decide)) (fun _ => Nat.le_of_ble_eq_true rfl) (fun G C hl hQ => ?_)
  subst hl
  have C : Cx G cX11_count BIG RX11 2 (some .int) rm_X11_count shE NE := C
  show Go G 2 0 [] [(0, .ref (Gad G (0))), (1, .int p0)] S
  unfold w_X11_count at hw
  refine Go_iload_n (q := 1) C 1 rfl dX11_count_0 rfl ?_
  by_cases hk0 : p0 = (0 : Int32)
  · have hw := ite_t hw hk0
    refine Go_tableIn (t := 52) C dX11_count_1 (by rw [hk0]; decide) (by rw [hk0]; decide) (by rw [hk0]; rfl) rfl ?_
    refine Go_aload_n (q := 53) C 0 rfl dX11_count_52 rfl ?_
    refine Go_getA (q := 56) (k := 2) C ci11 iw_11 kE_0 (rE_0_2 hR) rfl wm_2_1 rfl dX11_count_53 rfl ?_
    refine Go_getIN (q := 59) (k := 0) (host := "EndsRound") C ci4 iw_4 kE_21 rfl nw_11 rfl dX11_count_56 rfl ?_
    exact Go_iret C hQ hR hw dX11_count_59
  have hw := ite_f hw hk0
  by_cases hk1 : p0 = (1 : Int32)
  · have hw := ite_t hw hk1
    refine Go_tableIn (t := 60) C dX11_count_1 (by rw [hk1]; decide) (by rw [hk1]; decide) (by rw [hk1]; rfl) rfl ?_
    refine Go_aload_n (q := 61) C 0 rfl dX11_count_60 rfl ?_
    refine Go_getA (q := 64) (k := 2) C ci11 iw_11 kE_0 (rE_0_2 hR) rfl wm_2_1 rfl dX11_count_61 rfl ?_
    refine Go_getIN (q := 67) (k := 1) (host := "EndsRound") C ci4 iw_4 kE_21 rfl nw_13 rfl dX11_count_64 rfl ?_
    exact Go_iret C hQ hR hw dX11_count_67
  have hw := ite_f hw hk1
  by_cases hk2 : p0 = (2 : Int32)
  · have hw := ite_t hw hk2
    refine Go_tableIn (t := 68) C dX11_count_1 (by rw [hk2]; decide) (by rw [hk2]; decide) (by rw [hk2]; rfl) rfl ?_
    refine Go_aload_n (q := 69) C 0 rfl dX11_count_68 rfl ?_
    refine Go_getA (q := 72) (k := 2) C ci11 iw_11 kE_0 (rE_0_2 hR) rfl wm_2_1 rfl dX11_count_69 rfl ?_
    refine Go_getIN (q := 75) (k := 2) (host := "EndsRound") C ci4 iw_4 kE_21 rfl nw_15 rfl dX11_count_72 rfl ?_
    exact Go_iret C hQ hR hw dX11_count_75
  have hw := ite_f hw hk2
  by_cases hk3 : p0 = (3 : Int32)
  · have hw := ite_t hw hk3
    refine Go_tableIn (t := 76) C dX11_count_1 (by rw [hk3]; decide) (by rw [hk3]; decide) (by rw [hk3]; rfl) rfl ?_
    refine Go_aload_n (q := 77) C 0 rfl dX11_count_76 rfl ?_
    refine Go_getA (q := 80) (k := 2) C ci11 iw_11 kE_0 (rE_0_2 hR) rfl wm_2_1 rfl dX11_count_77 rfl ?_
    refine Go_getIN (q := 83) (k := 3) (host := "EndsRound") C ci4 iw_4 kE_21 rfl nw_16 rfl dX11_count_80 rfl ?_
    exact Go_iret C hQ hR hw dX11_count_83
  have hw := ite_f hw hk3
  by_cases hk4 : p0 = (4 : Int32)
  · have hw := ite_t hw hk4
    refine Go_tableIn (t := 84) C dX11_count_1 (by rw [hk4]; decide) (by rw [hk4]; decide) (by rw [hk4]; rfl) rfl ?_
    refine Go_aload_n (q := 85) C 0 rfl dX11_count_84 rfl ?_
    refine Go_getA (q := 88) (k := 2) C ci11 iw_11 kE_0 (rE_0_2 hR) rfl wm_2_1 rfl dX11_count_85 rfl ?_
    refine Go_getIN (q := 91) (k := 4) (host := "EndsRound") C ci4 iw_4 kE_21 rfl nw_18 rfl dX11_count_88 rfl ?_
    exact Go_iret C hQ hR hw dX11_count_91
  have hw := ite_f hw hk4
  by_cases hk5 : p0 = (5 : Int32)
  · have hw := ite_t hw hk5
    refine Go_tableIn (t := 92) C dX11_count_1 (by rw [hk5]; decide) (by rw [hk5]; decide) (by rw [hk5]; rfl) rfl ?_
    refine Go_aload_n (q := 93) C 0 rfl dX11_count_92 rfl ?_
    refine Go_getA (q := 96) (k := 2) C ci11 iw_11 kE_0 (rE_0_2 hR) rfl wm_2_1 rfl dX11_count_93 rfl ?_
    refine Go_getIN (q := 99) (k := 5) (host := "EndsRound") C ci4 iw_4 kE_21 rfl nw_23 rfl dX11_count_96 rfl ?_
    exact Go_iret C hQ hR hw dX11_count_99
  have hw := ite_f hw hk5
  by_cases hk6 : p0 = (6 : Int32)
  · have hw := ite_t hw hk6
    refine Go_tableIn (t := 100) C dX11_count_1 (by rw [hk6]; decide) (by rw [hk6]; decide) (by rw [hk6]; rfl) rfl ?_
    refine Go_aload_n (q := 101) C 0 rfl dX11_count_100 rfl ?_
    refine Go_getA (q := 104) (k := 2) C ci11 iw_11 kE_0 (rE_0_2 hR) rfl wm_2_1 rfl dX11_count_101 rfl ?_
    refine Go_getIN (q := 107) (k := 6) (host := "EndsRound") C ci4 iw_4 kE_21 rfl nw_25 rfl dX11_count_104 rfl ?_
    exact Go_iret C hQ hR hw dX11_count_107
  have hw := ite_f hw hk6
  by_cases hk7 : p0 = (7 : Int32)
  · have hw := ite_t hw hk7
    refine Go_tableIn (t := 108) C dX11_count_1 (by rw [hk7]; decide) (by rw [hk7]; decide) (by rw [hk7]; rfl) rfl ?_
    refine Go_aload_n (q := 109) C 0 rfl dX11_count_108 rfl ?_
    refine Go_getA (q := 112) (k := 3) C ci11 iw_11 kE_0 (rE_0_3 hR) rfl wm_2_5 rfl dX11_count_109 rfl ?_
    refine Go_getIN (q := 115) (k := 3) (host := "EndsRound") C ci2 iw_2 kE_30 rfl nw_46 rfl dX11_count_112 rfl ?_
    exact Go_iret C hQ hR hw dX11_count_115
  have hw := ite_f hw hk7
  by_cases hk8 : p0 = (8 : Int32)
  · have hw := ite_t hw hk8
    refine Go_tableIn (t := 116) C dX11_count_1 (by rw [hk8]; decide) (by rw [hk8]; decide) (by rw [hk8]; rfl) rfl ?_
    refine Go_aload_n (q := 117) C 0 rfl dX11_count_116 rfl ?_
    refine Go_getA (q := 120) (k := 0) C ci11 iw_11 kE_0 (rE_0_0 hR) rfl wm_1_17 rfl dX11_count_117 rfl ?_
    refine Go_getIN (q := 123) (k := 5) (host := "EndsRound") C ci10 iw_10 kE_1 rfl nw_3 rfl dX11_count_120 rfl ?_
    exact Go_iret C hQ hR hw dX11_count_123
  have hw := ite_f hw hk8
  refine Go_tableOut (t := 124) C dX11_count_1 (by have g0 : ¬ (p0).toInt = 0 := ne_toInt hk0; have g1 : ¬ (p0).toInt = 1 := ne_toInt hk1; have g2 : ¬ (p0).toInt = 2 := ne_toInt hk2; have g3 : ¬ (p0).toInt = 3 := ne_toInt hk3; have g4 : ¬ (p0).toInt = 4 := ne_toInt hk4; have g5 : ¬ (p0).toInt = 5 := ne_toInt hk5; have g6 : ¬ (p0).toInt = 6 := ne_toInt hk6; have g7 : ¬ (p0).toInt = 7 := ne_toInt hk7; have g8 : ¬ (p0).toInt = 8 := ne_toInt hk8; omega) rfl ?_
  refine Go_iconst (q := 125) (v := (-1 : Int32)) C dX11_count_124 rfl rfl ?_
  exact Go_iret C hQ hR hw dX11_count_125
-- X11_isRepeated
abbrev rm_X11_isRepeated : Room := { frames := 1, cells := 0, slots := 0, locals := 21 }
set_option maxRecDepth 100000 in
set_option maxHeartbeats 4000000 in
theorem g_X11_isRepeated_2 {G : GC} (C : Cx G cX11_isRepeated BIG RX11 4 (some .boolean) rm_X11_isRepeated shE NE) {Q : Int32 → St → Prop} (hQ : QI G RCE Q) (p0 : Int32) (p1 : Int32) (v3 : Int32) {S : St} (hR : RCE S) (hw : w_X11_isRepeated_2 p0 p1 Q v3 S) : Go G 4 2 [] [(0, .ref (Gad G (0))), (1, .int p0), (2, .int p1), (3, .int v3)] S := by
  obtain ⟨n, hw⟩ := hw
  induction n generalizing v3 S with
  | zero => exact hw.elim
  | succ n ih =>
    have hw : b_X11_isRepeated_2 p0 p1 Q (lpn (fun _ _ => False) (b_X11_isRepeated_2 p0 p1 Q) n) v3 S := hw
    generalize lpn (fun _ _ => False) (b_X11_isRepeated_2 p0 p1 Q) n = kf at hw ih
    have hk2 := fun (v3 : Int32) (S : St) (hR : RCE S) hw => ih v3 hR hw
    unfold b_X11_isRepeated_2 at hw
    refine Go_iload_n (q := 3) C 3 rfl dX11_isRepeated_2 rfl ?_
    refine Go_iload_n (q := 4) C 1 rfl dX11_isRepeated_3 rfl ?_
    refine Go_icmp_ge (t := 30) (q := 7) C hw dX11_isRepeated_4 rfl rfl (fun hw => ?_) (fun hw => ?_)
    · refine Go_iconst (q := 31) (v := (0 : Int32)) C dX11_isRepeated_30 rfl rfl ?_
      exact Go_zret C hQ hR rfl hw dX11_isRepeated_31
    · refine Go_aload_n (q := 8) C 0 rfl dX11_isRepeated_7 rfl ?_
      refine Go_getA (q := 11) (k := 3) C ci11 iw_11 kE_0 (rE_0_3 hR) rfl wm_2_5 rfl dX11_isRepeated_8 rfl ?_
      refine Go_getAN (q := 14) (k := 0) (host := "EndsRound") C ci2 iw_2 kE_30 (rE2_0 hR isE2_30) rfl nw_43 rfl dX11_isRepeated_11 rfl ?_
      refine Go_iload_n (q := 15) C 3 rfl dX11_isRepeated_14 rfl ?_
      refine Go_callS_I (av := (fun ad => [.ref (ad (31)), .int v3])) (st := []) (C := C) (hM := c_X11_cell (Gl G) (ok_ln kE_31) hR hw) (hlk := wm_31_17) (hini := wm_1_2) (hst2 := wm_10_22) (hcode := wm_10_23) (n := 2) (hd := by decide +kernel) (hr0 := ⟨rfl, rfl⟩) (hroom := ⟨by first | decide | (dsimp only; omega), by first | decide | (dsimp only; omega)⟩) (hlen := rfl) (hst := rfl) (hW := Nat.le_of_ble_eq_true rfl) (hdg := dX11_isRepeated_15) (q := 18) (hq := rfl) (fun r15_2 S15_1 hw hR => ?_)
      refine Go_iload_n (q := 19) C 2 rfl dX11_isRepeated_18 rfl ?_
      refine Go_icmp_ne (t := 24) (q := 22) C hw dX11_isRepeated_19 rfl rfl (fun hw => ?_) (fun hw => ?_)
      · refine Go_iconst (q := 23) (v := (1 : Int32)) C dX11_isRepeated_22 rfl rfl ?_
        exact Go_zret C hQ hR rfl hw dX11_isRepeated_23
      · refine Go_iinc2 (q := 27) (kp := 3) (cst := (1 : Int32)) C dX11_isRepeated_24 rfl rfl (by decide) rfl (fun x24_3 e_x24_3 => ?_)
        have hw := hw x24_3 e_x24_3
        refine Go_lve (lv' := [(3, .int x24_3), (0, .ref (Gad G (0))), (1, .int p0), (2, .int p1)]) rfl ?_
        refine Go_goto (q := 2) C dX11_isRepeated_27 rfl ?_
        refine Go_lvp [1, 2, 3, 0] rfl ?_
        exact hk2 _ _ hR hw
set_option maxRecDepth 100000 in
set_option maxHeartbeats 4000000 in
theorem c_X11_isRepeated (l : Launch) {p0 : Int32} {p1 : Int32} {S : St} {Q : Int32 → St → Prop} (hR : RCE S) (hw : w_X11_isRepeated p0 p1 S Q) : MetI l yX11_isRepeated (wB yX11_isRepeated cX11_isRepeated 4 (some .boolean)) rm_X11_isRepeated shE NE RCE (fun ad => [.ref (ad (0)), .int p0, .int p1]) S Q := by
  refine MetI_of (cc := cX11_isRepeated) (maxL := 4) (ret := (some .boolean)) (plainFor_of_name (by decide)) (fun _ => Nat.le_of_ble_eq_true rfl) (fun G C hl hQ => ?_)
  subst hl
  have C : Cx G cX11_isRepeated BIG RX11 4 (some .boolean) rm_X11_isRepeated shE NE := C
  show Go G 4 0 [] [(0, .ref (Gad G (0))), (1, .int p0), (2, .int p1)] S
  unfold w_X11_isRepeated at hw
  refine Go_iconst (q := 1) (v := (0 : Int32)) C dX11_isRepeated_0 rfl rfl ?_
  refine Go_istore_n (q := 2) (lv' := [(3, .int (0 : Int32)), (0, .ref (Gad G (0))), (1, .int p0), (2, .int p1)]) C rfl dX11_isRepeated_1 (by decide) rfl rfl ?_
  refine Go_lvp [1, 2, 3, 0] rfl ?_
  exact g_X11_isRepeated_2 C hQ p0 p1 _ hR hw
-- X11_jars
abbrev rm_X11_jars : Room := { frames := 2, cells := 0, slots := 0, locals := 43 }
set_option maxRecDepth 100000 in
set_option maxHeartbeats 4000000 in
theorem g_X11_jars_15 {G : GC} (C : Cx G cX11_jars BIG RX11 5 (some .boolean) rm_X11_jars shE NE) {Q : Int32 → St → Prop} (hQ : QI G RCE Q) (p0 : Int32) (v3 : Int32) (v4 : Int32) {S : St} (hR : RCE S) (hw : w_X11_jars_15 p0 Q v3 v4 S) : Go G 5 15 [] [(0, .ref (Gad G (0))), (1, .int p0), (3, .int v3), (4, .int v4)] S := by
  obtain ⟨n, hw⟩ := hw
  induction n generalizing v4 S with
  | zero => exact hw.elim
  | succ n ih =>
    have hw : b_X11_jars_15 p0 Q v3 (lpn (fun _ _ => False) (b_X11_jars_15 p0 Q v3) n) v4 S := hw
    generalize lpn (fun _ _ => False) (b_X11_jars_15 p0 Q v3) n = kf at hw ih
    have hk15 := fun (v4 : Int32) (S : St) (hR : RCE S) hw => ih v4 hR hw
    unfold b_X11_jars_15 at hw
    refine Go_iload (q := 17) C 3 rfl dX11_jars_15 rfl ?_
    refine Go_iload_n (q := 18) C 1 rfl dX11_jars_17 rfl ?_
    refine Go_icmp_ge (t := 68) (q := 21) C hw dX11_jars_18 rfl rfl (fun hw => ?_) (fun hw => ?_)
    · refine Go_iconst (q := 69) (v := (0 : Int32)) C dX11_jars_68 rfl rfl ?_
      exact Go_zret C hQ hR rfl hw dX11_jars_69
    · refine Go_aload_n (q := 22) C 0 rfl dX11_jars_21 rfl ?_
      refine Go_getA (q := 25) (k := 4) C ci11 iw_11 kE_0 (rE_0_4 hR) rfl wm_2_9 rfl dX11_jars_22 rfl ?_
      refine Go_iload (q := 27) C 3 rfl dX11_jars_25 rfl ?_
      refine Go_iload_n (q := 28) C 1 rfl dX11_jars_27 rfl ?_
      refine Go_callV_I (av := (fun ad => [.int v4, .int p0])) (st := []) (C := C) (hM := c_X9_areOneClass (Gl G) hR hw) (hlk := wm_45_5) (hini := wm_2_8) (hins := wm_40_1) (hsel := wm_40_2) (hcode := wm_40_3) (ho := kE_34) (hci := rfl) (hc13 := by decide) (n := 2) (hd := by decide +kernel) (hr0 := ⟨rfl, rfl⟩) (hroom := ⟨by first | decide | (dsimp only; omega), by first | decide | (dsimp only; omega)⟩) (hlen := rfl) (hst := rfl) (hW := Nat.le_of_ble_eq_true rfl) (hdg := dX11_jars_28) (q := 31) (hq := rfl) (fun r28_4 S28_3 hw hR => ?_)
      refine Go_if_eq (t := 62) (q := 34) C hw dX11_jars_31 rfl rfl (fun hw => ?_) (fun hw => ?_)
      · refine Go_iinc2 (q := 65) (kp := 3) (cst := (1 : Int32)) C dX11_jars_62 rfl rfl (by decide) rfl (fun x62_5 e_x62_5 => ?_)
        have hw := hw x62_5 e_x62_5
        refine Go_lve (lv' := [(4, .int x62_5), (0, .ref (Gad G (0))), (1, .int p0), (3, .int v3)]) rfl ?_
        refine Go_goto (q := 15) C dX11_jars_65 rfl ?_
        refine Go_lvp [1, 2, 3, 0] rfl ?_
        exact hk15 _ _ hR hw
      · refine Go_aload_n (q := 35) C 0 rfl dX11_jars_34 rfl ?_
        refine Go_getA (q := 38) (k := 2) C ci11 iw_11 kE_0 (rE_0_2 hR) rfl wm_2_1 rfl dX11_jars_35 rfl ?_
        refine Go_getAN (q := 41) (k := 10) (host := "EndsRound") C ci4 iw_4 kE_21 (rE4_10 hR isE4_21) rfl nw_35 rfl dX11_jars_38 rfl ?_
        refine Go_aload_n (q := 42) C 0 rfl dX11_jars_41 rfl ?_
        refine Go_getA (q := 45) (k := 3) C ci11 iw_11 kE_0 (rE_0_3 hR) rfl wm_2_5 rfl dX11_jars_42 rfl ?_
        refine Go_getAN (q := 48) (k := 0) (host := "EndsRound") C ci2 iw_2 kE_30 (rE2_0 hR isE2_30) rfl nw_43 rfl dX11_jars_45 rfl ?_
        refine Go_iload (q := 50) C 3 rfl dX11_jars_48 rfl ?_
        refine Go_callS_I (av := (fun ad => [.ref (ad (31)), .int v4])) (st := [.ref (Gad G (25))]) (C := C) (hM := c_X11_cell (Gl G) (ok_ln kE_31) hR hw) (hlk := wm_31_17) (hini := wm_1_2) (hst2 := wm_10_22) (hcode := wm_10_23) (n := 2) (hd := by decide +kernel) (hr0 := ⟨rfl, rfl⟩) (hroom := ⟨by first | decide | (dsimp only; omega), by first | decide | (dsimp only; omega)⟩) (hlen := rfl) (hst := rfl) (hW := Nat.le_of_ble_eq_true rfl) (hdg := dX11_jars_50) (q := 53) (hq := rfl) (fun r50_7 S50_6 hw hR => ?_)
        refine Go_callS_I (av := (fun ad => [.ref (ad (25)), .int r50_7])) (st := []) (C := C) (hM := c_X11_cell (Gl G) (ok_ln kE_25) hR hw) (hlk := wm_31_17) (hini := wm_1_2) (hst2 := wm_10_22) (hcode := wm_10_23) (n := 2) (hd := by decide +kernel) (hr0 := ⟨rfl, rfl⟩) (hroom := ⟨by first | decide | (dsimp only; omega), by first | decide | (dsimp only; omega)⟩) (hlen := rfl) (hst := rfl) (hW := Nat.le_of_ble_eq_true rfl) (hdg := dX11_jars_53) (q := 56) (hq := rfl) (fun r53_9 S53_8 hw hR => ?_)
        refine Go_iload_n (q := 57) C 2 rfl dX11_jars_56 rfl ?_
        refine Go_icmp_eq (t := 62) (q := 60) C hw dX11_jars_57 rfl rfl (fun hw => ?_) (fun hw => ?_)
        · refine Go_iinc2 (q := 65) (kp := 3) (cst := (1 : Int32)) C dX11_jars_62 rfl rfl (by decide) rfl (fun x62_10 e_x62_10 => ?_)
          have hw := hw x62_10 e_x62_10
          refine Go_lve (lv' := [(4, .int x62_10), (0, .ref (Gad G (0))), (1, .int p0), (3, .int v3)]) rfl ?_
          refine Go_goto (q := 15) C dX11_jars_65 rfl ?_
          refine Go_lvp [1, 2, 3, 0] rfl ?_
          exact hk15 _ _ hR hw
        · refine Go_iconst (q := 61) (v := (1 : Int32)) C dX11_jars_60 rfl rfl ?_
          exact Go_zret C hQ hR rfl hw dX11_jars_61
set_option maxRecDepth 100000 in
set_option maxHeartbeats 4000000 in
theorem c_X11_jars (l : Launch) {p0 : Int32} {p1 : Int32} {S : St} {Q : Int32 → St → Prop} (hR : RCE S) (hw : w_X11_jars p0 p1 S Q) : MetI l yX11_jars (wB yX11_jars cX11_jars 5 (some .boolean)) rm_X11_jars shE NE RCE (fun ad => [.ref (ad (0)), .int p0, .int p1]) S Q := by
  refine MetI_of (cc := cX11_jars) (maxL := 5) (ret := (some .boolean)) (plainFor_of_name (by decide)) (fun _ => Nat.le_of_ble_eq_true rfl) (fun G C hl hQ => ?_)
  subst hl
  have C : Cx G cX11_jars BIG RX11 5 (some .boolean) rm_X11_jars shE NE := C
  show Go G 5 0 [] [(0, .ref (Gad G (0))), (1, .int p0), (2, .int p1)] S
  unfold w_X11_jars at hw
  refine Go_aload_n (q := 1) C 0 rfl dX11_jars_0 rfl ?_
  refine Go_getA (q := 4) (k := 2) C ci11 iw_11 kE_0 (rE_0_2 hR) rfl wm_2_1 rfl dX11_jars_1 rfl ?_
  refine Go_getAN (q := 7) (k := 10) (host := "EndsRound") C ci4 iw_4 kE_21 (rE4_10 hR isE4_21) rfl nw_35 rfl dX11_jars_4 rfl ?_
  refine Go_iload_n (q := 8) C 2 rfl dX11_jars_7 rfl ?_
  refine Go_callS_I (av := (fun ad => [.ref (ad (25)), .int p1])) (st := []) (C := C) (hM := c_X11_cell (Gl G) (ok_ln kE_25) hR hw) (hlk := wm_31_17) (hini := wm_1_2) (hst2 := wm_10_22) (hcode := wm_10_23) (n := 2) (hd := by decide +kernel) (hr0 := ⟨rfl, rfl⟩) (hroom := ⟨by first | decide | (dsimp only; omega), by first | decide | (dsimp only; omega)⟩) (hlen := rfl) (hst := rfl) (hW := Nat.le_of_ble_eq_true rfl) (hdg := dX11_jars_8) (q := 11) (hq := rfl) (fun r8_2 S8_1 hw hR => ?_)
  refine Go_istore_n (q := 12) (lv' := [(3, .int r8_2), (0, .ref (Gad G (0))), (1, .int p0), (2, .int p1)]) C rfl dX11_jars_11 (by decide) rfl rfl ?_
  refine Go_iconst (q := 13) (v := (0 : Int32)) C dX11_jars_12 rfl rfl ?_
  refine Go_istore (q := 15) (lv' := [(4, .int (0 : Int32)), (3, .int r8_2), (0, .ref (Gad G (0))), (1, .int p0), (2, .int p1)]) C dX11_jars_13 (by decide) rfl rfl ?_
  refine Go_lvp [2, 3, 1, 0] rfl ?_
  exact g_X11_jars_15 C hQ p0 _ _ hR hw
-- X11_whyWrong
abbrev rm_X11_whyWrong : Room := { frames := 3, cells := 0, slots := 0, locals := 74 }
set_option maxRecDepth 100000 in
set_option maxHeartbeats 4000000 in
theorem g_X11_whyWrong_187 {G : GC} (C : Cx G cX11_whyWrong BIG RX11 7 (some .int) rm_X11_whyWrong shE NE) {Q : Int32 → St → Prop} (hQ : QI G RCE Q) (p0 : Int32) (v4 : Int32) (v5 : Int32) {S : St} (hR : RCE S) (hw : w_X11_whyWrong_187 p0 Q v4 v5 S) : Go G 7 187 [] [(0, .ref (Gad G (0))), (1, .int p0), (4, .int v4), (5, .int v5)] S := by
  unfold w_X11_whyWrong_187 at hw
  refine Go_iload (q := 189) C 2 rfl dX11_whyWrong_187 rfl ?_
  refine Go_if_le (t := 221) (q := 192) C hw dX11_whyWrong_189 rfl rfl (fun hw => ?_) (fun hw => ?_)
  · refine Go_iconst (q := 222) (v := (0 : Int32)) C dX11_whyWrong_221 rfl rfl ?_
    exact Go_iret C hQ hR hw dX11_whyWrong_222
  · refine Go_aload_n (q := 193) C 0 rfl dX11_whyWrong_192 rfl ?_
    refine Go_getA (q := 196) (k := 2) C ci11 iw_11 kE_0 (rE_0_2 hR) rfl wm_2_1 rfl dX11_whyWrong_193 rfl ?_
    refine Go_aload_n (q := 197) C 0 rfl dX11_whyWrong_196 rfl ?_
    refine Go_getA (q := 200) (k := 3) C ci11 iw_11 kE_0 (rE_0_3 hR) rfl wm_2_5 rfl dX11_whyWrong_197 rfl ?_
    refine Go_getAN (q := 203) (k := 0) (host := "EndsRound") C ci2 iw_2 kE_30 (rE2_0 hR isE2_30) rfl nw_43 rfl dX11_whyWrong_200 rfl ?_
    refine Go_iload_n (q := 204) C 1 rfl dX11_whyWrong_203 rfl ?_
    refine Go_iconst (q := 205) (v := (1 : Int32)) C dX11_whyWrong_204 rfl rfl ?_
    refine Go_isub (q := 206) C dX11_whyWrong_205 rfl ?_
    refine Go_callS_I (av := (fun ad => [.ref (ad (31)), .int (p0 - (1 : Int32))])) (st := [.ref (Gad G (21))]) (C := C) (hM := c_X11_cell (Gl G) (ok_ln kE_31) hR hw) (hlk := wm_31_17) (hini := wm_1_2) (hst2 := wm_10_22) (hcode := wm_10_23) (n := 2) (hd := by decide +kernel) (hr0 := ⟨rfl, rfl⟩) (hroom := ⟨by first | decide | (dsimp only; omega), by first | decide | (dsimp only; omega)⟩) (hlen := rfl) (hst := rfl) (hW := Nat.le_of_ble_eq_true rfl) (hdg := dX11_whyWrong_206) (q := 209) (hq := rfl) (fun r206_13 S206_12 hw hR => ?_)
    refine Go_iload (q := 211) C 3 rfl dX11_whyWrong_209 rfl ?_
    refine Go_callV_I (av := (fun ad => [.int r206_13, .int v5])) (st := []) (C := C) (hM := c_X4_forbids (Gl G) isE4_21 hR hw) (hlk := wm_38_21) (hini := wm_2_0) (hins := wm_38_22) (hsel := wm_38_23) (hcode := wm_39_0) (ho := kE_21) (hci := rfl) (hc13 := by decide) (n := 2) (hd := by decide +kernel) (hr0 := ⟨rfl, rfl⟩) (hroom := ⟨by first | decide | (dsimp only; omega), by first | decide | (dsimp only; omega)⟩) (hlen := rfl) (hst := rfl) (hW := Nat.le_of_ble_eq_true rfl) (hdg := dX11_whyWrong_211) (q := 214) (hq := rfl) (fun r211_15 S211_14 hw hR => ?_)
    refine Go_if_eq (t := 221) (q := 217) C hw dX11_whyWrong_214 rfl rfl (fun hw => ?_) (fun hw => ?_)
    · refine Go_iconst (q := 222) (v := (0 : Int32)) C dX11_whyWrong_221 rfl rfl ?_
      exact Go_iret C hQ hR hw dX11_whyWrong_222
    · refine Go_iconst (q := 218) (v := (5 : Int32)) C dX11_whyWrong_217 rfl rfl ?_
      refine Go_goto (q := 222) C dX11_whyWrong_218 rfl ?_
      exact Go_iret C hQ hR hw dX11_whyWrong_222
set_option maxRecDepth 100000 in
set_option maxHeartbeats 4000000 in
theorem g_X11_whyWrong_154 {G : GC} (C : Cx G cX11_whyWrong BIG RX11 7 (some .int) rm_X11_whyWrong shE NE) {Q : Int32 → St → Prop} (hQ : QI G RCE Q) (p0 : Int32) (v4 : Int32) (v5 : Int32) {S : St} (hR : RCE S) (hw : w_X11_whyWrong_154 p0 Q v4 v5 S) : Go G 7 154 [] [(0, .ref (Gad G (0))), (1, .int p0), (4, .int v4), (5, .int v5)] S := by
  unfold w_X11_whyWrong_154 at hw
  refine Go_aload_n (q := 155) C 0 rfl dX11_whyWrong_154 rfl ?_
  refine Go_getA (q := 158) (k := 2) C ci11 iw_11 kE_0 (rE_0_2 hR) rfl wm_2_1 rfl dX11_whyWrong_155 rfl ?_
  refine Go_getIN (q := 161) (k := 4) (host := "EndsRound") C ci4 iw_4 kE_21 rfl nw_18 rfl dX11_whyWrong_158 rfl ?_
  refine Go_if_le (t := 187) (q := 164) C hw dX11_whyWrong_161 rfl rfl (fun hw => ?_) (fun hw => ?_)
  · refine Go_lvp [0, 1, 2, 3] rfl ?_
    exact g_X11_whyWrong_187 C hQ p0 _ _ hR hw
  · refine Go_aload_n (q := 165) C 0 rfl dX11_whyWrong_164 rfl ?_
    refine Go_getA (q := 168) (k := 3) C ci11 iw_11 kE_0 (rE_0_3 hR) rfl wm_2_5 rfl dX11_whyWrong_165 rfl ?_
    refine Go_getAN (q := 171) (k := 2) (host := "EndsRound") C ci2 iw_2 kE_30 (rE2_2 hR isE2_30) rfl nw_45 rfl dX11_whyWrong_168 rfl ?_
    refine Go_iload_n (q := 172) C 1 rfl dX11_whyWrong_171 rfl ?_
    refine Go_callS_I (av := (fun ad => [.ref (ad (33)), .int p0])) (st := []) (C := C) (hM := c_X11_cell (Gl G) (ok_ln kE_33) hR hw) (hlk := wm_31_17) (hini := wm_1_2) (hst2 := wm_10_22) (hcode := wm_10_23) (n := 2) (hd := by decide +kernel) (hr0 := ⟨rfl, rfl⟩) (hroom := ⟨by first | decide | (dsimp only; omega), by first | decide | (dsimp only; omega)⟩) (hlen := rfl) (hst := rfl) (hW := Nat.le_of_ble_eq_true rfl) (hdg := dX11_whyWrong_172) (q := 175) (hq := rfl) (fun r172_17 S172_16 hw hR => ?_)
    refine Go_aload_n (q := 176) C 0 rfl dX11_whyWrong_175 rfl ?_
    refine Go_getA (q := 179) (k := 2) C ci11 iw_11 kE_0 (rE_0_2 hR) rfl wm_2_1 rfl dX11_whyWrong_176 rfl ?_
    refine Go_getIN (q := 182) (k := 4) (host := "EndsRound") C ci4 iw_4 kE_21 rfl nw_18 rfl dX11_whyWrong_179 rfl ?_
    refine Go_icmp_eq (t := 187) (q := 185) C hw dX11_whyWrong_182 rfl rfl (fun hw => ?_) (fun hw => ?_)
    · refine Go_lvp [0, 1, 2, 3] rfl ?_
      exact g_X11_whyWrong_187 C hQ p0 _ _ hR hw
    · refine Go_iconst (q := 186) (v := (4 : Int32)) C dX11_whyWrong_185 rfl rfl ?_
      exact Go_iret C hQ hR hw dX11_whyWrong_186
set_option maxRecDepth 100000 in
set_option maxHeartbeats 4000000 in
theorem g_X11_whyWrong_100 {G : GC} (C : Cx G cX11_whyWrong BIG RX11 7 (some .int) rm_X11_whyWrong shE NE) {Q : Int32 → St → Prop} (hQ : QI G RCE Q) (p0 : Int32) (v3 : Int32) (v4 : Int32) (v5 : Int32) {S : St} (hR : RCE S) (hw : w_X11_whyWrong_100 p0 Q v3 v4 v5 S) : Go G 7 100 [] [(0, .ref (Gad G (0))), (1, .int p0), (3, .int v3), (4, .int v4), (5, .int v5)] S := by
  unfold w_X11_whyWrong_100 at hw
  refine Go_aload_n (q := 101) C 0 rfl dX11_whyWrong_100 rfl ?_
  refine Go_getA (q := 104) (k := 2) C ci11 iw_11 kE_0 (rE_0_2 hR) rfl wm_2_1 rfl dX11_whyWrong_101 rfl ?_
  refine Go_getAN (q := 107) (k := 9) (host := "EndsRound") C ci4 iw_4 kE_21 (rE4_9 hR isE4_21) rfl nw_33 rfl dX11_whyWrong_104 rfl ?_
  refine Go_iload (q := 109) C 3 rfl dX11_whyWrong_107 rfl ?_
  refine Go_callS_I (av := (fun ad => [.ref (ad (24)), .int v4])) (st := []) (C := C) (hM := c_X11_cell (Gl G) (ok_ln kE_24) hR hw) (hlk := wm_31_17) (hini := wm_1_2) (hst2 := wm_10_22) (hcode := wm_10_23) (n := 2) (hd := by decide +kernel) (hr0 := ⟨rfl, rfl⟩) (hroom := ⟨by first | decide | (dsimp only; omega), by first | decide | (dsimp only; omega)⟩) (hlen := rfl) (hst := rfl) (hW := Nat.le_of_ble_eq_true rfl) (hdg := dX11_whyWrong_109) (q := 112) (hq := rfl) (fun r109_11 S109_10 hw hR => ?_)
  refine Go_istore (q := 114) (lv' := [(6, .int r109_11), (0, .ref (Gad G (0))), (1, .int p0), (3, .int v3), (4, .int v4), (5, .int v5)]) C dX11_whyWrong_112 (by decide) rfl rfl ?_
  refine Go_iload (q := 116) C 0 rfl dX11_whyWrong_114 rfl ?_
  refine Go_if_le (t := 154) (q := 119) C hw dX11_whyWrong_116 rfl rfl (fun hw => ?_) (fun hw => ?_)
  · refine Go_lvp [1, 2, 4, 5] rfl ?_
    exact g_X11_whyWrong_154 C hQ p0 _ _ hR hw
  · refine Go_iload_n (q := 120) C 3 rfl dX11_whyWrong_119 rfl ?_
    refine Go_iload (q := 122) C 0 rfl dX11_whyWrong_120 rfl ?_
    obtain ⟨hne, hw⟩ := hw
    refine Go_irem (q := 123) C hne dX11_whyWrong_122 rfl ?_
    refine Go_if_ne (t := 154) (q := 126) C hw dX11_whyWrong_123 rfl rfl (fun hw => ?_) (fun hw => ?_)
    · refine Go_aload_n (q := 127) C 1 rfl dX11_whyWrong_126 rfl ?_
      refine Go_getA (q := 130) (k := 3) C ci11 iw_11 kE_0 (rE_0_3 hR) rfl wm_2_5 rfl dX11_whyWrong_127 rfl ?_
      refine Go_getAN (q := 133) (k := 1) (host := "EndsRound") C ci2 iw_2 kE_30 (rE2_1 hR isE2_30) rfl nw_44 rfl dX11_whyWrong_130 rfl ?_
      refine Go_iload_n (q := 134) C 2 rfl dX11_whyWrong_133 rfl ?_
      refine Go_callS_I (av := (fun ad => [.ref (ad (32)), .int p0])) (st := []) (C := C) (hM := c_X11_cell (Gl G) (ok_ln kE_32) hR hw) (hlk := wm_31_17) (hini := wm_1_2) (hst2 := wm_10_22) (hcode := wm_10_23) (n := 2) (hd := by decide +kernel) (hr0 := ⟨rfl, rfl⟩) (hroom := ⟨by first | decide | (dsimp only; omega), by first | decide | (dsimp only; omega)⟩) (hlen := rfl) (hst := rfl) (hW := Nat.le_of_ble_eq_true rfl) (hdg := dX11_whyWrong_134) (q := 137) (hq := rfl) (fun r134_19 S134_18 hw hR => ?_)
      refine Go_aload_n (q := 138) C 1 rfl dX11_whyWrong_137 rfl ?_
      refine Go_getA (q := 141) (k := 3) C ci11 iw_11 kE_0 (rE_0_3 hR) rfl wm_2_5 rfl dX11_whyWrong_138 rfl ?_
      refine Go_getAN (q := 144) (k := 1) (host := "EndsRound") C ci2 iw_2 kE_30 (rE2_1 hR isE2_30) rfl nw_44 rfl dX11_whyWrong_141 rfl ?_
      refine Go_iload (q := 146) C 4 rfl dX11_whyWrong_144 rfl ?_
      refine Go_callS_I (av := (fun ad => [.ref (ad (32)), .int v4])) (st := [.int r134_19]) (C := C) (hM := c_X11_cell (Gl G) (ok_ln kE_32) hR hw) (hlk := wm_31_17) (hini := wm_1_2) (hst2 := wm_10_22) (hcode := wm_10_23) (n := 2) (hd := by decide +kernel) (hr0 := ⟨rfl, rfl⟩) (hroom := ⟨by first | decide | (dsimp only; omega), by first | decide | (dsimp only; omega)⟩) (hlen := rfl) (hst := rfl) (hW := Nat.le_of_ble_eq_true rfl) (hdg := dX11_whyWrong_146) (q := 149) (hq := rfl) (fun r146_21 S146_20 hw hR => ?_)
      refine Go_icmp_eq (t := 154) (q := 152) C hw dX11_whyWrong_149 rfl rfl (fun hw => ?_) (fun hw => ?_)
      · refine Go_lvp [1, 2, 4, 5] rfl ?_
        exact g_X11_whyWrong_154 C hQ p0 _ _ hR hw
      · refine Go_iconst (q := 153) (v := (3 : Int32)) C dX11_whyWrong_152 rfl rfl ?_
        exact Go_iret C hQ hR hw dX11_whyWrong_153
    · refine Go_lvp [1, 2, 4, 5] rfl ?_
      exact g_X11_whyWrong_154 C hQ p0 _ _ hR hw
set_option maxRecDepth 100000 in
set_option maxHeartbeats 4000000 in
theorem g_X11_whyWrong_83 {G : GC} (C : Cx G cX11_whyWrong BIG RX11 7 (some .int) rm_X11_whyWrong shE NE) {Q : Int32 → St → Prop} (hQ : QI G RCE Q) (p0 : Int32) (v3 : Int32) (v4 : Int32) (v5 : Int32) {S : St} (hR : RCE S) (hw : w_X11_whyWrong_83 p0 Q v3 v4 v5 S) : Go G 7 83 [] [(0, .ref (Gad G (0))), (1, .int p0), (3, .int v3), (4, .int v4), (5, .int v5)] S := by
  unfold w_X11_whyWrong_83 at hw
  refine Go_iload_n (q := 84) C 2 rfl dX11_whyWrong_83 rfl ?_
  refine Go_if_ne (t := 100) (q := 87) C hw dX11_whyWrong_84 rfl rfl (fun hw => ?_) (fun hw => ?_)
  · refine Go_aload_n (q := 88) C 0 rfl dX11_whyWrong_87 rfl ?_
    refine Go_iload (q := 90) C 3 rfl dX11_whyWrong_88 rfl ?_
    refine Go_iload (q := 92) C 4 rfl dX11_whyWrong_90 rfl ?_
    refine Go_callV_I (av := (fun ad => [.int v4, .int v5])) (st := []) (C := C) (hM := c_X11_jars (Gl G) hR hw) (hlk := wm_45_1) (hini := wm_1_2) (hins := wm_45_2) (hsel := wm_45_3) (hcode := wm_45_4) (ho := kE_0) (hci := rfl) (hc13 := by decide) (n := 2) (hd := by decide +kernel) (hr0 := ⟨rfl, rfl⟩) (hroom := ⟨by first | decide | (dsimp only; omega), by first | decide | (dsimp only; omega)⟩) (hlen := rfl) (hst := rfl) (hW := Nat.le_of_ble_eq_true rfl) (hdg := dX11_whyWrong_92) (q := 95) (hq := rfl) (fun r92_9 S92_8 hw hR => ?_)
    refine Go_if_eq (t := 100) (q := 98) C hw dX11_whyWrong_95 rfl rfl (fun hw => ?_) (fun hw => ?_)
    · refine Go_lvp [0, 1, 2, 3, 4] rfl ?_
      exact g_X11_whyWrong_100 C hQ p0 _ _ _ hR hw
    · refine Go_iconst (q := 99) (v := (2 : Int32)) C dX11_whyWrong_98 rfl rfl ?_
      exact Go_iret C hQ hR hw dX11_whyWrong_99
  · refine Go_lvp [0, 1, 2, 3, 4] rfl ?_
    exact g_X11_whyWrong_100 C hQ p0 _ _ _ hR hw
set_option maxRecDepth 100000 in
set_option maxHeartbeats 4000000 in
theorem c_X11_whyWrong (l : Launch) {p0 : Int32} {S : St} {Q : Int32 → St → Prop} (hR : RCE S) (hw : w_X11_whyWrong p0 S Q) : MetI l yX11_whyWrong (wB yX11_whyWrong cX11_whyWrong 7 (some .int)) rm_X11_whyWrong shE NE RCE (fun ad => [.ref (ad (0)), .int p0]) S Q := by
  refine MetI_of (cc := cX11_whyWrong) (maxL := 7) (ret := (some .int)) (plainFor_of_name (by decide)) (fun _ => Nat.le_of_ble_eq_true rfl) (fun G C hl hQ => ?_)
  subst hl
  have C : Cx G cX11_whyWrong BIG RX11 7 (some .int) rm_X11_whyWrong shE NE := C
  show Go G 7 0 [] [(0, .ref (Gad G (0))), (1, .int p0)] S
  unfold w_X11_whyWrong at hw
  refine Go_aload_n (q := 1) C 0 rfl dX11_whyWrong_0 rfl ?_
  refine Go_getA (q := 4) (k := 2) C ci11 iw_11 kE_0 (rE_0_2 hR) rfl wm_2_1 rfl dX11_whyWrong_1 rfl ?_
  refine Go_getIN (q := 7) (k := 0) (host := "EndsRound") C ci4 iw_4 kE_21 rfl nw_11 rfl dX11_whyWrong_4 rfl ?_
  refine Go_topi (fun x7_1 e_x7_1 => ?_)
  have hw := hw x7_1 e_x7_1
  refine Go_istore_n (q := 8) (lv' := [(2, .int x7_1), (0, .ref (Gad G (0))), (1, .int p0)]) C rfl dX11_whyWrong_7 (by decide) rfl rfl ?_
  refine Go_iload_n (q := 9) C 0 rfl dX11_whyWrong_8 rfl ?_
  refine Go_iconst (q := 10) (v := (1 : Int32)) C dX11_whyWrong_9 rfl rfl ?_
  refine Go_icmp_ge (t := 15) (q := 13) C hw dX11_whyWrong_10 rfl rfl (fun hw => ?_) (fun hw => ?_)
  · refine Go_iload_n (q := 16) C 2 rfl dX11_whyWrong_15 rfl ?_
    refine Go_iload_n (q := 17) C 0 rfl dX11_whyWrong_16 rfl ?_
    obtain ⟨hne, hw⟩ := hw
    refine Go_idiv (q := 18) C hne dX11_whyWrong_17 rfl ?_
    refine Go_topi (fun x18_2 e_x18_2 => ?_)
    have hw := hw x18_2 e_x18_2
    refine Go_istore_n (q := 19) (lv' := [(3, .int x18_2), (2, .int x7_1), (0, .ref (Gad G (0))), (1, .int p0)]) C rfl dX11_whyWrong_18 (by decide) rfl rfl ?_
    refine Go_iload_n (q := 20) C 3 rfl dX11_whyWrong_19 rfl ?_
    refine Go_iload_n (q := 21) C 1 rfl dX11_whyWrong_20 rfl ?_
    obtain ⟨hne, hw⟩ := hw
    refine Go_irem (q := 22) C hne dX11_whyWrong_21 rfl ?_
    refine Go_topi (fun x22_3 e_x22_3 => ?_)
    have hw := hw x22_3 e_x22_3
    refine Go_istore (q := 24) (lv' := [(4, .int x22_3), (3, .int x18_2), (2, .int x7_1), (0, .ref (Gad G (0))), (1, .int p0)]) C dX11_whyWrong_22 (by decide) rfl rfl ?_
    refine Go_aload_n (q := 25) C 3 rfl dX11_whyWrong_24 rfl ?_
    refine Go_getA (q := 28) (k := 3) C ci11 iw_11 kE_0 (rE_0_3 hR) rfl wm_2_5 rfl dX11_whyWrong_25 rfl ?_
    refine Go_getAN (q := 31) (k := 0) (host := "EndsRound") C ci2 iw_2 kE_30 (rE2_0 hR isE2_30) rfl nw_43 rfl dX11_whyWrong_28 rfl ?_
    refine Go_iload_n (q := 32) C 4 rfl dX11_whyWrong_31 rfl ?_
    refine Go_callS_I (av := (fun ad => [.ref (ad (31)), .int p0])) (st := []) (C := C) (hM := c_X11_cell (Gl G) (ok_ln kE_31) hR hw) (hlk := wm_31_17) (hini := wm_1_2) (hst2 := wm_10_22) (hcode := wm_10_23) (n := 2) (hd := by decide +kernel) (hr0 := ⟨rfl, rfl⟩) (hroom := ⟨by first | decide | (dsimp only; omega), by first | decide | (dsimp only; omega)⟩) (hlen := rfl) (hst := rfl) (hW := Nat.le_of_ble_eq_true rfl) (hdg := dX11_whyWrong_32) (q := 35) (hq := rfl) (fun r32_5 S32_4 hw hR => ?_)
    refine Go_istore (q := 37) (lv' := [(5, .int r32_5), (4, .int x22_3), (3, .int x18_2), (2, .int x7_1), (0, .ref (Gad G (0))), (1, .int p0)]) C dX11_whyWrong_35 (by decide) rfl rfl ?_
    refine Go_iload_n (q := 38) C 2 rfl dX11_whyWrong_37 rfl ?_
    refine Go_if_ne (t := 55) (q := 41) C hw dX11_whyWrong_38 rfl rfl (fun hw => ?_) (fun hw => ?_)
    · refine Go_aload_n (q := 42) C 4 rfl dX11_whyWrong_41 rfl ?_
      refine Go_iload (q := 44) C 1 rfl dX11_whyWrong_42 rfl ?_
      refine Go_iload (q := 46) C 0 rfl dX11_whyWrong_44 rfl ?_
      refine Go_callV_I (av := (fun ad => [.int x22_3, .int r32_5])) (st := []) (C := C) (hM := c_X11_isRepeated (Gl G)  hR hw) (hlk := wm_44_21) (hini := wm_1_2) (hins := wm_44_22) (hsel := wm_44_23) (hcode := wm_45_0) (ho := kE_0) (hci := rfl) (hc13 := by decide) (n := 2) (hd := by decide +kernel) (hr0 := ⟨rfl, rfl⟩) (hroom := ⟨by first | decide | (dsimp only; omega), by first | decide | (dsimp only; omega)⟩) (hlen := rfl) (hst := rfl) (hW := Nat.le_of_ble_eq_true rfl) (hdg := dX11_whyWrong_46) (q := 49) (hq := rfl) (fun r46_7 S46_6 hw hR => ?_)
      refine Go_if_eq (t := 83) (q := 52) C hw dX11_whyWrong_49 rfl rfl (fun hw => ?_) (fun hw => ?_)
      · refine Go_lvp [4, 5, 2, 1, 0] rfl ?_
        exact g_X11_whyWrong_83 C hQ p0 _ _ _ hR hw
      · refine Go_goto (q := 81) C dX11_whyWrong_52 rfl ?_
        refine Go_iconst (q := 82) (v := (1 : Int32)) C dX11_whyWrong_81 rfl rfl ?_
        exact Go_iret C hQ hR hw dX11_whyWrong_82
    · refine Go_iload (q := 57) C 0 rfl dX11_whyWrong_55 rfl ?_
      refine Go_aload_n (q := 58) C 4 rfl dX11_whyWrong_57 rfl ?_
      refine Go_getA (q := 61) (k := 3) C ci11 iw_11 kE_0 (rE_0_3 hR) rfl wm_2_5 rfl dX11_whyWrong_58 rfl ?_
      refine Go_getAN (q := 64) (k := 0) (host := "EndsRound") C ci2 iw_2 kE_30 (rE2_0 hR isE2_30) rfl nw_43 rfl dX11_whyWrong_61 rfl ?_
      refine Go_aload_n (q := 65) C 4 rfl dX11_whyWrong_64 rfl ?_
      refine Go_getA (q := 68) (k := 4) C ci11 iw_11 kE_0 (rE_0_4 hR) rfl wm_2_9 rfl dX11_whyWrong_65 rfl ?_
      refine Go_iload_n (q := 69) C 2 rfl dX11_whyWrong_68 rfl ?_
      refine Go_i2l (q := 70) C dX11_whyWrong_69 rfl ?_
      refine Go_iload (q := 72) C 1 rfl dX11_whyWrong_70 rfl ?_
      refine Go_callV_I (av := (fun ad => [.long ((x18_2).toInt64), .int x22_3])) (st := [.ref (Gad G (31)), .int r32_5]) (C := C) (hM := c_X9_endAt (Gl G)  hR hw) (hlk := wm_32_18) (hini := wm_2_8) (hins := wm_32_19) (hsel := wm_32_20) (hcode := wm_32_21) (ho := kE_34) (hci := rfl) (hc13 := by decide) (n := 2) (hd := by decide +kernel) (hr0 := ⟨rfl, rfl⟩) (hroom := ⟨by first | decide | (dsimp only; omega), by first | decide | (dsimp only; omega)⟩) (hlen := rfl) (hst := rfl) (hW := Nat.le_of_ble_eq_true rfl) (hdg := dX11_whyWrong_72) (q := 75) (hq := rfl) (fun r72_23 S72_22 hw hR => ?_)
      refine Go_callS_I (av := (fun ad => [.ref (ad (31)), .int r72_23])) (st := [.int r32_5]) (C := C) (hM := c_X11_cell (Gl G) (ok_ln kE_31) hR hw) (hlk := wm_31_17) (hini := wm_1_2) (hst2 := wm_10_22) (hcode := wm_10_23) (n := 2) (hd := by decide +kernel) (hr0 := ⟨rfl, rfl⟩) (hroom := ⟨by first | decide | (dsimp only; omega), by first | decide | (dsimp only; omega)⟩) (hlen := rfl) (hst := rfl) (hW := Nat.le_of_ble_eq_true rfl) (hdg := dX11_whyWrong_75) (q := 78) (hq := rfl) (fun r75_25 S75_24 hw hR => ?_)
      refine Go_icmp_eq (t := 83) (q := 81) C hw dX11_whyWrong_78 rfl rfl (fun hw => ?_) (fun hw => ?_)
      · refine Go_lvp [4, 5, 2, 1, 0] rfl ?_
        exact g_X11_whyWrong_83 C hQ p0 _ _ _ hR hw
      · refine Go_iconst (q := 82) (v := (1 : Int32)) C dX11_whyWrong_81 rfl rfl ?_
        exact Go_iret C hQ hR hw dX11_whyWrong_82
  · refine Go_iconst (q := 14) (v := (0 : Int32)) C dX11_whyWrong_13 rfl rfl ?_
    exact Go_iret C hQ hR hw dX11_whyWrong_14
