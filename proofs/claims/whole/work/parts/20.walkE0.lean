-- X10_addSign
abbrev rm_X10_addSign : Room := { frames := 0, cells := 0, slots := 0, locals := 0 }
set_option maxRecDepth 100000 in
set_option maxHeartbeats 4000000 in
theorem g_X10_addSign_23 {G : GC} (C : Cx G cX10_addSign BIG RX10 3 none rm_X10_addSign shE NE) {Q : St → Prop} (hQ : QV G RCE Q) (p0 : Int32) (t0 : Int32) {S : St} (hR : RCE S) (hw : w_X10_addSign_23 p0 Q t0 S) : Go G 3 23 [.int t0] [(0, .ref (Gad G (1))), (1, .int p0)] S := by
  unfold w_X10_addSign_23 at hw
  refine Go_istore_n (q := 24) (lv' := [(2, .int t0), (0, .ref (Gad G (1))), (1, .int p0)]) C rfl dX10_addSign_23 (by decide) rfl rfl ?_
  refine Go_iload_n (q := 25) C 0 rfl dX10_addSign_24 rfl ?_
  refine Go_if_eq (t := 68) (q := 28) C hw dX10_addSign_25 rfl rfl (fun hw => ?_) (fun hw => ?_)
  · exact Go_vret C hQ hR hw dX10_addSign_68
  · refine Go_aload_n (q := 29) C 1 rfl dX10_addSign_28 rfl ?_
    refine Go_getI (q := 32) (k := 5) C ci10 iw_10 kE_1 rfl wm_15_9 rfl dX10_addSign_29 rfl ?_
    refine Go_if_lt (t := 68) (q := 35) C hw dX10_addSign_32 rfl rfl (fun hw => ?_) (fun hw => ?_)
    · exact Go_vret C hQ hR hw dX10_addSign_68
    · refine Go_aload_n (q := 36) C 1 rfl dX10_addSign_35 rfl ?_
      refine Go_getI (q := 39) (k := 5) C ci10 iw_10 kE_1 rfl wm_15_9 rfl dX10_addSign_36 rfl ?_
      refine Go_aload_n (q := 40) C 1 rfl dX10_addSign_39 rfl ?_
      refine Go_getA (q := 43) (k := 0) C ci10 iw_10 kE_1 (rE_1_0 hR) rfl wm_3_13 rfl dX10_addSign_40 rfl ?_
      refine Go_alen2 (q := 44) (v := (1000 : Int32)) C kE_2 (by decide) rfl dX10_addSign_43 rfl ?_
      refine Go_icmp_ge (t := 68) (q := 47) C hw dX10_addSign_44 rfl rfl (fun hw => ?_) (fun hw => ?_)
      · exact Go_vret C hQ hR hw dX10_addSign_68
      · refine Go_aload_n (q := 48) C 1 rfl dX10_addSign_47 rfl ?_
        refine Go_getA (q := 51) (k := 0) C ci10 iw_10 kE_1 (rE_1_0 hR) rfl wm_3_13 rfl dX10_addSign_48 rfl ?_
        refine Go_aload_n (q := 52) C 1 rfl dX10_addSign_51 rfl ?_
        refine Go_getI (q := 55) (k := 5) C ci10 iw_10 kE_1 rfl wm_15_9 rfl dX10_addSign_52 rfl ?_
        refine Go_iload_n (q := 56) C 2 rfl dX10_addSign_55 rfl ?_
        refine Go_i2c (q := 57) C dX10_addSign_56 rfl ?_
        obtain ⟨hin, hw⟩ := hw
        refine Go_castore (q := 58) C kE_2 hin dX10_addSign_57 rfl ?_
        refine Go_S (fun S57_1 e_S57_1 => ?_)
        have hw := hw S57_1 e_S57_1
        have hR := rcE e_S57_1 hR
        refine Go_aload_n (q := 59) C 1 rfl dX10_addSign_58 rfl ?_
        refine Go_dup (q := 60) C rfl dX10_addSign_59 rfl ?_
        refine Go_getI (q := 63) (k := 5) C ci10 iw_10 kE_1 rfl wm_15_9 rfl dX10_addSign_60 rfl ?_
        refine Go_iconst (q := 64) (v := (1 : Int32)) C dX10_addSign_63 rfl rfl ?_
        refine Go_iadd (q := 65) C dX10_addSign_64 rfl ?_
        refine Go_putI (q := 68) (k := 5) C ci10 iw_10 kE_1 rfl wm_15_9 rfl rfl (ci10.2.2.2.1 5 (by decide)) rfl rfl dX10_addSign_65 rfl ?_
        refine Go_S (fun S65_2 e_S65_2 => ?_)
        have hw := hw S65_2 e_S65_2
        have hR := rcE e_S65_2 hR
        exact Go_vret C hQ hR hw dX10_addSign_68
set_option maxRecDepth 100000 in
set_option maxHeartbeats 4000000 in
theorem g_X10_addSign_18 {G : GC} (C : Cx G cX10_addSign BIG RX10 3 none rm_X10_addSign shE NE) {Q : St → Prop} (hQ : QV G RCE Q) (p0 : Int32) {S : St} (hR : RCE S) (hw : w_X10_addSign_18 p0 Q S) : Go G 3 18 [] [(0, .ref (Gad G (1))), (1, .int p0)] S := by
  unfold w_X10_addSign_18 at hw
  refine Go_iconst (q := 19) (v := (1 : Int32)) C dX10_addSign_18 rfl rfl ?_
  refine Go_goto (q := 23) C dX10_addSign_19 rfl ?_
  refine Go_lvp [0, 1] rfl ?_
  exact g_X10_addSign_23 C hQ p0 _ hR hw
set_option maxRecDepth 100000 in
set_option maxHeartbeats 4000000 in
theorem g_X10_addSign_22 {G : GC} (C : Cx G cX10_addSign BIG RX10 3 none rm_X10_addSign shE NE) {Q : St → Prop} (hQ : QV G RCE Q) (p0 : Int32) {S : St} (hR : RCE S) (hw : w_X10_addSign_22 p0 Q S) : Go G 3 22 [] [(0, .ref (Gad G (1))), (1, .int p0)] S := by
  unfold w_X10_addSign_22 at hw
  refine Go_iconst (q := 23) (v := (0 : Int32)) C dX10_addSign_22 rfl rfl ?_
  refine Go_lvp [0, 1] rfl ?_
  exact g_X10_addSign_23 C hQ p0 _ hR hw
set_option maxRecDepth 100000 in
set_option maxHeartbeats 4000000 in
theorem c_X10_addSign (l : Launch) {p0 : Int32} {S : St} {Q : St → Prop} (hR : RCE S) (hw : w_X10_addSign p0 S Q) : MetV l yX10_addSign (wB yX10_addSign cX10_addSign 3 none) rm_X10_addSign shE NE RCE (fun ad => [.ref (ad (1)), .int p0]) S Q := by
  refine MetV_of (cc := cX10_addSign) (maxL := 3) (ret := none) (plainFor_of_name (by decide)) (fun _ => Nat.le_of_ble_eq_true rfl) (fun G C hl hQ => ?_)
  subst hl
  have C : Cx G cX10_addSign BIG RX10 3 none rm_X10_addSign shE NE := C
  show Go G 3 0 [] [(0, .ref (Gad G (1))), (1, .int p0)] S
  unfold w_X10_addSign at hw
  refine Go_iload_n (q := 1) C 1 rfl dX10_addSign_0 rfl ?_
  refine Go_bipush (q := 3) (v := (10 : Int32)) C dX10_addSign_1 rfl rfl ?_
  refine Go_icmp_eq (t := 18) (q := 6) C hw dX10_addSign_3 rfl rfl (fun hw => ?_) (fun hw => ?_)
  · refine Go_lvp [0, 1] rfl ?_
    exact g_X10_addSign_18 C hQ p0 hR hw
  · refine Go_iload_n (q := 7) C 1 rfl dX10_addSign_6 rfl ?_
    refine Go_bipush (q := 9) (v := (32 : Int32)) C dX10_addSign_7 rfl rfl ?_
    refine Go_icmp_lt (t := 22) (q := 12) C hw dX10_addSign_9 rfl rfl (fun hw => ?_) (fun hw => ?_)
    · refine Go_lvp [0, 1] rfl ?_
      exact g_X10_addSign_22 C hQ p0 hR hw
    · refine Go_iload_n (q := 13) C 1 rfl dX10_addSign_12 rfl ?_
      refine Go_bipush (q := 15) (v := (126 : Int32)) C dX10_addSign_13 rfl rfl ?_
      refine Go_icmp_gt (t := 22) (q := 18) C hw dX10_addSign_15 rfl rfl (fun hw => ?_) (fun hw => ?_)
      · refine Go_lvp [0, 1] rfl ?_
        exact g_X10_addSign_22 C hQ p0 hR hw
      · refine Go_lvp [0, 1] rfl ?_
        exact g_X10_addSign_18 C hQ p0 hR hw
-- X10_addBytes
abbrev rm_X10_addBytes : Room := { frames := 1, cells := 0, slots := 0, locals := 22 }
set_option maxRecDepth 100000 in
set_option maxHeartbeats 4000000 in
theorem g_X10_addBytes_3 {G : GC} (C : Cx G cX10_addBytes BIG RX10 4 none rm_X10_addBytes shE NE) {Q : St → Prop} (hQ : QV G RCE Q) (p0 : Int64) (v3 : Int32) {S : St} (hR : RCE S) (hw : w_X10_addBytes_3 p0 Q v3 S) : Go G 4 3 [] [(0, .ref (Gad G (1))), (1, .long p0), (3, .int v3)] S := by
  obtain ⟨n, hw⟩ := hw
  induction n generalizing v3 S with
  | zero => exact hw.elim
  | succ n ih =>
    have hw : b_X10_addBytes_3 p0 Q (lpn (fun _ _ => False) (b_X10_addBytes_3 p0 Q) n) v3 S := hw
    generalize lpn (fun _ _ => False) (b_X10_addBytes_3 p0 Q) n = kf at hw ih
    have hk3 := fun (v3 : Int32) (S : St) (hR : RCE S) hw => ih v3 hR hw
    unfold b_X10_addBytes_3 at hw
    refine Go_iload_n (q := 4) C 2 rfl dX10_addBytes_3 rfl ?_
    refine Go_if_lt (t := 25) (q := 7) C hw dX10_addBytes_4 rfl rfl (fun hw => ?_) (fun hw => ?_)
    · exact Go_vret C hQ hR hw dX10_addBytes_25
    · refine Go_aload_n (q := 8) C 0 rfl dX10_addBytes_7 rfl ?_
      refine Go_lload_n (q := 9) C 1 rfl dX10_addBytes_8 rfl ?_
      refine Go_iload_n (q := 10) C 2 rfl dX10_addBytes_9 rfl ?_
      refine Go_lushr (q := 11) C dX10_addBytes_10 rfl ?_
      refine Go_l2i (q := 12) C dX10_addBytes_11 rfl ?_
      refine Go_sipush (q := 15) (v := (255 : Int32)) C dX10_addBytes_12 rfl rfl ?_
      refine Go_iand (q := 16) C dX10_addBytes_15 rfl ?_
      refine Go_callV_V (av := (fun ad => [.int (((((p0).toUInt64 >>> ((v3).toInt64.toUInt64 &&& Int64.toUInt64 63)).toInt64).toInt32) &&& (255 : Int32))])) (st := []) (C := C) (hM := c_X10_addSign (Gl G) hR hw) (hlk := wm_15_5) (hini := wm_1_16) (hins := wm_15_6) (hsel := wm_15_7) (hcode := wm_15_8) (ho := kE_1) (hci := rfl) (hc13 := by decide) (n := 1) (hd := by decide +kernel) (hr0 := ⟨rfl, rfl⟩) (hroom := ⟨by first | decide | (dsimp only; omega), by first | decide | (dsimp only; omega)⟩) (hlen := rfl) (hst := rfl) (hW := Nat.le_of_ble_eq_true rfl) (hdg := dX10_addBytes_16) (q := 19) (hq := rfl) (fun S16_1 hw hR => ?_)
      refine Go_iinc2 (q := 22) (kp := 2) (cst := (-8 : Int32)) C dX10_addBytes_19 rfl rfl (by decide) rfl (fun x19_2 e_x19_2 => ?_)
      have hw := hw x19_2 e_x19_2
      refine Go_lve (lv' := [(3, .int x19_2), (0, .ref (Gad G (1))), (1, .long p0)]) rfl ?_
      refine Go_goto (q := 3) C dX10_addBytes_22 rfl ?_
      refine Go_lvp [1, 2, 0] rfl ?_
      exact hk3 _ _ hR hw
set_option maxRecDepth 100000 in
set_option maxHeartbeats 4000000 in
theorem c_X10_addBytes (l : Launch) {p0 : Int64} {S : St} {Q : St → Prop} (hR : RCE S) (hw : w_X10_addBytes p0 S Q) : MetV l yX10_addBytes (wB yX10_addBytes cX10_addBytes 4 none) rm_X10_addBytes shE NE RCE (fun ad => [.ref (ad (1)), .long p0]) S Q := by
  refine MetV_of (cc := cX10_addBytes) (maxL := 4) (ret := none) (plainFor_of_name (by decide)) (fun _ => Nat.le_of_ble_eq_true rfl) (fun G C hl hQ => ?_)
  subst hl
  have C : Cx G cX10_addBytes BIG RX10 4 none rm_X10_addBytes shE NE := C
  show Go G 4 0 [] [(0, .ref (Gad G (1))), (1, .long p0)] S
  unfold w_X10_addBytes at hw
  refine Go_bipush (q := 2) (v := (56 : Int32)) C dX10_addBytes_0 rfl rfl ?_
  refine Go_istore_n (q := 3) (lv' := [(3, .int (56 : Int32)), (0, .ref (Gad G (1))), (1, .long p0)]) C rfl dX10_addBytes_2 (by decide) rfl rfl ?_
  refine Go_lvp [1, 2, 0] rfl ?_
  exact g_X10_addBytes_3 C hQ p0 _ hR hw
-- X11_feed
abbrev rm_X11_feed : Room := { frames := 2, cells := 0, slots := 0, locals := 45 }
set_option maxRecDepth 100000 in
set_option maxHeartbeats 4000000 in
theorem c_X11_feed (l : Launch) {p0 : Int64} {p1 : Int64} {p2 : Int64} {S : St} {Q : Int32 → St → Prop} (hR : RCE S) (hw : w_X11_feed p0 p1 p2 S Q) : MetI l yX11_feed (wB yX11_feed cX11_feed 7 (some .int)) rm_X11_feed shE NE RCE (fun ad => [.ref (ad (0)), .long p0, .long p1, .long p2]) S Q := by
  refine MetI_of (cc := cX11_feed) (maxL := 7) (ret := (some .int)) (plainFor_of_name (by decide)) (fun _ => Nat.le_of_ble_eq_true rfl) (fun G C hl hQ => ?_)
  subst hl
  have C : Cx G cX11_feed BIG RX11 7 (some .int) rm_X11_feed shE NE := C
  show Go G 7 0 [] [(0, .ref (Gad G (0))), (1, .long p0), (3, .long p1), (5, .long p2)] S
  unfold w_X11_feed at hw
  refine Go_aload_n (q := 1) C 0 rfl dX11_feed_0 rfl ?_
  refine Go_getA (q := 4) (k := 0) C ci11 iw_11 kE_0 (rE_0_0 hR) rfl wm_1_17 rfl dX11_feed_1 rfl ?_
  refine Go_lload_n (q := 5) C 1 rfl dX11_feed_4 rfl ?_
  refine Go_callV_V (av := (fun ad => [.long p0])) (st := []) (C := C) (hM := c_X10_addBytes (Gl G)  hR hw) (hlk := wm_15_1) (hini := wm_1_16) (hins := wm_15_2) (hsel := wm_15_3) (hcode := wm_15_4) (ho := kE_1) (hci := rfl) (hc13 := by decide) (n := 1) (hd := by decide +kernel) (hr0 := ⟨rfl, rfl⟩) (hroom := ⟨by first | decide | (dsimp only; omega), by first | decide | (dsimp only; omega)⟩) (hlen := rfl) (hst := rfl) (hW := Nat.le_of_ble_eq_true rfl) (hdg := dX11_feed_5) (q := 8) (hq := rfl) (fun S5_1 hw hR => ?_)
  refine Go_aload_n (q := 9) C 0 rfl dX11_feed_8 rfl ?_
  refine Go_getA (q := 12) (k := 0) C ci11 iw_11 kE_0 (rE_0_0 hR) rfl wm_1_17 rfl dX11_feed_9 rfl ?_
  refine Go_lload_n (q := 13) C 2 rfl dX11_feed_12 rfl ?_
  refine Go_callV_V (av := (fun ad => [.long p1])) (st := []) (C := C) (hM := c_X10_addBytes (Gl G)  hR hw) (hlk := wm_15_1) (hini := wm_1_16) (hins := wm_15_2) (hsel := wm_15_3) (hcode := wm_15_4) (ho := kE_1) (hci := rfl) (hc13 := by decide) (n := 1) (hd := by decide +kernel) (hr0 := ⟨rfl, rfl⟩) (hroom := ⟨by first | decide | (dsimp only; omega), by first | decide | (dsimp only; omega)⟩) (hlen := rfl) (hst := rfl) (hW := Nat.le_of_ble_eq_true rfl) (hdg := dX11_feed_13) (q := 16) (hq := rfl) (fun S13_2 hw hR => ?_)
  refine Go_aload_n (q := 17) C 0 rfl dX11_feed_16 rfl ?_
  refine Go_getA (q := 20) (k := 0) C ci11 iw_11 kE_0 (rE_0_0 hR) rfl wm_1_17 rfl dX11_feed_17 rfl ?_
  refine Go_lload (q := 22) C 3 rfl dX11_feed_20 rfl ?_
  refine Go_callV_V (av := (fun ad => [.long p2])) (st := []) (C := C) (hM := c_X10_addBytes (Gl G)  hR hw) (hlk := wm_15_1) (hini := wm_1_16) (hins := wm_15_2) (hsel := wm_15_3) (hcode := wm_15_4) (ho := kE_1) (hci := rfl) (hc13 := by decide) (n := 1) (hd := by decide +kernel) (hr0 := ⟨rfl, rfl⟩) (hroom := ⟨by first | decide | (dsimp only; omega), by first | decide | (dsimp only; omega)⟩) (hlen := rfl) (hst := rfl) (hW := Nat.le_of_ble_eq_true rfl) (hdg := dX11_feed_22) (q := 25) (hq := rfl) (fun S22_3 hw hR => ?_)
  refine Go_aload_n (q := 26) C 0 rfl dX11_feed_25 rfl ?_
  refine Go_getA (q := 29) (k := 0) C ci11 iw_11 kE_0 (rE_0_0 hR) rfl wm_1_17 rfl dX11_feed_26 rfl ?_
  refine Go_getIN (q := 32) (k := 5) (host := "EndsRound") C ci10 iw_10 kE_1 rfl nw_3 rfl dX11_feed_29 rfl ?_
  exact Go_iret C hQ hR hw dX11_feed_32
-- X10_signAt
abbrev rm_X10_signAt : Room := { frames := 0, cells := 0, slots := 0, locals := 0 }
set_option maxRecDepth 100000 in
set_option maxHeartbeats 4000000 in
theorem c_X10_signAt (l : Launch) {p0 : Int32} {S : St} {Q : Int32 → St → Prop} (hR : RCE S) (hw : w_X10_signAt p0 S Q) : MetI l yX10_signAt (wB yX10_signAt cX10_signAt 2 (some .int)) rm_X10_signAt shE NE RCE (fun ad => [.ref (ad (1)), .int p0]) S Q := by
  refine MetI_of (cc := cX10_signAt) (maxL := 2) (ret := (some .int)) (plainFor_of_name (by decide)) (fun _ => Nat.le_of_ble_eq_true rfl) (fun G C hl hQ => ?_)
  subst hl
  have C : Cx G cX10_signAt BIG RX10 2 (some .int) rm_X10_signAt shE NE := C
  show Go G 2 0 [] [(0, .ref (Gad G (1))), (1, .int p0)] S
  unfold w_X10_signAt at hw
  refine Go_iload_n (q := 1) C 1 rfl dX10_signAt_0 rfl ?_
  refine Go_if_lt (t := 30) (q := 4) C hw dX10_signAt_1 rfl rfl (fun hw => ?_) (fun hw => ?_)
  · refine Go_iconst (q := 31) (v := (-1 : Int32)) C dX10_signAt_30 rfl rfl ?_
    exact Go_iret C hQ hR hw dX10_signAt_31
  · refine Go_iload_n (q := 5) C 1 rfl dX10_signAt_4 rfl ?_
    refine Go_aload_n (q := 6) C 0 rfl dX10_signAt_5 rfl ?_
    refine Go_getI (q := 9) (k := 5) C ci10 iw_10 kE_1 rfl wm_15_9 rfl dX10_signAt_6 rfl ?_
    refine Go_icmp_ge (t := 30) (q := 12) C hw dX10_signAt_9 rfl rfl (fun hw => ?_) (fun hw => ?_)
    · refine Go_iconst (q := 31) (v := (-1 : Int32)) C dX10_signAt_30 rfl rfl ?_
      exact Go_iret C hQ hR hw dX10_signAt_31
    · refine Go_iload_n (q := 13) C 1 rfl dX10_signAt_12 rfl ?_
      refine Go_aload_n (q := 14) C 0 rfl dX10_signAt_13 rfl ?_
      refine Go_getA (q := 17) (k := 0) C ci10 iw_10 kE_1 (rE_1_0 hR) rfl wm_3_13 rfl dX10_signAt_14 rfl ?_
      refine Go_alen2 (q := 18) (v := (1000 : Int32)) C kE_2 (by decide) rfl dX10_signAt_17 rfl ?_
      refine Go_icmp_ge (t := 30) (q := 21) C hw dX10_signAt_18 rfl rfl (fun hw => ?_) (fun hw => ?_)
      · refine Go_iconst (q := 31) (v := (-1 : Int32)) C dX10_signAt_30 rfl rfl ?_
        exact Go_iret C hQ hR hw dX10_signAt_31
      · refine Go_aload_n (q := 22) C 0 rfl dX10_signAt_21 rfl ?_
        refine Go_getA (q := 25) (k := 0) C ci10 iw_10 kE_1 (rE_1_0 hR) rfl wm_3_13 rfl dX10_signAt_22 rfl ?_
        refine Go_iload_n (q := 26) C 1 rfl dX10_signAt_25 rfl ?_
        obtain ⟨hin, hw⟩ := hw
        refine Go_caload (q := 27) C kE_2 hin dX10_signAt_26 rfl ?_
        refine Go_goto (q := 31) C dX10_signAt_27 rfl ?_
        exact Go_iret C hQ hR hw dX10_signAt_31
-- X10_isLetter
abbrev rm_X10_isLetter : Room := { frames := 0, cells := 0, slots := 0, locals := 0 }
set_option maxRecDepth 100000 in
set_option maxHeartbeats 4000000 in
theorem c_X10_isLetter (l : Launch) {p0 : Int32} {S : St} {Q : Int32 → St → Prop} (hR : RCE S) (hw : w_X10_isLetter p0 S Q) : MetI l yX10_isLetter (wB yX10_isLetter cX10_isLetter 1 (some .boolean)) rm_X10_isLetter shE NE RCE (fun ad => [.int p0]) S Q := by
  refine MetI_of (cc := cX10_isLetter) (maxL := 1) (ret := (some .boolean)) (plainFor_of_name (by decide)) (fun _ => Nat.le_of_ble_eq_true rfl) (fun G C hl hQ => ?_)
  subst hl
  have C : Cx G cX10_isLetter BIG RX10 1 (some .boolean) rm_X10_isLetter shE NE := C
  show Go G 1 0 [] [(0, .int p0)] S
  unfold w_X10_isLetter at hw
  refine Go_iload_n (q := 1) C 0 rfl dX10_isLetter_0 rfl ?_
  refine Go_bipush (q := 3) (v := (97 : Int32)) C dX10_isLetter_1 rfl rfl ?_
  refine Go_icmp_lt (t := 16) (q := 6) C hw dX10_isLetter_3 rfl rfl (fun hw => ?_) (fun hw => ?_)
  · refine Go_iconst (q := 17) (v := (0 : Int32)) C dX10_isLetter_16 rfl rfl ?_
    exact Go_zret C hQ hR rfl hw dX10_isLetter_17
  · refine Go_iload_n (q := 7) C 0 rfl dX10_isLetter_6 rfl ?_
    refine Go_bipush (q := 9) (v := (122 : Int32)) C dX10_isLetter_7 rfl rfl ?_
    refine Go_icmp_gt (t := 16) (q := 12) C hw dX10_isLetter_9 rfl rfl (fun hw => ?_) (fun hw => ?_)
    · refine Go_iconst (q := 17) (v := (0 : Int32)) C dX10_isLetter_16 rfl rfl ?_
      exact Go_zret C hQ hR rfl hw dX10_isLetter_17
    · refine Go_iconst (q := 13) (v := (1 : Int32)) C dX10_isLetter_12 rfl rfl ?_
      refine Go_goto (q := 17) C dX10_isLetter_13 rfl ?_
      exact Go_zret C hQ hR rfl hw dX10_isLetter_17
-- X10_withLetter
abbrev rm_X10_withLetter : Room := { frames := 0, cells := 0, slots := 0, locals := 0 }
set_option maxRecDepth 100000 in
set_option maxHeartbeats 4000000 in
theorem c_X10_withLetter (l : Launch) {p0 : Int64} {p1 : Int32} {S : St} {Q : Int64 → St → Prop} (hR : RCE S) (hw : w_X10_withLetter p0 p1 S Q) : MetL l yX10_withLetter (wB yX10_withLetter cX10_withLetter 3 (some .long)) rm_X10_withLetter shE NE RCE (fun ad => [.long p0, .int p1]) S Q := by
  refine MetL_of (cc := cX10_withLetter) (maxL := 3) (ret := (some .long)) (plainFor_of_name (by decide)) (fun _ => Nat.le_of_ble_eq_true rfl) (fun G C hl hQ => ?_)
  subst hl
  have C : Cx G cX10_withLetter BIG RX10 3 (some .long) rm_X10_withLetter shE NE := C
  show Go G 3 0 [] [(0, .long p0), (2, .int p1)] S
  unfold w_X10_withLetter at hw
  refine Go_lload_n (q := 1) C 0 rfl dX10_withLetter_0 rfl ?_
  refine Go_iconst (q := 2) (v := (5 : Int32)) C dX10_withLetter_1 rfl rfl ?_
  refine Go_lshl (q := 3) C dX10_withLetter_2 rfl ?_
  refine Go_iload_n (q := 4) C 1 rfl dX10_withLetter_3 rfl ?_
  refine Go_bipush (q := 6) (v := (97 : Int32)) C dX10_withLetter_4 rfl rfl ?_
  refine Go_isub (q := 7) C dX10_withLetter_6 rfl ?_
  refine Go_iconst (q := 8) (v := (1 : Int32)) C dX10_withLetter_7 rfl rfl ?_
  refine Go_iadd (q := 9) C dX10_withLetter_8 rfl ?_
  refine Go_i2l (q := 10) C dX10_withLetter_9 rfl ?_
  refine Go_lor (q := 11) C dX10_withLetter_10 rfl ?_
  exact Go_lret C hQ hR hw dX10_withLetter_11
-- X10_keyOf
abbrev rm_X10_keyOf : Room := { frames := 0, cells := 0, slots := 0, locals := 0 }
set_option maxRecDepth 100000 in
set_option maxHeartbeats 4000000 in
theorem g_X10_keyOf_2 {G : GC} (C : Cx G cX10_keyOf BIG RX10 4 (some .int) rm_X10_keyOf shE NE) {Q : Int32 → St → Prop} (hQ : QI G RCE Q) (p0 : Int64) (v3 : Int32) {S : St} (hR : RCE S) (hw : w_X10_keyOf_2 p0 Q v3 S) : Go G 4 2 [] [(0, .ref (Gad G (1))), (1, .long p0), (3, .int v3)] S := by
  obtain ⟨n, hw⟩ := hw
  induction n generalizing v3 S with
  | zero => exact hw.elim
  | succ n ih =>
    have hw : b_X10_keyOf_2 p0 Q (lpn (fun _ _ => False) (b_X10_keyOf_2 p0 Q) n) v3 S := hw
    generalize lpn (fun _ _ => False) (b_X10_keyOf_2 p0 Q) n = kf at hw ih
    have hk2 := fun (v3 : Int32) (S : St) (hR : RCE S) hw => ih v3 hR hw
    unfold b_X10_keyOf_2 at hw
    refine Go_iload_n (q := 3) C 2 rfl dX10_keyOf_2 rfl ?_
    refine Go_aload_n (q := 4) C 0 rfl dX10_keyOf_3 rfl ?_
    refine Go_getA (q := 7) (k := 4) C ci10 iw_10 kE_1 (rE_1_4 hR) rfl wm_3_17 rfl dX10_keyOf_4 rfl ?_
    refine Go_alen2 (q := 8) (v := (24 : Int32)) C kE_6 (by decide) rfl dX10_keyOf_7 rfl ?_
    refine Go_icmp_ge (t := 34) (q := 11) C hw dX10_keyOf_8 rfl rfl (fun hw => ?_) (fun hw => ?_)
    · refine Go_iconst (q := 35) (v := (3 : Int32)) C dX10_keyOf_34 rfl rfl ?_
      exact Go_iret C hQ hR hw dX10_keyOf_35
    · refine Go_aload_n (q := 12) C 0 rfl dX10_keyOf_11 rfl ?_
      refine Go_getA (q := 15) (k := 4) C ci10 iw_10 kE_1 (rE_1_4 hR) rfl wm_3_17 rfl dX10_keyOf_12 rfl ?_
      refine Go_iload_n (q := 16) C 2 rfl dX10_keyOf_15 rfl ?_
      obtain ⟨hin, hw⟩ := hw
      refine Go_laload (q := 17) C kE_6 hin dX10_keyOf_16 rfl ?_
      refine Go_lload_n (q := 18) C 1 rfl dX10_keyOf_17 rfl ?_
      refine Go_lcmp_ne (t := 28) (q := 19) (q2 := 22) C hw dX10_keyOf_18 rfl dX10_keyOf_19 rfl rfl (fun hw => ?_) (fun hw => ?_)
      · refine Go_sipush (q := 25) (v := (128 : Int32)) C dX10_keyOf_22 rfl rfl ?_
        refine Go_iload_n (q := 26) C 2 rfl dX10_keyOf_25 rfl ?_
        refine Go_iadd (q := 27) C dX10_keyOf_26 rfl ?_
        exact Go_iret C hQ hR hw dX10_keyOf_27
      · refine Go_iinc2 (q := 31) (kp := 2) (cst := (1 : Int32)) C dX10_keyOf_28 rfl rfl (by decide) rfl (fun x28_1 e_x28_1 => ?_)
        have hw := hw x28_1 e_x28_1
        refine Go_lve (lv' := [(3, .int x28_1), (0, .ref (Gad G (1))), (1, .long p0)]) rfl ?_
        refine Go_goto (q := 2) C dX10_keyOf_31 rfl ?_
        refine Go_lvp [1, 2, 0] rfl ?_
        exact hk2 _ _ hR hw
set_option maxRecDepth 100000 in
set_option maxHeartbeats 4000000 in
theorem c_X10_keyOf (l : Launch) {p0 : Int64} {S : St} {Q : Int32 → St → Prop} (hR : RCE S) (hw : w_X10_keyOf p0 S Q) : MetI l yX10_keyOf (wB yX10_keyOf cX10_keyOf 4 (some .int)) rm_X10_keyOf shE NE RCE (fun ad => [.ref (ad (1)), .long p0]) S Q := by
  refine MetI_of (cc := cX10_keyOf) (maxL := 4) (ret := (some .int)) (plainFor_of_name (by decide)) (fun _ => Nat.le_of_ble_eq_true rfl) (fun G C hl hQ => ?_)
  subst hl
  have C : Cx G cX10_keyOf BIG RX10 4 (some .int) rm_X10_keyOf shE NE := C
  show Go G 4 0 [] [(0, .ref (Gad G (1))), (1, .long p0)] S
  unfold w_X10_keyOf at hw
  refine Go_iconst (q := 1) (v := (0 : Int32)) C dX10_keyOf_0 rfl rfl ?_
  refine Go_istore_n (q := 2) (lv' := [(3, .int (0 : Int32)), (0, .ref (Gad G (1))), (1, .long p0)]) C rfl dX10_keyOf_1 (by decide) rfl rfl ?_
  refine Go_lvp [1, 2, 0] rfl ?_
  exact g_X10_keyOf_2 C hQ p0 _ hR hw
-- X11_put
abbrev rm_X11_put : Room := { frames := 0, cells := 0, slots := 0, locals := 0 }
set_option maxRecDepth 100000 in
set_option maxHeartbeats 4000000 in
theorem c_X11_put (l : Launch) {p0 : Nat} (hp0 : ok shE NE p0 14 (lnE p0)) {p1 : Int32} {p2 : Int32} {S : St} {Q : St → Prop} (hR : RCE S) (hw : w_X11_put p0 p1 p2 S Q) : MetV l yX11_put (wB yX11_put cX11_put 3 none) rm_X11_put shE NE RCE (fun ad => [.ref (ad (p0)), .int p1, .int p2]) S Q := by
  refine MetV_of (cc := cX11_put) (maxL := 3) (ret := none) (plainFor_of_name (by decide)) (fun _ => Nat.le_of_ble_eq_true rfl) (fun G C hl hQ => ?_)
  subst hl
  have C : Cx G cX11_put BIG RX11 3 none rm_X11_put shE NE := C
  show Go G 3 0 [] [(0, .ref (Gad G (p0))), (1, .int p1), (2, .int p2)] S
  unfold w_X11_put at hw
  refine Go_iload_n (q := 1) C 1 rfl dX11_put_0 rfl ?_
  refine Go_if_lt (t := 14) (q := 4) C hw dX11_put_1 rfl rfl (fun hw => ?_) (fun hw => ?_)
  · exact Go_vret C hQ hR hw dX11_put_14
  · refine Go_iload_n (q := 5) C 1 rfl dX11_put_4 rfl ?_
    refine Go_aload_n (q := 6) C 0 rfl dX11_put_5 rfl ?_
    refine Go_alen2 (q := 7) (v := nI (lnE p0)) C hp0 (by decide) rfl dX11_put_6 rfl ?_
    refine Go_icmp_ge (t := 14) (q := 10) C hw dX11_put_7 rfl rfl (fun hw => ?_) (fun hw => ?_)
    · exact Go_vret C hQ hR hw dX11_put_14
    · refine Go_aload_n (q := 11) C 0 rfl dX11_put_10 rfl ?_
      refine Go_iload_n (q := 12) C 1 rfl dX11_put_11 rfl ?_
      refine Go_iload_n (q := 13) C 2 rfl dX11_put_12 rfl ?_
      obtain ⟨hin, hw⟩ := hw
      refine Go_iastore (q := 14) C hp0 hin dX11_put_13 rfl ?_
      refine Go_S (fun S13_1 e_S13_1 => ?_)
      have hw := hw S13_1 e_S13_1
      have hR := rcE e_S13_1 hR
      exact Go_vret C hQ hR hw dX11_put_14
-- X10_addToken
abbrev rm_X10_addToken : Room := { frames := 1, cells := 0, slots := 0, locals := 22 }
set_option maxRecDepth 100000 in
set_option maxHeartbeats 4000000 in
theorem c_X10_addToken (l : Launch) {p0 : Int32} {p1 : Int32} {p2 : Int64} {S : St} {Q : St → Prop} (hR : RCE S) (hw : w_X10_addToken p0 p1 p2 S Q) : MetV l yX10_addToken (wB yX10_addToken cX10_addToken 5 none) rm_X10_addToken shE NE RCE (fun ad => [.ref (ad (1)), .int p0, .int p1, .long p2]) S Q := by
  refine MetV_of (cc := cX10_addToken) (maxL := 5) (ret := none) (plainFor_of_name (by decide)) (fun _ => Nat.le_of_ble_eq_true rfl) (fun G C hl hQ => ?_)
  subst hl
  have C : Cx G cX10_addToken BIG RX10 5 none rm_X10_addToken shE NE := C
  show Go G 5 0 [] [(0, .ref (Gad G (1))), (1, .int p0), (2, .int p1), (3, .long p2)] S
  unfold w_X10_addToken at hw
  refine Go_aload_n (q := 1) C 0 rfl dX10_addToken_0 rfl ?_
  refine Go_getI (q := 4) (k := 6) C ci10 iw_10 kE_1 rfl wm_16_8 rfl dX10_addToken_1 rfl ?_
  refine Go_if_lt (t := 63) (q := 7) C hw dX10_addToken_4 rfl rfl (fun hw => ?_) (fun hw => ?_)
  · exact Go_vret C hQ hR hw dX10_addToken_63
  · refine Go_aload_n (q := 8) C 0 rfl dX10_addToken_7 rfl ?_
    refine Go_getI (q := 11) (k := 6) C ci10 iw_10 kE_1 rfl wm_16_8 rfl dX10_addToken_8 rfl ?_
    refine Go_aload_n (q := 12) C 0 rfl dX10_addToken_11 rfl ?_
    refine Go_getA (q := 15) (k := 3) C ci10 iw_10 kE_1 (rE_1_3 hR) rfl wm_3_16 rfl dX10_addToken_12 rfl ?_
    refine Go_alen2 (q := 16) (v := (1001 : Int32)) C kE_5 (by decide) rfl dX10_addToken_15 rfl ?_
    refine Go_icmp_ge (t := 63) (q := 19) C hw dX10_addToken_16 rfl rfl (fun hw => ?_) (fun hw => ?_)
    · exact Go_vret C hQ hR hw dX10_addToken_63
    · refine Go_aload_n (q := 20) C 0 rfl dX10_addToken_19 rfl ?_
      refine Go_getA (q := 23) (k := 3) C ci10 iw_10 kE_1 (rE_1_3 hR) rfl wm_3_16 rfl dX10_addToken_20 rfl ?_
      refine Go_aload_n (q := 24) C 0 rfl dX10_addToken_23 rfl ?_
      refine Go_getI (q := 27) (k := 6) C ci10 iw_10 kE_1 rfl wm_16_8 rfl dX10_addToken_24 rfl ?_
      refine Go_lload_n (q := 28) C 3 rfl dX10_addToken_27 rfl ?_
      obtain ⟨hin, hw⟩ := hw
      refine Go_lastore (q := 29) C kE_5 hin dX10_addToken_28 rfl ?_
      refine Go_S (fun S28_1 e_S28_1 => ?_)
      have hw := hw S28_1 e_S28_1
      have hR := rcEJ e_S28_1 hR
      refine Go_aload_n (q := 30) C 0 rfl dX10_addToken_29 rfl ?_
      refine Go_getA (q := 33) (k := 1) C ci10 iw_10 kE_1 (rE_1_1 hR) rfl wm_3_14 rfl dX10_addToken_30 rfl ?_
      refine Go_aload_n (q := 34) C 0 rfl dX10_addToken_33 rfl ?_
      refine Go_getI (q := 37) (k := 6) C ci10 iw_10 kE_1 rfl wm_16_8 rfl dX10_addToken_34 rfl ?_
      refine Go_iload_n (q := 38) C 2 rfl dX10_addToken_37 rfl ?_
      refine Go_callSN_V (av := (fun ad => [.ref (ad (3)), .int (gI S28_1 1 6), .int p1])) (st := []) (C := C) (hM := c_X11_put (Gl G) (ok_ln kE_3) hR hw) (host := "EndsRound") (hnw := nw_83) (hini := wm_1_2) (hst2 := wm_10_11) (hcode := wm_10_12) (n := 3) (hd := by decide +kernel) (hr0 := ⟨rfl, rfl⟩) (hroom := ⟨by first | decide | (dsimp only; omega), by first | decide | (dsimp only; omega)⟩) (hlen := rfl) (hst := rfl) (hW := Nat.le_of_ble_eq_true rfl) (hdg := dX10_addToken_38) (q := 41) (hq := rfl) (fun S38_2 hw hR => ?_)
      refine Go_aload_n (q := 42) C 0 rfl dX10_addToken_41 rfl ?_
      refine Go_getA (q := 45) (k := 2) C ci10 iw_10 kE_1 (rE_1_2 hR) rfl wm_3_15 rfl dX10_addToken_42 rfl ?_
      refine Go_aload_n (q := 46) C 0 rfl dX10_addToken_45 rfl ?_
      refine Go_getI (q := 49) (k := 6) C ci10 iw_10 kE_1 rfl wm_16_8 rfl dX10_addToken_46 rfl ?_
      refine Go_iload_n (q := 50) C 1 rfl dX10_addToken_49 rfl ?_
      refine Go_callSN_V (av := (fun ad => [.ref (ad (4)), .int (gI S38_2 1 6), .int p0])) (st := []) (C := C) (hM := c_X11_put (Gl G) (ok_ln kE_4) hR hw) (host := "EndsRound") (hnw := nw_83) (hini := wm_1_2) (hst2 := wm_10_11) (hcode := wm_10_12) (n := 3) (hd := by decide +kernel) (hr0 := ⟨rfl, rfl⟩) (hroom := ⟨by first | decide | (dsimp only; omega), by first | decide | (dsimp only; omega)⟩) (hlen := rfl) (hst := rfl) (hW := Nat.le_of_ble_eq_true rfl) (hdg := dX10_addToken_50) (q := 53) (hq := rfl) (fun S50_3 hw hR => ?_)
      refine Go_aload_n (q := 54) C 0 rfl dX10_addToken_53 rfl ?_
      refine Go_dup (q := 55) C rfl dX10_addToken_54 rfl ?_
      refine Go_getI (q := 58) (k := 6) C ci10 iw_10 kE_1 rfl wm_16_8 rfl dX10_addToken_55 rfl ?_
      refine Go_iconst (q := 59) (v := (1 : Int32)) C dX10_addToken_58 rfl rfl ?_
      refine Go_iadd (q := 60) C dX10_addToken_59 rfl ?_
      refine Go_putI (q := 63) (k := 6) C ci10 iw_10 kE_1 rfl wm_16_8 rfl rfl (ci10.2.2.2.1 6 (by decide)) rfl rfl dX10_addToken_60 rfl ?_
      refine Go_S (fun S60_4 e_S60_4 => ?_)
      have hw := hw S60_4 e_S60_4
      have hR := rcE e_S60_4 hR
      exact Go_vret C hQ hR hw dX10_addToken_63
-- X10_cutWord
abbrev rm_X10_cutWord : Room := { frames := 2, cells := 0, slots := 0, locals := 46 }
set_option maxRecDepth 100000 in
set_option maxHeartbeats 4000000 in
theorem g_X10_cutWord_63 {G : GC} (C : Cx G cX10_cutWord BIG RX10 5 (some .int) rm_X10_cutWord shE NE) {Q : Int32 → St → Prop} (hQ : QI G RCE Q) (v2 : Int64) (v4 : Int32) (t0 : Int32) (t1 : Int32) {S : St} (hR : RCE S) (hw : w_X10_cutWord_63 Q v2 v4 t0 t1 S) : Go G 5 63 [.int t0, .int t1, .ref (Gad G (1))] [(2, .long v2), (4, .int v4)] S := by
  unfold w_X10_cutWord_63 at hw
  refine Go_lload_n (q := 64) C 0 rfl dX10_cutWord_63 rfl ?_
  refine Go_callV_V (av := (fun ad => [.int t1, .int t0, .long v2])) (st := []) (C := C) (hM := c_X10_addToken (Gl G) hR hw) (hlk := wm_17_1) (hini := wm_1_16) (hins := wm_17_2) (hsel := wm_17_3) (hcode := wm_17_4) (ho := kE_1) (hci := rfl) (hc13 := by decide) (n := 3) (hd := by decide +kernel) (hr0 := ⟨rfl, rfl⟩) (hroom := ⟨by first | decide | (dsimp only; omega), by first | decide | (dsimp only; omega)⟩) (hlen := rfl) (hst := rfl) (hW := Nat.le_of_ble_eq_true rfl) (hdg := dX10_cutWord_64) (q := 67) (hq := rfl) (fun S64_3 hw hR => ?_)
  refine Go_iload (q := 69) C 1 rfl dX10_cutWord_67 rfl ?_
  exact Go_iret C hQ hR hw dX10_cutWord_69
set_option maxRecDepth 100000 in
set_option maxHeartbeats 4000000 in
theorem g_X10_cutWord_43 {G : GC} (C : Cx G cX10_cutWord BIG RX10 5 (some .int) rm_X10_cutWord shE NE) {Q : Int32 → St → Prop} (hQ : QI G RCE Q) (p0 : Int32) (v2 : Int64) (v4 : Int32) {S : St} (hR : RCE S) (hw : w_X10_cutWord_43 p0 Q v2 v4 S) : Go G 5 43 [] [(0, .ref (Gad G (1))), (1, .int p0), (2, .long v2), (4, .int v4)] S := by
  unfold w_X10_cutWord_43 at hw
  refine Go_aload_n (q := 44) C 0 rfl dX10_cutWord_43 rfl ?_
  refine Go_iload_n (q := 45) C 1 rfl dX10_cutWord_44 rfl ?_
  refine Go_iload (q := 47) C 3 rfl dX10_cutWord_45 rfl ?_
  refine Go_iload_n (q := 48) C 1 rfl dX10_cutWord_47 rfl ?_
  refine Go_isub (q := 49) C dX10_cutWord_48 rfl ?_
  refine Go_bipush (q := 51) (v := (8 : Int32)) C dX10_cutWord_49 rfl rfl ?_
  refine Go_icmp_le (t := 58) (q := 54) C hw dX10_cutWord_51 rfl rfl (fun hw => ?_) (fun hw => ?_)
  · refine Go_aload_n (q := 59) C 0 rfl dX10_cutWord_58 rfl ?_
    refine Go_lload_n (q := 60) C 2 rfl dX10_cutWord_59 rfl ?_
    refine Go_callV_I (av := (fun ad => [.long v2])) (st := [.int p0, .ref (Gad G (1))]) (C := C) (hM := c_X10_keyOf (Gl G) hR hw) (hlk := wm_16_21) (hini := wm_1_16) (hins := wm_16_22) (hsel := wm_16_23) (hcode := wm_17_0) (ho := kE_1) (hci := rfl) (hc13 := by decide) (n := 1) (hd := by decide +kernel) (hr0 := ⟨rfl, rfl⟩) (hroom := ⟨by first | decide | (dsimp only; omega), by first | decide | (dsimp only; omega)⟩) (hlen := rfl) (hst := rfl) (hW := Nat.le_of_ble_eq_true rfl) (hdg := dX10_cutWord_60) (q := 63) (hq := rfl) (fun r60_2 S60_1 hw hR => ?_)
    refine Go_lvp [2, 3] rfl ?_
    exact g_X10_cutWord_63 C hQ _ _ _ _ hR hw
  · refine Go_iconst (q := 55) (v := (1 : Int32)) C dX10_cutWord_54 rfl rfl ?_
    refine Go_goto (q := 63) C dX10_cutWord_55 rfl ?_
    refine Go_lvp [2, 3] rfl ?_
    exact g_X10_cutWord_63 C hQ _ _ _ _ hR hw
set_option maxRecDepth 100000 in
set_option maxHeartbeats 4000000 in
theorem g_X10_cutWord_5 {G : GC} (C : Cx G cX10_cutWord BIG RX10 5 (some .int) rm_X10_cutWord shE NE) {Q : Int32 → St → Prop} (hQ : QI G RCE Q) (p0 : Int32) (v2 : Int64) (v4 : Int32) {S : St} (hR : RCE S) (hw : w_X10_cutWord_5 p0 Q v2 v4 S) : Go G 5 5 [] [(0, .ref (Gad G (1))), (1, .int p0), (2, .long v2), (4, .int v4)] S := by
  obtain ⟨n, hw⟩ := hw
  induction n generalizing v2 v4 S with
  | zero => exact hw.elim
  | succ n ih =>
    have hw : b_X10_cutWord_5 p0 Q (lpn (fun _ _ _ => False) (b_X10_cutWord_5 p0 Q) n) v2 v4 S := hw
    generalize lpn (fun _ _ _ => False) (b_X10_cutWord_5 p0 Q) n = kf at hw ih
    have hk5 := fun (v2 : Int64) (v4 : Int32) (S : St) (hR : RCE S) hw => ih v2 v4 hR hw
    unfold b_X10_cutWord_5 at hw
    refine Go_iload (q := 7) C 3 rfl dX10_cutWord_5 rfl ?_
    refine Go_aload_n (q := 8) C 0 rfl dX10_cutWord_7 rfl ?_
    refine Go_getI (q := 11) (k := 5) C ci10 iw_10 kE_1 rfl wm_15_9 rfl dX10_cutWord_8 rfl ?_
    refine Go_icmp_ge (t := 43) (q := 14) C hw dX10_cutWord_11 rfl rfl (fun hw => ?_) (fun hw => ?_)
    · refine Go_lvp [0, 1, 2, 3] rfl ?_
      exact g_X10_cutWord_43 C hQ p0 _ _ hR hw
    · refine Go_aload_n (q := 15) C 0 rfl dX10_cutWord_14 rfl ?_
      refine Go_iload (q := 17) C 3 rfl dX10_cutWord_15 rfl ?_
      refine Go_callV_I (av := (fun ad => [.int v4])) (st := []) (C := C) (hM := c_X10_signAt (Gl G) hR hw) (hlk := wm_16_13) (hini := wm_1_16) (hins := wm_16_14) (hsel := wm_16_15) (hcode := wm_16_16) (ho := kE_1) (hci := rfl) (hc13 := by decide) (n := 1) (hd := by decide +kernel) (hr0 := ⟨rfl, rfl⟩) (hroom := ⟨by first | decide | (dsimp only; omega), by first | decide | (dsimp only; omega)⟩) (hlen := rfl) (hst := rfl) (hW := Nat.le_of_ble_eq_true rfl) (hdg := dX10_cutWord_17) (q := 20) (hq := rfl) (fun r17_5 S17_4 hw hR => ?_)
      refine Go_callS_I (av := (fun ad => [.int r17_5])) (st := []) (C := C) (hM := c_X10_isLetter (Gl G) hR hw) (hlk := wm_5_19) (hini := wm_1_16) (hst2 := wm_5_20) (hcode := wm_5_21) (n := 1) (hd := by decide +kernel) (hr0 := ⟨rfl, rfl⟩) (hroom := ⟨by first | decide | (dsimp only; omega), by first | decide | (dsimp only; omega)⟩) (hlen := rfl) (hst := rfl) (hW := Nat.le_of_ble_eq_true rfl) (hdg := dX10_cutWord_20) (q := 23) (hq := rfl) (fun r20_7 S20_6 hw hR => ?_)
      refine Go_if_eq (t := 43) (q := 26) C hw dX10_cutWord_23 rfl rfl (fun hw => ?_) (fun hw => ?_)
      · refine Go_lvp [0, 1, 2, 3] rfl ?_
        exact g_X10_cutWord_43 C hQ p0 _ _ hR hw
      · refine Go_lload_n (q := 27) C 2 rfl dX10_cutWord_26 rfl ?_
        refine Go_aload_n (q := 28) C 0 rfl dX10_cutWord_27 rfl ?_
        refine Go_iload (q := 30) C 3 rfl dX10_cutWord_28 rfl ?_
        refine Go_callV_I (av := (fun ad => [.int v4])) (st := [.long v2]) (C := C) (hM := c_X10_signAt (Gl G) hR hw) (hlk := wm_16_13) (hini := wm_1_16) (hins := wm_16_14) (hsel := wm_16_15) (hcode := wm_16_16) (ho := kE_1) (hci := rfl) (hc13 := by decide) (n := 1) (hd := by decide +kernel) (hr0 := ⟨rfl, rfl⟩) (hroom := ⟨by first | decide | (dsimp only; omega), by first | decide | (dsimp only; omega)⟩) (hlen := rfl) (hst := rfl) (hW := Nat.le_of_ble_eq_true rfl) (hdg := dX10_cutWord_30) (q := 33) (hq := rfl) (fun r30_9 S30_8 hw hR => ?_)
        refine Go_callS_L (av := (fun ad => [.long v2, .int r30_9])) (st := []) (C := C) (hM := c_X10_withLetter (Gl G) hR hw) (hlk := wm_5_22) (hini := wm_1_16) (hst2 := wm_5_23) (hcode := wm_6_0) (n := 2) (hd := by decide +kernel) (hr0 := ⟨rfl, rfl⟩) (hroom := ⟨by first | decide | (dsimp only; omega), by first | decide | (dsimp only; omega)⟩) (hlen := rfl) (hst := rfl) (hW := Nat.le_of_ble_eq_true rfl) (hdg := dX10_cutWord_33) (q := 36) (hq := rfl) (fun r33_11 S33_10 hw hR => ?_)
        refine Go_lstore_n (q := 37) (lv' := [(2, .long r33_11), (0, .ref (Gad G (1))), (1, .int p0), (4, .int v4)]) C rfl dX10_cutWord_36 (by decide) rfl rfl ?_
        refine Go_iinc2 (q := 40) (kp := 3) (cst := (1 : Int32)) C dX10_cutWord_37 rfl rfl (by decide) rfl (fun x37_12 e_x37_12 => ?_)
        have hw := hw x37_12 e_x37_12
        refine Go_lve (lv' := [(4, .int x37_12), (2, .long r33_11), (0, .ref (Gad G (1))), (1, .int p0)]) rfl ?_
        refine Go_goto (q := 5) C dX10_cutWord_40 rfl ?_
        refine Go_lvp [2, 3, 1, 0] rfl ?_
        exact hk5 _ _ _ hR hw
set_option maxRecDepth 100000 in
set_option maxHeartbeats 4000000 in
theorem c_X10_cutWord (l : Launch) {p0 : Int32} {S : St} {Q : Int32 → St → Prop} (hR : RCE S) (hw : w_X10_cutWord p0 S Q) : MetI l yX10_cutWord (wB yX10_cutWord cX10_cutWord 5 (some .int)) rm_X10_cutWord shE NE RCE (fun ad => [.ref (ad (1)), .int p0]) S Q := by
  refine MetI_of (cc := cX10_cutWord) (maxL := 5) (ret := (some .int)) (plainFor_of_name (by decide)) (fun _ => Nat.le_of_ble_eq_true rfl) (fun G C hl hQ => ?_)
  subst hl
  have C : Cx G cX10_cutWord BIG RX10 5 (some .int) rm_X10_cutWord shE NE := C
  show Go G 5 0 [] [(0, .ref (Gad G (1))), (1, .int p0)] S
  unfold w_X10_cutWord at hw
  refine Go_lconst (q := 1) (v := (0 : Int64)) C dX10_cutWord_0 rfl rfl ?_
  refine Go_lstore_n (q := 2) (lv' := [(2, .long (0 : Int64)), (0, .ref (Gad G (1))), (1, .int p0)]) C rfl dX10_cutWord_1 (by decide) rfl rfl ?_
  refine Go_iload_n (q := 3) C 2 rfl dX10_cutWord_2 rfl ?_
  refine Go_istore (q := 5) (lv' := [(4, .int p0), (2, .long (0 : Int64)), (0, .ref (Gad G (1))), (1, .int p0)]) C dX10_cutWord_3 (by decide) rfl rfl ?_
  refine Go_lvp [2, 3, 1, 0] rfl ?_
  exact g_X10_cutWord_5 C hQ p0 _ _ hR hw
-- X10_isDigit
abbrev rm_X10_isDigit : Room := { frames := 0, cells := 0, slots := 0, locals := 0 }
set_option maxRecDepth 100000 in
set_option maxHeartbeats 4000000 in
theorem c_X10_isDigit (l : Launch) {p0 : Int32} {S : St} {Q : Int32 → St → Prop} (hR : RCE S) (hw : w_X10_isDigit p0 S Q) : MetI l yX10_isDigit (wB yX10_isDigit cX10_isDigit 1 (some .boolean)) rm_X10_isDigit shE NE RCE (fun ad => [.int p0]) S Q := by
  refine MetI_of (cc := cX10_isDigit) (maxL := 1) (ret := (some .boolean)) (plainFor_of_name (by decide)) (fun _ => Nat.le_of_ble_eq_true rfl) (fun G C hl hQ => ?_)
  subst hl
  have C : Cx G cX10_isDigit BIG RX10 1 (some .boolean) rm_X10_isDigit shE NE := C
  show Go G 1 0 [] [(0, .int p0)] S
  unfold w_X10_isDigit at hw
  refine Go_iload_n (q := 1) C 0 rfl dX10_isDigit_0 rfl ?_
  refine Go_bipush (q := 3) (v := (48 : Int32)) C dX10_isDigit_1 rfl rfl ?_
  refine Go_icmp_lt (t := 16) (q := 6) C hw dX10_isDigit_3 rfl rfl (fun hw => ?_) (fun hw => ?_)
  · refine Go_iconst (q := 17) (v := (0 : Int32)) C dX10_isDigit_16 rfl rfl ?_
    exact Go_zret C hQ hR rfl hw dX10_isDigit_17
  · refine Go_iload_n (q := 7) C 0 rfl dX10_isDigit_6 rfl ?_
    refine Go_bipush (q := 9) (v := (57 : Int32)) C dX10_isDigit_7 rfl rfl ?_
    refine Go_icmp_gt (t := 16) (q := 12) C hw dX10_isDigit_9 rfl rfl (fun hw => ?_) (fun hw => ?_)
    · refine Go_iconst (q := 17) (v := (0 : Int32)) C dX10_isDigit_16 rfl rfl ?_
      exact Go_zret C hQ hR rfl hw dX10_isDigit_17
    · refine Go_iconst (q := 13) (v := (1 : Int32)) C dX10_isDigit_12 rfl rfl ?_
      refine Go_goto (q := 17) C dX10_isDigit_13 rfl ?_
      exact Go_zret C hQ hR rfl hw dX10_isDigit_17
-- X10_cutNumber
abbrev rm_X10_cutNumber : Room := { frames := 2, cells := 0, slots := 0, locals := 46 }
set_option maxRecDepth 100000 in
set_option maxHeartbeats 4000000 in
theorem g_X10_cutNumber_65 {G : GC} (C : Cx G cX10_cutNumber BIG RX10 5 (some .int) rm_X10_cutNumber shE NE) {Q : Int32 → St → Prop} (hQ : QI G RCE Q) (v2 : Int64) (v4 : Int32) (t0 : Int32) (t1 : Int32) {S : St} (hR : RCE S) (hw : w_X10_cutNumber_65 Q v2 v4 t0 t1 S) : Go G 5 65 [.int t0, .int t1, .ref (Gad G (1))] [(2, .long v2), (4, .int v4)] S := by
  unfold w_X10_cutNumber_65 at hw
  refine Go_lload_n (q := 66) C 0 rfl dX10_cutNumber_65 rfl ?_
  refine Go_callV_V (av := (fun ad => [.int t1, .int t0, .long v2])) (st := []) (C := C) (hM := c_X10_addToken (Gl G) hR hw) (hlk := wm_17_1) (hini := wm_1_16) (hins := wm_17_2) (hsel := wm_17_3) (hcode := wm_17_4) (ho := kE_1) (hci := rfl) (hc13 := by decide) (n := 3) (hd := by decide +kernel) (hr0 := ⟨rfl, rfl⟩) (hroom := ⟨by first | decide | (dsimp only; omega), by first | decide | (dsimp only; omega)⟩) (hlen := rfl) (hst := rfl) (hW := Nat.le_of_ble_eq_true rfl) (hdg := dX10_cutNumber_66) (q := 69) (hq := rfl) (fun S66_1 hw hR => ?_)
  refine Go_iload (q := 71) C 1 rfl dX10_cutNumber_69 rfl ?_
  exact Go_iret C hQ hR hw dX10_cutNumber_71
set_option maxRecDepth 100000 in
set_option maxHeartbeats 4000000 in
theorem g_X10_cutNumber_50 {G : GC} (C : Cx G cX10_cutNumber BIG RX10 5 (some .int) rm_X10_cutNumber shE NE) {Q : Int32 → St → Prop} (hQ : QI G RCE Q) (p0 : Int32) (v2 : Int64) (v4 : Int32) {S : St} (hR : RCE S) (hw : w_X10_cutNumber_50 p0 Q v2 v4 S) : Go G 5 50 [] [(0, .ref (Gad G (1))), (1, .int p0), (2, .long v2), (4, .int v4)] S := by
  unfold w_X10_cutNumber_50 at hw
  refine Go_aload_n (q := 51) C 0 rfl dX10_cutNumber_50 rfl ?_
  refine Go_iload_n (q := 52) C 1 rfl dX10_cutNumber_51 rfl ?_
  refine Go_iload (q := 54) C 3 rfl dX10_cutNumber_52 rfl ?_
  refine Go_iload_n (q := 55) C 1 rfl dX10_cutNumber_54 rfl ?_
  refine Go_isub (q := 56) C dX10_cutNumber_55 rfl ?_
  refine Go_iconst (q := 57) (v := (4 : Int32)) C dX10_cutNumber_56 rfl rfl ?_
  refine Go_icmp_le (t := 64) (q := 60) C hw dX10_cutNumber_57 rfl rfl (fun hw => ?_) (fun hw => ?_)
  · refine Go_iconst (q := 65) (v := (2 : Int32)) C dX10_cutNumber_64 rfl rfl ?_
    refine Go_lvp [2, 3] rfl ?_
    exact g_X10_cutNumber_65 C hQ _ _ _ _ hR hw
  · refine Go_iconst (q := 61) (v := (1 : Int32)) C dX10_cutNumber_60 rfl rfl ?_
    refine Go_goto (q := 65) C dX10_cutNumber_61 rfl ?_
    refine Go_lvp [2, 3] rfl ?_
    exact g_X10_cutNumber_65 C hQ _ _ _ _ hR hw
set_option maxRecDepth 100000 in
set_option maxHeartbeats 4000000 in
theorem g_X10_cutNumber_5 {G : GC} (C : Cx G cX10_cutNumber BIG RX10 5 (some .int) rm_X10_cutNumber shE NE) {Q : Int32 → St → Prop} (hQ : QI G RCE Q) (p0 : Int32) (v2 : Int64) (v4 : Int32) {S : St} (hR : RCE S) (hw : w_X10_cutNumber_5 p0 Q v2 v4 S) : Go G 5 5 [] [(0, .ref (Gad G (1))), (1, .int p0), (2, .long v2), (4, .int v4)] S := by
  obtain ⟨n, hw⟩ := hw
  induction n generalizing v2 v4 S with
  | zero => exact hw.elim
  | succ n ih =>
    have hw : b_X10_cutNumber_5 p0 Q (lpn (fun _ _ _ => False) (b_X10_cutNumber_5 p0 Q) n) v2 v4 S := hw
    generalize lpn (fun _ _ _ => False) (b_X10_cutNumber_5 p0 Q) n = kf at hw ih
    have hk5 := fun (v2 : Int64) (v4 : Int32) (S : St) (hR : RCE S) hw => ih v2 v4 hR hw
    unfold b_X10_cutNumber_5 at hw
    refine Go_iload (q := 7) C 3 rfl dX10_cutNumber_5 rfl ?_
    refine Go_aload_n (q := 8) C 0 rfl dX10_cutNumber_7 rfl ?_
    refine Go_getI (q := 11) (k := 5) C ci10 iw_10 kE_1 rfl wm_15_9 rfl dX10_cutNumber_8 rfl ?_
    refine Go_icmp_ge (t := 50) (q := 14) C hw dX10_cutNumber_11 rfl rfl (fun hw => ?_) (fun hw => ?_)
    · refine Go_lvp [0, 1, 2, 3] rfl ?_
      exact g_X10_cutNumber_50 C hQ p0 _ _ hR hw
    · refine Go_aload_n (q := 15) C 0 rfl dX10_cutNumber_14 rfl ?_
      refine Go_iload (q := 17) C 3 rfl dX10_cutNumber_15 rfl ?_
      refine Go_callV_I (av := (fun ad => [.int v4])) (st := []) (C := C) (hM := c_X10_signAt (Gl G) hR hw) (hlk := wm_16_13) (hini := wm_1_16) (hins := wm_16_14) (hsel := wm_16_15) (hcode := wm_16_16) (ho := kE_1) (hci := rfl) (hc13 := by decide) (n := 1) (hd := by decide +kernel) (hr0 := ⟨rfl, rfl⟩) (hroom := ⟨by first | decide | (dsimp only; omega), by first | decide | (dsimp only; omega)⟩) (hlen := rfl) (hst := rfl) (hW := Nat.le_of_ble_eq_true rfl) (hdg := dX10_cutNumber_17) (q := 20) (hq := rfl) (fun r17_3 S17_2 hw hR => ?_)
      refine Go_callS_I (av := (fun ad => [.int r17_3])) (st := []) (C := C) (hM := c_X10_isDigit (Gl G) hR hw) (hlk := wm_17_5) (hini := wm_1_16) (hst2 := wm_17_6) (hcode := wm_17_7) (n := 1) (hd := by decide +kernel) (hr0 := ⟨rfl, rfl⟩) (hroom := ⟨by first | decide | (dsimp only; omega), by first | decide | (dsimp only; omega)⟩) (hlen := rfl) (hst := rfl) (hW := Nat.le_of_ble_eq_true rfl) (hdg := dX10_cutNumber_20) (q := 23) (hq := rfl) (fun r20_5 S20_4 hw hR => ?_)
      refine Go_if_eq (t := 50) (q := 26) C hw dX10_cutNumber_23 rfl rfl (fun hw => ?_) (fun hw => ?_)
      · refine Go_lvp [0, 1, 2, 3] rfl ?_
        exact g_X10_cutNumber_50 C hQ p0 _ _ hR hw
      · refine Go_lload_n (q := 27) C 2 rfl dX10_cutNumber_26 rfl ?_
        refine Go_ldc2 (q := 30) (v := (10 : Int64)) C wm_17_12 dX10_cutNumber_27 rfl ?_
        refine Go_lmul (q := 31) C dX10_cutNumber_30 rfl ?_
        refine Go_aload_n (q := 32) C 0 rfl dX10_cutNumber_31 rfl ?_
        refine Go_iload (q := 34) C 3 rfl dX10_cutNumber_32 rfl ?_
        refine Go_callV_I (av := (fun ad => [.int v4])) (st := [.long (v2 * (10 : Int64))]) (C := C) (hM := c_X10_signAt (Gl G) hR hw) (hlk := wm_16_13) (hini := wm_1_16) (hins := wm_16_14) (hsel := wm_16_15) (hcode := wm_16_16) (ho := kE_1) (hci := rfl) (hc13 := by decide) (n := 1) (hd := by decide +kernel) (hr0 := ⟨rfl, rfl⟩) (hroom := ⟨by first | decide | (dsimp only; omega), by first | decide | (dsimp only; omega)⟩) (hlen := rfl) (hst := rfl) (hW := Nat.le_of_ble_eq_true rfl) (hdg := dX10_cutNumber_34) (q := 37) (hq := rfl) (fun r34_7 S34_6 hw hR => ?_)
        refine Go_i2l (q := 38) C dX10_cutNumber_37 rfl ?_
        refine Go_ladd (q := 39) C dX10_cutNumber_38 rfl ?_
        refine Go_ldc2 (q := 42) (v := (48 : Int64)) C wm_17_13 dX10_cutNumber_39 rfl ?_
        refine Go_lsub (q := 43) C dX10_cutNumber_42 rfl ?_
        refine Go_topl (fun x43_8 e_x43_8 => ?_)
        have hw := hw x43_8 e_x43_8
        refine Go_lstore_n (q := 44) (lv' := [(2, .long x43_8), (0, .ref (Gad G (1))), (1, .int p0), (4, .int v4)]) C rfl dX10_cutNumber_43 (by decide) rfl rfl ?_
        refine Go_iinc2 (q := 47) (kp := 3) (cst := (1 : Int32)) C dX10_cutNumber_44 rfl rfl (by decide) rfl (fun x44_9 e_x44_9 => ?_)
        have hw := hw x44_9 e_x44_9
        refine Go_lve (lv' := [(4, .int x44_9), (2, .long x43_8), (0, .ref (Gad G (1))), (1, .int p0)]) rfl ?_
        refine Go_goto (q := 5) C dX10_cutNumber_47 rfl ?_
        refine Go_lvp [2, 3, 1, 0] rfl ?_
        exact hk5 _ _ _ hR hw
set_option maxRecDepth 100000 in
set_option maxHeartbeats 4000000 in
theorem c_X10_cutNumber (l : Launch) {p0 : Int32} {S : St} {Q : Int32 → St → Prop} (hR : RCE S) (hw : w_X10_cutNumber p0 S Q) : MetI l yX10_cutNumber (wB yX10_cutNumber cX10_cutNumber 5 (some .int)) rm_X10_cutNumber shE NE RCE (fun ad => [.ref (ad (1)), .int p0]) S Q := by
  refine MetI_of (cc := cX10_cutNumber) (maxL := 5) (ret := (some .int)) (plainFor_of_name (by decide)) (fun _ => Nat.le_of_ble_eq_true rfl) (fun G C hl hQ => ?_)
  subst hl
  have C : Cx G cX10_cutNumber BIG RX10 5 (some .int) rm_X10_cutNumber shE NE := C
  show Go G 5 0 [] [(0, .ref (Gad G (1))), (1, .int p0)] S
  unfold w_X10_cutNumber at hw
  refine Go_lconst (q := 1) (v := (0 : Int64)) C dX10_cutNumber_0 rfl rfl ?_
  refine Go_lstore_n (q := 2) (lv' := [(2, .long (0 : Int64)), (0, .ref (Gad G (1))), (1, .int p0)]) C rfl dX10_cutNumber_1 (by decide) rfl rfl ?_
  refine Go_iload_n (q := 3) C 2 rfl dX10_cutNumber_2 rfl ?_
  refine Go_istore (q := 5) (lv' := [(4, .int p0), (2, .long (0 : Int64)), (0, .ref (Gad G (1))), (1, .int p0)]) C dX10_cutNumber_3 (by decide) rfl rfl ?_
  refine Go_lvp [2, 3, 1, 0] rfl ?_
  exact g_X10_cutNumber_5 C hQ p0 _ _ hR hw
-- X10_isBlank
abbrev rm_X10_isBlank : Room := { frames := 0, cells := 0, slots := 0, locals := 0 }
set_option maxRecDepth 100000 in
set_option maxHeartbeats 4000000 in
theorem c_X10_isBlank (l : Launch) {p0 : Int32} {S : St} {Q : Int32 → St → Prop} (hR : RCE S) (hw : w_X10_isBlank p0 S Q) : MetI l yX10_isBlank (wB yX10_isBlank cX10_isBlank 1 (some .boolean)) rm_X10_isBlank shE NE RCE (fun ad => [.int p0]) S Q := by
  refine MetI_of (cc := cX10_isBlank) (maxL := 1) (ret := (some .boolean)) (plainFor_of_name (by decide)) (fun _ => Nat.le_of_ble_eq_true rfl) (fun G C hl hQ => ?_)
  subst hl
  have C : Cx G cX10_isBlank BIG RX10 1 (some .boolean) rm_X10_isBlank shE NE := C
  show Go G 1 0 [] [(0, .int p0)] S
  unfold w_X10_isBlank at hw
  refine Go_iload_n (q := 1) C 0 rfl dX10_isBlank_0 rfl ?_
  refine Go_bipush (q := 3) (v := (10 : Int32)) C dX10_isBlank_1 rfl rfl ?_
  refine Go_icmp_eq (t := 12) (q := 6) C hw dX10_isBlank_3 rfl rfl (fun hw => ?_) (fun hw => ?_)
  · refine Go_iconst (q := 13) (v := (1 : Int32)) C dX10_isBlank_12 rfl rfl ?_
    refine Go_goto (q := 17) C dX10_isBlank_13 rfl ?_
    exact Go_zret C hQ hR rfl hw dX10_isBlank_17
  · refine Go_iload_n (q := 7) C 0 rfl dX10_isBlank_6 rfl ?_
    refine Go_bipush (q := 9) (v := (32 : Int32)) C dX10_isBlank_7 rfl rfl ?_
    refine Go_icmp_ne (t := 16) (q := 12) C hw dX10_isBlank_9 rfl rfl (fun hw => ?_) (fun hw => ?_)
    · refine Go_iconst (q := 13) (v := (1 : Int32)) C dX10_isBlank_12 rfl rfl ?_
      refine Go_goto (q := 17) C dX10_isBlank_13 rfl ?_
      exact Go_zret C hQ hR rfl hw dX10_isBlank_17
    · refine Go_iconst (q := 17) (v := (0 : Int32)) C dX10_isBlank_16 rfl rfl ?_
      exact Go_zret C hQ hR rfl hw dX10_isBlank_17
-- X10_isSign
abbrev rm_X10_isSign : Room := { frames := 0, cells := 0, slots := 0, locals := 0 }
set_option maxRecDepth 100000 in
set_option maxHeartbeats 4000000 in
theorem g_X10_isSign_18 {G : GC} (C : Cx G cX10_isSign BIG RX10 1 (some .boolean) rm_X10_isSign shE NE) {Q : Int32 → St → Prop} (hQ : QI G RCE Q) (p0 : Int32) {S : St} (hR : RCE S) (hw : w_X10_isSign_18 p0 Q S) : Go G 1 18 [] [(0, .int p0)] S := by
  unfold w_X10_isSign_18 at hw
  refine Go_iload_n (q := 19) C 0 rfl dX10_isSign_18 rfl ?_
  refine Go_bipush (q := 21) (v := (59 : Int32)) C dX10_isSign_19 rfl rfl ?_
  refine Go_icmp_lt (t := 34) (q := 24) C hw dX10_isSign_21 rfl rfl (fun hw => ?_) (fun hw => ?_)
  · refine Go_iconst (q := 35) (v := (0 : Int32)) C dX10_isSign_34 rfl rfl ?_
    exact Go_zret C hQ hR rfl hw dX10_isSign_35
  · refine Go_iload_n (q := 25) C 0 rfl dX10_isSign_24 rfl ?_
    refine Go_bipush (q := 27) (v := (61 : Int32)) C dX10_isSign_25 rfl rfl ?_
    refine Go_icmp_gt (t := 34) (q := 30) C hw dX10_isSign_27 rfl rfl (fun hw => ?_) (fun hw => ?_)
    · refine Go_iconst (q := 35) (v := (0 : Int32)) C dX10_isSign_34 rfl rfl ?_
      exact Go_zret C hQ hR rfl hw dX10_isSign_35
    · refine Go_iconst (q := 31) (v := (1 : Int32)) C dX10_isSign_30 rfl rfl ?_
      refine Go_goto (q := 35) C dX10_isSign_31 rfl ?_
      exact Go_zret C hQ hR rfl hw dX10_isSign_35
set_option maxRecDepth 100000 in
set_option maxHeartbeats 4000000 in
theorem c_X10_isSign (l : Launch) {p0 : Int32} {S : St} {Q : Int32 → St → Prop} (hR : RCE S) (hw : w_X10_isSign p0 S Q) : MetI l yX10_isSign (wB yX10_isSign cX10_isSign 1 (some .boolean)) rm_X10_isSign shE NE RCE (fun ad => [.int p0]) S Q := by
  refine MetI_of (cc := cX10_isSign) (maxL := 1) (ret := (some .boolean)) (plainFor_of_name (by decide)) (fun _ => Nat.le_of_ble_eq_true rfl) (fun G C hl hQ => ?_)
  subst hl
  have C : Cx G cX10_isSign BIG RX10 1 (some .boolean) rm_X10_isSign shE NE := C
  show Go G 1 0 [] [(0, .int p0)] S
  unfold w_X10_isSign at hw
  refine Go_iload_n (q := 1) C 0 rfl dX10_isSign_0 rfl ?_
  refine Go_bipush (q := 3) (v := (40 : Int32)) C dX10_isSign_1 rfl rfl ?_
  refine Go_icmp_lt (t := 18) (q := 6) C hw dX10_isSign_3 rfl rfl (fun hw => ?_) (fun hw => ?_)
  · refine Go_lvp [0] rfl ?_
    exact g_X10_isSign_18 C hQ p0 hR hw
  · refine Go_iload_n (q := 7) C 0 rfl dX10_isSign_6 rfl ?_
    refine Go_bipush (q := 9) (v := (45 : Int32)) C dX10_isSign_7 rfl rfl ?_
    refine Go_icmp_gt (t := 18) (q := 12) C hw dX10_isSign_9 rfl rfl (fun hw => ?_) (fun hw => ?_)
    · refine Go_lvp [0] rfl ?_
      exact g_X10_isSign_18 C hQ p0 hR hw
    · refine Go_iload_n (q := 13) C 0 rfl dX10_isSign_12 rfl ?_
      refine Go_bipush (q := 15) (v := (44 : Int32)) C dX10_isSign_13 rfl rfl ?_
      refine Go_icmp_ne (t := 30) (q := 18) C hw dX10_isSign_15 rfl rfl (fun hw => ?_) (fun hw => ?_)
      · refine Go_lvp [0] rfl ?_
        exact g_X10_isSign_18 C hQ p0 hR hw
      · refine Go_iconst (q := 31) (v := (1 : Int32)) C dX10_isSign_30 rfl rfl ?_
        refine Go_goto (q := 35) C dX10_isSign_31 rfl ?_
        exact Go_zret C hQ hR rfl hw dX10_isSign_35
-- X10_cutToken
abbrev rm_X10_cutToken : Room := { frames := 3, cells := 0, slots := 0, locals := 70 }
set_option maxRecDepth 100000 in
set_option maxHeartbeats 4000000 in
theorem g_X10_cutToken_53 {G : GC} (C : Cx G cX10_cutToken BIG RX10 3 (some .int) rm_X10_cutToken shE NE) {Q : Int32 → St → Prop} (hQ : QI G RCE Q) (p0 : Int32) (t0 : Int32) (t1 : Int32) {S : St} (hR : RCE S) (hw : w_X10_cutToken_53 p0 Q t0 t1 S) : Go G 3 53 [.int t0, .int t1, .ref (Gad G (1))] [(1, .int p0)] S := by
  unfold w_X10_cutToken_53 at hw
  refine Go_lconst (q := 54) (v := (0 : Int64)) C dX10_cutToken_53 rfl rfl ?_
  refine Go_callV_V (av := (fun ad => [.int t1, .int t0, .long (0 : Int64)])) (st := []) (C := C) (hM := c_X10_addToken (Gl G) hR hw) (hlk := wm_17_1) (hini := wm_1_16) (hins := wm_17_2) (hsel := wm_17_3) (hcode := wm_17_4) (ho := kE_1) (hci := rfl) (hc13 := by decide) (n := 3) (hd := by decide +kernel) (hr0 := ⟨rfl, rfl⟩) (hroom := ⟨by first | decide | (dsimp only; omega), by first | decide | (dsimp only; omega)⟩) (hlen := rfl) (hst := rfl) (hW := Nat.le_of_ble_eq_true rfl) (hdg := dX10_cutToken_54) (q := 57) (hq := rfl) (fun S54_11 hw hR => ?_)
  refine Go_iload_n (q := 58) C 0 rfl dX10_cutToken_57 rfl ?_
  refine Go_iconst (q := 59) (v := (1 : Int32)) C dX10_cutToken_58 rfl rfl ?_
  refine Go_iadd (q := 60) C dX10_cutToken_59 rfl ?_
  exact Go_iret C hQ hR hw dX10_cutToken_60
set_option maxRecDepth 100000 in
set_option maxHeartbeats 4000000 in
theorem c_X10_cutToken (l : Launch) {p0 : Int32} {S : St} {Q : Int32 → St → Prop} (hR : RCE S) (hw : w_X10_cutToken p0 S Q) : MetI l yX10_cutToken (wB yX10_cutToken cX10_cutToken 3 (some .int)) rm_X10_cutToken shE NE RCE (fun ad => [.ref (ad (1)), .int p0]) S Q := by
  refine MetI_of (cc := cX10_cutToken) (maxL := 3) (ret := (some .int)) (plainFor_of_name (by decide)) (fun _ => Nat.le_of_ble_eq_true rfl) (fun G C hl hQ => ?_)
  subst hl
  have C : Cx G cX10_cutToken BIG RX10 3 (some .int) rm_X10_cutToken shE NE := C
  show Go G 3 0 [] [(0, .ref (Gad G (1))), (1, .int p0)] S
  unfold w_X10_cutToken at hw
  refine Go_aload_n (q := 1) C 0 rfl dX10_cutToken_0 rfl ?_
  refine Go_iload_n (q := 2) C 1 rfl dX10_cutToken_1 rfl ?_
  refine Go_callV_I (av := (fun ad => [.int p0])) (st := []) (C := C) (hM := c_X10_signAt (Gl G)  hR hw) (hlk := wm_16_13) (hini := wm_1_16) (hins := wm_16_14) (hsel := wm_16_15) (hcode := wm_16_16) (ho := kE_1) (hci := rfl) (hc13 := by decide) (n := 1) (hd := by decide +kernel) (hr0 := ⟨rfl, rfl⟩) (hroom := ⟨by first | decide | (dsimp only; omega), by first | decide | (dsimp only; omega)⟩) (hlen := rfl) (hst := rfl) (hW := Nat.le_of_ble_eq_true rfl) (hdg := dX10_cutToken_2) (q := 5) (hq := rfl) (fun r2_2 S2_1 hw hR => ?_)
  refine Go_istore_n (q := 6) (lv' := [(2, .int r2_2), (0, .ref (Gad G (1))), (1, .int p0)]) C rfl dX10_cutToken_5 (by decide) rfl rfl ?_
  refine Go_iload_n (q := 7) C 0 rfl dX10_cutToken_6 rfl ?_
  refine Go_callS_I (av := (fun ad => [.int r2_2])) (st := []) (C := C) (hM := c_X10_isLetter (Gl G)  hR hw) (hlk := wm_5_19) (hini := wm_1_16) (hst2 := wm_5_20) (hcode := wm_5_21) (n := 1) (hd := by decide +kernel) (hr0 := ⟨rfl, rfl⟩) (hroom := ⟨by first | decide | (dsimp only; omega), by first | decide | (dsimp only; omega)⟩) (hlen := rfl) (hst := rfl) (hW := Nat.le_of_ble_eq_true rfl) (hdg := dX10_cutToken_7) (q := 10) (hq := rfl) (fun r7_4 S7_3 hw hR => ?_)
  refine Go_if_eq (t := 19) (q := 13) C hw dX10_cutToken_10 rfl rfl (fun hw => ?_) (fun hw => ?_)
  · refine Go_iload_n (q := 20) C 0 rfl dX10_cutToken_19 rfl ?_
    refine Go_callS_I (av := (fun ad => [.int r2_2])) (st := []) (C := C) (hM := c_X10_isDigit (Gl G)  hR hw) (hlk := wm_17_5) (hini := wm_1_16) (hst2 := wm_17_6) (hcode := wm_17_7) (n := 1) (hd := by decide +kernel) (hr0 := ⟨rfl, rfl⟩) (hroom := ⟨by first | decide | (dsimp only; omega), by first | decide | (dsimp only; omega)⟩) (hlen := rfl) (hst := rfl) (hW := Nat.le_of_ble_eq_true rfl) (hdg := dX10_cutToken_20) (q := 23) (hq := rfl) (fun r20_6 S20_5 hw hR => ?_)
    refine Go_if_eq (t := 32) (q := 26) C hw dX10_cutToken_23 rfl rfl (fun hw => ?_) (fun hw => ?_)
    · refine Go_iload_n (q := 33) C 0 rfl dX10_cutToken_32 rfl ?_
      refine Go_callS_I (av := (fun ad => [.int r2_2])) (st := []) (C := C) (hM := c_X10_isBlank (Gl G)  hR hw) (hlk := wm_17_14) (hini := wm_1_16) (hst2 := wm_17_15) (hcode := wm_17_16) (n := 1) (hd := by decide +kernel) (hr0 := ⟨rfl, rfl⟩) (hroom := ⟨by first | decide | (dsimp only; omega), by first | decide | (dsimp only; omega)⟩) (hlen := rfl) (hst := rfl) (hW := Nat.le_of_ble_eq_true rfl) (hdg := dX10_cutToken_33) (q := 36) (hq := rfl) (fun r33_8 S33_7 hw hR => ?_)
      refine Go_if_ne (t := 57) (q := 39) C hw dX10_cutToken_36 rfl rfl (fun hw => ?_) (fun hw => ?_)
      · refine Go_aload_n (q := 40) C 1 rfl dX10_cutToken_39 rfl ?_
        refine Go_iload_n (q := 41) C 2 rfl dX10_cutToken_40 rfl ?_
        refine Go_iload_n (q := 42) C 0 rfl dX10_cutToken_41 rfl ?_
        refine Go_callS_I (av := (fun ad => [.int r2_2])) (st := [.int p0, .ref (Gad G (1))]) (C := C) (hM := c_X10_isSign (Gl G)  hR hw) (hlk := wm_17_17) (hini := wm_1_16) (hst2 := wm_17_18) (hcode := wm_17_19) (n := 1) (hd := by decide +kernel) (hr0 := ⟨rfl, rfl⟩) (hroom := ⟨by first | decide | (dsimp only; omega), by first | decide | (dsimp only; omega)⟩) (hlen := rfl) (hst := rfl) (hW := Nat.le_of_ble_eq_true rfl) (hdg := dX10_cutToken_42) (q := 45) (hq := rfl) (fun r42_10 S42_9 hw hR => ?_)
        refine Go_if_eq (t := 52) (q := 48) C hw dX10_cutToken_45 rfl rfl (fun hw => ?_) (fun hw => ?_)
        · refine Go_iconst (q := 53) (v := (1 : Int32)) C dX10_cutToken_52 rfl rfl ?_
          refine Go_lvp [2] rfl ?_
          exact g_X10_cutToken_53 C hQ p0 _ _ hR hw
        · refine Go_iload_n (q := 49) C 0 rfl dX10_cutToken_48 rfl ?_
          refine Go_goto (q := 53) C dX10_cutToken_49 rfl ?_
          refine Go_lvp [2] rfl ?_
          exact g_X10_cutToken_53 C hQ p0 _ _ hR hw
      · refine Go_iload_n (q := 58) C 2 rfl dX10_cutToken_57 rfl ?_
        refine Go_iconst (q := 59) (v := (1 : Int32)) C dX10_cutToken_58 rfl rfl ?_
        refine Go_iadd (q := 60) C dX10_cutToken_59 rfl ?_
        exact Go_iret C hQ hR hw dX10_cutToken_60
    · refine Go_aload_n (q := 27) C 1 rfl dX10_cutToken_26 rfl ?_
      refine Go_iload_n (q := 28) C 2 rfl dX10_cutToken_27 rfl ?_
      refine Go_callV_I (av := (fun ad => [.int p0])) (st := []) (C := C) (hM := c_X10_cutNumber (Gl G)  hR hw) (hlk := wm_17_8) (hini := wm_1_16) (hins := wm_17_9) (hsel := wm_17_10) (hcode := wm_17_11) (ho := kE_1) (hci := rfl) (hc13 := by decide) (n := 1) (hd := by decide +kernel) (hr0 := ⟨rfl, rfl⟩) (hroom := ⟨by first | decide | (dsimp only; omega), by first | decide | (dsimp only; omega)⟩) (hlen := rfl) (hst := rfl) (hW := Nat.le_of_ble_eq_true rfl) (hdg := dX10_cutToken_28) (q := 31) (hq := rfl) (fun r28_13 S28_12 hw hR => ?_)
      exact Go_iret C hQ hR hw dX10_cutToken_31
  · refine Go_aload_n (q := 14) C 1 rfl dX10_cutToken_13 rfl ?_
    refine Go_iload_n (q := 15) C 2 rfl dX10_cutToken_14 rfl ?_
    refine Go_callV_I (av := (fun ad => [.int p0])) (st := []) (C := C) (hM := c_X10_cutWord (Gl G)  hR hw) (hlk := wm_16_17) (hini := wm_1_16) (hins := wm_16_18) (hsel := wm_16_19) (hcode := wm_16_20) (ho := kE_1) (hci := rfl) (hc13 := by decide) (n := 1) (hd := by decide +kernel) (hr0 := ⟨rfl, rfl⟩) (hroom := ⟨by first | decide | (dsimp only; omega), by first | decide | (dsimp only; omega)⟩) (hlen := rfl) (hst := rfl) (hW := Nat.le_of_ble_eq_true rfl) (hdg := dX10_cutToken_15) (q := 18) (hq := rfl) (fun r15_15 S15_14 hw hR => ?_)
    exact Go_iret C hQ hR hw dX10_cutToken_18
-- X10_cut
abbrev rm_X10_cut : Room := { frames := 4, cells := 0, slots := 0, locals := 92 }
set_option maxRecDepth 100000 in
set_option maxHeartbeats 4000000 in
theorem g_X10_cut_36 {G : GC} (C : Cx G cX10_cut BIG RX10 3 none rm_X10_cut shE NE) {Q : St → Prop} (hQ : QV G RCE Q) {S : St} (hR : RCE S) (hw : w_X10_cut_36 Q S) : Go G 3 36 [] [(0, .ref (Gad G (1)))] S := by
  unfold w_X10_cut_36 at hw
  refine Go_aload_n (q := 37) C 0 rfl dX10_cut_36 rfl ?_
  refine Go_aload_n (q := 38) C 0 rfl dX10_cut_37 rfl ?_
  refine Go_getI (q := 41) (k := 5) C ci10 iw_10 kE_1 rfl wm_15_9 rfl dX10_cut_38 rfl ?_
  refine Go_iconst (q := 42) (v := (0 : Int32)) C dX10_cut_41 rfl rfl ?_
  refine Go_lconst (q := 43) (v := (0 : Int64)) C dX10_cut_42 rfl rfl ?_
  refine Go_callV_V (av := (fun ad => [.int (gI S 1 5), .int (0 : Int32), .long (0 : Int64)])) (st := []) (C := C) (hM := c_X10_addToken (Gl G) hR hw) (hlk := wm_17_1) (hini := wm_1_16) (hins := wm_17_2) (hsel := wm_17_3) (hcode := wm_17_4) (ho := kE_1) (hci := rfl) (hc13 := by decide) (n := 3) (hd := by decide +kernel) (hr0 := ⟨rfl, rfl⟩) (hroom := ⟨by first | decide | (dsimp only; omega), by first | decide | (dsimp only; omega)⟩) (hlen := rfl) (hst := rfl) (hW := Nat.le_of_ble_eq_true rfl) (hdg := dX10_cut_43) (q := 46) (hq := rfl) (fun S43_2 hw hR => ?_)
  refine Go_aload_n (q := 47) C 0 rfl dX10_cut_46 rfl ?_
  refine Go_iconst (q := 48) (v := (0 : Int32)) C dX10_cut_47 rfl rfl ?_
  refine Go_putI (q := 51) (k := 5) C ci10 iw_10 kE_1 rfl wm_15_9 rfl rfl (ci10.2.2.2.1 5 (by decide)) rfl rfl dX10_cut_48 rfl ?_
  refine Go_S (fun S48_3 e_S48_3 => ?_)
  have hw := hw S48_3 e_S48_3
  have hR := rcE e_S48_3 hR
  exact Go_vret C hQ hR hw dX10_cut_51
set_option maxRecDepth 100000 in
set_option maxHeartbeats 4000000 in
theorem g_X10_cut_9 {G : GC} (C : Cx G cX10_cut BIG RX10 3 none rm_X10_cut shE NE) {Q : St → Prop} (hQ : QV G RCE Q) (v1 : Int32) (v2 : Int32) {S : St} (hR : RCE S) (hw : w_X10_cut_9 Q v1 v2 S) : Go G 3 9 [] [(0, .ref (Gad G (1))), (1, .int v1), (2, .int v2)] S := by
  obtain ⟨n, hw⟩ := hw
  induction n generalizing v1 v2 S with
  | zero => exact hw.elim
  | succ n ih =>
    have hw : b_X10_cut_9 Q (lpn (fun _ _ _ => False) (b_X10_cut_9 Q) n) v1 v2 S := hw
    generalize lpn (fun _ _ _ => False) (b_X10_cut_9 Q) n = kf at hw ih
    have hk9 := fun (v1 : Int32) (v2 : Int32) (S : St) (hR : RCE S) hw => ih v1 v2 hR hw
    unfold b_X10_cut_9 at hw
    refine Go_iload_n (q := 10) C 2 rfl dX10_cut_9 rfl ?_
    refine Go_sipush (q := 13) (v := (1000 : Int32)) C dX10_cut_10 rfl rfl ?_
    refine Go_icmp_ge (t := 36) (q := 16) C hw dX10_cut_13 rfl rfl (fun hw => ?_) (fun hw => ?_)
    · refine Go_lvp [0] rfl ?_
      exact g_X10_cut_36 C hQ hR hw
    · refine Go_iload_n (q := 17) C 1 rfl dX10_cut_16 rfl ?_
      refine Go_aload_n (q := 18) C 0 rfl dX10_cut_17 rfl ?_
      refine Go_getI (q := 21) (k := 5) C ci10 iw_10 kE_1 rfl wm_15_9 rfl dX10_cut_18 rfl ?_
      refine Go_icmp_ge (t := 36) (q := 24) C hw dX10_cut_21 rfl rfl (fun hw => ?_) (fun hw => ?_)
      · refine Go_lvp [0] rfl ?_
        exact g_X10_cut_36 C hQ hR hw
      · refine Go_aload_n (q := 25) C 0 rfl dX10_cut_24 rfl ?_
        refine Go_iload_n (q := 26) C 1 rfl dX10_cut_25 rfl ?_
        refine Go_callV_I (av := (fun ad => [.int v1])) (st := []) (C := C) (hM := c_X10_cutToken (Gl G) hR hw) (hlk := wm_16_9) (hini := wm_1_16) (hins := wm_16_10) (hsel := wm_16_11) (hcode := wm_16_12) (ho := kE_1) (hci := rfl) (hc13 := by decide) (n := 1) (hd := by decide +kernel) (hr0 := ⟨rfl, rfl⟩) (hroom := ⟨by first | decide | (dsimp only; omega), by first | decide | (dsimp only; omega)⟩) (hlen := rfl) (hst := rfl) (hW := Nat.le_of_ble_eq_true rfl) (hdg := dX10_cut_26) (q := 29) (hq := rfl) (fun r26_5 S26_4 hw hR => ?_)
        refine Go_istore_n (q := 30) (lv' := [(1, .int r26_5), (0, .ref (Gad G (1))), (2, .int v2)]) C rfl dX10_cut_29 (by decide) rfl rfl ?_
        refine Go_iinc2 (q := 33) (kp := 2) (cst := (1 : Int32)) C dX10_cut_30 rfl rfl (by decide) rfl (fun x30_6 e_x30_6 => ?_)
        have hw := hw x30_6 e_x30_6
        refine Go_lve (lv' := [(2, .int x30_6), (1, .int r26_5), (0, .ref (Gad G (1)))]) rfl ?_
        refine Go_goto (q := 9) C dX10_cut_33 rfl ?_
        refine Go_lvp [2, 1, 0] rfl ?_
        exact hk9 _ _ _ hR hw
set_option maxRecDepth 100000 in
set_option maxHeartbeats 4000000 in
theorem c_X10_cut (l : Launch) {S : St} {Q : St → Prop} (hR : RCE S) (hw : w_X10_cut S Q) : MetV l yX10_cut (wB yX10_cut cX10_cut 3 none) rm_X10_cut shE NE RCE (fun ad => [.ref (ad (1))]) S Q := by
  refine MetV_of (cc := cX10_cut) (maxL := 3) (ret := none) (plainFor_of_name (by decide)) (fun _ => Nat.le_of_ble_eq_true rfl) (fun G C hl hQ => ?_)
  subst hl
  have C : Cx G cX10_cut BIG RX10 3 none rm_X10_cut shE NE := C
  show Go G 3 0 [] [(0, .ref (Gad G (1)))] S
  unfold w_X10_cut at hw
  refine Go_aload_n (q := 1) C 0 rfl dX10_cut_0 rfl ?_
  refine Go_iconst (q := 2) (v := (0 : Int32)) C dX10_cut_1 rfl rfl ?_
  refine Go_putI (q := 5) (k := 6) C ci10 iw_10 kE_1 rfl wm_16_8 rfl rfl (ci10.2.2.2.1 6 (by decide)) rfl rfl dX10_cut_2 rfl ?_
  refine Go_S (fun S2_1 e_S2_1 => ?_)
  have hw := hw S2_1 e_S2_1
  have hR := rcE e_S2_1 hR
  refine Go_iconst (q := 6) (v := (0 : Int32)) C dX10_cut_5 rfl rfl ?_
  refine Go_istore_n (q := 7) (lv' := [(1, .int (0 : Int32)), (0, .ref (Gad G (1)))]) C rfl dX10_cut_6 (by decide) rfl rfl ?_
  refine Go_iconst (q := 8) (v := (0 : Int32)) C dX10_cut_7 rfl rfl ?_
  refine Go_istore_n (q := 9) (lv' := [(2, .int (0 : Int32)), (1, .int (0 : Int32)), (0, .ref (Gad G (1)))]) C rfl dX10_cut_8 (by decide) rfl rfl ?_
  refine Go_lvp [2, 1, 0] rfl ?_
  exact g_X10_cut_9 C hQ _ _ hR hw
-- X11_cell
abbrev rm_X11_cell : Room := { frames := 0, cells := 0, slots := 0, locals := 0 }
set_option maxRecDepth 100000 in
set_option maxHeartbeats 4000000 in
theorem c_X11_cell (l : Launch) {p0 : Nat} (hp0 : ok shE NE p0 14 (lnE p0)) {p1 : Int32} {S : St} {Q : Int32 → St → Prop} (hR : RCE S) (hw : w_X11_cell p0 p1 S Q) : MetI l yX11_cell (wB yX11_cell cX11_cell 2 (some .int)) rm_X11_cell shE NE RCE (fun ad => [.ref (ad (p0)), .int p1]) S Q := by
  refine MetI_of (cc := cX11_cell) (maxL := 2) (ret := (some .int)) (plainFor_of_name (by decide)) (fun _ => Nat.le_of_ble_eq_true rfl) (fun G C hl hQ => ?_)
  subst hl
  have C : Cx G cX11_cell BIG RX11 2 (some .int) rm_X11_cell shE NE := C
  show Go G 2 0 [] [(0, .ref (Gad G (p0))), (1, .int p1)] S
  unfold w_X11_cell at hw
  refine Go_iload_n (q := 1) C 1 rfl dX11_cell_0 rfl ?_
  refine Go_if_lt (t := 16) (q := 4) C hw dX11_cell_1 rfl rfl (fun hw => ?_) (fun hw => ?_)
  · refine Go_iconst (q := 17) (v := (-1 : Int32)) C dX11_cell_16 rfl rfl ?_
    exact Go_iret C hQ hR hw dX11_cell_17
  · refine Go_iload_n (q := 5) C 1 rfl dX11_cell_4 rfl ?_
    refine Go_aload_n (q := 6) C 0 rfl dX11_cell_5 rfl ?_
    refine Go_alen2 (q := 7) (v := nI (lnE p0)) C hp0 (by decide) rfl dX11_cell_6 rfl ?_
    refine Go_icmp_ge (t := 16) (q := 10) C hw dX11_cell_7 rfl rfl (fun hw => ?_) (fun hw => ?_)
    · refine Go_iconst (q := 17) (v := (-1 : Int32)) C dX11_cell_16 rfl rfl ?_
      exact Go_iret C hQ hR hw dX11_cell_17
    · refine Go_aload_n (q := 11) C 0 rfl dX11_cell_10 rfl ?_
      refine Go_iload_n (q := 12) C 1 rfl dX11_cell_11 rfl ?_
      obtain ⟨hin, hw⟩ := hw
      refine Go_iaload (q := 13) C hp0 hin dX11_cell_12 rfl ?_
      refine Go_goto (q := 17) C dX11_cell_13 rfl ?_
      exact Go_iret C hQ hR hw dX11_cell_17
-- X8_holdToken
abbrev rm_X8_holdToken : Room := { frames := 1, cells := 0, slots := 0, locals := 21 }
set_option maxRecDepth 100000 in
set_option maxHeartbeats 4000000 in
theorem c_X8_holdToken (l : Launch) {p0 : Int32} {S : St} {Q : St → Prop} (hR : RCE S) (hw : w_X8_holdToken p0 S Q) : MetV l yX8_holdToken (wB yX8_holdToken cX8_holdToken 2 none) rm_X8_holdToken shE NE RCE (fun ad => [.ref (ad (7)), .int p0]) S Q := by
  refine MetV_of (cc := cX8_holdToken) (maxL := 2) (ret := none) (plainFor_of_name (by decide)) (fun _ => Nat.le_of_ble_eq_true rfl) (fun G C hl hQ => ?_)
  subst hl
  have C : Cx G cX8_holdToken BIG RX8 2 none rm_X8_holdToken shE NE := C
  show Go G 2 0 [] [(0, .ref (Gad G (7))), (1, .int p0)] S
  unfold w_X8_holdToken at hw
  refine Go_iload_n (q := 1) C 1 rfl dX8_holdToken_0 rfl ?_
  refine Go_if_lt (t := 60) (q := 4) C hw dX8_holdToken_1 rfl rfl (fun hw => ?_) (fun hw => ?_)
  · exact Go_vret C hQ hR hw dX8_holdToken_60
  · refine Go_iload_n (q := 5) C 1 rfl dX8_holdToken_4 rfl ?_
    refine Go_aload_n (q := 6) C 0 rfl dX8_holdToken_5 rfl ?_
    refine Go_getA (q := 9) (k := 0) C ci8 iw_8 kE_7 (rE_7_0 hR) rfl wm_6_12 rfl dX8_holdToken_6 rfl ?_
    refine Go_getIN (q := 12) (k := 6) (host := "EndsRound") C ci10 iw_10 kE_1 rfl nw_4 rfl dX8_holdToken_9 rfl ?_
    refine Go_icmp_ge (t := 60) (q := 15) C hw dX8_holdToken_12 rfl rfl (fun hw => ?_) (fun hw => ?_)
    · exact Go_vret C hQ hR hw dX8_holdToken_60
    · refine Go_iload_n (q := 16) C 1 rfl dX8_holdToken_15 rfl ?_
      refine Go_aload_n (q := 17) C 0 rfl dX8_holdToken_16 rfl ?_
      refine Go_getA (q := 20) (k := 0) C ci8 iw_8 kE_7 (rE_7_0 hR) rfl wm_6_12 rfl dX8_holdToken_17 rfl ?_
      refine Go_getAN (q := 23) (k := 3) (host := "EndsRound") C ci10 iw_10 kE_1 (rE_1_3 hR) rfl nw_2 rfl dX8_holdToken_20 rfl ?_
      refine Go_alen2 (q := 24) (v := (1001 : Int32)) C kE_5 (by decide) rfl dX8_holdToken_23 rfl ?_
      refine Go_icmp_ge (t := 60) (q := 27) C hw dX8_holdToken_24 rfl rfl (fun hw => ?_) (fun hw => ?_)
      · exact Go_vret C hQ hR hw dX8_holdToken_60
      · refine Go_aload_n (q := 28) C 0 rfl dX8_holdToken_27 rfl ?_
        refine Go_iload_n (q := 29) C 1 rfl dX8_holdToken_28 rfl ?_
        refine Go_putI (q := 32) (k := 4) C ci8 iw_8 kE_7 rfl wm_18_0 rfl rfl (ci8.2.2.2.1 4 (by decide)) rfl rfl dX8_holdToken_29 rfl ?_
        refine Go_S (fun S29_1 e_S29_1 => ?_)
        have hw := hw S29_1 e_S29_1
        have hR := rcE e_S29_1 hR
        refine Go_aload_n (q := 33) C 0 rfl dX8_holdToken_32 rfl ?_
        refine Go_aload_n (q := 34) C 0 rfl dX8_holdToken_33 rfl ?_
        refine Go_getA (q := 37) (k := 0) C ci8 iw_8 kE_7 (rE_7_0 hR) rfl wm_6_12 rfl dX8_holdToken_34 rfl ?_
        refine Go_getAN (q := 40) (k := 1) (host := "EndsRound") C ci10 iw_10 kE_1 (rE_1_1 hR) rfl nw_0 rfl dX8_holdToken_37 rfl ?_
        refine Go_iload_n (q := 41) C 1 rfl dX8_holdToken_40 rfl ?_
        refine Go_callSN_I (av := (fun ad => [.ref (ad (3)), .int p0])) (st := [.ref (Gad G (7))]) (C := C) (hM := c_X11_cell (Gl G) (ok_ln kE_3) hR hw) (host := "EndsRound") (hnw := nw_84) (hini := wm_1_2) (hst2 := wm_10_22) (hcode := wm_10_23) (n := 2) (hd := by decide +kernel) (hr0 := ⟨rfl, rfl⟩) (hroom := ⟨by first | decide | (dsimp only; omega), by first | decide | (dsimp only; omega)⟩) (hlen := rfl) (hst := rfl) (hW := Nat.le_of_ble_eq_true rfl) (hdg := dX8_holdToken_41) (q := 44) (hq := rfl) (fun r41_3 S41_2 hw hR => ?_)
        refine Go_putI (q := 47) (k := 5) C ci8 iw_8 kE_7 rfl wm_16_3 rfl rfl (ci8.2.2.2.1 5 (by decide)) rfl rfl dX8_holdToken_44 rfl ?_
        refine Go_S (fun S44_4 e_S44_4 => ?_)
        have hw := hw S44_4 e_S44_4
        have hR := rcE e_S44_4 hR
        refine Go_aload_n (q := 48) C 0 rfl dX8_holdToken_47 rfl ?_
        refine Go_aload_n (q := 49) C 0 rfl dX8_holdToken_48 rfl ?_
        refine Go_getA (q := 52) (k := 0) C ci8 iw_8 kE_7 (rE_7_0 hR) rfl wm_6_12 rfl dX8_holdToken_49 rfl ?_
        refine Go_getAN (q := 55) (k := 3) (host := "EndsRound") C ci10 iw_10 kE_1 (rE_1_3 hR) rfl nw_2 rfl dX8_holdToken_52 rfl ?_
        refine Go_iload_n (q := 56) C 1 rfl dX8_holdToken_55 rfl ?_
        obtain ⟨hin, hw⟩ := hw
        refine Go_laload (q := 57) C kE_5 hin dX8_holdToken_56 rfl ?_
        refine Go_putJ (q := 60) (k := 6) C ci8 iw_8 kE_7 rfl wm_18_1 rfl rfl (ci8.2.2.2.1 6 (by decide)) rfl rfl dX8_holdToken_57 rfl ?_
        refine Go_S (fun S57_5 e_S57_5 => ?_)
        have hw := hw S57_5 e_S57_5
        have hR := rcEJ e_S57_5 hR
        exact Go_vret C hQ hR hw dX8_holdToken_60
-- X8_isWrong
abbrev rm_X8_isWrong : Room := { frames := 1, cells := 0, slots := 0, locals := 21 }
set_option maxRecDepth 100000 in
set_option maxHeartbeats 4000000 in
theorem c_X8_isWrong (l : Launch) {p0 : Int32} {S : St} {Q : Int32 → St → Prop} (hR : RCE S) (hw : w_X8_isWrong p0 S Q) : MetI l yX8_isWrong (wB yX8_isWrong cX8_isWrong 2 (some .boolean)) rm_X8_isWrong shE NE RCE (fun ad => [.ref (ad (7)), .int p0]) S Q := by
  refine MetI_of (cc := cX8_isWrong) (maxL := 2) (ret := (some .boolean)) (plainFor_of_name (by decide)) (fun _ => Nat.le_of_ble_eq_true rfl) (fun G C hl hQ => ?_)
  subst hl
  have C : Cx G cX8_isWrong BIG RX8 2 (some .boolean) rm_X8_isWrong shE NE := C
  show Go G 2 0 [] [(0, .ref (Gad G (7))), (1, .int p0)] S
  unfold w_X8_isWrong at hw
  refine Go_aload_n (q := 1) C 0 rfl dX8_isWrong_0 rfl ?_
  refine Go_iload_n (q := 2) C 1 rfl dX8_isWrong_1 rfl ?_
  refine Go_bipush (q := 4) (v := (16 : Int32)) C dX8_isWrong_2 rfl rfl ?_
  refine Go_aload_n (q := 5) C 0 rfl dX8_isWrong_4 rfl ?_
  refine Go_getA (q := 8) (k := 0) C ci8 iw_8 kE_7 (rE_7_0 hR) rfl wm_6_12 rfl dX8_isWrong_5 rfl ?_
  refine Go_getAN (q := 11) (k := 2) (host := "EndsRound") C ci10 iw_10 kE_1 (rE_1_2 hR) rfl nw_1 rfl dX8_isWrong_8 rfl ?_
  refine Go_aload_n (q := 12) C 0 rfl dX8_isWrong_11 rfl ?_
  refine Go_getI (q := 15) (k := 4) C ci8 iw_8 kE_7 rfl wm_18_0 rfl dX8_isWrong_12 rfl ?_
  refine Go_callSN_I (av := (fun ad => [.ref (ad (4)), .int (gI S 7 4)])) (st := [.int (16 : Int32), .int p0, .ref (Gad G (7))]) (C := C) (hM := c_X11_cell (Gl G) (ok_ln kE_4) hR hw) (host := "EndsRound") (hnw := nw_84) (hini := wm_1_2) (hst2 := wm_10_22) (hcode := wm_10_23) (n := 2) (hd := by decide +kernel) (hr0 := ⟨rfl, rfl⟩) (hroom := ⟨by first | decide | (dsimp only; omega), by first | decide | (dsimp only; omega)⟩) (hlen := rfl) (hst := rfl) (hW := Nat.le_of_ble_eq_true rfl) (hdg := dX8_isWrong_15) (q := 18) (hq := rfl) (fun r15_2 S15_1 hw hR => ?_)
  refine Go_imul (q := 19) C dX8_isWrong_18 rfl ?_
  refine Go_iadd (q := 20) C dX8_isWrong_19 rfl ?_
  refine Go_putI (q := 23) (k := 8) C ci8 iw_8 kE_7 rfl wm_16_1 rfl rfl (ci8.2.2.2.1 8 (by decide)) rfl rfl dX8_isWrong_20 rfl ?_
  refine Go_S (fun S20_3 e_S20_3 => ?_)
  have hw := hw S20_3 e_S20_3
  have hR := rcE e_S20_3 hR
  refine Go_iconst (q := 24) (v := (0 : Int32)) C dX8_isWrong_23 rfl rfl ?_
  exact Go_zret C hQ hR rfl hw dX8_isWrong_24
-- X8_takeKey
abbrev rm_X8_takeKey : Room := { frames := 2, cells := 0, slots := 0, locals := 42 }
set_option maxRecDepth 100000 in
set_option maxHeartbeats 4000000 in
theorem c_X8_takeKey (l : Launch) {p0 : Int32} {S : St} {Q : Int32 → St → Prop} (hR : RCE S) (hw : w_X8_takeKey p0 S Q) : MetI l yX8_takeKey (wB yX8_takeKey cX8_takeKey 2 (some .boolean)) rm_X8_takeKey shE NE RCE (fun ad => [.ref (ad (7)), .int p0]) S Q := by
  refine MetI_of (cc := cX8_takeKey) (maxL := 2) (ret := (some .boolean)) (plainFor_of_name (by decide)) (fun _ => Nat.le_of_ble_eq_true rfl) (fun G C hl hQ => ?_)
  subst hl
  have C : Cx G cX8_takeKey BIG RX8 2 (some .boolean) rm_X8_takeKey shE NE := C
  show Go G 2 0 [] [(0, .ref (Gad G (7))), (1, .int p0)] S
  unfold w_X8_takeKey at hw
  refine Go_aload_n (q := 1) C 0 rfl dX8_takeKey_0 rfl ?_
  refine Go_getI (q := 4) (k := 5) C ci8 iw_8 kE_7 rfl wm_16_3 rfl dX8_takeKey_1 rfl ?_
  refine Go_iload_n (q := 5) C 1 rfl dX8_takeKey_4 rfl ?_
  refine Go_icmp_eq (t := 14) (q := 8) C hw dX8_takeKey_5 rfl rfl (fun hw => ?_) (fun hw => ?_)
  · refine Go_aload_n (q := 15) C 0 rfl dX8_takeKey_14 rfl ?_
    refine Go_aload_n (q := 16) C 0 rfl dX8_takeKey_15 rfl ?_
    refine Go_getI (q := 19) (k := 4) C ci8 iw_8 kE_7 rfl wm_18_0 rfl dX8_takeKey_16 rfl ?_
    refine Go_iconst (q := 20) (v := (1 : Int32)) C dX8_takeKey_19 rfl rfl ?_
    refine Go_iadd (q := 21) C dX8_takeKey_20 rfl ?_
    refine Go_callV_V (av := (fun ad => [.int ((gI S 7 4) + (1 : Int32))])) (st := []) (C := C) (hM := c_X8_holdToken (Gl G)  hR hw) (hlk := wm_17_20) (hini := wm_1_20) (hins := wm_17_21) (hsel := wm_17_22) (hcode := wm_17_23) (ho := kE_7) (hci := rfl) (hc13 := by decide) (n := 1) (hd := by decide +kernel) (hr0 := ⟨rfl, rfl⟩) (hroom := ⟨by first | decide | (dsimp only; omega), by first | decide | (dsimp only; omega)⟩) (hlen := rfl) (hst := rfl) (hW := Nat.le_of_ble_eq_true rfl) (hdg := dX8_takeKey_21) (q := 24) (hq := rfl) (fun S21_1 hw hR => ?_)
    refine Go_iconst (q := 25) (v := (1 : Int32)) C dX8_takeKey_24 rfl rfl ?_
    exact Go_zret C hQ hR rfl hw dX8_takeKey_25
  · refine Go_aload_n (q := 9) C 0 rfl dX8_takeKey_8 rfl ?_
    refine Go_iconst (q := 10) (v := (1 : Int32)) C dX8_takeKey_9 rfl rfl ?_
    refine Go_callV_I (av := (fun ad => [.int (1 : Int32)])) (st := []) (C := C) (hM := c_X8_isWrong (Gl G)  hR hw) (hlk := wm_18_6) (hini := wm_1_20) (hins := wm_18_7) (hsel := wm_18_8) (hcode := wm_18_9) (ho := kE_7) (hci := rfl) (hc13 := by decide) (n := 1) (hd := by decide +kernel) (hr0 := ⟨rfl, rfl⟩) (hroom := ⟨by first | decide | (dsimp only; omega), by first | decide | (dsimp only; omega)⟩) (hlen := rfl) (hst := rfl) (hW := Nat.le_of_ble_eq_true rfl) (hdg := dX8_takeKey_10) (q := 13) (hq := rfl) (fun r10_3 S10_2 hw hR => ?_)
    exact Go_zret C hQ hR (zb hw.1) hw.2 dX8_takeKey_13
-- X8_takeNumber
abbrev rm_X8_takeNumber : Room := { frames := 2, cells := 0, slots := 0, locals := 42 }
set_option maxRecDepth 100000 in
set_option maxHeartbeats 4000000 in
theorem g_X8_takeNumber_50 {G : GC} (C : Cx G cX8_takeNumber BIG RX8 4 (some .boolean) rm_X8_takeNumber shE NE) {Q : Int32 → St → Prop} (hQ : QI G RCE Q) {S : St} (hR : RCE S) (hw : w_X8_takeNumber_50 Q S) : Go G 4 50 [] [(0, .ref (Gad G (7)))] S := by
  unfold w_X8_takeNumber_50 at hw
  refine Go_aload_n (q := 51) C 0 rfl dX8_takeNumber_50 rfl ?_
  refine Go_iconst (q := 52) (v := (4 : Int32)) C dX8_takeNumber_51 rfl rfl ?_
  refine Go_callV_I (av := (fun ad => [.int (4 : Int32)])) (st := []) (C := C) (hM := c_X8_isWrong (Gl G) hR hw) (hlk := wm_18_6) (hini := wm_1_20) (hins := wm_18_7) (hsel := wm_18_8) (hcode := wm_18_9) (ho := kE_7) (hci := rfl) (hc13 := by decide) (n := 1) (hd := by decide +kernel) (hr0 := ⟨rfl, rfl⟩) (hroom := ⟨by first | decide | (dsimp only; omega), by first | decide | (dsimp only; omega)⟩) (hlen := rfl) (hst := rfl) (hW := Nat.le_of_ble_eq_true rfl) (hdg := dX8_takeNumber_52) (q := 55) (hq := rfl) (fun r52_4 S52_3 hw hR => ?_)
  exact Go_zret C hQ hR (zb hw.1) hw.2 dX8_takeNumber_55
set_option maxRecDepth 100000 in
set_option maxHeartbeats 4000000 in
theorem c_X8_takeNumber (l : Launch) {p0 : Int32} {p1 : Int32} {p2 : Int32} {S : St} {Q : Int32 → St → Prop} (hR : RCE S) (hw : w_X8_takeNumber p0 p1 p2 S Q) : MetI l yX8_takeNumber (wB yX8_takeNumber cX8_takeNumber 4 (some .boolean)) rm_X8_takeNumber shE NE RCE (fun ad => [.ref (ad (7)), .int p0, .int p1, .int p2]) S Q := by
  refine MetI_of (cc := cX8_takeNumber) (maxL := 4) (ret := (some .boolean)) (plainFor_of_name (by decide)) (fun _ => Nat.le_of_ble_eq_true rfl) (fun G C hl hQ => ?_)
  subst hl
  have C : Cx G cX8_takeNumber BIG RX8 4 (some .boolean) rm_X8_takeNumber shE NE := C
  show Go G 4 0 [] [(0, .ref (Gad G (7))), (1, .int p0), (2, .int p1), (3, .int p2)] S
  unfold w_X8_takeNumber at hw
  refine Go_aload_n (q := 1) C 0 rfl dX8_takeNumber_0 rfl ?_
  refine Go_getI (q := 4) (k := 5) C ci8 iw_8 kE_7 rfl wm_16_3 rfl dX8_takeNumber_1 rfl ?_
  refine Go_iconst (q := 5) (v := (2 : Int32)) C dX8_takeNumber_4 rfl rfl ?_
  refine Go_icmp_eq (t := 14) (q := 8) C hw dX8_takeNumber_5 rfl rfl (fun hw => ?_) (fun hw => ?_)
  · refine Go_aload_n (q := 15) C 0 rfl dX8_takeNumber_14 rfl ?_
    refine Go_getJ (q := 18) (k := 6) C ci8 iw_8 kE_7 rfl wm_18_1 rfl dX8_takeNumber_15 rfl ?_
    refine Go_iload_n (q := 19) C 3 rfl dX8_takeNumber_18 rfl ?_
    refine Go_i2l (q := 20) C dX8_takeNumber_19 rfl ?_
    refine Go_lcmp_ne (t := 30) (q := 21) (q2 := 24) C hw dX8_takeNumber_20 rfl dX8_takeNumber_21 rfl rfl (fun hw => ?_) (fun hw => ?_)
    · refine Go_aload_n (q := 25) C 0 rfl dX8_takeNumber_24 rfl ?_
      refine Go_iconst (q := 26) (v := (3 : Int32)) C dX8_takeNumber_25 rfl rfl ?_
      refine Go_callV_I (av := (fun ad => [.int (3 : Int32)])) (st := []) (C := C) (hM := c_X8_isWrong (Gl G)  hR hw) (hlk := wm_18_6) (hini := wm_1_20) (hins := wm_18_7) (hsel := wm_18_8) (hcode := wm_18_9) (ho := kE_7) (hci := rfl) (hc13 := by decide) (n := 1) (hd := by decide +kernel) (hr0 := ⟨rfl, rfl⟩) (hroom := ⟨by first | decide | (dsimp only; omega), by first | decide | (dsimp only; omega)⟩) (hlen := rfl) (hst := rfl) (hW := Nat.le_of_ble_eq_true rfl) (hdg := dX8_takeNumber_26) (q := 29) (hq := rfl) (fun r26_2 S26_1 hw hR => ?_)
      exact Go_zret C hQ hR (zb hw.1) hw.2 dX8_takeNumber_29
    · refine Go_aload_n (q := 31) C 0 rfl dX8_takeNumber_30 rfl ?_
      refine Go_getJ (q := 34) (k := 6) C ci8 iw_8 kE_7 rfl wm_18_1 rfl dX8_takeNumber_31 rfl ?_
      refine Go_iload_n (q := 35) C 1 rfl dX8_takeNumber_34 rfl ?_
      refine Go_i2l (q := 36) C dX8_takeNumber_35 rfl ?_
      refine Go_lcmp_lt (t := 50) (q := 37) (q2 := 40) C hw dX8_takeNumber_36 rfl dX8_takeNumber_37 rfl rfl (fun hw => ?_) (fun hw => ?_)
      · refine Go_lvp [0] rfl ?_
        exact g_X8_takeNumber_50 C hQ hR hw
      · refine Go_aload_n (q := 41) C 0 rfl dX8_takeNumber_40 rfl ?_
        refine Go_getJ (q := 44) (k := 6) C ci8 iw_8 kE_7 rfl wm_18_1 rfl dX8_takeNumber_41 rfl ?_
        refine Go_iload_n (q := 45) C 2 rfl dX8_takeNumber_44 rfl ?_
        refine Go_i2l (q := 46) C dX8_takeNumber_45 rfl ?_
        refine Go_lcmp_le (t := 56) (q := 47) (q2 := 50) C hw dX8_takeNumber_46 rfl dX8_takeNumber_47 rfl rfl (fun hw => ?_) (fun hw => ?_)
        · refine Go_lvp [0] rfl ?_
          exact g_X8_takeNumber_50 C hQ hR hw
        · refine Go_aload_n (q := 57) C 0 rfl dX8_takeNumber_56 rfl ?_
          refine Go_aload_n (q := 58) C 0 rfl dX8_takeNumber_57 rfl ?_
          refine Go_getJ (q := 61) (k := 6) C ci8 iw_8 kE_7 rfl wm_18_1 rfl dX8_takeNumber_58 rfl ?_
          refine Go_l2i (q := 62) C dX8_takeNumber_61 rfl ?_
          refine Go_putI (q := 65) (k := 7) C ci8 iw_8 kE_7 rfl wm_16_2 rfl rfl (ci8.2.2.2.1 7 (by decide)) rfl rfl dX8_takeNumber_62 rfl ?_
          refine Go_S (fun S62_5 e_S62_5 => ?_)
          have hw := hw S62_5 e_S62_5
          have hR := rcE e_S62_5 hR
          refine Go_aload_n (q := 66) C 0 rfl dX8_takeNumber_65 rfl ?_
          refine Go_aload_n (q := 67) C 0 rfl dX8_takeNumber_66 rfl ?_
          refine Go_getI (q := 70) (k := 4) C ci8 iw_8 kE_7 rfl wm_18_0 rfl dX8_takeNumber_67 rfl ?_
          refine Go_iconst (q := 71) (v := (1 : Int32)) C dX8_takeNumber_70 rfl rfl ?_
          refine Go_iadd (q := 72) C dX8_takeNumber_71 rfl ?_
          refine Go_callV_V (av := (fun ad => [.int ((gI S62_5 7 4) + (1 : Int32))])) (st := []) (C := C) (hM := c_X8_holdToken (Gl G)  hR hw) (hlk := wm_17_20) (hini := wm_1_20) (hins := wm_17_21) (hsel := wm_17_22) (hcode := wm_17_23) (ho := kE_7) (hci := rfl) (hc13 := by decide) (n := 1) (hd := by decide +kernel) (hr0 := ⟨rfl, rfl⟩) (hroom := ⟨by first | decide | (dsimp only; omega), by first | decide | (dsimp only; omega)⟩) (hlen := rfl) (hst := rfl) (hW := Nat.le_of_ble_eq_true rfl) (hdg := dX8_takeNumber_72) (q := 75) (hq := rfl) (fun S72_6 hw hR => ?_)
          refine Go_iconst (q := 76) (v := (1 : Int32)) C dX8_takeNumber_75 rfl rfl ?_
          exact Go_zret C hQ hR rfl hw dX8_takeNumber_76
  · refine Go_aload_n (q := 9) C 0 rfl dX8_takeNumber_8 rfl ?_
    refine Go_iconst (q := 10) (v := (1 : Int32)) C dX8_takeNumber_9 rfl rfl ?_
    refine Go_callV_I (av := (fun ad => [.int (1 : Int32)])) (st := []) (C := C) (hM := c_X8_isWrong (Gl G)  hR hw) (hlk := wm_18_6) (hini := wm_1_20) (hins := wm_18_7) (hsel := wm_18_8) (hcode := wm_18_9) (ho := kE_7) (hci := rfl) (hc13 := by decide) (n := 1) (hd := by decide +kernel) (hr0 := ⟨rfl, rfl⟩) (hroom := ⟨by first | decide | (dsimp only; omega), by first | decide | (dsimp only; omega)⟩) (hlen := rfl) (hst := rfl) (hW := Nat.le_of_ble_eq_true rfl) (hdg := dX8_takeNumber_10) (q := 13) (hq := rfl) (fun r10_8 S10_7 hw hR => ?_)
    exact Go_zret C hQ hR (zb hw.1) hw.2 dX8_takeNumber_13
-- X11_blank
abbrev rm_X11_blank : Room := { frames := 0, cells := 0, slots := 0, locals := 0 }
set_option maxRecDepth 100000 in
set_option maxHeartbeats 4000000 in
theorem g_X11_blank_2 {G : GC} (C : Cx G cX11_blank BIG RX11 3 none rm_X11_blank shE NE) {Q : St → Prop} (hQ : QV G RCE Q) (p0 : Nat) (p1 : Int32) (hp0 : ok shE NE p0 14 (lnE p0)) (v2 : Int32) {S : St} (hR : RCE S) (hw : w_X11_blank_2 p0 p1 Q v2 S) : Go G 3 2 [] [(0, .ref (Gad G (p0))), (1, .int p1), (2, .int v2)] S := by
  obtain ⟨n, hw⟩ := hw
  induction n generalizing v2 S with
  | zero => exact hw.elim
  | succ n ih =>
    have hw : b_X11_blank_2 p0 p1 Q (lpn (fun _ _ => False) (b_X11_blank_2 p0 p1 Q) n) v2 S := hw
    generalize lpn (fun _ _ => False) (b_X11_blank_2 p0 p1 Q) n = kf at hw ih
    have hk2 := fun (v2 : Int32) (S : St) (hR : RCE S) hw => ih v2 hR hw
    unfold b_X11_blank_2 at hw
    refine Go_iload_n (q := 3) C 2 rfl dX11_blank_2 rfl ?_
    refine Go_aload_n (q := 4) C 0 rfl dX11_blank_3 rfl ?_
    refine Go_alen2 (q := 5) (v := nI (lnE p0)) C hp0 (by decide) rfl dX11_blank_4 rfl ?_
    refine Go_icmp_ge (t := 18) (q := 8) C hw dX11_blank_5 rfl rfl (fun hw => ?_) (fun hw => ?_)
    · exact Go_vret C hQ hR hw dX11_blank_18
    · refine Go_aload_n (q := 9) C 0 rfl dX11_blank_8 rfl ?_
      refine Go_iload_n (q := 10) C 2 rfl dX11_blank_9 rfl ?_
      refine Go_iload_n (q := 11) C 1 rfl dX11_blank_10 rfl ?_
      obtain ⟨hin, hw⟩ := hw
      refine Go_iastore (q := 12) C hp0 hin dX11_blank_11 rfl ?_
      refine Go_S (fun S11_1 e_S11_1 => ?_)
      have hw := hw S11_1 e_S11_1
      have hR := rcE e_S11_1 hR
      refine Go_iinc2 (q := 15) (kp := 2) (cst := (1 : Int32)) C dX11_blank_12 rfl rfl (by decide) rfl (fun x12_2 e_x12_2 => ?_)
      have hw := hw x12_2 e_x12_2
      refine Go_lve (lv' := [(2, .int x12_2), (0, .ref (Gad G (p0))), (1, .int p1)]) rfl ?_
      refine Go_goto (q := 2) C dX11_blank_15 rfl ?_
      refine Go_lvp [1, 2, 0] rfl ?_
      exact hk2 _ _ hR hw
set_option maxRecDepth 100000 in
set_option maxHeartbeats 4000000 in
theorem c_X11_blank (l : Launch) {p0 : Nat} (hp0 : ok shE NE p0 14 (lnE p0)) {p1 : Int32} {S : St} {Q : St → Prop} (hR : RCE S) (hw : w_X11_blank p0 p1 S Q) : MetV l yX11_blank (wB yX11_blank cX11_blank 3 none) rm_X11_blank shE NE RCE (fun ad => [.ref (ad (p0)), .int p1]) S Q := by
  refine MetV_of (cc := cX11_blank) (maxL := 3) (ret := none) (plainFor_of_name (by decide)) (fun _ => Nat.le_of_ble_eq_true rfl) (fun G C hl hQ => ?_)
  subst hl
  have C : Cx G cX11_blank BIG RX11 3 none rm_X11_blank shE NE := C
  show Go G 3 0 [] [(0, .ref (Gad G (p0))), (1, .int p1)] S
  unfold w_X11_blank at hw
  refine Go_iconst (q := 1) (v := (0 : Int32)) C dX11_blank_0 rfl rfl ?_
  refine Go_istore_n (q := 2) (lv' := [(2, .int (0 : Int32)), (0, .ref (Gad G (p0))), (1, .int p1)]) C rfl dX11_blank_1 (by decide) rfl rfl ?_
  refine Go_lvp [1, 2, 0] rfl ?_
  exact g_X11_blank_2 C hQ p0 p1 hp0 _ hR hw
-- X4_begin
abbrev rm_X4_begin : Room := { frames := 1, cells := 0, slots := 0, locals := 22 }
set_option maxRecDepth 100000 in
set_option maxHeartbeats 4000000 in
theorem g_X4_begin_37 {G : GC} (C : Cx G cX4_begin BIG RX4 3 none rm_X4_begin shE NE) {Q : St → Prop} (hQ : QV G RCE Q) (o : Nat) (ho : isE4 o) (v2 : Int32) {S : St} (hR : RCE S) (hw : w_X4_begin_37 o Q v2 S) : Go G 3 37 [] [(0, .ref (Gad G (o))), (2, .int v2)] S := by
  obtain ⟨n, hw⟩ := hw
  induction n generalizing v2 S with
  | zero => exact hw.elim
  | succ n ih =>
    have hw : b_X4_begin_37 o Q (lpn (fun _ _ => False) (b_X4_begin_37 o Q) n) v2 S := hw
    generalize lpn (fun _ _ => False) (b_X4_begin_37 o Q) n = kf at hw ih
    have hk37 := fun (v2 : Int32) (S : St) (hR : RCE S) hw => ih v2 hR hw
    unfold b_X4_begin_37 at hw
    refine Go_iload_n (q := 38) C 1 rfl dX4_begin_37 rfl ?_
    refine Go_bipush (q := 40) (v := (12 : Int32)) C dX4_begin_38 rfl rfl ?_
    refine Go_icmp_ge (t := 58) (q := 43) C hw dX4_begin_40 rfl rfl (fun hw => ?_) (fun hw => ?_)
    · refine Go_aload_n (q := 59) C 0 rfl dX4_begin_58 rfl ?_
      refine Go_getA (q := 62) (k := 8) C ci4 iw_4 (oE4 ho) (rE4_8 hR ho) rfl wm_6_22 rfl dX4_begin_59 rfl ?_
      refine Go_iconst (q := 63) (v := (0 : Int32)) C dX4_begin_62 rfl rfl ?_
      refine Go_callSN_V (av := (fun ad => [.ref (ad ((o + 2))), .int (0 : Int32)])) (st := []) (C := C) (hM := c_X11_blank (Gl G) (ok_ln (oE4_8 ho)) hR hw) (host := "EndsRound") (hnw := nw_75) (hini := wm_1_2) (hst2 := wm_10_13) (hcode := wm_10_14) (n := 2) (hd := by decide +kernel) (hr0 := ⟨rfl, rfl⟩) (hroom := ⟨by first | decide | (dsimp only; omega), by first | decide | (dsimp only; omega)⟩) (hlen := rfl) (hst := rfl) (hW := Nat.le_of_ble_eq_true rfl) (hdg := dX4_begin_63) (q := 66) (hq := rfl) (fun S63_8 hw hR => ?_)
      refine Go_aload_n (q := 67) C 0 rfl dX4_begin_66 rfl ?_
      refine Go_getA (q := 70) (k := 9) C ci4 iw_4 (oE4 ho) (rE4_9 hR ho) rfl wm_6_23 rfl dX4_begin_67 rfl ?_
      refine Go_iconst (q := 71) (v := (0 : Int32)) C dX4_begin_70 rfl rfl ?_
      refine Go_callSN_V (av := (fun ad => [.ref (ad ((o + 3))), .int (0 : Int32)])) (st := []) (C := C) (hM := c_X11_blank (Gl G) (ok_ln (oE4_9 ho)) hR hw) (host := "EndsRound") (hnw := nw_75) (hini := wm_1_2) (hst2 := wm_10_13) (hcode := wm_10_14) (n := 2) (hd := by decide +kernel) (hr0 := ⟨rfl, rfl⟩) (hroom := ⟨by first | decide | (dsimp only; omega), by first | decide | (dsimp only; omega)⟩) (hlen := rfl) (hst := rfl) (hW := Nat.le_of_ble_eq_true rfl) (hdg := dX4_begin_71) (q := 74) (hq := rfl) (fun S71_9 hw hR => ?_)
      exact Go_vret C hQ hR hw dX4_begin_74
    · refine Go_aload_n (q := 44) C 0 rfl dX4_begin_43 rfl ?_
      refine Go_getA (q := 47) (k := 7) C ci4 iw_4 (oE4 ho) (rE4_7 hR ho) rfl wm_6_21 rfl dX4_begin_44 rfl ?_
      refine Go_iload_n (q := 48) C 1 rfl dX4_begin_47 rfl ?_
      refine Go_iload_n (q := 49) C 1 rfl dX4_begin_48 rfl ?_
      refine Go_callSN_V (av := (fun ad => [.ref (ad ((o + 1))), .int v2, .int v2])) (st := []) (C := C) (hM := c_X11_put (Gl G) (ok_ln (oE4_7 ho)) hR hw) (host := "EndsRound") (hnw := nw_74) (hini := wm_1_2) (hst2 := wm_10_11) (hcode := wm_10_12) (n := 3) (hd := by decide +kernel) (hr0 := ⟨rfl, rfl⟩) (hroom := ⟨by first | decide | (dsimp only; omega), by first | decide | (dsimp only; omega)⟩) (hlen := rfl) (hst := rfl) (hW := Nat.le_of_ble_eq_true rfl) (hdg := dX4_begin_49) (q := 52) (hq := rfl) (fun S49_10 hw hR => ?_)
      refine Go_iinc2 (q := 55) (kp := 1) (cst := (1 : Int32)) C dX4_begin_52 rfl rfl (by decide) rfl (fun x52_11 e_x52_11 => ?_)
      have hw := hw x52_11 e_x52_11
      refine Go_lve (lv' := [(2, .int x52_11), (0, .ref (Gad G (o)))]) rfl ?_
      refine Go_goto (q := 37) C dX4_begin_55 rfl ?_
      refine Go_lvp [1, 0] rfl ?_
      exact hk37 _ _ hR hw
set_option maxRecDepth 100000 in
set_option maxHeartbeats 4000000 in
theorem c_X4_begin (l : Launch) {o : Nat} (ho : isE4 o) {p0 : Int32} {S : St} {Q : St → Prop} (hR : RCE S) (hw : w_X4_begin o p0 S Q) : MetV l yX4_begin (wB yX4_begin cX4_begin 3 none) rm_X4_begin shE NE RCE (fun ad => [.ref (ad (o)), .int p0]) S Q := by
  refine MetV_of (cc := cX4_begin) (maxL := 3) (ret := none) (plainFor_of_name (by decide)) (fun _ => Nat.le_of_ble_eq_true rfl) (fun G C hl hQ => ?_)
  subst hl
  have C : Cx G cX4_begin BIG RX4 3 none rm_X4_begin shE NE := C
  show Go G 3 0 [] [(0, .ref (Gad G (o))), (1, .int p0)] S
  unfold w_X4_begin at hw
  refine Go_aload_n (q := 1) C 0 rfl dX4_begin_0 rfl ?_
  refine Go_iload_n (q := 2) C 1 rfl dX4_begin_1 rfl ?_
  refine Go_putI (q := 5) (k := 0) C ci4 iw_4 (oE4 ho) rfl wm_10_4 rfl rfl (ci4.2.2.2.1 0 (by decide)) rfl rfl dX4_begin_2 rfl ?_
  refine Go_S (fun S2_1 e_S2_1 => ?_)
  have hw := hw S2_1 e_S2_1
  have hR := rcE e_S2_1 hR
  refine Go_aload_n (q := 6) C 0 rfl dX4_begin_5 rfl ?_
  refine Go_iconst (q := 7) (v := (0 : Int32)) C dX4_begin_6 rfl rfl ?_
  refine Go_putI (q := 10) (k := 1) C ci4 iw_4 (oE4 ho) rfl wm_10_5 rfl rfl (ci4.2.2.2.1 1 (by decide)) rfl rfl dX4_begin_7 rfl ?_
  refine Go_S (fun S7_2 e_S7_2 => ?_)
  have hw := hw S7_2 e_S7_2
  have hR := rcE e_S7_2 hR
  refine Go_aload_n (q := 11) C 0 rfl dX4_begin_10 rfl ?_
  refine Go_iconst (q := 12) (v := (0 : Int32)) C dX4_begin_11 rfl rfl ?_
  refine Go_putI (q := 15) (k := 2) C ci4 iw_4 (oE4 ho) rfl wm_10_6 rfl rfl (ci4.2.2.2.1 2 (by decide)) rfl rfl dX4_begin_12 rfl ?_
  refine Go_S (fun S12_3 e_S12_3 => ?_)
  have hw := hw S12_3 e_S12_3
  have hR := rcE e_S12_3 hR
  refine Go_aload_n (q := 16) C 0 rfl dX4_begin_15 rfl ?_
  refine Go_iconst (q := 17) (v := (0 : Int32)) C dX4_begin_16 rfl rfl ?_
  refine Go_putI (q := 20) (k := 3) C ci4 iw_4 (oE4 ho) rfl wm_10_7 rfl rfl (ci4.2.2.2.1 3 (by decide)) rfl rfl dX4_begin_17 rfl ?_
  refine Go_S (fun S17_4 e_S17_4 => ?_)
  have hw := hw S17_4 e_S17_4
  have hR := rcE e_S17_4 hR
  refine Go_aload_n (q := 21) C 0 rfl dX4_begin_20 rfl ?_
  refine Go_iconst (q := 22) (v := (0 : Int32)) C dX4_begin_21 rfl rfl ?_
  refine Go_putI (q := 25) (k := 4) C ci4 iw_4 (oE4 ho) rfl wm_10_8 rfl rfl (ci4.2.2.2.1 4 (by decide)) rfl rfl dX4_begin_22 rfl ?_
  refine Go_S (fun S22_5 e_S22_5 => ?_)
  have hw := hw S22_5 e_S22_5
  have hR := rcE e_S22_5 hR
  refine Go_aload_n (q := 26) C 0 rfl dX4_begin_25 rfl ?_
  refine Go_iconst (q := 27) (v := (0 : Int32)) C dX4_begin_26 rfl rfl ?_
  refine Go_putI (q := 30) (k := 5) C ci4 iw_4 (oE4 ho) rfl wm_10_9 rfl rfl (ci4.2.2.2.1 5 (by decide)) rfl rfl dX4_begin_27 rfl ?_
  refine Go_S (fun S27_6 e_S27_6 => ?_)
  have hw := hw S27_6 e_S27_6
  have hR := rcE e_S27_6 hR
  refine Go_aload_n (q := 31) C 0 rfl dX4_begin_30 rfl ?_
  refine Go_iconst (q := 32) (v := (0 : Int32)) C dX4_begin_31 rfl rfl ?_
  refine Go_putI (q := 35) (k := 6) C ci4 iw_4 (oE4 ho) rfl wm_10_10 rfl rfl (ci4.2.2.2.1 6 (by decide)) rfl rfl dX4_begin_32 rfl ?_
  refine Go_S (fun S32_7 e_S32_7 => ?_)
  have hw := hw S32_7 e_S32_7
  have hR := rcE e_S32_7 hR
  refine Go_iconst (q := 36) (v := (0 : Int32)) C dX4_begin_35 rfl rfl ?_
  refine Go_istore_n (q := 37) (lv' := [(2, .int (0 : Int32)), (0, .ref (Gad G (o))), (1, .int p0)]) C rfl dX4_begin_36 (by decide) rfl rfl ?_
  refine Go_lvp [1, 0] rfl ?_
  exact g_X4_begin_37 C hQ o ho _ hR hw
-- X11_spiralSource
abbrev rm_X11_spiralSource : Room := { frames := 0, cells := 0, slots := 0, locals := 0 }
set_option maxRecDepth 100000 in
set_option maxHeartbeats 4000000 in
theorem c_X11_spiralSource (l : Launch) {p0 : Int32} {p1 : Int32} {S : St} {Q : Int32 → St → Prop} (hR : RCE S) (hw : w_X11_spiralSource p0 p1 S Q) : MetI l yX11_spiralSource (wB yX11_spiralSource cX11_spiralSource 2 (some .int)) rm_X11_spiralSource shE NE RCE (fun ad => [.int p0, .int p1]) S Q := by
  refine MetI_of (cc := cX11_spiralSource) (maxL := 2) (ret := (some .int)) (plainFor_of_name (by decide)) (fun _ => Nat.le_of_ble_eq_true rfl) (fun G C hl hQ => ?_)
  subst hl
  have C : Cx G cX11_spiralSource BIG RX11 2 (some .int) rm_X11_spiralSource shE NE := C
  show Go G 2 0 [] [(0, .int p0), (1, .int p1)] S
  unfold w_X11_spiralSource at hw
  refine Go_iload_n (q := 1) C 1 rfl dX11_spiralSource_0 rfl ?_
  refine Go_iconst (q := 2) (v := (1 : Int32)) C dX11_spiralSource_1 rfl rfl ?_
  refine Go_iand (q := 3) C dX11_spiralSource_2 rfl ?_
  refine Go_if_ne (t := 16) (q := 6) C hw dX11_spiralSource_3 rfl rfl (fun hw => ?_) (fun hw => ?_)
  · refine Go_iload_n (q := 7) C 0 rfl dX11_spiralSource_6 rfl ?_
    refine Go_iconst (q := 8) (v := (1 : Int32)) C dX11_spiralSource_7 rfl rfl ?_
    refine Go_isub (q := 9) C dX11_spiralSource_8 rfl ?_
    refine Go_iload_n (q := 10) C 1 rfl dX11_spiralSource_9 rfl ?_
    refine Go_iconst (q := 11) (v := (2 : Int32)) C dX11_spiralSource_10 rfl rfl ?_
    refine Go_idiv (q := 12) C (by decide) dX11_spiralSource_11 rfl ?_
    refine Go_isub (q := 13) C dX11_spiralSource_12 rfl ?_
    refine Go_goto (q := 19) C dX11_spiralSource_13 rfl ?_
    exact Go_iret C hQ hR hw dX11_spiralSource_19
  · refine Go_iload_n (q := 17) C 1 rfl dX11_spiralSource_16 rfl ?_
    refine Go_iconst (q := 18) (v := (2 : Int32)) C dX11_spiralSource_17 rfl rfl ?_
    refine Go_idiv (q := 19) C (by decide) dX11_spiralSource_18 rfl ?_
    exact Go_iret C hQ hR hw dX11_spiralSource_19
-- X4_thirdsSource
abbrev rm_X4_thirdsSource : Room := { frames := 0, cells := 0, slots := 0, locals := 0 }
set_option maxRecDepth 100000 in
set_option maxHeartbeats 4000000 in
theorem c_X4_thirdsSource (l : Launch) {o : Nat} (ho : isE4 o) {p0 : Int32} {S : St} {Q : Int32 → St → Prop} (hR : RCE S) (hw : w_X4_thirdsSource o p0 S Q) : MetI l yX4_thirdsSource (wB yX4_thirdsSource cX4_thirdsSource 4 (some .int)) rm_X4_thirdsSource shE NE RCE (fun ad => [.ref (ad (o)), .int p0]) S Q := by
  refine MetI_of (cc := cX4_thirdsSource) (maxL := 4) (ret := (some .int)) (plainFor_of_name (by decide)) (fun _ => Nat.le_of_ble_eq_true rfl) (fun G C hl hQ => ?_)
  subst hl
  have C : Cx G cX4_thirdsSource BIG RX4 4 (some .int) rm_X4_thirdsSource shE NE := C
  show Go G 4 0 [] [(0, .ref (Gad G (o))), (1, .int p0)] S
  unfold w_X4_thirdsSource at hw
  refine Go_aload_n (q := 1) C 0 rfl dX4_thirdsSource_0 rfl ?_
  refine Go_getI (q := 4) (k := 0) C ci4 iw_4 (oE4 ho) rfl wm_10_4 rfl dX4_thirdsSource_1 rfl ?_
  refine Go_iconst (q := 5) (v := (2 : Int32)) C dX4_thirdsSource_4 rfl rfl ?_
  refine Go_iadd (q := 6) C dX4_thirdsSource_5 rfl ?_
  refine Go_iconst (q := 7) (v := (3 : Int32)) C dX4_thirdsSource_6 rfl rfl ?_
  refine Go_idiv (q := 8) C (by decide) dX4_thirdsSource_7 rfl ?_
  refine Go_topi (fun x8_1 e_x8_1 => ?_)
  have hw := hw x8_1 e_x8_1
  refine Go_istore_n (q := 9) (lv' := [(2, .int x8_1), (0, .ref (Gad G (o))), (1, .int p0)]) C rfl dX4_thirdsSource_8 (by decide) rfl rfl ?_
  refine Go_iload_n (q := 10) C 0 rfl dX4_thirdsSource_9 rfl ?_
  refine Go_aload_n (q := 11) C 1 rfl dX4_thirdsSource_10 rfl ?_
  refine Go_getI (q := 14) (k := 0) C ci4 iw_4 (oE4 ho) rfl wm_10_4 rfl dX4_thirdsSource_11 rfl ?_
  refine Go_iconst (q := 15) (v := (1 : Int32)) C dX4_thirdsSource_14 rfl rfl ?_
  refine Go_iadd (q := 16) C dX4_thirdsSource_15 rfl ?_
  refine Go_iconst (q := 17) (v := (3 : Int32)) C dX4_thirdsSource_16 rfl rfl ?_
  refine Go_idiv (q := 18) C (by decide) dX4_thirdsSource_17 rfl ?_
  refine Go_iadd (q := 19) C dX4_thirdsSource_18 rfl ?_
  refine Go_topi (fun x19_2 e_x19_2 => ?_)
  have hw := hw x19_2 e_x19_2
  refine Go_istore_n (q := 20) (lv' := [(3, .int x19_2), (2, .int x8_1), (0, .ref (Gad G (o))), (1, .int p0)]) C rfl dX4_thirdsSource_19 (by decide) rfl rfl ?_
  refine Go_iload_n (q := 21) C 3 rfl dX4_thirdsSource_20 rfl ?_
  refine Go_iload_n (q := 22) C 1 rfl dX4_thirdsSource_21 rfl ?_
  refine Go_icmp_ge (t := 29) (q := 25) C hw dX4_thirdsSource_22 rfl rfl (fun hw => ?_) (fun hw => ?_)
  · refine Go_iload_n (q := 30) C 3 rfl dX4_thirdsSource_29 rfl ?_
    refine Go_iload_n (q := 31) C 0 rfl dX4_thirdsSource_30 rfl ?_
    refine Go_icmp_ge (t := 44) (q := 34) C hw dX4_thirdsSource_31 rfl rfl (fun hw => ?_) (fun hw => ?_)
    · refine Go_iconst (q := 45) (v := (3 : Int32)) C dX4_thirdsSource_44 rfl rfl ?_
      refine Go_iload_n (q := 46) C 3 rfl dX4_thirdsSource_45 rfl ?_
      refine Go_iload_n (q := 47) C 0 rfl dX4_thirdsSource_46 rfl ?_
      refine Go_isub (q := 48) C dX4_thirdsSource_47 rfl ?_
      refine Go_imul (q := 49) C dX4_thirdsSource_48 rfl ?_
      refine Go_iconst (q := 50) (v := (2 : Int32)) C dX4_thirdsSource_49 rfl rfl ?_
      refine Go_iadd (q := 51) C dX4_thirdsSource_50 rfl ?_
      exact Go_iret C hQ hR hw dX4_thirdsSource_51
    · refine Go_iconst (q := 35) (v := (3 : Int32)) C dX4_thirdsSource_34 rfl rfl ?_
      refine Go_iload_n (q := 36) C 3 rfl dX4_thirdsSource_35 rfl ?_
      refine Go_iload_n (q := 37) C 1 rfl dX4_thirdsSource_36 rfl ?_
      refine Go_isub (q := 38) C dX4_thirdsSource_37 rfl ?_
      refine Go_imul (q := 39) C dX4_thirdsSource_38 rfl ?_
      refine Go_iconst (q := 40) (v := (1 : Int32)) C dX4_thirdsSource_39 rfl rfl ?_
      refine Go_iadd (q := 41) C dX4_thirdsSource_40 rfl ?_
      refine Go_goto (q := 51) C dX4_thirdsSource_41 rfl ?_
      exact Go_iret C hQ hR hw dX4_thirdsSource_51
  · refine Go_iconst (q := 26) (v := (3 : Int32)) C dX4_thirdsSource_25 rfl rfl ?_
    refine Go_iload_n (q := 27) C 3 rfl dX4_thirdsSource_26 rfl ?_
    refine Go_imul (q := 28) C dX4_thirdsSource_27 rfl ?_
    exact Go_iret C hQ hR hw dX4_thirdsSource_28
-- J9_floorMod_7cf53
abbrev rm_J9_floorMod_7cf53 : Room := { frames := 0, cells := 0, slots := 0, locals := 0 }
set_option maxRecDepth 100000 in
set_option maxHeartbeats 4000000 in
theorem c_J9_floorMod_7cf53 (l : Launch) {p0 : Int32} {p1 : Int32} {S : St} {Q : Int32 → St → Prop} (hR : RCE S) (hw : w_J9_floorMod_7cf53 p0 p1 S Q) : MetI l yJ9_floorMod_7cf53 (wB yJ9_floorMod_7cf53 cJ9_floorMod_7cf53 3 (some .int)) rm_J9_floorMod_7cf53 shE NE RCE (fun ad => [.int p0, .int p1]) S Q := by
  refine MetI_of (cc := cJ9_floorMod_7cf53) (maxL := 3) (ret := (some .int)) (by decide +kernel) (fun _ => Nat.le_of_ble_eq_true rfl) (fun G C hl hQ => ?_)
  subst hl
  have C : Cx G cJ9_floorMod_7cf53 BIG RJ9 3 (some .int) rm_J9_floorMod_7cf53 shE NE := C
  show Go G 3 0 [] [(0, .int p0), (1, .int p1)] S
  unfold w_J9_floorMod_7cf53 at hw
  refine Go_iload_n (q := 1) C 0 rfl dJ9_floorMod_7cf53_0 rfl ?_
  refine Go_iload_n (q := 2) C 1 rfl dJ9_floorMod_7cf53_1 rfl ?_
  obtain ⟨hne, hw⟩ := hw
  refine Go_irem (q := 3) C hne dJ9_floorMod_7cf53_2 rfl ?_
  refine Go_topi (fun x3_1 e_x3_1 => ?_)
  have hw := hw x3_1 e_x3_1
  refine Go_istore_n (q := 4) (lv' := [(2, .int x3_1), (0, .int p0), (1, .int p1)]) C rfl dJ9_floorMod_7cf53_3 (by decide) rfl rfl ?_
  refine Go_iload_n (q := 5) C 1 rfl dJ9_floorMod_7cf53_4 rfl ?_
  refine Go_iload_n (q := 6) C 2 rfl dJ9_floorMod_7cf53_5 rfl ?_
  refine Go_ixor (q := 7) C dJ9_floorMod_7cf53_6 rfl ?_
  refine Go_if_ge (t := 18) (q := 10) C hw dJ9_floorMod_7cf53_7 rfl rfl (fun hw => ?_) (fun hw => ?_)
  · refine Go_iload_n (q := 19) C 0 rfl dJ9_floorMod_7cf53_18 rfl ?_
    exact Go_iret C hQ hR hw dJ9_floorMod_7cf53_19
  · refine Go_iload_n (q := 11) C 0 rfl dJ9_floorMod_7cf53_10 rfl ?_
    refine Go_if_eq (t := 18) (q := 14) C hw dJ9_floorMod_7cf53_11 rfl rfl (fun hw => ?_) (fun hw => ?_)
    · refine Go_iload_n (q := 19) C 0 rfl dJ9_floorMod_7cf53_18 rfl ?_
      exact Go_iret C hQ hR hw dJ9_floorMod_7cf53_19
    · refine Go_iload_n (q := 15) C 0 rfl dJ9_floorMod_7cf53_14 rfl ?_
      refine Go_iload_n (q := 16) C 2 rfl dJ9_floorMod_7cf53_15 rfl ?_
      refine Go_iadd (q := 17) C dJ9_floorMod_7cf53_16 rfl ?_
      exact Go_iret C hQ hR hw dJ9_floorMod_7cf53_17
-- X4_sourceOf
abbrev rm_X4_sourceOf : Room := { frames := 1, cells := 0, slots := 0, locals := 23 }
set_option maxRecDepth 100000 in
set_option maxHeartbeats 4000000 in
theorem c_X4_sourceOf (l : Launch) {o : Nat} (ho : isE4 o) {p0 : Int32} {p1 : Int32} {p2 : Int32} {p3 : Int32} {S : St} {Q : Int32 → St → Prop} (hR : RCE S) (hw : w_X4_sourceOf o p0 p1 p2 p3 S Q) : MetI l yX4_sourceOf (wB yX4_sourceOf cX4_sourceOf 5 (some .int)) rm_X4_sourceOf shE NE RCE (fun ad => [.ref (ad (o)), .int p0, .int p1, .int p2, .int p3]) S Q := by
  refine MetI_of (cc := cX4_sourceOf) (maxL := 5) (ret := (some .int)) (plainFor_of_name (by decide)) (fun _ => Nat.le_of_ble_eq_true rfl) (fun G C hl hQ => ?_)
  subst hl
  have C : Cx G cX4_sourceOf BIG RX4 5 (some .int) rm_X4_sourceOf shE NE := C
  show Go G 5 0 [] [(0, .ref (Gad G (o))), (1, .int p0), (2, .int p1), (3, .int p2), (4, .int p3)] S
  unfold w_X4_sourceOf at hw
  refine Go_iload_n (q := 1) C 1 rfl dX4_sourceOf_0 rfl ?_
  by_cases hk130 : p0 = (130 : Int32)
  · have hw := ite_t hw hk130
    refine Go_tableIn (t := 36) C dX4_sourceOf_1 (by rw [hk130]; decide) (by rw [hk130]; decide) (by rw [hk130]; rfl) rfl ?_
    refine Go_aload_n (q := 37) C 0 rfl dX4_sourceOf_36 rfl ?_
    refine Go_getI (q := 40) (k := 0) C ci4 iw_4 (oE4 ho) rfl wm_10_4 rfl dX4_sourceOf_37 rfl ?_
    refine Go_iload_n (q := 41) C 2 rfl dX4_sourceOf_40 rfl ?_
    refine Go_callSN_I (av := (fun ad => [.int (gI S o 0), .int p1])) (st := []) (C := C) (hM := c_X11_spiralSource (Gl G)  hR hw) (host := "EndsRound") (hnw := nw_85) (hini := wm_1_2) (hst2 := wm_19_11) (hcode := wm_19_12) (n := 2) (hd := by decide +kernel) (hr0 := ⟨rfl, rfl⟩) (hroom := ⟨by first | decide | (dsimp only; omega), by first | decide | (dsimp only; omega)⟩) (hlen := rfl) (hst := rfl) (hW := Nat.le_of_ble_eq_true rfl) (hdg := dX4_sourceOf_41) (q := 44) (hq := rfl) (fun r41_3 S41_2 hw hR => ?_)
    exact Go_iret C hQ hR hw dX4_sourceOf_44
  have hw := ite_f hw hk130
  by_cases hk131 : p0 = (131 : Int32)
  · have hw := ite_t hw hk131
    refine Go_tableIn (t := 45) C dX4_sourceOf_1 (by rw [hk131]; decide) (by rw [hk131]; decide) (by rw [hk131]; rfl) rfl ?_
    refine Go_aload_n (q := 46) C 0 rfl dX4_sourceOf_45 rfl ?_
    refine Go_getI (q := 49) (k := 0) C ci4 iw_4 (oE4 ho) rfl wm_10_4 rfl dX4_sourceOf_46 rfl ?_
    refine Go_iconst (q := 50) (v := (1 : Int32)) C dX4_sourceOf_49 rfl rfl ?_
    refine Go_isub (q := 51) C dX4_sourceOf_50 rfl ?_
    refine Go_iload_n (q := 52) C 2 rfl dX4_sourceOf_51 rfl ?_
    refine Go_isub (q := 53) C dX4_sourceOf_52 rfl ?_
    exact Go_iret C hQ hR hw dX4_sourceOf_53
  have hw := ite_f hw hk131
  by_cases hk132 : p0 = (132 : Int32)
  · have hw := ite_t hw hk132
    refine Go_tableIn (t := 54) C dX4_sourceOf_1 (by rw [hk132]; decide) (by rw [hk132]; decide) (by rw [hk132]; rfl) rfl ?_
    refine Go_iload_n (q := 55) C 2 rfl dX4_sourceOf_54 rfl ?_
    refine Go_iconst (q := 56) (v := (1 : Int32)) C dX4_sourceOf_55 rfl rfl ?_
    refine Go_iand (q := 57) C dX4_sourceOf_56 rfl ?_
    refine Go_if_ne (t := 66) (q := 60) C hw dX4_sourceOf_57 rfl rfl (fun hw => ?_) (fun hw => ?_)
    · refine Go_iload_n (q := 61) C 2 rfl dX4_sourceOf_60 rfl ?_
      refine Go_iconst (q := 62) (v := (2 : Int32)) C dX4_sourceOf_61 rfl rfl ?_
      refine Go_idiv (q := 63) C (by decide) dX4_sourceOf_62 rfl ?_
      refine Go_goto (q := 78) C dX4_sourceOf_63 rfl ?_
      exact Go_iret C hQ hR hw dX4_sourceOf_78
    · refine Go_aload_n (q := 67) C 0 rfl dX4_sourceOf_66 rfl ?_
      refine Go_getI (q := 70) (k := 0) C ci4 iw_4 (oE4 ho) rfl wm_10_4 rfl dX4_sourceOf_67 rfl ?_
      refine Go_iconst (q := 71) (v := (1 : Int32)) C dX4_sourceOf_70 rfl rfl ?_
      refine Go_iadd (q := 72) C dX4_sourceOf_71 rfl ?_
      refine Go_iconst (q := 73) (v := (2 : Int32)) C dX4_sourceOf_72 rfl rfl ?_
      refine Go_idiv (q := 74) C (by decide) dX4_sourceOf_73 rfl ?_
      refine Go_iload_n (q := 75) C 2 rfl dX4_sourceOf_74 rfl ?_
      refine Go_iconst (q := 76) (v := (2 : Int32)) C dX4_sourceOf_75 rfl rfl ?_
      refine Go_idiv (q := 77) C (by decide) dX4_sourceOf_76 rfl ?_
      refine Go_iadd (q := 78) C dX4_sourceOf_77 rfl ?_
      exact Go_iret C hQ hR hw dX4_sourceOf_78
  have hw := ite_f hw hk132
  by_cases hk133 : p0 = (133 : Int32)
  · have hw := ite_t hw hk133
    refine Go_tableIn (t := 79) C dX4_sourceOf_1 (by rw [hk133]; decide) (by rw [hk133]; decide) (by rw [hk133]; rfl) rfl ?_
    refine Go_aload_n (q := 80) C 0 rfl dX4_sourceOf_79 rfl ?_
    refine Go_iload_n (q := 81) C 2 rfl dX4_sourceOf_80 rfl ?_
    refine Go_callV_I (av := (fun ad => [.int p1])) (st := []) (C := C) (hM := c_X4_thirdsSource (Gl G) ho hR hw) (hlk := wm_19_13) (hini := wm_2_0) (hins := wm_19_14) (hsel := wm_19_15) (hcode := wm_19_16) (ho := (oE4 ho)) (hci := rfl) (hc13 := by decide) (n := 1) (hd := by decide +kernel) (hr0 := ⟨rfl, rfl⟩) (hroom := ⟨by first | decide | (dsimp only; omega), by first | decide | (dsimp only; omega)⟩) (hlen := rfl) (hst := rfl) (hW := Nat.le_of_ble_eq_true rfl) (hdg := dX4_sourceOf_81) (q := 84) (hq := rfl) (fun r81_5 S81_4 hw hR => ?_)
    exact Go_iret C hQ hR hw dX4_sourceOf_84
  have hw := ite_f hw hk133
  by_cases hk134 : p0 = (134 : Int32)
  · have hw := ite_t hw hk134
    refine Go_tableIn (t := 85) C dX4_sourceOf_1 (by rw [hk134]; decide) (by rw [hk134]; decide) (by rw [hk134]; rfl) rfl ?_
    refine Go_aload_n (q := 86) C 0 rfl dX4_sourceOf_85 rfl ?_
    refine Go_getI (q := 89) (k := 0) C ci4 iw_4 (oE4 ho) rfl wm_10_4 rfl dX4_sourceOf_86 rfl ?_
    refine Go_iconst (q := 90) (v := (1 : Int32)) C dX4_sourceOf_89 rfl rfl ?_
    refine Go_icmp_ge (t := 97) (q := 93) C hw dX4_sourceOf_90 rfl rfl (fun hw => ?_) (fun hw => ?_)
    · refine Go_iload_n (q := 98) C 2 rfl dX4_sourceOf_97 rfl ?_
      refine Go_iload (q := 100) C 4 rfl dX4_sourceOf_98 rfl ?_
      refine Go_isub (q := 101) C dX4_sourceOf_100 rfl ?_
      refine Go_aload_n (q := 102) C 0 rfl dX4_sourceOf_101 rfl ?_
      refine Go_getI (q := 105) (k := 0) C ci4 iw_4 (oE4 ho) rfl wm_10_4 rfl dX4_sourceOf_102 rfl ?_
      refine Go_callS_I (av := (fun ad => [.int (p1 - p3), .int (gI S o 0)])) (st := []) (C := C) (hM := c_J9_floorMod_7cf53 (Gl G)  hR hw) (hlk := wm_19_17) (hini := wm_19_19) (hst2 := wm_19_18) (hcode := wm_19_20) (n := 2) (hd := by decide +kernel) (hr0 := ⟨rfl, rfl⟩) (hroom := ⟨by first | decide | (dsimp only; omega), by first | decide | (dsimp only; omega)⟩) (hlen := rfl) (hst := rfl) (hW := Nat.le_of_ble_eq_true rfl) (hdg := dX4_sourceOf_105) (q := 108) (hq := rfl) (fun r105_7 S105_6 hw hR => ?_)
      exact Go_iret C hQ hR hw dX4_sourceOf_108
    · refine Go_iload_n (q := 94) C 2 rfl dX4_sourceOf_93 rfl ?_
      refine Go_goto (q := 108) C dX4_sourceOf_94 rfl ?_
      exact Go_iret C hQ hR hw dX4_sourceOf_108
  have hw := ite_f hw hk134
  refine Go_tableOut (t := 109) C dX4_sourceOf_1 (by have g0 : ¬ (p0).toInt = 130 := ne_toInt hk130; have g1 : ¬ (p0).toInt = 131 := ne_toInt hk131; have g2 : ¬ (p0).toInt = 132 := ne_toInt hk132; have g3 : ¬ (p0).toInt = 133 := ne_toInt hk133; have g4 : ¬ (p0).toInt = 134 := ne_toInt hk134; omega) rfl ?_
  refine Go_iload_n (q := 110) C 2 rfl dX4_sourceOf_109 rfl ?_
  refine Go_iload_n (q := 111) C 3 rfl dX4_sourceOf_110 rfl ?_
  refine Go_icmp_ne (t := 119) (q := 114) C hw dX4_sourceOf_111 rfl rfl (fun hw => ?_) (fun hw => ?_)
  · refine Go_iload (q := 116) C 4 rfl dX4_sourceOf_114 rfl ?_
    refine Go_goto (q := 130) C dX4_sourceOf_116 rfl ?_
    exact Go_iret C hQ hR hw dX4_sourceOf_130
  · refine Go_iload_n (q := 120) C 2 rfl dX4_sourceOf_119 rfl ?_
    refine Go_iload (q := 122) C 4 rfl dX4_sourceOf_120 rfl ?_
    refine Go_icmp_ne (t := 129) (q := 125) C hw dX4_sourceOf_122 rfl rfl (fun hw => ?_) (fun hw => ?_)
    · refine Go_iload_n (q := 126) C 3 rfl dX4_sourceOf_125 rfl ?_
      refine Go_goto (q := 130) C dX4_sourceOf_126 rfl ?_
      exact Go_iret C hQ hR hw dX4_sourceOf_130
    · refine Go_iload_n (q := 130) C 2 rfl dX4_sourceOf_129 rfl ?_
      exact Go_iret C hQ hR hw dX4_sourceOf_130
-- X11_copyRow
abbrev rm_X11_copyRow : Room := { frames := 0, cells := 0, slots := 0, locals := 0 }
set_option maxRecDepth 100000 in
set_option maxHeartbeats 4000000 in
theorem g_X11_copyRow_2 {G : GC} (C : Cx G cX11_copyRow BIG RX11 3 none rm_X11_copyRow shE NE) {Q : St → Prop} (hQ : QV G RCE Q) (p0 : Nat) (p1 : Nat) (hp0 : ok shE NE p0 14 (lnE p0)) (hp1 : ok shE NE p1 14 (lnE p1)) (v2 : Int32) {S : St} (hR : RCE S) (hw : w_X11_copyRow_2 p0 p1 Q v2 S) : Go G 3 2 [] [(0, .ref (Gad G (p0))), (1, .ref (Gad G (p1))), (2, .int v2)] S := by
  obtain ⟨n, hw⟩ := hw
  induction n generalizing v2 S with
  | zero => exact hw.elim
  | succ n ih =>
    have hw : b_X11_copyRow_2 p0 p1 Q (lpn (fun _ _ => False) (b_X11_copyRow_2 p0 p1 Q) n) v2 S := hw
    generalize lpn (fun _ _ => False) (b_X11_copyRow_2 p0 p1 Q) n = kf at hw ih
    have hk2 := fun (v2 : Int32) (S : St) (hR : RCE S) hw => ih v2 hR hw
    unfold b_X11_copyRow_2 at hw
    refine Go_iload_n (q := 3) C 2 rfl dX11_copyRow_2 rfl ?_
    refine Go_aload_n (q := 4) C 0 rfl dX11_copyRow_3 rfl ?_
    refine Go_alen2 (q := 5) (v := nI (lnE p0)) C hp0 (by decide) rfl dX11_copyRow_4 rfl ?_
    refine Go_icmp_ge (t := 26) (q := 8) C hw dX11_copyRow_5 rfl rfl (fun hw => ?_) (fun hw => ?_)
    · exact Go_vret C hQ hR hw dX11_copyRow_26
    · refine Go_iload_n (q := 9) C 2 rfl dX11_copyRow_8 rfl ?_
      refine Go_aload_n (q := 10) C 1 rfl dX11_copyRow_9 rfl ?_
      refine Go_alen2 (q := 11) (v := nI (lnE p1)) C hp1 (by decide) rfl dX11_copyRow_10 rfl ?_
      refine Go_icmp_ge (t := 26) (q := 14) C hw dX11_copyRow_11 rfl rfl (fun hw => ?_) (fun hw => ?_)
      · exact Go_vret C hQ hR hw dX11_copyRow_26
      · refine Go_aload_n (q := 15) C 1 rfl dX11_copyRow_14 rfl ?_
        refine Go_iload_n (q := 16) C 2 rfl dX11_copyRow_15 rfl ?_
        refine Go_aload_n (q := 17) C 0 rfl dX11_copyRow_16 rfl ?_
        refine Go_iload_n (q := 18) C 2 rfl dX11_copyRow_17 rfl ?_
        obtain ⟨hin, hw⟩ := hw
        refine Go_iaload (q := 19) C hp0 hin dX11_copyRow_18 rfl ?_
        obtain ⟨hin, hw⟩ := hw
        refine Go_iastore (q := 20) C hp1 hin dX11_copyRow_19 rfl ?_
        refine Go_S (fun S19_1 e_S19_1 => ?_)
        have hw := hw S19_1 e_S19_1
        have hR := rcE e_S19_1 hR
        refine Go_iinc2 (q := 23) (kp := 2) (cst := (1 : Int32)) C dX11_copyRow_20 rfl rfl (by decide) rfl (fun x20_2 e_x20_2 => ?_)
        have hw := hw x20_2 e_x20_2
        refine Go_lve (lv' := [(2, .int x20_2), (0, .ref (Gad G (p0))), (1, .ref (Gad G (p1)))]) rfl ?_
        refine Go_goto (q := 2) C dX11_copyRow_23 rfl ?_
        refine Go_lvp [1, 2, 0] rfl ?_
        exact hk2 _ _ hR hw
set_option maxRecDepth 100000 in
set_option maxHeartbeats 4000000 in
theorem c_X11_copyRow (l : Launch) {p0 : Nat} (hp0 : ok shE NE p0 14 (lnE p0)) {p1 : Nat} (hp1 : ok shE NE p1 14 (lnE p1)) {S : St} {Q : St → Prop} (hR : RCE S) (hw : w_X11_copyRow p0 p1 S Q) : MetV l yX11_copyRow (wB yX11_copyRow cX11_copyRow 3 none) rm_X11_copyRow shE NE RCE (fun ad => [.ref (ad (p0)), .ref (ad (p1))]) S Q := by
  refine MetV_of (cc := cX11_copyRow) (maxL := 3) (ret := none) (plainFor_of_name (by decide)) (fun _ => Nat.le_of_ble_eq_true rfl) (fun G C hl hQ => ?_)
  subst hl
  have C : Cx G cX11_copyRow BIG RX11 3 none rm_X11_copyRow shE NE := C
  show Go G 3 0 [] [(0, .ref (Gad G (p0))), (1, .ref (Gad G (p1)))] S
  unfold w_X11_copyRow at hw
  refine Go_iconst (q := 1) (v := (0 : Int32)) C dX11_copyRow_0 rfl rfl ?_
  refine Go_istore_n (q := 2) (lv' := [(2, .int (0 : Int32)), (0, .ref (Gad G (p0))), (1, .ref (Gad G (p1)))]) C rfl dX11_copyRow_1 (by decide) rfl rfl ?_
  refine Go_lvp [1, 2, 0] rfl ?_
  exact g_X11_copyRow_2 C hQ p0 p1 hp0 hp1 _ hR hw
-- X4_addStep
abbrev rm_X4_addStep : Room := { frames := 2, cells := 0, slots := 0, locals := 47 }
set_option maxRecDepth 100000 in
set_option maxHeartbeats 4000000 in
theorem g_X4_addStep_3 {G : GC} (C : Cx G cX4_addStep BIG RX4 5 none rm_X4_addStep shE NE) {Q : St → Prop} (hQ : QV G RCE Q) (o : Nat) (p0 : Int32) (p1 : Int32) (p2 : Int32) (ho : isE4 o) (v4 : Int32) {S : St} (hR : RCE S) (hw : w_X4_addStep_3 o p0 p1 p2 Q v4 S) : Go G 5 3 [] [(0, .ref (Gad G (o))), (1, .int p0), (2, .int p1), (3, .int p2), (4, .int v4)] S := by
  obtain ⟨n, hw⟩ := hw
  induction n generalizing v4 S with
  | zero => exact hw.elim
  | succ n ih =>
    have hw : b_X4_addStep_3 o p0 p1 p2 Q (lpn (fun _ _ => False) (b_X4_addStep_3 o p0 p1 p2 Q) n) v4 S := hw
    generalize lpn (fun _ _ => False) (b_X4_addStep_3 o p0 p1 p2 Q) n = kf at hw ih
    have hk3 := fun (v4 : Int32) (S : St) (hR : RCE S) hw => ih v4 hR hw
    unfold b_X4_addStep_3 at hw
    refine Go_iload (q := 5) C 4 rfl dX4_addStep_3 rfl ?_
    refine Go_aload_n (q := 6) C 0 rfl dX4_addStep_5 rfl ?_
    refine Go_getI (q := 9) (k := 0) C ci4 iw_4 (oE4 ho) rfl wm_10_4 rfl dX4_addStep_6 rfl ?_
    refine Go_icmp_ge (t := 43) (q := 12) C hw dX4_addStep_9 rfl rfl (fun hw => ?_) (fun hw => ?_)
    · refine Go_aload_n (q := 44) C 0 rfl dX4_addStep_43 rfl ?_
      refine Go_getA (q := 47) (k := 14) C ci4 iw_4 (oE4 ho) (rE4_14 hR ho) rfl wm_7_4 rfl dX4_addStep_44 rfl ?_
      refine Go_aload_n (q := 48) C 0 rfl dX4_addStep_47 rfl ?_
      refine Go_getA (q := 51) (k := 7) C ci4 iw_4 (oE4 ho) (rE4_7 hR ho) rfl wm_6_21 rfl dX4_addStep_48 rfl ?_
      refine Go_callSN_V (av := (fun ad => [.ref (ad ((o + 8))), .ref (ad ((o + 1)))])) (st := []) (C := C) (hM := c_X11_copyRow (Gl G) (ok_ln (oE4_14 ho)) (ok_ln (oE4_7 ho)) hR hw) (host := "EndsRound") (hnw := nw_87) (hini := wm_1_2) (hst2 := wm_10_20) (hcode := wm_10_21) (n := 2) (hd := by decide +kernel) (hr0 := ⟨rfl, rfl⟩) (hroom := ⟨by first | decide | (dsimp only; omega), by first | decide | (dsimp only; omega)⟩) (hlen := rfl) (hst := rfl) (hW := Nat.le_of_ble_eq_true rfl) (hdg := dX4_addStep_51) (q := 54) (hq := rfl) (fun S51_1 hw hR => ?_)
      refine Go_aload_n (q := 55) C 0 rfl dX4_addStep_54 rfl ?_
      refine Go_dup (q := 56) C rfl dX4_addStep_55 rfl ?_
      refine Go_getI (q := 59) (k := 1) C ci4 iw_4 (oE4 ho) rfl wm_10_5 rfl dX4_addStep_56 rfl ?_
      refine Go_iconst (q := 60) (v := (1 : Int32)) C dX4_addStep_59 rfl rfl ?_
      refine Go_iadd (q := 61) C dX4_addStep_60 rfl ?_
      refine Go_putI (q := 64) (k := 1) C ci4 iw_4 (oE4 ho) rfl wm_10_5 rfl rfl (ci4.2.2.2.1 1 (by decide)) rfl rfl dX4_addStep_61 rfl ?_
      refine Go_S (fun S61_2 e_S61_2 => ?_)
      have hw := hw S61_2 e_S61_2
      have hR := rcE e_S61_2 hR
      exact Go_vret C hQ hR hw dX4_addStep_64
    · refine Go_aload_n (q := 13) C 0 rfl dX4_addStep_12 rfl ?_
      refine Go_getA (q := 16) (k := 14) C ci4 iw_4 (oE4 ho) (rE4_14 hR ho) rfl wm_7_4 rfl dX4_addStep_13 rfl ?_
      refine Go_iload (q := 18) C 4 rfl dX4_addStep_16 rfl ?_
      refine Go_aload_n (q := 19) C 0 rfl dX4_addStep_18 rfl ?_
      refine Go_getA (q := 22) (k := 7) C ci4 iw_4 (oE4 ho) (rE4_7 hR ho) rfl wm_6_21 rfl dX4_addStep_19 rfl ?_
      refine Go_aload_n (q := 23) C 0 rfl dX4_addStep_22 rfl ?_
      refine Go_iload_n (q := 24) C 1 rfl dX4_addStep_23 rfl ?_
      refine Go_iload (q := 26) C 4 rfl dX4_addStep_24 rfl ?_
      refine Go_iload_n (q := 27) C 2 rfl dX4_addStep_26 rfl ?_
      refine Go_iload_n (q := 28) C 3 rfl dX4_addStep_27 rfl ?_
      refine Go_callV_I (av := (fun ad => [.int p0, .int v4, .int p1, .int p2])) (st := [.ref (Gad G ((o + 1))), .int v4, .ref (Gad G ((o + 8)))]) (C := C) (hM := c_X4_sourceOf (Gl G) ho hR hw) (hlk := wm_19_7) (hini := wm_2_0) (hins := wm_19_8) (hsel := wm_19_9) (hcode := wm_19_10) (ho := (oE4 ho)) (hci := rfl) (hc13 := by decide) (n := 4) (hd := by decide +kernel) (hr0 := ⟨rfl, rfl⟩) (hroom := ⟨by first | decide | (dsimp only; omega), by first | decide | (dsimp only; omega)⟩) (hlen := rfl) (hst := rfl) (hW := Nat.le_of_ble_eq_true rfl) (hdg := dX4_addStep_28) (q := 31) (hq := rfl) (fun r28_4 S28_3 hw hR => ?_)
      refine Go_callSN_I (av := (fun ad => [.ref (ad ((o + 1))), .int r28_4])) (st := [.int v4, .ref (Gad G ((o + 8)))]) (C := C) (hM := c_X11_cell (Gl G) (ok_ln (oE4_7 ho)) hR hw) (host := "EndsRound") (hnw := nw_86) (hini := wm_1_2) (hst2 := wm_10_22) (hcode := wm_10_23) (n := 2) (hd := by decide +kernel) (hr0 := ⟨rfl, rfl⟩) (hroom := ⟨by first | decide | (dsimp only; omega), by first | decide | (dsimp only; omega)⟩) (hlen := rfl) (hst := rfl) (hW := Nat.le_of_ble_eq_true rfl) (hdg := dX4_addStep_31) (q := 34) (hq := rfl) (fun r31_6 S31_5 hw hR => ?_)
      refine Go_callSN_V (av := (fun ad => [.ref (ad ((o + 8))), .int v4, .int r31_6])) (st := []) (C := C) (hM := c_X11_put (Gl G) (ok_ln (oE4_14 ho)) hR hw) (host := "EndsRound") (hnw := nw_74) (hini := wm_1_2) (hst2 := wm_10_11) (hcode := wm_10_12) (n := 3) (hd := by decide +kernel) (hr0 := ⟨rfl, rfl⟩) (hroom := ⟨by first | decide | (dsimp only; omega), by first | decide | (dsimp only; omega)⟩) (hlen := rfl) (hst := rfl) (hW := Nat.le_of_ble_eq_true rfl) (hdg := dX4_addStep_34) (q := 37) (hq := rfl) (fun S34_7 hw hR => ?_)
      refine Go_iinc2 (q := 40) (kp := 4) (cst := (1 : Int32)) C dX4_addStep_37 rfl rfl (by decide) rfl (fun x37_8 e_x37_8 => ?_)
      have hw := hw x37_8 e_x37_8
      refine Go_lve (lv' := [(4, .int x37_8), (0, .ref (Gad G (o))), (1, .int p0), (2, .int p1), (3, .int p2)]) rfl ?_
      refine Go_goto (q := 3) C dX4_addStep_40 rfl ?_
      refine Go_lvp [1, 2, 3, 4, 0] rfl ?_
      exact hk3 _ _ hR hw
set_option maxRecDepth 100000 in
set_option maxHeartbeats 4000000 in
theorem c_X4_addStep (l : Launch) {o : Nat} (ho : isE4 o) {p0 : Int32} {p1 : Int32} {p2 : Int32} {S : St} {Q : St → Prop} (hR : RCE S) (hw : w_X4_addStep o p0 p1 p2 S Q) : MetV l yX4_addStep (wB yX4_addStep cX4_addStep 5 none) rm_X4_addStep shE NE RCE (fun ad => [.ref (ad (o)), .int p0, .int p1, .int p2]) S Q := by
  refine MetV_of (cc := cX4_addStep) (maxL := 5) (ret := none) (plainFor_of_name (by decide)) (fun _ => Nat.le_of_ble_eq_true rfl) (fun G C hl hQ => ?_)
  subst hl
  have C : Cx G cX4_addStep BIG RX4 5 none rm_X4_addStep shE NE := C
  show Go G 5 0 [] [(0, .ref (Gad G (o))), (1, .int p0), (2, .int p1), (3, .int p2)] S
  unfold w_X4_addStep at hw
  refine Go_iconst (q := 1) (v := (0 : Int32)) C dX4_addStep_0 rfl rfl ?_
  refine Go_istore (q := 3) (lv' := [(4, .int (0 : Int32)), (0, .ref (Gad G (o))), (1, .int p0), (2, .int p1), (3, .int p2)]) C dX4_addStep_1 (by decide) rfl rfl ?_
  refine Go_lvp [1, 2, 3, 4, 0] rfl ?_
  exact g_X4_addStep_3 C hQ o p0 p1 p2 ho _ hR hw
-- X8_readStep
abbrev rm_X8_readStep : Room := { frames := 3, cells := 0, slots := 0, locals := 71 }
set_option maxRecDepth 100000 in
set_option maxHeartbeats 4000000 in
theorem g_X8_readStep_19 {G : GC} (C : Cx G cX8_readStep BIG RX8 4 (some .boolean) rm_X8_readStep shE NE) {Q : Int32 → St → Prop} (hQ : QI G RCE Q) {S : St} (hR : RCE S) (hw : w_X8_readStep_19 Q S) : Go G 4 19 [] [(0, .ref (Gad G (7)))] S := by
  unfold w_X8_readStep_19 at hw
  refine Go_aload_n (q := 20) C 0 rfl dX8_readStep_19 rfl ?_
  refine Go_iconst (q := 21) (v := (1 : Int32)) C dX8_readStep_20 rfl rfl ?_
  refine Go_callV_I (av := (fun ad => [.int (1 : Int32)])) (st := []) (C := C) (hM := c_X8_isWrong (Gl G) hR hw) (hlk := wm_18_6) (hini := wm_1_20) (hins := wm_18_7) (hsel := wm_18_8) (hcode := wm_18_9) (ho := kE_7) (hci := rfl) (hc13 := by decide) (n := 1) (hd := by decide +kernel) (hr0 := ⟨rfl, rfl⟩) (hroom := ⟨by first | decide | (dsimp only; omega), by first | decide | (dsimp only; omega)⟩) (hlen := rfl) (hst := rfl) (hW := Nat.le_of_ble_eq_true rfl) (hdg := dX8_readStep_21) (q := 24) (hq := rfl) (fun r21_3 S21_2 hw hR => ?_)
  exact Go_zret C hQ hR (zb hw.1) hw.2 dX8_readStep_24
set_option maxRecDepth 100000 in
set_option maxHeartbeats 4000000 in
theorem g_X8_readStep_128 {G : GC} (C : Cx G cX8_readStep BIG RX8 4 (some .boolean) rm_X8_readStep shE NE) {Q : Int32 → St → Prop} (hQ : QI G RCE Q) (v1 : Int32) (v2 : Int32) {S : St} (hR : RCE S) (hw : w_X8_readStep_128 Q v1 v2 S) : Go G 4 128 [] [(0, .ref (Gad G (7))), (1, .int v1), (2, .int v2)] S := by
  unfold w_X8_readStep_128 at hw
  refine Go_aload_n (q := 129) C 0 rfl dX8_readStep_128 rfl ?_
  refine Go_getA (q := 132) (k := 2) C ci8 iw_8 kE_7 (rE_7_2 hR) rfl wm_6_10 rfl dX8_readStep_129 rfl ?_
  refine Go_iload_n (q := 133) C 1 rfl dX8_readStep_132 rfl ?_
  refine Go_iload_n (q := 134) C 2 rfl dX8_readStep_133 rfl ?_
  refine Go_aload_n (q := 135) C 0 rfl dX8_readStep_134 rfl ?_
  refine Go_getI (q := 138) (k := 7) C ci8 iw_8 kE_7 rfl wm_16_2 rfl dX8_readStep_135 rfl ?_
  refine Go_callV_V (av := (fun ad => [.int v1, .int v2, .int (gI S 7 7)])) (st := []) (C := C) (hM := c_X4_addStep (Gl G) isE4_11 hR hw) (hlk := wm_19_3) (hini := wm_2_0) (hins := wm_19_4) (hsel := wm_19_5) (hcode := wm_19_6) (ho := kE_11) (hci := rfl) (hc13 := by decide) (n := 3) (hd := by decide +kernel) (hr0 := ⟨rfl, rfl⟩) (hroom := ⟨by first | decide | (dsimp only; omega), by first | decide | (dsimp only; omega)⟩) (hlen := rfl) (hst := rfl) (hW := Nat.le_of_ble_eq_true rfl) (hdg := dX8_readStep_138) (q := 141) (hq := rfl) (fun S138_8 hw hR => ?_)
  refine Go_iconst (q := 142) (v := (1 : Int32)) C dX8_readStep_141 rfl rfl ?_
  exact Go_zret C hQ hR rfl hw dX8_readStep_142
set_option maxRecDepth 100000 in
set_option maxHeartbeats 4000000 in
theorem g_X8_readStep_108 {G : GC} (C : Cx G cX8_readStep BIG RX8 4 (some .boolean) rm_X8_readStep shE NE) {Q : Int32 → St → Prop} (hQ : QI G RCE Q) (v1 : Int32) (v2 : Int32) (t0 : Int32) {S : St} (hR : RCE S) (hw : w_X8_readStep_108 Q v1 v2 t0 S) : Go G 4 108 [.int t0] [(0, .ref (Gad G (7))), (1, .int v1), (2, .int v2)] S := by
  unfold w_X8_readStep_108 at hw
  refine Go_istore_n (q := 109) (lv' := [(3, .int t0), (0, .ref (Gad G (7))), (1, .int v1), (2, .int v2)]) C rfl dX8_readStep_108 (by decide) rfl rfl ?_
  refine Go_iload_n (q := 110) C 2 rfl dX8_readStep_109 rfl ?_
  refine Go_sipush (q := 113) (v := (134 : Int32)) C dX8_readStep_110 rfl rfl ?_
  refine Go_icmp_lt (t := 128) (q := 116) C hw dX8_readStep_113 rfl rfl (fun hw => ?_) (fun hw => ?_)
  · refine Go_lvp [1, 2, 3] rfl ?_
    exact g_X8_readStep_128 C hQ _ _ hR hw
  · refine Go_aload_n (q := 117) C 1 rfl dX8_readStep_116 rfl ?_
    refine Go_iconst (q := 118) (v := (0 : Int32)) C dX8_readStep_117 rfl rfl ?_
    refine Go_iload_n (q := 119) C 0 rfl dX8_readStep_118 rfl ?_
    refine Go_iload_n (q := 120) C 3 rfl dX8_readStep_119 rfl ?_
    refine Go_callV_I (av := (fun ad => [.int (0 : Int32), .int t0, .int v2])) (st := []) (C := C) (hM := c_X8_takeNumber (Gl G) hR hw) (hlk := wm_18_10) (hini := wm_1_20) (hins := wm_18_11) (hsel := wm_18_12) (hcode := wm_18_13) (ho := kE_7) (hci := rfl) (hc13 := by decide) (n := 3) (hd := by decide +kernel) (hr0 := ⟨rfl, rfl⟩) (hroom := ⟨by first | decide | (dsimp only; omega), by first | decide | (dsimp only; omega)⟩) (hlen := rfl) (hst := rfl) (hW := Nat.le_of_ble_eq_true rfl) (hdg := dX8_readStep_120) (q := 123) (hq := rfl) (fun r120_10 S120_9 hw hR => ?_)
    refine Go_if_ne (t := 128) (q := 126) C hw dX8_readStep_123 rfl rfl (fun hw => ?_) (fun hw => ?_)
    · refine Go_iconst (q := 127) (v := (0 : Int32)) C dX8_readStep_126 rfl rfl ?_
      exact Go_zret C hQ hR rfl hw dX8_readStep_127
    · refine Go_lvp [1, 2, 3] rfl ?_
      exact g_X8_readStep_128 C hQ _ _ hR hw
set_option maxRecDepth 100000 in
set_option maxHeartbeats 4000000 in
theorem g_X8_readStep_87 {G : GC} (C : Cx G cX8_readStep BIG RX8 4 (some .boolean) rm_X8_readStep shE NE) {Q : Int32 → St → Prop} (hQ : QI G RCE Q) (v1 : Int32) (v2 : Int32) {S : St} (hR : RCE S) (hw : w_X8_readStep_87 Q v1 v2 S) : Go G 4 87 [] [(0, .ref (Gad G (7))), (1, .int v1), (2, .int v2)] S := by
  unfold w_X8_readStep_87 at hw
  refine Go_iload_n (q := 88) C 1 rfl dX8_readStep_87 rfl ?_
  refine Go_sipush (q := 91) (v := (135 : Int32)) C dX8_readStep_88 rfl rfl ?_
  refine Go_icmp_ne (t := 106) (q := 94) C hw dX8_readStep_91 rfl rfl (fun hw => ?_) (fun hw => ?_)
  · refine Go_aload_n (q := 95) C 0 rfl dX8_readStep_94 rfl ?_
    refine Go_getA (q := 98) (k := 2) C ci8 iw_8 kE_7 (rE_7_2 hR) rfl wm_6_10 rfl dX8_readStep_95 rfl ?_
    refine Go_getIN (q := 101) (k := 0) (host := "EndsRound") C ci4 iw_4 kE_11 rfl nw_10 rfl dX8_readStep_98 rfl ?_
    refine Go_iconst (q := 102) (v := (1 : Int32)) C dX8_readStep_101 rfl rfl ?_
    refine Go_isub (q := 103) C dX8_readStep_102 rfl ?_
    refine Go_goto (q := 108) C dX8_readStep_103 rfl ?_
    refine Go_lvp [0, 1, 2] rfl ?_
    exact g_X8_readStep_108 C hQ _ _ _ hR hw
  · refine Go_bipush (q := 108) (v := (11 : Int32)) C dX8_readStep_106 rfl rfl ?_
    refine Go_lvp [0, 1, 2] rfl ?_
    exact g_X8_readStep_108 C hQ _ _ _ hR hw
set_option maxRecDepth 100000 in
set_option maxHeartbeats 4000000 in
theorem c_X8_readStep (l : Launch) {S : St} {Q : Int32 → St → Prop} (hR : RCE S) (hw : w_X8_readStep S Q) : MetI l yX8_readStep (wB yX8_readStep cX8_readStep 4 (some .boolean)) rm_X8_readStep shE NE RCE (fun ad => [.ref (ad (7))]) S Q := by
  refine MetI_of (cc := cX8_readStep) (maxL := 4) (ret := (some .boolean)) (plainFor_of_name (by decide)) (fun _ => Nat.le_of_ble_eq_true rfl) (fun G C hl hQ => ?_)
  subst hl
  have C : Cx G cX8_readStep BIG RX8 4 (some .boolean) rm_X8_readStep shE NE := C
  show Go G 4 0 [] [(0, .ref (Gad G (7)))] S
  unfold w_X8_readStep at hw
  refine Go_aload_n (q := 1) C 0 rfl dX8_readStep_0 rfl ?_
  refine Go_getI (q := 4) (k := 5) C ci8 iw_8 kE_7 rfl wm_16_3 rfl dX8_readStep_1 rfl ?_
  refine Go_topi (fun x4_1 e_x4_1 => ?_)
  have hw := hw x4_1 e_x4_1
  refine Go_istore_n (q := 5) (lv' := [(1, .int x4_1), (0, .ref (Gad G (7)))]) C rfl dX8_readStep_4 (by decide) rfl rfl ?_
  refine Go_iload_n (q := 6) C 0 rfl dX8_readStep_5 rfl ?_
  refine Go_sipush (q := 9) (v := (130 : Int32)) C dX8_readStep_6 rfl rfl ?_
  refine Go_icmp_lt (t := 19) (q := 12) C hw dX8_readStep_9 rfl rfl (fun hw => ?_) (fun hw => ?_)
  · refine Go_lvp [1] rfl ?_
    exact g_X8_readStep_19 C hQ hR hw
  · refine Go_iload_n (q := 13) C 0 rfl dX8_readStep_12 rfl ?_
    refine Go_sipush (q := 16) (v := (135 : Int32)) C dX8_readStep_13 rfl rfl ?_
    refine Go_icmp_le (t := 25) (q := 19) C hw dX8_readStep_16 rfl rfl (fun hw => ?_) (fun hw => ?_)
    · refine Go_aload_n (q := 26) C 1 rfl dX8_readStep_25 rfl ?_
      refine Go_getA (q := 29) (k := 2) C ci8 iw_8 kE_7 (rE_7_2 hR) rfl wm_6_10 rfl dX8_readStep_26 rfl ?_
      refine Go_getIN (q := 32) (k := 1) (host := "EndsRound") C ci4 iw_4 kE_11 rfl nw_12 rfl dX8_readStep_29 rfl ?_
      refine Go_bipush (q := 34) (v := (8 : Int32)) C dX8_readStep_32 rfl rfl ?_
      refine Go_icmp_lt (t := 43) (q := 37) C hw dX8_readStep_34 rfl rfl (fun hw => ?_) (fun hw => ?_)
      · refine Go_aload_n (q := 44) C 1 rfl dX8_readStep_43 rfl ?_
        refine Go_aload_n (q := 45) C 1 rfl dX8_readStep_44 rfl ?_
        refine Go_getI (q := 48) (k := 4) C ci8 iw_8 kE_7 rfl wm_18_0 rfl dX8_readStep_45 rfl ?_
        refine Go_iconst (q := 49) (v := (1 : Int32)) C dX8_readStep_48 rfl rfl ?_
        refine Go_iadd (q := 50) C dX8_readStep_49 rfl ?_
        refine Go_callV_V (av := (fun ad => [.int ((gI S 7 4) + (1 : Int32))])) (st := []) (C := C) (hM := c_X8_holdToken (Gl G)  hR hw) (hlk := wm_17_20) (hini := wm_1_20) (hins := wm_17_21) (hsel := wm_17_22) (hcode := wm_17_23) (ho := kE_7) (hci := rfl) (hc13 := by decide) (n := 1) (hd := by decide +kernel) (hr0 := ⟨rfl, rfl⟩) (hroom := ⟨by first | decide | (dsimp only; omega), by first | decide | (dsimp only; omega)⟩) (hlen := rfl) (hst := rfl) (hW := Nat.le_of_ble_eq_true rfl) (hdg := dX8_readStep_50) (q := 53) (hq := rfl) (fun S50_4 hw hR => ?_)
        refine Go_iconst (q := 54) (v := (-1 : Int32)) C dX8_readStep_53 rfl rfl ?_
        refine Go_istore_n (q := 55) (lv' := [(2, .int (-1 : Int32)), (1, .int x4_1), (0, .ref (Gad G (7)))]) C rfl dX8_readStep_54 (by decide) rfl rfl ?_
        refine Go_iload_n (q := 56) C 1 rfl dX8_readStep_55 rfl ?_
        refine Go_sipush (q := 59) (v := (135 : Int32)) C dX8_readStep_56 rfl rfl ?_
        refine Go_icmp_ne (t := 87) (q := 62) C hw dX8_readStep_59 rfl rfl (fun hw => ?_) (fun hw => ?_)
        · refine Go_aload_n (q := 63) C 2 rfl dX8_readStep_62 rfl ?_
          refine Go_iconst (q := 64) (v := (0 : Int32)) C dX8_readStep_63 rfl rfl ?_
          refine Go_aload_n (q := 65) C 2 rfl dX8_readStep_64 rfl ?_
          refine Go_getA (q := 68) (k := 2) C ci8 iw_8 kE_7 (rE_7_2 hR) rfl wm_6_10 rfl dX8_readStep_65 rfl ?_
          refine Go_getIN (q := 71) (k := 0) (host := "EndsRound") C ci4 iw_4 kE_11 rfl nw_10 rfl dX8_readStep_68 rfl ?_
          refine Go_iconst (q := 72) (v := (1 : Int32)) C dX8_readStep_71 rfl rfl ?_
          refine Go_isub (q := 73) C dX8_readStep_72 rfl ?_
          refine Go_iconst (q := 74) (v := (-1 : Int32)) C dX8_readStep_73 rfl rfl ?_
          refine Go_callV_I (av := (fun ad => [.int (0 : Int32), .int ((gI S50_4 11 0) - (1 : Int32)), .int (-1 : Int32)])) (st := []) (C := C) (hM := c_X8_takeNumber (Gl G)  hR hw) (hlk := wm_18_10) (hini := wm_1_20) (hins := wm_18_11) (hsel := wm_18_12) (hcode := wm_18_13) (ho := kE_7) (hci := rfl) (hc13 := by decide) (n := 3) (hd := by decide +kernel) (hr0 := ⟨rfl, rfl⟩) (hroom := ⟨by first | decide | (dsimp only; omega), by first | decide | (dsimp only; omega)⟩) (hlen := rfl) (hst := rfl) (hW := Nat.le_of_ble_eq_true rfl) (hdg := dX8_readStep_74) (q := 77) (hq := rfl) (fun r74_6 S74_5 hw hR => ?_)
          refine Go_if_ne (t := 82) (q := 80) C hw dX8_readStep_77 rfl rfl (fun hw => ?_) (fun hw => ?_)
          · refine Go_iconst (q := 81) (v := (0 : Int32)) C dX8_readStep_80 rfl rfl ?_
            exact Go_zret C hQ hR rfl hw dX8_readStep_81
          · refine Go_aload_n (q := 83) C 2 rfl dX8_readStep_82 rfl ?_
            refine Go_getI (q := 86) (k := 7) C ci8 iw_8 kE_7 rfl wm_16_2 rfl dX8_readStep_83 rfl ?_
            refine Go_topi (fun x86_7 e_x86_7 => ?_)
            have hw := hw x86_7 e_x86_7
            refine Go_istore_n (q := 87) (lv' := [(2, .int x86_7), (1, .int x4_1), (0, .ref (Gad G (7)))]) C rfl dX8_readStep_86 (by decide) rfl rfl ?_
            refine Go_lvp [2, 1, 0] rfl ?_
            exact g_X8_readStep_87 C hQ _ _ hR hw
        · refine Go_lvp [2, 1, 0] rfl ?_
          exact g_X8_readStep_87 C hQ _ _ hR hw
      · refine Go_aload_n (q := 38) C 1 rfl dX8_readStep_37 rfl ?_
        refine Go_iconst (q := 39) (v := (5 : Int32)) C dX8_readStep_38 rfl rfl ?_
        refine Go_callV_I (av := (fun ad => [.int (5 : Int32)])) (st := []) (C := C) (hM := c_X8_isWrong (Gl G)  hR hw) (hlk := wm_18_6) (hini := wm_1_20) (hins := wm_18_7) (hsel := wm_18_8) (hcode := wm_18_9) (ho := kE_7) (hci := rfl) (hc13 := by decide) (n := 1) (hd := by decide +kernel) (hr0 := ⟨rfl, rfl⟩) (hroom := ⟨by first | decide | (dsimp only; omega), by first | decide | (dsimp only; omega)⟩) (hlen := rfl) (hst := rfl) (hW := Nat.le_of_ble_eq_true rfl) (hdg := dX8_readStep_39) (q := 42) (hq := rfl) (fun r39_12 S39_11 hw hR => ?_)
        exact Go_zret C hQ hR (zb hw.1) hw.2 dX8_readStep_42
    · refine Go_lvp [1] rfl ?_
      exact g_X8_readStep_19 C hQ hR hw
-- X8_readTurn
abbrev rm_X8_readTurn : Room := { frames := 4, cells := 0, slots := 0, locals := 94 }
set_option maxRecDepth 100000 in
set_option maxHeartbeats 4000000 in
theorem g_X8_readTurn_17 {G : GC} (C : Cx G cX8_readTurn BIG RX8 3 (some .boolean) rm_X8_readTurn shE NE) {Q : Int32 → St → Prop} (hQ : QI G RCE Q) (v1 : Int32) (v2 : Int32) {S : St} (hR : RCE S) (hw : w_X8_readTurn_17 Q v1 v2 S) : Go G 3 17 [] [(0, .ref (Gad G (7))), (1, .int v1), (2, .int v2)] S := by
  obtain ⟨n, hw⟩ := hw
  induction n generalizing v1 v2 S with
  | zero => exact hw.elim
  | succ n ih =>
    have hw : b_X8_readTurn_17 Q (lpn (fun _ _ _ => False) (b_X8_readTurn_17 Q) n) v1 v2 S := hw
    generalize lpn (fun _ _ _ => False) (b_X8_readTurn_17 Q) n = kf at hw ih
    have hk17 := fun (v1 : Int32) (v2 : Int32) (S : St) (hR : RCE S) hw => ih v1 v2 hR hw
    unfold b_X8_readTurn_17 at hw
    refine Go_iload_n (q := 18) C 2 rfl dX8_readTurn_17 rfl ?_
    refine Go_bipush (q := 20) (v := (8 : Int32)) C dX8_readTurn_18 rfl rfl ?_
    refine Go_icmp_ge (t := 47) (q := 23) C hw dX8_readTurn_20 rfl rfl (fun hw => ?_) (fun hw => ?_)
    · refine Go_iload_n (q := 48) C 1 rfl dX8_readTurn_47 rfl ?_
      exact Go_zret C hQ hR (zb hw.1) hw.2 dX8_readTurn_48
    · refine Go_iload_n (q := 24) C 1 rfl dX8_readTurn_23 rfl ?_
      refine Go_if_eq (t := 47) (q := 27) C hw dX8_readTurn_24 rfl rfl (fun hw => ?_) (fun hw => ?_)
      · refine Go_iload_n (q := 48) C 1 rfl dX8_readTurn_47 rfl ?_
        exact Go_zret C hQ hR (zb hw.1) hw.2 dX8_readTurn_48
      · refine Go_aload_n (q := 28) C 0 rfl dX8_readTurn_27 rfl ?_
        refine Go_getI (q := 31) (k := 5) C ci8 iw_8 kE_7 rfl wm_16_3 rfl dX8_readTurn_28 rfl ?_
        refine Go_bipush (q := 33) (v := (59 : Int32)) C dX8_readTurn_31 rfl rfl ?_
        refine Go_icmp_eq (t := 47) (q := 36) C hw dX8_readTurn_33 rfl rfl (fun hw => ?_) (fun hw => ?_)
        · refine Go_iload_n (q := 48) C 1 rfl dX8_readTurn_47 rfl ?_
          exact Go_zret C hQ hR (zb hw.1) hw.2 dX8_readTurn_48
        · refine Go_aload_n (q := 37) C 0 rfl dX8_readTurn_36 rfl ?_
          refine Go_callV_I (av := (fun ad => [])) (st := []) (C := C) (hM := c_X8_readStep (Gl G) hR hw) (hlk := wm_18_23) (hini := wm_1_20) (hins := wm_19_0) (hsel := wm_19_1) (hcode := wm_19_2) (ho := kE_7) (hci := rfl) (hc13 := by decide) (n := 0) (hd := by decide +kernel) (hr0 := ⟨rfl, rfl⟩) (hroom := ⟨by first | decide | (dsimp only; omega), by first | decide | (dsimp only; omega)⟩) (hlen := rfl) (hst := rfl) (hW := Nat.le_of_ble_eq_true rfl) (hdg := dX8_readTurn_37) (q := 40) (hq := rfl) (fun r37_5 S37_4 hw hR => ?_)
          refine Go_istore_n (q := 41) (lv' := [(1, .int r37_5), (0, .ref (Gad G (7))), (2, .int v2)]) C rfl dX8_readTurn_40 (by decide) rfl rfl ?_
          refine Go_iinc2 (q := 44) (kp := 2) (cst := (1 : Int32)) C dX8_readTurn_41 rfl rfl (by decide) rfl (fun x41_6 e_x41_6 => ?_)
          have hw := hw x41_6 e_x41_6
          refine Go_lve (lv' := [(2, .int x41_6), (1, .int r37_5), (0, .ref (Gad G (7)))]) rfl ?_
          refine Go_goto (q := 17) C dX8_readTurn_44 rfl ?_
          refine Go_lvp [2, 1, 0] rfl ?_
          exact hk17 _ _ _ hR hw
set_option maxRecDepth 100000 in
set_option maxHeartbeats 4000000 in
theorem c_X8_readTurn (l : Launch) {S : St} {Q : Int32 → St → Prop} (hR : RCE S) (hw : w_X8_readTurn S Q) : MetI l yX8_readTurn (wB yX8_readTurn cX8_readTurn 3 (some .boolean)) rm_X8_readTurn shE NE RCE (fun ad => [.ref (ad (7))]) S Q := by
  refine MetI_of (cc := cX8_readTurn) (maxL := 3) (ret := (some .boolean)) (plainFor_of_name (by decide)) (fun _ => Nat.le_of_ble_eq_true rfl) (fun G C hl hQ => ?_)
  subst hl
  have C : Cx G cX8_readTurn BIG RX8 3 (some .boolean) rm_X8_readTurn shE NE := C
  show Go G 3 0 [] [(0, .ref (Gad G (7)))] S
  unfold w_X8_readTurn at hw
  refine Go_aload_n (q := 1) C 0 rfl dX8_readTurn_0 rfl ?_
  refine Go_aload_n (q := 2) C 0 rfl dX8_readTurn_1 rfl ?_
  refine Go_getI (q := 5) (k := 4) C ci8 iw_8 kE_7 rfl wm_18_0 rfl dX8_readTurn_2 rfl ?_
  refine Go_iconst (q := 6) (v := (1 : Int32)) C dX8_readTurn_5 rfl rfl ?_
  refine Go_iadd (q := 7) C dX8_readTurn_6 rfl ?_
  refine Go_callV_V (av := (fun ad => [.int ((gI S 7 4) + (1 : Int32))])) (st := []) (C := C) (hM := c_X8_holdToken (Gl G)  hR hw) (hlk := wm_17_20) (hini := wm_1_20) (hins := wm_17_21) (hsel := wm_17_22) (hcode := wm_17_23) (ho := kE_7) (hci := rfl) (hc13 := by decide) (n := 1) (hd := by decide +kernel) (hr0 := ⟨rfl, rfl⟩) (hroom := ⟨by first | decide | (dsimp only; omega), by first | decide | (dsimp only; omega)⟩) (hlen := rfl) (hst := rfl) (hW := Nat.le_of_ble_eq_true rfl) (hdg := dX8_readTurn_7) (q := 10) (hq := rfl) (fun S7_1 hw hR => ?_)
  refine Go_aload_n (q := 11) C 0 rfl dX8_readTurn_10 rfl ?_
  refine Go_callV_I (av := (fun ad => [])) (st := []) (C := C) (hM := c_X8_readStep (Gl G)  hR hw) (hlk := wm_18_23) (hini := wm_1_20) (hins := wm_19_0) (hsel := wm_19_1) (hcode := wm_19_2) (ho := kE_7) (hci := rfl) (hc13 := by decide) (n := 0) (hd := by decide +kernel) (hr0 := ⟨rfl, rfl⟩) (hroom := ⟨by first | decide | (dsimp only; omega), by first | decide | (dsimp only; omega)⟩) (hlen := rfl) (hst := rfl) (hW := Nat.le_of_ble_eq_true rfl) (hdg := dX8_readTurn_11) (q := 14) (hq := rfl) (fun r11_3 S11_2 hw hR => ?_)
  refine Go_istore_n (q := 15) (lv' := [(1, .int r11_3), (0, .ref (Gad G (7)))]) C rfl dX8_readTurn_14 (by decide) rfl rfl ?_
  refine Go_iconst (q := 16) (v := (0 : Int32)) C dX8_readTurn_15 rfl rfl ?_
  refine Go_istore_n (q := 17) (lv' := [(2, .int (0 : Int32)), (1, .int r11_3), (0, .ref (Gad G (7)))]) C rfl dX8_readTurn_16 (by decide) rfl rfl ?_
  refine Go_lvp [2, 1, 0] rfl ?_
  exact g_X8_readTurn_17 C hQ _ _ hR hw
-- X4_addRhyme
abbrev rm_X4_addRhyme : Room := { frames := 1, cells := 0, slots := 0, locals := 22 }
set_option maxRecDepth 100000 in
set_option maxHeartbeats 4000000 in
theorem c_X4_addRhyme (l : Launch) {o : Nat} (ho : isE4 o) {p0 : Int32} {p1 : Int32} {S : St} {Q : St → Prop} (hR : RCE S) (hw : w_X4_addRhyme o p0 p1 S Q) : MetV l yX4_addRhyme (wB yX4_addRhyme cX4_addRhyme 3 none) rm_X4_addRhyme shE NE RCE (fun ad => [.ref (ad (o)), .int p0, .int p1]) S Q := by
  refine MetV_of (cc := cX4_addRhyme) (maxL := 3) (ret := none) (plainFor_of_name (by decide)) (fun _ => Nat.le_of_ble_eq_true rfl) (fun G C hl hQ => ?_)
  subst hl
  have C : Cx G cX4_addRhyme BIG RX4 3 none rm_X4_addRhyme shE NE := C
  show Go G 3 0 [] [(0, .ref (Gad G (o))), (1, .int p0), (2, .int p1)] S
  unfold w_X4_addRhyme at hw
  refine Go_aload_n (q := 1) C 0 rfl dX4_addRhyme_0 rfl ?_
  refine Go_getA (q := 4) (k := 8) C ci4 iw_4 (oE4 ho) (rE4_8 hR ho) rfl wm_6_22 rfl dX4_addRhyme_1 rfl ?_
  refine Go_iload_n (q := 5) C 1 rfl dX4_addRhyme_4 rfl ?_
  refine Go_aload_n (q := 6) C 0 rfl dX4_addRhyme_5 rfl ?_
  refine Go_getA (q := 9) (k := 8) C ci4 iw_4 (oE4 ho) (rE4_8 hR ho) rfl wm_6_22 rfl dX4_addRhyme_6 rfl ?_
  refine Go_iload_n (q := 10) C 1 rfl dX4_addRhyme_9 rfl ?_
  refine Go_callSN_I (av := (fun ad => [.ref (ad ((o + 2))), .int p0])) (st := [.int p0, .ref (Gad G ((o + 2)))]) (C := C) (hM := c_X11_cell (Gl G) (ok_ln (oE4_8 ho)) hR hw) (host := "EndsRound") (hnw := nw_86) (hini := wm_1_2) (hst2 := wm_10_22) (hcode := wm_10_23) (n := 2) (hd := by decide +kernel) (hr0 := ⟨rfl, rfl⟩) (hroom := ⟨by first | decide | (dsimp only; omega), by first | decide | (dsimp only; omega)⟩) (hlen := rfl) (hst := rfl) (hW := Nat.le_of_ble_eq_true rfl) (hdg := dX4_addRhyme_10) (q := 13) (hq := rfl) (fun r10_2 S10_1 hw hR => ?_)
  refine Go_iconst (q := 14) (v := (1 : Int32)) C dX4_addRhyme_13 rfl rfl ?_
  refine Go_iload_n (q := 15) C 2 rfl dX4_addRhyme_14 rfl ?_
  refine Go_ishl (q := 16) C dX4_addRhyme_15 rfl ?_
  refine Go_ior (q := 17) C dX4_addRhyme_16 rfl ?_
  refine Go_callSN_V (av := (fun ad => [.ref (ad ((o + 2))), .int p0, .int (r10_2 ||| ((1 : Int32) <<< (p1 &&& 31)))])) (st := []) (C := C) (hM := c_X11_put (Gl G) (ok_ln (oE4_8 ho)) hR hw) (host := "EndsRound") (hnw := nw_74) (hini := wm_1_2) (hst2 := wm_10_11) (hcode := wm_10_12) (n := 3) (hd := by decide +kernel) (hr0 := ⟨rfl, rfl⟩) (hroom := ⟨by first | decide | (dsimp only; omega), by first | decide | (dsimp only; omega)⟩) (hlen := rfl) (hst := rfl) (hW := Nat.le_of_ble_eq_true rfl) (hdg := dX4_addRhyme_17) (q := 20) (hq := rfl) (fun S17_3 hw hR => ?_)
  refine Go_aload_n (q := 21) C 0 rfl dX4_addRhyme_20 rfl ?_
  refine Go_getA (q := 24) (k := 8) C ci4 iw_4 (oE4 ho) (rE4_8 hR ho) rfl wm_6_22 rfl dX4_addRhyme_21 rfl ?_
  refine Go_iload_n (q := 25) C 2 rfl dX4_addRhyme_24 rfl ?_
  refine Go_aload_n (q := 26) C 0 rfl dX4_addRhyme_25 rfl ?_
  refine Go_getA (q := 29) (k := 8) C ci4 iw_4 (oE4 ho) (rE4_8 hR ho) rfl wm_6_22 rfl dX4_addRhyme_26 rfl ?_
  refine Go_iload_n (q := 30) C 2 rfl dX4_addRhyme_29 rfl ?_
  refine Go_callSN_I (av := (fun ad => [.ref (ad ((o + 2))), .int p1])) (st := [.int p1, .ref (Gad G ((o + 2)))]) (C := C) (hM := c_X11_cell (Gl G) (ok_ln (oE4_8 ho)) hR hw) (host := "EndsRound") (hnw := nw_86) (hini := wm_1_2) (hst2 := wm_10_22) (hcode := wm_10_23) (n := 2) (hd := by decide +kernel) (hr0 := ⟨rfl, rfl⟩) (hroom := ⟨by first | decide | (dsimp only; omega), by first | decide | (dsimp only; omega)⟩) (hlen := rfl) (hst := rfl) (hW := Nat.le_of_ble_eq_true rfl) (hdg := dX4_addRhyme_30) (q := 33) (hq := rfl) (fun r30_5 S30_4 hw hR => ?_)
  refine Go_iconst (q := 34) (v := (1 : Int32)) C dX4_addRhyme_33 rfl rfl ?_
  refine Go_iload_n (q := 35) C 1 rfl dX4_addRhyme_34 rfl ?_
  refine Go_ishl (q := 36) C dX4_addRhyme_35 rfl ?_
  refine Go_ior (q := 37) C dX4_addRhyme_36 rfl ?_
  refine Go_callSN_V (av := (fun ad => [.ref (ad ((o + 2))), .int p1, .int (r30_5 ||| ((1 : Int32) <<< (p0 &&& 31)))])) (st := []) (C := C) (hM := c_X11_put (Gl G) (ok_ln (oE4_8 ho)) hR hw) (host := "EndsRound") (hnw := nw_74) (hini := wm_1_2) (hst2 := wm_10_11) (hcode := wm_10_12) (n := 3) (hd := by decide +kernel) (hr0 := ⟨rfl, rfl⟩) (hroom := ⟨by first | decide | (dsimp only; omega), by first | decide | (dsimp only; omega)⟩) (hlen := rfl) (hst := rfl) (hW := Nat.le_of_ble_eq_true rfl) (hdg := dX4_addRhyme_37) (q := 40) (hq := rfl) (fun S37_6 hw hR => ?_)
  refine Go_aload_n (q := 41) C 0 rfl dX4_addRhyme_40 rfl ?_
  refine Go_dup (q := 42) C rfl dX4_addRhyme_41 rfl ?_
  refine Go_getI (q := 45) (k := 2) C ci4 iw_4 (oE4 ho) rfl wm_10_6 rfl dX4_addRhyme_42 rfl ?_
  refine Go_iconst (q := 46) (v := (1 : Int32)) C dX4_addRhyme_45 rfl rfl ?_
  refine Go_iadd (q := 47) C dX4_addRhyme_46 rfl ?_
  refine Go_putI (q := 50) (k := 2) C ci4 iw_4 (oE4 ho) rfl wm_10_6 rfl rfl (ci4.2.2.2.1 2 (by decide)) rfl rfl dX4_addRhyme_47 rfl ?_
  refine Go_S (fun S47_7 e_S47_7 => ?_)
  have hw := hw S47_7 e_S47_7
  have hR := rcE e_S47_7 hR
  exact Go_vret C hQ hR hw dX4_addRhyme_50
-- X8_readRhyme
abbrev rm_X8_readRhyme : Room := { frames := 3, cells := 0, slots := 0, locals := 65 }
set_option maxRecDepth 100000 in
set_option maxHeartbeats 4000000 in
theorem c_X8_readRhyme (l : Launch) {S : St} {Q : Int32 → St → Prop} (hR : RCE S) (hw : w_X8_readRhyme S Q) : MetI l yX8_readRhyme (wB yX8_readRhyme cX8_readRhyme 2 (some .boolean)) rm_X8_readRhyme shE NE RCE (fun ad => [.ref (ad (7))]) S Q := by
  refine MetI_of (cc := cX8_readRhyme) (maxL := 2) (ret := (some .boolean)) (plainFor_of_name (by decide)) (fun _ => Nat.le_of_ble_eq_true rfl) (fun G C hl hQ => ?_)
  subst hl
  have C : Cx G cX8_readRhyme BIG RX8 2 (some .boolean) rm_X8_readRhyme shE NE := C
  show Go G 2 0 [] [(0, .ref (Gad G (7)))] S
  unfold w_X8_readRhyme at hw
  refine Go_aload_n (q := 1) C 0 rfl dX8_readRhyme_0 rfl ?_
  refine Go_getA (q := 4) (k := 2) C ci8 iw_8 kE_7 (rE_7_2 hR) rfl wm_6_10 rfl dX8_readRhyme_1 rfl ?_
  refine Go_getIN (q := 7) (k := 2) (host := "EndsRound") C ci4 iw_4 kE_11 rfl nw_14 rfl dX8_readRhyme_4 rfl ?_
  refine Go_bipush (q := 9) (v := (8 : Int32)) C dX8_readRhyme_7 rfl rfl ?_
  refine Go_icmp_lt (t := 18) (q := 12) C hw dX8_readRhyme_9 rfl rfl (fun hw => ?_) (fun hw => ?_)
  · refine Go_aload_n (q := 19) C 0 rfl dX8_readRhyme_18 rfl ?_
    refine Go_aload_n (q := 20) C 0 rfl dX8_readRhyme_19 rfl ?_
    refine Go_getI (q := 23) (k := 4) C ci8 iw_8 kE_7 rfl wm_18_0 rfl dX8_readRhyme_20 rfl ?_
    refine Go_iconst (q := 24) (v := (1 : Int32)) C dX8_readRhyme_23 rfl rfl ?_
    refine Go_iadd (q := 25) C dX8_readRhyme_24 rfl ?_
    refine Go_callV_V (av := (fun ad => [.int ((gI S 7 4) + (1 : Int32))])) (st := []) (C := C) (hM := c_X8_holdToken (Gl G)  hR hw) (hlk := wm_17_20) (hini := wm_1_20) (hins := wm_17_21) (hsel := wm_17_22) (hcode := wm_17_23) (ho := kE_7) (hci := rfl) (hc13 := by decide) (n := 1) (hd := by decide +kernel) (hr0 := ⟨rfl, rfl⟩) (hroom := ⟨by first | decide | (dsimp only; omega), by first | decide | (dsimp only; omega)⟩) (hlen := rfl) (hst := rfl) (hW := Nat.le_of_ble_eq_true rfl) (hdg := dX8_readRhyme_25) (q := 28) (hq := rfl) (fun S25_1 hw hR => ?_)
    refine Go_aload_n (q := 29) C 0 rfl dX8_readRhyme_28 rfl ?_
    refine Go_iconst (q := 30) (v := (0 : Int32)) C dX8_readRhyme_29 rfl rfl ?_
    refine Go_aload_n (q := 31) C 0 rfl dX8_readRhyme_30 rfl ?_
    refine Go_getA (q := 34) (k := 2) C ci8 iw_8 kE_7 (rE_7_2 hR) rfl wm_6_10 rfl dX8_readRhyme_31 rfl ?_
    refine Go_getIN (q := 37) (k := 0) (host := "EndsRound") C ci4 iw_4 kE_11 rfl nw_10 rfl dX8_readRhyme_34 rfl ?_
    refine Go_iconst (q := 38) (v := (1 : Int32)) C dX8_readRhyme_37 rfl rfl ?_
    refine Go_isub (q := 39) C dX8_readRhyme_38 rfl ?_
    refine Go_iconst (q := 40) (v := (-1 : Int32)) C dX8_readRhyme_39 rfl rfl ?_
    refine Go_callV_I (av := (fun ad => [.int (0 : Int32), .int ((gI S25_1 11 0) - (1 : Int32)), .int (-1 : Int32)])) (st := []) (C := C) (hM := c_X8_takeNumber (Gl G)  hR hw) (hlk := wm_18_10) (hini := wm_1_20) (hins := wm_18_11) (hsel := wm_18_12) (hcode := wm_18_13) (ho := kE_7) (hci := rfl) (hc13 := by decide) (n := 3) (hd := by decide +kernel) (hr0 := ⟨rfl, rfl⟩) (hroom := ⟨by first | decide | (dsimp only; omega), by first | decide | (dsimp only; omega)⟩) (hlen := rfl) (hst := rfl) (hW := Nat.le_of_ble_eq_true rfl) (hdg := dX8_readRhyme_40) (q := 43) (hq := rfl) (fun r40_3 S40_2 hw hR => ?_)
    refine Go_if_ne (t := 48) (q := 46) C hw dX8_readRhyme_43 rfl rfl (fun hw => ?_) (fun hw => ?_)
    · refine Go_iconst (q := 47) (v := (0 : Int32)) C dX8_readRhyme_46 rfl rfl ?_
      exact Go_zret C hQ hR rfl hw dX8_readRhyme_47
    · refine Go_aload_n (q := 49) C 0 rfl dX8_readRhyme_48 rfl ?_
      refine Go_getI (q := 52) (k := 7) C ci8 iw_8 kE_7 rfl wm_16_2 rfl dX8_readRhyme_49 rfl ?_
      refine Go_topi (fun x52_4 e_x52_4 => ?_)
      have hw := hw x52_4 e_x52_4
      refine Go_istore_n (q := 53) (lv' := [(1, .int x52_4), (0, .ref (Gad G (7)))]) C rfl dX8_readRhyme_52 (by decide) rfl rfl ?_
      refine Go_aload_n (q := 54) C 1 rfl dX8_readRhyme_53 rfl ?_
      refine Go_iconst (q := 55) (v := (0 : Int32)) C dX8_readRhyme_54 rfl rfl ?_
      refine Go_aload_n (q := 56) C 1 rfl dX8_readRhyme_55 rfl ?_
      refine Go_getA (q := 59) (k := 2) C ci8 iw_8 kE_7 (rE_7_2 hR) rfl wm_6_10 rfl dX8_readRhyme_56 rfl ?_
      refine Go_getIN (q := 62) (k := 0) (host := "EndsRound") C ci4 iw_4 kE_11 rfl nw_10 rfl dX8_readRhyme_59 rfl ?_
      refine Go_iconst (q := 63) (v := (1 : Int32)) C dX8_readRhyme_62 rfl rfl ?_
      refine Go_isub (q := 64) C dX8_readRhyme_63 rfl ?_
      refine Go_iload_n (q := 65) C 0 rfl dX8_readRhyme_64 rfl ?_
      refine Go_callV_I (av := (fun ad => [.int (0 : Int32), .int ((gI S40_2 11 0) - (1 : Int32)), .int x52_4])) (st := []) (C := C) (hM := c_X8_takeNumber (Gl G)  hR hw) (hlk := wm_18_10) (hini := wm_1_20) (hins := wm_18_11) (hsel := wm_18_12) (hcode := wm_18_13) (ho := kE_7) (hci := rfl) (hc13 := by decide) (n := 3) (hd := by decide +kernel) (hr0 := ⟨rfl, rfl⟩) (hroom := ⟨by first | decide | (dsimp only; omega), by first | decide | (dsimp only; omega)⟩) (hlen := rfl) (hst := rfl) (hW := Nat.le_of_ble_eq_true rfl) (hdg := dX8_readRhyme_65) (q := 68) (hq := rfl) (fun r65_6 S65_5 hw hR => ?_)
      refine Go_if_ne (t := 73) (q := 71) C hw dX8_readRhyme_68 rfl rfl (fun hw => ?_) (fun hw => ?_)
      · refine Go_iconst (q := 72) (v := (0 : Int32)) C dX8_readRhyme_71 rfl rfl ?_
        exact Go_zret C hQ hR rfl hw dX8_readRhyme_72
      · refine Go_aload_n (q := 74) C 1 rfl dX8_readRhyme_73 rfl ?_
        refine Go_getA (q := 77) (k := 2) C ci8 iw_8 kE_7 (rE_7_2 hR) rfl wm_6_10 rfl dX8_readRhyme_74 rfl ?_
        refine Go_iload_n (q := 78) C 0 rfl dX8_readRhyme_77 rfl ?_
        refine Go_aload_n (q := 79) C 1 rfl dX8_readRhyme_78 rfl ?_
        refine Go_getI (q := 82) (k := 7) C ci8 iw_8 kE_7 rfl wm_16_2 rfl dX8_readRhyme_79 rfl ?_
        refine Go_callV_V (av := (fun ad => [.int x52_4, .int (gI S65_5 7 7)])) (st := []) (C := C) (hM := c_X4_addRhyme (Gl G) isE4_11 hR hw) (hlk := wm_20_1) (hini := wm_2_0) (hins := wm_20_2) (hsel := wm_20_3) (hcode := wm_20_4) (ho := kE_11) (hci := rfl) (hc13 := by decide) (n := 2) (hd := by decide +kernel) (hr0 := ⟨rfl, rfl⟩) (hroom := ⟨by first | decide | (dsimp only; omega), by first | decide | (dsimp only; omega)⟩) (hlen := rfl) (hst := rfl) (hW := Nat.le_of_ble_eq_true rfl) (hdg := dX8_readRhyme_82) (q := 85) (hq := rfl) (fun S82_7 hw hR => ?_)
        refine Go_iconst (q := 86) (v := (1 : Int32)) C dX8_readRhyme_85 rfl rfl ?_
        exact Go_zret C hQ hR rfl hw dX8_readRhyme_86
  · refine Go_aload_n (q := 13) C 0 rfl dX8_readRhyme_12 rfl ?_
    refine Go_iconst (q := 14) (v := (5 : Int32)) C dX8_readRhyme_13 rfl rfl ?_
    refine Go_callV_I (av := (fun ad => [.int (5 : Int32)])) (st := []) (C := C) (hM := c_X8_isWrong (Gl G)  hR hw) (hlk := wm_18_6) (hini := wm_1_20) (hins := wm_18_7) (hsel := wm_18_8) (hcode := wm_18_9) (ho := kE_7) (hci := rfl) (hc13 := by decide) (n := 1) (hd := by decide +kernel) (hr0 := ⟨rfl, rfl⟩) (hroom := ⟨by first | decide | (dsimp only; omega), by first | decide | (dsimp only; omega)⟩) (hlen := rfl) (hst := rfl) (hW := Nat.le_of_ble_eq_true rfl) (hdg := dX8_readRhyme_14) (q := 17) (hq := rfl) (fun r14_9 S14_8 hw hR => ?_)
    exact Go_zret C hQ hR (zb hw.1) hw.2 dX8_readRhyme_17
-- X4_addWhole
abbrev rm_X4_addWhole : Room := { frames := 1, cells := 0, slots := 0, locals := 22 }
set_option maxRecDepth 100000 in
set_option maxHeartbeats 4000000 in
theorem c_X4_addWhole (l : Launch) {o : Nat} (ho : isE4 o) {p0 : Int32} {p1 : Int32} {S : St} {Q : St → Prop} (hR : RCE S) (hw : w_X4_addWhole o p0 p1 S Q) : MetV l yX4_addWhole (wB yX4_addWhole cX4_addWhole 3 none) rm_X4_addWhole shE NE RCE (fun ad => [.ref (ad (o)), .int p0, .int p1]) S Q := by
  refine MetV_of (cc := cX4_addWhole) (maxL := 3) (ret := none) (plainFor_of_name (by decide)) (fun _ => Nat.le_of_ble_eq_true rfl) (fun G C hl hQ => ?_)
  subst hl
  have C : Cx G cX4_addWhole BIG RX4 3 none rm_X4_addWhole shE NE := C
  show Go G 3 0 [] [(0, .ref (Gad G (o))), (1, .int p0), (2, .int p1)] S
  unfold w_X4_addWhole at hw
  refine Go_aload_n (q := 1) C 0 rfl dX4_addWhole_0 rfl ?_
  refine Go_getA (q := 4) (k := 9) C ci4 iw_4 (oE4 ho) (rE4_9 hR ho) rfl wm_6_23 rfl dX4_addWhole_1 rfl ?_
  refine Go_iload_n (q := 5) C 1 rfl dX4_addWhole_4 rfl ?_
  refine Go_iload_n (q := 6) C 2 rfl dX4_addWhole_5 rfl ?_
  refine Go_callSN_V (av := (fun ad => [.ref (ad ((o + 3))), .int p0, .int p1])) (st := []) (C := C) (hM := c_X11_put (Gl G) (ok_ln (oE4_9 ho)) hR hw) (host := "EndsRound") (hnw := nw_74) (hini := wm_1_2) (hst2 := wm_10_11) (hcode := wm_10_12) (n := 3) (hd := by decide +kernel) (hr0 := ⟨rfl, rfl⟩) (hroom := ⟨by first | decide | (dsimp only; omega), by first | decide | (dsimp only; omega)⟩) (hlen := rfl) (hst := rfl) (hW := Nat.le_of_ble_eq_true rfl) (hdg := dX4_addWhole_6) (q := 9) (hq := rfl) (fun S6_1 hw hR => ?_)
  refine Go_aload_n (q := 10) C 0 rfl dX4_addWhole_9 rfl ?_
  refine Go_dup (q := 11) C rfl dX4_addWhole_10 rfl ?_
  refine Go_getI (q := 14) (k := 3) C ci4 iw_4 (oE4 ho) rfl wm_10_7 rfl dX4_addWhole_11 rfl ?_
  refine Go_iconst (q := 15) (v := (1 : Int32)) C dX4_addWhole_14 rfl rfl ?_
  refine Go_iadd (q := 16) C dX4_addWhole_15 rfl ?_
  refine Go_putI (q := 19) (k := 3) C ci4 iw_4 (oE4 ho) rfl wm_10_7 rfl rfl (ci4.2.2.2.1 3 (by decide)) rfl rfl dX4_addWhole_16 rfl ?_
  refine Go_S (fun S16_2 e_S16_2 => ?_)
  have hw := hw S16_2 e_S16_2
  have hR := rcE e_S16_2 hR
  exact Go_vret C hQ hR hw dX4_addWhole_19
-- X8_readWhole
abbrev rm_X8_readWhole : Room := { frames := 3, cells := 0, slots := 0, locals := 65 }
set_option maxRecDepth 100000 in
set_option maxHeartbeats 4000000 in
theorem g_X8_readWhole_45 {G : GC} (C : Cx G cX8_readWhole BIG RX8 3 (some .boolean) rm_X8_readWhole shE NE) {Q : Int32 → St → Prop} (hQ : QI G RCE Q) (t0 : Int32) {S : St} (hR : RCE S) (hw : w_X8_readWhole_45 Q t0 S) : Go G 3 45 [.int t0] [(0, .ref (Gad G (7)))] S := by
  unfold w_X8_readWhole_45 at hw
  refine Go_istore_n (q := 46) (lv' := [(1, .int t0), (0, .ref (Gad G (7)))]) C rfl dX8_readWhole_45 (by decide) rfl rfl ?_
  refine Go_aload_n (q := 47) C 1 rfl dX8_readWhole_46 rfl ?_
  refine Go_iconst (q := 48) (v := (0 : Int32)) C dX8_readWhole_47 rfl rfl ?_
  refine Go_aload_n (q := 49) C 1 rfl dX8_readWhole_48 rfl ?_
  refine Go_getA (q := 52) (k := 2) C ci8 iw_8 kE_7 (rE_7_2 hR) rfl wm_6_10 rfl dX8_readWhole_49 rfl ?_
  refine Go_getIN (q := 55) (k := 0) (host := "EndsRound") C ci4 iw_4 kE_11 rfl nw_10 rfl dX8_readWhole_52 rfl ?_
  refine Go_iconst (q := 56) (v := (1 : Int32)) C dX8_readWhole_55 rfl rfl ?_
  refine Go_isub (q := 57) C dX8_readWhole_56 rfl ?_
  refine Go_iload_n (q := 58) C 0 rfl dX8_readWhole_57 rfl ?_
  refine Go_callV_I (av := (fun ad => [.int (0 : Int32), .int ((gI S 11 0) - (1 : Int32)), .int t0])) (st := []) (C := C) (hM := c_X8_takeNumber (Gl G) hR hw) (hlk := wm_18_10) (hini := wm_1_20) (hins := wm_18_11) (hsel := wm_18_12) (hcode := wm_18_13) (ho := kE_7) (hci := rfl) (hc13 := by decide) (n := 3) (hd := by decide +kernel) (hr0 := ⟨rfl, rfl⟩) (hroom := ⟨by first | decide | (dsimp only; omega), by first | decide | (dsimp only; omega)⟩) (hlen := rfl) (hst := rfl) (hW := Nat.le_of_ble_eq_true rfl) (hdg := dX8_readWhole_58) (q := 61) (hq := rfl) (fun r58_5 S58_4 hw hR => ?_)
  refine Go_if_ne (t := 66) (q := 64) C hw dX8_readWhole_61 rfl rfl (fun hw => ?_) (fun hw => ?_)
  · refine Go_iconst (q := 65) (v := (0 : Int32)) C dX8_readWhole_64 rfl rfl ?_
    exact Go_zret C hQ hR rfl hw dX8_readWhole_65
  · refine Go_aload_n (q := 67) C 1 rfl dX8_readWhole_66 rfl ?_
    refine Go_getI (q := 70) (k := 7) C ci8 iw_8 kE_7 rfl wm_16_2 rfl dX8_readWhole_67 rfl ?_
    refine Go_topi (fun x70_6 e_x70_6 => ?_)
    have hw := hw x70_6 e_x70_6
    refine Go_istore_n (q := 71) (lv' := [(2, .int x70_6), (1, .int t0), (0, .ref (Gad G (7)))]) C rfl dX8_readWhole_70 (by decide) rfl rfl ?_
    refine Go_aload_n (q := 72) C 2 rfl dX8_readWhole_71 rfl ?_
    refine Go_sipush (q := 75) (v := (138 : Int32)) C dX8_readWhole_72 rfl rfl ?_
    refine Go_callV_I (av := (fun ad => [.int (138 : Int32)])) (st := []) (C := C) (hM := c_X8_takeKey (Gl G) hR hw) (hlk := wm_18_2) (hini := wm_1_20) (hins := wm_18_3) (hsel := wm_18_4) (hcode := wm_18_5) (ho := kE_7) (hci := rfl) (hc13 := by decide) (n := 1) (hd := by decide +kernel) (hr0 := ⟨rfl, rfl⟩) (hroom := ⟨by first | decide | (dsimp only; omega), by first | decide | (dsimp only; omega)⟩) (hlen := rfl) (hst := rfl) (hW := Nat.le_of_ble_eq_true rfl) (hdg := dX8_readWhole_75) (q := 78) (hq := rfl) (fun r75_8 S75_7 hw hR => ?_)
    refine Go_if_eq (t := 92) (q := 81) C hw dX8_readWhole_78 rfl rfl (fun hw => ?_) (fun hw => ?_)
    · refine Go_iconst (q := 93) (v := (0 : Int32)) C dX8_readWhole_92 rfl rfl ?_
      exact Go_zret C hQ hR rfl hw dX8_readWhole_93
    · refine Go_aload_n (q := 82) C 2 rfl dX8_readWhole_81 rfl ?_
      refine Go_iconst (q := 83) (v := (1 : Int32)) C dX8_readWhole_82 rfl rfl ?_
      refine Go_bipush (q := 85) (v := (99 : Int32)) C dX8_readWhole_83 rfl rfl ?_
      refine Go_iconst (q := 86) (v := (-1 : Int32)) C dX8_readWhole_85 rfl rfl ?_
      refine Go_callV_I (av := (fun ad => [.int (1 : Int32), .int (99 : Int32), .int (-1 : Int32)])) (st := []) (C := C) (hM := c_X8_takeNumber (Gl G) hR hw) (hlk := wm_18_10) (hini := wm_1_20) (hins := wm_18_11) (hsel := wm_18_12) (hcode := wm_18_13) (ho := kE_7) (hci := rfl) (hc13 := by decide) (n := 3) (hd := by decide +kernel) (hr0 := ⟨rfl, rfl⟩) (hroom := ⟨by first | decide | (dsimp only; omega), by first | decide | (dsimp only; omega)⟩) (hlen := rfl) (hst := rfl) (hW := Nat.le_of_ble_eq_true rfl) (hdg := dX8_readWhole_86) (q := 89) (hq := rfl) (fun r86_10 S86_9 hw hR => ?_)
      refine Go_if_ne (t := 94) (q := 92) C hw dX8_readWhole_89 rfl rfl (fun hw => ?_) (fun hw => ?_)
      · refine Go_iconst (q := 93) (v := (0 : Int32)) C dX8_readWhole_92 rfl rfl ?_
        exact Go_zret C hQ hR rfl hw dX8_readWhole_93
      · refine Go_aload_n (q := 95) C 2 rfl dX8_readWhole_94 rfl ?_
        refine Go_getA (q := 98) (k := 2) C ci8 iw_8 kE_7 (rE_7_2 hR) rfl wm_6_10 rfl dX8_readWhole_95 rfl ?_
        refine Go_iload_n (q := 99) C 0 rfl dX8_readWhole_98 rfl ?_
        refine Go_aload_n (q := 100) C 2 rfl dX8_readWhole_99 rfl ?_
        refine Go_getI (q := 103) (k := 7) C ci8 iw_8 kE_7 rfl wm_16_2 rfl dX8_readWhole_100 rfl ?_
        refine Go_callV_V (av := (fun ad => [.int x70_6, .int (gI S86_9 7 7)])) (st := []) (C := C) (hM := c_X4_addWhole (Gl G) isE4_11 hR hw) (hlk := wm_20_9) (hini := wm_2_0) (hins := wm_20_10) (hsel := wm_20_11) (hcode := wm_20_12) (ho := kE_11) (hci := rfl) (hc13 := by decide) (n := 2) (hd := by decide +kernel) (hr0 := ⟨rfl, rfl⟩) (hroom := ⟨by first | decide | (dsimp only; omega), by first | decide | (dsimp only; omega)⟩) (hlen := rfl) (hst := rfl) (hW := Nat.le_of_ble_eq_true rfl) (hdg := dX8_readWhole_103) (q := 106) (hq := rfl) (fun S103_11 hw hR => ?_)
        refine Go_iconst (q := 107) (v := (1 : Int32)) C dX8_readWhole_106 rfl rfl ?_
        exact Go_zret C hQ hR rfl hw dX8_readWhole_107
set_option maxRecDepth 100000 in
set_option maxHeartbeats 4000000 in
theorem g_X8_readWhole_44 {G : GC} (C : Cx G cX8_readWhole BIG RX8 3 (some .boolean) rm_X8_readWhole shE NE) {Q : Int32 → St → Prop} (hQ : QI G RCE Q) {S : St} (hR : RCE S) (hw : w_X8_readWhole_44 Q S) : Go G 3 44 [] [(0, .ref (Gad G (7)))] S := by
  unfold w_X8_readWhole_44 at hw
  refine Go_iconst (q := 45) (v := (-1 : Int32)) C dX8_readWhole_44 rfl rfl ?_
  refine Go_lvp [0] rfl ?_
  exact g_X8_readWhole_45 C hQ _ hR hw
set_option maxRecDepth 100000 in
set_option maxHeartbeats 4000000 in
theorem c_X8_readWhole (l : Launch) {S : St} {Q : Int32 → St → Prop} (hR : RCE S) (hw : w_X8_readWhole S Q) : MetI l yX8_readWhole (wB yX8_readWhole cX8_readWhole 3 (some .boolean)) rm_X8_readWhole shE NE RCE (fun ad => [.ref (ad (7))]) S Q := by
  refine MetI_of (cc := cX8_readWhole) (maxL := 3) (ret := (some .boolean)) (plainFor_of_name (by decide)) (fun _ => Nat.le_of_ble_eq_true rfl) (fun G C hl hQ => ?_)
  subst hl
  have C : Cx G cX8_readWhole BIG RX8 3 (some .boolean) rm_X8_readWhole shE NE := C
  show Go G 3 0 [] [(0, .ref (Gad G (7)))] S
  unfold w_X8_readWhole at hw
  refine Go_aload_n (q := 1) C 0 rfl dX8_readWhole_0 rfl ?_
  refine Go_aload_n (q := 2) C 0 rfl dX8_readWhole_1 rfl ?_
  refine Go_getI (q := 5) (k := 4) C ci8 iw_8 kE_7 rfl wm_18_0 rfl dX8_readWhole_2 rfl ?_
  refine Go_iconst (q := 6) (v := (1 : Int32)) C dX8_readWhole_5 rfl rfl ?_
  refine Go_iadd (q := 7) C dX8_readWhole_6 rfl ?_
  refine Go_callV_V (av := (fun ad => [.int ((gI S 7 4) + (1 : Int32))])) (st := []) (C := C) (hM := c_X8_holdToken (Gl G)  hR hw) (hlk := wm_17_20) (hini := wm_1_20) (hins := wm_17_21) (hsel := wm_17_22) (hcode := wm_17_23) (ho := kE_7) (hci := rfl) (hc13 := by decide) (n := 1) (hd := by decide +kernel) (hr0 := ⟨rfl, rfl⟩) (hroom := ⟨by first | decide | (dsimp only; omega), by first | decide | (dsimp only; omega)⟩) (hlen := rfl) (hst := rfl) (hW := Nat.le_of_ble_eq_true rfl) (hdg := dX8_readWhole_7) (q := 10) (hq := rfl) (fun S7_1 hw hR => ?_)
  refine Go_aload_n (q := 11) C 0 rfl dX8_readWhole_10 rfl ?_
  refine Go_getI (q := 14) (k := 5) C ci8 iw_8 kE_7 rfl wm_16_3 rfl dX8_readWhole_11 rfl ?_
  refine Go_iconst (q := 15) (v := (2 : Int32)) C dX8_readWhole_14 rfl rfl ?_
  refine Go_icmp_ne (t := 44) (q := 18) C hw dX8_readWhole_15 rfl rfl (fun hw => ?_) (fun hw => ?_)
  · refine Go_aload_n (q := 19) C 0 rfl dX8_readWhole_18 rfl ?_
    refine Go_getA (q := 22) (k := 2) C ci8 iw_8 kE_7 (rE_7_2 hR) rfl wm_6_10 rfl dX8_readWhole_19 rfl ?_
    refine Go_getAN (q := 25) (k := 9) (host := "EndsRound") C ci4 iw_4 kE_11 (rE4_9 hR isE4_11) rfl nw_32 rfl dX8_readWhole_22 rfl ?_
    refine Go_aload_n (q := 26) C 0 rfl dX8_readWhole_25 rfl ?_
    refine Go_getJ (q := 29) (k := 6) C ci8 iw_8 kE_7 rfl wm_18_1 rfl dX8_readWhole_26 rfl ?_
    refine Go_l2i (q := 30) C dX8_readWhole_29 rfl ?_
    refine Go_callSN_I (av := (fun ad => [.ref (ad (14)), .int ((gJ S7_1 7 6).toInt32)])) (st := []) (C := C) (hM := c_X11_cell (Gl G) (ok_ln kE_14) hR hw) (host := "EndsRound") (hnw := nw_84) (hini := wm_1_2) (hst2 := wm_10_22) (hcode := wm_10_23) (n := 2) (hd := by decide +kernel) (hr0 := ⟨rfl, rfl⟩) (hroom := ⟨by first | decide | (dsimp only; omega), by first | decide | (dsimp only; omega)⟩) (hlen := rfl) (hst := rfl) (hW := Nat.le_of_ble_eq_true rfl) (hdg := dX8_readWhole_30) (q := 33) (hq := rfl) (fun r30_3 S30_2 hw hR => ?_)
    refine Go_if_le (t := 44) (q := 36) C hw dX8_readWhole_33 rfl rfl (fun hw => ?_) (fun hw => ?_)
    · refine Go_lvp [0] rfl ?_
      exact g_X8_readWhole_44 C hQ hR hw
    · refine Go_aload_n (q := 37) C 0 rfl dX8_readWhole_36 rfl ?_
      refine Go_getJ (q := 40) (k := 6) C ci8 iw_8 kE_7 rfl wm_18_1 rfl dX8_readWhole_37 rfl ?_
      refine Go_l2i (q := 41) C dX8_readWhole_40 rfl ?_
      refine Go_goto (q := 45) C dX8_readWhole_41 rfl ?_
      refine Go_lvp [0] rfl ?_
      exact g_X8_readWhole_45 C hQ _ hR hw
  · refine Go_lvp [0] rfl ?_
    exact g_X8_readWhole_44 C hQ hR hw
-- X8_readFeet
abbrev rm_X8_readFeet : Room := { frames := 3, cells := 0, slots := 0, locals := 65 }
set_option maxRecDepth 100000 in
set_option maxHeartbeats 4000000 in
theorem c_X8_readFeet (l : Launch) {S : St} {Q : Int32 → St → Prop} (hR : RCE S) (hw : w_X8_readFeet S Q) : MetI l yX8_readFeet (wB yX8_readFeet cX8_readFeet 1 (some .boolean)) rm_X8_readFeet shE NE RCE (fun ad => [.ref (ad (7))]) S Q := by
  refine MetI_of (cc := cX8_readFeet) (maxL := 1) (ret := (some .boolean)) (plainFor_of_name (by decide)) (fun _ => Nat.le_of_ble_eq_true rfl) (fun G C hl hQ => ?_)
  subst hl
  have C : Cx G cX8_readFeet BIG RX8 1 (some .boolean) rm_X8_readFeet shE NE := C
  show Go G 1 0 [] [(0, .ref (Gad G (7)))] S
  unfold w_X8_readFeet at hw
  refine Go_aload_n (q := 1) C 0 rfl dX8_readFeet_0 rfl ?_
  refine Go_getA (q := 4) (k := 2) C ci8 iw_8 kE_7 (rE_7_2 hR) rfl wm_6_10 rfl dX8_readFeet_1 rfl ?_
  refine Go_getIN (q := 7) (k := 4) (host := "EndsRound") C ci4 iw_4 kE_11 rfl nw_17 rfl dX8_readFeet_4 rfl ?_
  refine Go_if_le (t := 16) (q := 10) C hw dX8_readFeet_7 rfl rfl (fun hw => ?_) (fun hw => ?_)
  · refine Go_aload_n (q := 17) C 0 rfl dX8_readFeet_16 rfl ?_
    refine Go_aload_n (q := 18) C 0 rfl dX8_readFeet_17 rfl ?_
    refine Go_getI (q := 21) (k := 4) C ci8 iw_8 kE_7 rfl wm_18_0 rfl dX8_readFeet_18 rfl ?_
    refine Go_iconst (q := 22) (v := (1 : Int32)) C dX8_readFeet_21 rfl rfl ?_
    refine Go_iadd (q := 23) C dX8_readFeet_22 rfl ?_
    refine Go_callV_V (av := (fun ad => [.int ((gI S 7 4) + (1 : Int32))])) (st := []) (C := C) (hM := c_X8_holdToken (Gl G)  hR hw) (hlk := wm_17_20) (hini := wm_1_20) (hins := wm_17_21) (hsel := wm_17_22) (hcode := wm_17_23) (ho := kE_7) (hci := rfl) (hc13 := by decide) (n := 1) (hd := by decide +kernel) (hr0 := ⟨rfl, rfl⟩) (hroom := ⟨by first | decide | (dsimp only; omega), by first | decide | (dsimp only; omega)⟩) (hlen := rfl) (hst := rfl) (hW := Nat.le_of_ble_eq_true rfl) (hdg := dX8_readFeet_23) (q := 26) (hq := rfl) (fun S23_1 hw hR => ?_)
    refine Go_aload_n (q := 27) C 0 rfl dX8_readFeet_26 rfl ?_
    refine Go_iconst (q := 28) (v := (1 : Int32)) C dX8_readFeet_27 rfl rfl ?_
    refine Go_bipush (q := 30) (v := (99 : Int32)) C dX8_readFeet_28 rfl rfl ?_
    refine Go_iconst (q := 31) (v := (-1 : Int32)) C dX8_readFeet_30 rfl rfl ?_
    refine Go_callV_I (av := (fun ad => [.int (1 : Int32), .int (99 : Int32), .int (-1 : Int32)])) (st := []) (C := C) (hM := c_X8_takeNumber (Gl G)  hR hw) (hlk := wm_18_10) (hini := wm_1_20) (hins := wm_18_11) (hsel := wm_18_12) (hcode := wm_18_13) (ho := kE_7) (hci := rfl) (hc13 := by decide) (n := 3) (hd := by decide +kernel) (hr0 := ⟨rfl, rfl⟩) (hroom := ⟨by first | decide | (dsimp only; omega), by first | decide | (dsimp only; omega)⟩) (hlen := rfl) (hst := rfl) (hW := Nat.le_of_ble_eq_true rfl) (hdg := dX8_readFeet_31) (q := 34) (hq := rfl) (fun r31_3 S31_2 hw hR => ?_)
    refine Go_if_ne (t := 39) (q := 37) C hw dX8_readFeet_34 rfl rfl (fun hw => ?_) (fun hw => ?_)
    · refine Go_iconst (q := 38) (v := (0 : Int32)) C dX8_readFeet_37 rfl rfl ?_
      exact Go_zret C hQ hR rfl hw dX8_readFeet_38
    · refine Go_aload_n (q := 40) C 0 rfl dX8_readFeet_39 rfl ?_
      refine Go_getA (q := 43) (k := 2) C ci8 iw_8 kE_7 (rE_7_2 hR) rfl wm_6_10 rfl dX8_readFeet_40 rfl ?_
      refine Go_aload_n (q := 44) C 0 rfl dX8_readFeet_43 rfl ?_
      refine Go_getI (q := 47) (k := 7) C ci8 iw_8 kE_7 rfl wm_16_2 rfl dX8_readFeet_44 rfl ?_
      refine Go_putIN (q := 50) (k := 4) (host := "EndsRound") C ci4 iw_4 kE_11 rfl nw_17 rfl rfl (ci4.2.2.2.1 4 (by decide)) rfl rfl dX8_readFeet_47 rfl ?_
      refine Go_S (fun S47_4 e_S47_4 => ?_)
      have hw := hw S47_4 e_S47_4
      have hR := rcE e_S47_4 hR
      refine Go_iconst (q := 51) (v := (1 : Int32)) C dX8_readFeet_50 rfl rfl ?_
      exact Go_zret C hQ hR rfl hw dX8_readFeet_51
  · refine Go_aload_n (q := 11) C 0 rfl dX8_readFeet_10 rfl ?_
    refine Go_iconst (q := 12) (v := (3 : Int32)) C dX8_readFeet_11 rfl rfl ?_
    refine Go_callV_I (av := (fun ad => [.int (3 : Int32)])) (st := []) (C := C) (hM := c_X8_isWrong (Gl G)  hR hw) (hlk := wm_18_6) (hini := wm_1_20) (hins := wm_18_7) (hsel := wm_18_8) (hcode := wm_18_9) (ho := kE_7) (hci := rfl) (hc13 := by decide) (n := 1) (hd := by decide +kernel) (hr0 := ⟨rfl, rfl⟩) (hroom := ⟨by first | decide | (dsimp only; omega), by first | decide | (dsimp only; omega)⟩) (hlen := rfl) (hst := rfl) (hW := Nat.le_of_ble_eq_true rfl) (hdg := dX8_readFeet_12) (q := 15) (hq := rfl) (fun r12_6 S12_5 hw hR => ?_)
    exact Go_zret C hQ hR (zb hw.1) hw.2 dX8_readFeet_15
-- X8_takeName
abbrev rm_X8_takeName : Room := { frames := 2, cells := 0, slots := 0, locals := 42 }
set_option maxRecDepth 100000 in
set_option maxHeartbeats 4000000 in
theorem g_X8_takeName_113 {G : GC} (C : Cx G cX8_takeName BIG RX8 2 (some .boolean) rm_X8_takeName shE NE) {Q : Int32 → St → Prop} (hQ : QI G RCE Q) {S : St} (hR : RCE S) (hw : w_X8_takeName_113 Q S) : Go G 2 113 [] [(0, .ref (Gad G (7)))] S := by
  unfold w_X8_takeName_113 at hw
  refine Go_aload_n (q := 114) C 0 rfl dX8_takeName_113 rfl ?_
  refine Go_aload_n (q := 115) C 0 rfl dX8_takeName_114 rfl ?_
  refine Go_getI (q := 118) (k := 4) C ci8 iw_8 kE_7 rfl wm_18_0 rfl dX8_takeName_115 rfl ?_
  refine Go_iconst (q := 119) (v := (1 : Int32)) C dX8_takeName_118 rfl rfl ?_
  refine Go_iadd (q := 120) C dX8_takeName_119 rfl ?_
  refine Go_callV_V (av := (fun ad => [.int ((gI S 7 4) + (1 : Int32))])) (st := []) (C := C) (hM := c_X8_holdToken (Gl G) hR hw) (hlk := wm_17_20) (hini := wm_1_20) (hins := wm_17_21) (hsel := wm_17_22) (hcode := wm_17_23) (ho := kE_7) (hci := rfl) (hc13 := by decide) (n := 1) (hd := by decide +kernel) (hr0 := ⟨rfl, rfl⟩) (hroom := ⟨by first | decide | (dsimp only; omega), by first | decide | (dsimp only; omega)⟩) (hlen := rfl) (hst := rfl) (hW := Nat.le_of_ble_eq_true rfl) (hdg := dX8_takeName_120) (q := 123) (hq := rfl) (fun S120_1 hw hR => ?_)
  refine Go_iconst (q := 124) (v := (1 : Int32)) C dX8_takeName_123 rfl rfl ?_
  exact Go_zret C hQ hR rfl hw dX8_takeName_124
set_option maxRecDepth 100000 in
set_option maxHeartbeats 4000000 in
theorem g_X8_takeName_72 {G : GC} (C : Cx G cX8_takeName BIG RX8 2 (some .boolean) rm_X8_takeName shE NE) {Q : Int32 → St → Prop} (hQ : QI G RCE Q) {S : St} (hR : RCE S) (hw : w_X8_takeName_72 Q S) : Go G 2 72 [] [(0, .ref (Gad G (7)))] S := by
  unfold w_X8_takeName_72 at hw
  refine Go_aload_n (q := 73) C 0 rfl dX8_takeName_72 rfl ?_
  refine Go_getA (q := 76) (k := 2) C ci8 iw_8 kE_7 (rE_7_2 hR) rfl wm_6_10 rfl dX8_takeName_73 rfl ?_
  refine Go_getIN (q := 79) (k := 5) (host := "EndsRound") C ci4 iw_4 kE_11 rfl nw_22 rfl dX8_takeName_76 rfl ?_
  refine Go_if_lt (t := 113) (q := 82) C hw dX8_takeName_79 rfl rfl (fun hw => ?_) (fun hw => ?_)
  · refine Go_lvp [0] rfl ?_
    exact g_X8_takeName_113 C hQ hR hw
  · refine Go_aload_n (q := 83) C 0 rfl dX8_takeName_82 rfl ?_
    refine Go_getA (q := 86) (k := 2) C ci8 iw_8 kE_7 (rE_7_2 hR) rfl wm_6_10 rfl dX8_takeName_83 rfl ?_
    refine Go_getIN (q := 89) (k := 5) (host := "EndsRound") C ci4 iw_4 kE_11 rfl nw_22 rfl dX8_takeName_86 rfl ?_
    refine Go_aload_n (q := 90) C 0 rfl dX8_takeName_89 rfl ?_
    refine Go_getA (q := 93) (k := 3) C ci8 iw_8 kE_7 (rE_7_3 hR) rfl wm_6_11 rfl dX8_takeName_90 rfl ?_
    refine Go_alen2 (q := 94) (v := (12 : Int32)) C kE_20 (by decide) rfl dX8_takeName_93 rfl ?_
    refine Go_icmp_ge (t := 113) (q := 97) C hw dX8_takeName_94 rfl rfl (fun hw => ?_) (fun hw => ?_)
    · refine Go_lvp [0] rfl ?_
      exact g_X8_takeName_113 C hQ hR hw
    · refine Go_aload_n (q := 98) C 0 rfl dX8_takeName_97 rfl ?_
      refine Go_getA (q := 101) (k := 3) C ci8 iw_8 kE_7 (rE_7_3 hR) rfl wm_6_11 rfl dX8_takeName_98 rfl ?_
      refine Go_aload_n (q := 102) C 0 rfl dX8_takeName_101 rfl ?_
      refine Go_getA (q := 105) (k := 2) C ci8 iw_8 kE_7 (rE_7_2 hR) rfl wm_6_10 rfl dX8_takeName_102 rfl ?_
      refine Go_getIN (q := 108) (k := 5) (host := "EndsRound") C ci4 iw_4 kE_11 rfl nw_22 rfl dX8_takeName_105 rfl ?_
      refine Go_aload_n (q := 109) C 0 rfl dX8_takeName_108 rfl ?_
      refine Go_getJ (q := 112) (k := 6) C ci8 iw_8 kE_7 rfl wm_18_1 rfl dX8_takeName_109 rfl ?_
      obtain ⟨hin, hw⟩ := hw
      refine Go_lastore (q := 113) C kE_20 hin dX8_takeName_112 rfl ?_
      refine Go_S (fun S112_2 e_S112_2 => ?_)
      have hw := hw S112_2 e_S112_2
      have hR := rcEJ e_S112_2 hR
      refine Go_lvp [0] rfl ?_
      exact g_X8_takeName_113 C hQ hR hw
set_option maxRecDepth 100000 in
set_option maxHeartbeats 4000000 in
theorem g_X8_takeName_26 {G : GC} (C : Cx G cX8_takeName BIG RX8 2 (some .boolean) rm_X8_takeName shE NE) {Q : Int32 → St → Prop} (hQ : QI G RCE Q) (v1 : Int32) {S : St} (hR : RCE S) (hw : w_X8_takeName_26 Q v1 S) : Go G 2 26 [] [(0, .ref (Gad G (7))), (1, .int v1)] S := by
  obtain ⟨n, hw⟩ := hw
  induction n generalizing v1 S with
  | zero => exact hw.elim
  | succ n ih =>
    have hw : b_X8_takeName_26 Q (lpn (fun _ _ => False) (b_X8_takeName_26 Q) n) v1 S := hw
    generalize lpn (fun _ _ => False) (b_X8_takeName_26 Q) n = kf at hw ih
    have hk26 := fun (v1 : Int32) (S : St) (hR : RCE S) hw => ih v1 hR hw
    unfold b_X8_takeName_26 at hw
    refine Go_iload_n (q := 27) C 1 rfl dX8_takeName_26 rfl ?_
    refine Go_aload_n (q := 28) C 0 rfl dX8_takeName_27 rfl ?_
    refine Go_getA (q := 31) (k := 2) C ci8 iw_8 kE_7 (rE_7_2 hR) rfl wm_6_10 rfl dX8_takeName_28 rfl ?_
    refine Go_getIN (q := 34) (k := 5) (host := "EndsRound") C ci4 iw_4 kE_11 rfl nw_22 rfl dX8_takeName_31 rfl ?_
    refine Go_icmp_ge (t := 72) (q := 37) C hw dX8_takeName_34 rfl rfl (fun hw => ?_) (fun hw => ?_)
    · refine Go_lvp [0] rfl ?_
      exact g_X8_takeName_72 C hQ hR hw
    · refine Go_iload_n (q := 38) C 1 rfl dX8_takeName_37 rfl ?_
      refine Go_aload_n (q := 39) C 0 rfl dX8_takeName_38 rfl ?_
      refine Go_getA (q := 42) (k := 3) C ci8 iw_8 kE_7 (rE_7_3 hR) rfl wm_6_11 rfl dX8_takeName_39 rfl ?_
      refine Go_alen2 (q := 43) (v := (12 : Int32)) C kE_20 (by decide) rfl dX8_takeName_42 rfl ?_
      refine Go_icmp_ge (t := 72) (q := 46) C hw dX8_takeName_43 rfl rfl (fun hw => ?_) (fun hw => ?_)
      · refine Go_lvp [0] rfl ?_
        exact g_X8_takeName_72 C hQ hR hw
      · refine Go_aload_n (q := 47) C 0 rfl dX8_takeName_46 rfl ?_
        refine Go_getA (q := 50) (k := 3) C ci8 iw_8 kE_7 (rE_7_3 hR) rfl wm_6_11 rfl dX8_takeName_47 rfl ?_
        refine Go_iload_n (q := 51) C 1 rfl dX8_takeName_50 rfl ?_
        obtain ⟨hin, hw⟩ := hw
        refine Go_laload (q := 52) C kE_20 hin dX8_takeName_51 rfl ?_
        refine Go_aload_n (q := 53) C 0 rfl dX8_takeName_52 rfl ?_
        refine Go_getJ (q := 56) (k := 6) C ci8 iw_8 kE_7 rfl wm_18_1 rfl dX8_takeName_53 rfl ?_
        refine Go_lcmp_ne (t := 66) (q := 57) (q2 := 60) C hw dX8_takeName_56 rfl dX8_takeName_57 rfl rfl (fun hw => ?_) (fun hw => ?_)
        · refine Go_aload_n (q := 61) C 0 rfl dX8_takeName_60 rfl ?_
          refine Go_iconst (q := 62) (v := (3 : Int32)) C dX8_takeName_61 rfl rfl ?_
          refine Go_callV_I (av := (fun ad => [.int (3 : Int32)])) (st := []) (C := C) (hM := c_X8_isWrong (Gl G) hR hw) (hlk := wm_18_6) (hini := wm_1_20) (hins := wm_18_7) (hsel := wm_18_8) (hcode := wm_18_9) (ho := kE_7) (hci := rfl) (hc13 := by decide) (n := 1) (hd := by decide +kernel) (hr0 := ⟨rfl, rfl⟩) (hroom := ⟨by first | decide | (dsimp only; omega), by first | decide | (dsimp only; omega)⟩) (hlen := rfl) (hst := rfl) (hW := Nat.le_of_ble_eq_true rfl) (hdg := dX8_takeName_62) (q := 65) (hq := rfl) (fun r62_4 S62_3 hw hR => ?_)
          exact Go_zret C hQ hR (zb hw.1) hw.2 dX8_takeName_65
        · refine Go_iinc2 (q := 69) (kp := 1) (cst := (1 : Int32)) C dX8_takeName_66 rfl rfl (by decide) rfl (fun x66_5 e_x66_5 => ?_)
          have hw := hw x66_5 e_x66_5
          refine Go_lve (lv' := [(1, .int x66_5), (0, .ref (Gad G (7)))]) rfl ?_
          refine Go_goto (q := 26) C dX8_takeName_69 rfl ?_
          refine Go_lvp [1, 0] rfl ?_
          exact hk26 _ _ hR hw
set_option maxRecDepth 100000 in
set_option maxHeartbeats 4000000 in
theorem c_X8_takeName (l : Launch) {S : St} {Q : Int32 → St → Prop} (hR : RCE S) (hw : w_X8_takeName S Q) : MetI l yX8_takeName (wB yX8_takeName cX8_takeName 2 (some .boolean)) rm_X8_takeName shE NE RCE (fun ad => [.ref (ad (7))]) S Q := by
  refine MetI_of (cc := cX8_takeName) (maxL := 2) (ret := (some .boolean)) (plainFor_of_name (by decide)) (fun _ => Nat.le_of_ble_eq_true rfl) (fun G C hl hQ => ?_)
  subst hl
  have C : Cx G cX8_takeName BIG RX8 2 (some .boolean) rm_X8_takeName shE NE := C
  show Go G 2 0 [] [(0, .ref (Gad G (7)))] S
  unfold w_X8_takeName at hw
  refine Go_aload_n (q := 1) C 0 rfl dX8_takeName_0 rfl ?_
  refine Go_getI (q := 4) (k := 5) C ci8 iw_8 kE_7 rfl wm_16_3 rfl dX8_takeName_1 rfl ?_
  refine Go_iconst (q := 5) (v := (3 : Int32)) C dX8_takeName_4 rfl rfl ?_
  refine Go_icmp_eq (t := 24) (q := 8) C hw dX8_takeName_5 rfl rfl (fun hw => ?_) (fun hw => ?_)
  · refine Go_iconst (q := 25) (v := (0 : Int32)) C dX8_takeName_24 rfl rfl ?_
    refine Go_istore_n (q := 26) (lv' := [(1, .int (0 : Int32)), (0, .ref (Gad G (7)))]) C rfl dX8_takeName_25 (by decide) rfl rfl ?_
    refine Go_lvp [1, 0] rfl ?_
    exact g_X8_takeName_26 C hQ _ hR hw
  · refine Go_aload_n (q := 9) C 0 rfl dX8_takeName_8 rfl ?_
    refine Go_getI (q := 12) (k := 5) C ci8 iw_8 kE_7 rfl wm_16_3 rfl dX8_takeName_9 rfl ?_
    refine Go_sipush (q := 15) (v := (147 : Int32)) C dX8_takeName_12 rfl rfl ?_
    refine Go_icmp_ge (t := 24) (q := 18) C hw dX8_takeName_15 rfl rfl (fun hw => ?_) (fun hw => ?_)
    · refine Go_iconst (q := 25) (v := (0 : Int32)) C dX8_takeName_24 rfl rfl ?_
      refine Go_istore_n (q := 26) (lv' := [(1, .int (0 : Int32)), (0, .ref (Gad G (7)))]) C rfl dX8_takeName_25 (by decide) rfl rfl ?_
      refine Go_lvp [1, 0] rfl ?_
      exact g_X8_takeName_26 C hQ _ hR hw
    · refine Go_aload_n (q := 19) C 0 rfl dX8_takeName_18 rfl ?_
      refine Go_iconst (q := 20) (v := (1 : Int32)) C dX8_takeName_19 rfl rfl ?_
      refine Go_callV_I (av := (fun ad => [.int (1 : Int32)])) (st := []) (C := C) (hM := c_X8_isWrong (Gl G)  hR hw) (hlk := wm_18_6) (hini := wm_1_20) (hins := wm_18_7) (hsel := wm_18_8) (hcode := wm_18_9) (ho := kE_7) (hci := rfl) (hc13 := by decide) (n := 1) (hd := by decide +kernel) (hr0 := ⟨rfl, rfl⟩) (hroom := ⟨by first | decide | (dsimp only; omega), by first | decide | (dsimp only; omega)⟩) (hlen := rfl) (hst := rfl) (hW := Nat.le_of_ble_eq_true rfl) (hdg := dX8_takeName_20) (q := 23) (hq := rfl) (fun r20_7 S20_6 hw hR => ?_)
      exact Go_zret C hQ hR (zb hw.1) hw.2 dX8_takeName_23
-- X4_addWord
abbrev rm_X4_addWord : Room := { frames := 1, cells := 0, slots := 0, locals := 22 }
set_option maxRecDepth 100000 in
set_option maxHeartbeats 4000000 in
theorem c_X4_addWord (l : Launch) {o : Nat} (ho : isE4 o) {p0 : Int32} {p1 : Int32} {p2 : Int32} {S : St} {Q : St → Prop} (hR : RCE S) (hw : w_X4_addWord o p0 p1 p2 S Q) : MetV l yX4_addWord (wB yX4_addWord cX4_addWord 4 none) rm_X4_addWord shE NE RCE (fun ad => [.ref (ad (o)), .int p0, .int p1, .int p2]) S Q := by
  refine MetV_of (cc := cX4_addWord) (maxL := 4) (ret := none) (plainFor_of_name (by decide)) (fun _ => Nat.le_of_ble_eq_true rfl) (fun G C hl hQ => ?_)
  subst hl
  have C : Cx G cX4_addWord BIG RX4 4 none rm_X4_addWord shE NE := C
  show Go G 4 0 [] [(0, .ref (Gad G (o))), (1, .int p0), (2, .int p1), (3, .int p2)] S
  unfold w_X4_addWord at hw
  refine Go_aload_n (q := 1) C 0 rfl dX4_addWord_0 rfl ?_
  refine Go_getA (q := 4) (k := 10) C ci4 iw_4 (oE4 ho) (rE4_10 hR ho) rfl wm_7_0 rfl dX4_addWord_1 rfl ?_
  refine Go_aload_n (q := 5) C 0 rfl dX4_addWord_4 rfl ?_
  refine Go_getI (q := 8) (k := 5) C ci4 iw_4 (oE4 ho) rfl wm_10_9 rfl dX4_addWord_5 rfl ?_
  refine Go_iload_n (q := 9) C 1 rfl dX4_addWord_8 rfl ?_
  refine Go_callSN_V (av := (fun ad => [.ref (ad ((o + 4))), .int (gI S o 5), .int p0])) (st := []) (C := C) (hM := c_X11_put (Gl G) (ok_ln (oE4_10 ho)) hR hw) (host := "EndsRound") (hnw := nw_74) (hini := wm_1_2) (hst2 := wm_10_11) (hcode := wm_10_12) (n := 3) (hd := by decide +kernel) (hr0 := ⟨rfl, rfl⟩) (hroom := ⟨by first | decide | (dsimp only; omega), by first | decide | (dsimp only; omega)⟩) (hlen := rfl) (hst := rfl) (hW := Nat.le_of_ble_eq_true rfl) (hdg := dX4_addWord_9) (q := 12) (hq := rfl) (fun S9_1 hw hR => ?_)
  refine Go_aload_n (q := 13) C 0 rfl dX4_addWord_12 rfl ?_
  refine Go_getA (q := 16) (k := 11) C ci4 iw_4 (oE4 ho) (rE4_11 hR ho) rfl wm_7_1 rfl dX4_addWord_13 rfl ?_
  refine Go_aload_n (q := 17) C 0 rfl dX4_addWord_16 rfl ?_
  refine Go_getI (q := 20) (k := 5) C ci4 iw_4 (oE4 ho) rfl wm_10_9 rfl dX4_addWord_17 rfl ?_
  refine Go_iload_n (q := 21) C 2 rfl dX4_addWord_20 rfl ?_
  refine Go_callSN_V (av := (fun ad => [.ref (ad ((o + 5))), .int (gI S9_1 o 5), .int p1])) (st := []) (C := C) (hM := c_X11_put (Gl G) (ok_ln (oE4_11 ho)) hR hw) (host := "EndsRound") (hnw := nw_74) (hini := wm_1_2) (hst2 := wm_10_11) (hcode := wm_10_12) (n := 3) (hd := by decide +kernel) (hr0 := ⟨rfl, rfl⟩) (hroom := ⟨by first | decide | (dsimp only; omega), by first | decide | (dsimp only; omega)⟩) (hlen := rfl) (hst := rfl) (hW := Nat.le_of_ble_eq_true rfl) (hdg := dX4_addWord_21) (q := 24) (hq := rfl) (fun S21_2 hw hR => ?_)
  refine Go_aload_n (q := 25) C 0 rfl dX4_addWord_24 rfl ?_
  refine Go_getA (q := 28) (k := 12) C ci4 iw_4 (oE4 ho) (rE4_12 hR ho) rfl wm_7_2 rfl dX4_addWord_25 rfl ?_
  refine Go_aload_n (q := 29) C 0 rfl dX4_addWord_28 rfl ?_
  refine Go_getI (q := 32) (k := 5) C ci4 iw_4 (oE4 ho) rfl wm_10_9 rfl dX4_addWord_29 rfl ?_
  refine Go_iload_n (q := 33) C 3 rfl dX4_addWord_32 rfl ?_
  refine Go_callSN_V (av := (fun ad => [.ref (ad ((o + 6))), .int (gI S21_2 o 5), .int p2])) (st := []) (C := C) (hM := c_X11_put (Gl G) (ok_ln (oE4_12 ho)) hR hw) (host := "EndsRound") (hnw := nw_74) (hini := wm_1_2) (hst2 := wm_10_11) (hcode := wm_10_12) (n := 3) (hd := by decide +kernel) (hr0 := ⟨rfl, rfl⟩) (hroom := ⟨by first | decide | (dsimp only; omega), by first | decide | (dsimp only; omega)⟩) (hlen := rfl) (hst := rfl) (hW := Nat.le_of_ble_eq_true rfl) (hdg := dX4_addWord_33) (q := 36) (hq := rfl) (fun S33_3 hw hR => ?_)
  refine Go_aload_n (q := 37) C 0 rfl dX4_addWord_36 rfl ?_
  refine Go_dup (q := 38) C rfl dX4_addWord_37 rfl ?_
  refine Go_getI (q := 41) (k := 5) C ci4 iw_4 (oE4 ho) rfl wm_10_9 rfl dX4_addWord_38 rfl ?_
  refine Go_iconst (q := 42) (v := (1 : Int32)) C dX4_addWord_41 rfl rfl ?_
  refine Go_iadd (q := 43) C dX4_addWord_42 rfl ?_
  refine Go_putI (q := 46) (k := 5) C ci4 iw_4 (oE4 ho) rfl wm_10_9 rfl rfl (ci4.2.2.2.1 5 (by decide)) rfl rfl dX4_addWord_43 rfl ?_
  refine Go_S (fun S43_4 e_S43_4 => ?_)
  have hw := hw S43_4 e_S43_4
  have hR := rcE e_S43_4 hR
  exact Go_vret C hQ hR hw dX4_addWord_46
-- X8_readWord
abbrev rm_X8_readWord : Room := { frames := 3, cells := 0, slots := 0, locals := 65 }
set_option maxRecDepth 100000 in
set_option maxHeartbeats 4000000 in
theorem c_X8_readWord (l : Launch) {S : St} {Q : Int32 → St → Prop} (hR : RCE S) (hw : w_X8_readWord S Q) : MetI l yX8_readWord (wB yX8_readWord cX8_readWord 3 (some .boolean)) rm_X8_readWord shE NE RCE (fun ad => [.ref (ad (7))]) S Q := by
  refine MetI_of (cc := cX8_readWord) (maxL := 3) (ret := (some .boolean)) (plainFor_of_name (by decide)) (fun _ => Nat.le_of_ble_eq_true rfl) (fun G C hl hQ => ?_)
  subst hl
  have C : Cx G cX8_readWord BIG RX8 3 (some .boolean) rm_X8_readWord shE NE := C
  show Go G 3 0 [] [(0, .ref (Gad G (7)))] S
  unfold w_X8_readWord at hw
  refine Go_aload_n (q := 1) C 0 rfl dX8_readWord_0 rfl ?_
  refine Go_getA (q := 4) (k := 2) C ci8 iw_8 kE_7 (rE_7_2 hR) rfl wm_6_10 rfl dX8_readWord_1 rfl ?_
  refine Go_getIN (q := 7) (k := 5) (host := "EndsRound") C ci4 iw_4 kE_11 rfl nw_22 rfl dX8_readWord_4 rfl ?_
  refine Go_bipush (q := 9) (v := (12 : Int32)) C dX8_readWord_7 rfl rfl ?_
  refine Go_icmp_lt (t := 18) (q := 12) C hw dX8_readWord_9 rfl rfl (fun hw => ?_) (fun hw => ?_)
  · refine Go_aload_n (q := 19) C 0 rfl dX8_readWord_18 rfl ?_
    refine Go_aload_n (q := 20) C 0 rfl dX8_readWord_19 rfl ?_
    refine Go_getI (q := 23) (k := 4) C ci8 iw_8 kE_7 rfl wm_18_0 rfl dX8_readWord_20 rfl ?_
    refine Go_iconst (q := 24) (v := (1 : Int32)) C dX8_readWord_23 rfl rfl ?_
    refine Go_iadd (q := 25) C dX8_readWord_24 rfl ?_
    refine Go_callV_V (av := (fun ad => [.int ((gI S 7 4) + (1 : Int32))])) (st := []) (C := C) (hM := c_X8_holdToken (Gl G)  hR hw) (hlk := wm_17_20) (hini := wm_1_20) (hins := wm_17_21) (hsel := wm_17_22) (hcode := wm_17_23) (ho := kE_7) (hci := rfl) (hc13 := by decide) (n := 1) (hd := by decide +kernel) (hr0 := ⟨rfl, rfl⟩) (hroom := ⟨by first | decide | (dsimp only; omega), by first | decide | (dsimp only; omega)⟩) (hlen := rfl) (hst := rfl) (hW := Nat.le_of_ble_eq_true rfl) (hdg := dX8_readWord_25) (q := 28) (hq := rfl) (fun S25_1 hw hR => ?_)
    refine Go_aload_n (q := 29) C 0 rfl dX8_readWord_28 rfl ?_
    refine Go_callV_I (av := (fun ad => [])) (st := []) (C := C) (hM := c_X8_takeName (Gl G)  hR hw) (hlk := wm_20_21) (hini := wm_1_20) (hins := wm_20_22) (hsel := wm_20_23) (hcode := wm_21_0) (ho := kE_7) (hci := rfl) (hc13 := by decide) (n := 0) (hd := by decide +kernel) (hr0 := ⟨rfl, rfl⟩) (hroom := ⟨by first | decide | (dsimp only; omega), by first | decide | (dsimp only; omega)⟩) (hlen := rfl) (hst := rfl) (hW := Nat.le_of_ble_eq_true rfl) (hdg := dX8_readWord_29) (q := 32) (hq := rfl) (fun r29_3 S29_2 hw hR => ?_)
    refine Go_if_eq (t := 56) (q := 35) C hw dX8_readWord_32 rfl rfl (fun hw => ?_) (fun hw => ?_)
    · refine Go_iconst (q := 57) (v := (0 : Int32)) C dX8_readWord_56 rfl rfl ?_
      exact Go_zret C hQ hR rfl hw dX8_readWord_57
    · refine Go_aload_n (q := 36) C 0 rfl dX8_readWord_35 rfl ?_
      refine Go_sipush (q := 39) (v := (136 : Int32)) C dX8_readWord_36 rfl rfl ?_
      refine Go_callV_I (av := (fun ad => [.int (136 : Int32)])) (st := []) (C := C) (hM := c_X8_takeKey (Gl G)  hR hw) (hlk := wm_18_2) (hini := wm_1_20) (hins := wm_18_3) (hsel := wm_18_4) (hcode := wm_18_5) (ho := kE_7) (hci := rfl) (hc13 := by decide) (n := 1) (hd := by decide +kernel) (hr0 := ⟨rfl, rfl⟩) (hroom := ⟨by first | decide | (dsimp only; omega), by first | decide | (dsimp only; omega)⟩) (hlen := rfl) (hst := rfl) (hW := Nat.le_of_ble_eq_true rfl) (hdg := dX8_readWord_39) (q := 42) (hq := rfl) (fun r39_5 S39_4 hw hR => ?_)
      refine Go_if_eq (t := 56) (q := 45) C hw dX8_readWord_42 rfl rfl (fun hw => ?_) (fun hw => ?_)
      · refine Go_iconst (q := 57) (v := (0 : Int32)) C dX8_readWord_56 rfl rfl ?_
        exact Go_zret C hQ hR rfl hw dX8_readWord_57
      · refine Go_aload_n (q := 46) C 0 rfl dX8_readWord_45 rfl ?_
        refine Go_iconst (q := 47) (v := (0 : Int32)) C dX8_readWord_46 rfl rfl ?_
        refine Go_bipush (q := 49) (v := (99 : Int32)) C dX8_readWord_47 rfl rfl ?_
        refine Go_iconst (q := 50) (v := (-1 : Int32)) C dX8_readWord_49 rfl rfl ?_
        refine Go_callV_I (av := (fun ad => [.int (0 : Int32), .int (99 : Int32), .int (-1 : Int32)])) (st := []) (C := C) (hM := c_X8_takeNumber (Gl G)  hR hw) (hlk := wm_18_10) (hini := wm_1_20) (hins := wm_18_11) (hsel := wm_18_12) (hcode := wm_18_13) (ho := kE_7) (hci := rfl) (hc13 := by decide) (n := 3) (hd := by decide +kernel) (hr0 := ⟨rfl, rfl⟩) (hroom := ⟨by first | decide | (dsimp only; omega), by first | decide | (dsimp only; omega)⟩) (hlen := rfl) (hst := rfl) (hW := Nat.le_of_ble_eq_true rfl) (hdg := dX8_readWord_50) (q := 53) (hq := rfl) (fun r50_7 S50_6 hw hR => ?_)
        refine Go_if_ne (t := 58) (q := 56) C hw dX8_readWord_53 rfl rfl (fun hw => ?_) (fun hw => ?_)
        · refine Go_iconst (q := 57) (v := (0 : Int32)) C dX8_readWord_56 rfl rfl ?_
          exact Go_zret C hQ hR rfl hw dX8_readWord_57
        · refine Go_aload_n (q := 59) C 0 rfl dX8_readWord_58 rfl ?_
          refine Go_getI (q := 62) (k := 7) C ci8 iw_8 kE_7 rfl wm_16_2 rfl dX8_readWord_59 rfl ?_
          refine Go_topi (fun x62_8 e_x62_8 => ?_)
          have hw := hw x62_8 e_x62_8
          refine Go_istore_n (q := 63) (lv' := [(1, .int x62_8), (0, .ref (Gad G (7)))]) C rfl dX8_readWord_62 (by decide) rfl rfl ?_
          refine Go_aload_n (q := 64) C 1 rfl dX8_readWord_63 rfl ?_
          refine Go_sipush (q := 67) (v := (141 : Int32)) C dX8_readWord_64 rfl rfl ?_
          refine Go_callV_I (av := (fun ad => [.int (141 : Int32)])) (st := []) (C := C) (hM := c_X8_takeKey (Gl G)  hR hw) (hlk := wm_18_2) (hini := wm_1_20) (hins := wm_18_3) (hsel := wm_18_4) (hcode := wm_18_5) (ho := kE_7) (hci := rfl) (hc13 := by decide) (n := 1) (hd := by decide +kernel) (hr0 := ⟨rfl, rfl⟩) (hroom := ⟨by first | decide | (dsimp only; omega), by first | decide | (dsimp only; omega)⟩) (hlen := rfl) (hst := rfl) (hW := Nat.le_of_ble_eq_true rfl) (hdg := dX8_readWord_67) (q := 70) (hq := rfl) (fun r67_10 S67_9 hw hR => ?_)
          refine Go_if_eq (t := 84) (q := 73) C hw dX8_readWord_70 rfl rfl (fun hw => ?_) (fun hw => ?_)
          · refine Go_iconst (q := 85) (v := (0 : Int32)) C dX8_readWord_84 rfl rfl ?_
            exact Go_zret C hQ hR rfl hw dX8_readWord_85
          · refine Go_aload_n (q := 74) C 1 rfl dX8_readWord_73 rfl ?_
            refine Go_iconst (q := 75) (v := (1 : Int32)) C dX8_readWord_74 rfl rfl ?_
            refine Go_bipush (q := 77) (v := (9 : Int32)) C dX8_readWord_75 rfl rfl ?_
            refine Go_iconst (q := 78) (v := (-1 : Int32)) C dX8_readWord_77 rfl rfl ?_
            refine Go_callV_I (av := (fun ad => [.int (1 : Int32), .int (9 : Int32), .int (-1 : Int32)])) (st := []) (C := C) (hM := c_X8_takeNumber (Gl G)  hR hw) (hlk := wm_18_10) (hini := wm_1_20) (hins := wm_18_11) (hsel := wm_18_12) (hcode := wm_18_13) (ho := kE_7) (hci := rfl) (hc13 := by decide) (n := 3) (hd := by decide +kernel) (hr0 := ⟨rfl, rfl⟩) (hroom := ⟨by first | decide | (dsimp only; omega), by first | decide | (dsimp only; omega)⟩) (hlen := rfl) (hst := rfl) (hW := Nat.le_of_ble_eq_true rfl) (hdg := dX8_readWord_78) (q := 81) (hq := rfl) (fun r78_12 S78_11 hw hR => ?_)
            refine Go_if_ne (t := 86) (q := 84) C hw dX8_readWord_81 rfl rfl (fun hw => ?_) (fun hw => ?_)
            · refine Go_iconst (q := 85) (v := (0 : Int32)) C dX8_readWord_84 rfl rfl ?_
              exact Go_zret C hQ hR rfl hw dX8_readWord_85
            · refine Go_aload_n (q := 87) C 1 rfl dX8_readWord_86 rfl ?_
              refine Go_getI (q := 90) (k := 7) C ci8 iw_8 kE_7 rfl wm_16_2 rfl dX8_readWord_87 rfl ?_
              refine Go_topi (fun x90_13 e_x90_13 => ?_)
              have hw := hw x90_13 e_x90_13
              refine Go_istore_n (q := 91) (lv' := [(2, .int x90_13), (1, .int x62_8), (0, .ref (Gad G (7)))]) C rfl dX8_readWord_90 (by decide) rfl rfl ?_
              refine Go_aload_n (q := 92) C 2 rfl dX8_readWord_91 rfl ?_
              refine Go_sipush (q := 95) (v := (142 : Int32)) C dX8_readWord_92 rfl rfl ?_
              refine Go_callV_I (av := (fun ad => [.int (142 : Int32)])) (st := []) (C := C) (hM := c_X8_takeKey (Gl G)  hR hw) (hlk := wm_18_2) (hini := wm_1_20) (hins := wm_18_3) (hsel := wm_18_4) (hcode := wm_18_5) (ho := kE_7) (hci := rfl) (hc13 := by decide) (n := 1) (hd := by decide +kernel) (hr0 := ⟨rfl, rfl⟩) (hroom := ⟨by first | decide | (dsimp only; omega), by first | decide | (dsimp only; omega)⟩) (hlen := rfl) (hst := rfl) (hW := Nat.le_of_ble_eq_true rfl) (hdg := dX8_readWord_95) (q := 98) (hq := rfl) (fun r95_15 S95_14 hw hR => ?_)
              refine Go_if_eq (t := 112) (q := 101) C hw dX8_readWord_98 rfl rfl (fun hw => ?_) (fun hw => ?_)
              · refine Go_iconst (q := 113) (v := (0 : Int32)) C dX8_readWord_112 rfl rfl ?_
                exact Go_zret C hQ hR rfl hw dX8_readWord_113
              · refine Go_aload_n (q := 102) C 2 rfl dX8_readWord_101 rfl ?_
                refine Go_iconst (q := 103) (v := (0 : Int32)) C dX8_readWord_102 rfl rfl ?_
                refine Go_bipush (q := 105) (v := (99 : Int32)) C dX8_readWord_103 rfl rfl ?_
                refine Go_iconst (q := 106) (v := (-1 : Int32)) C dX8_readWord_105 rfl rfl ?_
                refine Go_callV_I (av := (fun ad => [.int (0 : Int32), .int (99 : Int32), .int (-1 : Int32)])) (st := []) (C := C) (hM := c_X8_takeNumber (Gl G)  hR hw) (hlk := wm_18_10) (hini := wm_1_20) (hins := wm_18_11) (hsel := wm_18_12) (hcode := wm_18_13) (ho := kE_7) (hci := rfl) (hc13 := by decide) (n := 3) (hd := by decide +kernel) (hr0 := ⟨rfl, rfl⟩) (hroom := ⟨by first | decide | (dsimp only; omega), by first | decide | (dsimp only; omega)⟩) (hlen := rfl) (hst := rfl) (hW := Nat.le_of_ble_eq_true rfl) (hdg := dX8_readWord_106) (q := 109) (hq := rfl) (fun r106_17 S106_16 hw hR => ?_)
                refine Go_if_ne (t := 114) (q := 112) C hw dX8_readWord_109 rfl rfl (fun hw => ?_) (fun hw => ?_)
                · refine Go_iconst (q := 113) (v := (0 : Int32)) C dX8_readWord_112 rfl rfl ?_
                  exact Go_zret C hQ hR rfl hw dX8_readWord_113
                · refine Go_aload_n (q := 115) C 2 rfl dX8_readWord_114 rfl ?_
                  refine Go_getA (q := 118) (k := 2) C ci8 iw_8 kE_7 (rE_7_2 hR) rfl wm_6_10 rfl dX8_readWord_115 rfl ?_
                  refine Go_iload_n (q := 119) C 1 rfl dX8_readWord_118 rfl ?_
                  refine Go_iload_n (q := 120) C 0 rfl dX8_readWord_119 rfl ?_
                  refine Go_aload_n (q := 121) C 2 rfl dX8_readWord_120 rfl ?_
                  refine Go_getI (q := 124) (k := 7) C ci8 iw_8 kE_7 rfl wm_16_2 rfl dX8_readWord_121 rfl ?_
                  refine Go_callV_V (av := (fun ad => [.int x62_8, .int x90_13, .int (gI S106_16 7 7)])) (st := []) (C := C) (hM := c_X4_addWord (Gl G) isE4_11 hR hw) (hlk := wm_21_1) (hini := wm_2_0) (hins := wm_21_2) (hsel := wm_21_3) (hcode := wm_21_4) (ho := kE_11) (hci := rfl) (hc13 := by decide) (n := 3) (hd := by decide +kernel) (hr0 := ⟨rfl, rfl⟩) (hroom := ⟨by first | decide | (dsimp only; omega), by first | decide | (dsimp only; omega)⟩) (hlen := rfl) (hst := rfl) (hW := Nat.le_of_ble_eq_true rfl) (hdg := dX8_readWord_124) (q := 127) (hq := rfl) (fun S124_18 hw hR => ?_)
                  refine Go_iconst (q := 128) (v := (1 : Int32)) C dX8_readWord_127 rfl rfl ?_
                  exact Go_zret C hQ hR rfl hw dX8_readWord_128
  · refine Go_aload_n (q := 13) C 0 rfl dX8_readWord_12 rfl ?_
    refine Go_iconst (q := 14) (v := (5 : Int32)) C dX8_readWord_13 rfl rfl ?_
    refine Go_callV_I (av := (fun ad => [.int (5 : Int32)])) (st := []) (C := C) (hM := c_X8_isWrong (Gl G)  hR hw) (hlk := wm_18_6) (hini := wm_1_20) (hins := wm_18_7) (hsel := wm_18_8) (hcode := wm_18_9) (ho := kE_7) (hci := rfl) (hc13 := by decide) (n := 1) (hd := by decide +kernel) (hr0 := ⟨rfl, rfl⟩) (hroom := ⟨by first | decide | (dsimp only; omega), by first | decide | (dsimp only; omega)⟩) (hlen := rfl) (hst := rfl) (hW := Nat.le_of_ble_eq_true rfl) (hdg := dX8_readWord_14) (q := 17) (hq := rfl) (fun r14_20 S14_19 hw hR => ?_)
    exact Go_zret C hQ hR (zb hw.1) hw.2 dX8_readWord_17
-- X0_add
abbrev rm_X0_add : Room := { frames := 1, cells := 0, slots := 0, locals := 22 }
set_option maxRecDepth 100000 in
set_option maxHeartbeats 4000000 in
theorem c_X0_add (l : Launch) {p0 : Int32} {S : St} {Q : St → Prop} (hR : RCE S) (hw : w_X0_add p0 S Q) : MetV l yX0_add (wB yX0_add cX0_add 2 none) rm_X0_add shE NE RCE (fun ad => [.ref (ad (8)), .int p0]) S Q := by
  refine MetV_of (cc := cX0_add) (maxL := 2) (ret := none) (plainFor_of_name (by decide)) (fun _ => Nat.le_of_ble_eq_true rfl) (fun G C hl hQ => ?_)
  subst hl
  have C : Cx G cX0_add BIG RX0 2 none rm_X0_add shE NE := C
  show Go G 2 0 [] [(0, .ref (Gad G (8))), (1, .int p0)] S
  unfold w_X0_add at hw
  refine Go_aload_n (q := 1) C 0 rfl dX0_add_0 rfl ?_
  refine Go_getA (q := 4) (k := 0) C ci0 iw_0 kE_8 (rE_8_0 hR) rfl wm_6_16 rfl dX0_add_1 rfl ?_
  refine Go_aload_n (q := 5) C 0 rfl dX0_add_4 rfl ?_
  refine Go_getI (q := 8) (k := 1) C ci0 iw_0 kE_8 rfl wm_21_20 rfl dX0_add_5 rfl ?_
  refine Go_iload_n (q := 9) C 1 rfl dX0_add_8 rfl ?_
  refine Go_callSN_V (av := (fun ad => [.ref (ad (9)), .int (gI S 8 1), .int p0])) (st := []) (C := C) (hM := c_X11_put (Gl G) (ok_ln kE_9) hR hw) (host := "EndsRound") (hnw := nw_88) (hini := wm_1_2) (hst2 := wm_10_11) (hcode := wm_10_12) (n := 3) (hd := by decide +kernel) (hr0 := ⟨rfl, rfl⟩) (hroom := ⟨by first | decide | (dsimp only; omega), by first | decide | (dsimp only; omega)⟩) (hlen := rfl) (hst := rfl) (hW := Nat.le_of_ble_eq_true rfl) (hdg := dX0_add_9) (q := 12) (hq := rfl) (fun S9_1 hw hR => ?_)
  refine Go_aload_n (q := 13) C 0 rfl dX0_add_12 rfl ?_
  refine Go_dup (q := 14) C rfl dX0_add_13 rfl ?_
  refine Go_getI (q := 17) (k := 1) C ci0 iw_0 kE_8 rfl wm_21_20 rfl dX0_add_14 rfl ?_
  refine Go_iconst (q := 18) (v := (1 : Int32)) C dX0_add_17 rfl rfl ?_
  refine Go_iadd (q := 19) C dX0_add_18 rfl ?_
  refine Go_putI (q := 22) (k := 1) C ci0 iw_0 kE_8 rfl wm_21_20 rfl rfl (ci0.2.2.2.1 1 (by decide)) rfl rfl dX0_add_19 rfl ?_
  refine Go_S (fun S19_2 e_S19_2 => ?_)
  have hw := hw S19_2 e_S19_2
  have hR := rcE e_S19_2 hR
  exact Go_vret C hQ hR hw dX0_add_22
-- X8_readProduct
abbrev rm_X8_readPart (d : Nat) : Room := { frames := d * 16, cells := 0, slots := 0, locals := d * 700 }
abbrev rm_X8_readProduct (d : Nat) : Room := { frames := d * 16 + 2, cells := 0, slots := 0, locals := d * 700 + 43 }
set_option maxRecDepth 100000 in
set_option maxHeartbeats 4000000 in
theorem g_X8_readProduct_8 {G : GC} {d : Nat} (C : Cx G cX8_readProduct BIG RX8 4 (some .boolean) (rm_X8_readProduct d) shE NE) {Q : Int32 → St → Prop} (hQ : QI G RCE Q) {rec : Int32 → St → (Int32 → St → Prop) → Prop} (hrec : ∀ {p0 : Int32} {S : St} {Q : Int32 → St → Prop}, RCE S → rec p0 S Q → MetI (Gl G) yX8_readPart (wB yX8_readPart cX8_readPart 4 (some .boolean)) (rm_X8_readPart d) shE NE RCE (fun ad => [.ref (ad (7)), .int p0]) S Q) (p0 : Int32) (v2 : Int32) (v3 : Int32) {S : St} (hR : RCE S) (hw : w_X8_readProduct_8 p0 rec Q v2 v3 S) : Go G 4 8 [] [(0, .ref (Gad G (7))), (1, .int p0), (2, .int v2), (3, .int v3)] S := by
  obtain ⟨n, hw⟩ := hw
  induction n generalizing v2 v3 S with
  | zero => exact hw.elim
  | succ n ih =>
    have hw : b_X8_readProduct_8 p0 rec Q (lpn (fun _ _ _ => False) (b_X8_readProduct_8 p0 rec Q) n) v2 v3 S := hw
    generalize lpn (fun _ _ _ => False) (b_X8_readProduct_8 p0 rec Q) n = kf at hw ih
    have hk8 := fun (v2 : Int32) (v3 : Int32) (S : St) (hR : RCE S) hw => ih v2 v3 hR hw
    unfold b_X8_readProduct_8 at hw
    refine Go_iload_n (q := 9) C 3 rfl dX8_readProduct_8 rfl ?_
    refine Go_sipush (q := 12) (v := (1000 : Int32)) C dX8_readProduct_9 rfl rfl ?_
    refine Go_icmp_ge (t := 60) (q := 15) C hw dX8_readProduct_12 rfl rfl (fun hw => ?_) (fun hw => ?_)
    · refine Go_iload_n (q := 61) C 2 rfl dX8_readProduct_60 rfl ?_
      exact Go_zret C hQ hR (zb hw.1) hw.2 dX8_readProduct_61
    · refine Go_iload_n (q := 16) C 2 rfl dX8_readProduct_15 rfl ?_
      refine Go_if_eq (t := 60) (q := 19) C hw dX8_readProduct_16 rfl rfl (fun hw => ?_) (fun hw => ?_)
      · refine Go_iload_n (q := 61) C 2 rfl dX8_readProduct_60 rfl ?_
        exact Go_zret C hQ hR (zb hw.1) hw.2 dX8_readProduct_61
      · refine Go_aload_n (q := 20) C 0 rfl dX8_readProduct_19 rfl ?_
        refine Go_getI (q := 23) (k := 5) C ci8 iw_8 kE_7 rfl wm_16_3 rfl dX8_readProduct_20 rfl ?_
        refine Go_bipush (q := 25) (v := (42 : Int32)) C dX8_readProduct_23 rfl rfl ?_
        refine Go_icmp_ne (t := 60) (q := 28) C hw dX8_readProduct_25 rfl rfl (fun hw => ?_) (fun hw => ?_)
        · refine Go_aload_n (q := 29) C 0 rfl dX8_readProduct_28 rfl ?_
          refine Go_aload_n (q := 30) C 0 rfl dX8_readProduct_29 rfl ?_
          refine Go_getI (q := 33) (k := 4) C ci8 iw_8 kE_7 rfl wm_18_0 rfl dX8_readProduct_30 rfl ?_
          refine Go_iconst (q := 34) (v := (1 : Int32)) C dX8_readProduct_33 rfl rfl ?_
          refine Go_iadd (q := 35) C dX8_readProduct_34 rfl ?_
          refine Go_callV_V (av := (fun ad => [.int ((gI S 7 4) + (1 : Int32))])) (st := []) (C := C) (hM := c_X8_holdToken (Gl G) hR hw) (hlk := wm_17_20) (hini := wm_1_20) (hins := wm_17_21) (hsel := wm_17_22) (hcode := wm_17_23) (ho := kE_7) (hci := rfl) (hc13 := by decide) (n := 1) (hd := by decide +kernel) (hr0 := ⟨rfl, rfl⟩) (hroom := ⟨by first | decide | (dsimp only; omega), by first | decide | (dsimp only; omega)⟩) (hlen := rfl) (hst := rfl) (hW := Nat.le_of_ble_eq_true rfl) (hdg := dX8_readProduct_35) (q := 38) (hq := rfl) (fun S35_3 hw hR => ?_)
          refine Go_aload_n (q := 39) C 0 rfl dX8_readProduct_38 rfl ?_
          refine Go_iload_n (q := 40) C 1 rfl dX8_readProduct_39 rfl ?_
          refine Go_callV_I (av := (fun ad => [.int p0])) (st := []) (C := C) (hM := hrec hR hw) (hlk := wm_21_22) (hini := wm_1_20) (hins := wm_21_23) (hsel := wm_22_0) (hcode := wm_21_21) (ho := kE_7) (hci := rfl) (hc13 := by decide) (n := 1) (hd := by decide +kernel) (hr0 := ⟨rfl, rfl⟩) (hroom := ⟨by first | decide | (dsimp only; omega), by first | decide | (dsimp only; omega)⟩) (hlen := rfl) (hst := rfl) (hW := Nat.le_of_ble_eq_true rfl) (hdg := dX8_readProduct_40) (q := 43) (hq := rfl) (fun r40_5 S40_4 hw hR => ?_)
          refine Go_istore_n (q := 44) (lv' := [(2, .int r40_5), (0, .ref (Gad G (7))), (1, .int p0), (3, .int v3)]) C rfl dX8_readProduct_43 (by decide) rfl rfl ?_
          refine Go_aload_n (q := 45) C 1 rfl dX8_readProduct_44 rfl ?_
          refine Go_getA (q := 48) (k := 1) C ci8 iw_8 kE_7 (rE_7_1 hR) rfl wm_6_8 rfl dX8_readProduct_45 rfl ?_
          refine Go_sipush (q := 51) (v := (10042 : Int32)) C dX8_readProduct_48 rfl rfl ?_
          refine Go_callV_V (av := (fun ad => [.int (10042 : Int32)])) (st := []) (C := C) (hM := c_X0_add (Gl G) hR hw) (hlk := wm_21_16) (hini := wm_6_7) (hins := wm_21_17) (hsel := wm_21_18) (hcode := wm_21_19) (ho := kE_8) (hci := rfl) (hc13 := by decide) (n := 1) (hd := by decide +kernel) (hr0 := ⟨rfl, rfl⟩) (hroom := ⟨by first | decide | (dsimp only; omega), by first | decide | (dsimp only; omega)⟩) (hlen := rfl) (hst := rfl) (hW := Nat.le_of_ble_eq_true rfl) (hdg := dX8_readProduct_51) (q := 54) (hq := rfl) (fun S51_6 hw hR => ?_)
          refine Go_iinc2 (q := 57) (kp := 3) (cst := (1 : Int32)) C dX8_readProduct_54 rfl rfl (by decide) rfl (fun x54_7 e_x54_7 => ?_)
          have hw := hw x54_7 e_x54_7
          refine Go_lve (lv' := [(3, .int x54_7), (2, .int r40_5), (0, .ref (Gad G (7))), (1, .int p0)]) rfl ?_
          refine Go_goto (q := 8) C dX8_readProduct_57 rfl ?_
          refine Go_lvp [2, 3, 1, 0] rfl ?_
          exact hk8 _ _ _ hR hw
        · refine Go_iload_n (q := 61) C 2 rfl dX8_readProduct_60 rfl ?_
          exact Go_zret C hQ hR (zb hw.1) hw.2 dX8_readProduct_61
set_option maxRecDepth 100000 in
set_option maxHeartbeats 4000000 in
theorem c_X8_readProduct (l : Launch) {d : Nat} {rec : Int32 → St → (Int32 → St → Prop) → Prop} (hrec : ∀ {p0 : Int32} {S : St} {Q : Int32 → St → Prop}, RCE S → rec p0 S Q → MetI l yX8_readPart (wB yX8_readPart cX8_readPart 4 (some .boolean)) (rm_X8_readPart d) shE NE RCE (fun ad => [.ref (ad (7)), .int p0]) S Q) {p0 : Int32} {S : St} {Q : Int32 → St → Prop} (hR : RCE S) (hw : w_X8_readProduct rec p0 S Q) : MetI l yX8_readProduct (wB yX8_readProduct cX8_readProduct 4 (some .boolean)) (rm_X8_readProduct d) shE NE RCE (fun ad => [.ref (ad (7)), .int p0]) S Q := by
  refine MetI_of (cc := cX8_readProduct) (maxL := 4) (ret := (some .boolean)) (plainFor_of_name (by decide)) (fun _ => Nat.le_of_ble_eq_true rfl) (fun G C hl hQ => ?_)
  subst hl
  have C : Cx G cX8_readProduct BIG RX8 4 (some .boolean) (rm_X8_readProduct d) shE NE := C
  show Go G 4 0 [] [(0, .ref (Gad G (7))), (1, .int p0)] S
  unfold w_X8_readProduct at hw
  refine Go_aload_n (q := 1) C 0 rfl dX8_readProduct_0 rfl ?_
  refine Go_iload_n (q := 2) C 1 rfl dX8_readProduct_1 rfl ?_
  refine Go_callV_I (av := (fun ad => [.int p0])) (st := []) (C := C) (hM := hrec  hR hw) (hlk := wm_21_22) (hini := wm_1_20) (hins := wm_21_23) (hsel := wm_22_0) (hcode := wm_21_21) (ho := kE_7) (hci := rfl) (hc13 := by decide) (n := 1) (hd := by decide +kernel) (hr0 := ⟨rfl, rfl⟩) (hroom := ⟨by first | decide | (dsimp only; omega), by first | decide | (dsimp only; omega)⟩) (hlen := rfl) (hst := rfl) (hW := Nat.le_of_ble_eq_true rfl) (hdg := dX8_readProduct_2) (q := 5) (hq := rfl) (fun r2_2 S2_1 hw hR => ?_)
  refine Go_istore_n (q := 6) (lv' := [(2, .int r2_2), (0, .ref (Gad G (7))), (1, .int p0)]) C rfl dX8_readProduct_5 (by decide) rfl rfl ?_
  refine Go_iconst (q := 7) (v := (0 : Int32)) C dX8_readProduct_6 rfl rfl ?_
  refine Go_istore_n (q := 8) (lv' := [(3, .int (0 : Int32)), (2, .int r2_2), (0, .ref (Gad G (7))), (1, .int p0)]) C rfl dX8_readProduct_7 (by decide) rfl rfl ?_
  refine Go_lvp [2, 3, 1, 0] rfl ?_
  exact g_X8_readProduct_8 C hQ @hrec p0 _ _ hR hw
-- X8_readSum
abbrev rm_X8_readSum (d : Nat) : Room := { frames := d * 16 + 3, cells := 0, slots := 0, locals := d * 700 + 66 }
set_option maxRecDepth 100000 in
set_option maxHeartbeats 4000000 in
theorem g_X8_readSum_37 {G : GC} {d : Nat} (C : Cx G cX8_readSum BIG RX8 5 (some .boolean) (rm_X8_readSum d) shE NE) {Q : Int32 → St → Prop} (hQ : QI G RCE Q) {rec : Int32 → St → (Int32 → St → Prop) → Prop} (hrec : ∀ {p0 : Int32} {S : St} {Q : Int32 → St → Prop}, RCE S → rec p0 S Q → MetI (Gl G) yX8_readPart (wB yX8_readPart cX8_readPart 4 (some .boolean)) (rm_X8_readPart d) shE NE RCE (fun ad => [.ref (ad (7)), .int p0]) S Q) (p0 : Int32) (v3 : Int32) {k8 : Int32 → Int32 → St → Prop} (hk8 : ∀ (v2 : Int32) (v3 : Int32) (S : St), RCE S → k8 v2 v3 S → Go G 5 8 [] [(0, .ref (Gad G (7))), (1, .int p0), (2, .int v2), (3, .int v3)] S) {S : St} (hR : RCE S) (hw : w_X8_readSum_37 p0 rec k8 v3 S) : Go G 5 37 [] [(0, .ref (Gad G (7))), (1, .int p0), (3, .int v3)] S := by
  unfold w_X8_readSum_37 at hw
  refine Go_aload_n (q := 38) C 0 rfl dX8_readSum_37 rfl ?_
  refine Go_getI (q := 41) (k := 5) C ci8 iw_8 kE_7 rfl wm_16_3 rfl dX8_readSum_38 rfl ?_
  refine Go_topi (fun x41_3 e_x41_3 => ?_)
  have hw := hw x41_3 e_x41_3
  refine Go_istore (q := 43) (lv' := [(4, .int x41_3), (0, .ref (Gad G (7))), (1, .int p0), (3, .int v3)]) C dX8_readSum_41 (by decide) rfl rfl ?_
  refine Go_aload_n (q := 44) C 1 rfl dX8_readSum_43 rfl ?_
  refine Go_aload_n (q := 45) C 1 rfl dX8_readSum_44 rfl ?_
  refine Go_getI (q := 48) (k := 4) C ci8 iw_8 kE_7 rfl wm_18_0 rfl dX8_readSum_45 rfl ?_
  refine Go_iconst (q := 49) (v := (1 : Int32)) C dX8_readSum_48 rfl rfl ?_
  refine Go_iadd (q := 50) C dX8_readSum_49 rfl ?_
  refine Go_callV_V (av := (fun ad => [.int ((gI S 7 4) + (1 : Int32))])) (st := []) (C := C) (hM := c_X8_holdToken (Gl G) hR hw) (hlk := wm_17_20) (hini := wm_1_20) (hins := wm_17_21) (hsel := wm_17_22) (hcode := wm_17_23) (ho := kE_7) (hci := rfl) (hc13 := by decide) (n := 1) (hd := by decide +kernel) (hr0 := ⟨rfl, rfl⟩) (hroom := ⟨by first | decide | (dsimp only; omega), by first | decide | (dsimp only; omega)⟩) (hlen := rfl) (hst := rfl) (hW := Nat.le_of_ble_eq_true rfl) (hdg := dX8_readSum_50) (q := 53) (hq := rfl) (fun S50_4 hw hR => ?_)
  refine Go_aload_n (q := 54) C 1 rfl dX8_readSum_53 rfl ?_
  refine Go_iload_n (q := 55) C 2 rfl dX8_readSum_54 rfl ?_
  refine Go_callV_I (av := (fun ad => [.int p0])) (st := []) (C := C) (hM := c_X8_readProduct (Gl G) @hrec hR hw) (hlk := wm_22_3) (hini := wm_1_20) (hins := wm_22_4) (hsel := wm_22_5) (hcode := wm_22_1) (ho := kE_7) (hci := rfl) (hc13 := by decide) (n := 1) (hd := by decide +kernel) (hr0 := ⟨rfl, rfl⟩) (hroom := ⟨by first | decide | (dsimp only; omega), by first | decide | (dsimp only; omega)⟩) (hlen := rfl) (hst := rfl) (hW := Nat.le_of_ble_eq_true rfl) (hdg := dX8_readSum_55) (q := 58) (hq := rfl) (fun r55_6 S55_5 hw hR => ?_)
  refine Go_istore_n (q := 59) (lv' := [(2, .int r55_6), (4, .int x41_3), (0, .ref (Gad G (7))), (1, .int p0), (3, .int v3)]) C rfl dX8_readSum_58 (by decide) rfl rfl ?_
  refine Go_aload_n (q := 60) C 2 rfl dX8_readSum_59 rfl ?_
  refine Go_getA (q := 63) (k := 1) C ci8 iw_8 kE_7 (rE_7_1 hR) rfl wm_6_8 rfl dX8_readSum_60 rfl ?_
  refine Go_sipush (q := 66) (v := (10000 : Int32)) C dX8_readSum_63 rfl rfl ?_
  refine Go_iload (q := 68) C 1 rfl dX8_readSum_66 rfl ?_
  refine Go_iadd (q := 69) C dX8_readSum_68 rfl ?_
  refine Go_callV_V (av := (fun ad => [.int ((10000 : Int32) + x41_3)])) (st := []) (C := C) (hM := c_X0_add (Gl G) hR hw) (hlk := wm_21_16) (hini := wm_6_7) (hins := wm_21_17) (hsel := wm_21_18) (hcode := wm_21_19) (ho := kE_8) (hci := rfl) (hc13 := by decide) (n := 1) (hd := by decide +kernel) (hr0 := ⟨rfl, rfl⟩) (hroom := ⟨by first | decide | (dsimp only; omega), by first | decide | (dsimp only; omega)⟩) (hlen := rfl) (hst := rfl) (hW := Nat.le_of_ble_eq_true rfl) (hdg := dX8_readSum_69) (q := 72) (hq := rfl) (fun S69_7 hw hR => ?_)
  refine Go_iinc2 (q := 75) (kp := 4) (cst := (1 : Int32)) C dX8_readSum_72 rfl rfl (by decide) rfl (fun x72_8 e_x72_8 => ?_)
  have hw := hw x72_8 e_x72_8
  refine Go_lve (lv' := [(3, .int x72_8), (2, .int r55_6), (4, .int x41_3), (0, .ref (Gad G (7))), (1, .int p0)]) rfl ?_
  refine Go_goto (q := 8) C dX8_readSum_75 rfl ?_
  refine Go_lvp [3, 4, 1, 0] rfl ?_
  exact hk8 _ _ _ hR hw
set_option maxRecDepth 100000 in
set_option maxHeartbeats 4000000 in
theorem g_X8_readSum_8 {G : GC} {d : Nat} (C : Cx G cX8_readSum BIG RX8 5 (some .boolean) (rm_X8_readSum d) shE NE) {Q : Int32 → St → Prop} (hQ : QI G RCE Q) {rec : Int32 → St → (Int32 → St → Prop) → Prop} (hrec : ∀ {p0 : Int32} {S : St} {Q : Int32 → St → Prop}, RCE S → rec p0 S Q → MetI (Gl G) yX8_readPart (wB yX8_readPart cX8_readPart 4 (some .boolean)) (rm_X8_readPart d) shE NE RCE (fun ad => [.ref (ad (7)), .int p0]) S Q) (p0 : Int32) (v2 : Int32) (v3 : Int32) {S : St} (hR : RCE S) (hw : w_X8_readSum_8 p0 rec Q v2 v3 S) : Go G 5 8 [] [(0, .ref (Gad G (7))), (1, .int p0), (2, .int v2), (3, .int v3)] S := by
  obtain ⟨n, hw⟩ := hw
  induction n generalizing v2 v3 S with
  | zero => exact hw.elim
  | succ n ih =>
    have hw : b_X8_readSum_8 p0 rec Q (lpn (fun _ _ _ => False) (b_X8_readSum_8 p0 rec Q) n) v2 v3 S := hw
    generalize lpn (fun _ _ _ => False) (b_X8_readSum_8 p0 rec Q) n = kf at hw ih
    have hk8 := fun (v2 : Int32) (v3 : Int32) (S : St) (hR : RCE S) hw => ih v2 v3 hR hw
    unfold b_X8_readSum_8 at hw
    refine Go_iload_n (q := 9) C 3 rfl dX8_readSum_8 rfl ?_
    refine Go_sipush (q := 12) (v := (1000 : Int32)) C dX8_readSum_9 rfl rfl ?_
    refine Go_icmp_ge (t := 78) (q := 15) C hw dX8_readSum_12 rfl rfl (fun hw => ?_) (fun hw => ?_)
    · refine Go_iload_n (q := 79) C 2 rfl dX8_readSum_78 rfl ?_
      exact Go_zret C hQ hR (zb hw.1) hw.2 dX8_readSum_79
    · refine Go_iload_n (q := 16) C 2 rfl dX8_readSum_15 rfl ?_
      refine Go_if_eq (t := 78) (q := 19) C hw dX8_readSum_16 rfl rfl (fun hw => ?_) (fun hw => ?_)
      · refine Go_iload_n (q := 79) C 2 rfl dX8_readSum_78 rfl ?_
        exact Go_zret C hQ hR (zb hw.1) hw.2 dX8_readSum_79
      · refine Go_aload_n (q := 20) C 0 rfl dX8_readSum_19 rfl ?_
        refine Go_getI (q := 23) (k := 5) C ci8 iw_8 kE_7 rfl wm_16_3 rfl dX8_readSum_20 rfl ?_
        refine Go_bipush (q := 25) (v := (43 : Int32)) C dX8_readSum_23 rfl rfl ?_
        refine Go_icmp_eq (t := 37) (q := 28) C hw dX8_readSum_25 rfl rfl (fun hw => ?_) (fun hw => ?_)
        · refine Go_lvp [0, 1, 3] rfl ?_
          exact g_X8_readSum_37 C hQ @hrec p0 _ hk8 hR hw
        · refine Go_aload_n (q := 29) C 0 rfl dX8_readSum_28 rfl ?_
          refine Go_getI (q := 32) (k := 5) C ci8 iw_8 kE_7 rfl wm_16_3 rfl dX8_readSum_29 rfl ?_
          refine Go_bipush (q := 34) (v := (45 : Int32)) C dX8_readSum_32 rfl rfl ?_
          refine Go_icmp_ne (t := 78) (q := 37) C hw dX8_readSum_34 rfl rfl (fun hw => ?_) (fun hw => ?_)
          · refine Go_lvp [0, 1, 3] rfl ?_
            exact g_X8_readSum_37 C hQ @hrec p0 _ hk8 hR hw
          · refine Go_iload_n (q := 79) C 2 rfl dX8_readSum_78 rfl ?_
            exact Go_zret C hQ hR (zb hw.1) hw.2 dX8_readSum_79
set_option maxRecDepth 100000 in
set_option maxHeartbeats 4000000 in
theorem c_X8_readSum (l : Launch) {d : Nat} {rec : Int32 → St → (Int32 → St → Prop) → Prop} (hrec : ∀ {p0 : Int32} {S : St} {Q : Int32 → St → Prop}, RCE S → rec p0 S Q → MetI l yX8_readPart (wB yX8_readPart cX8_readPart 4 (some .boolean)) (rm_X8_readPart d) shE NE RCE (fun ad => [.ref (ad (7)), .int p0]) S Q) {p0 : Int32} {S : St} {Q : Int32 → St → Prop} (hR : RCE S) (hw : w_X8_readSum rec p0 S Q) : MetI l yX8_readSum (wB yX8_readSum cX8_readSum 5 (some .boolean)) (rm_X8_readSum d) shE NE RCE (fun ad => [.ref (ad (7)), .int p0]) S Q := by
  refine MetI_of (cc := cX8_readSum) (maxL := 5) (ret := (some .boolean)) (plainFor_of_name (by decide)) (fun _ => Nat.le_of_ble_eq_true rfl) (fun G C hl hQ => ?_)
  subst hl
  have C : Cx G cX8_readSum BIG RX8 5 (some .boolean) (rm_X8_readSum d) shE NE := C
  show Go G 5 0 [] [(0, .ref (Gad G (7))), (1, .int p0)] S
  unfold w_X8_readSum at hw
  refine Go_aload_n (q := 1) C 0 rfl dX8_readSum_0 rfl ?_
  refine Go_iload_n (q := 2) C 1 rfl dX8_readSum_1 rfl ?_
  refine Go_callV_I (av := (fun ad => [.int p0])) (st := []) (C := C) (hM := c_X8_readProduct (Gl G) @hrec  hR hw) (hlk := wm_22_3) (hini := wm_1_20) (hins := wm_22_4) (hsel := wm_22_5) (hcode := wm_22_1) (ho := kE_7) (hci := rfl) (hc13 := by decide) (n := 1) (hd := by decide +kernel) (hr0 := ⟨rfl, rfl⟩) (hroom := ⟨by first | decide | (dsimp only; omega), by first | decide | (dsimp only; omega)⟩) (hlen := rfl) (hst := rfl) (hW := Nat.le_of_ble_eq_true rfl) (hdg := dX8_readSum_2) (q := 5) (hq := rfl) (fun r2_2 S2_1 hw hR => ?_)
  refine Go_istore_n (q := 6) (lv' := [(2, .int r2_2), (0, .ref (Gad G (7))), (1, .int p0)]) C rfl dX8_readSum_5 (by decide) rfl rfl ?_
  refine Go_iconst (q := 7) (v := (0 : Int32)) C dX8_readSum_6 rfl rfl ?_
  refine Go_istore_n (q := 8) (lv' := [(3, .int (0 : Int32)), (2, .int r2_2), (0, .ref (Gad G (7))), (1, .int p0)]) C rfl dX8_readSum_7 (by decide) rfl rfl ?_
  refine Go_lvp [2, 3, 1, 0] rfl ?_
  exact g_X8_readSum_8 C hQ @hrec p0 _ _ hR hw
-- X8_readTest
abbrev rm_X8_readTest (d : Nat) : Room := { frames := d * 16 + 4, cells := 0, slots := 0, locals := d * 700 + 90 }
set_option maxRecDepth 100000 in
set_option maxHeartbeats 4000000 in
theorem g_X8_readTest_28 {G : GC} {d : Nat} (C : Cx G cX8_readTest BIG RX8 4 (some .boolean) (rm_X8_readTest d) shE NE) {Q : Int32 → St → Prop} (hQ : QI G RCE Q) {rec : Int32 → St → (Int32 → St → Prop) → Prop} (hrec : ∀ {p0 : Int32} {S : St} {Q : Int32 → St → Prop}, RCE S → rec p0 S Q → MetI (Gl G) yX8_readPart (wB yX8_readPart cX8_readPart 4 (some .boolean)) (rm_X8_readPart d) shE NE RCE (fun ad => [.ref (ad (7)), .int p0]) S Q) (p0 : Int32) {S : St} (hR : RCE S) (hw : w_X8_readTest_28 p0 rec Q S) : Go G 4 28 [] [(0, .ref (Gad G (7))), (1, .int p0)] S := by
  unfold w_X8_readTest_28 at hw
  refine Go_aload_n (q := 29) C 0 rfl dX8_readTest_28 rfl ?_
  refine Go_getI (q := 32) (k := 5) C ci8 iw_8 kE_7 rfl wm_16_3 rfl dX8_readTest_29 rfl ?_
  refine Go_topi (fun x32_3 e_x32_3 => ?_)
  have hw := hw x32_3 e_x32_3
  refine Go_istore_n (q := 33) (lv' := [(3, .int x32_3), (0, .ref (Gad G (7))), (1, .int p0)]) C rfl dX8_readTest_32 (by decide) rfl rfl ?_
  refine Go_aload_n (q := 34) C 1 rfl dX8_readTest_33 rfl ?_
  refine Go_aload_n (q := 35) C 1 rfl dX8_readTest_34 rfl ?_
  refine Go_getI (q := 38) (k := 4) C ci8 iw_8 kE_7 rfl wm_18_0 rfl dX8_readTest_35 rfl ?_
  refine Go_iconst (q := 39) (v := (1 : Int32)) C dX8_readTest_38 rfl rfl ?_
  refine Go_iadd (q := 40) C dX8_readTest_39 rfl ?_
  refine Go_callV_V (av := (fun ad => [.int ((gI S 7 4) + (1 : Int32))])) (st := []) (C := C) (hM := c_X8_holdToken (Gl G) hR hw) (hlk := wm_17_20) (hini := wm_1_20) (hins := wm_17_21) (hsel := wm_17_22) (hcode := wm_17_23) (ho := kE_7) (hci := rfl) (hc13 := by decide) (n := 1) (hd := by decide +kernel) (hr0 := ⟨rfl, rfl⟩) (hroom := ⟨by first | decide | (dsimp only; omega), by first | decide | (dsimp only; omega)⟩) (hlen := rfl) (hst := rfl) (hW := Nat.le_of_ble_eq_true rfl) (hdg := dX8_readTest_40) (q := 43) (hq := rfl) (fun S40_4 hw hR => ?_)
  refine Go_aload_n (q := 44) C 1 rfl dX8_readTest_43 rfl ?_
  refine Go_iload_n (q := 45) C 2 rfl dX8_readTest_44 rfl ?_
  refine Go_callV_I (av := (fun ad => [.int p0])) (st := []) (C := C) (hM := c_X8_readSum (Gl G) @hrec hR hw) (hlk := wm_22_7) (hini := wm_1_20) (hins := wm_22_8) (hsel := wm_22_9) (hcode := wm_22_2) (ho := kE_7) (hci := rfl) (hc13 := by decide) (n := 1) (hd := by decide +kernel) (hr0 := ⟨rfl, rfl⟩) (hroom := ⟨by first | decide | (dsimp only; omega), by first | decide | (dsimp only; omega)⟩) (hlen := rfl) (hst := rfl) (hW := Nat.le_of_ble_eq_true rfl) (hdg := dX8_readTest_45) (q := 48) (hq := rfl) (fun r45_6 S45_5 hw hR => ?_)
  refine Go_istore_n (q := 49) (lv' := [(2, .int r45_6), (3, .int x32_3), (0, .ref (Gad G (7))), (1, .int p0)]) C rfl dX8_readTest_48 (by decide) rfl rfl ?_
  refine Go_aload_n (q := 50) C 2 rfl dX8_readTest_49 rfl ?_
  refine Go_getA (q := 53) (k := 1) C ci8 iw_8 kE_7 (rE_7_1 hR) rfl wm_6_8 rfl dX8_readTest_50 rfl ?_
  refine Go_sipush (q := 56) (v := (10000 : Int32)) C dX8_readTest_53 rfl rfl ?_
  refine Go_iload_n (q := 57) C 1 rfl dX8_readTest_56 rfl ?_
  refine Go_iadd (q := 58) C dX8_readTest_57 rfl ?_
  refine Go_callV_V (av := (fun ad => [.int ((10000 : Int32) + x32_3)])) (st := []) (C := C) (hM := c_X0_add (Gl G) hR hw) (hlk := wm_21_16) (hini := wm_6_7) (hins := wm_21_17) (hsel := wm_21_18) (hcode := wm_21_19) (ho := kE_8) (hci := rfl) (hc13 := by decide) (n := 1) (hd := by decide +kernel) (hr0 := ⟨rfl, rfl⟩) (hroom := ⟨by first | decide | (dsimp only; omega), by first | decide | (dsimp only; omega)⟩) (hlen := rfl) (hst := rfl) (hW := Nat.le_of_ble_eq_true rfl) (hdg := dX8_readTest_58) (q := 61) (hq := rfl) (fun S58_7 hw hR => ?_)
  refine Go_iload_n (q := 62) C 0 rfl dX8_readTest_61 rfl ?_
  exact Go_zret C hQ hR (zb hw.1) hw.2 dX8_readTest_62
set_option maxRecDepth 100000 in
set_option maxHeartbeats 4000000 in
theorem c_X8_readTest (l : Launch) {d : Nat} {rec : Int32 → St → (Int32 → St → Prop) → Prop} (hrec : ∀ {p0 : Int32} {S : St} {Q : Int32 → St → Prop}, RCE S → rec p0 S Q → MetI l yX8_readPart (wB yX8_readPart cX8_readPart 4 (some .boolean)) (rm_X8_readPart d) shE NE RCE (fun ad => [.ref (ad (7)), .int p0]) S Q) {p0 : Int32} {S : St} {Q : Int32 → St → Prop} (hR : RCE S) (hw : w_X8_readTest rec p0 S Q) : MetI l yX8_readTest (wB yX8_readTest cX8_readTest 4 (some .boolean)) (rm_X8_readTest d) shE NE RCE (fun ad => [.ref (ad (7)), .int p0]) S Q := by
  refine MetI_of (cc := cX8_readTest) (maxL := 4) (ret := (some .boolean)) (plainFor_of_name (by decide)) (fun _ => Nat.le_of_ble_eq_true rfl) (fun G C hl hQ => ?_)
  subst hl
  have C : Cx G cX8_readTest BIG RX8 4 (some .boolean) (rm_X8_readTest d) shE NE := C
  show Go G 4 0 [] [(0, .ref (Gad G (7))), (1, .int p0)] S
  unfold w_X8_readTest at hw
  refine Go_aload_n (q := 1) C 0 rfl dX8_readTest_0 rfl ?_
  refine Go_iload_n (q := 2) C 1 rfl dX8_readTest_1 rfl ?_
  refine Go_callV_I (av := (fun ad => [.int p0])) (st := []) (C := C) (hM := c_X8_readSum (Gl G) @hrec  hR hw) (hlk := wm_22_7) (hini := wm_1_20) (hins := wm_22_8) (hsel := wm_22_9) (hcode := wm_22_2) (ho := kE_7) (hci := rfl) (hc13 := by decide) (n := 1) (hd := by decide +kernel) (hr0 := ⟨rfl, rfl⟩) (hroom := ⟨by first | decide | (dsimp only; omega), by first | decide | (dsimp only; omega)⟩) (hlen := rfl) (hst := rfl) (hW := Nat.le_of_ble_eq_true rfl) (hdg := dX8_readTest_2) (q := 5) (hq := rfl) (fun r2_2 S2_1 hw hR => ?_)
  refine Go_istore_n (q := 6) (lv' := [(2, .int r2_2), (0, .ref (Gad G (7))), (1, .int p0)]) C rfl dX8_readTest_5 (by decide) rfl rfl ?_
  refine Go_iload_n (q := 7) C 0 rfl dX8_readTest_6 rfl ?_
  refine Go_if_eq (t := 61) (q := 10) C hw dX8_readTest_7 rfl rfl (fun hw => ?_) (fun hw => ?_)
  · refine Go_iload_n (q := 62) C 0 rfl dX8_readTest_61 rfl ?_
    exact Go_zret C hQ hR (zb hw.1) hw.2 dX8_readTest_62
  · refine Go_aload_n (q := 11) C 1 rfl dX8_readTest_10 rfl ?_
    refine Go_getI (q := 14) (k := 5) C ci8 iw_8 kE_7 rfl wm_16_3 rfl dX8_readTest_11 rfl ?_
    refine Go_bipush (q := 16) (v := (60 : Int32)) C dX8_readTest_14 rfl rfl ?_
    refine Go_icmp_eq (t := 28) (q := 19) C hw dX8_readTest_16 rfl rfl (fun hw => ?_) (fun hw => ?_)
    · refine Go_lvp [1, 2] rfl ?_
      exact g_X8_readTest_28 C hQ @hrec p0 hR hw
    · refine Go_aload_n (q := 20) C 1 rfl dX8_readTest_19 rfl ?_
      refine Go_getI (q := 23) (k := 5) C ci8 iw_8 kE_7 rfl wm_16_3 rfl dX8_readTest_20 rfl ?_
      refine Go_bipush (q := 25) (v := (61 : Int32)) C dX8_readTest_23 rfl rfl ?_
      refine Go_icmp_ne (t := 61) (q := 28) C hw dX8_readTest_25 rfl rfl (fun hw => ?_) (fun hw => ?_)
      · refine Go_lvp [1, 2] rfl ?_
        exact g_X8_readTest_28 C hQ @hrec p0 hR hw
      · refine Go_iload_n (q := 62) C 0 rfl dX8_readTest_61 rfl ?_
        exact Go_zret C hQ hR (zb hw.1) hw.2 dX8_readTest_62
