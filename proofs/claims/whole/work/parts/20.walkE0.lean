-- X10_addSign
abbrev rm_X10_addSign : Room := { frames := 0, cells := 0, slots := 0, locals := 0 }
set_option maxRecDepth 100000 in
set_option maxHeartbeats 4000000 in
theorem g_X10_addSign_23 {G : GC} (C : Cx G cX10_addSign BIG RX10 3 none rm_X10_addSign shE NE) {Q : St → Prop} (hQ : QV G RCE Q) (p0 : Int32) (t0 : Int32) {S : St} (hR : RCE S) (hw : w_X10_addSign_23 p0 Q t0 S) : Go G 3 23 [.int t0] [(0, .ref (Gad G (1))), (1, .int p0)] S := by
  unfold w_X10_addSign_23 at hw
  refine Go_istore_n (lv' := [(2, .int t0), (0, .ref (Gad G (1))), (1, .int p0)]) C rfl dX10_addSign_23 (by decide) rfl rfl ?_
  refine Go_iload_n C 0 rfl dX10_addSign_24 rfl ?_
  refine Go_if_eq (t := 68) C hw dX10_addSign_25 rfl rfl (fun hw => ?_) (fun hw => ?_)
  · exact Go_vret C hQ hR hw dX10_addSign_68
  · refine Go_aload_n C 1 rfl dX10_addSign_28 rfl ?_
    refine Go_getI (k := 5) C ci10 iw_10 kE_1 rfl wm_15_9 rfl dX10_addSign_29 rfl ?_
    refine Go_if_lt (t := 68) C hw dX10_addSign_32 rfl rfl (fun hw => ?_) (fun hw => ?_)
    · exact Go_vret C hQ hR hw dX10_addSign_68
    · refine Go_aload_n C 1 rfl dX10_addSign_35 rfl ?_
      refine Go_getI (k := 5) C ci10 iw_10 kE_1 rfl wm_15_9 rfl dX10_addSign_36 rfl ?_
      refine Go_aload_n C 1 rfl dX10_addSign_39 rfl ?_
      refine Go_getA (k := 0) C ci10 iw_10 kE_1 (rE_1_0 hR) rfl wm_3_13 rfl dX10_addSign_40 rfl ?_
      refine Go_alen2 (v := (1000 : Int32)) C kE_2 (by decide) rfl dX10_addSign_43 rfl ?_
      refine Go_icmp_ge (t := 68) C hw dX10_addSign_44 rfl rfl (fun hw => ?_) (fun hw => ?_)
      · exact Go_vret C hQ hR hw dX10_addSign_68
      · refine Go_aload_n C 1 rfl dX10_addSign_47 rfl ?_
        refine Go_getA (k := 0) C ci10 iw_10 kE_1 (rE_1_0 hR) rfl wm_3_13 rfl dX10_addSign_48 rfl ?_
        refine Go_aload_n C 1 rfl dX10_addSign_51 rfl ?_
        refine Go_getI (k := 5) C ci10 iw_10 kE_1 rfl wm_15_9 rfl dX10_addSign_52 rfl ?_
        refine Go_iload_n C 2 rfl dX10_addSign_55 rfl ?_
        refine Go_i2c C dX10_addSign_56 rfl ?_
        obtain ⟨hin, hw⟩ := hw
        refine Go_castore C kE_2 hin dX10_addSign_57 rfl ?_
        refine Go_S (fun S57_1 e_S57_1 => ?_)
        have hw := hw S57_1 e_S57_1
        have hR := rcE e_S57_1 hR
        refine Go_aload_n C 1 rfl dX10_addSign_58 rfl ?_
        refine Go_dup C rfl dX10_addSign_59 rfl ?_
        refine Go_getI (k := 5) C ci10 iw_10 kE_1 rfl wm_15_9 rfl dX10_addSign_60 rfl ?_
        refine Go_iconst (v := (1 : Int32)) C dX10_addSign_63 rfl rfl ?_
        refine Go_iadd C dX10_addSign_64 rfl ?_
        refine Go_putI (k := 5) C ci10 iw_10 kE_1 rfl wm_15_9 rfl rfl (ci10.2.2.2.1 5 (by decide)) rfl rfl dX10_addSign_65 rfl ?_
        refine Go_S (fun S65_2 e_S65_2 => ?_)
        have hw := hw S65_2 e_S65_2
        have hR := rcE e_S65_2 hR
        exact Go_vret C hQ hR hw dX10_addSign_68
set_option maxRecDepth 100000 in
set_option maxHeartbeats 4000000 in
theorem g_X10_addSign_18 {G : GC} (C : Cx G cX10_addSign BIG RX10 3 none rm_X10_addSign shE NE) {Q : St → Prop} (hQ : QV G RCE Q) (p0 : Int32) {S : St} (hR : RCE S) (hw : w_X10_addSign_18 p0 Q S) : Go G 3 18 [] [(0, .ref (Gad G (1))), (1, .int p0)] S := by
  unfold w_X10_addSign_18 at hw
  refine Go_iconst (v := (1 : Int32)) C dX10_addSign_18 rfl rfl ?_
  refine Go_goto (q := 23) C dX10_addSign_19 rfl ?_
  refine Go_lvp [0, 1] rfl ?_
  exact g_X10_addSign_23 C hQ p0 _ hR hw
set_option maxRecDepth 100000 in
set_option maxHeartbeats 4000000 in
theorem g_X10_addSign_22 {G : GC} (C : Cx G cX10_addSign BIG RX10 3 none rm_X10_addSign shE NE) {Q : St → Prop} (hQ : QV G RCE Q) (p0 : Int32) {S : St} (hR : RCE S) (hw : w_X10_addSign_22 p0 Q S) : Go G 3 22 [] [(0, .ref (Gad G (1))), (1, .int p0)] S := by
  unfold w_X10_addSign_22 at hw
  refine Go_iconst (v := (0 : Int32)) C dX10_addSign_22 rfl rfl ?_
  refine Go_lvp [0, 1] rfl ?_
  exact g_X10_addSign_23 C hQ p0 _ hR hw
set_option maxRecDepth 100000 in
set_option maxHeartbeats 4000000 in
theorem c_X10_addSign (l : Launch) {p0 : Int32} {S : St} {Q : St → Prop} (hR : RCE S) (hw : w_X10_addSign p0 S Q) : MetV l yX10_addSign (wB yX10_addSign cX10_addSign 3 none) rm_X10_addSign shE NE RCE (fun ad => [.ref (ad (1)), .int p0]) S Q := by
  refine MetV_of (cc := cX10_addSign) (maxL := 3) (ret := none) (by decide) (fun _ => Nat.le_of_ble_eq_true rfl) (fun G C hl hQ => ?_)
  subst hl
  have C : Cx G cX10_addSign BIG RX10 3 none rm_X10_addSign shE NE := C
  show Go G 3 0 [] [(0, .ref (Gad G (1))), (1, .int p0)] S
  unfold w_X10_addSign at hw
  refine Go_iload_n C 1 rfl dX10_addSign_0 rfl ?_
  refine Go_bipush (v := (10 : Int32)) C dX10_addSign_1 rfl rfl ?_
  refine Go_icmp_eq (t := 18) C hw dX10_addSign_3 rfl rfl (fun hw => ?_) (fun hw => ?_)
  · refine Go_lvp [0, 1] rfl ?_
    exact g_X10_addSign_18 C hQ p0 hR hw
  · refine Go_iload_n C 1 rfl dX10_addSign_6 rfl ?_
    refine Go_bipush (v := (32 : Int32)) C dX10_addSign_7 rfl rfl ?_
    refine Go_icmp_lt (t := 22) C hw dX10_addSign_9 rfl rfl (fun hw => ?_) (fun hw => ?_)
    · refine Go_lvp [0, 1] rfl ?_
      exact g_X10_addSign_22 C hQ p0 hR hw
    · refine Go_iload_n C 1 rfl dX10_addSign_12 rfl ?_
      refine Go_bipush (v := (126 : Int32)) C dX10_addSign_13 rfl rfl ?_
      refine Go_icmp_gt (t := 22) C hw dX10_addSign_15 rfl rfl (fun hw => ?_) (fun hw => ?_)
      · refine Go_lvp [0, 1] rfl ?_
        exact g_X10_addSign_22 C hQ p0 hR hw
      · refine Go_lvp [0, 1] rfl ?_
        exact g_X10_addSign_18 C hQ p0 hR hw
-- X10_addBytes
abbrev rm_X10_addBytes : Room := { frames := 1, cells := 0, slots := 0, locals := 22 }
set_option maxRecDepth 100000 in
set_option maxHeartbeats 4000000 in
theorem g_X10_addBytes_3 {G : GC} (C : Cx G cX10_addBytes BIG RX10 4 none rm_X10_addBytes shE NE) {Q : St → Prop} (hQ : QV G RCE Q) (p0 : Int64) (v3 : Int32) {S : St} (hR : RCE S) (hw : w_X10_addBytes_3 p0 Q v3 S) : Go G 4 3 [] [(0, .ref (Gad G (1))), (1, .long p0), (3, .int v3)] S := by
  obtain ⟨n, hw⟩ := hw
  induction n generalizing v3 S with
  | zero => exact hw.elim
  | succ n ih =>
    have hk3 := fun (v3 : Int32) (S : St) (hR : RCE S) hw => ih v3 hR hw
    have hw : b_X10_addBytes_3 p0 Q (lpn (fun _ _ => False) (b_X10_addBytes_3 p0 Q) n) v3 S := hw
    unfold b_X10_addBytes_3 at hw
    refine Go_iload_n C 2 rfl dX10_addBytes_3 rfl ?_
    refine Go_if_lt (t := 25) C hw dX10_addBytes_4 rfl rfl (fun hw => ?_) (fun hw => ?_)
    · exact Go_vret C hQ hR hw dX10_addBytes_25
    · refine Go_aload_n C 0 rfl dX10_addBytes_7 rfl ?_
      refine Go_lload_n C 1 rfl dX10_addBytes_8 rfl ?_
      refine Go_iload_n C 2 rfl dX10_addBytes_9 rfl ?_
      refine Go_lushr C dX10_addBytes_10 rfl ?_
      refine Go_l2i C dX10_addBytes_11 rfl ?_
      refine Go_sipush (v := (255 : Int32)) C dX10_addBytes_12 rfl rfl ?_
      refine Go_iand C dX10_addBytes_15 rfl ?_
      refine Go_callV_V (av := (fun ad => [.int (((((p0).toUInt64 >>> ((v3).toInt64.toUInt64 &&& Int64.toUInt64 63)).toInt64).toInt32) &&& (255 : Int32))])) (st := []) (C := C) (hM := c_X10_addSign (Gl G) hR hw) (hlk := wm_15_5) (hini := wm_1_16) (hins := wm_15_6) (hsel := wm_15_7) (hcode := wm_15_8) (ho := kE_1) (hci := rfl) (hc13 := by decide) (hd := by decide +kernel) (hr0 := ⟨rfl, rfl⟩) (hroom := ⟨by first | decide | (dsimp only; omega), by first | decide | (dsimp only; omega)⟩) (hlen := rfl) (hst := rfl) (hW := by decide) (hdg := dX10_addBytes_16) (hq := rfl) (fun S16_1 hw hR => ?_)
      refine Go_iinc2 (kp := 2) (cst := (-8 : Int32)) C dX10_addBytes_19 rfl rfl (by decide) rfl (fun x19_2 e_x19_2 => ?_)
      have hw := hw x19_2 e_x19_2
      refine Go_lve (lv' := [(3, .int x19_2), (0, .ref (Gad G (1))), (1, .long p0)]) rfl ?_
      refine Go_goto (q := 3) C dX10_addBytes_22 rfl ?_
      refine Go_lvp [1, 2, 0] rfl ?_
      exact hk3 _ _ hR hw
set_option maxRecDepth 100000 in
set_option maxHeartbeats 4000000 in
theorem c_X10_addBytes (l : Launch) {p0 : Int64} {S : St} {Q : St → Prop} (hR : RCE S) (hw : w_X10_addBytes p0 S Q) : MetV l yX10_addBytes (wB yX10_addBytes cX10_addBytes 4 none) rm_X10_addBytes shE NE RCE (fun ad => [.ref (ad (1)), .long p0]) S Q := by
  refine MetV_of (cc := cX10_addBytes) (maxL := 4) (ret := none) (by decide) (fun _ => Nat.le_of_ble_eq_true rfl) (fun G C hl hQ => ?_)
  subst hl
  have C : Cx G cX10_addBytes BIG RX10 4 none rm_X10_addBytes shE NE := C
  show Go G 4 0 [] [(0, .ref (Gad G (1))), (1, .long p0)] S
  unfold w_X10_addBytes at hw
  refine Go_bipush (v := (56 : Int32)) C dX10_addBytes_0 rfl rfl ?_
  refine Go_istore_n (lv' := [(3, .int (56 : Int32)), (0, .ref (Gad G (1))), (1, .long p0)]) C rfl dX10_addBytes_2 (by decide) rfl rfl ?_
  refine Go_lvp [1, 2, 0] rfl ?_
  exact g_X10_addBytes_3 C hQ p0 _ hR hw
-- X11_feed
abbrev rm_X11_feed : Room := { frames := 2, cells := 0, slots := 0, locals := 45 }
set_option maxRecDepth 100000 in
set_option maxHeartbeats 4000000 in
theorem c_X11_feed (l : Launch) {p0 : Int64} {p1 : Int64} {p2 : Int64} {S : St} {Q : Int32 → St → Prop} (hR : RCE S) (hw : w_X11_feed p0 p1 p2 S Q) : MetI l yX11_feed (wB yX11_feed cX11_feed 7 (some .int)) rm_X11_feed shE NE RCE (fun ad => [.ref (ad (0)), .long p0, .long p1, .long p2]) S Q := by
  refine MetI_of (cc := cX11_feed) (maxL := 7) (ret := (some .int)) (by decide) (fun _ => Nat.le_of_ble_eq_true rfl) (fun G C hl hQ => ?_)
  subst hl
  have C : Cx G cX11_feed BIG RX11 7 (some .int) rm_X11_feed shE NE := C
  show Go G 7 0 [] [(0, .ref (Gad G (0))), (1, .long p0), (3, .long p1), (5, .long p2)] S
  unfold w_X11_feed at hw
  refine Go_aload_n C 0 rfl dX11_feed_0 rfl ?_
  refine Go_getA (k := 0) C ci11 iw_11 kE_0 (rE_0_0 hR) rfl wm_1_17 rfl dX11_feed_1 rfl ?_
  refine Go_lload_n C 1 rfl dX11_feed_4 rfl ?_
  refine Go_callV_V (av := (fun ad => [.long p0])) (st := []) (C := C) (hM := c_X10_addBytes (Gl G)  hR hw) (hlk := wm_15_1) (hini := wm_1_16) (hins := wm_15_2) (hsel := wm_15_3) (hcode := wm_15_4) (ho := kE_1) (hci := rfl) (hc13 := by decide) (hd := by decide +kernel) (hr0 := ⟨rfl, rfl⟩) (hroom := ⟨by first | decide | (dsimp only; omega), by first | decide | (dsimp only; omega)⟩) (hlen := rfl) (hst := rfl) (hW := by decide) (hdg := dX11_feed_5) (hq := rfl) (fun S5_1 hw hR => ?_)
  refine Go_aload_n C 0 rfl dX11_feed_8 rfl ?_
  refine Go_getA (k := 0) C ci11 iw_11 kE_0 (rE_0_0 hR) rfl wm_1_17 rfl dX11_feed_9 rfl ?_
  refine Go_lload_n C 2 rfl dX11_feed_12 rfl ?_
  refine Go_callV_V (av := (fun ad => [.long p1])) (st := []) (C := C) (hM := c_X10_addBytes (Gl G)  hR hw) (hlk := wm_15_1) (hini := wm_1_16) (hins := wm_15_2) (hsel := wm_15_3) (hcode := wm_15_4) (ho := kE_1) (hci := rfl) (hc13 := by decide) (hd := by decide +kernel) (hr0 := ⟨rfl, rfl⟩) (hroom := ⟨by first | decide | (dsimp only; omega), by first | decide | (dsimp only; omega)⟩) (hlen := rfl) (hst := rfl) (hW := by decide) (hdg := dX11_feed_13) (hq := rfl) (fun S13_2 hw hR => ?_)
  refine Go_aload_n C 0 rfl dX11_feed_16 rfl ?_
  refine Go_getA (k := 0) C ci11 iw_11 kE_0 (rE_0_0 hR) rfl wm_1_17 rfl dX11_feed_17 rfl ?_
  refine Go_lload C 3 rfl dX11_feed_20 rfl ?_
  refine Go_callV_V (av := (fun ad => [.long p2])) (st := []) (C := C) (hM := c_X10_addBytes (Gl G)  hR hw) (hlk := wm_15_1) (hini := wm_1_16) (hins := wm_15_2) (hsel := wm_15_3) (hcode := wm_15_4) (ho := kE_1) (hci := rfl) (hc13 := by decide) (hd := by decide +kernel) (hr0 := ⟨rfl, rfl⟩) (hroom := ⟨by first | decide | (dsimp only; omega), by first | decide | (dsimp only; omega)⟩) (hlen := rfl) (hst := rfl) (hW := by decide) (hdg := dX11_feed_22) (hq := rfl) (fun S22_3 hw hR => ?_)
  refine Go_aload_n C 0 rfl dX11_feed_25 rfl ?_
  refine Go_getA (k := 0) C ci11 iw_11 kE_0 (rE_0_0 hR) rfl wm_1_17 rfl dX11_feed_26 rfl ?_
  refine Go_getIN (k := 5) (host := "EndsRound") C ci10 iw_10 kE_1 rfl nw_3 rfl dX11_feed_29 rfl ?_
  exact Go_iret C hQ hR hw dX11_feed_32
-- X10_signAt
abbrev rm_X10_signAt : Room := { frames := 0, cells := 0, slots := 0, locals := 0 }
set_option maxRecDepth 100000 in
set_option maxHeartbeats 4000000 in
theorem c_X10_signAt (l : Launch) {p0 : Int32} {S : St} {Q : Int32 → St → Prop} (hR : RCE S) (hw : w_X10_signAt p0 S Q) : MetI l yX10_signAt (wB yX10_signAt cX10_signAt 2 (some .int)) rm_X10_signAt shE NE RCE (fun ad => [.ref (ad (1)), .int p0]) S Q := by
  refine MetI_of (cc := cX10_signAt) (maxL := 2) (ret := (some .int)) (by decide) (fun _ => Nat.le_of_ble_eq_true rfl) (fun G C hl hQ => ?_)
  subst hl
  have C : Cx G cX10_signAt BIG RX10 2 (some .int) rm_X10_signAt shE NE := C
  show Go G 2 0 [] [(0, .ref (Gad G (1))), (1, .int p0)] S
  unfold w_X10_signAt at hw
  refine Go_iload_n C 1 rfl dX10_signAt_0 rfl ?_
  refine Go_if_lt (t := 30) C hw dX10_signAt_1 rfl rfl (fun hw => ?_) (fun hw => ?_)
  · refine Go_iconst (v := (-1 : Int32)) C dX10_signAt_30 rfl rfl ?_
    exact Go_iret C hQ hR hw dX10_signAt_31
  · refine Go_iload_n C 1 rfl dX10_signAt_4 rfl ?_
    refine Go_aload_n C 0 rfl dX10_signAt_5 rfl ?_
    refine Go_getI (k := 5) C ci10 iw_10 kE_1 rfl wm_15_9 rfl dX10_signAt_6 rfl ?_
    refine Go_icmp_ge (t := 30) C hw dX10_signAt_9 rfl rfl (fun hw => ?_) (fun hw => ?_)
    · refine Go_iconst (v := (-1 : Int32)) C dX10_signAt_30 rfl rfl ?_
      exact Go_iret C hQ hR hw dX10_signAt_31
    · refine Go_iload_n C 1 rfl dX10_signAt_12 rfl ?_
      refine Go_aload_n C 0 rfl dX10_signAt_13 rfl ?_
      refine Go_getA (k := 0) C ci10 iw_10 kE_1 (rE_1_0 hR) rfl wm_3_13 rfl dX10_signAt_14 rfl ?_
      refine Go_alen2 (v := (1000 : Int32)) C kE_2 (by decide) rfl dX10_signAt_17 rfl ?_
      refine Go_icmp_ge (t := 30) C hw dX10_signAt_18 rfl rfl (fun hw => ?_) (fun hw => ?_)
      · refine Go_iconst (v := (-1 : Int32)) C dX10_signAt_30 rfl rfl ?_
        exact Go_iret C hQ hR hw dX10_signAt_31
      · refine Go_aload_n C 0 rfl dX10_signAt_21 rfl ?_
        refine Go_getA (k := 0) C ci10 iw_10 kE_1 (rE_1_0 hR) rfl wm_3_13 rfl dX10_signAt_22 rfl ?_
        refine Go_iload_n C 1 rfl dX10_signAt_25 rfl ?_
        obtain ⟨hin, hw⟩ := hw
        refine Go_caload C kE_2 hin dX10_signAt_26 rfl ?_
        refine Go_goto (q := 31) C dX10_signAt_27 rfl ?_
        exact Go_iret C hQ hR hw dX10_signAt_31
-- X10_isLetter
abbrev rm_X10_isLetter : Room := { frames := 0, cells := 0, slots := 0, locals := 0 }
set_option maxRecDepth 100000 in
set_option maxHeartbeats 4000000 in
theorem c_X10_isLetter (l : Launch) {p0 : Int32} {S : St} {Q : Int32 → St → Prop} (hR : RCE S) (hw : w_X10_isLetter p0 S Q) : MetI l yX10_isLetter (wB yX10_isLetter cX10_isLetter 1 (some .boolean)) rm_X10_isLetter shE NE RCE (fun ad => [.int p0]) S Q := by
  refine MetI_of (cc := cX10_isLetter) (maxL := 1) (ret := (some .boolean)) (by decide) (fun _ => Nat.le_of_ble_eq_true rfl) (fun G C hl hQ => ?_)
  subst hl
  have C : Cx G cX10_isLetter BIG RX10 1 (some .boolean) rm_X10_isLetter shE NE := C
  show Go G 1 0 [] [(0, .int p0)] S
  unfold w_X10_isLetter at hw
  refine Go_iload_n C 0 rfl dX10_isLetter_0 rfl ?_
  refine Go_bipush (v := (97 : Int32)) C dX10_isLetter_1 rfl rfl ?_
  refine Go_icmp_lt (t := 16) C hw dX10_isLetter_3 rfl rfl (fun hw => ?_) (fun hw => ?_)
  · refine Go_iconst (v := (0 : Int32)) C dX10_isLetter_16 rfl rfl ?_
    exact Go_zret C hQ hR rfl hw dX10_isLetter_17
  · refine Go_iload_n C 0 rfl dX10_isLetter_6 rfl ?_
    refine Go_bipush (v := (122 : Int32)) C dX10_isLetter_7 rfl rfl ?_
    refine Go_icmp_gt (t := 16) C hw dX10_isLetter_9 rfl rfl (fun hw => ?_) (fun hw => ?_)
    · refine Go_iconst (v := (0 : Int32)) C dX10_isLetter_16 rfl rfl ?_
      exact Go_zret C hQ hR rfl hw dX10_isLetter_17
    · refine Go_iconst (v := (1 : Int32)) C dX10_isLetter_12 rfl rfl ?_
      refine Go_goto (q := 17) C dX10_isLetter_13 rfl ?_
      exact Go_zret C hQ hR rfl hw dX10_isLetter_17
-- X10_withLetter
abbrev rm_X10_withLetter : Room := { frames := 0, cells := 0, slots := 0, locals := 0 }
set_option maxRecDepth 100000 in
set_option maxHeartbeats 4000000 in
theorem c_X10_withLetter (l : Launch) {p0 : Int64} {p1 : Int32} {S : St} {Q : Int64 → St → Prop} (hR : RCE S) (hw : w_X10_withLetter p0 p1 S Q) : MetL l yX10_withLetter (wB yX10_withLetter cX10_withLetter 3 (some .long)) rm_X10_withLetter shE NE RCE (fun ad => [.long p0, .int p1]) S Q := by
  refine MetL_of (cc := cX10_withLetter) (maxL := 3) (ret := (some .long)) (by decide) (fun _ => Nat.le_of_ble_eq_true rfl) (fun G C hl hQ => ?_)
  subst hl
  have C : Cx G cX10_withLetter BIG RX10 3 (some .long) rm_X10_withLetter shE NE := C
  show Go G 3 0 [] [(0, .long p0), (2, .int p1)] S
  unfold w_X10_withLetter at hw
  refine Go_lload_n C 0 rfl dX10_withLetter_0 rfl ?_
  refine Go_iconst (v := (5 : Int32)) C dX10_withLetter_1 rfl rfl ?_
  refine Go_lshl C dX10_withLetter_2 rfl ?_
  refine Go_iload_n C 1 rfl dX10_withLetter_3 rfl ?_
  refine Go_bipush (v := (97 : Int32)) C dX10_withLetter_4 rfl rfl ?_
  refine Go_isub C dX10_withLetter_6 rfl ?_
  refine Go_iconst (v := (1 : Int32)) C dX10_withLetter_7 rfl rfl ?_
  refine Go_iadd C dX10_withLetter_8 rfl ?_
  refine Go_i2l C dX10_withLetter_9 rfl ?_
  refine Go_lor C dX10_withLetter_10 rfl ?_
  exact Go_lret C hQ hR hw dX10_withLetter_11
-- X10_keyOf
abbrev rm_X10_keyOf : Room := { frames := 0, cells := 0, slots := 0, locals := 0 }
set_option maxRecDepth 100000 in
set_option maxHeartbeats 4000000 in
theorem g_X10_keyOf_2 {G : GC} (C : Cx G cX10_keyOf BIG RX10 4 (some .int) rm_X10_keyOf shE NE) {Q : Int32 → St → Prop} (hQ : QI G RCE Q) (p0 : Int64) (v3 : Int32) {S : St} (hR : RCE S) (hw : w_X10_keyOf_2 p0 Q v3 S) : Go G 4 2 [] [(0, .ref (Gad G (1))), (1, .long p0), (3, .int v3)] S := by
  obtain ⟨n, hw⟩ := hw
  induction n generalizing v3 S with
  | zero => exact hw.elim
  | succ n ih =>
    have hk2 := fun (v3 : Int32) (S : St) (hR : RCE S) hw => ih v3 hR hw
    have hw : b_X10_keyOf_2 p0 Q (lpn (fun _ _ => False) (b_X10_keyOf_2 p0 Q) n) v3 S := hw
    unfold b_X10_keyOf_2 at hw
    refine Go_iload_n C 2 rfl dX10_keyOf_2 rfl ?_
    refine Go_aload_n C 0 rfl dX10_keyOf_3 rfl ?_
    refine Go_getA (k := 4) C ci10 iw_10 kE_1 (rE_1_4 hR) rfl wm_3_17 rfl dX10_keyOf_4 rfl ?_
    refine Go_alen2 (v := (24 : Int32)) C kE_6 (by decide) rfl dX10_keyOf_7 rfl ?_
    refine Go_icmp_ge (t := 34) C hw dX10_keyOf_8 rfl rfl (fun hw => ?_) (fun hw => ?_)
    · refine Go_iconst (v := (3 : Int32)) C dX10_keyOf_34 rfl rfl ?_
      exact Go_iret C hQ hR hw dX10_keyOf_35
    · refine Go_aload_n C 0 rfl dX10_keyOf_11 rfl ?_
      refine Go_getA (k := 4) C ci10 iw_10 kE_1 (rE_1_4 hR) rfl wm_3_17 rfl dX10_keyOf_12 rfl ?_
      refine Go_iload_n C 2 rfl dX10_keyOf_15 rfl ?_
      obtain ⟨hin, hw⟩ := hw
      refine Go_laload C kE_6 hin dX10_keyOf_16 rfl ?_
      refine Go_lload_n C 1 rfl dX10_keyOf_17 rfl ?_
      refine Go_lcmp_ne (t := 28) C hw dX10_keyOf_18 rfl dX10_keyOf_19 rfl rfl (fun hw => ?_) (fun hw => ?_)
      · refine Go_sipush (v := (128 : Int32)) C dX10_keyOf_22 rfl rfl ?_
        refine Go_iload_n C 2 rfl dX10_keyOf_25 rfl ?_
        refine Go_iadd C dX10_keyOf_26 rfl ?_
        exact Go_iret C hQ hR hw dX10_keyOf_27
      · refine Go_iinc2 (kp := 2) (cst := (1 : Int32)) C dX10_keyOf_28 rfl rfl (by decide) rfl (fun x28_1 e_x28_1 => ?_)
        have hw := hw x28_1 e_x28_1
        refine Go_lve (lv' := [(3, .int x28_1), (0, .ref (Gad G (1))), (1, .long p0)]) rfl ?_
        refine Go_goto (q := 2) C dX10_keyOf_31 rfl ?_
        refine Go_lvp [1, 2, 0] rfl ?_
        exact hk2 _ _ hR hw
set_option maxRecDepth 100000 in
set_option maxHeartbeats 4000000 in
theorem c_X10_keyOf (l : Launch) {p0 : Int64} {S : St} {Q : Int32 → St → Prop} (hR : RCE S) (hw : w_X10_keyOf p0 S Q) : MetI l yX10_keyOf (wB yX10_keyOf cX10_keyOf 4 (some .int)) rm_X10_keyOf shE NE RCE (fun ad => [.ref (ad (1)), .long p0]) S Q := by
  refine MetI_of (cc := cX10_keyOf) (maxL := 4) (ret := (some .int)) (by decide) (fun _ => Nat.le_of_ble_eq_true rfl) (fun G C hl hQ => ?_)
  subst hl
  have C : Cx G cX10_keyOf BIG RX10 4 (some .int) rm_X10_keyOf shE NE := C
  show Go G 4 0 [] [(0, .ref (Gad G (1))), (1, .long p0)] S
  unfold w_X10_keyOf at hw
  refine Go_iconst (v := (0 : Int32)) C dX10_keyOf_0 rfl rfl ?_
  refine Go_istore_n (lv' := [(3, .int (0 : Int32)), (0, .ref (Gad G (1))), (1, .long p0)]) C rfl dX10_keyOf_1 (by decide) rfl rfl ?_
  refine Go_lvp [1, 2, 0] rfl ?_
  exact g_X10_keyOf_2 C hQ p0 _ hR hw
-- X11_put
abbrev rm_X11_put : Room := { frames := 0, cells := 0, slots := 0, locals := 0 }
set_option maxRecDepth 100000 in
set_option maxHeartbeats 4000000 in
theorem c_X11_put (l : Launch) {p0 : Nat} (hp0 : ok shE NE p0 14 (lnE p0)) {p1 : Int32} {p2 : Int32} {S : St} {Q : St → Prop} (hR : RCE S) (hw : w_X11_put p0 p1 p2 S Q) : MetV l yX11_put (wB yX11_put cX11_put 3 none) rm_X11_put shE NE RCE (fun ad => [.ref (ad (p0)), .int p1, .int p2]) S Q := by
  refine MetV_of (cc := cX11_put) (maxL := 3) (ret := none) (by decide) (fun _ => Nat.le_of_ble_eq_true rfl) (fun G C hl hQ => ?_)
  subst hl
  have C : Cx G cX11_put BIG RX11 3 none rm_X11_put shE NE := C
  show Go G 3 0 [] [(0, .ref (Gad G (p0))), (1, .int p1), (2, .int p2)] S
  unfold w_X11_put at hw
  refine Go_iload_n C 1 rfl dX11_put_0 rfl ?_
  refine Go_if_lt (t := 14) C hw dX11_put_1 rfl rfl (fun hw => ?_) (fun hw => ?_)
  · exact Go_vret C hQ hR hw dX11_put_14
  · refine Go_iload_n C 1 rfl dX11_put_4 rfl ?_
    refine Go_aload_n C 0 rfl dX11_put_5 rfl ?_
    refine Go_alen2 (v := nI (lnE p0)) C hp0 (by decide) rfl dX11_put_6 rfl ?_
    refine Go_icmp_ge (t := 14) C hw dX11_put_7 rfl rfl (fun hw => ?_) (fun hw => ?_)
    · exact Go_vret C hQ hR hw dX11_put_14
    · refine Go_aload_n C 0 rfl dX11_put_10 rfl ?_
      refine Go_iload_n C 1 rfl dX11_put_11 rfl ?_
      refine Go_iload_n C 2 rfl dX11_put_12 rfl ?_
      obtain ⟨hin, hw⟩ := hw
      refine Go_iastore C hp0 hin dX11_put_13 rfl ?_
      refine Go_S (fun S13_1 e_S13_1 => ?_)
      have hw := hw S13_1 e_S13_1
      have hR := rcE e_S13_1 hR
      exact Go_vret C hQ hR hw dX11_put_14
