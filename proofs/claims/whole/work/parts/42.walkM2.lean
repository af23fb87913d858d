-- X12_classes
abbrev rm_X12_classes : Room := { frames := 2, cells := 0, slots := 0, locals := 48 }
set_option maxRecDepth 100000 in
set_option maxHeartbeats 4000000 in
theorem g_X12_classes_133 {G : GC} (C : Cx G cX12_classes BIG RX12 7 none rm_X12_classes shM NM) {Q : St → Prop} (hQ : QV G RCM Q) (v1 : Int32) (v2 : Int32) (v3 : Int32) (v4 : Int32) (v5 : Int32) (v6 : Int32) (t0 : Int32) (t1 : Int32) {k84 : Int32 → St → Prop} (hk84 : ∀ (v6 : Int32) (S : St), RCM S → k84 v6 S → Go G 7 84 [] [(0, .ref (Gad G (0))), (1, .int v1), (2, .int v2), (3, .int v3), (4, .int v4), (5, .int v5), (6, .int v6)] S) {S : St} (hR : RCM S) (hw : w_X12_classes_133 k84 v1 v2 v3 v4 v5 v6 t0 t1 S) : Go G 7 133 [.int t0, .int t1, .ref (Gad G (37))] [(0, .ref (Gad G (0))), (1, .int v1), (2, .int v2), (3, .int v3), (4, .int v4), (5, .int v5), (6, .int v6)] S := by
  unfold w_X12_classes_133 at hw
  obtain ⟨hin, hw⟩ := hw
  refine Go_iastore (q := 134) C kM_37 hin dX12_classes_133 rfl ?_
  refine Go_S (fun S133_11 e_S133_11 => ?_)
  have hw := hw S133_11 e_S133_11
  have hR := rcM e_S133_11 hR
  refine Go_iinc2 (q := 137) (kp := 6) (cst := (1 : Int32)) C dX12_classes_134 rfl rfl (by decide) rfl (fun x134_12 e_x134_12 => ?_)
  have hw := hw x134_12 e_x134_12
  refine Go_lve (lv' := [(6, .int x134_12), (0, .ref (Gad G (0))), (1, .int v1), (2, .int v2), (3, .int v3), (4, .int v4), (5, .int v5)]) rfl ?_
  refine Go_goto (q := 84) C dX12_classes_137 rfl ?_
  refine Go_lvp [1, 2, 3, 4, 5, 6, 0] rfl ?_
  exact hk84 _ _ hR hw
set_option maxRecDepth 100000 in
set_option maxHeartbeats 4000000 in
theorem g_X12_classes_84 {G : GC} (C : Cx G cX12_classes BIG RX12 7 none rm_X12_classes shM NM) {Q : St → Prop} (hQ : QV G RCM Q) (v1 : Int32) (v2 : Int32) (v3 : Int32) (v4 : Int32) (v5 : Int32) {k35 : Int32 → St → Prop} (hk35 : ∀ (v3 : Int32) (S : St), RCM S → k35 v3 S → Go G 7 35 [] [(0, .ref (Gad G (0))), (1, .int v1), (2, .int v2), (3, .int v3)] S) (v6 : Int32) {S : St} (hR : RCM S) (hw : w_X12_classes_84 k35 v1 v2 v3 v4 v5 v6 S) : Go G 7 84 [] [(0, .ref (Gad G (0))), (1, .int v1), (2, .int v2), (3, .int v3), (4, .int v4), (5, .int v5), (6, .int v6)] S := by
  obtain ⟨n, hw⟩ := hw
  induction n generalizing v6 S with
  | zero => exact hw.elim
  | succ n ih =>
    have hw : b_X12_classes_84 k35 v1 v2 v3 v4 v5 (lpn (fun _ _ => False) (b_X12_classes_84 k35 v1 v2 v3 v4 v5) n) v6 S := hw
    generalize lpn (fun _ _ => False) (b_X12_classes_84 k35 v1 v2 v3 v4 v5) n = kf at hw ih
    have hk84 := fun (v6 : Int32) (S : St) (hR : RCM S) hw => ih v6 hR hw
    unfold b_X12_classes_84 at hw
    refine Go_iload (q := 86) C 6 rfl dX12_classes_84 rfl ?_
    refine Go_aload_n (q := 87) C 0 rfl dX12_classes_86 rfl ?_
    refine Go_getI (q := 90) (k := 10) C ci12 iw_12 kM_0 rfl wm_14_20 rfl dX12_classes_87 rfl ?_
    refine Go_icmp_ge (t := 140) (q := 93) C hw dX12_classes_90 rfl rfl (fun hw => ?_) (fun hw => ?_)
    · refine Go_iinc2 (q := 143) (kp := 3) (cst := (1 : Int32)) C dX12_classes_140 rfl rfl (by decide) rfl (fun x140_10 e_x140_10 => ?_)
      have hw := hw x140_10 e_x140_10
      refine Go_lve (lv' := [(3, .int x140_10), (0, .ref (Gad G (0))), (1, .int v1), (2, .int v2), (4, .int v4), (5, .int v5), (6, .int v6)]) rfl ?_
      refine Go_goto (q := 35) C dX12_classes_143 rfl ?_
      refine Go_lvp [1, 2, 3, 0] rfl ?_
      exact hk35 _ _ hR hw
    · refine Go_aload_n (q := 94) C 0 rfl dX12_classes_93 rfl ?_
      refine Go_getA (q := 97) (k := 60) C ci12 iw_12 kM_0 (rM_0_60 hR) rfl wm_14_9 rfl dX12_classes_94 rfl ?_
      refine Go_iload (q := 99) C 6 rfl dX12_classes_97 rfl ?_
      refine Go_aload_n (q := 100) C 0 rfl dX12_classes_99 rfl ?_
      refine Go_getA (q := 103) (k := 60) C ci12 iw_12 kM_0 (rM_0_60 hR) rfl wm_14_9 rfl dX12_classes_100 rfl ?_
      refine Go_iload (q := 105) C 6 rfl dX12_classes_103 rfl ?_
      obtain ⟨hin, hw⟩ := hw
      refine Go_iaload (q := 106) C kM_37 hin dX12_classes_105 rfl ?_
      refine Go_iload (q := 108) C 4 rfl dX12_classes_106 rfl ?_
      refine Go_iload (q := 110) C 5 rfl dX12_classes_108 rfl ?_
      refine Go_mmax (q := 113) C wm_35_2 wm_11_14 wm_11_15 wm_11_16 (by first | decide | (dsimp only; omega)) (Nat.le_of_ble_eq_true rfl) dX12_classes_110 rfl ?_
      refine Go_icmp_ne (t := 126) (q := 116) C hw dX12_classes_113 rfl rfl (fun hw => ?_) (fun hw => ?_)
      · refine Go_iload (q := 118) C 4 rfl dX12_classes_116 rfl ?_
        refine Go_iload (q := 120) C 5 rfl dX12_classes_118 rfl ?_
        refine Go_mmin (q := 123) C wm_37_9 wm_12_9 wm_11_15 wm_12_10 (by first | decide | (dsimp only; omega)) (Nat.le_of_ble_eq_true rfl) dX12_classes_120 rfl ?_
        refine Go_goto (q := 133) C dX12_classes_123 rfl ?_
        refine Go_lvp [0, 1, 2, 3, 4, 5, 6] rfl ?_
        exact g_X12_classes_133 C hQ _ _ _ _ _ _ _ _ hk84 hR hw
      · refine Go_aload_n (q := 127) C 0 rfl dX12_classes_126 rfl ?_
        refine Go_getA (q := 130) (k := 60) C ci12 iw_12 kM_0 (rM_0_60 hR) rfl wm_14_9 rfl dX12_classes_127 rfl ?_
        refine Go_iload (q := 132) C 6 rfl dX12_classes_130 rfl ?_
        obtain ⟨hin, hw⟩ := hw
        refine Go_iaload (q := 133) C kM_37 hin dX12_classes_132 rfl ?_
        refine Go_lvp [0, 1, 2, 3, 4, 5, 6] rfl ?_
        exact g_X12_classes_133 C hQ _ _ _ _ _ _ _ _ hk84 hR hw
set_option maxRecDepth 100000 in
set_option maxHeartbeats 4000000 in
theorem g_X12_classes_35 {G : GC} (C : Cx G cX12_classes BIG RX12 7 none rm_X12_classes shM NM) {Q : St → Prop} (hQ : QV G RCM Q) (v1 : Int32) (v2 : Int32) {k28 : Int32 → St → Prop} (hk28 : ∀ (v2 : Int32) (S : St), RCM S → k28 v2 S → Go G 7 28 [] [(0, .ref (Gad G (0))), (1, .int v1), (2, .int v2)] S) (v3 : Int32) {S : St} (hR : RCM S) (hw : w_X12_classes_35 k28 v1 v2 v3 S) : Go G 7 35 [] [(0, .ref (Gad G (0))), (1, .int v1), (2, .int v2), (3, .int v3)] S := by
  obtain ⟨n, hw⟩ := hw
  induction n generalizing v3 S with
  | zero => exact hw.elim
  | succ n ih =>
    have hw : b_X12_classes_35 k28 v1 v2 (lpn (fun _ _ => False) (b_X12_classes_35 k28 v1 v2) n) v3 S := hw
    generalize lpn (fun _ _ => False) (b_X12_classes_35 k28 v1 v2) n = kf at hw ih
    have hk35 := fun (v3 : Int32) (S : St) (hR : RCM S) hw => ih v3 hR hw
    unfold b_X12_classes_35 at hw
    refine Go_iload_n (q := 36) C 3 rfl dX12_classes_35 rfl ?_
    refine Go_aload_n (q := 37) C 0 rfl dX12_classes_36 rfl ?_
    refine Go_getI (q := 40) (k := 12) C ci12 iw_12 kM_0 rfl wm_24_19 rfl dX12_classes_37 rfl ?_
    refine Go_icmp_ge (t := 146) (q := 43) C hw dX12_classes_40 rfl rfl (fun hw => ?_) (fun hw => ?_)
    · refine Go_iinc2 (q := 149) (kp := 2) (cst := (1 : Int32)) C dX12_classes_146 rfl rfl (by decide) rfl (fun x146_3 e_x146_3 => ?_)
      have hw := hw x146_3 e_x146_3
      refine Go_lve (lv' := [(2, .int x146_3), (0, .ref (Gad G (0))), (1, .int v1), (3, .int v3)]) rfl ?_
      refine Go_goto (q := 28) C dX12_classes_149 rfl ?_
      refine Go_lvp [1, 2, 0] rfl ?_
      exact hk28 _ _ hR hw
    · refine Go_aload_n (q := 44) C 0 rfl dX12_classes_43 rfl ?_
      refine Go_getA (q := 47) (k := 60) C ci12 iw_12 kM_0 (rM_0_60 hR) rfl wm_14_9 rfl dX12_classes_44 rfl ?_
      refine Go_aload_n (q := 48) C 0 rfl dX12_classes_47 rfl ?_
      refine Go_iload_n (q := 49) C 2 rfl dX12_classes_48 rfl ?_
      refine Go_i2l (q := 50) C dX12_classes_49 rfl ?_
      refine Go_aload_n (q := 51) C 0 rfl dX12_classes_50 rfl ?_
      refine Go_getA (q := 54) (k := 18) C ci12 iw_12 kM_0 (rM_0_18 hR) rfl wm_12_22 rfl dX12_classes_51 rfl ?_
      refine Go_iload_n (q := 55) C 3 rfl dX12_classes_54 rfl ?_
      obtain ⟨hin, hw⟩ := hw
      refine Go_iaload (q := 56) C kM_3 hin dX12_classes_55 rfl ?_
      refine Go_callV_I (av := (fun ad => [.long ((v2).toInt64), .int (gI S 3 v3.toNatClampNeg)])) (st := [.ref (Gad G (37))]) (C := C) (hM := c_X12_endAt (Gl G) hR hw) (hlk := wm_33_10) (hini := wm_1_5) (hins := wm_33_11) (hsel := wm_33_12) (hcode := wm_33_13) (ho := kM_0) (hci := rfl) (hc13 := by decide) (n := 2) (hd := by decide +kernel) (hr0 := ⟨rfl, rfl⟩) (hroom := ⟨by first | decide | (dsimp only; omega), by first | decide | (dsimp only; omega)⟩) (hlen := rfl) (hst := rfl) (hW := Nat.le_of_ble_eq_true rfl) (hdg := dX12_classes_56) (q := 59) (hq := rfl) (fun r56_5 S56_4 hw hR => ?_)
      obtain ⟨hin, hw⟩ := hw
      refine Go_iaload (q := 60) C kM_37 hin dX12_classes_59 rfl ?_
      refine Go_topi (fun x60_6 e_x60_6 => ?_)
      have hw := hw x60_6 e_x60_6
      refine Go_istore (q := 62) (lv' := [(4, .int x60_6), (0, .ref (Gad G (0))), (1, .int v1), (2, .int v2), (3, .int v3)]) C dX12_classes_60 (by decide) rfl rfl ?_
      refine Go_aload_n (q := 63) C 1 rfl dX12_classes_62 rfl ?_
      refine Go_getA (q := 66) (k := 60) C ci12 iw_12 kM_0 (rM_0_60 hR) rfl wm_14_9 rfl dX12_classes_63 rfl ?_
      refine Go_aload_n (q := 67) C 1 rfl dX12_classes_66 rfl ?_
      refine Go_iload_n (q := 68) C 3 rfl dX12_classes_67 rfl ?_
      refine Go_i2l (q := 69) C dX12_classes_68 rfl ?_
      refine Go_aload_n (q := 70) C 1 rfl dX12_classes_69 rfl ?_
      refine Go_getA (q := 73) (k := 19) C ci12 iw_12 kM_0 (rM_0_19 hR) rfl wm_12_23 rfl dX12_classes_70 rfl ?_
      refine Go_iload_n (q := 74) C 4 rfl dX12_classes_73 rfl ?_
      obtain ⟨hin, hw⟩ := hw
      refine Go_iaload (q := 75) C kM_4 hin dX12_classes_74 rfl ?_
      refine Go_callV_I (av := (fun ad => [.long ((v2).toInt64), .int (gI S56_4 4 v3.toNatClampNeg)])) (st := [.ref (Gad G (37))]) (C := C) (hM := c_X12_endAt (Gl G) hR hw) (hlk := wm_33_10) (hini := wm_1_5) (hins := wm_33_11) (hsel := wm_33_12) (hcode := wm_33_13) (ho := kM_0) (hci := rfl) (hc13 := by decide) (n := 2) (hd := by decide +kernel) (hr0 := ⟨rfl, rfl⟩) (hroom := ⟨by first | decide | (dsimp only; omega), by first | decide | (dsimp only; omega)⟩) (hlen := rfl) (hst := rfl) (hW := Nat.le_of_ble_eq_true rfl) (hdg := dX12_classes_75) (q := 78) (hq := rfl) (fun r75_8 S75_7 hw hR => ?_)
      obtain ⟨hin, hw⟩ := hw
      refine Go_iaload (q := 79) C kM_37 hin dX12_classes_78 rfl ?_
      refine Go_topi (fun x79_9 e_x79_9 => ?_)
      have hw := hw x79_9 e_x79_9
      refine Go_istore (q := 81) (lv' := [(5, .int x79_9), (4, .int x60_6), (0, .ref (Gad G (0))), (1, .int v1), (2, .int v2), (3, .int v3)]) C dX12_classes_79 (by decide) rfl rfl ?_
      refine Go_iconst (q := 82) (v := (0 : Int32)) C dX12_classes_81 rfl rfl ?_
      refine Go_istore (q := 84) (lv' := [(6, .int (0 : Int32)), (5, .int x79_9), (4, .int x60_6), (0, .ref (Gad G (0))), (1, .int v1), (2, .int v2), (3, .int v3)]) C dX12_classes_82 (by decide) rfl rfl ?_
      refine Go_lvp [3, 4, 5, 6, 2, 1, 0] rfl ?_
      exact g_X12_classes_84 C hQ _ _ _ _ _ hk35 _ hR hw
set_option maxRecDepth 100000 in
set_option maxHeartbeats 4000000 in
theorem g_X12_classes_28 {G : GC} (C : Cx G cX12_classes BIG RX12 7 none rm_X12_classes shM NM) {Q : St → Prop} (hQ : QV G RCM Q) (v1 : Int32) (v2 : Int32) {S : St} (hR : RCM S) (hw : w_X12_classes_28 Q v1 v2 S) : Go G 7 28 [] [(0, .ref (Gad G (0))), (1, .int v1), (2, .int v2)] S := by
  obtain ⟨n, hw⟩ := hw
  induction n generalizing v2 S with
  | zero => exact hw.elim
  | succ n ih =>
    have hw : b_X12_classes_28 Q v1 (lpn (fun _ _ => False) (b_X12_classes_28 Q v1) n) v2 S := hw
    generalize lpn (fun _ _ => False) (b_X12_classes_28 Q v1) n = kf at hw ih
    have hk28 := fun (v2 : Int32) (S : St) (hR : RCM S) hw => ih v2 hR hw
    unfold b_X12_classes_28 at hw
    refine Go_iload_n (q := 29) C 2 rfl dX12_classes_28 rfl ?_
    refine Go_iload_n (q := 30) C 1 rfl dX12_classes_29 rfl ?_
    refine Go_icmp_ge (t := 152) (q := 33) C hw dX12_classes_30 rfl rfl (fun hw => ?_) (fun hw => ?_)
    · exact Go_vret C hQ hR hw dX12_classes_152
    · refine Go_iconst (q := 34) (v := (0 : Int32)) C dX12_classes_33 rfl rfl ?_
      refine Go_istore_n (q := 35) (lv' := [(3, .int (0 : Int32)), (0, .ref (Gad G (0))), (1, .int v1), (2, .int v2)]) C rfl dX12_classes_34 (by decide) rfl rfl ?_
      refine Go_lvp [1, 2, 3, 0] rfl ?_
      exact g_X12_classes_35 C hQ _ _ hk28 _ hR hw
set_option maxRecDepth 100000 in
set_option maxHeartbeats 4000000 in
theorem g_X12_classes_2 {G : GC} (C : Cx G cX12_classes BIG RX12 7 none rm_X12_classes shM NM) {Q : St → Prop} (hQ : QV G RCM Q) (v1 : Int32) {S : St} (hR : RCM S) (hw : w_X12_classes_2 Q v1 S) : Go G 7 2 [] [(0, .ref (Gad G (0))), (1, .int v1)] S := by
  obtain ⟨n, hw⟩ := hw
  induction n generalizing v1 S with
  | zero => exact hw.elim
  | succ n ih =>
    have hw : b_X12_classes_2 Q (lpn (fun _ _ => False) (b_X12_classes_2 Q) n) v1 S := hw
    generalize lpn (fun _ _ => False) (b_X12_classes_2 Q) n = kf at hw ih
    have hk2 := fun (v1 : Int32) (S : St) (hR : RCM S) hw => ih v1 hR hw
    unfold b_X12_classes_2 at hw
    refine Go_iload_n (q := 3) C 1 rfl dX12_classes_2 rfl ?_
    refine Go_bipush (q := 5) (v := (12 : Int32)) C dX12_classes_3 rfl rfl ?_
    refine Go_icmp_ge (t := 21) (q := 8) C hw dX12_classes_5 rfl rfl (fun hw => ?_) (fun hw => ?_)
    · refine Go_aload_n (q := 22) C 0 rfl dX12_classes_21 rfl ?_
      refine Go_callV_I (av := (fun ad => [])) (st := []) (C := C) (hM := c_X12_roundIs (Gl G) hR hw) (hlk := wm_35_7) (hini := wm_1_5) (hins := wm_35_8) (hsel := wm_35_9) (hcode := wm_35_10) (ho := kM_0) (hci := rfl) (hc13 := by decide) (n := 0) (hd := by decide +kernel) (hr0 := ⟨rfl, rfl⟩) (hroom := ⟨by first | decide | (dsimp only; omega), by first | decide | (dsimp only; omega)⟩) (hlen := rfl) (hst := rfl) (hW := Nat.le_of_ble_eq_true rfl) (hdg := dX12_classes_22) (q := 25) (hq := rfl) (fun r22_2 S22_1 hw hR => ?_)
      refine Go_istore_n (q := 26) (lv' := [(1, .int r22_2), (0, .ref (Gad G (0)))]) C rfl dX12_classes_25 (by decide) rfl rfl ?_
      refine Go_iconst (q := 27) (v := (0 : Int32)) C dX12_classes_26 rfl rfl ?_
      refine Go_istore_n (q := 28) (lv' := [(2, .int (0 : Int32)), (1, .int r22_2), (0, .ref (Gad G (0)))]) C rfl dX12_classes_27 (by decide) rfl rfl ?_
      refine Go_lvp [2, 1, 0] rfl ?_
      exact g_X12_classes_28 C hQ _ _ hR hw
    · refine Go_aload_n (q := 9) C 0 rfl dX12_classes_8 rfl ?_
      refine Go_getA (q := 12) (k := 60) C ci12 iw_12 kM_0 (rM_0_60 hR) rfl wm_14_9 rfl dX12_classes_9 rfl ?_
      refine Go_iload_n (q := 13) C 1 rfl dX12_classes_12 rfl ?_
      refine Go_iload_n (q := 14) C 1 rfl dX12_classes_13 rfl ?_
      obtain ⟨hin, hw⟩ := hw
      refine Go_iastore (q := 15) C kM_37 hin dX12_classes_14 rfl ?_
      refine Go_S (fun S14_13 e_S14_13 => ?_)
      have hw := hw S14_13 e_S14_13
      have hR := rcM e_S14_13 hR
      refine Go_iinc2 (q := 18) (kp := 1) (cst := (1 : Int32)) C dX12_classes_15 rfl rfl (by decide) rfl (fun x15_14 e_x15_14 => ?_)
      have hw := hw x15_14 e_x15_14
      refine Go_lve (lv' := [(1, .int x15_14), (0, .ref (Gad G (0)))]) rfl ?_
      refine Go_goto (q := 2) C dX12_classes_18 rfl ?_
      refine Go_lvp [1, 0] rfl ?_
      exact hk2 _ _ hR hw
set_option maxRecDepth 100000 in
set_option maxHeartbeats 4000000 in
theorem c_X12_classes (l : Launch) {S : St} {Q : St → Prop} (hR : RCM S) (hw : w_X12_classes S Q) : MetV l yX12_classes (wB yX12_classes cX12_classes 7 none) rm_X12_classes shM NM RCM (fun ad => [.ref (ad (0))]) S Q := by
  refine MetV_of (cc := cX12_classes) (maxL := 7) (ret := none) (plainFor_of_name (by decide)) (fun _ => Nat.le_of_ble_eq_true rfl) (fun G C hl hQ => ?_)
  subst hl
  have C : Cx G cX12_classes BIG RX12 7 none rm_X12_classes shM NM := C
  show Go G 7 0 [] [(0, .ref (Gad G (0)))] S
  unfold w_X12_classes at hw
  refine Go_iconst (q := 1) (v := (0 : Int32)) C dX12_classes_0 rfl rfl ?_
  refine Go_istore_n (q := 2) (lv' := [(1, .int (0 : Int32)), (0, .ref (Gad G (0)))]) C rfl dX12_classes_1 (by decide) rfl rfl ?_
  refine Go_lvp [1, 0] rfl ?_
  exact g_X12_classes_2 C hQ _ hR hw
-- X12_rhymes
abbrev rm_X12_rhymes : Room := { frames := 3, cells := 0, slots := 0, locals := 74 }
set_option maxRecDepth 100000 in
set_option maxHeartbeats 4000000 in
theorem c_X12_rhymes (l : Launch) {p0 : Int32} {S : St} {Q : Int32 → St → Prop} (hR : RCM S) (hw : w_X12_rhymes p0 S Q) : MetI l yX12_rhymes (wB yX12_rhymes cX12_rhymes 2 (some .int)) rm_X12_rhymes shM NM RCM (fun ad => [.ref (ad (0)), .int p0]) S Q := by
  refine MetI_of (cc := cX12_rhymes) (maxL := 2) (ret := (some .int)) (plainFor_of_name (by decide)) (fun _ => Nat.le_of_ble_eq_true rfl) (fun G C hl hQ => ?_)
  subst hl
  have C : Cx G cX12_rhymes BIG RX12 2 (some .int) rm_X12_rhymes shM NM := C
  show Go G 2 0 [] [(0, .ref (Gad G (0))), (1, .int p0)] S
  unfold w_X12_rhymes at hw
  refine Go_aload_n (q := 1) C 0 rfl dX12_rhymes_0 rfl ?_
  refine Go_iconst (q := 2) (v := (0 : Int32)) C dX12_rhymes_1 rfl rfl ?_
  refine Go_putI (q := 5) (k := 0) C ci12 iw_12 kM_0 rfl wm_15_14 rfl rfl (ci12.2.2.2.1 0 (by decide)) rfl rfl dX12_rhymes_2 rfl ?_
  refine Go_S (fun S2_1 e_S2_1 => ?_)
  have hw := hw S2_1 e_S2_1
  have hR := rcM e_S2_1 hR
  refine Go_aload_n (q := 6) C 0 rfl dX12_rhymes_5 rfl ?_
  refine Go_callV_V (av := (fun ad => [])) (st := []) (C := C) (hM := c_X12_classes (Gl G)  hR hw) (hlk := wm_37_5) (hini := wm_1_5) (hins := wm_37_6) (hsel := wm_37_7) (hcode := wm_37_8) (ho := kM_0) (hci := rfl) (hc13 := by decide) (n := 0) (hd := by decide +kernel) (hr0 := ⟨rfl, rfl⟩) (hroom := ⟨by first | decide | (dsimp only; omega), by first | decide | (dsimp only; omega)⟩) (hlen := rfl) (hst := rfl) (hW := Nat.le_of_ble_eq_true rfl) (hdg := dX12_rhymes_6) (q := 9) (hq := rfl) (fun S6_2 hw hR => ?_)
  refine Go_aload_n (q := 10) C 0 rfl dX12_rhymes_9 rfl ?_
  refine Go_iload_n (q := 11) C 1 rfl dX12_rhymes_10 rfl ?_
  refine Go_callV_I (av := (fun ad => [.int p0])) (st := []) (C := C) (hM := c_X12_isPlace (Gl G)  hR hw) (hlk := wm_31_22) (hini := wm_1_5) (hins := wm_31_23) (hsel := wm_32_0) (hcode := wm_32_1) (ho := kM_0) (hci := rfl) (hc13 := by decide) (n := 1) (hd := by decide +kernel) (hr0 := ⟨rfl, rfl⟩) (hroom := ⟨by first | decide | (dsimp only; omega), by first | decide | (dsimp only; omega)⟩) (hlen := rfl) (hst := rfl) (hW := Nat.le_of_ble_eq_true rfl) (hdg := dX12_rhymes_11) (q := 14) (hq := rfl) (fun r11_4 S11_3 hw hR => ?_)
  refine Go_if_eq (t := 26) (q := 17) C hw dX12_rhymes_14 rfl rfl (fun hw => ?_) (fun hw => ?_)
  · refine Go_iconst (q := 27) (v := (-1 : Int32)) C dX12_rhymes_26 rfl rfl ?_
    exact Go_iret C hQ hR hw dX12_rhymes_27
  · refine Go_aload_n (q := 18) C 0 rfl dX12_rhymes_17 rfl ?_
    refine Go_getA (q := 21) (k := 60) C ci12 iw_12 kM_0 (rM_0_60 hR) rfl wm_14_9 rfl dX12_rhymes_18 rfl ?_
    refine Go_iload_n (q := 22) C 1 rfl dX12_rhymes_21 rfl ?_
    obtain ⟨hin, hw⟩ := hw
    refine Go_iaload (q := 23) C kM_37 hin dX12_rhymes_22 rfl ?_
    refine Go_goto (q := 27) C dX12_rhymes_23 rfl ?_
    exact Go_iret C hQ hR hw dX12_rhymes_27
-- X12_beside
abbrev rm_X12_beside : Room := { frames := 3, cells := 0, slots := 0, locals := 72 }
set_option maxRecDepth 100000 in
set_option maxHeartbeats 4000000 in
theorem g_X12_beside_76 {G : GC} (C : Cx G cX12_beside BIG RX12 6 (some .int) rm_X12_beside shM NM) {Q : Int32 → St → Prop} (hQ : QI G RCM Q) (p0 : Int32) (p1 : Int32) (v3 : Int32) (v5 : Int32) (t0 : Int32) (t1 : Int32) {k39 : Int32 → Int32 → St → Prop} (hk39 : ∀ (v4 : Int32) (v5 : Int32) (S : St), RCM S → k39 v4 v5 S → Go G 6 39 [] [(0, .ref (Gad G (0))), (1, .int p0), (2, .int p1), (3, .int v3), (4, .int v4), (5, .int v5)] S) {S : St} (hR : RCM S) (hw : w_X12_beside_76 p0 p1 k39 v3 v5 t0 t1 S) : Go G 6 76 [.int t0, .int t1] [(0, .ref (Gad G (0))), (1, .int p0), (2, .int p1), (3, .int v3), (5, .int v5)] S := by
  unfold w_X12_beside_76 at hw
  refine Go_iadd (q := 77) C dX12_beside_76 rfl ?_
  refine Go_topi (fun x77_12 e_x77_12 => ?_)
  have hw := hw x77_12 e_x77_12
  refine Go_istore (q := 79) (lv' := [(4, .int x77_12), (0, .ref (Gad G (0))), (1, .int p0), (2, .int p1), (3, .int v3), (5, .int v5)]) C dX12_beside_77 (by decide) rfl rfl ?_
  refine Go_iinc2 (q := 82) (kp := 5) (cst := (1 : Int32)) C dX12_beside_79 rfl rfl (by decide) rfl (fun x79_13 e_x79_13 => ?_)
  have hw := hw x79_13 e_x79_13
  refine Go_lve (lv' := [(5, .int x79_13), (4, .int x77_12), (0, .ref (Gad G (0))), (1, .int p0), (2, .int p1), (3, .int v3)]) rfl ?_
  refine Go_goto (q := 39) C dX12_beside_82 rfl ?_
  refine Go_lvp [2, 3, 4, 5, 1, 0] rfl ?_
  exact hk39 _ _ _ hR hw
set_option maxRecDepth 100000 in
set_option maxHeartbeats 4000000 in
theorem g_X12_beside_39 {G : GC} (C : Cx G cX12_beside BIG RX12 6 (some .int) rm_X12_beside shM NM) {Q : Int32 → St → Prop} (hQ : QI G RCM Q) (p0 : Int32) (p1 : Int32) (v3 : Int32) (v4 : Int32) (v5 : Int32) {S : St} (hR : RCM S) (hw : w_X12_beside_39 p0 p1 Q v3 v4 v5 S) : Go G 6 39 [] [(0, .ref (Gad G (0))), (1, .int p0), (2, .int p1), (3, .int v3), (4, .int v4), (5, .int v5)] S := by
  obtain ⟨n, hw⟩ := hw
  induction n generalizing v4 v5 S with
  | zero => exact hw.elim
  | succ n ih =>
    have hw : b_X12_beside_39 p0 p1 Q v3 (lpn (fun _ _ _ => False) (b_X12_beside_39 p0 p1 Q v3) n) v4 v5 S := hw
    generalize lpn (fun _ _ _ => False) (b_X12_beside_39 p0 p1 Q v3) n = kf at hw ih
    have hk39 := fun (v4 : Int32) (v5 : Int32) (S : St) (hR : RCM S) hw => ih v4 v5 hR hw
    unfold b_X12_beside_39 at hw
    refine Go_iload (q := 41) C 5 rfl dX12_beside_39 rfl ?_
    refine Go_iload_n (q := 42) C 3 rfl dX12_beside_41 rfl ?_
    refine Go_icmp_ge (t := 85) (q := 45) C hw dX12_beside_42 rfl rfl (fun hw => ?_) (fun hw => ?_)
    · refine Go_iload (q := 87) C 4 rfl dX12_beside_85 rfl ?_
      exact Go_iret C hQ hR hw dX12_beside_87
    · refine Go_iload (q := 47) C 4 rfl dX12_beside_45 rfl ?_
      refine Go_aload_n (q := 48) C 0 rfl dX12_beside_47 rfl ?_
      refine Go_iload (q := 50) C 5 rfl dX12_beside_48 rfl ?_
      refine Go_i2l (q := 51) C dX12_beside_50 rfl ?_
      refine Go_iload_n (q := 52) C 1 rfl dX12_beside_51 rfl ?_
      refine Go_callV_I (av := (fun ad => [.long ((v5).toInt64), .int p0])) (st := [.int v4]) (C := C) (hM := c_X12_whereIs (Gl G) hR hw) (hlk := wm_34_2) (hini := wm_1_5) (hins := wm_34_3) (hsel := wm_34_4) (hcode := wm_34_5) (ho := kM_0) (hci := rfl) (hc13 := by decide) (n := 2) (hd := by decide +kernel) (hr0 := ⟨rfl, rfl⟩) (hroom := ⟨by first | decide | (dsimp only; omega), by first | decide | (dsimp only; omega)⟩) (hlen := rfl) (hst := rfl) (hW := Nat.le_of_ble_eq_true rfl) (hdg := dX12_beside_52) (q := 55) (hq := rfl) (fun r52_9 S52_8 hw hR => ?_)
      refine Go_aload_n (q := 56) C 0 rfl dX12_beside_55 rfl ?_
      refine Go_iload (q := 58) C 5 rfl dX12_beside_56 rfl ?_
      refine Go_i2l (q := 59) C dX12_beside_58 rfl ?_
      refine Go_iload_n (q := 60) C 2 rfl dX12_beside_59 rfl ?_
      refine Go_callV_I (av := (fun ad => [.long ((v5).toInt64), .int p1])) (st := [.int r52_9, .int v4]) (C := C) (hM := c_X12_whereIs (Gl G) hR hw) (hlk := wm_34_2) (hini := wm_1_5) (hins := wm_34_3) (hsel := wm_34_4) (hcode := wm_34_5) (ho := kM_0) (hci := rfl) (hc13 := by decide) (n := 2) (hd := by decide +kernel) (hr0 := ⟨rfl, rfl⟩) (hroom := ⟨by first | decide | (dsimp only; omega), by first | decide | (dsimp only; omega)⟩) (hlen := rfl) (hst := rfl) (hW := Nat.le_of_ble_eq_true rfl) (hdg := dX12_beside_60) (q := 63) (hq := rfl) (fun r60_11 S60_10 hw hR => ?_)
      refine Go_isub (q := 64) C dX12_beside_63 rfl ?_
      refine Go_mabs (q := 67) C wm_37_22 wm_37_23 wm_11_15 wm_38_0 (by first | decide | (dsimp only; omega)) (Nat.le_of_ble_eq_true rfl) dX12_beside_64 rfl ?_
      refine Go_iconst (q := 68) (v := (1 : Int32)) C dX12_beside_67 rfl rfl ?_
      refine Go_icmp_ne (t := 75) (q := 71) C hw dX12_beside_68 rfl rfl (fun hw => ?_) (fun hw => ?_)
      · refine Go_iconst (q := 72) (v := (1 : Int32)) C dX12_beside_71 rfl rfl ?_
        refine Go_goto (q := 76) C dX12_beside_72 rfl ?_
        refine Go_lvp [0, 1, 2, 3, 5] rfl ?_
        exact g_X12_beside_76 C hQ p0 p1 _ _ _ _ hk39 hR hw
      · refine Go_iconst (q := 76) (v := (0 : Int32)) C dX12_beside_75 rfl rfl ?_
        refine Go_lvp [0, 1, 2, 3, 5] rfl ?_
        exact g_X12_beside_76 C hQ p0 p1 _ _ _ _ hk39 hR hw
set_option maxRecDepth 100000 in
set_option maxHeartbeats 4000000 in
theorem c_X12_beside (l : Launch) {p0 : Int32} {p1 : Int32} {S : St} {Q : Int32 → St → Prop} (hR : RCM S) (hw : w_X12_beside p0 p1 S Q) : MetI l yX12_beside (wB yX12_beside cX12_beside 6 (some .int)) rm_X12_beside shM NM RCM (fun ad => [.ref (ad (0)), .int p0, .int p1]) S Q := by
  refine MetI_of (cc := cX12_beside) (maxL := 6) (ret := (some .int)) (plainFor_of_name (by decide)) (fun _ => Nat.le_of_ble_eq_true rfl) (fun G C hl hQ => ?_)
  subst hl
  have C : Cx G cX12_beside BIG RX12 6 (some .int) rm_X12_beside shM NM := C
  show Go G 6 0 [] [(0, .ref (Gad G (0))), (1, .int p0), (2, .int p1)] S
  unfold w_X12_beside at hw
  refine Go_aload_n (q := 1) C 0 rfl dX12_beside_0 rfl ?_
  refine Go_iconst (q := 2) (v := (0 : Int32)) C dX12_beside_1 rfl rfl ?_
  refine Go_putI (q := 5) (k := 0) C ci12 iw_12 kM_0 rfl wm_15_14 rfl rfl (ci12.2.2.2.1 0 (by decide)) rfl rfl dX12_beside_2 rfl ?_
  refine Go_S (fun S2_1 e_S2_1 => ?_)
  have hw := hw S2_1 e_S2_1
  have hR := rcM e_S2_1 hR
  refine Go_aload_n (q := 6) C 0 rfl dX12_beside_5 rfl ?_
  refine Go_iload_n (q := 7) C 1 rfl dX12_beside_6 rfl ?_
  refine Go_callV_I (av := (fun ad => [.int p0])) (st := []) (C := C) (hM := c_X12_isPlace (Gl G)  hR hw) (hlk := wm_31_22) (hini := wm_1_5) (hins := wm_31_23) (hsel := wm_32_0) (hcode := wm_32_1) (ho := kM_0) (hci := rfl) (hc13 := by decide) (n := 1) (hd := by decide +kernel) (hr0 := ⟨rfl, rfl⟩) (hroom := ⟨by first | decide | (dsimp only; omega), by first | decide | (dsimp only; omega)⟩) (hlen := rfl) (hst := rfl) (hW := Nat.le_of_ble_eq_true rfl) (hdg := dX12_beside_7) (q := 10) (hq := rfl) (fun r7_3 S7_2 hw hR => ?_)
  refine Go_if_eq (t := 26) (q := 13) C hw dX12_beside_10 rfl rfl (fun hw => ?_) (fun hw => ?_)
  · refine Go_iconst (q := 27) (v := (-1 : Int32)) C dX12_beside_26 rfl rfl ?_
    exact Go_iret C hQ hR hw dX12_beside_27
  · refine Go_aload_n (q := 14) C 0 rfl dX12_beside_13 rfl ?_
    refine Go_iload_n (q := 15) C 2 rfl dX12_beside_14 rfl ?_
    refine Go_callV_I (av := (fun ad => [.int p1])) (st := []) (C := C) (hM := c_X12_isPlace (Gl G)  hR hw) (hlk := wm_31_22) (hini := wm_1_5) (hins := wm_31_23) (hsel := wm_32_0) (hcode := wm_32_1) (ho := kM_0) (hci := rfl) (hc13 := by decide) (n := 1) (hd := by decide +kernel) (hr0 := ⟨rfl, rfl⟩) (hroom := ⟨by first | decide | (dsimp only; omega), by first | decide | (dsimp only; omega)⟩) (hlen := rfl) (hst := rfl) (hW := Nat.le_of_ble_eq_true rfl) (hdg := dX12_beside_15) (q := 18) (hq := rfl) (fun r15_5 S15_4 hw hR => ?_)
    refine Go_if_eq (t := 26) (q := 21) C hw dX12_beside_18 rfl rfl (fun hw => ?_) (fun hw => ?_)
    · refine Go_iconst (q := 27) (v := (-1 : Int32)) C dX12_beside_26 rfl rfl ?_
      exact Go_iret C hQ hR hw dX12_beside_27
    · refine Go_iload_n (q := 22) C 1 rfl dX12_beside_21 rfl ?_
      refine Go_iload_n (q := 23) C 2 rfl dX12_beside_22 rfl ?_
      refine Go_icmp_ne (t := 28) (q := 26) C hw dX12_beside_23 rfl rfl (fun hw => ?_) (fun hw => ?_)
      · refine Go_iconst (q := 27) (v := (-1 : Int32)) C dX12_beside_26 rfl rfl ?_
        exact Go_iret C hQ hR hw dX12_beside_27
      · refine Go_aload_n (q := 29) C 0 rfl dX12_beside_28 rfl ?_
        refine Go_callV_I (av := (fun ad => [])) (st := []) (C := C) (hM := c_X12_roundIs (Gl G)  hR hw) (hlk := wm_35_7) (hini := wm_1_5) (hins := wm_35_8) (hsel := wm_35_9) (hcode := wm_35_10) (ho := kM_0) (hci := rfl) (hc13 := by decide) (n := 0) (hd := by decide +kernel) (hr0 := ⟨rfl, rfl⟩) (hroom := ⟨by first | decide | (dsimp only; omega), by first | decide | (dsimp only; omega)⟩) (hlen := rfl) (hst := rfl) (hW := Nat.le_of_ble_eq_true rfl) (hdg := dX12_beside_29) (q := 32) (hq := rfl) (fun r29_7 S29_6 hw hR => ?_)
        refine Go_istore_n (q := 33) (lv' := [(3, .int r29_7), (0, .ref (Gad G (0))), (1, .int p0), (2, .int p1)]) C rfl dX12_beside_32 (by decide) rfl rfl ?_
        refine Go_iconst (q := 34) (v := (0 : Int32)) C dX12_beside_33 rfl rfl ?_
        refine Go_istore (q := 36) (lv' := [(4, .int (0 : Int32)), (3, .int r29_7), (0, .ref (Gad G (0))), (1, .int p0), (2, .int p1)]) C dX12_beside_34 (by decide) rfl rfl ?_
        refine Go_iconst (q := 37) (v := (0 : Int32)) C dX12_beside_36 rfl rfl ?_
        refine Go_istore (q := 39) (lv' := [(5, .int (0 : Int32)), (4, .int (0 : Int32)), (3, .int r29_7), (0, .ref (Gad G (0))), (1, .int p0), (2, .int p1)]) C dX12_beside_37 (by decide) rfl rfl ?_
        refine Go_lvp [3, 4, 5, 2, 1, 0] rfl ?_
        exact g_X12_beside_39 C hQ p0 p1 _ _ _ hR hw
-- X12_word
abbrev rm_X12_word : Room := { frames := 1, cells := 0, slots := 0, locals := 22 }
set_option maxRecDepth 100000 in
set_option maxHeartbeats 4000000 in
theorem c_X12_word (l : Launch) {p0 : Int32} {p1 : Int32} {S : St} {Q : Int32 → St → Prop} (hR : RCM S) (hw : w_X12_word p0 p1 S Q) : MetI l yX12_word (wB yX12_word cX12_word 3 (some .int)) rm_X12_word shM NM RCM (fun ad => [.ref (ad (0)), .int p0, .int p1]) S Q := by
  refine MetI_of (cc := cX12_word) (maxL := 3) (ret := (some .int)) (plainFor_of_name (by decide)) (fun _ => Nat.le_of_ble_eq_true rfl) (fun G C hl hQ => ?_)
  subst hl
  have C : Cx G cX12_word BIG RX12 3 (some .int) rm_X12_word shM NM := C
  show Go G 3 0 [] [(0, .ref (Gad G (0))), (1, .int p0), (2, .int p1)] S
  unfold w_X12_word at hw
  refine Go_aload_n (q := 1) C 0 rfl dX12_word_0 rfl ?_
  refine Go_iconst (q := 2) (v := (0 : Int32)) C dX12_word_1 rfl rfl ?_
  refine Go_putI (q := 5) (k := 0) C ci12 iw_12 kM_0 rfl wm_15_14 rfl rfl (ci12.2.2.2.1 0 (by decide)) rfl rfl dX12_word_2 rfl ?_
  refine Go_S (fun S2_1 e_S2_1 => ?_)
  have hw := hw S2_1 e_S2_1
  have hR := rcM e_S2_1 hR
  refine Go_aload_n (q := 6) C 0 rfl dX12_word_5 rfl ?_
  refine Go_iload_n (q := 7) C 1 rfl dX12_word_6 rfl ?_
  refine Go_callV_I (av := (fun ad => [.int p0])) (st := []) (C := C) (hM := c_X12_isWordAt (Gl G)  hR hw) (hlk := wm_38_13) (hini := wm_1_5) (hins := wm_38_14) (hsel := wm_38_15) (hcode := wm_38_16) (ho := kM_0) (hci := rfl) (hc13 := by decide) (n := 1) (hd := by decide +kernel) (hr0 := ⟨rfl, rfl⟩) (hroom := ⟨by first | decide | (dsimp only; omega), by first | decide | (dsimp only; omega)⟩) (hlen := rfl) (hst := rfl) (hW := Nat.le_of_ble_eq_true rfl) (hdg := dX12_word_7) (q := 10) (hq := rfl) (fun r7_3 S7_2 hw hR => ?_)
  refine Go_if_eq (t := 22) (q := 13) C hw dX12_word_10 rfl rfl (fun hw => ?_) (fun hw => ?_)
  · refine Go_iconst (q := 23) (v := (-1 : Int32)) C dX12_word_22 rfl rfl ?_
    refine Go_goto (q := 59) C dX12_word_23 rfl ?_
    exact Go_iret C hQ hR hw dX12_word_59
  · refine Go_iload_n (q := 14) C 2 rfl dX12_word_13 rfl ?_
    refine Go_iconst (q := 15) (v := (0 : Int32)) C dX12_word_14 rfl rfl ?_
    refine Go_iconst (q := 16) (v := (2 : Int32)) C dX12_word_15 rfl rfl ?_
    refine Go_callS_I (av := (fun ad => [.int p1, .int (0 : Int32), .int (2 : Int32)])) (st := []) (C := C) (hM := c_X12_within (Gl G)  hR hw) (hlk := wm_27_1) (hini := wm_1_5) (hst2 := wm_27_2) (hcode := wm_27_3) (n := 3) (hd := by decide +kernel) (hr0 := ⟨rfl, rfl⟩) (hroom := ⟨by first | decide | (dsimp only; omega), by first | decide | (dsimp only; omega)⟩) (hlen := rfl) (hst := rfl) (hW := Nat.le_of_ble_eq_true rfl) (hdg := dX12_word_16) (q := 19) (hq := rfl) (fun r16_5 S16_4 hw hR => ?_)
    refine Go_if_ne (t := 26) (q := 22) C hw dX12_word_19 rfl rfl (fun hw => ?_) (fun hw => ?_)
    · refine Go_iconst (q := 23) (v := (-1 : Int32)) C dX12_word_22 rfl rfl ?_
      refine Go_goto (q := 59) C dX12_word_23 rfl ?_
      exact Go_iret C hQ hR hw dX12_word_59
    · refine Go_iload_n (q := 27) C 2 rfl dX12_word_26 rfl ?_
      refine Go_if_ne (t := 39) (q := 30) C hw dX12_word_27 rfl rfl (fun hw => ?_) (fun hw => ?_)
      · refine Go_aload_n (q := 31) C 0 rfl dX12_word_30 rfl ?_
        refine Go_getA (q := 34) (k := 21) C ci12 iw_12 kM_0 (rM_0_21 hR) rfl wm_13_1 rfl dX12_word_31 rfl ?_
        refine Go_iload_n (q := 35) C 1 rfl dX12_word_34 rfl ?_
        obtain ⟨hin, hw⟩ := hw
        refine Go_iaload (q := 36) C kM_6 hin dX12_word_35 rfl ?_
        refine Go_goto (q := 59) C dX12_word_36 rfl ?_
        exact Go_iret C hQ hR hw dX12_word_59
      · refine Go_iload_n (q := 40) C 2 rfl dX12_word_39 rfl ?_
        refine Go_iconst (q := 41) (v := (1 : Int32)) C dX12_word_40 rfl rfl ?_
        refine Go_icmp_ne (t := 53) (q := 44) C hw dX12_word_41 rfl rfl (fun hw => ?_) (fun hw => ?_)
        · refine Go_aload_n (q := 45) C 0 rfl dX12_word_44 rfl ?_
          refine Go_getA (q := 48) (k := 22) C ci12 iw_12 kM_0 (rM_0_22 hR) rfl wm_13_2 rfl dX12_word_45 rfl ?_
          refine Go_iload_n (q := 49) C 1 rfl dX12_word_48 rfl ?_
          obtain ⟨hin, hw⟩ := hw
          refine Go_iaload (q := 50) C kM_7 hin dX12_word_49 rfl ?_
          refine Go_goto (q := 59) C dX12_word_50 rfl ?_
          exact Go_iret C hQ hR hw dX12_word_59
        · refine Go_aload_n (q := 54) C 0 rfl dX12_word_53 rfl ?_
          refine Go_getA (q := 57) (k := 23) C ci12 iw_12 kM_0 (rM_0_23 hR) rfl wm_13_3 rfl dX12_word_54 rfl ?_
          refine Go_iload_n (q := 58) C 1 rfl dX12_word_57 rfl ?_
          obtain ⟨hin, hw⟩ := hw
          refine Go_iaload (q := 59) C kM_8 hin dX12_word_58 rfl ?_
          exact Go_iret C hQ hR hw dX12_word_59
-- X12_barred
abbrev rm_X12_barred : Room := { frames := 1, cells := 0, slots := 0, locals := 21 }
set_option maxRecDepth 100000 in
set_option maxHeartbeats 4000000 in
theorem c_X12_barred (l : Launch) {p0 : Int32} {p1 : Int32} {S : St} {Q : Int32 → St → Prop} (hR : RCM S) (hw : w_X12_barred p0 p1 S Q) : MetI l yX12_barred (wB yX12_barred cX12_barred 3 (some .int)) rm_X12_barred shM NM RCM (fun ad => [.ref (ad (0)), .int p0, .int p1]) S Q := by
  refine MetI_of (cc := cX12_barred) (maxL := 3) (ret := (some .int)) (plainFor_of_name (by decide)) (fun _ => Nat.le_of_ble_eq_true rfl) (fun G C hl hQ => ?_)
  subst hl
  have C : Cx G cX12_barred BIG RX12 3 (some .int) rm_X12_barred shM NM := C
  show Go G 3 0 [] [(0, .ref (Gad G (0))), (1, .int p0), (2, .int p1)] S
  unfold w_X12_barred at hw
  refine Go_aload_n (q := 1) C 0 rfl dX12_barred_0 rfl ?_
  refine Go_iconst (q := 2) (v := (0 : Int32)) C dX12_barred_1 rfl rfl ?_
  refine Go_putI (q := 5) (k := 0) C ci12 iw_12 kM_0 rfl wm_15_14 rfl rfl (ci12.2.2.2.1 0 (by decide)) rfl rfl dX12_barred_2 rfl ?_
  refine Go_S (fun S2_1 e_S2_1 => ?_)
  have hw := hw S2_1 e_S2_1
  have hR := rcM e_S2_1 hR
  refine Go_aload_n (q := 6) C 0 rfl dX12_barred_5 rfl ?_
  refine Go_iload_n (q := 7) C 1 rfl dX12_barred_6 rfl ?_
  refine Go_callV_I (av := (fun ad => [.int p0])) (st := []) (C := C) (hM := c_X12_isWordAt (Gl G)  hR hw) (hlk := wm_38_13) (hini := wm_1_5) (hins := wm_38_14) (hsel := wm_38_15) (hcode := wm_38_16) (ho := kM_0) (hci := rfl) (hc13 := by decide) (n := 1) (hd := by decide +kernel) (hr0 := ⟨rfl, rfl⟩) (hroom := ⟨by first | decide | (dsimp only; omega), by first | decide | (dsimp only; omega)⟩) (hlen := rfl) (hst := rfl) (hW := Nat.le_of_ble_eq_true rfl) (hdg := dX12_barred_7) (q := 10) (hq := rfl) (fun r7_3 S7_2 hw hR => ?_)
  refine Go_if_eq (t := 43) (q := 13) C hw dX12_barred_10 rfl rfl (fun hw => ?_) (fun hw => ?_)
  · refine Go_iconst (q := 44) (v := (-1 : Int32)) C dX12_barred_43 rfl rfl ?_
    exact Go_iret C hQ hR hw dX12_barred_44
  · refine Go_aload_n (q := 14) C 0 rfl dX12_barred_13 rfl ?_
    refine Go_iload_n (q := 15) C 2 rfl dX12_barred_14 rfl ?_
    refine Go_callV_I (av := (fun ad => [.int p1])) (st := []) (C := C) (hM := c_X12_isWordAt (Gl G)  hR hw) (hlk := wm_38_13) (hini := wm_1_5) (hins := wm_38_14) (hsel := wm_38_15) (hcode := wm_38_16) (ho := kM_0) (hci := rfl) (hc13 := by decide) (n := 1) (hd := by decide +kernel) (hr0 := ⟨rfl, rfl⟩) (hroom := ⟨by first | decide | (dsimp only; omega), by first | decide | (dsimp only; omega)⟩) (hlen := rfl) (hst := rfl) (hW := Nat.le_of_ble_eq_true rfl) (hdg := dX12_barred_15) (q := 18) (hq := rfl) (fun r15_5 S15_4 hw hR => ?_)
    refine Go_if_eq (t := 43) (q := 21) C hw dX12_barred_18 rfl rfl (fun hw => ?_) (fun hw => ?_)
    · refine Go_iconst (q := 44) (v := (-1 : Int32)) C dX12_barred_43 rfl rfl ?_
      exact Go_iret C hQ hR hw dX12_barred_44
    · refine Go_aload_n (q := 22) C 0 rfl dX12_barred_21 rfl ?_
      refine Go_getA (q := 25) (k := 24) C ci12 iw_12 kM_0 (rM_0_24 hR) rfl wm_13_5 rfl dX12_barred_22 rfl ?_
      refine Go_bipush (q := 27) (v := (12 : Int32)) C dX12_barred_25 rfl rfl ?_
      refine Go_iload_n (q := 28) C 1 rfl dX12_barred_27 rfl ?_
      refine Go_imul (q := 29) C dX12_barred_28 rfl ?_
      refine Go_iload_n (q := 30) C 2 rfl dX12_barred_29 rfl ?_
      refine Go_iadd (q := 31) C dX12_barred_30 rfl ?_
      obtain ⟨hin, hw⟩ := hw
      refine Go_zaload (q := 32) C kM_9 hin dX12_barred_31 rfl ?_
      refine Go_if_eq (t := 39) (q := 35) C hw dX12_barred_32 rfl rfl (fun hw => ?_) (fun hw => ?_)
      · refine Go_iconst (q := 40) (v := (0 : Int32)) C dX12_barred_39 rfl rfl ?_
        refine Go_goto (q := 44) C dX12_barred_40 rfl ?_
        exact Go_iret C hQ hR hw dX12_barred_44
      · refine Go_iconst (q := 36) (v := (1 : Int32)) C dX12_barred_35 rfl rfl ?_
        refine Go_goto (q := 44) C dX12_barred_36 rfl ?_
        exact Go_iret C hQ hR hw dX12_barred_44
-- X12_neighbours
abbrev rm_X12_neighbours : Room := { frames := 3, cells := 0, slots := 0, locals := 74 }
set_option maxRecDepth 100000 in
set_option maxHeartbeats 4000000 in
theorem g_X12_neighbours_40 {G : GC} (C : Cx G cX12_neighbours BIG RX12 4 none rm_X12_neighbours shM NM) {Q : St → Prop} (hQ : QV G RCM Q) (v1 : Int32) (v2 : Int32) {k33 : Int32 → St → Prop} (hk33 : ∀ (v2 : Int32) (S : St), RCM S → k33 v2 S → Go G 4 33 [] [(0, .ref (Gad G (0))), (1, .int v1), (2, .int v2)] S) (v3 : Int32) {S : St} (hR : RCM S) (hw : w_X12_neighbours_40 k33 v1 v2 v3 S) : Go G 4 40 [] [(0, .ref (Gad G (0))), (1, .int v1), (2, .int v2), (3, .int v3)] S := by
  obtain ⟨n, hw⟩ := hw
  induction n generalizing v3 S with
  | zero => exact hw.elim
  | succ n ih =>
    have hw : b_X12_neighbours_40 k33 v1 v2 (lpn (fun _ _ => False) (b_X12_neighbours_40 k33 v1 v2) n) v3 S := hw
    generalize lpn (fun _ _ => False) (b_X12_neighbours_40 k33 v1 v2) n = kf at hw ih
    have hk40 := fun (v3 : Int32) (S : St) (hR : RCM S) hw => ih v3 hR hw
    unfold b_X12_neighbours_40 at hw
    refine Go_iload_n (q := 41) C 3 rfl dX12_neighbours_40 rfl ?_
    refine Go_iconst (q := 42) (v := (1 : Int32)) C dX12_neighbours_41 rfl rfl ?_
    refine Go_iadd (q := 43) C dX12_neighbours_42 rfl ?_
    refine Go_aload_n (q := 44) C 0 rfl dX12_neighbours_43 rfl ?_
    refine Go_getI (q := 47) (k := 10) C ci12 iw_12 kM_0 rfl wm_14_20 rfl dX12_neighbours_44 rfl ?_
    refine Go_icmp_ge (t := 82) (q := 50) C hw dX12_neighbours_47 rfl rfl (fun hw => ?_) (fun hw => ?_)
    · refine Go_iinc2 (q := 85) (kp := 2) (cst := (1 : Int32)) C dX12_neighbours_82 rfl rfl (by decide) rfl (fun x82_4 e_x82_4 => ?_)
      have hw := hw x82_4 e_x82_4
      refine Go_lve (lv' := [(2, .int x82_4), (0, .ref (Gad G (0))), (1, .int v1), (3, .int v3)]) rfl ?_
      refine Go_goto (q := 33) C dX12_neighbours_85 rfl ?_
      refine Go_lvp [1, 2, 0] rfl ?_
      exact hk33 _ _ hR hw
    · refine Go_aload_n (q := 51) C 0 rfl dX12_neighbours_50 rfl ?_
      refine Go_getA (q := 54) (k := 61) C ci12 iw_12 kM_0 (rM_0_61 hR) rfl wm_14_10 rfl dX12_neighbours_51 rfl ?_
      refine Go_bipush (q := 56) (v := (12 : Int32)) C dX12_neighbours_54 rfl rfl ?_
      refine Go_aload_n (q := 57) C 0 rfl dX12_neighbours_56 rfl ?_
      refine Go_iload_n (q := 58) C 2 rfl dX12_neighbours_57 rfl ?_
      refine Go_i2l (q := 59) C dX12_neighbours_58 rfl ?_
      refine Go_iload_n (q := 60) C 3 rfl dX12_neighbours_59 rfl ?_
      refine Go_callV_I (av := (fun ad => [.long ((v2).toInt64), .int v3])) (st := [.int (12 : Int32), .ref (Gad G (38))]) (C := C) (hM := c_X12_endAt (Gl G) hR hw) (hlk := wm_33_10) (hini := wm_1_5) (hins := wm_33_11) (hsel := wm_33_12) (hcode := wm_33_13) (ho := kM_0) (hci := rfl) (hc13 := by decide) (n := 2) (hd := by decide +kernel) (hr0 := ⟨rfl, rfl⟩) (hroom := ⟨by first | decide | (dsimp only; omega), by first | decide | (dsimp only; omega)⟩) (hlen := rfl) (hst := rfl) (hW := Nat.le_of_ble_eq_true rfl) (hdg := dX12_neighbours_60) (q := 63) (hq := rfl) (fun r60_6 S60_5 hw hR => ?_)
      refine Go_imul (q := 64) C dX12_neighbours_63 rfl ?_
      refine Go_aload_n (q := 65) C 0 rfl dX12_neighbours_64 rfl ?_
      refine Go_iload_n (q := 66) C 2 rfl dX12_neighbours_65 rfl ?_
      refine Go_i2l (q := 67) C dX12_neighbours_66 rfl ?_
      refine Go_iload_n (q := 68) C 3 rfl dX12_neighbours_67 rfl ?_
      refine Go_iconst (q := 69) (v := (1 : Int32)) C dX12_neighbours_68 rfl rfl ?_
      refine Go_iadd (q := 70) C dX12_neighbours_69 rfl ?_
      refine Go_callV_I (av := (fun ad => [.long ((v2).toInt64), .int (v3 + (1 : Int32))])) (st := [.int ((12 : Int32) * r60_6), .ref (Gad G (38))]) (C := C) (hM := c_X12_endAt (Gl G) hR hw) (hlk := wm_33_10) (hini := wm_1_5) (hins := wm_33_11) (hsel := wm_33_12) (hcode := wm_33_13) (ho := kM_0) (hci := rfl) (hc13 := by decide) (n := 2) (hd := by decide +kernel) (hr0 := ⟨rfl, rfl⟩) (hroom := ⟨by first | decide | (dsimp only; omega), by first | decide | (dsimp only; omega)⟩) (hlen := rfl) (hst := rfl) (hW := Nat.le_of_ble_eq_true rfl) (hdg := dX12_neighbours_70) (q := 73) (hq := rfl) (fun r70_8 S70_7 hw hR => ?_)
      refine Go_iadd (q := 74) C dX12_neighbours_73 rfl ?_
      refine Go_iconst (q := 75) (v := (1 : Int32)) C dX12_neighbours_74 rfl rfl ?_
      obtain ⟨hin, hw⟩ := hw
      refine Go_zastore2 (q := 76) C kM_38 hin (by decide) dX12_neighbours_75 rfl ?_
      refine Go_S (fun S75_9 e_S75_9 => ?_)
      have hw := hw S75_9 e_S75_9
      have hR := rcM e_S75_9 hR
      refine Go_iinc2 (q := 79) (kp := 3) (cst := (1 : Int32)) C dX12_neighbours_76 rfl rfl (by decide) rfl (fun x76_10 e_x76_10 => ?_)
      have hw := hw x76_10 e_x76_10
      refine Go_lve (lv' := [(3, .int x76_10), (0, .ref (Gad G (0))), (1, .int v1), (2, .int v2)]) rfl ?_
      refine Go_goto (q := 40) C dX12_neighbours_79 rfl ?_
      refine Go_lvp [1, 2, 3, 0] rfl ?_
      exact hk40 _ _ hR hw
set_option maxRecDepth 100000 in
set_option maxHeartbeats 4000000 in
theorem g_X12_neighbours_33 {G : GC} (C : Cx G cX12_neighbours BIG RX12 4 none rm_X12_neighbours shM NM) {Q : St → Prop} (hQ : QV G RCM Q) (v1 : Int32) (v2 : Int32) {S : St} (hR : RCM S) (hw : w_X12_neighbours_33 Q v1 v2 S) : Go G 4 33 [] [(0, .ref (Gad G (0))), (1, .int v1), (2, .int v2)] S := by
  obtain ⟨n, hw⟩ := hw
  induction n generalizing v2 S with
  | zero => exact hw.elim
  | succ n ih =>
    have hw : b_X12_neighbours_33 Q v1 (lpn (fun _ _ => False) (b_X12_neighbours_33 Q v1) n) v2 S := hw
    generalize lpn (fun _ _ => False) (b_X12_neighbours_33 Q v1) n = kf at hw ih
    have hk33 := fun (v2 : Int32) (S : St) (hR : RCM S) hw => ih v2 hR hw
    unfold b_X12_neighbours_33 at hw
    refine Go_iload_n (q := 34) C 2 rfl dX12_neighbours_33 rfl ?_
    refine Go_iload_n (q := 35) C 1 rfl dX12_neighbours_34 rfl ?_
    refine Go_icmp_ge (t := 88) (q := 38) C hw dX12_neighbours_35 rfl rfl (fun hw => ?_) (fun hw => ?_)
    · exact Go_vret C hQ hR hw dX12_neighbours_88
    · refine Go_iconst (q := 39) (v := (0 : Int32)) C dX12_neighbours_38 rfl rfl ?_
      refine Go_istore_n (q := 40) (lv' := [(3, .int (0 : Int32)), (0, .ref (Gad G (0))), (1, .int v1), (2, .int v2)]) C rfl dX12_neighbours_39 (by decide) rfl rfl ?_
      refine Go_lvp [1, 2, 3, 0] rfl ?_
      exact g_X12_neighbours_40 C hQ _ _ hk33 _ hR hw
set_option maxRecDepth 100000 in
set_option maxHeartbeats 4000000 in
theorem g_X12_neighbours_6 {G : GC} (C : Cx G cX12_neighbours BIG RX12 4 none rm_X12_neighbours shM NM) {Q : St → Prop} (hQ : QV G RCM Q) (v1 : Int32) {S : St} (hR : RCM S) (hw : w_X12_neighbours_6 Q v1 S) : Go G 4 6 [] [(0, .ref (Gad G (0))), (1, .int v1)] S := by
  obtain ⟨n, hw⟩ := hw
  induction n generalizing v1 S with
  | zero => exact hw.elim
  | succ n ih =>
    have hw : b_X12_neighbours_6 Q (lpn (fun _ _ => False) (b_X12_neighbours_6 Q) n) v1 S := hw
    generalize lpn (fun _ _ => False) (b_X12_neighbours_6 Q) n = kf at hw ih
    have hk6 := fun (v1 : Int32) (S : St) (hR : RCM S) hw => ih v1 hR hw
    unfold b_X12_neighbours_6 at hw
    refine Go_iload_n (q := 7) C 1 rfl dX12_neighbours_6 rfl ?_
    refine Go_sipush (q := 10) (v := (144 : Int32)) C dX12_neighbours_7 rfl rfl ?_
    refine Go_icmp_ge (t := 26) (q := 13) C hw dX12_neighbours_10 rfl rfl (fun hw => ?_) (fun hw => ?_)
    · refine Go_aload_n (q := 27) C 0 rfl dX12_neighbours_26 rfl ?_
      refine Go_callV_I (av := (fun ad => [])) (st := []) (C := C) (hM := c_X12_roundIs (Gl G) hR hw) (hlk := wm_35_7) (hini := wm_1_5) (hins := wm_35_8) (hsel := wm_35_9) (hcode := wm_35_10) (ho := kM_0) (hci := rfl) (hc13 := by decide) (n := 0) (hd := by decide +kernel) (hr0 := ⟨rfl, rfl⟩) (hroom := ⟨by first | decide | (dsimp only; omega), by first | decide | (dsimp only; omega)⟩) (hlen := rfl) (hst := rfl) (hW := Nat.le_of_ble_eq_true rfl) (hdg := dX12_neighbours_27) (q := 30) (hq := rfl) (fun r27_3 S27_2 hw hR => ?_)
      refine Go_istore_n (q := 31) (lv' := [(1, .int r27_3), (0, .ref (Gad G (0)))]) C rfl dX12_neighbours_30 (by decide) rfl rfl ?_
      refine Go_iconst (q := 32) (v := (0 : Int32)) C dX12_neighbours_31 rfl rfl ?_
      refine Go_istore_n (q := 33) (lv' := [(2, .int (0 : Int32)), (1, .int r27_3), (0, .ref (Gad G (0)))]) C rfl dX12_neighbours_32 (by decide) rfl rfl ?_
      refine Go_lvp [2, 1, 0] rfl ?_
      exact g_X12_neighbours_33 C hQ _ _ hR hw
    · refine Go_aload_n (q := 14) C 0 rfl dX12_neighbours_13 rfl ?_
      refine Go_getA (q := 17) (k := 61) C ci12 iw_12 kM_0 (rM_0_61 hR) rfl wm_14_10 rfl dX12_neighbours_14 rfl ?_
      refine Go_iload_n (q := 18) C 1 rfl dX12_neighbours_17 rfl ?_
      refine Go_iconst (q := 19) (v := (0 : Int32)) C dX12_neighbours_18 rfl rfl ?_
      obtain ⟨hin, hw⟩ := hw
      refine Go_zastore2 (q := 20) C kM_38 hin (by decide) dX12_neighbours_19 rfl ?_
      refine Go_S (fun S19_11 e_S19_11 => ?_)
      have hw := hw S19_11 e_S19_11
      have hR := rcM e_S19_11 hR
      refine Go_iinc2 (q := 23) (kp := 1) (cst := (1 : Int32)) C dX12_neighbours_20 rfl rfl (by decide) rfl (fun x20_12 e_x20_12 => ?_)
      have hw := hw x20_12 e_x20_12
      refine Go_lve (lv' := [(1, .int x20_12), (0, .ref (Gad G (0)))]) rfl ?_
      refine Go_goto (q := 6) C dX12_neighbours_23 rfl ?_
      refine Go_lvp [1, 0] rfl ?_
      exact hk6 _ _ hR hw
set_option maxRecDepth 100000 in
set_option maxHeartbeats 4000000 in
theorem c_X12_neighbours (l : Launch) {S : St} {Q : St → Prop} (hR : RCM S) (hw : w_X12_neighbours S Q) : MetV l yX12_neighbours (wB yX12_neighbours cX12_neighbours 4 none) rm_X12_neighbours shM NM RCM (fun ad => [.ref (ad (0))]) S Q := by
  refine MetV_of (cc := cX12_neighbours) (maxL := 4) (ret := none) (plainFor_of_name (by decide)) (fun _ => Nat.le_of_ble_eq_true rfl) (fun G C hl hQ => ?_)
  subst hl
  have C : Cx G cX12_neighbours BIG RX12 4 none rm_X12_neighbours shM NM := C
  show Go G 4 0 [] [(0, .ref (Gad G (0)))] S
  unfold w_X12_neighbours at hw
  refine Go_aload_n (q := 1) C 0 rfl dX12_neighbours_0 rfl ?_
  refine Go_callV_V (av := (fun ad => [])) (st := []) (C := C) (hM := c_X12_classes (Gl G)  hR hw) (hlk := wm_37_5) (hini := wm_1_5) (hins := wm_37_6) (hsel := wm_37_7) (hcode := wm_37_8) (ho := kM_0) (hci := rfl) (hc13 := by decide) (n := 0) (hd := by decide +kernel) (hr0 := ⟨rfl, rfl⟩) (hroom := ⟨by first | decide | (dsimp only; omega), by first | decide | (dsimp only; omega)⟩) (hlen := rfl) (hst := rfl) (hW := Nat.le_of_ble_eq_true rfl) (hdg := dX12_neighbours_1) (q := 4) (hq := rfl) (fun S1_1 hw hR => ?_)
  refine Go_iconst (q := 5) (v := (0 : Int32)) C dX12_neighbours_4 rfl rfl ?_
  refine Go_istore_n (q := 6) (lv' := [(1, .int (0 : Int32)), (0, .ref (Gad G (0)))]) C rfl dX12_neighbours_5 (by decide) rfl rfl ?_
  refine Go_lvp [1, 0] rfl ?_
  exact g_X12_neighbours_6 C hQ _ hR hw
-- X12_goes
abbrev rm_X12_goes : Room := { frames := 0, cells := 0, slots := 0, locals := 0 }
set_option maxRecDepth 100000 in
set_option maxHeartbeats 4000000 in
theorem g_X12_goes_111 {G : GC} (C : Cx G cX12_goes BIG RX12 6 (some .boolean) rm_X12_goes shM NM) {Q : Int32 → St → Prop} (hQ : QI G RCM Q) (p0 : Int32) (p1 : Int32) (p2 : Int32) (p3 : Int32) (v5 : Int32) {k3 : Int32 → St → Prop} (hk3 : ∀ (v5 : Int32) (S : St), RCM S → k3 v5 S → Go G 6 3 [] [(0, .ref (Gad G (0))), (1, .int p0), (2, .int p1), (3, .int p2), (4, .int p3), (5, .int v5)] S) {S : St} (hR : RCM S) (hw : w_X12_goes_111 p0 p1 p2 p3 Q k3 v5 S) : Go G 6 111 [] [(0, .ref (Gad G (0))), (1, .int p0), (2, .int p1), (3, .int p2), (4, .int p3), (5, .int v5)] S := by
  unfold w_X12_goes_111 at hw
  refine Go_aload_n (q := 112) C 0 rfl dX12_goes_111 rfl ?_
  refine Go_getA (q := 115) (k := 61) C ci12 iw_12 kM_0 (rM_0_61 hR) rfl wm_14_10 rfl dX12_goes_112 rfl ?_
  refine Go_bipush (q := 117) (v := (12 : Int32)) C dX12_goes_115 rfl rfl ?_
  refine Go_iload_n (q := 118) C 1 rfl dX12_goes_117 rfl ?_
  refine Go_imul (q := 119) C dX12_goes_118 rfl ?_
  refine Go_iload (q := 121) C 5 rfl dX12_goes_119 rfl ?_
  refine Go_iadd (q := 122) C dX12_goes_121 rfl ?_
  obtain ⟨hin, hw⟩ := hw
  refine Go_zaload (q := 123) C kM_38 hin dX12_goes_122 rfl ?_
  refine Go_if_eq (t := 148) (q := 126) C hw dX12_goes_123 rfl rfl (fun hw => ?_) (fun hw => ?_)
  · refine Go_iinc2 (q := 151) (kp := 5) (cst := (1 : Int32)) C dX12_goes_148 rfl rfl (by decide) rfl (fun x148_3 e_x148_3 => ?_)
    have hw := hw x148_3 e_x148_3
    refine Go_lve (lv' := [(5, .int x148_3), (0, .ref (Gad G (0))), (1, .int p0), (2, .int p1), (3, .int p2), (4, .int p3)]) rfl ?_
    refine Go_goto (q := 3) C dX12_goes_151 rfl ?_
    refine Go_lvp [1, 2, 3, 4, 5, 0] rfl ?_
    exact hk3 _ _ hR hw
  · refine Go_aload_n (q := 127) C 0 rfl dX12_goes_126 rfl ?_
    refine Go_getA (q := 130) (k := 24) C ci12 iw_12 kM_0 (rM_0_24 hR) rfl wm_13_5 rfl dX12_goes_127 rfl ?_
    refine Go_bipush (q := 132) (v := (12 : Int32)) C dX12_goes_130 rfl rfl ?_
    refine Go_iload_n (q := 133) C 2 rfl dX12_goes_132 rfl ?_
    refine Go_imul (q := 134) C dX12_goes_133 rfl ?_
    refine Go_aload_n (q := 135) C 0 rfl dX12_goes_134 rfl ?_
    refine Go_getA (q := 138) (k := 62) C ci12 iw_12 kM_0 (rM_0_62 hR) rfl wm_14_11 rfl dX12_goes_135 rfl ?_
    refine Go_iload (q := 140) C 5 rfl dX12_goes_138 rfl ?_
    obtain ⟨hin, hw⟩ := hw
    refine Go_iaload (q := 141) C kM_39 hin dX12_goes_140 rfl ?_
    refine Go_iadd (q := 142) C dX12_goes_141 rfl ?_
    obtain ⟨hin, hw⟩ := hw
    refine Go_zaload (q := 143) C kM_9 hin dX12_goes_142 rfl ?_
    refine Go_if_eq (t := 148) (q := 146) C hw dX12_goes_143 rfl rfl (fun hw => ?_) (fun hw => ?_)
    · refine Go_iinc2 (q := 151) (kp := 5) (cst := (1 : Int32)) C dX12_goes_148 rfl rfl (by decide) rfl (fun x148_4 e_x148_4 => ?_)
      have hw := hw x148_4 e_x148_4
      refine Go_lve (lv' := [(5, .int x148_4), (0, .ref (Gad G (0))), (1, .int p0), (2, .int p1), (3, .int p2), (4, .int p3)]) rfl ?_
      refine Go_goto (q := 3) C dX12_goes_151 rfl ?_
      refine Go_lvp [1, 2, 3, 4, 5, 0] rfl ?_
      exact hk3 _ _ hR hw
    · refine Go_iconst (q := 147) (v := (0 : Int32)) C dX12_goes_146 rfl rfl ?_
      exact Go_zret C hQ hR rfl hw dX12_goes_147
set_option maxRecDepth 100000 in
set_option maxHeartbeats 4000000 in
theorem g_X12_goes_71 {G : GC} (C : Cx G cX12_goes BIG RX12 6 (some .boolean) rm_X12_goes shM NM) {Q : Int32 → St → Prop} (hQ : QI G RCM Q) (p0 : Int32) (p1 : Int32) (p2 : Int32) (p3 : Int32) (v5 : Int32) {k3 : Int32 → St → Prop} (hk3 : ∀ (v5 : Int32) (S : St), RCM S → k3 v5 S → Go G 6 3 [] [(0, .ref (Gad G (0))), (1, .int p0), (2, .int p1), (3, .int p2), (4, .int p3), (5, .int v5)] S) {S : St} (hR : RCM S) (hw : w_X12_goes_71 p0 p1 p2 p3 Q k3 v5 S) : Go G 6 71 [] [(0, .ref (Gad G (0))), (1, .int p0), (2, .int p1), (3, .int p2), (4, .int p3), (5, .int v5)] S := by
  unfold w_X12_goes_71 at hw
  refine Go_iload (q := 73) C 4 rfl dX12_goes_71 rfl ?_
  refine Go_if_eq (t := 148) (q := 76) C hw dX12_goes_73 rfl rfl (fun hw => ?_) (fun hw => ?_)
  · refine Go_iinc2 (q := 151) (kp := 5) (cst := (1 : Int32)) C dX12_goes_148 rfl rfl (by decide) rfl (fun x148_2 e_x148_2 => ?_)
    have hw := hw x148_2 e_x148_2
    refine Go_lve (lv' := [(5, .int x148_2), (0, .ref (Gad G (0))), (1, .int p0), (2, .int p1), (3, .int p2), (4, .int p3)]) rfl ?_
    refine Go_goto (q := 3) C dX12_goes_151 rfl ?_
    refine Go_lvp [1, 2, 3, 4, 5, 0] rfl ?_
    exact hk3 _ _ hR hw
  · refine Go_aload_n (q := 77) C 0 rfl dX12_goes_76 rfl ?_
    refine Go_getA (q := 80) (k := 61) C ci12 iw_12 kM_0 (rM_0_61 hR) rfl wm_14_10 rfl dX12_goes_77 rfl ?_
    refine Go_bipush (q := 82) (v := (12 : Int32)) C dX12_goes_80 rfl rfl ?_
    refine Go_iload (q := 84) C 5 rfl dX12_goes_82 rfl ?_
    refine Go_imul (q := 85) C dX12_goes_84 rfl ?_
    refine Go_iload_n (q := 86) C 1 rfl dX12_goes_85 rfl ?_
    refine Go_iadd (q := 87) C dX12_goes_86 rfl ?_
    obtain ⟨hin, hw⟩ := hw
    refine Go_zaload (q := 88) C kM_38 hin dX12_goes_87 rfl ?_
    refine Go_if_eq (t := 111) (q := 91) C hw dX12_goes_88 rfl rfl (fun hw => ?_) (fun hw => ?_)
    · refine Go_lvp [0, 1, 2, 3, 4, 5] rfl ?_
      exact g_X12_goes_111 C hQ p0 p1 p2 p3 _ hk3 hR hw
    · refine Go_aload_n (q := 92) C 0 rfl dX12_goes_91 rfl ?_
      refine Go_getA (q := 95) (k := 24) C ci12 iw_12 kM_0 (rM_0_24 hR) rfl wm_13_5 rfl dX12_goes_92 rfl ?_
      refine Go_bipush (q := 97) (v := (12 : Int32)) C dX12_goes_95 rfl rfl ?_
      refine Go_aload_n (q := 98) C 0 rfl dX12_goes_97 rfl ?_
      refine Go_getA (q := 101) (k := 62) C ci12 iw_12 kM_0 (rM_0_62 hR) rfl wm_14_11 rfl dX12_goes_98 rfl ?_
      refine Go_iload (q := 103) C 5 rfl dX12_goes_101 rfl ?_
      obtain ⟨hin, hw⟩ := hw
      refine Go_iaload (q := 104) C kM_39 hin dX12_goes_103 rfl ?_
      refine Go_imul (q := 105) C dX12_goes_104 rfl ?_
      refine Go_iload_n (q := 106) C 2 rfl dX12_goes_105 rfl ?_
      refine Go_iadd (q := 107) C dX12_goes_106 rfl ?_
      obtain ⟨hin, hw⟩ := hw
      refine Go_zaload (q := 108) C kM_9 hin dX12_goes_107 rfl ?_
      refine Go_if_ne (t := 146) (q := 111) C hw dX12_goes_108 rfl rfl (fun hw => ?_) (fun hw => ?_)
      · refine Go_lvp [0, 1, 2, 3, 4, 5] rfl ?_
        exact g_X12_goes_111 C hQ p0 p1 p2 p3 _ hk3 hR hw
      · refine Go_iconst (q := 147) (v := (0 : Int32)) C dX12_goes_146 rfl rfl ?_
        exact Go_zret C hQ hR rfl hw dX12_goes_147
set_option maxRecDepth 100000 in
set_option maxHeartbeats 4000000 in
theorem g_X12_goes_3 {G : GC} (C : Cx G cX12_goes BIG RX12 6 (some .boolean) rm_X12_goes shM NM) {Q : Int32 → St → Prop} (hQ : QI G RCM Q) (p0 : Int32) (p1 : Int32) (p2 : Int32) (p3 : Int32) (v5 : Int32) {S : St} (hR : RCM S) (hw : w_X12_goes_3 p0 p1 p2 p3 Q v5 S) : Go G 6 3 [] [(0, .ref (Gad G (0))), (1, .int p0), (2, .int p1), (3, .int p2), (4, .int p3), (5, .int v5)] S := by
  obtain ⟨n, hw⟩ := hw
  induction n generalizing v5 S with
  | zero => exact hw.elim
  | succ n ih =>
    have hw : b_X12_goes_3 p0 p1 p2 p3 Q (lpn (fun _ _ => False) (b_X12_goes_3 p0 p1 p2 p3 Q) n) v5 S := hw
    generalize lpn (fun _ _ => False) (b_X12_goes_3 p0 p1 p2 p3 Q) n = kf at hw ih
    have hk3 := fun (v5 : Int32) (S : St) (hR : RCM S) hw => ih v5 hR hw
    unfold b_X12_goes_3 at hw
    refine Go_iload (q := 5) C 5 rfl dX12_goes_3 rfl ?_
    refine Go_iload_n (q := 6) C 1 rfl dX12_goes_5 rfl ?_
    refine Go_icmp_ge (t := 154) (q := 9) C hw dX12_goes_6 rfl rfl (fun hw => ?_) (fun hw => ?_)
    · refine Go_iconst (q := 155) (v := (1 : Int32)) C dX12_goes_154 rfl rfl ?_
      exact Go_zret C hQ hR rfl hw dX12_goes_155
    · refine Go_iload_n (q := 10) C 3 rfl dX12_goes_9 rfl ?_
      refine Go_iload (q := 12) C 5 rfl dX12_goes_10 rfl ?_
      refine Go_ishr (q := 13) C dX12_goes_12 rfl ?_
      refine Go_iconst (q := 14) (v := (1 : Int32)) C dX12_goes_13 rfl rfl ?_
      refine Go_iand (q := 15) C dX12_goes_14 rfl ?_
      refine Go_if_ne (t := 21) (q := 18) C hw dX12_goes_15 rfl rfl (fun hw => ?_) (fun hw => ?_)
      · refine Go_goto (q := 148) C dX12_goes_18 rfl ?_
        refine Go_iinc2 (q := 151) (kp := 5) (cst := (1 : Int32)) C dX12_goes_148 rfl rfl (by decide) rfl (fun x148_1 e_x148_1 => ?_)
        have hw := hw x148_1 e_x148_1
        refine Go_lve (lv' := [(5, .int x148_1), (0, .ref (Gad G (0))), (1, .int p0), (2, .int p1), (3, .int p2), (4, .int p3)]) rfl ?_
        refine Go_goto (q := 3) C dX12_goes_151 rfl ?_
        refine Go_lvp [1, 2, 3, 4, 5, 0] rfl ?_
        exact hk3 _ _ hR hw
      · refine Go_aload_n (q := 22) C 0 rfl dX12_goes_21 rfl ?_
        refine Go_getA (q := 25) (k := 62) C ci12 iw_12 kM_0 (rM_0_62 hR) rfl wm_14_11 rfl dX12_goes_22 rfl ?_
        refine Go_iload (q := 27) C 5 rfl dX12_goes_25 rfl ?_
        obtain ⟨hin, hw⟩ := hw
        refine Go_iaload (q := 28) C kM_39 hin dX12_goes_27 rfl ?_
        refine Go_iload_n (q := 29) C 2 rfl dX12_goes_28 rfl ?_
        refine Go_icmp_eq (t := 69) (q := 32) C hw dX12_goes_29 rfl rfl (fun hw => ?_) (fun hw => ?_)
        · refine Go_iconst (q := 70) (v := (0 : Int32)) C dX12_goes_69 rfl rfl ?_
          exact Go_zret C hQ hR rfl hw dX12_goes_70
        · refine Go_aload_n (q := 33) C 0 rfl dX12_goes_32 rfl ?_
          refine Go_getA (q := 36) (k := 60) C ci12 iw_12 kM_0 (rM_0_60 hR) rfl wm_14_9 rfl dX12_goes_33 rfl ?_
          refine Go_iload (q := 38) C 5 rfl dX12_goes_36 rfl ?_
          obtain ⟨hin, hw⟩ := hw
          refine Go_iaload (q := 39) C kM_37 hin dX12_goes_38 rfl ?_
          refine Go_aload_n (q := 40) C 0 rfl dX12_goes_39 rfl ?_
          refine Go_getA (q := 43) (k := 60) C ci12 iw_12 kM_0 (rM_0_60 hR) rfl wm_14_9 rfl dX12_goes_40 rfl ?_
          refine Go_iload_n (q := 44) C 1 rfl dX12_goes_43 rfl ?_
          obtain ⟨hin, hw⟩ := hw
          refine Go_iaload (q := 45) C kM_37 hin dX12_goes_44 rfl ?_
          refine Go_icmp_ne (t := 71) (q := 48) C hw dX12_goes_45 rfl rfl (fun hw => ?_) (fun hw => ?_)
          · refine Go_aload_n (q := 49) C 0 rfl dX12_goes_48 rfl ?_
            refine Go_getA (q := 52) (k := 21) C ci12 iw_12 kM_0 (rM_0_21 hR) rfl wm_13_1 rfl dX12_goes_49 rfl ?_
            refine Go_aload_n (q := 53) C 0 rfl dX12_goes_52 rfl ?_
            refine Go_getA (q := 56) (k := 62) C ci12 iw_12 kM_0 (rM_0_62 hR) rfl wm_14_11 rfl dX12_goes_53 rfl ?_
            refine Go_iload (q := 58) C 5 rfl dX12_goes_56 rfl ?_
            obtain ⟨hin, hw⟩ := hw
            refine Go_iaload (q := 59) C kM_39 hin dX12_goes_58 rfl ?_
            obtain ⟨hin, hw⟩ := hw
            refine Go_iaload (q := 60) C kM_6 hin dX12_goes_59 rfl ?_
            refine Go_aload_n (q := 61) C 0 rfl dX12_goes_60 rfl ?_
            refine Go_getA (q := 64) (k := 21) C ci12 iw_12 kM_0 (rM_0_21 hR) rfl wm_13_1 rfl dX12_goes_61 rfl ?_
            refine Go_iload_n (q := 65) C 2 rfl dX12_goes_64 rfl ?_
            obtain ⟨hin, hw⟩ := hw
            refine Go_iaload (q := 66) C kM_6 hin dX12_goes_65 rfl ?_
            refine Go_icmp_eq (t := 71) (q := 69) C hw dX12_goes_66 rfl rfl (fun hw => ?_) (fun hw => ?_)
            · refine Go_lvp [0, 1, 2, 3, 4, 5] rfl ?_
              exact g_X12_goes_71 C hQ p0 p1 p2 p3 _ hk3 hR hw
            · refine Go_iconst (q := 70) (v := (0 : Int32)) C dX12_goes_69 rfl rfl ?_
              exact Go_zret C hQ hR rfl hw dX12_goes_70
          · refine Go_lvp [0, 1, 2, 3, 4, 5] rfl ?_
            exact g_X12_goes_71 C hQ p0 p1 p2 p3 _ hk3 hR hw
set_option maxRecDepth 100000 in
set_option maxHeartbeats 4000000 in
theorem c_X12_goes (l : Launch) {p0 : Int32} {p1 : Int32} {p2 : Int32} {p3 : Int32} {S : St} {Q : Int32 → St → Prop} (hR : RCM S) (hw : w_X12_goes p0 p1 p2 p3 S Q) : MetI l yX12_goes (wB yX12_goes cX12_goes 6 (some .boolean)) rm_X12_goes shM NM RCM (fun ad => [.ref (ad (0)), .int p0, .int p1, .int p2, .int p3]) S Q := by
  refine MetI_of (cc := cX12_goes) (maxL := 6) (ret := (some .boolean)) (plainFor_of_name (by decide)) (fun _ => Nat.le_of_ble_eq_true rfl) (fun G C hl hQ => ?_)
  subst hl
  have C : Cx G cX12_goes BIG RX12 6 (some .boolean) rm_X12_goes shM NM := C
  show Go G 6 0 [] [(0, .ref (Gad G (0))), (1, .int p0), (2, .int p1), (3, .int p2), (4, .int p3)] S
  unfold w_X12_goes at hw
  refine Go_iconst (q := 1) (v := (0 : Int32)) C dX12_goes_0 rfl rfl ?_
  refine Go_istore (q := 3) (lv' := [(5, .int (0 : Int32)), (0, .ref (Gad G (0))), (1, .int p0), (2, .int p1), (3, .int p2), (4, .int p3)]) C dX12_goes_1 (by decide) rfl rfl ?_
  refine Go_lvp [1, 2, 3, 4, 5, 0] rfl ?_
  exact g_X12_goes_3 C hQ p0 p1 p2 p3 _ hR hw
-- X12_gives
abbrev rm_X12_gives (d : Nat) : Room := { frames := d * 16, cells := 0, slots := 0, locals := d * 700 }

set_option maxRecDepth 100000 in
set_option maxHeartbeats 4000000 in
theorem g_X12_gives_11 {G : GC} {d : Nat} (C : Cx G cX12_gives BIG RX12 7 (some .long) (rm_X12_gives (d + 1)) shM NM) {Q : Int64 → St → Prop} (hQ : QL G RCM Q) {rec : Int32 → Int32 → Int32 → St → (Int64 → St → Prop) → Prop} (hrec : ∀ {p0 : Int32} {p1 : Int32} {p2 : Int32} {S : St} {Q : Int64 → St → Prop}, RCM S → rec p0 p1 p2 S Q → MetL (Gl G) yX12_gives (wB yX12_gives cX12_gives 7 (some .long)) (rm_X12_gives d) shM NM RCM (fun ad => [.ref (ad (0)), .int p0, .int p1, .int p2]) S Q) (v4 : Int32) {S : St} (hR : RCM S) (hw : w_X12_gives_11 Q v4 S) : Go G 7 11 [] [(0, .ref (Gad G (0))), (4, .int v4)] S := by
  obtain ⟨n, hw⟩ := hw
  induction n generalizing v4 S with
  | zero => exact hw.elim
  | succ n ih =>
    have hw : b_X12_gives_11 Q (lpn (fun _ _ => False) (b_X12_gives_11 Q) n) v4 S := hw
    generalize lpn (fun _ _ => False) (b_X12_gives_11 Q) n = kf at hw ih
    have hk11 := fun (v4 : Int32) (S : St) (hR : RCM S) hw => ih v4 hR hw
    unfold b_X12_gives_11 at hw
    refine Go_iload (q := 13) C 1 rfl dX12_gives_11 rfl ?_
    refine Go_bipush (q := 15) (v := (12 : Int32)) C dX12_gives_13 rfl rfl ?_
    refine Go_icmp_ge (t := 45) (q := 18) C hw dX12_gives_15 rfl rfl (fun hw => ?_) (fun hw => ?_)
    · refine Go_aload_n (q := 46) C 0 rfl dX12_gives_45 rfl ?_
      refine Go_iconst (q := 47) (v := (0 : Int32)) C dX12_gives_46 rfl rfl ?_
      refine Go_putI (q := 50) (k := 64) C ci12 iw_12 kM_0 rfl wm_41_19 rfl rfl (ci12.2.2.2.1 64 (by decide)) rfl rfl dX12_gives_47 rfl ?_
      refine Go_S (fun S47_1 e_S47_1 => ?_)
      have hw := hw S47_1 e_S47_1
      have hR := rcM e_S47_1 hR
      refine Go_lconst (q := 51) (v := (1 : Int64)) C dX12_gives_50 rfl rfl ?_
      exact Go_lret C hQ hR hw dX12_gives_51
    · refine Go_aload_n (q := 19) C 0 rfl dX12_gives_18 rfl ?_
      refine Go_getI (q := 22) (k := 64) C ci12 iw_12 kM_0 rfl wm_41_19 rfl dX12_gives_19 rfl ?_
      refine Go_if_eq (t := 45) (q := 25) C hw dX12_gives_22 rfl rfl (fun hw => ?_) (fun hw => ?_)
      · refine Go_aload_n (q := 46) C 0 rfl dX12_gives_45 rfl ?_
        refine Go_iconst (q := 47) (v := (0 : Int32)) C dX12_gives_46 rfl rfl ?_
        refine Go_putI (q := 50) (k := 64) C ci12 iw_12 kM_0 rfl wm_41_19 rfl rfl (ci12.2.2.2.1 64 (by decide)) rfl rfl dX12_gives_47 rfl ?_
        refine Go_S (fun S47_2 e_S47_2 => ?_)
        have hw := hw S47_2 e_S47_2
        have hR := rcM e_S47_2 hR
        refine Go_lconst (q := 51) (v := (1 : Int64)) C dX12_gives_50 rfl rfl ?_
        exact Go_lret C hQ hR hw dX12_gives_51
      · refine Go_aload_n (q := 26) C 0 rfl dX12_gives_25 rfl ?_
        refine Go_getA (q := 29) (k := 63) C ci12 iw_12 kM_0 (rM_0_63 hR) rfl wm_14_12 rfl dX12_gives_26 rfl ?_
        refine Go_iload (q := 31) C 1 rfl dX12_gives_29 rfl ?_
        refine Go_aload_n (q := 32) C 0 rfl dX12_gives_31 rfl ?_
        refine Go_getA (q := 35) (k := 62) C ci12 iw_12 kM_0 (rM_0_62 hR) rfl wm_14_11 rfl dX12_gives_32 rfl ?_
        refine Go_iload (q := 37) C 1 rfl dX12_gives_35 rfl ?_
        obtain ⟨hin, hw⟩ := hw
        refine Go_iaload (q := 38) C kM_39 hin dX12_gives_37 rfl ?_
        obtain ⟨hin, hw⟩ := hw
        refine Go_iastore (q := 39) C kM_40 hin dX12_gives_38 rfl ?_
        refine Go_S (fun S38_3 e_S38_3 => ?_)
        have hw := hw S38_3 e_S38_3
        have hR := rcM e_S38_3 hR
        refine Go_iinc2 (q := 42) (kp := 1) (cst := (1 : Int32)) C dX12_gives_39 rfl rfl (by decide) rfl (fun x39_4 e_x39_4 => ?_)
        have hw := hw x39_4 e_x39_4
        refine Go_lve (lv' := [(4, .int x39_4), (0, .ref (Gad G (0)))]) rfl ?_
        refine Go_goto (q := 11) C dX12_gives_42 rfl ?_
        refine Go_lvp [1, 0] rfl ?_
        exact hk11 _ _ hR hw
set_option maxRecDepth 100000 in
set_option maxHeartbeats 4000000 in
theorem g_X12_gives_76 {G : GC} {d : Nat} (C : Cx G cX12_gives BIG RX12 7 (some .long) (rm_X12_gives (d + 1)) shM NM) {Q : Int64 → St → Prop} (hQ : QL G RCM Q) {rec : Int32 → Int32 → Int32 → St → (Int64 → St → Prop) → Prop} (hrec : ∀ {p0 : Int32} {p1 : Int32} {p2 : Int32} {S : St} {Q : Int64 → St → Prop}, RCM S → rec p0 p1 p2 S Q → MetL (Gl G) yX12_gives (wB yX12_gives cX12_gives 7 (some .long)) (rm_X12_gives d) shM NM RCM (fun ad => [.ref (ad (0)), .int p0, .int p1, .int p2]) S Q) (p0 : Int32) (p1 : Int32) (p2 : Int32) (v4 : Int64) (v6 : Int32) {S : St} (hR : RCM S) (hw : w_X12_gives_76 p0 p1 p2 rec Q v4 v6 S) : Go G 7 76 [] [(0, .ref (Gad G (0))), (1, .int p0), (2, .int p1), (3, .int p2), (4, .long v4), (6, .int v6)] S := by
  obtain ⟨n, hw⟩ := hw
  induction n generalizing v4 v6 S with
  | zero => exact hw.elim
  | succ n ih =>
    have hw : b_X12_gives_76 p0 p1 p2 rec Q (lpn (fun _ _ _ => False) (b_X12_gives_76 p0 p1 p2 rec Q) n) v4 v6 S := hw
    generalize lpn (fun _ _ _ => False) (b_X12_gives_76 p0 p1 p2 rec Q) n = kf at hw ih
    have hk76 := fun (v4 : Int64) (v6 : Int32) (S : St) (hR : RCM S) hw => ih v4 v6 hR hw
    unfold b_X12_gives_76 at hw
    refine Go_iload (q := 78) C 5 rfl dX12_gives_76 rfl ?_
    refine Go_aload_n (q := 79) C 0 rfl dX12_gives_78 rfl ?_
    refine Go_getI (q := 82) (k := 15) C ci12 iw_12 kM_0 rfl wm_25_1 rfl dX12_gives_79 rfl ?_
    refine Go_icmp_ge (t := 142) (q := 85) C hw dX12_gives_82 rfl rfl (fun hw => ?_) (fun hw => ?_)
    · refine Go_lload (q := 144) C 4 rfl dX12_gives_142 rfl ?_
      exact Go_lret C hQ hR hw dX12_gives_144
    · refine Go_aload_n (q := 86) C 0 rfl dX12_gives_85 rfl ?_
      refine Go_iload_n (q := 87) C 1 rfl dX12_gives_86 rfl ?_
      refine Go_iload (q := 89) C 5 rfl dX12_gives_87 rfl ?_
      refine Go_iload_n (q := 90) C 2 rfl dX12_gives_89 rfl ?_
      refine Go_iconst (q := 91) (v := (1 : Int32)) C dX12_gives_90 rfl rfl ?_
      refine Go_callV_I (av := (fun ad => [.int p0, .int v6, .int p1, .int (1 : Int32)])) (st := []) (C := C) (hM := c_X12_goes (Gl G) hR hw) (hlk := wm_42_0) (hini := wm_1_5) (hins := wm_42_1) (hsel := wm_42_2) (hcode := wm_42_3) (ho := kM_0) (hci := rfl) (hc13 := by decide) (n := 4) (hd := by decide +kernel) (hr0 := ⟨rfl, rfl⟩) (hroom := ⟨by first | decide | (dsimp only; omega), by first | decide | (dsimp only; omega)⟩) (hlen := rfl) (hst := rfl) (hW := Nat.le_of_ble_eq_true rfl) (hdg := dX12_gives_91) (q := 94) (hq := rfl) (fun r91_8 S91_7 hw hR => ?_)
      refine Go_if_ne (t := 100) (q := 97) C hw dX12_gives_94 rfl rfl (fun hw => ?_) (fun hw => ?_)
      · refine Go_goto (q := 136) C dX12_gives_97 rfl ?_
        refine Go_iinc2 (q := 139) (kp := 5) (cst := (1 : Int32)) C dX12_gives_136 rfl rfl (by decide) rfl (fun x136_9 e_x136_9 => ?_)
        have hw := hw x136_9 e_x136_9
        refine Go_lve (lv' := [(6, .int x136_9), (0, .ref (Gad G (0))), (1, .int p0), (2, .int p1), (3, .int p2), (4, .long v4)]) rfl ?_
        refine Go_goto (q := 76) C dX12_gives_139 rfl ?_
        refine Go_lvp [1, 2, 3, 4, 5, 0] rfl ?_
        exact hk76 _ _ _ hR hw
      · refine Go_aload_n (q := 101) C 0 rfl dX12_gives_100 rfl ?_
        refine Go_getA (q := 104) (k := 62) C ci12 iw_12 kM_0 (rM_0_62 hR) rfl wm_14_11 rfl dX12_gives_101 rfl ?_
        refine Go_iload_n (q := 105) C 1 rfl dX12_gives_104 rfl ?_
        refine Go_iload (q := 107) C 5 rfl dX12_gives_105 rfl ?_
        obtain ⟨hin, hw⟩ := hw
        refine Go_iastore (q := 108) C kM_39 hin dX12_gives_107 rfl ?_
        refine Go_S (fun S107_10 e_S107_10 => ?_)
        have hw := hw S107_10 e_S107_10
        have hR := rcM e_S107_10 hR
        refine Go_lload (q := 110) C 4 rfl dX12_gives_108 rfl ?_
        refine Go_aload_n (q := 111) C 0 rfl dX12_gives_110 rfl ?_
        refine Go_iload_n (q := 112) C 1 rfl dX12_gives_111 rfl ?_
        refine Go_iconst (q := 113) (v := (1 : Int32)) C dX12_gives_112 rfl rfl ?_
        refine Go_iadd (q := 114) C dX12_gives_113 rfl ?_
        refine Go_iload_n (q := 115) C 2 rfl dX12_gives_114 rfl ?_
        refine Go_iload_n (q := 116) C 3 rfl dX12_gives_115 rfl ?_
        refine Go_callV_L (av := (fun ad => [.int (p0 + (1 : Int32)), .int p1, .int p2])) (st := [.long v4]) (C := C) (hM := hrec hR hw) (hlk := wm_41_20) (hini := wm_1_5) (hins := wm_41_21) (hsel := wm_41_22) (hcode := wm_41_23) (ho := kM_0) (hci := rfl) (hc13 := by decide) (n := 3) (hd := by decide +kernel) (hr0 := ⟨rfl, rfl⟩) (hroom := ⟨by first | decide | (dsimp only; omega), by first | decide | (dsimp only; omega)⟩) (hlen := rfl) (hst := rfl) (hW := Nat.le_of_ble_eq_true rfl) (hdg := dX12_gives_116) (q := 119) (hq := rfl) (fun r116_12 S116_11 hw hR => ?_)
        refine Go_ladd (q := 120) C dX12_gives_119 rfl ?_
        refine Go_topl (fun x120_13 e_x120_13 => ?_)
        have hw := hw x120_13 e_x120_13
        refine Go_lstore (q := 122) (lv' := [(4, .long x120_13), (0, .ref (Gad G (0))), (1, .int p0), (2, .int p1), (3, .int p2), (6, .int v6)]) C dX12_gives_120 (by decide) rfl rfl ?_
        refine Go_iload_n (q := 123) C 4 rfl dX12_gives_122 rfl ?_
        refine Go_if_eq (t := 136) (q := 126) C hw dX12_gives_123 rfl rfl (fun hw => ?_) (fun hw => ?_)
        · refine Go_iinc2 (q := 139) (kp := 5) (cst := (1 : Int32)) C dX12_gives_136 rfl rfl (by decide) rfl (fun x136_14 e_x136_14 => ?_)
          have hw := hw x136_14 e_x136_14
          refine Go_lve (lv' := [(6, .int x136_14), (4, .long x120_13), (0, .ref (Gad G (0))), (1, .int p0), (2, .int p1), (3, .int p2)]) rfl ?_
          refine Go_goto (q := 76) C dX12_gives_139 rfl ?_
          refine Go_lvp [2, 3, 4, 5, 1, 0] rfl ?_
          exact hk76 _ _ _ hR hw
        · refine Go_lload (q := 128) C 0 rfl dX12_gives_126 rfl ?_
          refine Go_lconst (q := 129) (v := (0 : Int64)) C dX12_gives_128 rfl rfl ?_
          refine Go_lcmp_le (t := 136) (q := 130) (q2 := 133) C hw dX12_gives_129 rfl dX12_gives_130 rfl rfl (fun hw => ?_) (fun hw => ?_)
          · refine Go_lload (q := 135) C 0 rfl dX12_gives_133 rfl ?_
            exact Go_lret C hQ hR hw dX12_gives_135
          · refine Go_iinc2 (q := 139) (kp := 5) (cst := (1 : Int32)) C dX12_gives_136 rfl rfl (by decide) rfl (fun x136_15 e_x136_15 => ?_)
            have hw := hw x136_15 e_x136_15
            refine Go_lve (lv' := [(6, .int x136_15), (4, .long x120_13), (0, .ref (Gad G (0))), (1, .int p0), (2, .int p1), (3, .int p2)]) rfl ?_
            refine Go_goto (q := 76) C dX12_gives_139 rfl ?_
            refine Go_lvp [2, 3, 4, 5, 1, 0] rfl ?_
            exact hk76 _ _ _ hR hw
set_option maxRecDepth 100000 in
set_option maxHeartbeats 4000000 in
theorem h_X12_gives (l : Launch) {d : Nat} {rec : Int32 → Int32 → Int32 → St → (Int64 → St → Prop) → Prop} (hrec : ∀ {p0 : Int32} {p1 : Int32} {p2 : Int32} {S : St} {Q : Int64 → St → Prop}, RCM S → rec p0 p1 p2 S Q → MetL l yX12_gives (wB yX12_gives cX12_gives 7 (some .long)) (rm_X12_gives d) shM NM RCM (fun ad => [.ref (ad (0)), .int p0, .int p1, .int p2]) S Q) {p0 : Int32} {p1 : Int32} {p2 : Int32} {S : St} {Q : Int64 → St → Prop} (hR : RCM S) (hw : u_X12_gives rec p0 p1 p2 S Q) : MetL l yX12_gives (wB yX12_gives cX12_gives 7 (some .long)) (rm_X12_gives (d + 1)) shM NM RCM (fun ad => [.ref (ad (0)), .int p0, .int p1, .int p2]) S Q := by
  refine MetL_of (cc := cX12_gives) (maxL := 7) (ret := (some .long)) (plainFor_of_name (by decide)) (fun _ => Nat.le_of_ble_eq_true rfl) (fun G C hl hQ => ?_)
  subst hl
  have C : Cx G cX12_gives BIG RX12 7 (some .long) (rm_X12_gives (d + 1)) shM NM := C
  show Go G 7 0 [] [(0, .ref (Gad G (0))), (1, .int p0), (2, .int p1), (3, .int p2)] S
  unfold u_X12_gives at hw
  refine Go_iload_n (q := 1) C 1 rfl dX12_gives_0 rfl ?_
  refine Go_aload_n (q := 2) C 0 rfl dX12_gives_1 rfl ?_
  refine Go_getI (q := 5) (k := 10) C ci12 iw_12 kM_0 rfl wm_14_20 rfl dX12_gives_2 rfl ?_
  refine Go_icmp_ne (t := 52) (q := 8) C hw dX12_gives_5 rfl rfl (fun hw => ?_) (fun hw => ?_)
  · refine Go_iconst (q := 9) (v := (0 : Int32)) C dX12_gives_8 rfl rfl ?_
    refine Go_istore (q := 11) (lv' := [(4, .int (0 : Int32)), (0, .ref (Gad G (0))), (1, .int p0), (2, .int p1), (3, .int p2)]) C dX12_gives_9 (by decide) rfl rfl ?_
    refine Go_lvp [1, 0] rfl ?_
    exact g_X12_gives_11 C hQ @hrec _ hR hw
  · refine Go_iload_n (q := 53) C 2 rfl dX12_gives_52 rfl ?_
    refine Go_iload_n (q := 54) C 1 rfl dX12_gives_53 rfl ?_
    refine Go_ishr (q := 55) C dX12_gives_54 rfl ?_
    refine Go_iconst (q := 56) (v := (1 : Int32)) C dX12_gives_55 rfl rfl ?_
    refine Go_iand (q := 57) C dX12_gives_56 rfl ?_
    refine Go_if_ne (t := 70) (q := 60) C hw dX12_gives_57 rfl rfl (fun hw => ?_) (fun hw => ?_)
    · refine Go_aload_n (q := 61) C 0 rfl dX12_gives_60 rfl ?_
      refine Go_iload_n (q := 62) C 1 rfl dX12_gives_61 rfl ?_
      refine Go_iconst (q := 63) (v := (1 : Int32)) C dX12_gives_62 rfl rfl ?_
      refine Go_iadd (q := 64) C dX12_gives_63 rfl ?_
      refine Go_iload_n (q := 65) C 2 rfl dX12_gives_64 rfl ?_
      refine Go_iload_n (q := 66) C 3 rfl dX12_gives_65 rfl ?_
      refine Go_callV_L (av := (fun ad => [.int (p0 + (1 : Int32)), .int p1, .int p2])) (st := []) (C := C) (hM := hrec  hR hw) (hlk := wm_41_20) (hini := wm_1_5) (hins := wm_41_21) (hsel := wm_41_22) (hcode := wm_41_23) (ho := kM_0) (hci := rfl) (hc13 := by decide) (n := 3) (hd := by decide +kernel) (hr0 := ⟨rfl, rfl⟩) (hroom := ⟨by first | decide | (dsimp only; omega), by first | decide | (dsimp only; omega)⟩) (hlen := rfl) (hst := rfl) (hW := Nat.le_of_ble_eq_true rfl) (hdg := dX12_gives_66) (q := 69) (hq := rfl) (fun r66_6 S66_5 hw hR => ?_)
      exact Go_lret C hQ hR hw dX12_gives_69
    · refine Go_lconst (q := 71) (v := (0 : Int64)) C dX12_gives_70 rfl rfl ?_
      refine Go_lstore (q := 73) (lv' := [(4, .long (0 : Int64)), (0, .ref (Gad G (0))), (1, .int p0), (2, .int p1), (3, .int p2)]) C dX12_gives_71 (by decide) rfl rfl ?_
      refine Go_iconst (q := 74) (v := (0 : Int32)) C dX12_gives_73 rfl rfl ?_
      refine Go_istore (q := 76) (lv' := [(6, .int (0 : Int32)), (4, .long (0 : Int64)), (0, .ref (Gad G (0))), (1, .int p0), (2, .int p1), (3, .int p2)]) C dX12_gives_74 (by decide) rfl rfl ?_
      refine Go_lvp [2, 3, 4, 5, 1, 0] rfl ?_
      exact g_X12_gives_76 C hQ @hrec p0 p1 p2 _ _ hR hw
theorem c_X12_gives (l : Launch) : ∀ (d : Nat) {p0 : Int32} {p1 : Int32} {p2 : Int32} {S : St} {Q : Int64 → St → Prop}, RCM S → w_X12_gives d p0 p1 p2 S Q → MetL l yX12_gives (wB yX12_gives cX12_gives 7 (some .long)) (rm_X12_gives d) shM NM RCM (fun ad => [.ref (ad (0)), .int p0, .int p1, .int p2]) S Q := by
  intro d
  induction d with
  | zero => intro _ _ _ _ _ _ hw; exact hw.elim
  | succ d ih => intro p0 p1 p2 S Q hR hw; exact h_X12_gives l (d := d) (rec := w_X12_gives d) @ih  hR hw
-- X12_waysFor
abbrev rm_X12_waysFor : Room := { frames := 513, cells := 0, slots := 0, locals := 22426 }
set_option maxRecDepth 100000 in
set_option maxHeartbeats 4000000 in
theorem c_X12_waysFor (l : Launch) {p0 : Int32} {p1 : Int32} {S : St} {Q : Int64 → St → Prop} (hR : RCM S) (hw : w_X12_waysFor p0 p1 S Q) : MetL l yX12_waysFor (wB yX12_waysFor cX12_waysFor 3 (some .long)) rm_X12_waysFor shM NM RCM (fun ad => [.ref (ad (0)), .int p0, .int p1]) S Q := by
  refine MetL_of (cc := cX12_waysFor) (maxL := 3) (ret := (some .long)) (plainFor_of_name (by decide)) (fun _ => Nat.le_of_ble_eq_true rfl) (fun G C hl hQ => ?_)
  subst hl
  have C : Cx G cX12_waysFor BIG RX12 3 (some .long) rm_X12_waysFor shM NM := C
  show Go G 3 0 [] [(0, .ref (Gad G (0))), (1, .int p0), (2, .int p1)] S
  unfold w_X12_waysFor at hw
  refine Go_aload_n (q := 1) C 0 rfl dX12_waysFor_0 rfl ?_
  refine Go_iconst (q := 2) (v := (1 : Int32)) C dX12_waysFor_1 rfl rfl ?_
  refine Go_putI (q := 5) (k := 64) C ci12 iw_12 kM_0 rfl wm_41_19 rfl rfl (ci12.2.2.2.1 64 (by decide)) rfl rfl dX12_waysFor_2 rfl ?_
  refine Go_S (fun S2_1 e_S2_1 => ?_)
  have hw := hw S2_1 e_S2_1
  have hR := rcM e_S2_1 hR
  refine Go_aload_n (q := 6) C 0 rfl dX12_waysFor_5 rfl ?_
  refine Go_iconst (q := 7) (v := (0 : Int32)) C dX12_waysFor_6 rfl rfl ?_
  refine Go_iload_n (q := 8) C 1 rfl dX12_waysFor_7 rfl ?_
  refine Go_iload_n (q := 9) C 2 rfl dX12_waysFor_8 rfl ?_
  obtain ⟨d9_4, hle_d9_4, hw⟩ := hw
  refine Go_callV_L (av := (fun ad => [.int (0 : Int32), .int p0, .int p1])) (st := []) (C := C) (hM := c_X12_gives (Gl G) d9_4  hR hw) (hlk := wm_41_20) (hini := wm_1_5) (hins := wm_41_21) (hsel := wm_41_22) (hcode := wm_41_23) (ho := kM_0) (hci := rfl) (hc13 := by decide) (n := 3) (hd := by decide +kernel) (hr0 := ⟨rfl, rfl⟩) (hroom := ⟨by first | decide | (dsimp only; omega), by first | decide | (dsimp only; omega)⟩) (hlen := rfl) (hst := rfl) (hW := Nat.le_of_ble_eq_true rfl) (hdg := dX12_waysFor_9) (q := 12) (hq := rfl) (fun r9_3 S9_2 hw hR => ?_)
  exact Go_lret C hQ hR hw dX12_waysFor_12
-- X12_fills
abbrev rm_X12_fills : Room := { frames := 514, cells := 0, slots := 0, locals := 22448 }
set_option maxRecDepth 100000 in
set_option maxHeartbeats 4000000 in
theorem c_X12_fills (l : Launch) {S : St} {Q : Int64 → St → Prop} (hR : RCM S) (hw : w_X12_fills S Q) : MetL l yX12_fills (wB yX12_fills cX12_fills 1 (some .long)) rm_X12_fills shM NM RCM (fun ad => [.ref (ad (0))]) S Q := by
  refine MetL_of (cc := cX12_fills) (maxL := 1) (ret := (some .long)) (plainFor_of_name (by decide)) (fun _ => Nat.le_of_ble_eq_true rfl) (fun G C hl hQ => ?_)
  subst hl
  have C : Cx G cX12_fills BIG RX12 1 (some .long) rm_X12_fills shM NM := C
  show Go G 1 0 [] [(0, .ref (Gad G (0)))] S
  unfold w_X12_fills at hw
  refine Go_aload_n (q := 1) C 0 rfl dX12_fills_0 rfl ?_
  refine Go_iconst (q := 2) (v := (0 : Int32)) C dX12_fills_1 rfl rfl ?_
  refine Go_putI (q := 5) (k := 0) C ci12 iw_12 kM_0 rfl wm_15_14 rfl rfl (ci12.2.2.2.1 0 (by decide)) rfl rfl dX12_fills_2 rfl ?_
  refine Go_S (fun S2_1 e_S2_1 => ?_)
  have hw := hw S2_1 e_S2_1
  have hR := rcM e_S2_1 hR
  refine Go_aload_n (q := 6) C 0 rfl dX12_fills_5 rfl ?_
  refine Go_getI (q := 9) (k := 10) C ci12 iw_12 kM_0 rfl wm_14_20 rfl dX12_fills_6 rfl ?_
  refine Go_bipush (q := 11) (v := (7 : Int32)) C dX12_fills_9 rfl rfl ?_
  refine Go_icmp_le (t := 18) (q := 14) C hw dX12_fills_11 rfl rfl (fun hw => ?_) (fun hw => ?_)
  · refine Go_aload_n (q := 19) C 0 rfl dX12_fills_18 rfl ?_
    refine Go_callV_V (av := (fun ad => [])) (st := []) (C := C) (hM := c_X12_neighbours (Gl G)  hR hw) (hlk := wm_41_11) (hini := wm_1_5) (hins := wm_41_12) (hsel := wm_41_13) (hcode := wm_41_14) (ho := kM_0) (hci := rfl) (hc13 := by decide) (n := 0) (hd := by decide +kernel) (hr0 := ⟨rfl, rfl⟩) (hroom := ⟨by first | decide | (dsimp only; omega), by first | decide | (dsimp only; omega)⟩) (hlen := rfl) (hst := rfl) (hW := Nat.le_of_ble_eq_true rfl) (hdg := dX12_fills_19) (q := 22) (hq := rfl) (fun S19_2 hw hR => ?_)
    refine Go_aload_n (q := 23) C 0 rfl dX12_fills_22 rfl ?_
    refine Go_iconst (q := 24) (v := (1 : Int32)) C dX12_fills_23 rfl rfl ?_
    refine Go_aload_n (q := 25) C 0 rfl dX12_fills_24 rfl ?_
    refine Go_getI (q := 28) (k := 10) C ci12 iw_12 kM_0 rfl wm_14_20 rfl dX12_fills_25 rfl ?_
    refine Go_ishl (q := 29) C dX12_fills_28 rfl ?_
    refine Go_iconst (q := 30) (v := (1 : Int32)) C dX12_fills_29 rfl rfl ?_
    refine Go_isub (q := 31) C dX12_fills_30 rfl ?_
    refine Go_iconst (q := 32) (v := (0 : Int32)) C dX12_fills_31 rfl rfl ?_
    refine Go_callV_L (av := (fun ad => [.int (((1 : Int32) <<< ((gI S19_2 0 10) &&& 31)) - (1 : Int32)), .int (0 : Int32)])) (st := []) (C := C) (hM := c_X12_waysFor (Gl G)  hR hw) (hlk := wm_41_15) (hini := wm_1_5) (hins := wm_41_16) (hsel := wm_41_17) (hcode := wm_41_18) (ho := kM_0) (hci := rfl) (hc13 := by decide) (n := 2) (hd := by decide +kernel) (hr0 := ⟨rfl, rfl⟩) (hroom := ⟨by first | decide | (dsimp only; omega), by first | decide | (dsimp only; omega)⟩) (hlen := rfl) (hst := rfl) (hW := Nat.le_of_ble_eq_true rfl) (hdg := dX12_fills_32) (q := 35) (hq := rfl) (fun r32_4 S32_3 hw hR => ?_)
    exact Go_lret C hQ hR hw dX12_fills_35
  · refine Go_ldc2 (q := 17) (v := (-1 : Int64)) C wm_41_10 dX12_fills_14 rfl ?_
    exact Go_lret C hQ hR hw dX12_fills_17
-- X12_fill
abbrev rm_X12_fill : Room := { frames := 514, cells := 0, slots := 0, locals := 22448 }
set_option maxRecDepth 100000 in
set_option maxHeartbeats 4000000 in
theorem c_X12_fill (l : Launch) {p0 : Int32} {S : St} {Q : Int32 → St → Prop} (hR : RCM S) (hw : w_X12_fill p0 S Q) : MetI l yX12_fill (wB yX12_fill cX12_fill 2 (some .int)) rm_X12_fill shM NM RCM (fun ad => [.ref (ad (0)), .int p0]) S Q := by
  refine MetI_of (cc := cX12_fill) (maxL := 2) (ret := (some .int)) (plainFor_of_name (by decide)) (fun _ => Nat.le_of_ble_eq_true rfl) (fun G C hl hQ => ?_)
  subst hl
  have C : Cx G cX12_fill BIG RX12 2 (some .int) rm_X12_fill shM NM := C
  show Go G 2 0 [] [(0, .ref (Gad G (0))), (1, .int p0)] S
  unfold w_X12_fill at hw
  refine Go_aload_n (q := 1) C 0 rfl dX12_fill_0 rfl ?_
  refine Go_iconst (q := 2) (v := (0 : Int32)) C dX12_fill_1 rfl rfl ?_
  refine Go_putI (q := 5) (k := 0) C ci12 iw_12 kM_0 rfl wm_15_14 rfl rfl (ci12.2.2.2.1 0 (by decide)) rfl rfl dX12_fill_2 rfl ?_
  refine Go_S (fun S2_1 e_S2_1 => ?_)
  have hw := hw S2_1 e_S2_1
  have hR := rcM e_S2_1 hR
  refine Go_aload_n (q := 6) C 0 rfl dX12_fill_5 rfl ?_
  refine Go_iload_n (q := 7) C 1 rfl dX12_fill_6 rfl ?_
  refine Go_callV_I (av := (fun ad => [.int p0])) (st := []) (C := C) (hM := c_X12_isPlace (Gl G)  hR hw) (hlk := wm_31_22) (hini := wm_1_5) (hins := wm_31_23) (hsel := wm_32_0) (hcode := wm_32_1) (ho := kM_0) (hci := rfl) (hc13 := by decide) (n := 1) (hd := by decide +kernel) (hr0 := ⟨rfl, rfl⟩) (hroom := ⟨by first | decide | (dsimp only; omega), by first | decide | (dsimp only; omega)⟩) (hlen := rfl) (hst := rfl) (hW := Nat.le_of_ble_eq_true rfl) (hdg := dX12_fill_7) (q := 10) (hq := rfl) (fun r7_3 S7_2 hw hR => ?_)
  refine Go_if_eq (t := 22) (q := 13) C hw dX12_fill_10 rfl rfl (fun hw => ?_) (fun hw => ?_)
  · refine Go_iconst (q := 23) (v := (-1 : Int32)) C dX12_fill_22 rfl rfl ?_
    exact Go_iret C hQ hR hw dX12_fill_23
  · refine Go_aload_n (q := 14) C 0 rfl dX12_fill_13 rfl ?_
    refine Go_getI (q := 17) (k := 10) C ci12 iw_12 kM_0 rfl wm_14_20 rfl dX12_fill_14 rfl ?_
    refine Go_bipush (q := 19) (v := (7 : Int32)) C dX12_fill_17 rfl rfl ?_
    refine Go_icmp_le (t := 24) (q := 22) C hw dX12_fill_19 rfl rfl (fun hw => ?_) (fun hw => ?_)
    · refine Go_aload_n (q := 25) C 0 rfl dX12_fill_24 rfl ?_
      refine Go_callV_V (av := (fun ad => [])) (st := []) (C := C) (hM := c_X12_neighbours (Gl G)  hR hw) (hlk := wm_41_11) (hini := wm_1_5) (hins := wm_41_12) (hsel := wm_41_13) (hcode := wm_41_14) (ho := kM_0) (hci := rfl) (hc13 := by decide) (n := 0) (hd := by decide +kernel) (hr0 := ⟨rfl, rfl⟩) (hroom := ⟨by first | decide | (dsimp only; omega), by first | decide | (dsimp only; omega)⟩) (hlen := rfl) (hst := rfl) (hW := Nat.le_of_ble_eq_true rfl) (hdg := dX12_fill_25) (q := 28) (hq := rfl) (fun S25_4 hw hR => ?_)
      refine Go_aload_n (q := 29) C 0 rfl dX12_fill_28 rfl ?_
      refine Go_iconst (q := 30) (v := (1 : Int32)) C dX12_fill_29 rfl rfl ?_
      refine Go_aload_n (q := 31) C 0 rfl dX12_fill_30 rfl ?_
      refine Go_getI (q := 34) (k := 10) C ci12 iw_12 kM_0 rfl wm_14_20 rfl dX12_fill_31 rfl ?_
      refine Go_ishl (q := 35) C dX12_fill_34 rfl ?_
      refine Go_iconst (q := 36) (v := (1 : Int32)) C dX12_fill_35 rfl rfl ?_
      refine Go_isub (q := 37) C dX12_fill_36 rfl ?_
      refine Go_iconst (q := 38) (v := (1 : Int32)) C dX12_fill_37 rfl rfl ?_
      refine Go_callV_L (av := (fun ad => [.int (((1 : Int32) <<< ((gI S25_4 0 10) &&& 31)) - (1 : Int32)), .int (1 : Int32)])) (st := []) (C := C) (hM := c_X12_waysFor (Gl G)  hR hw) (hlk := wm_41_15) (hini := wm_1_5) (hins := wm_41_16) (hsel := wm_41_17) (hcode := wm_41_18) (ho := kM_0) (hci := rfl) (hc13 := by decide) (n := 2) (hd := by decide +kernel) (hr0 := ⟨rfl, rfl⟩) (hroom := ⟨by first | decide | (dsimp only; omega), by first | decide | (dsimp only; omega)⟩) (hlen := rfl) (hst := rfl) (hW := Nat.le_of_ble_eq_true rfl) (hdg := dX12_fill_38) (q := 41) (hq := rfl) (fun r38_6 S38_5 hw hR => ?_)
      refine Go_lconst (q := 42) (v := (0 : Int64)) C dX12_fill_41 rfl rfl ?_
      refine Go_lcmp_le (t := 55) (q := 43) (q2 := 46) C hw dX12_fill_42 rfl dX12_fill_43 rfl rfl (fun hw => ?_) (fun hw => ?_)
      · refine Go_aload_n (q := 47) C 0 rfl dX12_fill_46 rfl ?_
        refine Go_getA (q := 50) (k := 63) C ci12 iw_12 kM_0 (rM_0_63 hR) rfl wm_14_12 rfl dX12_fill_47 rfl ?_
        refine Go_iload_n (q := 51) C 1 rfl dX12_fill_50 rfl ?_
        obtain ⟨hin, hw⟩ := hw
        refine Go_iaload (q := 52) C kM_40 hin dX12_fill_51 rfl ?_
        refine Go_goto (q := 56) C dX12_fill_52 rfl ?_
        exact Go_iret C hQ hR hw dX12_fill_56
      · refine Go_iconst (q := 56) (v := (-1 : Int32)) C dX12_fill_55 rfl rfl ?_
        exact Go_iret C hQ hR hw dX12_fill_56
    · refine Go_iconst (q := 23) (v := (-1 : Int32)) C dX12_fill_22 rfl rfl ?_
      exact Go_iret C hQ hR hw dX12_fill_23
-- X12_stuck
abbrev rm_X12_stuck : Room := { frames := 514, cells := 0, slots := 0, locals := 22448 }
set_option maxRecDepth 100000 in
set_option maxHeartbeats 4000000 in
theorem g_X12_stuck_58 {G : GC} (C : Cx G cX12_stuck BIG RX12 4 (some .int) rm_X12_stuck shM NM) {Q : Int32 → St → Prop} (hQ : QI G RCM Q) (p0 : Int32) (v2 : Int32) (v3 : Int32) {k33 : Int32 → Int32 → St → Prop} (hk33 : ∀ (v2 : Int32) (v3 : Int32) (S : St), RCM S → k33 v2 v3 S → Go G 4 33 [] [(0, .ref (Gad G (0))), (1, .int p0), (2, .int v2), (3, .int v3)] S) {S : St} (hR : RCM S) (hw : w_X12_stuck_58 p0 k33 v2 v3 S) : Go G 4 58 [] [(0, .ref (Gad G (0))), (1, .int p0), (2, .int v2), (3, .int v3)] S := by
  unfold w_X12_stuck_58 at hw
  refine Go_aload_n (q := 59) C 0 rfl dX12_stuck_58 rfl ?_
  refine Go_iload_n (q := 60) C 3 rfl dX12_stuck_59 rfl ?_
  refine Go_iconst (q := 61) (v := (1 : Int32)) C dX12_stuck_60 rfl rfl ?_
  refine Go_callV_L (av := (fun ad => [.int v3, .int (1 : Int32)])) (st := []) (C := C) (hM := c_X12_waysFor (Gl G) hR hw) (hlk := wm_41_15) (hini := wm_1_5) (hins := wm_41_16) (hsel := wm_41_17) (hcode := wm_41_18) (ho := kM_0) (hci := rfl) (hc13 := by decide) (n := 2) (hd := by decide +kernel) (hr0 := ⟨rfl, rfl⟩) (hroom := ⟨by first | decide | (dsimp only; omega), by first | decide | (dsimp only; omega)⟩) (hlen := rfl) (hst := rfl) (hW := Nat.le_of_ble_eq_true rfl) (hdg := dX12_stuck_61) (q := 64) (hq := rfl) (fun r61_8 S61_7 hw hR => ?_)
  refine Go_lconst (q := 65) (v := (0 : Int64)) C dX12_stuck_64 rfl rfl ?_
  refine Go_lcmp_ne (t := 71) (q := 66) (q2 := 69) C hw dX12_stuck_65 rfl dX12_stuck_66 rfl rfl (fun hw => ?_) (fun hw => ?_)
  · refine Go_iload_n (q := 70) C 3 rfl dX12_stuck_69 rfl ?_
    refine Go_istore_n (q := 71) (lv' := [(2, .int v3), (0, .ref (Gad G (0))), (1, .int p0), (3, .int v3)]) C rfl dX12_stuck_70 (by decide) rfl rfl ?_
    refine Go_iinc2 (q := 74) (kp := 3) (cst := (1 : Int32)) C dX12_stuck_71 rfl rfl (by decide) rfl (fun x71_9 e_x71_9 => ?_)
    have hw := hw x71_9 e_x71_9
    refine Go_lve (lv' := [(3, .int x71_9), (2, .int v3), (0, .ref (Gad G (0))), (1, .int p0)]) rfl ?_
    refine Go_goto (q := 33) C dX12_stuck_74 rfl ?_
    refine Go_lvp [2, 3, 1, 0] rfl ?_
    exact hk33 _ _ _ hR hw
  · refine Go_iinc2 (q := 74) (kp := 3) (cst := (1 : Int32)) C dX12_stuck_71 rfl rfl (by decide) rfl (fun x71_10 e_x71_10 => ?_)
    have hw := hw x71_10 e_x71_10
    refine Go_lve (lv' := [(3, .int x71_10), (0, .ref (Gad G (0))), (1, .int p0), (2, .int v2)]) rfl ?_
    refine Go_goto (q := 33) C dX12_stuck_74 rfl ?_
    refine Go_lvp [1, 2, 3, 0] rfl ?_
    exact hk33 _ _ _ hR hw
set_option maxRecDepth 100000 in
set_option maxHeartbeats 4000000 in
theorem g_X12_stuck_33 {G : GC} (C : Cx G cX12_stuck BIG RX12 4 (some .int) rm_X12_stuck shM NM) {Q : Int32 → St → Prop} (hQ : QI G RCM Q) (p0 : Int32) (v2 : Int32) (v3 : Int32) {S : St} (hR : RCM S) (hw : w_X12_stuck_33 p0 Q v2 v3 S) : Go G 4 33 [] [(0, .ref (Gad G (0))), (1, .int p0), (2, .int v2), (3, .int v3)] S := by
  obtain ⟨n, hw⟩ := hw
  induction n generalizing v2 v3 S with
  | zero => exact hw.elim
  | succ n ih =>
    have hw : b_X12_stuck_33 p0 Q (lpn (fun _ _ _ => False) (b_X12_stuck_33 p0 Q) n) v2 v3 S := hw
    generalize lpn (fun _ _ _ => False) (b_X12_stuck_33 p0 Q) n = kf at hw ih
    have hk33 := fun (v2 : Int32) (v3 : Int32) (S : St) (hR : RCM S) hw => ih v2 v3 hR hw
    unfold b_X12_stuck_33 at hw
    refine Go_iload_n (q := 34) C 3 rfl dX12_stuck_33 rfl ?_
    refine Go_iconst (q := 35) (v := (1 : Int32)) C dX12_stuck_34 rfl rfl ?_
    refine Go_aload_n (q := 36) C 0 rfl dX12_stuck_35 rfl ?_
    refine Go_getI (q := 39) (k := 10) C ci12 iw_12 kM_0 rfl wm_14_20 rfl dX12_stuck_36 rfl ?_
    refine Go_ishl (q := 40) C dX12_stuck_39 rfl ?_
    refine Go_icmp_ge (t := 77) (q := 43) C hw dX12_stuck_40 rfl rfl (fun hw => ?_) (fun hw => ?_)
    · refine Go_iload_n (q := 78) C 2 rfl dX12_stuck_77 rfl ?_
      refine Go_if_ge (t := 85) (q := 81) C hw dX12_stuck_78 rfl rfl (fun hw => ?_) (fun hw => ?_)
      · refine Go_iload_n (q := 86) C 1 rfl dX12_stuck_85 rfl ?_
        refine Go_if_ne (t := 96) (q := 89) C hw dX12_stuck_86 rfl rfl (fun hw => ?_) (fun hw => ?_)
        · refine Go_iload_n (q := 90) C 2 rfl dX12_stuck_89 rfl ?_
          refine Go_callS_I (av := (fun ad => [.int v2])) (st := []) (C := C) (hM := c_X12_bits (Gl G) hR hw) (hlk := wm_43_6) (hini := wm_1_5) (hst2 := wm_43_7) (hcode := wm_43_8) (n := 1) (hd := by decide +kernel) (hr0 := ⟨rfl, rfl⟩) (hroom := ⟨by first | decide | (dsimp only; omega), by first | decide | (dsimp only; omega)⟩) (hlen := rfl) (hst := rfl) (hW := Nat.le_of_ble_eq_true rfl) (hdg := dX12_stuck_90) (q := 93) (hq := rfl) (fun r90_6 S90_5 hw hR => ?_)
          refine Go_goto (q := 97) C dX12_stuck_93 rfl ?_
          exact Go_iret C hQ hR hw dX12_stuck_97
        · refine Go_iload_n (q := 97) C 2 rfl dX12_stuck_96 rfl ?_
          exact Go_iret C hQ hR hw dX12_stuck_97
      · refine Go_iconst (q := 82) (v := (-1 : Int32)) C dX12_stuck_81 rfl rfl ?_
        refine Go_goto (q := 97) C dX12_stuck_82 rfl ?_
        exact Go_iret C hQ hR hw dX12_stuck_97
    · refine Go_iload_n (q := 44) C 2 rfl dX12_stuck_43 rfl ?_
      refine Go_if_lt (t := 58) (q := 47) C hw dX12_stuck_44 rfl rfl (fun hw => ?_) (fun hw => ?_)
      · refine Go_lvp [0, 1, 2, 3] rfl ?_
        exact g_X12_stuck_58 C hQ p0 _ _ hk33 hR hw
      · refine Go_iload_n (q := 48) C 3 rfl dX12_stuck_47 rfl ?_
        refine Go_callS_I (av := (fun ad => [.int v3])) (st := []) (C := C) (hM := c_X12_bits (Gl G) hR hw) (hlk := wm_43_6) (hini := wm_1_5) (hst2 := wm_43_7) (hcode := wm_43_8) (n := 1) (hd := by decide +kernel) (hr0 := ⟨rfl, rfl⟩) (hroom := ⟨by first | decide | (dsimp only; omega), by first | decide | (dsimp only; omega)⟩) (hlen := rfl) (hst := rfl) (hW := Nat.le_of_ble_eq_true rfl) (hdg := dX12_stuck_48) (q := 51) (hq := rfl) (fun r48_12 S48_11 hw hR => ?_)
        refine Go_iload_n (q := 52) C 2 rfl dX12_stuck_51 rfl ?_
        refine Go_callS_I (av := (fun ad => [.int v2])) (st := [.int r48_12]) (C := C) (hM := c_X12_bits (Gl G) hR hw) (hlk := wm_43_6) (hini := wm_1_5) (hst2 := wm_43_7) (hcode := wm_43_8) (n := 1) (hd := by decide +kernel) (hr0 := ⟨rfl, rfl⟩) (hroom := ⟨by first | decide | (dsimp only; omega), by first | decide | (dsimp only; omega)⟩) (hlen := rfl) (hst := rfl) (hW := Nat.le_of_ble_eq_true rfl) (hdg := dX12_stuck_52) (q := 55) (hq := rfl) (fun r52_14 S52_13 hw hR => ?_)
        refine Go_icmp_ge (t := 71) (q := 58) C hw dX12_stuck_55 rfl rfl (fun hw => ?_) (fun hw => ?_)
        · refine Go_iinc2 (q := 74) (kp := 3) (cst := (1 : Int32)) C dX12_stuck_71 rfl rfl (by decide) rfl (fun x71_15 e_x71_15 => ?_)
          have hw := hw x71_15 e_x71_15
          refine Go_lve (lv' := [(3, .int x71_15), (0, .ref (Gad G (0))), (1, .int p0), (2, .int v2)]) rfl ?_
          refine Go_goto (q := 33) C dX12_stuck_74 rfl ?_
          refine Go_lvp [1, 2, 3, 0] rfl ?_
          exact hk33 _ _ _ hR hw
        · refine Go_lvp [0, 1, 2, 3] rfl ?_
          exact g_X12_stuck_58 C hQ p0 _ _ hk33 hR hw
set_option maxRecDepth 100000 in
set_option maxHeartbeats 4000000 in
theorem c_X12_stuck (l : Launch) {p0 : Int32} {S : St} {Q : Int32 → St → Prop} (hR : RCM S) (hw : w_X12_stuck p0 S Q) : MetI l yX12_stuck (wB yX12_stuck cX12_stuck 4 (some .int)) rm_X12_stuck shM NM RCM (fun ad => [.ref (ad (0)), .int p0]) S Q := by
  refine MetI_of (cc := cX12_stuck) (maxL := 4) (ret := (some .int)) (plainFor_of_name (by decide)) (fun _ => Nat.le_of_ble_eq_true rfl) (fun G C hl hQ => ?_)
  subst hl
  have C : Cx G cX12_stuck BIG RX12 4 (some .int) rm_X12_stuck shM NM := C
  show Go G 4 0 [] [(0, .ref (Gad G (0))), (1, .int p0)] S
  unfold w_X12_stuck at hw
  refine Go_aload_n (q := 1) C 0 rfl dX12_stuck_0 rfl ?_
  refine Go_iconst (q := 2) (v := (0 : Int32)) C dX12_stuck_1 rfl rfl ?_
  refine Go_putI (q := 5) (k := 0) C ci12 iw_12 kM_0 rfl wm_15_14 rfl rfl (ci12.2.2.2.1 0 (by decide)) rfl rfl dX12_stuck_2 rfl ?_
  refine Go_S (fun S2_1 e_S2_1 => ?_)
  have hw := hw S2_1 e_S2_1
  have hR := rcM e_S2_1 hR
  refine Go_iload_n (q := 6) C 1 rfl dX12_stuck_5 rfl ?_
  refine Go_iconst (q := 7) (v := (0 : Int32)) C dX12_stuck_6 rfl rfl ?_
  refine Go_iconst (q := 8) (v := (1 : Int32)) C dX12_stuck_7 rfl rfl ?_
  refine Go_callS_I (av := (fun ad => [.int p0, .int (0 : Int32), .int (1 : Int32)])) (st := []) (C := C) (hM := c_X12_within (Gl G)  hR hw) (hlk := wm_27_1) (hini := wm_1_5) (hst2 := wm_27_2) (hcode := wm_27_3) (n := 3) (hd := by decide +kernel) (hr0 := ⟨rfl, rfl⟩) (hroom := ⟨by first | decide | (dsimp only; omega), by first | decide | (dsimp only; omega)⟩) (hlen := rfl) (hst := rfl) (hW := Nat.le_of_ble_eq_true rfl) (hdg := dX12_stuck_8) (q := 11) (hq := rfl) (fun r8_3 S8_2 hw hR => ?_)
  refine Go_if_eq (t := 23) (q := 14) C hw dX12_stuck_11 rfl rfl (fun hw => ?_) (fun hw => ?_)
  · refine Go_iconst (q := 24) (v := (-1 : Int32)) C dX12_stuck_23 rfl rfl ?_
    exact Go_iret C hQ hR hw dX12_stuck_24
  · refine Go_aload_n (q := 15) C 0 rfl dX12_stuck_14 rfl ?_
    refine Go_getI (q := 18) (k := 10) C ci12 iw_12 kM_0 rfl wm_14_20 rfl dX12_stuck_15 rfl ?_
    refine Go_bipush (q := 20) (v := (7 : Int32)) C dX12_stuck_18 rfl rfl ?_
    refine Go_icmp_le (t := 25) (q := 23) C hw dX12_stuck_20 rfl rfl (fun hw => ?_) (fun hw => ?_)
    · refine Go_aload_n (q := 26) C 0 rfl dX12_stuck_25 rfl ?_
      refine Go_callV_V (av := (fun ad => [])) (st := []) (C := C) (hM := c_X12_neighbours (Gl G)  hR hw) (hlk := wm_41_11) (hini := wm_1_5) (hins := wm_41_12) (hsel := wm_41_13) (hcode := wm_41_14) (ho := kM_0) (hci := rfl) (hc13 := by decide) (n := 0) (hd := by decide +kernel) (hr0 := ⟨rfl, rfl⟩) (hroom := ⟨by first | decide | (dsimp only; omega), by first | decide | (dsimp only; omega)⟩) (hlen := rfl) (hst := rfl) (hW := Nat.le_of_ble_eq_true rfl) (hdg := dX12_stuck_26) (q := 29) (hq := rfl) (fun S26_4 hw hR => ?_)
      refine Go_iconst (q := 30) (v := (-1 : Int32)) C dX12_stuck_29 rfl rfl ?_
      refine Go_istore_n (q := 31) (lv' := [(2, .int (-1 : Int32)), (0, .ref (Gad G (0))), (1, .int p0)]) C rfl dX12_stuck_30 (by decide) rfl rfl ?_
      refine Go_iconst (q := 32) (v := (1 : Int32)) C dX12_stuck_31 rfl rfl ?_
      refine Go_istore_n (q := 33) (lv' := [(3, .int (1 : Int32)), (2, .int (-1 : Int32)), (0, .ref (Gad G (0))), (1, .int p0)]) C rfl dX12_stuck_32 (by decide) rfl rfl ?_
      refine Go_lvp [2, 3, 1, 0] rfl ?_
      exact g_X12_stuck_33 C hQ p0 _ _ hR hw
    · refine Go_iconst (q := 24) (v := (-1 : Int32)) C dX12_stuck_23 rfl rfl ?_
      exact Go_iret C hQ hR hw dX12_stuck_24
-- X12_line
abbrev rm_X12_line : Room := { frames := 1, cells := 0, slots := 0, locals := 22 }
set_option maxRecDepth 100000 in
set_option maxHeartbeats 4000000 in
theorem c_X12_line (l : Launch) {p0 : Int32} {p1 : Int32} {p2 : Int32} {S : St} {Q : Int32 → St → Prop} (hR : RCM S) (hw : w_X12_line p0 p1 p2 S Q) : MetI l yX12_line (wB yX12_line cX12_line 4 (some .int)) rm_X12_line shM NM RCM (fun ad => [.ref (ad (0)), .int p0, .int p1, .int p2]) S Q := by
  refine MetI_of (cc := cX12_line) (maxL := 4) (ret := (some .int)) (plainFor_of_name (by decide)) (fun _ => Nat.le_of_ble_eq_true rfl) (fun G C hl hQ => ?_)
  subst hl
  have C : Cx G cX12_line BIG RX12 4 (some .int) rm_X12_line shM NM := C
  show Go G 4 0 [] [(0, .ref (Gad G (0))), (1, .int p0), (2, .int p1), (3, .int p2)] S
  unfold w_X12_line at hw
  refine Go_aload_n (q := 1) C 0 rfl dX12_line_0 rfl ?_
  refine Go_iconst (q := 2) (v := (0 : Int32)) C dX12_line_1 rfl rfl ?_
  refine Go_putI (q := 5) (k := 0) C ci12 iw_12 kM_0 rfl wm_15_14 rfl rfl (ci12.2.2.2.1 0 (by decide)) rfl rfl dX12_line_2 rfl ?_
  refine Go_S (fun S2_1 e_S2_1 => ?_)
  have hw := hw S2_1 e_S2_1
  have hR := rcM e_S2_1 hR
  refine Go_aload_n (q := 6) C 0 rfl dX12_line_5 rfl ?_
  refine Go_iload_n (q := 7) C 1 rfl dX12_line_6 rfl ?_
  refine Go_callV_I (av := (fun ad => [.int p0])) (st := []) (C := C) (hM := c_X12_isWordAt (Gl G)  hR hw) (hlk := wm_38_13) (hini := wm_1_5) (hins := wm_38_14) (hsel := wm_38_15) (hcode := wm_38_16) (ho := kM_0) (hci := rfl) (hc13 := by decide) (n := 1) (hd := by decide +kernel) (hr0 := ⟨rfl, rfl⟩) (hroom := ⟨by first | decide | (dsimp only; omega), by first | decide | (dsimp only; omega)⟩) (hlen := rfl) (hst := rfl) (hW := Nat.le_of_ble_eq_true rfl) (hdg := dX12_line_7) (q := 10) (hq := rfl) (fun r7_3 S7_2 hw hR => ?_)
  refine Go_if_eq (t := 43) (q := 13) C hw dX12_line_10 rfl rfl (fun hw => ?_) (fun hw => ?_)
  · refine Go_iconst (q := 44) (v := (-1 : Int32)) C dX12_line_43 rfl rfl ?_
    exact Go_iret C hQ hR hw dX12_line_44
  · refine Go_iload_n (q := 14) C 2 rfl dX12_line_13 rfl ?_
    refine Go_iconst (q := 15) (v := (0 : Int32)) C dX12_line_14 rfl rfl ?_
    refine Go_sipush (q := 18) (v := (999 : Int32)) C dX12_line_15 rfl rfl ?_
    refine Go_callS_I (av := (fun ad => [.int p1, .int (0 : Int32), .int (999 : Int32)])) (st := []) (C := C) (hM := c_X12_within (Gl G)  hR hw) (hlk := wm_27_1) (hini := wm_1_5) (hst2 := wm_27_2) (hcode := wm_27_3) (n := 3) (hd := by decide +kernel) (hr0 := ⟨rfl, rfl⟩) (hroom := ⟨by first | decide | (dsimp only; omega), by first | decide | (dsimp only; omega)⟩) (hlen := rfl) (hst := rfl) (hW := Nat.le_of_ble_eq_true rfl) (hdg := dX12_line_18) (q := 21) (hq := rfl) (fun r18_5 S18_4 hw hR => ?_)
    refine Go_if_eq (t := 43) (q := 24) C hw dX12_line_21 rfl rfl (fun hw => ?_) (fun hw => ?_)
    · refine Go_iconst (q := 44) (v := (-1 : Int32)) C dX12_line_43 rfl rfl ?_
      exact Go_iret C hQ hR hw dX12_line_44
    · refine Go_iload_n (q := 25) C 3 rfl dX12_line_24 rfl ?_
      refine Go_iconst (q := 26) (v := (0 : Int32)) C dX12_line_25 rfl rfl ?_
      refine Go_bipush (q := 28) (v := (99 : Int32)) C dX12_line_26 rfl rfl ?_
      refine Go_callS_I (av := (fun ad => [.int p2, .int (0 : Int32), .int (99 : Int32)])) (st := []) (C := C) (hM := c_X12_within (Gl G)  hR hw) (hlk := wm_27_1) (hini := wm_1_5) (hst2 := wm_27_2) (hcode := wm_27_3) (n := 3) (hd := by decide +kernel) (hr0 := ⟨rfl, rfl⟩) (hroom := ⟨by first | decide | (dsimp only; omega), by first | decide | (dsimp only; omega)⟩) (hlen := rfl) (hst := rfl) (hW := Nat.le_of_ble_eq_true rfl) (hdg := dX12_line_28) (q := 31) (hq := rfl) (fun r28_7 S28_6 hw hR => ?_)
      refine Go_if_eq (t := 43) (q := 34) C hw dX12_line_31 rfl rfl (fun hw => ?_) (fun hw => ?_)
      · refine Go_iconst (q := 44) (v := (-1 : Int32)) C dX12_line_43 rfl rfl ?_
        exact Go_iret C hQ hR hw dX12_line_44
      · refine Go_aload_n (q := 35) C 0 rfl dX12_line_34 rfl ?_
        refine Go_getI (q := 38) (k := 65) C ci12 iw_12 kM_0 rfl wm_25_4 rfl dX12_line_35 rfl ?_
        refine Go_bipush (q := 40) (v := (60 : Int32)) C dX12_line_38 rfl rfl ?_
        refine Go_icmp_ne (t := 45) (q := 43) C hw dX12_line_40 rfl rfl (fun hw => ?_) (fun hw => ?_)
        · refine Go_iconst (q := 44) (v := (-1 : Int32)) C dX12_line_43 rfl rfl ?_
          exact Go_iret C hQ hR hw dX12_line_44
        · refine Go_aload_n (q := 46) C 0 rfl dX12_line_45 rfl ?_
          refine Go_getA (q := 49) (k := 66) C ci12 iw_12 kM_0 (rM_0_66 hR) rfl wm_14_13 rfl dX12_line_46 rfl ?_
          refine Go_aload_n (q := 50) C 0 rfl dX12_line_49 rfl ?_
          refine Go_getI (q := 53) (k := 65) C ci12 iw_12 kM_0 rfl wm_25_4 rfl dX12_line_50 rfl ?_
          refine Go_iload_n (q := 54) C 1 rfl dX12_line_53 rfl ?_
          obtain ⟨hin, hw⟩ := hw
          refine Go_iastore (q := 55) C kM_41 hin dX12_line_54 rfl ?_
          refine Go_S (fun S54_8 e_S54_8 => ?_)
          have hw := hw S54_8 e_S54_8
          have hR := rcM e_S54_8 hR
          refine Go_aload_n (q := 56) C 0 rfl dX12_line_55 rfl ?_
          refine Go_getA (q := 59) (k := 67) C ci12 iw_12 kM_0 (rM_0_67 hR) rfl wm_14_14 rfl dX12_line_56 rfl ?_
          refine Go_aload_n (q := 60) C 0 rfl dX12_line_59 rfl ?_
          refine Go_getI (q := 63) (k := 65) C ci12 iw_12 kM_0 rfl wm_25_4 rfl dX12_line_60 rfl ?_
          refine Go_iload_n (q := 64) C 2 rfl dX12_line_63 rfl ?_
          obtain ⟨hin, hw⟩ := hw
          refine Go_iastore (q := 65) C kM_42 hin dX12_line_64 rfl ?_
          refine Go_S (fun S64_9 e_S64_9 => ?_)
          have hw := hw S64_9 e_S64_9
          have hR := rcM e_S64_9 hR
          refine Go_aload_n (q := 66) C 0 rfl dX12_line_65 rfl ?_
          refine Go_getA (q := 69) (k := 68) C ci12 iw_12 kM_0 (rM_0_68 hR) rfl wm_14_15 rfl dX12_line_66 rfl ?_
          refine Go_aload_n (q := 70) C 0 rfl dX12_line_69 rfl ?_
          refine Go_getI (q := 73) (k := 65) C ci12 iw_12 kM_0 rfl wm_25_4 rfl dX12_line_70 rfl ?_
          refine Go_iload_n (q := 74) C 3 rfl dX12_line_73 rfl ?_
          obtain ⟨hin, hw⟩ := hw
          refine Go_iastore (q := 75) C kM_43 hin dX12_line_74 rfl ?_
          refine Go_S (fun S74_10 e_S74_10 => ?_)
          have hw := hw S74_10 e_S74_10
          have hR := rcM e_S74_10 hR
          refine Go_aload_n (q := 76) C 0 rfl dX12_line_75 rfl ?_
          refine Go_dup (q := 77) C rfl dX12_line_76 rfl ?_
          refine Go_getI (q := 80) (k := 65) C ci12 iw_12 kM_0 rfl wm_25_4 rfl dX12_line_77 rfl ?_
          refine Go_iconst (q := 81) (v := (1 : Int32)) C dX12_line_80 rfl rfl ?_
          refine Go_iadd (q := 82) C dX12_line_81 rfl ?_
          refine Go_putI (q := 85) (k := 65) C ci12 iw_12 kM_0 rfl wm_25_4 rfl rfl (ci12.2.2.2.1 65 (by decide)) rfl rfl dX12_line_82 rfl ?_
          refine Go_S (fun S82_11 e_S82_11 => ?_)
          have hw := hw S82_11 e_S82_11
          have hR := rcM e_S82_11 hR
          refine Go_aload_n (q := 86) C 0 rfl dX12_line_85 rfl ?_
          refine Go_getI (q := 89) (k := 65) C ci12 iw_12 kM_0 rfl wm_25_4 rfl dX12_line_86 rfl ?_
          exact Go_iret C hQ hR hw dX12_line_89
-- X12_clear
abbrev rm_X12_clear : Room := { frames := 0, cells := 0, slots := 0, locals := 0 }
set_option maxRecDepth 100000 in
set_option maxHeartbeats 4000000 in
theorem c_X12_clear (l : Launch) {S : St} {Q : Int32 → St → Prop} (hR : RCM S) (hw : w_X12_clear S Q) : MetI l yX12_clear (wB yX12_clear cX12_clear 1 (some .boolean)) rm_X12_clear shM NM RCM (fun ad => [.ref (ad (0))]) S Q := by
  refine MetI_of (cc := cX12_clear) (maxL := 1) (ret := (some .boolean)) (plainFor_of_name (by decide)) (fun _ => Nat.le_of_ble_eq_true rfl) (fun G C hl hQ => ?_)
  subst hl
  have C : Cx G cX12_clear BIG RX12 1 (some .boolean) rm_X12_clear shM NM := C
  show Go G 1 0 [] [(0, .ref (Gad G (0)))] S
  unfold w_X12_clear at hw
  refine Go_aload_n (q := 1) C 0 rfl dX12_clear_0 rfl ?_
  refine Go_iconst (q := 2) (v := (0 : Int32)) C dX12_clear_1 rfl rfl ?_
  refine Go_putI (q := 5) (k := 0) C ci12 iw_12 kM_0 rfl wm_15_14 rfl rfl (ci12.2.2.2.1 0 (by decide)) rfl rfl dX12_clear_2 rfl ?_
  refine Go_S (fun S2_1 e_S2_1 => ?_)
  have hw := hw S2_1 e_S2_1
  have hR := rcM e_S2_1 hR
  refine Go_aload_n (q := 6) C 0 rfl dX12_clear_5 rfl ?_
  refine Go_iconst (q := 7) (v := (0 : Int32)) C dX12_clear_6 rfl rfl ?_
  refine Go_putI (q := 10) (k := 65) C ci12 iw_12 kM_0 rfl wm_25_4 rfl rfl (ci12.2.2.2.1 65 (by decide)) rfl rfl dX12_clear_7 rfl ?_
  refine Go_S (fun S7_2 e_S7_2 => ?_)
  have hw := hw S7_2 e_S7_2
  have hR := rcM e_S7_2 hR
  refine Go_iconst (q := 11) (v := (1 : Int32)) C dX12_clear_10 rfl rfl ?_
  exact Go_zret C hQ hR rfl hw dX12_clear_11
-- X12_wrongIn
abbrev rm_X12_wrongIn : Room := { frames := 2, cells := 0, slots := 0, locals := 48 }
set_option maxRecDepth 100000 in
set_option maxHeartbeats 4000000 in
theorem g_X12_wrongIn_196 {G : GC} (C : Cx G cX12_wrongIn BIG RX12 6 (some .int) rm_X12_wrongIn shM NM) {Q : Int32 → St → Prop} (hQ : QI G RCM Q) (p0 : Int32) (v3 : Int32) (v4 : Int32) {S : St} (hR : RCM S) (hw : w_X12_wrongIn_196 p0 Q v3 v4 S) : Go G 6 196 [] [(0, .ref (Gad G (0))), (1, .int p0), (3, .int v3), (4, .int v4)] S := by
  unfold w_X12_wrongIn_196 at hw
  refine Go_iload_n (q := 197) C 2 rfl dX12_wrongIn_196 rfl ?_
  refine Go_if_le (t := 226) (q := 200) C hw dX12_wrongIn_197 rfl rfl (fun hw => ?_) (fun hw => ?_)
  · refine Go_iconst (q := 227) (v := (0 : Int32)) C dX12_wrongIn_226 rfl rfl ?_
    exact Go_iret C hQ hR hw dX12_wrongIn_227
  · refine Go_aload_n (q := 201) C 0 rfl dX12_wrongIn_200 rfl ?_
    refine Go_getA (q := 204) (k := 24) C ci12 iw_12 kM_0 (rM_0_24 hR) rfl wm_13_5 rfl dX12_wrongIn_201 rfl ?_
    refine Go_bipush (q := 206) (v := (12 : Int32)) C dX12_wrongIn_204 rfl rfl ?_
    refine Go_aload_n (q := 207) C 0 rfl dX12_wrongIn_206 rfl ?_
    refine Go_getA (q := 210) (k := 66) C ci12 iw_12 kM_0 (rM_0_66 hR) rfl wm_14_13 rfl dX12_wrongIn_207 rfl ?_
    refine Go_iload_n (q := 211) C 1 rfl dX12_wrongIn_210 rfl ?_
    refine Go_iconst (q := 212) (v := (1 : Int32)) C dX12_wrongIn_211 rfl rfl ?_
    refine Go_isub (q := 213) C dX12_wrongIn_212 rfl ?_
    obtain ⟨hin, hw⟩ := hw
    refine Go_iaload (q := 214) C kM_41 hin dX12_wrongIn_213 rfl ?_
    refine Go_imul (q := 215) C dX12_wrongIn_214 rfl ?_
    refine Go_iload (q := 217) C 3 rfl dX12_wrongIn_215 rfl ?_
    refine Go_iadd (q := 218) C dX12_wrongIn_217 rfl ?_
    obtain ⟨hin, hw⟩ := hw
    refine Go_zaload (q := 219) C kM_9 hin dX12_wrongIn_218 rfl ?_
    refine Go_if_eq (t := 226) (q := 222) C hw dX12_wrongIn_219 rfl rfl (fun hw => ?_) (fun hw => ?_)
    · refine Go_iconst (q := 227) (v := (0 : Int32)) C dX12_wrongIn_226 rfl rfl ?_
      exact Go_iret C hQ hR hw dX12_wrongIn_227
    · refine Go_iconst (q := 223) (v := (5 : Int32)) C dX12_wrongIn_222 rfl rfl ?_
      refine Go_goto (q := 227) C dX12_wrongIn_223 rfl ?_
      exact Go_iret C hQ hR hw dX12_wrongIn_227
set_option maxRecDepth 100000 in
set_option maxHeartbeats 4000000 in
theorem g_X12_wrongIn_174 {G : GC} (C : Cx G cX12_wrongIn BIG RX12 6 (some .int) rm_X12_wrongIn shM NM) {Q : Int32 → St → Prop} (hQ : QI G RCM Q) (p0 : Int32) (v3 : Int32) (v4 : Int32) {S : St} (hR : RCM S) (hw : w_X12_wrongIn_174 p0 Q v3 v4 S) : Go G 6 174 [] [(0, .ref (Gad G (0))), (1, .int p0), (3, .int v3), (4, .int v4)] S := by
  unfold w_X12_wrongIn_174 at hw
  refine Go_aload_n (q := 175) C 0 rfl dX12_wrongIn_174 rfl ?_
  refine Go_getI (q := 178) (k := 14) C ci12 iw_12 kM_0 rfl wm_24_23 rfl dX12_wrongIn_175 rfl ?_
  refine Go_if_le (t := 196) (q := 181) C hw dX12_wrongIn_178 rfl rfl (fun hw => ?_) (fun hw => ?_)
  · refine Go_lvp [0, 1, 2, 3] rfl ?_
    exact g_X12_wrongIn_196 C hQ p0 _ _ hR hw
  · refine Go_aload_n (q := 182) C 0 rfl dX12_wrongIn_181 rfl ?_
    refine Go_getA (q := 185) (k := 68) C ci12 iw_12 kM_0 (rM_0_68 hR) rfl wm_14_15 rfl dX12_wrongIn_182 rfl ?_
    refine Go_iload_n (q := 186) C 1 rfl dX12_wrongIn_185 rfl ?_
    obtain ⟨hin, hw⟩ := hw
    refine Go_iaload (q := 187) C kM_43 hin dX12_wrongIn_186 rfl ?_
    refine Go_aload_n (q := 188) C 0 rfl dX12_wrongIn_187 rfl ?_
    refine Go_getI (q := 191) (k := 14) C ci12 iw_12 kM_0 rfl wm_24_23 rfl dX12_wrongIn_188 rfl ?_
    refine Go_icmp_eq (t := 196) (q := 194) C hw dX12_wrongIn_191 rfl rfl (fun hw => ?_) (fun hw => ?_)
    · refine Go_lvp [0, 1, 2, 3] rfl ?_
      exact g_X12_wrongIn_196 C hQ p0 _ _ hR hw
    · refine Go_iconst (q := 195) (v := (4 : Int32)) C dX12_wrongIn_194 rfl rfl ?_
      exact Go_iret C hQ hR hw dX12_wrongIn_195
set_option maxRecDepth 100000 in
set_option maxHeartbeats 4000000 in
theorem g_X12_wrongIn_137 {G : GC} (C : Cx G cX12_wrongIn BIG RX12 6 (some .int) rm_X12_wrongIn shM NM) {Q : Int32 → St → Prop} (hQ : QI G RCM Q) (p0 : Int32) (v2 : Int32) (v3 : Int32) (v4 : Int32) {S : St} (hR : RCM S) (hw : w_X12_wrongIn_137 p0 Q v2 v3 v4 S) : Go G 6 137 [] [(0, .ref (Gad G (0))), (1, .int p0), (2, .int v2), (3, .int v3), (4, .int v4)] S := by
  unfold w_X12_wrongIn_137 at hw
  refine Go_aload_n (q := 138) C 0 rfl dX12_wrongIn_137 rfl ?_
  refine Go_getA (q := 141) (k := 20) C ci12 iw_12 kM_0 (rM_0_20 hR) rfl wm_13_0 rfl dX12_wrongIn_138 rfl ?_
  refine Go_iload_n (q := 142) C 3 rfl dX12_wrongIn_141 rfl ?_
  obtain ⟨hin, hw⟩ := hw
  refine Go_iaload (q := 143) C kM_5 hin dX12_wrongIn_142 rfl ?_
  refine Go_if_le (t := 174) (q := 146) C hw dX12_wrongIn_143 rfl rfl (fun hw => ?_) (fun hw => ?_)
  · refine Go_lvp [0, 1, 3, 4] rfl ?_
    exact g_X12_wrongIn_174 C hQ p0 _ _ hR hw
  · refine Go_iload_n (q := 147) C 2 rfl dX12_wrongIn_146 rfl ?_
    refine Go_aload_n (q := 148) C 0 rfl dX12_wrongIn_147 rfl ?_
    refine Go_getA (q := 151) (k := 20) C ci12 iw_12 kM_0 (rM_0_20 hR) rfl wm_13_0 rfl dX12_wrongIn_148 rfl ?_
    refine Go_iload_n (q := 152) C 3 rfl dX12_wrongIn_151 rfl ?_
    obtain ⟨hin, hw⟩ := hw
    refine Go_iaload (q := 153) C kM_5 hin dX12_wrongIn_152 rfl ?_
    obtain ⟨hne, hw⟩ := hw
    refine Go_irem (q := 154) C hne dX12_wrongIn_153 rfl ?_
    refine Go_if_ne (t := 174) (q := 157) C hw dX12_wrongIn_154 rfl rfl (fun hw => ?_) (fun hw => ?_)
    · refine Go_aload_n (q := 158) C 0 rfl dX12_wrongIn_157 rfl ?_
      refine Go_getA (q := 161) (k := 67) C ci12 iw_12 kM_0 (rM_0_67 hR) rfl wm_14_14 rfl dX12_wrongIn_158 rfl ?_
      refine Go_iload_n (q := 162) C 1 rfl dX12_wrongIn_161 rfl ?_
      obtain ⟨hin, hw⟩ := hw
      refine Go_iaload (q := 163) C kM_42 hin dX12_wrongIn_162 rfl ?_
      refine Go_aload_n (q := 164) C 0 rfl dX12_wrongIn_163 rfl ?_
      refine Go_getA (q := 167) (k := 67) C ci12 iw_12 kM_0 (rM_0_67 hR) rfl wm_14_14 rfl dX12_wrongIn_164 rfl ?_
      refine Go_iload_n (q := 168) C 3 rfl dX12_wrongIn_167 rfl ?_
      obtain ⟨hin, hw⟩ := hw
      refine Go_iaload (q := 169) C kM_42 hin dX12_wrongIn_168 rfl ?_
      refine Go_icmp_eq (t := 174) (q := 172) C hw dX12_wrongIn_169 rfl rfl (fun hw => ?_) (fun hw => ?_)
      · refine Go_lvp [0, 1, 3, 4] rfl ?_
        exact g_X12_wrongIn_174 C hQ p0 _ _ hR hw
      · refine Go_iconst (q := 173) (v := (3 : Int32)) C dX12_wrongIn_172 rfl rfl ?_
        exact Go_iret C hQ hR hw dX12_wrongIn_173
    · refine Go_lvp [0, 1, 3, 4] rfl ?_
      exact g_X12_wrongIn_174 C hQ p0 _ _ hR hw
set_option maxRecDepth 100000 in
set_option maxHeartbeats 4000000 in
theorem g_X12_wrongIn_81 {G : GC} (C : Cx G cX12_wrongIn BIG RX12 6 (some .int) rm_X12_wrongIn shM NM) {Q : Int32 → St → Prop} (hQ : QI G RCM Q) (p0 : Int32) (v2 : Int32) (v3 : Int32) (v4 : Int32) (v5 : Int32) {S : St} (hR : RCM S) (hw : w_X12_wrongIn_81 p0 Q v2 v3 v4 v5 S) : Go G 6 81 [] [(0, .ref (Gad G (0))), (1, .int p0), (2, .int v2), (3, .int v3), (4, .int v4), (5, .int v5)] S := by
  obtain ⟨n, hw⟩ := hw
  induction n generalizing v5 S with
  | zero => exact hw.elim
  | succ n ih =>
    have hw : b_X12_wrongIn_81 p0 Q v2 v3 v4 (lpn (fun _ _ => False) (b_X12_wrongIn_81 p0 Q v2 v3 v4) n) v5 S := hw
    generalize lpn (fun _ _ => False) (b_X12_wrongIn_81 p0 Q v2 v3 v4) n = kf at hw ih
    have hk81 := fun (v5 : Int32) (S : St) (hR : RCM S) hw => ih v5 hR hw
    unfold b_X12_wrongIn_81 at hw
    refine Go_iload (q := 83) C 5 rfl dX12_wrongIn_81 rfl ?_
    refine Go_iload_n (q := 84) C 3 rfl dX12_wrongIn_83 rfl ?_
    refine Go_icmp_ge (t := 137) (q := 87) C hw dX12_wrongIn_84 rfl rfl (fun hw => ?_) (fun hw => ?_)
    · refine Go_lvp [0, 1, 2, 3, 4] rfl ?_
      exact g_X12_wrongIn_137 C hQ p0 _ _ _ hR hw
    · refine Go_iload_n (q := 88) C 2 rfl dX12_wrongIn_87 rfl ?_
      refine Go_if_ne (t := 137) (q := 91) C hw dX12_wrongIn_88 rfl rfl (fun hw => ?_) (fun hw => ?_)
      · refine Go_aload_n (q := 92) C 0 rfl dX12_wrongIn_91 rfl ?_
        refine Go_getA (q := 95) (k := 60) C ci12 iw_12 kM_0 (rM_0_60 hR) rfl wm_14_9 rfl dX12_wrongIn_92 rfl ?_
        refine Go_iload (q := 97) C 5 rfl dX12_wrongIn_95 rfl ?_
        obtain ⟨hin, hw⟩ := hw
        refine Go_iaload (q := 98) C kM_37 hin dX12_wrongIn_97 rfl ?_
        refine Go_aload_n (q := 99) C 0 rfl dX12_wrongIn_98 rfl ?_
        refine Go_getA (q := 102) (k := 60) C ci12 iw_12 kM_0 (rM_0_60 hR) rfl wm_14_9 rfl dX12_wrongIn_99 rfl ?_
        refine Go_iload_n (q := 103) C 3 rfl dX12_wrongIn_102 rfl ?_
        obtain ⟨hin, hw⟩ := hw
        refine Go_iaload (q := 104) C kM_37 hin dX12_wrongIn_103 rfl ?_
        refine Go_icmp_ne (t := 131) (q := 107) C hw dX12_wrongIn_104 rfl rfl (fun hw => ?_) (fun hw => ?_)
        · refine Go_aload_n (q := 108) C 0 rfl dX12_wrongIn_107 rfl ?_
          refine Go_getA (q := 111) (k := 21) C ci12 iw_12 kM_0 (rM_0_21 hR) rfl wm_13_1 rfl dX12_wrongIn_108 rfl ?_
          refine Go_aload_n (q := 112) C 0 rfl dX12_wrongIn_111 rfl ?_
          refine Go_getA (q := 115) (k := 66) C ci12 iw_12 kM_0 (rM_0_66 hR) rfl wm_14_13 rfl dX12_wrongIn_112 rfl ?_
          refine Go_iload (q := 117) C 5 rfl dX12_wrongIn_115 rfl ?_
          obtain ⟨hin, hw⟩ := hw
          refine Go_iaload (q := 118) C kM_41 hin dX12_wrongIn_117 rfl ?_
          obtain ⟨hin, hw⟩ := hw
          refine Go_iaload (q := 119) C kM_6 hin dX12_wrongIn_118 rfl ?_
          refine Go_aload_n (q := 120) C 0 rfl dX12_wrongIn_119 rfl ?_
          refine Go_getA (q := 123) (k := 21) C ci12 iw_12 kM_0 (rM_0_21 hR) rfl wm_13_1 rfl dX12_wrongIn_120 rfl ?_
          refine Go_iload (q := 125) C 4 rfl dX12_wrongIn_123 rfl ?_
          obtain ⟨hin, hw⟩ := hw
          refine Go_iaload (q := 126) C kM_6 hin dX12_wrongIn_125 rfl ?_
          refine Go_icmp_eq (t := 131) (q := 129) C hw dX12_wrongIn_126 rfl rfl (fun hw => ?_) (fun hw => ?_)
          · refine Go_iinc2 (q := 134) (kp := 5) (cst := (1 : Int32)) C dX12_wrongIn_131 rfl rfl (by decide) rfl (fun x131_4 e_x131_4 => ?_)
            have hw := hw x131_4 e_x131_4
            refine Go_lve (lv' := [(5, .int x131_4), (0, .ref (Gad G (0))), (1, .int p0), (2, .int v2), (3, .int v3), (4, .int v4)]) rfl ?_
            refine Go_goto (q := 81) C dX12_wrongIn_134 rfl ?_
            refine Go_lvp [1, 2, 3, 4, 5, 0] rfl ?_
            exact hk81 _ _ hR hw
          · refine Go_iconst (q := 130) (v := (2 : Int32)) C dX12_wrongIn_129 rfl rfl ?_
            exact Go_iret C hQ hR hw dX12_wrongIn_130
        · refine Go_iinc2 (q := 134) (kp := 5) (cst := (1 : Int32)) C dX12_wrongIn_131 rfl rfl (by decide) rfl (fun x131_5 e_x131_5 => ?_)
          have hw := hw x131_5 e_x131_5
          refine Go_lve (lv' := [(5, .int x131_5), (0, .ref (Gad G (0))), (1, .int p0), (2, .int v2), (3, .int v3), (4, .int v4)]) rfl ?_
          refine Go_goto (q := 81) C dX12_wrongIn_134 rfl ?_
          refine Go_lvp [1, 2, 3, 4, 5, 0] rfl ?_
          exact hk81 _ _ hR hw
      · refine Go_lvp [0, 1, 2, 3, 4] rfl ?_
        exact g_X12_wrongIn_137 C hQ p0 _ _ _ hR hw
set_option maxRecDepth 100000 in
set_option maxHeartbeats 4000000 in
theorem g_X12_wrongIn_48 {G : GC} (C : Cx G cX12_wrongIn BIG RX12 6 (some .int) rm_X12_wrongIn shM NM) {Q : Int32 → St → Prop} (hQ : QI G RCM Q) (p0 : Int32) (v2 : Int32) (v3 : Int32) (v4 : Int32) (v5 : Int32) {S : St} (hR : RCM S) (hw : w_X12_wrongIn_48 p0 Q v2 v3 v4 v5 S) : Go G 6 48 [] [(0, .ref (Gad G (0))), (1, .int p0), (2, .int v2), (3, .int v3), (4, .int v4), (5, .int v5)] S := by
  obtain ⟨n, hw⟩ := hw
  induction n generalizing v5 S with
  | zero => exact hw.elim
  | succ n ih =>
    have hw : b_X12_wrongIn_48 p0 Q v2 v3 v4 (lpn (fun _ _ => False) (b_X12_wrongIn_48 p0 Q v2 v3 v4) n) v5 S := hw
    generalize lpn (fun _ _ => False) (b_X12_wrongIn_48 p0 Q v2 v3 v4) n = kf at hw ih
    have hk48 := fun (v5 : Int32) (S : St) (hR : RCM S) hw => ih v5 hR hw
    unfold b_X12_wrongIn_48 at hw
    refine Go_iload (q := 50) C 5 rfl dX12_wrongIn_48 rfl ?_
    refine Go_iload_n (q := 51) C 3 rfl dX12_wrongIn_50 rfl ?_
    refine Go_icmp_ge (t := 78) (q := 54) C hw dX12_wrongIn_51 rfl rfl (fun hw => ?_) (fun hw => ?_)
    · refine Go_iconst (q := 79) (v := (0 : Int32)) C dX12_wrongIn_78 rfl rfl ?_
      refine Go_istore (q := 81) (lv' := [(5, .int (0 : Int32)), (0, .ref (Gad G (0))), (1, .int p0), (2, .int v2), (3, .int v3), (4, .int v4)]) C dX12_wrongIn_79 (by decide) rfl rfl ?_
      refine Go_lvp [1, 2, 3, 4, 5, 0] rfl ?_
      exact g_X12_wrongIn_81 C hQ p0 _ _ _ _ hR hw
    · refine Go_iload_n (q := 55) C 2 rfl dX12_wrongIn_54 rfl ?_
      refine Go_if_ne (t := 78) (q := 58) C hw dX12_wrongIn_55 rfl rfl (fun hw => ?_) (fun hw => ?_)
      · refine Go_aload_n (q := 59) C 0 rfl dX12_wrongIn_58 rfl ?_
        refine Go_getA (q := 62) (k := 66) C ci12 iw_12 kM_0 (rM_0_66 hR) rfl wm_14_13 rfl dX12_wrongIn_59 rfl ?_
        refine Go_iload (q := 64) C 5 rfl dX12_wrongIn_62 rfl ?_
        obtain ⟨hin, hw⟩ := hw
        refine Go_iaload (q := 65) C kM_41 hin dX12_wrongIn_64 rfl ?_
        refine Go_iload (q := 67) C 4 rfl dX12_wrongIn_65 rfl ?_
        refine Go_icmp_ne (t := 72) (q := 70) C hw dX12_wrongIn_67 rfl rfl (fun hw => ?_) (fun hw => ?_)
        · refine Go_iconst (q := 71) (v := (1 : Int32)) C dX12_wrongIn_70 rfl rfl ?_
          exact Go_iret C hQ hR hw dX12_wrongIn_71
        · refine Go_iinc2 (q := 75) (kp := 5) (cst := (1 : Int32)) C dX12_wrongIn_72 rfl rfl (by decide) rfl (fun x72_6 e_x72_6 => ?_)
          have hw := hw x72_6 e_x72_6
          refine Go_lve (lv' := [(5, .int x72_6), (0, .ref (Gad G (0))), (1, .int p0), (2, .int v2), (3, .int v3), (4, .int v4)]) rfl ?_
          refine Go_goto (q := 48) C dX12_wrongIn_75 rfl ?_
          refine Go_lvp [1, 2, 3, 4, 5, 0] rfl ?_
          exact hk48 _ _ hR hw
      · refine Go_iconst (q := 79) (v := (0 : Int32)) C dX12_wrongIn_78 rfl rfl ?_
        refine Go_istore (q := 81) (lv' := [(5, .int (0 : Int32)), (0, .ref (Gad G (0))), (1, .int p0), (2, .int v2), (3, .int v3), (4, .int v4)]) C dX12_wrongIn_79 (by decide) rfl rfl ?_
        refine Go_lvp [1, 2, 3, 4, 5, 0] rfl ?_
        exact g_X12_wrongIn_81 C hQ p0 _ _ _ _ hR hw
set_option maxRecDepth 100000 in
set_option maxHeartbeats 4000000 in
theorem c_X12_wrongIn (l : Launch) {p0 : Int32} {S : St} {Q : Int32 → St → Prop} (hR : RCM S) (hw : w_X12_wrongIn p0 S Q) : MetI l yX12_wrongIn (wB yX12_wrongIn cX12_wrongIn 6 (some .int)) rm_X12_wrongIn shM NM RCM (fun ad => [.ref (ad (0)), .int p0]) S Q := by
  refine MetI_of (cc := cX12_wrongIn) (maxL := 6) (ret := (some .int)) (plainFor_of_name (by decide)) (fun _ => Nat.le_of_ble_eq_true rfl) (fun G C hl hQ => ?_)
  subst hl
  have C : Cx G cX12_wrongIn BIG RX12 6 (some .int) rm_X12_wrongIn shM NM := C
  show Go G 6 0 [] [(0, .ref (Gad G (0))), (1, .int p0)] S
  unfold w_X12_wrongIn at hw
  refine Go_iload_n (q := 1) C 1 rfl dX12_wrongIn_0 rfl ?_
  refine Go_aload_n (q := 2) C 0 rfl dX12_wrongIn_1 rfl ?_
  refine Go_getI (q := 5) (k := 10) C ci12 iw_12 kM_0 rfl wm_14_20 rfl dX12_wrongIn_2 rfl ?_
  obtain ⟨hne, hw⟩ := hw
  refine Go_idiv (q := 6) C hne dX12_wrongIn_5 rfl ?_
  refine Go_topi (fun x6_1 e_x6_1 => ?_)
  have hw := hw x6_1 e_x6_1
  refine Go_istore_n (q := 7) (lv' := [(2, .int x6_1), (0, .ref (Gad G (0))), (1, .int p0)]) C rfl dX12_wrongIn_6 (by decide) rfl rfl ?_
  refine Go_iload_n (q := 8) C 2 rfl dX12_wrongIn_7 rfl ?_
  refine Go_aload_n (q := 9) C 1 rfl dX12_wrongIn_8 rfl ?_
  refine Go_getI (q := 12) (k := 10) C ci12 iw_12 kM_0 rfl wm_14_20 rfl dX12_wrongIn_9 rfl ?_
  obtain ⟨hne, hw⟩ := hw
  refine Go_irem (q := 13) C hne dX12_wrongIn_12 rfl ?_
  refine Go_topi (fun x13_2 e_x13_2 => ?_)
  have hw := hw x13_2 e_x13_2
  refine Go_istore_n (q := 14) (lv' := [(3, .int x13_2), (2, .int x6_1), (0, .ref (Gad G (0))), (1, .int p0)]) C rfl dX12_wrongIn_13 (by decide) rfl rfl ?_
  refine Go_aload_n (q := 15) C 2 rfl dX12_wrongIn_14 rfl ?_
  refine Go_getA (q := 18) (k := 66) C ci12 iw_12 kM_0 (rM_0_66 hR) rfl wm_14_13 rfl dX12_wrongIn_15 rfl ?_
  refine Go_iload_n (q := 19) C 3 rfl dX12_wrongIn_18 rfl ?_
  obtain ⟨hin, hw⟩ := hw
  refine Go_iaload (q := 20) C kM_41 hin dX12_wrongIn_19 rfl ?_
  refine Go_topi (fun x20_3 e_x20_3 => ?_)
  have hw := hw x20_3 e_x20_3
  refine Go_istore (q := 22) (lv' := [(4, .int x20_3), (3, .int x13_2), (2, .int x6_1), (0, .ref (Gad G (0))), (1, .int p0)]) C dX12_wrongIn_20 (by decide) rfl rfl ?_
  refine Go_iload_n (q := 23) C 2 rfl dX12_wrongIn_22 rfl ?_
  refine Go_if_le (t := 45) (q := 26) C hw dX12_wrongIn_23 rfl rfl (fun hw => ?_) (fun hw => ?_)
  · refine Go_iconst (q := 46) (v := (0 : Int32)) C dX12_wrongIn_45 rfl rfl ?_
    refine Go_istore (q := 48) (lv' := [(5, .int (0 : Int32)), (4, .int x20_3), (3, .int x13_2), (2, .int x6_1), (0, .ref (Gad G (0))), (1, .int p0)]) C dX12_wrongIn_46 (by decide) rfl rfl ?_
    refine Go_lvp [4, 5, 3, 2, 1, 0] rfl ?_
    exact g_X12_wrongIn_48 C hQ p0 _ _ _ _ hR hw
  · refine Go_aload_n (q := 27) C 3 rfl dX12_wrongIn_26 rfl ?_
    refine Go_getA (q := 30) (k := 66) C ci12 iw_12 kM_0 (rM_0_66 hR) rfl wm_14_13 rfl dX12_wrongIn_27 rfl ?_
    refine Go_aload_n (q := 31) C 3 rfl dX12_wrongIn_30 rfl ?_
    refine Go_iload_n (q := 32) C 2 rfl dX12_wrongIn_31 rfl ?_
    refine Go_i2l (q := 33) C dX12_wrongIn_32 rfl ?_
    refine Go_iload_n (q := 34) C 1 rfl dX12_wrongIn_33 rfl ?_
    refine Go_callV_I (av := (fun ad => [.long ((x6_1).toInt64), .int x13_2])) (st := [.ref (Gad G (41))]) (C := C) (hM := c_X12_endAt (Gl G)  hR hw) (hlk := wm_33_10) (hini := wm_1_5) (hins := wm_33_11) (hsel := wm_33_12) (hcode := wm_33_13) (ho := kM_0) (hci := rfl) (hc13 := by decide) (n := 2) (hd := by decide +kernel) (hr0 := ⟨rfl, rfl⟩) (hroom := ⟨by first | decide | (dsimp only; omega), by first | decide | (dsimp only; omega)⟩) (hlen := rfl) (hst := rfl) (hW := Nat.le_of_ble_eq_true rfl) (hdg := dX12_wrongIn_34) (q := 37) (hq := rfl) (fun r34_8 S34_7 hw hR => ?_)
    obtain ⟨hin, hw⟩ := hw
    refine Go_iaload (q := 38) C kM_41 hin dX12_wrongIn_37 rfl ?_
    refine Go_iload (q := 40) C 0 rfl dX12_wrongIn_38 rfl ?_
    refine Go_icmp_eq (t := 45) (q := 43) C hw dX12_wrongIn_40 rfl rfl (fun hw => ?_) (fun hw => ?_)
    · refine Go_iconst (q := 46) (v := (0 : Int32)) C dX12_wrongIn_45 rfl rfl ?_
      refine Go_istore (q := 48) (lv' := [(5, .int (0 : Int32)), (4, .int x20_3), (3, .int x13_2), (2, .int x6_1), (0, .ref (Gad G (0))), (1, .int p0)]) C dX12_wrongIn_46 (by decide) rfl rfl ?_
      refine Go_lvp [4, 5, 3, 2, 1, 0] rfl ?_
      exact g_X12_wrongIn_48 C hQ p0 _ _ _ _ hR hw
    · refine Go_iconst (q := 44) (v := (1 : Int32)) C dX12_wrongIn_43 rfl rfl ?_
      exact Go_iret C hQ hR hw dX12_wrongIn_44
-- X12_judged
abbrev rm_X12_judged : Room := { frames := 3, cells := 0, slots := 0, locals := 74 }
set_option maxRecDepth 100000 in
set_option maxHeartbeats 4000000 in
theorem g_X12_judged_34 {G : GC} (C : Cx G cX12_judged BIG RX12 4 (some .int) rm_X12_judged shM NM) {Q : Int32 → St → Prop} (hQ : QI G RCM Q) (p0 : Int32) (v2 : Int32) {S : St} (hR : RCM S) (hw : w_X12_judged_34 p0 Q v2 S) : Go G 4 34 [] [(0, .ref (Gad G (0))), (1, .int p0), (2, .int v2)] S := by
  obtain ⟨n, hw⟩ := hw
  induction n generalizing v2 S with
  | zero => exact hw.elim
  | succ n ih =>
    have hw : b_X12_judged_34 p0 Q (lpn (fun _ _ => False) (b_X12_judged_34 p0 Q) n) v2 S := hw
    generalize lpn (fun _ _ => False) (b_X12_judged_34 p0 Q) n = kf at hw ih
    have hk34 := fun (v2 : Int32) (S : St) (hR : RCM S) hw => ih v2 hR hw
    unfold b_X12_judged_34 at hw
    refine Go_iload_n (q := 35) C 2 rfl dX12_judged_34 rfl ?_
    refine Go_aload_n (q := 36) C 0 rfl dX12_judged_35 rfl ?_
    refine Go_getI (q := 39) (k := 65) C ci12 iw_12 kM_0 rfl wm_25_4 rfl dX12_judged_36 rfl ?_
    refine Go_icmp_ge (t := 68) (q := 42) C hw dX12_judged_39 rfl rfl (fun hw => ?_) (fun hw => ?_)
    · refine Go_iload_n (q := 69) C 1 rfl dX12_judged_68 rfl ?_
      refine Go_if_ne (t := 76) (q := 72) C hw dX12_judged_69 rfl rfl (fun hw => ?_) (fun hw => ?_)
      · refine Go_iconst (q := 73) (v := (-1 : Int32)) C dX12_judged_72 rfl rfl ?_
        refine Go_goto (q := 77) C dX12_judged_73 rfl ?_
        exact Go_iret C hQ hR hw dX12_judged_77
      · refine Go_iconst (q := 77) (v := (0 : Int32)) C dX12_judged_76 rfl rfl ?_
        exact Go_iret C hQ hR hw dX12_judged_77
    · refine Go_aload_n (q := 43) C 0 rfl dX12_judged_42 rfl ?_
      refine Go_iload_n (q := 44) C 2 rfl dX12_judged_43 rfl ?_
      refine Go_callV_I (av := (fun ad => [.int v2])) (st := []) (C := C) (hM := c_X12_wrongIn (Gl G) hR hw) (hlk := wm_45_10) (hini := wm_1_5) (hins := wm_45_11) (hsel := wm_45_12) (hcode := wm_45_13) (ho := kM_0) (hci := rfl) (hc13 := by decide) (n := 1) (hd := by decide +kernel) (hr0 := ⟨rfl, rfl⟩) (hroom := ⟨by first | decide | (dsimp only; omega), by first | decide | (dsimp only; omega)⟩) (hlen := rfl) (hst := rfl) (hW := Nat.le_of_ble_eq_true rfl) (hdg := dX12_judged_44) (q := 47) (hq := rfl) (fun r44_6 S44_5 hw hR => ?_)
      refine Go_istore_n (q := 48) (lv' := [(3, .int r44_6), (0, .ref (Gad G (0))), (1, .int p0), (2, .int v2)]) C rfl dX12_judged_47 (by decide) rfl rfl ?_
      refine Go_iload_n (q := 49) C 0 rfl dX12_judged_48 rfl ?_
      refine Go_if_le (t := 62) (q := 52) C hw dX12_judged_49 rfl rfl (fun hw => ?_) (fun hw => ?_)
      · refine Go_iinc2 (q := 65) (kp := 3) (cst := (1 : Int32)) C dX12_judged_62 rfl rfl (by decide) rfl (fun x62_7 e_x62_7 => ?_)
        have hw := hw x62_7 e_x62_7
        refine Go_lve (lv' := [(2, .int x62_7), (3, .int r44_6), (0, .ref (Gad G (0))), (1, .int p0)]) rfl ?_
        refine Go_goto (q := 34) C dX12_judged_65 rfl ?_
        refine Go_lvp [2, 3, 0] rfl ?_
        exact hk34 _ _ hR hw
      · refine Go_iload_n (q := 53) C 2 rfl dX12_judged_52 rfl ?_
        refine Go_if_ne (t := 60) (q := 56) C hw dX12_judged_53 rfl rfl (fun hw => ?_) (fun hw => ?_)
        · refine Go_iload_n (q := 57) C 3 rfl dX12_judged_56 rfl ?_
          refine Go_goto (q := 61) C dX12_judged_57 rfl ?_
          exact Go_iret C hQ hR hw dX12_judged_61
        · refine Go_iload_n (q := 61) C 0 rfl dX12_judged_60 rfl ?_
          exact Go_iret C hQ hR hw dX12_judged_61
set_option maxRecDepth 100000 in
set_option maxHeartbeats 4000000 in
theorem g_X12_judged_15 {G : GC} (C : Cx G cX12_judged BIG RX12 4 (some .int) rm_X12_judged shM NM) {Q : Int32 → St → Prop} (hQ : QI G RCM Q) (p0 : Int32) (t0 : Int32) {S : St} (hR : RCM S) (hw : w_X12_judged_15 p0 Q t0 S) : Go G 4 15 [.int t0, .ref (Gad G (0))] [(0, .ref (Gad G (0))), (1, .int p0)] S := by
  unfold w_X12_judged_15 at hw
  refine Go_putI (q := 18) (k := 0) C ci12 iw_12 kM_0 rfl wm_15_14 rfl rfl (ci12.2.2.2.1 0 (by decide)) rfl rfl dX12_judged_15 rfl ?_
  refine Go_S (fun S15_3 e_S15_3 => ?_)
  have hw := hw S15_3 e_S15_3
  have hR := rcM e_S15_3 hR
  refine Go_aload_n (q := 19) C 0 rfl dX12_judged_18 rfl ?_
  refine Go_getI (q := 22) (k := 0) C ci12 iw_12 kM_0 rfl wm_15_14 rfl dX12_judged_19 rfl ?_
  refine Go_iconst (q := 23) (v := (1 : Int32)) C dX12_judged_22 rfl rfl ?_
  refine Go_icmp_ne (t := 28) (q := 26) C hw dX12_judged_23 rfl rfl (fun hw => ?_) (fun hw => ?_)
  · refine Go_iconst (q := 27) (v := (0 : Int32)) C dX12_judged_26 rfl rfl ?_
    exact Go_iret C hQ hR hw dX12_judged_27
  · refine Go_aload_n (q := 29) C 0 rfl dX12_judged_28 rfl ?_
    refine Go_callV_V (av := (fun ad => [])) (st := []) (C := C) (hM := c_X12_classes (Gl G) hR hw) (hlk := wm_37_5) (hini := wm_1_5) (hins := wm_37_6) (hsel := wm_37_7) (hcode := wm_37_8) (ho := kM_0) (hci := rfl) (hc13 := by decide) (n := 0) (hd := by decide +kernel) (hr0 := ⟨rfl, rfl⟩) (hroom := ⟨by first | decide | (dsimp only; omega), by first | decide | (dsimp only; omega)⟩) (hlen := rfl) (hst := rfl) (hW := Nat.le_of_ble_eq_true rfl) (hdg := dX12_judged_29) (q := 32) (hq := rfl) (fun S29_4 hw hR => ?_)
    refine Go_iconst (q := 33) (v := (0 : Int32)) C dX12_judged_32 rfl rfl ?_
    refine Go_istore_n (q := 34) (lv' := [(2, .int (0 : Int32)), (0, .ref (Gad G (0))), (1, .int p0)]) C rfl dX12_judged_33 (by decide) rfl rfl ?_
    refine Go_lvp [1, 2, 0] rfl ?_
    exact g_X12_judged_34 C hQ p0 _ hR hw
set_option maxRecDepth 100000 in
set_option maxHeartbeats 4000000 in
theorem c_X12_judged (l : Launch) {p0 : Int32} {S : St} {Q : Int32 → St → Prop} (hR : RCM S) (hw : w_X12_judged p0 S Q) : MetI l yX12_judged (wB yX12_judged cX12_judged 4 (some .int)) rm_X12_judged shM NM RCM (fun ad => [.ref (ad (0)), .int p0]) S Q := by
  refine MetI_of (cc := cX12_judged) (maxL := 4) (ret := (some .int)) (plainFor_of_name (by decide)) (fun _ => Nat.le_of_ble_eq_true rfl) (fun G C hl hQ => ?_)
  subst hl
  have C : Cx G cX12_judged BIG RX12 4 (some .int) rm_X12_judged shM NM := C
  show Go G 4 0 [] [(0, .ref (Gad G (0))), (1, .int p0)] S
  unfold w_X12_judged at hw
  refine Go_aload_n (q := 1) C 0 rfl dX12_judged_0 rfl ?_
  refine Go_iload_n (q := 2) C 1 rfl dX12_judged_1 rfl ?_
  refine Go_iconst (q := 3) (v := (0 : Int32)) C dX12_judged_2 rfl rfl ?_
  refine Go_iconst (q := 4) (v := (1 : Int32)) C dX12_judged_3 rfl rfl ?_
  refine Go_callS_I (av := (fun ad => [.int p0, .int (0 : Int32), .int (1 : Int32)])) (st := [.ref (Gad G (0))]) (C := C) (hM := c_X12_within (Gl G)  hR hw) (hlk := wm_27_1) (hini := wm_1_5) (hst2 := wm_27_2) (hcode := wm_27_3) (n := 3) (hd := by decide +kernel) (hr0 := ⟨rfl, rfl⟩) (hroom := ⟨by first | decide | (dsimp only; omega), by first | decide | (dsimp only; omega)⟩) (hlen := rfl) (hst := rfl) (hW := Nat.le_of_ble_eq_true rfl) (hdg := dX12_judged_4) (q := 7) (hq := rfl) (fun r4_2 S4_1 hw hR => ?_)
  refine Go_if_eq (t := 14) (q := 10) C hw dX12_judged_7 rfl rfl (fun hw => ?_) (fun hw => ?_)
  · refine Go_iconst (q := 15) (v := (1 : Int32)) C dX12_judged_14 rfl rfl ?_
    refine Go_lvp [0, 1] rfl ?_
    exact g_X12_judged_15 C hQ p0 _ hR hw
  · refine Go_iconst (q := 11) (v := (0 : Int32)) C dX12_judged_10 rfl rfl ?_
    refine Go_goto (q := 15) C dX12_judged_11 rfl ?_
    refine Go_lvp [0, 1] rfl ?_
    exact g_X12_judged_15 C hQ p0 _ hR hw
-- X12_mends
abbrev rm_X12_mends (d : Nat) : Room := { frames := d * 16, cells := 0, slots := 0, locals := d * 700 }

set_option maxRecDepth 100000 in
set_option maxHeartbeats 4000000 in
theorem g_X12_mends_24 {G : GC} {d : Nat} (C : Cx G cX12_mends BIG RX12 4 none (rm_X12_mends (d + 1)) shM NM) {Q : St → Prop} (hQ : QV G RCM Q) {rec : Int32 → Int32 → St → (St → Prop) → Prop} (hrec : ∀ {p0 : Int32} {p1 : Int32} {S : St} {Q : St → Prop}, RCM S → rec p0 p1 S Q → MetV (Gl G) yX12_mends (wB yX12_mends cX12_mends 4 none) (rm_X12_mends d) shM NM RCM (fun ad => [.ref (ad (0)), .int p0, .int p1]) S Q) (v3 : Int32) {S : St} (hR : RCM S) (hw : w_X12_mends_24 Q v3 S) : Go G 4 24 [] [(0, .ref (Gad G (0))), (3, .int v3)] S := by
  obtain ⟨n, hw⟩ := hw
  induction n generalizing v3 S with
  | zero => exact hw.elim
  | succ n ih =>
    have hw : b_X12_mends_24 Q (lpn (fun _ _ => False) (b_X12_mends_24 Q) n) v3 S := hw
    generalize lpn (fun _ _ => False) (b_X12_mends_24 Q) n = kf at hw ih
    have hk24 := fun (v3 : Int32) (S : St) (hR : RCM S) hw => ih v3 hR hw
    unfold b_X12_mends_24 at hw
    refine Go_iload_n (q := 25) C 1 rfl dX12_mends_24 rfl ?_
    refine Go_bipush (q := 27) (v := (12 : Int32)) C dX12_mends_25 rfl rfl ?_
    refine Go_icmp_ge (t := 48) (q := 30) C hw dX12_mends_27 rfl rfl (fun hw => ?_) (fun hw => ?_)
    · exact Go_vret C hQ hR hw dX12_mends_48
    · refine Go_aload_n (q := 31) C 0 rfl dX12_mends_30 rfl ?_
      refine Go_getA (q := 34) (k := 63) C ci12 iw_12 kM_0 (rM_0_63 hR) rfl wm_14_12 rfl dX12_mends_31 rfl ?_
      refine Go_iload_n (q := 35) C 1 rfl dX12_mends_34 rfl ?_
      refine Go_aload_n (q := 36) C 0 rfl dX12_mends_35 rfl ?_
      refine Go_getA (q := 39) (k := 62) C ci12 iw_12 kM_0 (rM_0_62 hR) rfl wm_14_11 rfl dX12_mends_36 rfl ?_
      refine Go_iload_n (q := 40) C 1 rfl dX12_mends_39 rfl ?_
      obtain ⟨hin, hw⟩ := hw
      refine Go_iaload (q := 41) C kM_39 hin dX12_mends_40 rfl ?_
      obtain ⟨hin, hw⟩ := hw
      refine Go_iastore (q := 42) C kM_40 hin dX12_mends_41 rfl ?_
      refine Go_S (fun S41_2 e_S41_2 => ?_)
      have hw := hw S41_2 e_S41_2
      have hR := rcM e_S41_2 hR
      refine Go_iinc2 (q := 45) (kp := 1) (cst := (1 : Int32)) C dX12_mends_42 rfl rfl (by decide) rfl (fun x42_3 e_x42_3 => ?_)
      have hw := hw x42_3 e_x42_3
      refine Go_lve (lv' := [(3, .int x42_3), (0, .ref (Gad G (0)))]) rfl ?_
      refine Go_goto (q := 24) C dX12_mends_45 rfl ?_
      refine Go_lvp [1, 0] rfl ?_
      exact hk24 _ _ hR hw
set_option maxRecDepth 100000 in
set_option maxHeartbeats 4000000 in
theorem g_X12_mends_51 {G : GC} {d : Nat} (C : Cx G cX12_mends BIG RX12 4 none (rm_X12_mends (d + 1)) shM NM) {Q : St → Prop} (hQ : QV G RCM Q) {rec : Int32 → Int32 → St → (St → Prop) → Prop} (hrec : ∀ {p0 : Int32} {p1 : Int32} {S : St} {Q : St → Prop}, RCM S → rec p0 p1 S Q → MetV (Gl G) yX12_mends (wB yX12_mends cX12_mends 4 none) (rm_X12_mends d) shM NM RCM (fun ad => [.ref (ad (0)), .int p0, .int p1]) S Q) (p0 : Int32) (p1 : Int32) (v3 : Int32) {S : St} (hR : RCM S) (hw : w_X12_mends_51 p0 p1 rec Q v3 S) : Go G 4 51 [] [(0, .ref (Gad G (0))), (1, .int p0), (2, .int p1), (3, .int v3)] S := by
  obtain ⟨n, hw⟩ := hw
  induction n generalizing v3 S with
  | zero => exact hw.elim
  | succ n ih =>
    have hw : b_X12_mends_51 p0 p1 rec Q (lpn (fun _ _ => False) (b_X12_mends_51 p0 p1 rec Q) n) v3 S := hw
    generalize lpn (fun _ _ => False) (b_X12_mends_51 p0 p1 rec Q) n = kf at hw ih
    have hk51 := fun (v3 : Int32) (S : St) (hR : RCM S) hw => ih v3 hR hw
    unfold b_X12_mends_51 at hw
    refine Go_iload_n (q := 52) C 3 rfl dX12_mends_51 rfl ?_
    refine Go_aload_n (q := 53) C 0 rfl dX12_mends_52 rfl ?_
    refine Go_getI (q := 56) (k := 15) C ci12 iw_12 kM_0 rfl wm_25_1 rfl dX12_mends_53 rfl ?_
    refine Go_icmp_ge (t := 110) (q := 59) C hw dX12_mends_56 rfl rfl (fun hw => ?_) (fun hw => ?_)
    · exact Go_vret C hQ hR hw dX12_mends_110
    · refine Go_aload_n (q := 60) C 0 rfl dX12_mends_59 rfl ?_
      refine Go_iload_n (q := 61) C 1 rfl dX12_mends_60 rfl ?_
      refine Go_iload_n (q := 62) C 3 rfl dX12_mends_61 rfl ?_
      refine Go_iconst (q := 63) (v := (1 : Int32)) C dX12_mends_62 rfl rfl ?_
      refine Go_iload_n (q := 64) C 1 rfl dX12_mends_63 rfl ?_
      refine Go_ishl (q := 65) C dX12_mends_64 rfl ?_
      refine Go_iconst (q := 66) (v := (1 : Int32)) C dX12_mends_65 rfl rfl ?_
      refine Go_isub (q := 67) C dX12_mends_66 rfl ?_
      refine Go_iconst (q := 68) (v := (0 : Int32)) C dX12_mends_67 rfl rfl ?_
      refine Go_callV_I (av := (fun ad => [.int p0, .int v3, .int (((1 : Int32) <<< (p0 &&& 31)) - (1 : Int32)), .int (0 : Int32)])) (st := []) (C := C) (hM := c_X12_goes (Gl G) hR hw) (hlk := wm_42_0) (hini := wm_1_5) (hins := wm_42_1) (hsel := wm_42_2) (hcode := wm_42_3) (ho := kM_0) (hci := rfl) (hc13 := by decide) (n := 4) (hd := by decide +kernel) (hr0 := ⟨rfl, rfl⟩) (hroom := ⟨by first | decide | (dsimp only; omega), by first | decide | (dsimp only; omega)⟩) (hlen := rfl) (hst := rfl) (hW := Nat.le_of_ble_eq_true rfl) (hdg := dX12_mends_68) (q := 71) (hq := rfl) (fun r68_5 S68_4 hw hR => ?_)
      refine Go_if_ne (t := 77) (q := 74) C hw dX12_mends_71 rfl rfl (fun hw => ?_) (fun hw => ?_)
      · refine Go_goto (q := 104) C dX12_mends_74 rfl ?_
        refine Go_iinc2 (q := 107) (kp := 3) (cst := (1 : Int32)) C dX12_mends_104 rfl rfl (by decide) rfl (fun x104_6 e_x104_6 => ?_)
        have hw := hw x104_6 e_x104_6
        refine Go_lve (lv' := [(3, .int x104_6), (0, .ref (Gad G (0))), (1, .int p0), (2, .int p1)]) rfl ?_
        refine Go_goto (q := 51) C dX12_mends_107 rfl ?_
        refine Go_lvp [1, 2, 3, 0] rfl ?_
        exact hk51 _ _ hR hw
      · refine Go_aload_n (q := 78) C 0 rfl dX12_mends_77 rfl ?_
        refine Go_getA (q := 81) (k := 62) C ci12 iw_12 kM_0 (rM_0_62 hR) rfl wm_14_11 rfl dX12_mends_78 rfl ?_
        refine Go_iload_n (q := 82) C 1 rfl dX12_mends_81 rfl ?_
        refine Go_iload_n (q := 83) C 3 rfl dX12_mends_82 rfl ?_
        obtain ⟨hin, hw⟩ := hw
        refine Go_iastore (q := 84) C kM_39 hin dX12_mends_83 rfl ?_
        refine Go_S (fun S83_7 e_S83_7 => ?_)
        have hw := hw S83_7 e_S83_7
        have hR := rcM e_S83_7 hR
        refine Go_aload_n (q := 85) C 0 rfl dX12_mends_84 rfl ?_
        refine Go_iload_n (q := 86) C 1 rfl dX12_mends_85 rfl ?_
        refine Go_iconst (q := 87) (v := (1 : Int32)) C dX12_mends_86 rfl rfl ?_
        refine Go_iadd (q := 88) C dX12_mends_87 rfl ?_
        refine Go_iload_n (q := 89) C 2 rfl dX12_mends_88 rfl ?_
        refine Go_aload_n (q := 90) C 0 rfl dX12_mends_89 rfl ?_
        refine Go_getA (q := 93) (k := 69) C ci12 iw_12 kM_0 (rM_0_69 hR) rfl wm_14_16 rfl dX12_mends_90 rfl ?_
        refine Go_bipush (q := 95) (v := (12 : Int32)) C dX12_mends_93 rfl rfl ?_
        refine Go_iload_n (q := 96) C 1 rfl dX12_mends_95 rfl ?_
        refine Go_imul (q := 97) C dX12_mends_96 rfl ?_
        refine Go_iload_n (q := 98) C 3 rfl dX12_mends_97 rfl ?_
        refine Go_iadd (q := 99) C dX12_mends_98 rfl ?_
        obtain ⟨hin, hw⟩ := hw
        refine Go_iaload (q := 100) C kM_44 hin dX12_mends_99 rfl ?_
        refine Go_iadd (q := 101) C dX12_mends_100 rfl ?_
        refine Go_callV_V (av := (fun ad => [.int (p0 + (1 : Int32)), .int (p1 + (gI S83_7 44 (((12 : Int32) * p0) + v3).toNatClampNeg))])) (st := []) (C := C) (hM := hrec hR hw) (hlk := wm_47_23) (hini := wm_1_5) (hins := wm_48_0) (hsel := wm_48_1) (hcode := wm_48_2) (ho := kM_0) (hci := rfl) (hc13 := by decide) (n := 2) (hd := by decide +kernel) (hr0 := ⟨rfl, rfl⟩) (hroom := ⟨by first | decide | (dsimp only; omega), by first | decide | (dsimp only; omega)⟩) (hlen := rfl) (hst := rfl) (hW := Nat.le_of_ble_eq_true rfl) (hdg := dX12_mends_101) (q := 104) (hq := rfl) (fun S101_8 hw hR => ?_)
        refine Go_iinc2 (q := 107) (kp := 3) (cst := (1 : Int32)) C dX12_mends_104 rfl rfl (by decide) rfl (fun x104_9 e_x104_9 => ?_)
        have hw := hw x104_9 e_x104_9
        refine Go_lve (lv' := [(3, .int x104_9), (0, .ref (Gad G (0))), (1, .int p0), (2, .int p1)]) rfl ?_
        refine Go_goto (q := 51) C dX12_mends_107 rfl ?_
        refine Go_lvp [1, 2, 3, 0] rfl ?_
        exact hk51 _ _ hR hw
set_option maxRecDepth 100000 in
set_option maxHeartbeats 4000000 in
theorem h_X12_mends (l : Launch) {d : Nat} {rec : Int32 → Int32 → St → (St → Prop) → Prop} (hrec : ∀ {p0 : Int32} {p1 : Int32} {S : St} {Q : St → Prop}, RCM S → rec p0 p1 S Q → MetV l yX12_mends (wB yX12_mends cX12_mends 4 none) (rm_X12_mends d) shM NM RCM (fun ad => [.ref (ad (0)), .int p0, .int p1]) S Q) {p0 : Int32} {p1 : Int32} {S : St} {Q : St → Prop} (hR : RCM S) (hw : u_X12_mends rec p0 p1 S Q) : MetV l yX12_mends (wB yX12_mends cX12_mends 4 none) (rm_X12_mends (d + 1)) shM NM RCM (fun ad => [.ref (ad (0)), .int p0, .int p1]) S Q := by
  refine MetV_of (cc := cX12_mends) (maxL := 4) (ret := none) (plainFor_of_name (by decide)) (fun _ => Nat.le_of_ble_eq_true rfl) (fun G C hl hQ => ?_)
  subst hl
  have C : Cx G cX12_mends BIG RX12 4 none (rm_X12_mends (d + 1)) shM NM := C
  show Go G 4 0 [] [(0, .ref (Gad G (0))), (1, .int p0), (2, .int p1)] S
  unfold u_X12_mends at hw
  refine Go_iload_n (q := 1) C 2 rfl dX12_mends_0 rfl ?_
  refine Go_aload_n (q := 2) C 0 rfl dX12_mends_1 rfl ?_
  refine Go_getI (q := 5) (k := 70) C ci12 iw_12 kM_0 rfl wm_47_18 rfl dX12_mends_2 rfl ?_
  refine Go_icmp_lt (t := 9) (q := 8) C hw dX12_mends_5 rfl rfl (fun hw => ?_) (fun hw => ?_)
  · refine Go_iload_n (q := 10) C 1 rfl dX12_mends_9 rfl ?_
    refine Go_aload_n (q := 11) C 0 rfl dX12_mends_10 rfl ?_
    refine Go_getI (q := 14) (k := 10) C ci12 iw_12 kM_0 rfl wm_14_20 rfl dX12_mends_11 rfl ?_
    refine Go_icmp_ne (t := 49) (q := 17) C hw dX12_mends_14 rfl rfl (fun hw => ?_) (fun hw => ?_)
    · refine Go_aload_n (q := 18) C 0 rfl dX12_mends_17 rfl ?_
      refine Go_iload_n (q := 19) C 2 rfl dX12_mends_18 rfl ?_
      refine Go_putI (q := 22) (k := 70) C ci12 iw_12 kM_0 rfl wm_47_18 rfl rfl (ci12.2.2.2.1 70 (by decide)) rfl rfl dX12_mends_19 rfl ?_
      refine Go_S (fun S19_1 e_S19_1 => ?_)
      have hw := hw S19_1 e_S19_1
      have hR := rcM e_S19_1 hR
      refine Go_iconst (q := 23) (v := (0 : Int32)) C dX12_mends_22 rfl rfl ?_
      refine Go_istore_n (q := 24) (lv' := [(3, .int (0 : Int32)), (0, .ref (Gad G (0))), (1, .int p0), (2, .int p1)]) C rfl dX12_mends_23 (by decide) rfl rfl ?_
      refine Go_lvp [1, 0] rfl ?_
      exact g_X12_mends_24 C hQ @hrec _ hR hw
    · refine Go_iconst (q := 50) (v := (0 : Int32)) C dX12_mends_49 rfl rfl ?_
      refine Go_istore_n (q := 51) (lv' := [(3, .int (0 : Int32)), (0, .ref (Gad G (0))), (1, .int p0), (2, .int p1)]) C rfl dX12_mends_50 (by decide) rfl rfl ?_
      refine Go_lvp [1, 2, 3, 0] rfl ?_
      exact g_X12_mends_51 C hQ @hrec p0 p1 _ hR hw
  · exact Go_vret C hQ hR hw dX12_mends_8
theorem c_X12_mends (l : Launch) : ∀ (d : Nat) {p0 : Int32} {p1 : Int32} {S : St} {Q : St → Prop}, RCM S → w_X12_mends d p0 p1 S Q → MetV l yX12_mends (wB yX12_mends cX12_mends 4 none) (rm_X12_mends d) shM NM RCM (fun ad => [.ref (ad (0)), .int p0, .int p1]) S Q := by
  intro d
  induction d with
  | zero => intro _ _ _ _ _ hw; exact hw.elim
  | succ d ih => intro p0 p1 S Q hR hw; exact h_X12_mends l (d := d) (rec := w_X12_mends d) @ih  hR hw
-- X12_hasMended
abbrev rm_X12_hasMended : Room := { frames := 513, cells := 0, slots := 0, locals := 22423 }
set_option maxRecDepth 100000 in
set_option maxHeartbeats 4000000 in
theorem g_X12_hasMended_102 {G : GC} (C : Cx G cX12_hasMended BIG RX12 4 (some .boolean) rm_X12_hasMended shM NM) {Q : Int32 → St → Prop} (hQ : QI G RCM Q) (v1 : Int32) (v2 : Int32) (v3 : Int32) (t0 : Int32) (t1 : Int32) (t2 : Int32) {k67 : Int32 → St → Prop} (hk67 : ∀ (v3 : Int32) (S : St), RCM S → k67 v3 S → Go G 4 67 [] [(0, .ref (Gad G (0))), (1, .int v1), (2, .int v2), (3, .int v3)] S) {S : St} (hR : RCM S) (hw : w_X12_hasMended_102 k67 v1 v2 v3 t0 t1 t2 S) : Go G 4 102 [.int t0, .int t1, .int t2, .ref (Gad G (44))] [(0, .ref (Gad G (0))), (1, .int v1), (2, .int v2), (3, .int v3)] S := by
  unfold w_X12_hasMended_102 at hw
  refine Go_iadd (q := 103) C dX12_hasMended_102 rfl ?_
  obtain ⟨hin, hw⟩ := hw
  refine Go_iastore (q := 104) C kM_44 hin dX12_hasMended_103 rfl ?_
  refine Go_S (fun S103_8 e_S103_8 => ?_)
  have hw := hw S103_8 e_S103_8
  have hR := rcM e_S103_8 hR
  refine Go_iinc2 (q := 107) (kp := 3) (cst := (1 : Int32)) C dX12_hasMended_104 rfl rfl (by decide) rfl (fun x104_9 e_x104_9 => ?_)
  have hw := hw x104_9 e_x104_9
  refine Go_lve (lv' := [(3, .int x104_9), (0, .ref (Gad G (0))), (1, .int v1), (2, .int v2)]) rfl ?_
  refine Go_goto (q := 67) C dX12_hasMended_107 rfl ?_
  refine Go_lvp [1, 2, 3, 0] rfl ?_
  exact hk67 _ _ hR hw
set_option maxRecDepth 100000 in
set_option maxHeartbeats 4000000 in
theorem g_X12_hasMended_67 {G : GC} (C : Cx G cX12_hasMended BIG RX12 4 (some .boolean) rm_X12_hasMended shM NM) {Q : Int32 → St → Prop} (hQ : QI G RCM Q) (v1 : Int32) (v2 : Int32) {k39 : Int32 → St → Prop} (hk39 : ∀ (v1 : Int32) (S : St), RCM S → k39 v1 S → Go G 4 39 [] [(0, .ref (Gad G (0))), (1, .int v1)] S) (v3 : Int32) {S : St} (hR : RCM S) (hw : w_X12_hasMended_67 k39 v1 v2 v3 S) : Go G 4 67 [] [(0, .ref (Gad G (0))), (1, .int v1), (2, .int v2), (3, .int v3)] S := by
  obtain ⟨n, hw⟩ := hw
  induction n generalizing v3 S with
  | zero => exact hw.elim
  | succ n ih =>
    have hw : b_X12_hasMended_67 k39 v1 v2 (lpn (fun _ _ => False) (b_X12_hasMended_67 k39 v1 v2) n) v3 S := hw
    generalize lpn (fun _ _ => False) (b_X12_hasMended_67 k39 v1 v2) n = kf at hw ih
    have hk67 := fun (v3 : Int32) (S : St) (hR : RCM S) hw => ih v3 hR hw
    unfold b_X12_hasMended_67 at hw
    refine Go_iload_n (q := 68) C 3 rfl dX12_hasMended_67 rfl ?_
    refine Go_aload_n (q := 69) C 0 rfl dX12_hasMended_68 rfl ?_
    refine Go_getI (q := 72) (k := 15) C ci12 iw_12 kM_0 rfl wm_25_1 rfl dX12_hasMended_69 rfl ?_
    refine Go_icmp_ge (t := 110) (q := 75) C hw dX12_hasMended_72 rfl rfl (fun hw => ?_) (fun hw => ?_)
    · refine Go_iinc2 (q := 113) (kp := 1) (cst := (1 : Int32)) C dX12_hasMended_110 rfl rfl (by decide) rfl (fun x110_7 e_x110_7 => ?_)
      have hw := hw x110_7 e_x110_7
      refine Go_lve (lv' := [(1, .int x110_7), (0, .ref (Gad G (0))), (2, .int v2), (3, .int v3)]) rfl ?_
      refine Go_goto (q := 39) C dX12_hasMended_113 rfl ?_
      refine Go_lvp [1, 0] rfl ?_
      exact hk39 _ _ hR hw
    · refine Go_aload_n (q := 76) C 0 rfl dX12_hasMended_75 rfl ?_
      refine Go_getA (q := 79) (k := 69) C ci12 iw_12 kM_0 (rM_0_69 hR) rfl wm_14_16 rfl dX12_hasMended_76 rfl ?_
      refine Go_bipush (q := 81) (v := (12 : Int32)) C dX12_hasMended_79 rfl rfl ?_
      refine Go_iload_n (q := 82) C 2 rfl dX12_hasMended_81 rfl ?_
      refine Go_imul (q := 83) C dX12_hasMended_82 rfl ?_
      refine Go_iload_n (q := 84) C 3 rfl dX12_hasMended_83 rfl ?_
      refine Go_iadd (q := 85) C dX12_hasMended_84 rfl ?_
      refine Go_dup2 (q := 86) C rfl rfl dX12_hasMended_85 rfl ?_
      obtain ⟨hin, hw⟩ := hw
      refine Go_iaload (q := 87) C kM_44 hin dX12_hasMended_86 rfl ?_
      refine Go_iload_n (q := 88) C 3 rfl dX12_hasMended_87 rfl ?_
      refine Go_aload_n (q := 89) C 0 rfl dX12_hasMended_88 rfl ?_
      refine Go_getA (q := 92) (k := 66) C ci12 iw_12 kM_0 (rM_0_66 hR) rfl wm_14_13 rfl dX12_hasMended_89 rfl ?_
      refine Go_iload_n (q := 93) C 1 rfl dX12_hasMended_92 rfl ?_
      obtain ⟨hin, hw⟩ := hw
      refine Go_iaload (q := 94) C kM_41 hin dX12_hasMended_93 rfl ?_
      refine Go_icmp_ne (t := 101) (q := 97) C hw dX12_hasMended_94 rfl rfl (fun hw => ?_) (fun hw => ?_)
      · refine Go_iconst (q := 98) (v := (0 : Int32)) C dX12_hasMended_97 rfl rfl ?_
        refine Go_goto (q := 102) C dX12_hasMended_98 rfl ?_
        refine Go_lvp [0, 1, 2, 3] rfl ?_
        exact g_X12_hasMended_102 C hQ _ _ _ _ _ _ hk67 hR hw
      · refine Go_iconst (q := 102) (v := (1 : Int32)) C dX12_hasMended_101 rfl rfl ?_
        refine Go_lvp [0, 1, 2, 3] rfl ?_
        exact g_X12_hasMended_102 C hQ _ _ _ _ _ _ hk67 hR hw
set_option maxRecDepth 100000 in
set_option maxHeartbeats 4000000 in
theorem g_X12_hasMended_39 {G : GC} (C : Cx G cX12_hasMended BIG RX12 4 (some .boolean) rm_X12_hasMended shM NM) {Q : Int32 → St → Prop} (hQ : QI G RCM Q) (v1 : Int32) {S : St} (hR : RCM S) (hw : w_X12_hasMended_39 Q v1 S) : Go G 4 39 [] [(0, .ref (Gad G (0))), (1, .int v1)] S := by
  obtain ⟨n, hw⟩ := hw
  induction n generalizing v1 S with
  | zero => exact hw.elim
  | succ n ih =>
    have hw : b_X12_hasMended_39 Q (lpn (fun _ _ => False) (b_X12_hasMended_39 Q) n) v1 S := hw
    generalize lpn (fun _ _ => False) (b_X12_hasMended_39 Q) n = kf at hw ih
    have hk39 := fun (v1 : Int32) (S : St) (hR : RCM S) hw => ih v1 hR hw
    unfold b_X12_hasMended_39 at hw
    refine Go_iload_n (q := 40) C 1 rfl dX12_hasMended_39 rfl ?_
    refine Go_aload_n (q := 41) C 0 rfl dX12_hasMended_40 rfl ?_
    refine Go_getI (q := 44) (k := 65) C ci12 iw_12 kM_0 rfl wm_25_4 rfl dX12_hasMended_41 rfl ?_
    refine Go_icmp_ge (t := 116) (q := 47) C hw dX12_hasMended_44 rfl rfl (fun hw => ?_) (fun hw => ?_)
    · refine Go_aload_n (q := 117) C 0 rfl dX12_hasMended_116 rfl ?_
      refine Go_sipush (q := 120) (v := (1000 : Int32)) C dX12_hasMended_117 rfl rfl ?_
      refine Go_putI (q := 123) (k := 70) C ci12 iw_12 kM_0 rfl wm_47_18 rfl rfl (ci12.2.2.2.1 70 (by decide)) rfl rfl dX12_hasMended_120 rfl ?_
      refine Go_S (fun S120_2 e_S120_2 => ?_)
      have hw := hw S120_2 e_S120_2
      have hR := rcM e_S120_2 hR
      refine Go_aload_n (q := 124) C 0 rfl dX12_hasMended_123 rfl ?_
      refine Go_iconst (q := 125) (v := (0 : Int32)) C dX12_hasMended_124 rfl rfl ?_
      refine Go_iconst (q := 126) (v := (0 : Int32)) C dX12_hasMended_125 rfl rfl ?_
      obtain ⟨d126_4, hle_d126_4, hw⟩ := hw
      refine Go_callV_V (av := (fun ad => [.int (0 : Int32), .int (0 : Int32)])) (st := []) (C := C) (hM := c_X12_mends (Gl G) d126_4 hR hw) (hlk := wm_47_23) (hini := wm_1_5) (hins := wm_48_0) (hsel := wm_48_1) (hcode := wm_48_2) (ho := kM_0) (hci := rfl) (hc13 := by decide) (n := 2) (hd := by decide +kernel) (hr0 := ⟨rfl, rfl⟩) (hroom := ⟨by first | decide | (dsimp only; omega), by first | decide | (dsimp only; omega)⟩) (hlen := rfl) (hst := rfl) (hW := Nat.le_of_ble_eq_true rfl) (hdg := dX12_hasMended_126) (q := 129) (hq := rfl) (fun S126_3 hw hR => ?_)
      refine Go_aload_n (q := 130) C 0 rfl dX12_hasMended_129 rfl ?_
      refine Go_getI (q := 133) (k := 70) C ci12 iw_12 kM_0 rfl wm_47_18 rfl dX12_hasMended_130 rfl ?_
      refine Go_sipush (q := 136) (v := (1000 : Int32)) C dX12_hasMended_133 rfl rfl ?_
      refine Go_icmp_ge (t := 143) (q := 139) C hw dX12_hasMended_136 rfl rfl (fun hw => ?_) (fun hw => ?_)
      · refine Go_iconst (q := 144) (v := (0 : Int32)) C dX12_hasMended_143 rfl rfl ?_
        exact Go_zret C hQ hR rfl hw dX12_hasMended_144
      · refine Go_iconst (q := 140) (v := (1 : Int32)) C dX12_hasMended_139 rfl rfl ?_
        refine Go_goto (q := 144) C dX12_hasMended_140 rfl ?_
        exact Go_zret C hQ hR rfl hw dX12_hasMended_144
    · refine Go_aload_n (q := 48) C 0 rfl dX12_hasMended_47 rfl ?_
      refine Go_iload_n (q := 49) C 1 rfl dX12_hasMended_48 rfl ?_
      refine Go_aload_n (q := 50) C 0 rfl dX12_hasMended_49 rfl ?_
      refine Go_getI (q := 53) (k := 10) C ci12 iw_12 kM_0 rfl wm_14_20 rfl dX12_hasMended_50 rfl ?_
      obtain ⟨hne, hw⟩ := hw
      refine Go_idiv (q := 54) C hne dX12_hasMended_53 rfl ?_
      refine Go_i2l (q := 55) C dX12_hasMended_54 rfl ?_
      refine Go_iload_n (q := 56) C 1 rfl dX12_hasMended_55 rfl ?_
      refine Go_aload_n (q := 57) C 0 rfl dX12_hasMended_56 rfl ?_
      refine Go_getI (q := 60) (k := 10) C ci12 iw_12 kM_0 rfl wm_14_20 rfl dX12_hasMended_57 rfl ?_
      obtain ⟨hne, hw⟩ := hw
      refine Go_irem (q := 61) C hne dX12_hasMended_60 rfl ?_
      refine Go_callV_I (av := (fun ad => [.long ((v1 / (gI S 0 10)).toInt64), .int (v1 - v1 / (gI S 0 10) * (gI S 0 10))])) (st := []) (C := C) (hM := c_X12_endAt (Gl G) hR hw) (hlk := wm_33_10) (hini := wm_1_5) (hins := wm_33_11) (hsel := wm_33_12) (hcode := wm_33_13) (ho := kM_0) (hci := rfl) (hc13 := by decide) (n := 2) (hd := by decide +kernel) (hr0 := ⟨rfl, rfl⟩) (hroom := ⟨by first | decide | (dsimp only; omega), by first | decide | (dsimp only; omega)⟩) (hlen := rfl) (hst := rfl) (hW := Nat.le_of_ble_eq_true rfl) (hdg := dX12_hasMended_61) (q := 64) (hq := rfl) (fun r61_6 S61_5 hw hR => ?_)
      refine Go_istore_n (q := 65) (lv' := [(2, .int r61_6), (0, .ref (Gad G (0))), (1, .int v1)]) C rfl dX12_hasMended_64 (by decide) rfl rfl ?_
      refine Go_iconst (q := 66) (v := (0 : Int32)) C dX12_hasMended_65 rfl rfl ?_
      refine Go_istore_n (q := 67) (lv' := [(3, .int (0 : Int32)), (2, .int r61_6), (0, .ref (Gad G (0))), (1, .int v1)]) C rfl dX12_hasMended_66 (by decide) rfl rfl ?_
      refine Go_lvp [2, 3, 1, 0] rfl ?_
      exact g_X12_hasMended_67 C hQ _ _ hk39 _ hR hw
set_option maxRecDepth 100000 in
set_option maxHeartbeats 4000000 in
theorem g_X12_hasMended_17 {G : GC} (C : Cx G cX12_hasMended BIG RX12 4 (some .boolean) rm_X12_hasMended shM NM) {Q : Int32 → St → Prop} (hQ : QI G RCM Q) (v1 : Int32) {S : St} (hR : RCM S) (hw : w_X12_hasMended_17 Q v1 S) : Go G 4 17 [] [(0, .ref (Gad G (0))), (1, .int v1)] S := by
  obtain ⟨n, hw⟩ := hw
  induction n generalizing v1 S with
  | zero => exact hw.elim
  | succ n ih =>
    have hw : b_X12_hasMended_17 Q (lpn (fun _ _ => False) (b_X12_hasMended_17 Q) n) v1 S := hw
    generalize lpn (fun _ _ => False) (b_X12_hasMended_17 Q) n = kf at hw ih
    have hk17 := fun (v1 : Int32) (S : St) (hR : RCM S) hw => ih v1 hR hw
    unfold b_X12_hasMended_17 at hw
    refine Go_iload_n (q := 18) C 1 rfl dX12_hasMended_17 rfl ?_
    refine Go_sipush (q := 21) (v := (144 : Int32)) C dX12_hasMended_18 rfl rfl ?_
    refine Go_icmp_ge (t := 37) (q := 24) C hw dX12_hasMended_21 rfl rfl (fun hw => ?_) (fun hw => ?_)
    · refine Go_iconst (q := 38) (v := (0 : Int32)) C dX12_hasMended_37 rfl rfl ?_
      refine Go_istore_n (q := 39) (lv' := [(1, .int (0 : Int32)), (0, .ref (Gad G (0)))]) C rfl dX12_hasMended_38 (by decide) rfl rfl ?_
      refine Go_lvp [1, 0] rfl ?_
      exact g_X12_hasMended_39 C hQ _ hR hw
    · refine Go_aload_n (q := 25) C 0 rfl dX12_hasMended_24 rfl ?_
      refine Go_getA (q := 28) (k := 69) C ci12 iw_12 kM_0 (rM_0_69 hR) rfl wm_14_16 rfl dX12_hasMended_25 rfl ?_
      refine Go_iload_n (q := 29) C 1 rfl dX12_hasMended_28 rfl ?_
      refine Go_iconst (q := 30) (v := (0 : Int32)) C dX12_hasMended_29 rfl rfl ?_
      obtain ⟨hin, hw⟩ := hw
      refine Go_iastore (q := 31) C kM_44 hin dX12_hasMended_30 rfl ?_
      refine Go_S (fun S30_10 e_S30_10 => ?_)
      have hw := hw S30_10 e_S30_10
      have hR := rcM e_S30_10 hR
      refine Go_iinc2 (q := 34) (kp := 1) (cst := (1 : Int32)) C dX12_hasMended_31 rfl rfl (by decide) rfl (fun x31_11 e_x31_11 => ?_)
      have hw := hw x31_11 e_x31_11
      refine Go_lve (lv' := [(1, .int x31_11), (0, .ref (Gad G (0)))]) rfl ?_
      refine Go_goto (q := 17) C dX12_hasMended_34 rfl ?_
      refine Go_lvp [1, 0] rfl ?_
      exact hk17 _ _ hR hw
set_option maxRecDepth 100000 in
set_option maxHeartbeats 4000000 in
theorem c_X12_hasMended (l : Launch) {S : St} {Q : Int32 → St → Prop} (hR : RCM S) (hw : w_X12_hasMended S Q) : MetI l yX12_hasMended (wB yX12_hasMended cX12_hasMended 4 (some .boolean)) rm_X12_hasMended shM NM RCM (fun ad => [.ref (ad (0))]) S Q := by
  refine MetI_of (cc := cX12_hasMended) (maxL := 4) (ret := (some .boolean)) (plainFor_of_name (by decide)) (fun _ => Nat.le_of_ble_eq_true rfl) (fun G C hl hQ => ?_)
  subst hl
  have C : Cx G cX12_hasMended BIG RX12 4 (some .boolean) rm_X12_hasMended shM NM := C
  show Go G 4 0 [] [(0, .ref (Gad G (0)))] S
  unfold w_X12_hasMended at hw
  refine Go_aload_n (q := 1) C 0 rfl dX12_hasMended_0 rfl ?_
  refine Go_getI (q := 4) (k := 10) C ci12 iw_12 kM_0 rfl wm_14_20 rfl dX12_hasMended_1 rfl ?_
  refine Go_bipush (q := 6) (v := (7 : Int32)) C dX12_hasMended_4 rfl rfl ?_
  refine Go_icmp_le (t := 11) (q := 9) C hw dX12_hasMended_6 rfl rfl (fun hw => ?_) (fun hw => ?_)
  · refine Go_aload_n (q := 12) C 0 rfl dX12_hasMended_11 rfl ?_
    refine Go_callV_V (av := (fun ad => [])) (st := []) (C := C) (hM := c_X12_classes (Gl G)  hR hw) (hlk := wm_37_5) (hini := wm_1_5) (hins := wm_37_6) (hsel := wm_37_7) (hcode := wm_37_8) (ho := kM_0) (hci := rfl) (hc13 := by decide) (n := 0) (hd := by decide +kernel) (hr0 := ⟨rfl, rfl⟩) (hroom := ⟨by first | decide | (dsimp only; omega), by first | decide | (dsimp only; omega)⟩) (hlen := rfl) (hst := rfl) (hW := Nat.le_of_ble_eq_true rfl) (hdg := dX12_hasMended_12) (q := 15) (hq := rfl) (fun S12_1 hw hR => ?_)
    refine Go_iconst (q := 16) (v := (0 : Int32)) C dX12_hasMended_15 rfl rfl ?_
    refine Go_istore_n (q := 17) (lv' := [(1, .int (0 : Int32)), (0, .ref (Gad G (0)))]) C rfl dX12_hasMended_16 (by decide) rfl rfl ?_
    refine Go_lvp [1, 0] rfl ?_
    exact g_X12_hasMended_17 C hQ _ hR hw
  · refine Go_iconst (q := 10) (v := (0 : Int32)) C dX12_hasMended_9 rfl rfl ?_
    exact Go_zret C hQ hR rfl hw dX12_hasMended_10
-- X12_mend
abbrev rm_X12_mend : Room := { frames := 514, cells := 0, slots := 0, locals := 22446 }
set_option maxRecDepth 100000 in
set_option maxHeartbeats 4000000 in
theorem c_X12_mend (l : Launch) {S : St} {Q : Int32 → St → Prop} (hR : RCM S) (hw : w_X12_mend S Q) : MetI l yX12_mend (wB yX12_mend cX12_mend 1 (some .int)) rm_X12_mend shM NM RCM (fun ad => [.ref (ad (0))]) S Q := by
  refine MetI_of (cc := cX12_mend) (maxL := 1) (ret := (some .int)) (plainFor_of_name (by decide)) (fun _ => Nat.le_of_ble_eq_true rfl) (fun G C hl hQ => ?_)
  subst hl
  have C : Cx G cX12_mend BIG RX12 1 (some .int) rm_X12_mend shM NM := C
  show Go G 1 0 [] [(0, .ref (Gad G (0)))] S
  unfold w_X12_mend at hw
  refine Go_aload_n (q := 1) C 0 rfl dX12_mend_0 rfl ?_
  refine Go_iconst (q := 2) (v := (0 : Int32)) C dX12_mend_1 rfl rfl ?_
  refine Go_putI (q := 5) (k := 0) C ci12 iw_12 kM_0 rfl wm_15_14 rfl rfl (ci12.2.2.2.1 0 (by decide)) rfl rfl dX12_mend_2 rfl ?_
  refine Go_S (fun S2_1 e_S2_1 => ?_)
  have hw := hw S2_1 e_S2_1
  have hR := rcM e_S2_1 hR
  refine Go_aload_n (q := 6) C 0 rfl dX12_mend_5 rfl ?_
  refine Go_callV_I (av := (fun ad => [])) (st := []) (C := C) (hM := c_X12_hasMended (Gl G)  hR hw) (hlk := wm_47_19) (hini := wm_1_5) (hins := wm_47_20) (hsel := wm_47_21) (hcode := wm_47_22) (ho := kM_0) (hci := rfl) (hc13 := by decide) (n := 0) (hd := by decide +kernel) (hr0 := ⟨rfl, rfl⟩) (hroom := ⟨by first | decide | (dsimp only; omega), by first | decide | (dsimp only; omega)⟩) (hlen := rfl) (hst := rfl) (hW := Nat.le_of_ble_eq_true rfl) (hdg := dX12_mend_6) (q := 9) (hq := rfl) (fun r6_3 S6_2 hw hR => ?_)
  refine Go_if_eq (t := 19) (q := 12) C hw dX12_mend_9 rfl rfl (fun hw => ?_) (fun hw => ?_)
  · refine Go_iconst (q := 20) (v := (-1 : Int32)) C dX12_mend_19 rfl rfl ?_
    exact Go_iret C hQ hR hw dX12_mend_20
  · refine Go_aload_n (q := 13) C 0 rfl dX12_mend_12 rfl ?_
    refine Go_getI (q := 16) (k := 70) C ci12 iw_12 kM_0 rfl wm_47_18 rfl dX12_mend_13 rfl ?_
    refine Go_goto (q := 20) C dX12_mend_16 rfl ?_
    exact Go_iret C hQ hR hw dX12_mend_20
-- X12_mended
abbrev rm_X12_mended : Room := { frames := 514, cells := 0, slots := 0, locals := 22446 }
set_option maxRecDepth 100000 in
set_option maxHeartbeats 4000000 in
theorem c_X12_mended (l : Launch) {p0 : Int32} {S : St} {Q : Int32 → St → Prop} (hR : RCM S) (hw : w_X12_mended p0 S Q) : MetI l yX12_mended (wB yX12_mended cX12_mended 2 (some .int)) rm_X12_mended shM NM RCM (fun ad => [.ref (ad (0)), .int p0]) S Q := by
  refine MetI_of (cc := cX12_mended) (maxL := 2) (ret := (some .int)) (plainFor_of_name (by decide)) (fun _ => Nat.le_of_ble_eq_true rfl) (fun G C hl hQ => ?_)
  subst hl
  have C : Cx G cX12_mended BIG RX12 2 (some .int) rm_X12_mended shM NM := C
  show Go G 2 0 [] [(0, .ref (Gad G (0))), (1, .int p0)] S
  unfold w_X12_mended at hw
  refine Go_aload_n (q := 1) C 0 rfl dX12_mended_0 rfl ?_
  refine Go_iconst (q := 2) (v := (0 : Int32)) C dX12_mended_1 rfl rfl ?_
  refine Go_putI (q := 5) (k := 0) C ci12 iw_12 kM_0 rfl wm_15_14 rfl rfl (ci12.2.2.2.1 0 (by decide)) rfl rfl dX12_mended_2 rfl ?_
  refine Go_S (fun S2_1 e_S2_1 => ?_)
  have hw := hw S2_1 e_S2_1
  have hR := rcM e_S2_1 hR
  refine Go_aload_n (q := 6) C 0 rfl dX12_mended_5 rfl ?_
  refine Go_iload_n (q := 7) C 1 rfl dX12_mended_6 rfl ?_
  refine Go_callV_I (av := (fun ad => [.int p0])) (st := []) (C := C) (hM := c_X12_isPlace (Gl G)  hR hw) (hlk := wm_31_22) (hini := wm_1_5) (hins := wm_31_23) (hsel := wm_32_0) (hcode := wm_32_1) (ho := kM_0) (hci := rfl) (hc13 := by decide) (n := 1) (hd := by decide +kernel) (hr0 := ⟨rfl, rfl⟩) (hroom := ⟨by first | decide | (dsimp only; omega), by first | decide | (dsimp only; omega)⟩) (hlen := rfl) (hst := rfl) (hW := Nat.le_of_ble_eq_true rfl) (hdg := dX12_mended_7) (q := 10) (hq := rfl) (fun r7_3 S7_2 hw hR => ?_)
  refine Go_if_eq (t := 29) (q := 13) C hw dX12_mended_10 rfl rfl (fun hw => ?_) (fun hw => ?_)
  · refine Go_iconst (q := 30) (v := (-1 : Int32)) C dX12_mended_29 rfl rfl ?_
    exact Go_iret C hQ hR hw dX12_mended_30
  · refine Go_aload_n (q := 14) C 0 rfl dX12_mended_13 rfl ?_
    refine Go_callV_I (av := (fun ad => [])) (st := []) (C := C) (hM := c_X12_hasMended (Gl G)  hR hw) (hlk := wm_47_19) (hini := wm_1_5) (hins := wm_47_20) (hsel := wm_47_21) (hcode := wm_47_22) (ho := kM_0) (hci := rfl) (hc13 := by decide) (n := 0) (hd := by decide +kernel) (hr0 := ⟨rfl, rfl⟩) (hroom := ⟨by first | decide | (dsimp only; omega), by first | decide | (dsimp only; omega)⟩) (hlen := rfl) (hst := rfl) (hW := Nat.le_of_ble_eq_true rfl) (hdg := dX12_mended_14) (q := 17) (hq := rfl) (fun r14_5 S14_4 hw hR => ?_)
    refine Go_if_eq (t := 29) (q := 20) C hw dX12_mended_17 rfl rfl (fun hw => ?_) (fun hw => ?_)
    · refine Go_iconst (q := 30) (v := (-1 : Int32)) C dX12_mended_29 rfl rfl ?_
      exact Go_iret C hQ hR hw dX12_mended_30
    · refine Go_aload_n (q := 21) C 0 rfl dX12_mended_20 rfl ?_
      refine Go_getA (q := 24) (k := 63) C ci12 iw_12 kM_0 (rM_0_63 hR) rfl wm_14_12 rfl dX12_mended_21 rfl ?_
      refine Go_iload_n (q := 25) C 1 rfl dX12_mended_24 rfl ?_
      obtain ⟨hin, hw⟩ := hw
      refine Go_iaload (q := 26) C kM_40 hin dX12_mended_25 rfl ?_
      refine Go_goto (q := 30) C dX12_mended_26 rfl ?_
      exact Go_iret C hQ hR hw dX12_mended_30
-- X12_keeps
abbrev rm_X12_keeps : Room := { frames := 0, cells := 0, slots := 0, locals := 0 }
set_option maxRecDepth 100000 in
set_option maxHeartbeats 4000000 in
theorem c_X12_keeps (l : Launch) {p0 : Int32} {p1 : Int32} {S : St} {Q : Int32 → St → Prop} (hR : RCM S) (hw : w_X12_keeps p0 p1 S Q) : MetI l yX12_keeps (wB yX12_keeps cX12_keeps 4 (some .int)) rm_X12_keeps shM NM RCM (fun ad => [.ref (ad (0)), .int p0, .int p1]) S Q := by
  refine MetI_of (cc := cX12_keeps) (maxL := 4) (ret := (some .int)) (plainFor_of_name (by decide)) (fun _ => Nat.le_of_ble_eq_true rfl) (fun G C hl hQ => ?_)
  subst hl
  have C : Cx G cX12_keeps BIG RX12 4 (some .int) rm_X12_keeps shM NM := C
  show Go G 4 0 [] [(0, .ref (Gad G (0))), (1, .int p0), (2, .int p1)] S
  unfold w_X12_keeps at hw
  refine Go_aload_n (q := 1) C 0 rfl dX12_keeps_0 rfl ?_
  refine Go_getI (q := 4) (k := 73) C ci12 iw_12 kM_0 rfl wm_52_20 rfl dX12_keeps_1 rfl ?_
  refine Go_topi (fun x4_1 e_x4_1 => ?_)
  have hw := hw x4_1 e_x4_1
  refine Go_istore_n (q := 5) (lv' := [(3, .int x4_1), (0, .ref (Gad G (0))), (1, .int p0), (2, .int p1)]) C rfl dX12_keeps_4 (by decide) rfl rfl ?_
  refine Go_aload_n (q := 6) C 1 rfl dX12_keeps_5 rfl ?_
  refine Go_dup (q := 7) C rfl dX12_keeps_6 rfl ?_
  refine Go_getI (q := 10) (k := 73) C ci12 iw_12 kM_0 rfl wm_52_20 rfl dX12_keeps_7 rfl ?_
  refine Go_iconst (q := 11) (v := (1 : Int32)) C dX12_keeps_10 rfl rfl ?_
  refine Go_iadd (q := 12) C dX12_keeps_11 rfl ?_
  refine Go_putI (q := 15) (k := 73) C ci12 iw_12 kM_0 rfl wm_52_20 rfl rfl (ci12.2.2.2.1 73 (by decide)) rfl rfl dX12_keeps_12 rfl ?_
  refine Go_S (fun S12_2 e_S12_2 => ?_)
  have hw := hw S12_2 e_S12_2
  have hR := rcM e_S12_2 hR
  refine Go_iload_n (q := 16) C 3 rfl dX12_keeps_15 rfl ?_
  refine Go_if_eq (t := 26) (q := 19) C hw dX12_keeps_16 rfl rfl (fun hw => ?_) (fun hw => ?_)
  · refine Go_aload_n (q := 27) C 1 rfl dX12_keeps_26 rfl ?_
    refine Go_getA (q := 30) (k := 72) C ci12 iw_12 kM_0 (rM_0_72 hR) rfl wm_14_18 rfl dX12_keeps_27 rfl ?_
    refine Go_iload_n (q := 31) C 0 rfl dX12_keeps_30 rfl ?_
    refine Go_iload_n (q := 32) C 2 rfl dX12_keeps_31 rfl ?_
    obtain ⟨hin, hw⟩ := hw
    refine Go_iastore (q := 33) C kM_46 hin dX12_keeps_32 rfl ?_
    refine Go_S (fun S32_3 e_S32_3 => ?_)
    have hw := hw S32_3 e_S32_3
    have hR := rcM e_S32_3 hR
    refine Go_iload_n (q := 34) C 2 rfl dX12_keeps_33 rfl ?_
    exact Go_iret C hQ hR hw dX12_keeps_34
  · refine Go_aload_n (q := 20) C 1 rfl dX12_keeps_19 rfl ?_
    refine Go_getA (q := 23) (k := 72) C ci12 iw_12 kM_0 (rM_0_72 hR) rfl wm_14_18 rfl dX12_keeps_20 rfl ?_
    refine Go_iload_n (q := 24) C 0 rfl dX12_keeps_23 rfl ?_
    obtain ⟨hin, hw⟩ := hw
    refine Go_iaload (q := 25) C kM_46 hin dX12_keeps_24 rfl ?_
    exact Go_iret C hQ hR hw dX12_keeps_25
-- X12_keepsRow
abbrev rm_X12_keepsRow : Room := { frames := 1, cells := 0, slots := 0, locals := 23 }
set_option maxRecDepth 100000 in
set_option maxHeartbeats 4000000 in
theorem g_X12_keepsRow_3 {G : GC} (C : Cx G cX12_keepsRow BIG RX12 5 none rm_X12_keepsRow shM NM) {Q : St → Prop} (hQ : QV G RCM Q) (p0 : Nat) (p1 : Int32) (p2 : Int32) (hp0 : ok shM NM p0 14 (lnM p0)) (v4 : Int32) {S : St} (hR : RCM S) (hw : w_X12_keepsRow_3 p0 p1 p2 Q v4 S) : Go G 5 3 [] [(0, .ref (Gad G (0))), (1, .ref (Gad G (p0))), (2, .int p1), (3, .int p2), (4, .int v4)] S := by
  obtain ⟨n, hw⟩ := hw
  induction n generalizing v4 S with
  | zero => exact hw.elim
  | succ n ih =>
    have hw : b_X12_keepsRow_3 p0 p1 p2 Q (lpn (fun _ _ => False) (b_X12_keepsRow_3 p0 p1 p2 Q) n) v4 S := hw
    generalize lpn (fun _ _ => False) (b_X12_keepsRow_3 p0 p1 p2 Q) n = kf at hw ih
    have hk3 := fun (v4 : Int32) (S : St) (hR : RCM S) hw => ih v4 hR hw
    unfold b_X12_keepsRow_3 at hw
    refine Go_iload (q := 5) C 4 rfl dX12_keepsRow_3 rfl ?_
    refine Go_iload_n (q := 6) C 2 rfl dX12_keepsRow_5 rfl ?_
    refine Go_icmp_ge (t := 28) (q := 9) C hw dX12_keepsRow_6 rfl rfl (fun hw => ?_) (fun hw => ?_)
    · exact Go_vret C hQ hR hw dX12_keepsRow_28
    · refine Go_aload_n (q := 10) C 1 rfl dX12_keepsRow_9 rfl ?_
      refine Go_iload (q := 12) C 4 rfl dX12_keepsRow_10 rfl ?_
      refine Go_aload_n (q := 13) C 0 rfl dX12_keepsRow_12 rfl ?_
      refine Go_aload_n (q := 14) C 1 rfl dX12_keepsRow_13 rfl ?_
      refine Go_iload (q := 16) C 4 rfl dX12_keepsRow_14 rfl ?_
      obtain ⟨hin, hw⟩ := hw
      refine Go_iaload (q := 17) C hp0 hin dX12_keepsRow_16 rfl ?_
      refine Go_iload_n (q := 18) C 3 rfl dX12_keepsRow_17 rfl ?_
      refine Go_callV_I (av := (fun ad => [.int (gI S p0 v4.toNatClampNeg), .int p2])) (st := [.int v4, .ref (Gad G (p0))]) (C := C) (hM := c_X12_keeps (Gl G) hR hw) (hlk := wm_52_21) (hini := wm_1_5) (hins := wm_52_22) (hsel := wm_52_23) (hcode := wm_53_0) (ho := kM_0) (hci := rfl) (hc13 := by decide) (n := 2) (hd := by decide +kernel) (hr0 := ⟨rfl, rfl⟩) (hroom := ⟨by first | decide | (dsimp only; omega), by first | decide | (dsimp only; omega)⟩) (hlen := rfl) (hst := rfl) (hW := Nat.le_of_ble_eq_true rfl) (hdg := dX12_keepsRow_18) (q := 21) (hq := rfl) (fun r18_2 S18_1 hw hR => ?_)
      obtain ⟨hin, hw⟩ := hw
      refine Go_iastore (q := 22) C hp0 hin dX12_keepsRow_21 rfl ?_
      refine Go_S (fun S21_3 e_S21_3 => ?_)
      have hw := hw S21_3 e_S21_3
      have hR := rcM e_S21_3 hR
      refine Go_iinc2 (q := 25) (kp := 4) (cst := (1 : Int32)) C dX12_keepsRow_22 rfl rfl (by decide) rfl (fun x22_4 e_x22_4 => ?_)
      have hw := hw x22_4 e_x22_4
      refine Go_lve (lv' := [(4, .int x22_4), (0, .ref (Gad G (0))), (1, .ref (Gad G (p0))), (2, .int p1), (3, .int p2)]) rfl ?_
      refine Go_goto (q := 3) C dX12_keepsRow_25 rfl ?_
      refine Go_lvp [1, 2, 3, 4, 0] rfl ?_
      exact hk3 _ _ hR hw
set_option maxRecDepth 100000 in
set_option maxHeartbeats 4000000 in
theorem c_X12_keepsRow (l : Launch) {p0 : Nat} (hp0 : ok shM NM p0 14 (lnM p0)) {p1 : Int32} {p2 : Int32} {S : St} {Q : St → Prop} (hR : RCM S) (hw : w_X12_keepsRow p0 p1 p2 S Q) : MetV l yX12_keepsRow (wB yX12_keepsRow cX12_keepsRow 5 none) rm_X12_keepsRow shM NM RCM (fun ad => [.ref (ad (0)), .ref (ad (p0)), .int p1, .int p2]) S Q := by
  refine MetV_of (cc := cX12_keepsRow) (maxL := 5) (ret := none) (plainFor_of_name (by decide)) (fun _ => Nat.le_of_ble_eq_true rfl) (fun G C hl hQ => ?_)
  subst hl
  have C : Cx G cX12_keepsRow BIG RX12 5 none rm_X12_keepsRow shM NM := C
  show Go G 5 0 [] [(0, .ref (Gad G (0))), (1, .ref (Gad G (p0))), (2, .int p1), (3, .int p2)] S
  unfold w_X12_keepsRow at hw
  refine Go_iconst (q := 1) (v := (0 : Int32)) C dX12_keepsRow_0 rfl rfl ?_
  refine Go_istore (q := 3) (lv' := [(4, .int (0 : Int32)), (0, .ref (Gad G (0))), (1, .ref (Gad G (p0))), (2, .int p1), (3, .int p2)]) C dX12_keepsRow_1 (by decide) rfl rfl ?_
  refine Go_lvp [1, 2, 3, 4, 0] rfl ?_
  exact g_X12_keepsRow_3 C hQ p0 p1 p2 hp0 _ hR hw
-- X12_mark
abbrev rm_X12_mark : Room := { frames := 2, cells := 0, slots := 0, locals := 47 }
set_option maxRecDepth 100000 in
set_option maxHeartbeats 4000000 in
theorem g_X12_mark_301 {G : GC} (C : Cx G cX12_mark BIG RX12 4 (some .boolean) rm_X12_mark shM NM) {Q : Int32 → St → Prop} (hQ : QI G RCM Q) (p1 : Int32) (v3 : Int32) (t0 : Int32) (t1 : Int32) {k261 : Int32 → St → Prop} (hk261 : ∀ (v3 : Int32) (S : St), RCM S → k261 v3 S → Go G 4 261 [] [(0, .ref (Gad G (0))), (2, .int p1), (3, .int v3)] S) {S : St} (hR : RCM S) (hw : w_X12_mark_301 p1 k261 v3 t0 t1 S) : Go G 4 301 [.int t0, .int t1, .ref (Gad G (9))] [(0, .ref (Gad G (0))), (2, .int p1), (3, .int v3)] S := by
  unfold w_X12_mark_301 at hw
  obtain ⟨hin, hw⟩ := hw
  obtain ⟨hz, hw⟩ := hw
  refine Go_zastore2 (q := 302) C kM_9 hin hz dX12_mark_301 rfl ?_
  refine Go_S (fun S301_42 e_S301_42 => ?_)
  have hw := hw S301_42 e_S301_42
  have hR := rcM e_S301_42 hR
  refine Go_iinc2 (q := 305) (kp := 2) (cst := (1 : Int32)) C dX12_mark_302 rfl rfl (by decide) rfl (fun x302_43 e_x302_43 => ?_)
  have hw := hw x302_43 e_x302_43
  refine Go_lve (lv' := [(3, .int x302_43), (0, .ref (Gad G (0))), (2, .int p1)]) rfl ?_
  refine Go_goto (q := 261) C dX12_mark_305 rfl ?_
  refine Go_lvp [1, 2, 0] rfl ?_
  exact hk261 _ _ hR hw
set_option maxRecDepth 100000 in
set_option maxHeartbeats 4000000 in
theorem g_X12_mark_288 {G : GC} (C : Cx G cX12_mark BIG RX12 4 (some .boolean) rm_X12_mark shM NM) {Q : Int32 → St → Prop} (hQ : QI G RCM Q) (p1 : Int32) (v3 : Int32) (t0 : Int32) (t2 : Int32) {k261 : Int32 → St → Prop} (hk261 : ∀ (v3 : Int32) (S : St), RCM S → k261 v3 S → Go G 4 261 [] [(0, .ref (Gad G (0))), (2, .int p1), (3, .int v3)] S) {S : St} (hR : RCM S) (hw : w_X12_mark_288 p1 k261 v3 t0 t2 S) : Go G 4 288 [.int t0, .ref (Gad G (0)), .int t2, .ref (Gad G (9))] [(0, .ref (Gad G (0))), (2, .int p1), (3, .int v3)] S := by
  unfold w_X12_mark_288 at hw
  refine Go_iload_n (q := 289) C 1 rfl dX12_mark_288 rfl ?_
  refine Go_callV_I (av := (fun ad => [.int t0, .int p1])) (st := [.int t2, .ref (Gad G (9))]) (C := C) (hM := c_X12_keeps (Gl G) hR hw) (hlk := wm_52_21) (hini := wm_1_5) (hins := wm_52_22) (hsel := wm_52_23) (hcode := wm_53_0) (ho := kM_0) (hci := rfl) (hc13 := by decide) (n := 2) (hd := by decide +kernel) (hr0 := ⟨rfl, rfl⟩) (hroom := ⟨by first | decide | (dsimp only; omega), by first | decide | (dsimp only; omega)⟩) (hlen := rfl) (hst := rfl) (hW := Nat.le_of_ble_eq_true rfl) (hdg := dX12_mark_289) (q := 292) (hq := rfl) (fun r289_41 S289_40 hw hR => ?_)
  refine Go_iconst (q := 293) (v := (1 : Int32)) C dX12_mark_292 rfl rfl ?_
  refine Go_icmp_ne (t := 300) (q := 296) C hw dX12_mark_293 rfl rfl (fun hw => ?_) (fun hw => ?_)
  · refine Go_iconst (q := 297) (v := (1 : Int32)) C dX12_mark_296 rfl rfl ?_
    refine Go_goto (q := 301) C dX12_mark_297 rfl ?_
    refine Go_lvp [0, 1, 2] rfl ?_
    exact g_X12_mark_301 C hQ p1 _ _ _ hk261 hR hw
  · refine Go_iconst (q := 301) (v := (0 : Int32)) C dX12_mark_300 rfl rfl ?_
    refine Go_lvp [0, 1, 2] rfl ?_
    exact g_X12_mark_301 C hQ p1 _ _ _ hk261 hR hw
set_option maxRecDepth 100000 in
set_option maxHeartbeats 4000000 in
theorem g_X12_mark_261 {G : GC} (C : Cx G cX12_mark BIG RX12 4 (some .boolean) rm_X12_mark shM NM) {Q : Int32 → St → Prop} (hQ : QI G RCM Q) (p1 : Int32) (v3 : Int32) {S : St} (hR : RCM S) (hw : w_X12_mark_261 p1 Q v3 S) : Go G 4 261 [] [(0, .ref (Gad G (0))), (2, .int p1), (3, .int v3)] S := by
  obtain ⟨n, hw⟩ := hw
  induction n generalizing v3 S with
  | zero => exact hw.elim
  | succ n ih =>
    have hw : b_X12_mark_261 p1 Q (lpn (fun _ _ => False) (b_X12_mark_261 p1 Q) n) v3 S := hw
    generalize lpn (fun _ _ => False) (b_X12_mark_261 p1 Q) n = kf at hw ih
    have hk261 := fun (v3 : Int32) (S : St) (hR : RCM S) hw => ih v3 hR hw
    unfold b_X12_mark_261 at hw
    refine Go_iload_n (q := 262) C 2 rfl dX12_mark_261 rfl ?_
    refine Go_sipush (q := 265) (v := (144 : Int32)) C dX12_mark_262 rfl rfl ?_
    refine Go_icmp_ge (t := 308) (q := 268) C hw dX12_mark_265 rfl rfl (fun hw => ?_) (fun hw => ?_)
    · refine Go_iconst (q := 309) (v := (1 : Int32)) C dX12_mark_308 rfl rfl ?_
      exact Go_zret C hQ hR rfl hw dX12_mark_309
    · refine Go_aload_n (q := 269) C 0 rfl dX12_mark_268 rfl ?_
      refine Go_getA (q := 272) (k := 24) C ci12 iw_12 kM_0 (rM_0_24 hR) rfl wm_13_5 rfl dX12_mark_269 rfl ?_
      refine Go_iload_n (q := 273) C 2 rfl dX12_mark_272 rfl ?_
      refine Go_aload_n (q := 274) C 0 rfl dX12_mark_273 rfl ?_
      refine Go_aload_n (q := 275) C 0 rfl dX12_mark_274 rfl ?_
      refine Go_getA (q := 278) (k := 24) C ci12 iw_12 kM_0 (rM_0_24 hR) rfl wm_13_5 rfl dX12_mark_275 rfl ?_
      refine Go_iload_n (q := 279) C 2 rfl dX12_mark_278 rfl ?_
      obtain ⟨hin, hw⟩ := hw
      refine Go_zaload (q := 280) C kM_9 hin dX12_mark_279 rfl ?_
      refine Go_if_eq (t := 287) (q := 283) C hw dX12_mark_280 rfl rfl (fun hw => ?_) (fun hw => ?_)
      · refine Go_iconst (q := 288) (v := (0 : Int32)) C dX12_mark_287 rfl rfl ?_
        refine Go_lvp [0, 1, 2] rfl ?_
        exact g_X12_mark_288 C hQ p1 _ _ _ hk261 hR hw
      · refine Go_iconst (q := 284) (v := (1 : Int32)) C dX12_mark_283 rfl rfl ?_
        refine Go_goto (q := 288) C dX12_mark_284 rfl ?_
        refine Go_lvp [0, 1, 2] rfl ?_
        exact g_X12_mark_288 C hQ p1 _ _ _ hk261 hR hw
set_option maxRecDepth 100000 in
set_option maxHeartbeats 4000000 in
theorem g_X12_mark_29 {G : GC} (C : Cx G cX12_mark BIG RX12 4 (some .boolean) rm_X12_mark shM NM) {Q : Int32 → St → Prop} (hQ : QI G RCM Q) (p0 : Int32) (p1 : Int32) {S : St} (hR : RCM S) (hw : w_X12_mark_29 p0 p1 Q S) : Go G 4 29 [] [(0, .ref (Gad G (0))), (1, .int p0), (2, .int p1)] S := by
  unfold w_X12_mark_29 at hw
  refine Go_aload_n (q := 30) C 0 rfl dX12_mark_29 rfl ?_
  refine Go_getA (q := 33) (k := 71) C ci12 iw_12 kM_0 (rM_0_71 hR) rfl wm_14_17 rfl dX12_mark_30 rfl ?_
  refine Go_iload_n (q := 34) C 1 rfl dX12_mark_33 rfl ?_
  refine Go_iconst (q := 35) (v := (1 : Int32)) C dX12_mark_34 rfl rfl ?_
  obtain ⟨hin, hw⟩ := hw
  refine Go_zastore2 (q := 36) C kM_45 hin (by decide) dX12_mark_35 rfl ?_
  refine Go_S (fun S35_4 e_S35_4 => ?_)
  have hw := hw S35_4 e_S35_4
  have hR := rcM e_S35_4 hR
  refine Go_aload_n (q := 37) C 0 rfl dX12_mark_36 rfl ?_
  refine Go_sipush (q := 40) (v := (500 : Int32)) C dX12_mark_37 rfl rfl ?_
  refine Go_iload_n (q := 41) C 1 rfl dX12_mark_40 rfl ?_
  refine Go_imul (q := 42) C dX12_mark_41 rfl ?_
  refine Go_putI (q := 45) (k := 73) C ci12 iw_12 kM_0 rfl wm_52_20 rfl rfl (ci12.2.2.2.1 73 (by decide)) rfl rfl dX12_mark_42 rfl ?_
  refine Go_S (fun S42_5 e_S42_5 => ?_)
  have hw := hw S42_5 e_S42_5
  have hR := rcM e_S42_5 hR
  refine Go_aload_n (q := 46) C 0 rfl dX12_mark_45 rfl ?_
  refine Go_aload_n (q := 47) C 0 rfl dX12_mark_46 rfl ?_
  refine Go_aload_n (q := 48) C 0 rfl dX12_mark_47 rfl ?_
  refine Go_getI (q := 51) (k := 10) C ci12 iw_12 kM_0 rfl wm_14_20 rfl dX12_mark_48 rfl ?_
  refine Go_iload_n (q := 52) C 2 rfl dX12_mark_51 rfl ?_
  refine Go_callV_I (av := (fun ad => [.int (gI S42_5 0 10), .int p1])) (st := [.ref (Gad G (0))]) (C := C) (hM := c_X12_keeps (Gl G) hR hw) (hlk := wm_52_21) (hini := wm_1_5) (hins := wm_52_22) (hsel := wm_52_23) (hcode := wm_53_0) (ho := kM_0) (hci := rfl) (hc13 := by decide) (n := 2) (hd := by decide +kernel) (hr0 := ⟨rfl, rfl⟩) (hroom := ⟨by first | decide | (dsimp only; omega), by first | decide | (dsimp only; omega)⟩) (hlen := rfl) (hst := rfl) (hW := Nat.le_of_ble_eq_true rfl) (hdg := dX12_mark_52) (q := 55) (hq := rfl) (fun r52_7 S52_6 hw hR => ?_)
  refine Go_putI (q := 58) (k := 10) C ci12 iw_12 kM_0 rfl wm_14_20 rfl rfl (ci12.2.2.2.1 10 (by decide)) rfl rfl dX12_mark_55 rfl ?_
  refine Go_S (fun S55_8 e_S55_8 => ?_)
  have hw := hw S55_8 e_S55_8
  have hR := rcM e_S55_8 hR
  refine Go_aload_n (q := 59) C 0 rfl dX12_mark_58 rfl ?_
  refine Go_aload_n (q := 60) C 0 rfl dX12_mark_59 rfl ?_
  refine Go_aload_n (q := 61) C 0 rfl dX12_mark_60 rfl ?_
  refine Go_getI (q := 64) (k := 12) C ci12 iw_12 kM_0 rfl wm_24_19 rfl dX12_mark_61 rfl ?_
  refine Go_iload_n (q := 65) C 2 rfl dX12_mark_64 rfl ?_
  refine Go_callV_I (av := (fun ad => [.int (gI S55_8 0 12), .int p1])) (st := [.ref (Gad G (0))]) (C := C) (hM := c_X12_keeps (Gl G) hR hw) (hlk := wm_52_21) (hini := wm_1_5) (hins := wm_52_22) (hsel := wm_52_23) (hcode := wm_53_0) (ho := kM_0) (hci := rfl) (hc13 := by decide) (n := 2) (hd := by decide +kernel) (hr0 := ⟨rfl, rfl⟩) (hroom := ⟨by first | decide | (dsimp only; omega), by first | decide | (dsimp only; omega)⟩) (hlen := rfl) (hst := rfl) (hW := Nat.le_of_ble_eq_true rfl) (hdg := dX12_mark_65) (q := 68) (hq := rfl) (fun r65_10 S65_9 hw hR => ?_)
  refine Go_putI (q := 71) (k := 12) C ci12 iw_12 kM_0 rfl wm_24_19 rfl rfl (ci12.2.2.2.1 12 (by decide)) rfl rfl dX12_mark_68 rfl ?_
  refine Go_S (fun S68_11 e_S68_11 => ?_)
  have hw := hw S68_11 e_S68_11
  have hR := rcM e_S68_11 hR
  refine Go_aload_n (q := 72) C 0 rfl dX12_mark_71 rfl ?_
  refine Go_aload_n (q := 73) C 0 rfl dX12_mark_72 rfl ?_
  refine Go_getA (q := 76) (k := 17) C ci12 iw_12 kM_0 (rM_0_17 hR) rfl wm_12_21 rfl dX12_mark_73 rfl ?_
  refine Go_bipush (q := 78) (v := (12 : Int32)) C dX12_mark_76 rfl rfl ?_
  refine Go_iload_n (q := 79) C 2 rfl dX12_mark_78 rfl ?_
  refine Go_callV_V (av := (fun ad => [.ref (ad (2)), .int (12 : Int32), .int p1])) (st := []) (C := C) (hM := c_X12_keepsRow (Gl G) (ok_ln kM_2) hR hw) (hlk := wm_53_1) (hini := wm_1_5) (hins := wm_53_2) (hsel := wm_53_3) (hcode := wm_53_4) (ho := kM_0) (hci := rfl) (hc13 := by decide) (n := 3) (hd := by decide +kernel) (hr0 := ⟨rfl, rfl⟩) (hroom := ⟨by first | decide | (dsimp only; omega), by first | decide | (dsimp only; omega)⟩) (hlen := rfl) (hst := rfl) (hW := Nat.le_of_ble_eq_true rfl) (hdg := dX12_mark_79) (q := 82) (hq := rfl) (fun S79_12 hw hR => ?_)
  refine Go_aload_n (q := 83) C 0 rfl dX12_mark_82 rfl ?_
  refine Go_aload_n (q := 84) C 0 rfl dX12_mark_83 rfl ?_
  refine Go_getA (q := 87) (k := 20) C ci12 iw_12 kM_0 (rM_0_20 hR) rfl wm_13_0 rfl dX12_mark_84 rfl ?_
  refine Go_bipush (q := 89) (v := (12 : Int32)) C dX12_mark_87 rfl rfl ?_
  refine Go_iload_n (q := 90) C 2 rfl dX12_mark_89 rfl ?_
  refine Go_callV_V (av := (fun ad => [.ref (ad (5)), .int (12 : Int32), .int p1])) (st := []) (C := C) (hM := c_X12_keepsRow (Gl G) (ok_ln kM_5) hR hw) (hlk := wm_53_1) (hini := wm_1_5) (hins := wm_53_2) (hsel := wm_53_3) (hcode := wm_53_4) (ho := kM_0) (hci := rfl) (hc13 := by decide) (n := 3) (hd := by decide +kernel) (hr0 := ⟨rfl, rfl⟩) (hroom := ⟨by first | decide | (dsimp only; omega), by first | decide | (dsimp only; omega)⟩) (hlen := rfl) (hst := rfl) (hW := Nat.le_of_ble_eq_true rfl) (hdg := dX12_mark_90) (q := 93) (hq := rfl) (fun S90_13 hw hR => ?_)
  refine Go_aload_n (q := 94) C 0 rfl dX12_mark_93 rfl ?_
  refine Go_aload_n (q := 95) C 0 rfl dX12_mark_94 rfl ?_
  refine Go_getA (q := 98) (k := 18) C ci12 iw_12 kM_0 (rM_0_18 hR) rfl wm_12_22 rfl dX12_mark_95 rfl ?_
  refine Go_bipush (q := 100) (v := (8 : Int32)) C dX12_mark_98 rfl rfl ?_
  refine Go_iload_n (q := 101) C 2 rfl dX12_mark_100 rfl ?_
  refine Go_callV_V (av := (fun ad => [.ref (ad (3)), .int (8 : Int32), .int p1])) (st := []) (C := C) (hM := c_X12_keepsRow (Gl G) (ok_ln kM_3) hR hw) (hlk := wm_53_1) (hini := wm_1_5) (hins := wm_53_2) (hsel := wm_53_3) (hcode := wm_53_4) (ho := kM_0) (hci := rfl) (hc13 := by decide) (n := 3) (hd := by decide +kernel) (hr0 := ⟨rfl, rfl⟩) (hroom := ⟨by first | decide | (dsimp only; omega), by first | decide | (dsimp only; omega)⟩) (hlen := rfl) (hst := rfl) (hW := Nat.le_of_ble_eq_true rfl) (hdg := dX12_mark_101) (q := 104) (hq := rfl) (fun S101_14 hw hR => ?_)
  refine Go_aload_n (q := 105) C 0 rfl dX12_mark_104 rfl ?_
  refine Go_aload_n (q := 106) C 0 rfl dX12_mark_105 rfl ?_
  refine Go_getA (q := 109) (k := 19) C ci12 iw_12 kM_0 (rM_0_19 hR) rfl wm_12_23 rfl dX12_mark_106 rfl ?_
  refine Go_bipush (q := 111) (v := (8 : Int32)) C dX12_mark_109 rfl rfl ?_
  refine Go_iload_n (q := 112) C 2 rfl dX12_mark_111 rfl ?_
  refine Go_callV_V (av := (fun ad => [.ref (ad (4)), .int (8 : Int32), .int p1])) (st := []) (C := C) (hM := c_X12_keepsRow (Gl G) (ok_ln kM_4) hR hw) (hlk := wm_53_1) (hini := wm_1_5) (hins := wm_53_2) (hsel := wm_53_3) (hcode := wm_53_4) (ho := kM_0) (hci := rfl) (hc13 := by decide) (n := 3) (hd := by decide +kernel) (hr0 := ⟨rfl, rfl⟩) (hroom := ⟨by first | decide | (dsimp only; omega), by first | decide | (dsimp only; omega)⟩) (hlen := rfl) (hst := rfl) (hW := Nat.le_of_ble_eq_true rfl) (hdg := dX12_mark_112) (q := 115) (hq := rfl) (fun S112_15 hw hR => ?_)
  refine Go_aload_n (q := 116) C 0 rfl dX12_mark_115 rfl ?_
  refine Go_aload_n (q := 117) C 0 rfl dX12_mark_116 rfl ?_
  refine Go_aload_n (q := 118) C 0 rfl dX12_mark_117 rfl ?_
  refine Go_getI (q := 121) (k := 11) C ci12 iw_12 kM_0 rfl wm_24_17 rfl dX12_mark_118 rfl ?_
  refine Go_iload_n (q := 122) C 2 rfl dX12_mark_121 rfl ?_
  refine Go_callV_I (av := (fun ad => [.int (gI S112_15 0 11), .int p1])) (st := [.ref (Gad G (0))]) (C := C) (hM := c_X12_keeps (Gl G) hR hw) (hlk := wm_52_21) (hini := wm_1_5) (hins := wm_52_22) (hsel := wm_52_23) (hcode := wm_53_0) (ho := kM_0) (hci := rfl) (hc13 := by decide) (n := 2) (hd := by decide +kernel) (hr0 := ⟨rfl, rfl⟩) (hroom := ⟨by first | decide | (dsimp only; omega), by first | decide | (dsimp only; omega)⟩) (hlen := rfl) (hst := rfl) (hW := Nat.le_of_ble_eq_true rfl) (hdg := dX12_mark_122) (q := 125) (hq := rfl) (fun r122_17 S122_16 hw hR => ?_)
  refine Go_putI (q := 128) (k := 11) C ci12 iw_12 kM_0 rfl wm_24_17 rfl rfl (ci12.2.2.2.1 11 (by decide)) rfl rfl dX12_mark_125 rfl ?_
  refine Go_S (fun S125_18 e_S125_18 => ?_)
  have hw := hw S125_18 e_S125_18
  have hR := rcM e_S125_18 hR
  refine Go_aload_n (q := 129) C 0 rfl dX12_mark_128 rfl ?_
  refine Go_aload_n (q := 130) C 0 rfl dX12_mark_129 rfl ?_
  refine Go_aload_n (q := 131) C 0 rfl dX12_mark_130 rfl ?_
  refine Go_getI (q := 134) (k := 13) C ci12 iw_12 kM_0 rfl wm_24_21 rfl dX12_mark_131 rfl ?_
  refine Go_iload_n (q := 135) C 2 rfl dX12_mark_134 rfl ?_
  refine Go_callV_I (av := (fun ad => [.int (gI S125_18 0 13), .int p1])) (st := [.ref (Gad G (0))]) (C := C) (hM := c_X12_keeps (Gl G) hR hw) (hlk := wm_52_21) (hini := wm_1_5) (hins := wm_52_22) (hsel := wm_52_23) (hcode := wm_53_0) (ho := kM_0) (hci := rfl) (hc13 := by decide) (n := 2) (hd := by decide +kernel) (hr0 := ⟨rfl, rfl⟩) (hroom := ⟨by first | decide | (dsimp only; omega), by first | decide | (dsimp only; omega)⟩) (hlen := rfl) (hst := rfl) (hW := Nat.le_of_ble_eq_true rfl) (hdg := dX12_mark_135) (q := 138) (hq := rfl) (fun r135_20 S135_19 hw hR => ?_)
  refine Go_putI (q := 141) (k := 13) C ci12 iw_12 kM_0 rfl wm_24_21 rfl rfl (ci12.2.2.2.1 13 (by decide)) rfl rfl dX12_mark_138 rfl ?_
  refine Go_S (fun S138_21 e_S138_21 => ?_)
  have hw := hw S138_21 e_S138_21
  have hR := rcM e_S138_21 hR
  refine Go_aload_n (q := 142) C 0 rfl dX12_mark_141 rfl ?_
  refine Go_aload_n (q := 143) C 0 rfl dX12_mark_142 rfl ?_
  refine Go_aload_n (q := 144) C 0 rfl dX12_mark_143 rfl ?_
  refine Go_getI (q := 147) (k := 14) C ci12 iw_12 kM_0 rfl wm_24_23 rfl dX12_mark_144 rfl ?_
  refine Go_iload_n (q := 148) C 2 rfl dX12_mark_147 rfl ?_
  refine Go_callV_I (av := (fun ad => [.int (gI S138_21 0 14), .int p1])) (st := [.ref (Gad G (0))]) (C := C) (hM := c_X12_keeps (Gl G) hR hw) (hlk := wm_52_21) (hini := wm_1_5) (hins := wm_52_22) (hsel := wm_52_23) (hcode := wm_53_0) (ho := kM_0) (hci := rfl) (hc13 := by decide) (n := 2) (hd := by decide +kernel) (hr0 := ⟨rfl, rfl⟩) (hroom := ⟨by first | decide | (dsimp only; omega), by first | decide | (dsimp only; omega)⟩) (hlen := rfl) (hst := rfl) (hW := Nat.le_of_ble_eq_true rfl) (hdg := dX12_mark_148) (q := 151) (hq := rfl) (fun r148_23 S148_22 hw hR => ?_)
  refine Go_putI (q := 154) (k := 14) C ci12 iw_12 kM_0 rfl wm_24_23 rfl rfl (ci12.2.2.2.1 14 (by decide)) rfl rfl dX12_mark_151 rfl ?_
  refine Go_S (fun S151_24 e_S151_24 => ?_)
  have hw := hw S151_24 e_S151_24
  have hR := rcM e_S151_24 hR
  refine Go_aload_n (q := 155) C 0 rfl dX12_mark_154 rfl ?_
  refine Go_aload_n (q := 156) C 0 rfl dX12_mark_155 rfl ?_
  refine Go_aload_n (q := 157) C 0 rfl dX12_mark_156 rfl ?_
  refine Go_getI (q := 160) (k := 15) C ci12 iw_12 kM_0 rfl wm_25_1 rfl dX12_mark_157 rfl ?_
  refine Go_iload_n (q := 161) C 2 rfl dX12_mark_160 rfl ?_
  refine Go_callV_I (av := (fun ad => [.int (gI S151_24 0 15), .int p1])) (st := [.ref (Gad G (0))]) (C := C) (hM := c_X12_keeps (Gl G) hR hw) (hlk := wm_52_21) (hini := wm_1_5) (hins := wm_52_22) (hsel := wm_52_23) (hcode := wm_53_0) (ho := kM_0) (hci := rfl) (hc13 := by decide) (n := 2) (hd := by decide +kernel) (hr0 := ⟨rfl, rfl⟩) (hroom := ⟨by first | decide | (dsimp only; omega), by first | decide | (dsimp only; omega)⟩) (hlen := rfl) (hst := rfl) (hW := Nat.le_of_ble_eq_true rfl) (hdg := dX12_mark_161) (q := 164) (hq := rfl) (fun r161_26 S161_25 hw hR => ?_)
  refine Go_putI (q := 167) (k := 15) C ci12 iw_12 kM_0 rfl wm_25_1 rfl rfl (ci12.2.2.2.1 15 (by decide)) rfl rfl dX12_mark_164 rfl ?_
  refine Go_S (fun S164_27 e_S164_27 => ?_)
  have hw := hw S164_27 e_S164_27
  have hR := rcM e_S164_27 hR
  refine Go_aload_n (q := 168) C 0 rfl dX12_mark_167 rfl ?_
  refine Go_aload_n (q := 169) C 0 rfl dX12_mark_168 rfl ?_
  refine Go_aload_n (q := 170) C 0 rfl dX12_mark_169 rfl ?_
  refine Go_getI (q := 173) (k := 16) C ci12 iw_12 kM_0 rfl wm_25_3 rfl dX12_mark_170 rfl ?_
  refine Go_iload_n (q := 174) C 2 rfl dX12_mark_173 rfl ?_
  refine Go_callV_I (av := (fun ad => [.int (gI S164_27 0 16), .int p1])) (st := [.ref (Gad G (0))]) (C := C) (hM := c_X12_keeps (Gl G) hR hw) (hlk := wm_52_21) (hini := wm_1_5) (hins := wm_52_22) (hsel := wm_52_23) (hcode := wm_53_0) (ho := kM_0) (hci := rfl) (hc13 := by decide) (n := 2) (hd := by decide +kernel) (hr0 := ⟨rfl, rfl⟩) (hroom := ⟨by first | decide | (dsimp only; omega), by first | decide | (dsimp only; omega)⟩) (hlen := rfl) (hst := rfl) (hW := Nat.le_of_ble_eq_true rfl) (hdg := dX12_mark_174) (q := 177) (hq := rfl) (fun r174_29 S174_28 hw hR => ?_)
  refine Go_putI (q := 180) (k := 16) C ci12 iw_12 kM_0 rfl wm_25_3 rfl rfl (ci12.2.2.2.1 16 (by decide)) rfl rfl dX12_mark_177 rfl ?_
  refine Go_S (fun S177_30 e_S177_30 => ?_)
  have hw := hw S177_30 e_S177_30
  have hR := rcM e_S177_30 hR
  refine Go_aload_n (q := 181) C 0 rfl dX12_mark_180 rfl ?_
  refine Go_aload_n (q := 182) C 0 rfl dX12_mark_181 rfl ?_
  refine Go_aload_n (q := 183) C 0 rfl dX12_mark_182 rfl ?_
  refine Go_getI (q := 186) (k := 65) C ci12 iw_12 kM_0 rfl wm_25_4 rfl dX12_mark_183 rfl ?_
  refine Go_iload_n (q := 187) C 2 rfl dX12_mark_186 rfl ?_
  refine Go_callV_I (av := (fun ad => [.int (gI S177_30 0 65), .int p1])) (st := [.ref (Gad G (0))]) (C := C) (hM := c_X12_keeps (Gl G) hR hw) (hlk := wm_52_21) (hini := wm_1_5) (hins := wm_52_22) (hsel := wm_52_23) (hcode := wm_53_0) (ho := kM_0) (hci := rfl) (hc13 := by decide) (n := 2) (hd := by decide +kernel) (hr0 := ⟨rfl, rfl⟩) (hroom := ⟨by first | decide | (dsimp only; omega), by first | decide | (dsimp only; omega)⟩) (hlen := rfl) (hst := rfl) (hW := Nat.le_of_ble_eq_true rfl) (hdg := dX12_mark_187) (q := 190) (hq := rfl) (fun r187_32 S187_31 hw hR => ?_)
  refine Go_putI (q := 193) (k := 65) C ci12 iw_12 kM_0 rfl wm_25_4 rfl rfl (ci12.2.2.2.1 65 (by decide)) rfl rfl dX12_mark_190 rfl ?_
  refine Go_S (fun S190_33 e_S190_33 => ?_)
  have hw := hw S190_33 e_S190_33
  have hR := rcM e_S190_33 hR
  refine Go_aload_n (q := 194) C 0 rfl dX12_mark_193 rfl ?_
  refine Go_aload_n (q := 195) C 0 rfl dX12_mark_194 rfl ?_
  refine Go_getA (q := 198) (k := 21) C ci12 iw_12 kM_0 (rM_0_21 hR) rfl wm_13_1 rfl dX12_mark_195 rfl ?_
  refine Go_bipush (q := 200) (v := (12 : Int32)) C dX12_mark_198 rfl rfl ?_
  refine Go_iload_n (q := 201) C 2 rfl dX12_mark_200 rfl ?_
  refine Go_callV_V (av := (fun ad => [.ref (ad (6)), .int (12 : Int32), .int p1])) (st := []) (C := C) (hM := c_X12_keepsRow (Gl G) (ok_ln kM_6) hR hw) (hlk := wm_53_1) (hini := wm_1_5) (hins := wm_53_2) (hsel := wm_53_3) (hcode := wm_53_4) (ho := kM_0) (hci := rfl) (hc13 := by decide) (n := 3) (hd := by decide +kernel) (hr0 := ⟨rfl, rfl⟩) (hroom := ⟨by first | decide | (dsimp only; omega), by first | decide | (dsimp only; omega)⟩) (hlen := rfl) (hst := rfl) (hW := Nat.le_of_ble_eq_true rfl) (hdg := dX12_mark_201) (q := 204) (hq := rfl) (fun S201_34 hw hR => ?_)
  refine Go_aload_n (q := 205) C 0 rfl dX12_mark_204 rfl ?_
  refine Go_aload_n (q := 206) C 0 rfl dX12_mark_205 rfl ?_
  refine Go_getA (q := 209) (k := 22) C ci12 iw_12 kM_0 (rM_0_22 hR) rfl wm_13_2 rfl dX12_mark_206 rfl ?_
  refine Go_bipush (q := 211) (v := (12 : Int32)) C dX12_mark_209 rfl rfl ?_
  refine Go_iload_n (q := 212) C 2 rfl dX12_mark_211 rfl ?_
  refine Go_callV_V (av := (fun ad => [.ref (ad (7)), .int (12 : Int32), .int p1])) (st := []) (C := C) (hM := c_X12_keepsRow (Gl G) (ok_ln kM_7) hR hw) (hlk := wm_53_1) (hini := wm_1_5) (hins := wm_53_2) (hsel := wm_53_3) (hcode := wm_53_4) (ho := kM_0) (hci := rfl) (hc13 := by decide) (n := 3) (hd := by decide +kernel) (hr0 := ⟨rfl, rfl⟩) (hroom := ⟨by first | decide | (dsimp only; omega), by first | decide | (dsimp only; omega)⟩) (hlen := rfl) (hst := rfl) (hW := Nat.le_of_ble_eq_true rfl) (hdg := dX12_mark_212) (q := 215) (hq := rfl) (fun S212_35 hw hR => ?_)
  refine Go_aload_n (q := 216) C 0 rfl dX12_mark_215 rfl ?_
  refine Go_aload_n (q := 217) C 0 rfl dX12_mark_216 rfl ?_
  refine Go_getA (q := 220) (k := 23) C ci12 iw_12 kM_0 (rM_0_23 hR) rfl wm_13_3 rfl dX12_mark_217 rfl ?_
  refine Go_bipush (q := 222) (v := (12 : Int32)) C dX12_mark_220 rfl rfl ?_
  refine Go_iload_n (q := 223) C 2 rfl dX12_mark_222 rfl ?_
  refine Go_callV_V (av := (fun ad => [.ref (ad (8)), .int (12 : Int32), .int p1])) (st := []) (C := C) (hM := c_X12_keepsRow (Gl G) (ok_ln kM_8) hR hw) (hlk := wm_53_1) (hini := wm_1_5) (hins := wm_53_2) (hsel := wm_53_3) (hcode := wm_53_4) (ho := kM_0) (hci := rfl) (hc13 := by decide) (n := 3) (hd := by decide +kernel) (hr0 := ⟨rfl, rfl⟩) (hroom := ⟨by first | decide | (dsimp only; omega), by first | decide | (dsimp only; omega)⟩) (hlen := rfl) (hst := rfl) (hW := Nat.le_of_ble_eq_true rfl) (hdg := dX12_mark_223) (q := 226) (hq := rfl) (fun S223_36 hw hR => ?_)
  refine Go_aload_n (q := 227) C 0 rfl dX12_mark_226 rfl ?_
  refine Go_aload_n (q := 228) C 0 rfl dX12_mark_227 rfl ?_
  refine Go_getA (q := 231) (k := 66) C ci12 iw_12 kM_0 (rM_0_66 hR) rfl wm_14_13 rfl dX12_mark_228 rfl ?_
  refine Go_bipush (q := 233) (v := (60 : Int32)) C dX12_mark_231 rfl rfl ?_
  refine Go_iload_n (q := 234) C 2 rfl dX12_mark_233 rfl ?_
  refine Go_callV_V (av := (fun ad => [.ref (ad (41)), .int (60 : Int32), .int p1])) (st := []) (C := C) (hM := c_X12_keepsRow (Gl G) (ok_ln kM_41) hR hw) (hlk := wm_53_1) (hini := wm_1_5) (hins := wm_53_2) (hsel := wm_53_3) (hcode := wm_53_4) (ho := kM_0) (hci := rfl) (hc13 := by decide) (n := 3) (hd := by decide +kernel) (hr0 := ⟨rfl, rfl⟩) (hroom := ⟨by first | decide | (dsimp only; omega), by first | decide | (dsimp only; omega)⟩) (hlen := rfl) (hst := rfl) (hW := Nat.le_of_ble_eq_true rfl) (hdg := dX12_mark_234) (q := 237) (hq := rfl) (fun S234_37 hw hR => ?_)
  refine Go_aload_n (q := 238) C 0 rfl dX12_mark_237 rfl ?_
  refine Go_aload_n (q := 239) C 0 rfl dX12_mark_238 rfl ?_
  refine Go_getA (q := 242) (k := 67) C ci12 iw_12 kM_0 (rM_0_67 hR) rfl wm_14_14 rfl dX12_mark_239 rfl ?_
  refine Go_bipush (q := 244) (v := (60 : Int32)) C dX12_mark_242 rfl rfl ?_
  refine Go_iload_n (q := 245) C 2 rfl dX12_mark_244 rfl ?_
  refine Go_callV_V (av := (fun ad => [.ref (ad (42)), .int (60 : Int32), .int p1])) (st := []) (C := C) (hM := c_X12_keepsRow (Gl G) (ok_ln kM_42) hR hw) (hlk := wm_53_1) (hini := wm_1_5) (hins := wm_53_2) (hsel := wm_53_3) (hcode := wm_53_4) (ho := kM_0) (hci := rfl) (hc13 := by decide) (n := 3) (hd := by decide +kernel) (hr0 := ⟨rfl, rfl⟩) (hroom := ⟨by first | decide | (dsimp only; omega), by first | decide | (dsimp only; omega)⟩) (hlen := rfl) (hst := rfl) (hW := Nat.le_of_ble_eq_true rfl) (hdg := dX12_mark_245) (q := 248) (hq := rfl) (fun S245_38 hw hR => ?_)
  refine Go_aload_n (q := 249) C 0 rfl dX12_mark_248 rfl ?_
  refine Go_aload_n (q := 250) C 0 rfl dX12_mark_249 rfl ?_
  refine Go_getA (q := 253) (k := 68) C ci12 iw_12 kM_0 (rM_0_68 hR) rfl wm_14_15 rfl dX12_mark_250 rfl ?_
  refine Go_bipush (q := 255) (v := (60 : Int32)) C dX12_mark_253 rfl rfl ?_
  refine Go_iload_n (q := 256) C 2 rfl dX12_mark_255 rfl ?_
  refine Go_callV_V (av := (fun ad => [.ref (ad (43)), .int (60 : Int32), .int p1])) (st := []) (C := C) (hM := c_X12_keepsRow (Gl G) (ok_ln kM_43) hR hw) (hlk := wm_53_1) (hini := wm_1_5) (hins := wm_53_2) (hsel := wm_53_3) (hcode := wm_53_4) (ho := kM_0) (hci := rfl) (hc13 := by decide) (n := 3) (hd := by decide +kernel) (hr0 := ⟨rfl, rfl⟩) (hroom := ⟨by first | decide | (dsimp only; omega), by first | decide | (dsimp only; omega)⟩) (hlen := rfl) (hst := rfl) (hW := Nat.le_of_ble_eq_true rfl) (hdg := dX12_mark_256) (q := 259) (hq := rfl) (fun S256_39 hw hR => ?_)
  refine Go_iconst (q := 260) (v := (0 : Int32)) C dX12_mark_259 rfl rfl ?_
  refine Go_istore_n (q := 261) (lv' := [(3, .int (0 : Int32)), (0, .ref (Gad G (0))), (1, .int p0), (2, .int p1)]) C rfl dX12_mark_260 (by decide) rfl rfl ?_
  refine Go_lvp [1, 3, 0] rfl ?_
  exact g_X12_mark_261 C hQ p1 _ hR hw
set_option maxRecDepth 100000 in
set_option maxHeartbeats 4000000 in
theorem c_X12_mark (l : Launch) {p0 : Int32} {p1 : Int32} {S : St} {Q : Int32 → St → Prop} (hR : RCM S) (hw : w_X12_mark p0 p1 S Q) : MetI l yX12_mark (wB yX12_mark cX12_mark 4 (some .boolean)) rm_X12_mark shM NM RCM (fun ad => [.ref (ad (0)), .int p0, .int p1]) S Q := by
  refine MetI_of (cc := cX12_mark) (maxL := 4) (ret := (some .boolean)) (plainFor_of_name (by decide)) (fun _ => Nat.le_of_ble_eq_true rfl) (fun G C hl hQ => ?_)
  subst hl
  have C : Cx G cX12_mark BIG RX12 4 (some .boolean) rm_X12_mark shM NM := C
  show Go G 4 0 [] [(0, .ref (Gad G (0))), (1, .int p0), (2, .int p1)] S
  unfold w_X12_mark at hw
  refine Go_aload_n (q := 1) C 0 rfl dX12_mark_0 rfl ?_
  refine Go_iconst (q := 2) (v := (0 : Int32)) C dX12_mark_1 rfl rfl ?_
  refine Go_putI (q := 5) (k := 0) C ci12 iw_12 kM_0 rfl wm_15_14 rfl rfl (ci12.2.2.2.1 0 (by decide)) rfl rfl dX12_mark_2 rfl ?_
  refine Go_S (fun S2_1 e_S2_1 => ?_)
  have hw := hw S2_1 e_S2_1
  have hR := rcM e_S2_1 hR
  refine Go_iload_n (q := 6) C 1 rfl dX12_mark_5 rfl ?_
  refine Go_iconst (q := 7) (v := (0 : Int32)) C dX12_mark_6 rfl rfl ?_
  refine Go_iconst (q := 8) (v := (3 : Int32)) C dX12_mark_7 rfl rfl ?_
  refine Go_callS_I (av := (fun ad => [.int p0, .int (0 : Int32), .int (3 : Int32)])) (st := []) (C := C) (hM := c_X12_within (Gl G)  hR hw) (hlk := wm_27_1) (hini := wm_1_5) (hst2 := wm_27_2) (hcode := wm_27_3) (n := 3) (hd := by decide +kernel) (hr0 := ⟨rfl, rfl⟩) (hroom := ⟨by first | decide | (dsimp only; omega), by first | decide | (dsimp only; omega)⟩) (hlen := rfl) (hst := rfl) (hW := Nat.le_of_ble_eq_true rfl) (hdg := dX12_mark_8) (q := 11) (hq := rfl) (fun r8_3 S8_2 hw hR => ?_)
  refine Go_if_eq (t := 27) (q := 14) C hw dX12_mark_11 rfl rfl (fun hw => ?_) (fun hw => ?_)
  · refine Go_iconst (q := 28) (v := (0 : Int32)) C dX12_mark_27 rfl rfl ?_
    exact Go_zret C hQ hR rfl hw dX12_mark_28
  · refine Go_iload_n (q := 15) C 2 rfl dX12_mark_14 rfl ?_
    refine Go_if_eq (t := 29) (q := 18) C hw dX12_mark_15 rfl rfl (fun hw => ?_) (fun hw => ?_)
    · refine Go_lvp [0, 1, 2] rfl ?_
      exact g_X12_mark_29 C hQ p0 p1 hR hw
    · refine Go_aload_n (q := 19) C 0 rfl dX12_mark_18 rfl ?_
      refine Go_getA (q := 22) (k := 71) C ci12 iw_12 kM_0 (rM_0_71 hR) rfl wm_14_17 rfl dX12_mark_19 rfl ?_
      refine Go_iload_n (q := 23) C 1 rfl dX12_mark_22 rfl ?_
      obtain ⟨hin, hw⟩ := hw
      refine Go_zaload (q := 24) C kM_45 hin dX12_mark_23 rfl ?_
      refine Go_if_ne (t := 29) (q := 27) C hw dX12_mark_24 rfl rfl (fun hw => ?_) (fun hw => ?_)
      · refine Go_iconst (q := 28) (v := (0 : Int32)) C dX12_mark_27 rfl rfl ?_
        exact Go_zret C hQ hR rfl hw dX12_mark_28
      · refine Go_lvp [0, 1, 2] rfl ?_
        exact g_X12_mark_29 C hQ p0 p1 hR hw
-- X12_isPair
abbrev rm_X12_isPair : Room := { frames := 0, cells := 0, slots := 0, locals := 0 }
set_option maxRecDepth 100000 in
set_option maxHeartbeats 4000000 in
theorem g_X12_isPair_30 {G : GC} (C : Cx G cX12_isPair BIG RX12 4 (some .boolean) rm_X12_isPair shM NM) {Q : Int32 → St → Prop} (hQ : QI G RCM Q) (p0 : Int32) (p1 : Int32) (v3 : Int32) {k2 : Int32 → St → Prop} (hk2 : ∀ (v3 : Int32) (S : St), RCM S → k2 v3 S → Go G 4 2 [] [(0, .ref (Gad G (0))), (1, .int p0), (2, .int p1), (3, .int v3)] S) {S : St} (hR : RCM S) (hw : w_X12_isPair_30 p0 p1 Q k2 v3 S) : Go G 4 30 [] [(0, .ref (Gad G (0))), (1, .int p0), (2, .int p1), (3, .int v3)] S := by
  unfold w_X12_isPair_30 at hw
  refine Go_aload_n (q := 31) C 0 rfl dX12_isPair_30 rfl ?_
  refine Go_getA (q := 34) (k := 18) C ci12 iw_12 kM_0 (rM_0_18 hR) rfl wm_12_22 rfl dX12_isPair_31 rfl ?_
  refine Go_iload_n (q := 35) C 3 rfl dX12_isPair_34 rfl ?_
  obtain ⟨hin, hw⟩ := hw
  refine Go_iaload (q := 36) C kM_3 hin dX12_isPair_35 rfl ?_
  refine Go_iload_n (q := 37) C 2 rfl dX12_isPair_36 rfl ?_
  refine Go_icmp_ne (t := 52) (q := 40) C hw dX12_isPair_37 rfl rfl (fun hw => ?_) (fun hw => ?_)
  · refine Go_aload_n (q := 41) C 0 rfl dX12_isPair_40 rfl ?_
    refine Go_getA (q := 44) (k := 19) C ci12 iw_12 kM_0 (rM_0_19 hR) rfl wm_12_23 rfl dX12_isPair_41 rfl ?_
    refine Go_iload_n (q := 45) C 3 rfl dX12_isPair_44 rfl ?_
    obtain ⟨hin, hw⟩ := hw
    refine Go_iaload (q := 46) C kM_4 hin dX12_isPair_45 rfl ?_
    refine Go_iload_n (q := 47) C 1 rfl dX12_isPair_46 rfl ?_
    refine Go_icmp_ne (t := 52) (q := 50) C hw dX12_isPair_47 rfl rfl (fun hw => ?_) (fun hw => ?_)
    · refine Go_iconst (q := 51) (v := (1 : Int32)) C dX12_isPair_50 rfl rfl ?_
      exact Go_zret C hQ hR rfl hw dX12_isPair_51
    · refine Go_iinc2 (q := 55) (kp := 3) (cst := (1 : Int32)) C dX12_isPair_52 rfl rfl (by decide) rfl (fun x52_1 e_x52_1 => ?_)
      have hw := hw x52_1 e_x52_1
      refine Go_lve (lv' := [(3, .int x52_1), (0, .ref (Gad G (0))), (1, .int p0), (2, .int p1)]) rfl ?_
      refine Go_goto (q := 2) C dX12_isPair_55 rfl ?_
      refine Go_lvp [1, 2, 3, 0] rfl ?_
      exact hk2 _ _ hR hw
  · refine Go_iinc2 (q := 55) (kp := 3) (cst := (1 : Int32)) C dX12_isPair_52 rfl rfl (by decide) rfl (fun x52_2 e_x52_2 => ?_)
    have hw := hw x52_2 e_x52_2
    refine Go_lve (lv' := [(3, .int x52_2), (0, .ref (Gad G (0))), (1, .int p0), (2, .int p1)]) rfl ?_
    refine Go_goto (q := 2) C dX12_isPair_55 rfl ?_
    refine Go_lvp [1, 2, 3, 0] rfl ?_
    exact hk2 _ _ hR hw
set_option maxRecDepth 100000 in
set_option maxHeartbeats 4000000 in
theorem g_X12_isPair_2 {G : GC} (C : Cx G cX12_isPair BIG RX12 4 (some .boolean) rm_X12_isPair shM NM) {Q : Int32 → St → Prop} (hQ : QI G RCM Q) (p0 : Int32) (p1 : Int32) (v3 : Int32) {S : St} (hR : RCM S) (hw : w_X12_isPair_2 p0 p1 Q v3 S) : Go G 4 2 [] [(0, .ref (Gad G (0))), (1, .int p0), (2, .int p1), (3, .int v3)] S := by
  obtain ⟨n, hw⟩ := hw
  induction n generalizing v3 S with
  | zero => exact hw.elim
  | succ n ih =>
    have hw : b_X12_isPair_2 p0 p1 Q (lpn (fun _ _ => False) (b_X12_isPair_2 p0 p1 Q) n) v3 S := hw
    generalize lpn (fun _ _ => False) (b_X12_isPair_2 p0 p1 Q) n = kf at hw ih
    have hk2 := fun (v3 : Int32) (S : St) (hR : RCM S) hw => ih v3 hR hw
    unfold b_X12_isPair_2 at hw
    refine Go_iload_n (q := 3) C 3 rfl dX12_isPair_2 rfl ?_
    refine Go_aload_n (q := 4) C 0 rfl dX12_isPair_3 rfl ?_
    refine Go_getI (q := 7) (k := 12) C ci12 iw_12 kM_0 rfl wm_24_19 rfl dX12_isPair_4 rfl ?_
    refine Go_icmp_ge (t := 58) (q := 10) C hw dX12_isPair_7 rfl rfl (fun hw => ?_) (fun hw => ?_)
    · refine Go_iconst (q := 59) (v := (0 : Int32)) C dX12_isPair_58 rfl rfl ?_
      exact Go_zret C hQ hR rfl hw dX12_isPair_59
    · refine Go_aload_n (q := 11) C 0 rfl dX12_isPair_10 rfl ?_
      refine Go_getA (q := 14) (k := 18) C ci12 iw_12 kM_0 (rM_0_18 hR) rfl wm_12_22 rfl dX12_isPair_11 rfl ?_
      refine Go_iload_n (q := 15) C 3 rfl dX12_isPair_14 rfl ?_
      obtain ⟨hin, hw⟩ := hw
      refine Go_iaload (q := 16) C kM_3 hin dX12_isPair_15 rfl ?_
      refine Go_iload_n (q := 17) C 1 rfl dX12_isPair_16 rfl ?_
      refine Go_icmp_ne (t := 30) (q := 20) C hw dX12_isPair_17 rfl rfl (fun hw => ?_) (fun hw => ?_)
      · refine Go_aload_n (q := 21) C 0 rfl dX12_isPair_20 rfl ?_
        refine Go_getA (q := 24) (k := 19) C ci12 iw_12 kM_0 (rM_0_19 hR) rfl wm_12_23 rfl dX12_isPair_21 rfl ?_
        refine Go_iload_n (q := 25) C 3 rfl dX12_isPair_24 rfl ?_
        obtain ⟨hin, hw⟩ := hw
        refine Go_iaload (q := 26) C kM_4 hin dX12_isPair_25 rfl ?_
        refine Go_iload_n (q := 27) C 2 rfl dX12_isPair_26 rfl ?_
        refine Go_icmp_eq (t := 50) (q := 30) C hw dX12_isPair_27 rfl rfl (fun hw => ?_) (fun hw => ?_)
        · refine Go_iconst (q := 51) (v := (1 : Int32)) C dX12_isPair_50 rfl rfl ?_
          exact Go_zret C hQ hR rfl hw dX12_isPair_51
        · refine Go_lvp [0, 1, 2, 3] rfl ?_
          exact g_X12_isPair_30 C hQ p0 p1 _ hk2 hR hw
      · refine Go_lvp [0, 1, 2, 3] rfl ?_
        exact g_X12_isPair_30 C hQ p0 p1 _ hk2 hR hw
set_option maxRecDepth 100000 in
set_option maxHeartbeats 4000000 in
theorem c_X12_isPair (l : Launch) {p0 : Int32} {p1 : Int32} {S : St} {Q : Int32 → St → Prop} (hR : RCM S) (hw : w_X12_isPair p0 p1 S Q) : MetI l yX12_isPair (wB yX12_isPair cX12_isPair 4 (some .boolean)) rm_X12_isPair shM NM RCM (fun ad => [.ref (ad (0)), .int p0, .int p1]) S Q := by
  refine MetI_of (cc := cX12_isPair) (maxL := 4) (ret := (some .boolean)) (plainFor_of_name (by decide)) (fun _ => Nat.le_of_ble_eq_true rfl) (fun G C hl hQ => ?_)
  subst hl
  have C : Cx G cX12_isPair BIG RX12 4 (some .boolean) rm_X12_isPair shM NM := C
  show Go G 4 0 [] [(0, .ref (Gad G (0))), (1, .int p0), (2, .int p1)] S
  unfold w_X12_isPair at hw
  refine Go_iconst (q := 1) (v := (0 : Int32)) C dX12_isPair_0 rfl rfl ?_
  refine Go_istore_n (q := 2) (lv' := [(3, .int (0 : Int32)), (0, .ref (Gad G (0))), (1, .int p0), (2, .int p1)]) C rfl dX12_isPair_1 (by decide) rfl rfl ?_
  refine Go_lvp [1, 2, 3, 0] rfl ?_
  exact g_X12_isPair_2 C hQ p0 p1 _ hR hw
