-- X8_readTests
abbrev rm_X8_readTests (d : Nat) : Room := { frames := d * 16 + 5, cells := 0, slots := 0, locals := d * 700 + 113 }
set_option maxRecDepth 100000 in
set_option maxHeartbeats 4000000 in
theorem g_X8_readTests_39 {G : GC} {d : Nat} (C : Cx G cX8_readTests BIG RX8 5 (some .boolean) (rm_X8_readTests d) shE NE) {Q : Int32 → St → Prop} (hQ : QI G RCE Q) {rec : Int32 → St → (Int32 → St → Prop) → Prop} (hrec : ∀ {p0 : Int32} {S : St} {Q : Int32 → St → Prop}, RCE S → rec p0 S Q → MetI (Gl G) yX8_readPart (wB yX8_readPart cX8_readPart 4 (some .boolean)) (rm_X8_readPart d) shE NE RCE (fun ad => [.ref (ad (7)), .int p0]) S Q) (p0 : Int32) (v3 : Int32) {k8 : Int32 → Int32 → St → Prop} (hk8 : ∀ (v2 : Int32) (v3 : Int32) (S : St), RCE S → k8 v2 v3 S → Go G 5 8 [] [(0, .ref (Gad G (7))), (1, .int p0), (2, .int v2), (3, .int v3)] S) {S : St} (hR : RCE S) (hw : w_X8_readTests_39 p0 rec k8 v3 S) : Go G 5 39 [] [(0, .ref (Gad G (7))), (1, .int p0), (3, .int v3)] S := by
  unfold w_X8_readTests_39 at hw
  refine Go_aload_n (q := 40) C 0 rfl dX8_readTests_39 rfl ?_
  refine Go_getI (q := 43) (k := 5) C ci8 iw_8 kE_7 rfl wm_16_3 rfl dX8_readTests_40 rfl ?_
  refine Go_topi (fun x43_3 e_x43_3 => ?_)
  have hw := hw x43_3 e_x43_3
  refine Go_istore (q := 45) (lv' := [(4, .int x43_3), (0, .ref (Gad G (7))), (1, .int p0), (3, .int v3)]) C dX8_readTests_43 (by decide) rfl rfl ?_
  refine Go_aload_n (q := 46) C 1 rfl dX8_readTests_45 rfl ?_
  refine Go_aload_n (q := 47) C 1 rfl dX8_readTests_46 rfl ?_
  refine Go_getI (q := 50) (k := 4) C ci8 iw_8 kE_7 rfl wm_18_0 rfl dX8_readTests_47 rfl ?_
  refine Go_iconst (q := 51) (v := (1 : Int32)) C dX8_readTests_50 rfl rfl ?_
  refine Go_iadd (q := 52) C dX8_readTests_51 rfl ?_
  refine Go_callV_V (av := (fun ad => [.int ((gI S 7 4) + (1 : Int32))])) (st := []) (C := C) (hM := c_X8_holdToken (Gl G) hR hw) (hlk := wm_17_20) (hini := wm_1_20) (hins := wm_17_21) (hsel := wm_17_22) (hcode := wm_17_23) (ho := kE_7) (hci := rfl) (hc13 := by decide) (n := 1) (hd := by decide +kernel) (hr0 := ⟨rfl, rfl⟩) (hroom := ⟨by first | decide | (dsimp only; omega), by first | decide | (dsimp only; omega)⟩) (hlen := rfl) (hst := rfl) (hW := Nat.le_of_ble_eq_true rfl) (hdg := dX8_readTests_52) (q := 55) (hq := rfl) (fun S52_4 hw hR => ?_)
  refine Go_aload_n (q := 56) C 1 rfl dX8_readTests_55 rfl ?_
  refine Go_iload_n (q := 57) C 2 rfl dX8_readTests_56 rfl ?_
  refine Go_callV_I (av := (fun ad => [.int p0])) (st := []) (C := C) (hM := c_X8_readTest (Gl G) @hrec hR hw) (hlk := wm_21_13) (hini := wm_1_20) (hins := wm_21_14) (hsel := wm_21_15) (hcode := wm_22_6) (ho := kE_7) (hci := rfl) (hc13 := by decide) (n := 1) (hd := by decide +kernel) (hr0 := ⟨rfl, rfl⟩) (hroom := ⟨by first | decide | (dsimp only; omega), by first | decide | (dsimp only; omega)⟩) (hlen := rfl) (hst := rfl) (hW := Nat.le_of_ble_eq_true rfl) (hdg := dX8_readTests_57) (q := 60) (hq := rfl) (fun r57_6 S57_5 hw hR => ?_)
  refine Go_istore_n (q := 61) (lv' := [(2, .int r57_6), (4, .int x43_3), (0, .ref (Gad G (7))), (1, .int p0), (3, .int v3)]) C rfl dX8_readTests_60 (by decide) rfl rfl ?_
  refine Go_aload_n (q := 62) C 2 rfl dX8_readTests_61 rfl ?_
  refine Go_getA (q := 65) (k := 1) C ci8 iw_8 kE_7 (rE_7_1 hR) rfl wm_6_8 rfl dX8_readTests_62 rfl ?_
  refine Go_sipush (q := 68) (v := (10000 : Int32)) C dX8_readTests_65 rfl rfl ?_
  refine Go_iload (q := 70) C 1 rfl dX8_readTests_68 rfl ?_
  refine Go_iadd (q := 71) C dX8_readTests_70 rfl ?_
  refine Go_callV_V (av := (fun ad => [.int ((10000 : Int32) + x43_3)])) (st := []) (C := C) (hM := c_X0_add (Gl G) hR hw) (hlk := wm_21_16) (hini := wm_6_7) (hins := wm_21_17) (hsel := wm_21_18) (hcode := wm_21_19) (ho := kE_8) (hci := rfl) (hc13 := by decide) (n := 1) (hd := by decide +kernel) (hr0 := ⟨rfl, rfl⟩) (hroom := ⟨by first | decide | (dsimp only; omega), by first | decide | (dsimp only; omega)⟩) (hlen := rfl) (hst := rfl) (hW := Nat.le_of_ble_eq_true rfl) (hdg := dX8_readTests_71) (q := 74) (hq := rfl) (fun S71_7 hw hR => ?_)
  refine Go_iinc2 (q := 77) (kp := 4) (cst := (1 : Int32)) C dX8_readTests_74 rfl rfl (by decide) rfl (fun x74_8 e_x74_8 => ?_)
  have hw := hw x74_8 e_x74_8
  refine Go_lve (lv' := [(3, .int x74_8), (2, .int r57_6), (4, .int x43_3), (0, .ref (Gad G (7))), (1, .int p0)]) rfl ?_
  refine Go_goto (q := 8) C dX8_readTests_77 rfl ?_
  refine Go_lvp [3, 4, 1, 0] rfl ?_
  exact hk8 _ _ _ hR hw
set_option maxRecDepth 100000 in
set_option maxHeartbeats 4000000 in
theorem g_X8_readTests_8 {G : GC} {d : Nat} (C : Cx G cX8_readTests BIG RX8 5 (some .boolean) (rm_X8_readTests d) shE NE) {Q : Int32 → St → Prop} (hQ : QI G RCE Q) {rec : Int32 → St → (Int32 → St → Prop) → Prop} (hrec : ∀ {p0 : Int32} {S : St} {Q : Int32 → St → Prop}, RCE S → rec p0 S Q → MetI (Gl G) yX8_readPart (wB yX8_readPart cX8_readPart 4 (some .boolean)) (rm_X8_readPart d) shE NE RCE (fun ad => [.ref (ad (7)), .int p0]) S Q) (p0 : Int32) (v2 : Int32) (v3 : Int32) {S : St} (hR : RCE S) (hw : w_X8_readTests_8 p0 rec Q v2 v3 S) : Go G 5 8 [] [(0, .ref (Gad G (7))), (1, .int p0), (2, .int v2), (3, .int v3)] S := by
  obtain ⟨n, hw⟩ := hw
  induction n generalizing v2 v3 S with
  | zero => exact hw.elim
  | succ n ih =>
    have hw : b_X8_readTests_8 p0 rec Q (lpn (fun _ _ _ => False) (b_X8_readTests_8 p0 rec Q) n) v2 v3 S := hw
    generalize lpn (fun _ _ _ => False) (b_X8_readTests_8 p0 rec Q) n = kf at hw ih
    have hk8 := fun (v2 : Int32) (v3 : Int32) (S : St) (hR : RCE S) hw => ih v2 v3 hR hw
    unfold b_X8_readTests_8 at hw
    refine Go_iload_n (q := 9) C 3 rfl dX8_readTests_8 rfl ?_
    refine Go_sipush (q := 12) (v := (1000 : Int32)) C dX8_readTests_9 rfl rfl ?_
    refine Go_icmp_ge (t := 80) (q := 15) C hw dX8_readTests_12 rfl rfl (fun hw => ?_) (fun hw => ?_)
    · refine Go_iload_n (q := 81) C 2 rfl dX8_readTests_80 rfl ?_
      exact Go_zret C hQ hR (zb hw.1) hw.2 dX8_readTests_81
    · refine Go_iload_n (q := 16) C 2 rfl dX8_readTests_15 rfl ?_
      refine Go_if_eq (t := 80) (q := 19) C hw dX8_readTests_16 rfl rfl (fun hw => ?_) (fun hw => ?_)
      · refine Go_iload_n (q := 81) C 2 rfl dX8_readTests_80 rfl ?_
        exact Go_zret C hQ hR (zb hw.1) hw.2 dX8_readTests_81
      · refine Go_aload_n (q := 20) C 0 rfl dX8_readTests_19 rfl ?_
        refine Go_getI (q := 23) (k := 5) C ci8 iw_8 kE_7 rfl wm_16_3 rfl dX8_readTests_20 rfl ?_
        refine Go_sipush (q := 26) (v := (145 : Int32)) C dX8_readTests_23 rfl rfl ?_
        refine Go_icmp_eq (t := 39) (q := 29) C hw dX8_readTests_26 rfl rfl (fun hw => ?_) (fun hw => ?_)
        · refine Go_lvp [0, 1, 3] rfl ?_
          exact g_X8_readTests_39 C hQ @hrec p0 _ hk8 hR hw
        · refine Go_aload_n (q := 30) C 0 rfl dX8_readTests_29 rfl ?_
          refine Go_getI (q := 33) (k := 5) C ci8 iw_8 kE_7 rfl wm_16_3 rfl dX8_readTests_30 rfl ?_
          refine Go_sipush (q := 36) (v := (146 : Int32)) C dX8_readTests_33 rfl rfl ?_
          refine Go_icmp_ne (t := 80) (q := 39) C hw dX8_readTests_36 rfl rfl (fun hw => ?_) (fun hw => ?_)
          · refine Go_lvp [0, 1, 3] rfl ?_
            exact g_X8_readTests_39 C hQ @hrec p0 _ hk8 hR hw
          · refine Go_iload_n (q := 81) C 2 rfl dX8_readTests_80 rfl ?_
            exact Go_zret C hQ hR (zb hw.1) hw.2 dX8_readTests_81
set_option maxRecDepth 100000 in
set_option maxHeartbeats 4000000 in
theorem c_X8_readTests (l : Launch) {d : Nat} {rec : Int32 → St → (Int32 → St → Prop) → Prop} (hrec : ∀ {p0 : Int32} {S : St} {Q : Int32 → St → Prop}, RCE S → rec p0 S Q → MetI l yX8_readPart (wB yX8_readPart cX8_readPart 4 (some .boolean)) (rm_X8_readPart d) shE NE RCE (fun ad => [.ref (ad (7)), .int p0]) S Q) {p0 : Int32} {S : St} {Q : Int32 → St → Prop} (hR : RCE S) (hw : w_X8_readTests rec p0 S Q) : MetI l yX8_readTests (wB yX8_readTests cX8_readTests 5 (some .boolean)) (rm_X8_readTests d) shE NE RCE (fun ad => [.ref (ad (7)), .int p0]) S Q := by
  refine MetI_of (cc := cX8_readTests) (maxL := 5) (ret := (some .boolean)) (plainFor_of_name (by decide)) (fun _ => Nat.le_of_ble_eq_true rfl) (fun G C hl hQ => ?_)
  subst hl
  have C : Cx G cX8_readTests BIG RX8 5 (some .boolean) (rm_X8_readTests d) shE NE := C
  show Go G 5 0 [] [(0, .ref (Gad G (7))), (1, .int p0)] S
  unfold w_X8_readTests at hw
  refine Go_aload_n (q := 1) C 0 rfl dX8_readTests_0 rfl ?_
  refine Go_iload_n (q := 2) C 1 rfl dX8_readTests_1 rfl ?_
  refine Go_callV_I (av := (fun ad => [.int p0])) (st := []) (C := C) (hM := c_X8_readTest (Gl G) @hrec  hR hw) (hlk := wm_21_13) (hini := wm_1_20) (hins := wm_21_14) (hsel := wm_21_15) (hcode := wm_22_6) (ho := kE_7) (hci := rfl) (hc13 := by decide) (n := 1) (hd := by decide +kernel) (hr0 := ⟨rfl, rfl⟩) (hroom := ⟨by first | decide | (dsimp only; omega), by first | decide | (dsimp only; omega)⟩) (hlen := rfl) (hst := rfl) (hW := Nat.le_of_ble_eq_true rfl) (hdg := dX8_readTests_2) (q := 5) (hq := rfl) (fun r2_2 S2_1 hw hR => ?_)
  refine Go_istore_n (q := 6) (lv' := [(2, .int r2_2), (0, .ref (Gad G (7))), (1, .int p0)]) C rfl dX8_readTests_5 (by decide) rfl rfl ?_
  refine Go_iconst (q := 7) (v := (0 : Int32)) C dX8_readTests_6 rfl rfl ?_
  refine Go_istore_n (q := 8) (lv' := [(3, .int (0 : Int32)), (2, .int r2_2), (0, .ref (Gad G (7))), (1, .int p0)]) C rfl dX8_readTests_7 (by decide) rfl rfl ?_
  refine Go_lvp [2, 3, 1, 0] rfl ?_
  exact g_X8_readTests_8 C hQ @hrec p0 _ _ hR hw
-- X8_readPart

set_option maxRecDepth 100000 in
set_option maxHeartbeats 4000000 in
theorem g_X8_readPart_131 {G : GC} {d : Nat} (C : Cx G cX8_readPart BIG RX8 4 (some .boolean) (rm_X8_readPart (d + 1)) shE NE) {Q : Int32 → St → Prop} (hQ : QI G RCE Q) {rec : Int32 → St → (Int32 → St → Prop) → Prop} (hrec : ∀ {p0 : Int32} {S : St} {Q : Int32 → St → Prop}, RCE S → rec p0 S Q → MetI (Gl G) yX8_readPart (wB yX8_readPart cX8_readPart 4 (some .boolean)) (rm_X8_readPart d) shE NE RCE (fun ad => [.ref (ad (7)), .int p0]) S Q) (t0 : Int32) {S : St} (hR : RCE S) (hw : w_X8_readPart_131 Q t0 S) : Go G 4 131 [.int t0, .ref (Gad G (8))] [] S := by
  unfold w_X8_readPart_131 at hw
  refine Go_callV_V (av := (fun ad => [.int t0])) (st := []) (C := C) (hM := c_X0_add (Gl G) hR hw) (hlk := wm_21_16) (hini := wm_6_7) (hins := wm_21_17) (hsel := wm_21_18) (hcode := wm_21_19) (ho := kE_8) (hci := rfl) (hc13 := by decide) (n := 1) (hd := by decide +kernel) (hr0 := ⟨rfl, rfl⟩) (hroom := ⟨by first | decide | (dsimp only; omega), by first | decide | (dsimp only; omega)⟩) (hlen := rfl) (hst := rfl) (hW := Nat.le_of_ble_eq_true rfl) (hdg := dX8_readPart_131) (q := 134) (hq := rfl) (fun S131_10 hw hR => ?_)
  refine Go_iconst (q := 135) (v := (1 : Int32)) C dX8_readPart_134 rfl rfl ?_
  exact Go_zret C hQ hR rfl hw dX8_readPart_135
set_option maxRecDepth 100000 in
set_option maxHeartbeats 4000000 in
theorem g_X8_readPart_113 {G : GC} {d : Nat} (C : Cx G cX8_readPart BIG RX8 4 (some .boolean) (rm_X8_readPart (d + 1)) shE NE) {Q : Int32 → St → Prop} (hQ : QI G RCE Q) {rec : Int32 → St → (Int32 → St → Prop) → Prop} (hrec : ∀ {p0 : Int32} {S : St} {Q : Int32 → St → Prop}, RCE S → rec p0 S Q → MetI (Gl G) yX8_readPart (wB yX8_readPart cX8_readPart 4 (some .boolean)) (rm_X8_readPart d) shE NE RCE (fun ad => [.ref (ad (7)), .int p0]) S Q) (v2 : Int32) (v3 : Int32) {S : St} (hR : RCE S) (hw : w_X8_readPart_113 Q v2 v3 S) : Go G 4 113 [] [(0, .ref (Gad G (7))), (2, .int v2), (3, .int v3)] S := by
  unfold w_X8_readPart_113 at hw
  refine Go_aload_n (q := 114) C 0 rfl dX8_readPart_113 rfl ?_
  refine Go_getA (q := 117) (k := 1) C ci8 iw_8 kE_7 (rE_7_1 hR) rfl wm_6_8 rfl dX8_readPart_114 rfl ?_
  refine Go_iload_n (q := 118) C 1 rfl dX8_readPart_117 rfl ?_
  refine Go_iconst (q := 119) (v := (2 : Int32)) C dX8_readPart_118 rfl rfl ?_
  refine Go_icmp_ne (t := 126) (q := 122) C hw dX8_readPart_119 rfl rfl (fun hw => ?_) (fun hw => ?_)
  · refine Go_iload_n (q := 123) C 2 rfl dX8_readPart_122 rfl ?_
    refine Go_goto (q := 131) C dX8_readPart_123 rfl ?_
    refine Go_lvp [] rfl ?_
    exact g_X8_readPart_131 C hQ @hrec _ hR hw
  · refine Go_sipush (q := 129) (v := (10000 : Int32)) C dX8_readPart_126 rfl rfl ?_
    refine Go_iload_n (q := 130) C 1 rfl dX8_readPart_129 rfl ?_
    refine Go_iadd (q := 131) C dX8_readPart_130 rfl ?_
    refine Go_lvp [] rfl ?_
    exact g_X8_readPart_131 C hQ @hrec _ hR hw
set_option maxRecDepth 100000 in
set_option maxHeartbeats 4000000 in
theorem g_X8_readPart_36 {G : GC} {d : Nat} (C : Cx G cX8_readPart BIG RX8 4 (some .boolean) (rm_X8_readPart (d + 1)) shE NE) {Q : Int32 → St → Prop} (hQ : QI G RCE Q) {rec : Int32 → St → (Int32 → St → Prop) → Prop} (hrec : ∀ {p0 : Int32} {S : St} {Q : Int32 → St → Prop}, RCE S → rec p0 S Q → MetI (Gl G) yX8_readPart (wB yX8_readPart cX8_readPart 4 (some .boolean)) (rm_X8_readPart d) shE NE RCE (fun ad => [.ref (ad (7)), .int p0]) S Q) (p0 : Int32) (v2 : Int32) {S : St} (hR : RCE S) (hw : w_X8_readPart_36 p0 rec Q v2 S) : Go G 4 36 [] [(0, .ref (Gad G (7))), (1, .int p0), (2, .int v2)] S := by
  unfold w_X8_readPart_36 at hw
  refine Go_iload_n (q := 37) C 1 rfl dX8_readPart_36 rfl ?_
  refine Go_iconst (q := 38) (v := (5 : Int32)) C dX8_readPart_37 rfl rfl ?_
  refine Go_icmp_lt (t := 47) (q := 41) C hw dX8_readPart_38 rfl rfl (fun hw => ?_) (fun hw => ?_)
  · refine Go_aload_n (q := 48) C 0 rfl dX8_readPart_47 rfl ?_
    refine Go_getJ (q := 51) (k := 6) C ci8 iw_8 kE_7 rfl wm_18_1 rfl dX8_readPart_48 rfl ?_
    refine Go_l2i (q := 52) C dX8_readPart_51 rfl ?_
    refine Go_topi (fun x52_2 e_x52_2 => ?_)
    have hw := hw x52_2 e_x52_2
    refine Go_istore_n (q := 53) (lv' := [(3, .int x52_2), (0, .ref (Gad G (7))), (1, .int p0), (2, .int v2)]) C rfl dX8_readPart_52 (by decide) rfl rfl ?_
    refine Go_aload_n (q := 54) C 1 rfl dX8_readPart_53 rfl ?_
    refine Go_aload_n (q := 55) C 1 rfl dX8_readPart_54 rfl ?_
    refine Go_getI (q := 58) (k := 4) C ci8 iw_8 kE_7 rfl wm_18_0 rfl dX8_readPart_55 rfl ?_
    refine Go_iconst (q := 59) (v := (1 : Int32)) C dX8_readPart_58 rfl rfl ?_
    refine Go_iadd (q := 60) C dX8_readPart_59 rfl ?_
    refine Go_callV_V (av := (fun ad => [.int ((gI S 7 4) + (1 : Int32))])) (st := []) (C := C) (hM := c_X8_holdToken (Gl G) hR hw) (hlk := wm_17_20) (hini := wm_1_20) (hins := wm_17_21) (hsel := wm_17_22) (hcode := wm_17_23) (ho := kE_7) (hci := rfl) (hc13 := by decide) (n := 1) (hd := by decide +kernel) (hr0 := ⟨rfl, rfl⟩) (hroom := ⟨by first | decide | (dsimp only; omega), by first | decide | (dsimp only; omega)⟩) (hlen := rfl) (hst := rfl) (hW := Nat.le_of_ble_eq_true rfl) (hdg := dX8_readPart_60) (q := 63) (hq := rfl) (fun S60_3 hw hR => ?_)
    refine Go_iload_n (q := 64) C 3 rfl dX8_readPart_63 rfl ?_
    refine Go_bipush (q := 66) (v := (40 : Int32)) C dX8_readPart_64 rfl rfl ?_
    refine Go_icmp_ne (t := 94) (q := 69) C hw dX8_readPart_66 rfl rfl (fun hw => ?_) (fun hw => ?_)
    · refine Go_aload_n (q := 70) C 1 rfl dX8_readPart_69 rfl ?_
      refine Go_iload_n (q := 71) C 2 rfl dX8_readPart_70 rfl ?_
      refine Go_iconst (q := 72) (v := (1 : Int32)) C dX8_readPart_71 rfl rfl ?_
      refine Go_iadd (q := 73) C dX8_readPart_72 rfl ?_
      refine Go_callV_I (av := (fun ad => [.int (p0 + (1 : Int32))])) (st := []) (C := C) (hM := c_X8_readTests (Gl G) @hrec hR hw) (hlk := wm_21_9) (hini := wm_1_20) (hins := wm_21_10) (hsel := wm_21_11) (hcode := wm_21_12) (ho := kE_7) (hci := rfl) (hc13 := by decide) (n := 1) (hd := by decide +kernel) (hr0 := ⟨rfl, rfl⟩) (hroom := ⟨by first | decide | (dsimp only; omega), by first | decide | (dsimp only; omega)⟩) (hlen := rfl) (hst := rfl) (hW := Nat.le_of_ble_eq_true rfl) (hdg := dX8_readPart_73) (q := 76) (hq := rfl) (fun r73_5 S73_4 hw hR => ?_)
      refine Go_if_eq (t := 92) (q := 79) C hw dX8_readPart_76 rfl rfl (fun hw => ?_) (fun hw => ?_)
      · refine Go_iconst (q := 93) (v := (0 : Int32)) C dX8_readPart_92 rfl rfl ?_
        exact Go_zret C hQ hR rfl hw dX8_readPart_93
      · refine Go_aload_n (q := 80) C 1 rfl dX8_readPart_79 rfl ?_
        refine Go_bipush (q := 82) (v := (41 : Int32)) C dX8_readPart_80 rfl rfl ?_
        refine Go_callV_I (av := (fun ad => [.int (41 : Int32)])) (st := []) (C := C) (hM := c_X8_takeKey (Gl G) hR hw) (hlk := wm_18_2) (hini := wm_1_20) (hins := wm_18_3) (hsel := wm_18_4) (hcode := wm_18_5) (ho := kE_7) (hci := rfl) (hc13 := by decide) (n := 1) (hd := by decide +kernel) (hr0 := ⟨rfl, rfl⟩) (hroom := ⟨by first | decide | (dsimp only; omega), by first | decide | (dsimp only; omega)⟩) (hlen := rfl) (hst := rfl) (hW := Nat.le_of_ble_eq_true rfl) (hdg := dX8_readPart_82) (q := 85) (hq := rfl) (fun r82_7 S82_6 hw hR => ?_)
        refine Go_if_eq (t := 92) (q := 88) C hw dX8_readPart_85 rfl rfl (fun hw => ?_) (fun hw => ?_)
        · refine Go_iconst (q := 93) (v := (0 : Int32)) C dX8_readPart_92 rfl rfl ?_
          exact Go_zret C hQ hR rfl hw dX8_readPart_93
        · refine Go_iconst (q := 89) (v := (1 : Int32)) C dX8_readPart_88 rfl rfl ?_
          refine Go_goto (q := 93) C dX8_readPart_89 rfl ?_
          exact Go_zret C hQ hR rfl hw dX8_readPart_93
    · refine Go_iload_n (q := 95) C 3 rfl dX8_readPart_94 rfl ?_
      refine Go_sipush (q := 98) (v := (144 : Int32)) C dX8_readPart_95 rfl rfl ?_
      refine Go_icmp_ne (t := 113) (q := 101) C hw dX8_readPart_98 rfl rfl (fun hw => ?_) (fun hw => ?_)
      · refine Go_aload_n (q := 102) C 1 rfl dX8_readPart_101 rfl ?_
        refine Go_iload_n (q := 103) C 2 rfl dX8_readPart_102 rfl ?_
        refine Go_iconst (q := 104) (v := (1 : Int32)) C dX8_readPart_103 rfl rfl ?_
        refine Go_iadd (q := 105) C dX8_readPart_104 rfl ?_
        refine Go_callV_I (av := (fun ad => [.int (p0 + (1 : Int32))])) (st := []) (C := C) (hM := hrec hR hw) (hlk := wm_21_22) (hini := wm_1_20) (hins := wm_21_23) (hsel := wm_22_0) (hcode := wm_21_21) (ho := kE_7) (hci := rfl) (hc13 := by decide) (n := 1) (hd := by decide +kernel) (hr0 := ⟨rfl, rfl⟩) (hroom := ⟨by first | decide | (dsimp only; omega), by first | decide | (dsimp only; omega)⟩) (hlen := rfl) (hst := rfl) (hW := Nat.le_of_ble_eq_true rfl) (hdg := dX8_readPart_105) (q := 108) (hq := rfl) (fun r105_9 S105_8 hw hR => ?_)
        refine Go_if_ne (t := 113) (q := 111) C hw dX8_readPart_108 rfl rfl (fun hw => ?_) (fun hw => ?_)
        · refine Go_iconst (q := 112) (v := (0 : Int32)) C dX8_readPart_111 rfl rfl ?_
          exact Go_zret C hQ hR rfl hw dX8_readPart_112
        · refine Go_lvp [1, 3, 0] rfl ?_
          exact g_X8_readPart_113 C hQ @hrec _ _ hR hw
      · refine Go_lvp [1, 3, 0] rfl ?_
        exact g_X8_readPart_113 C hQ @hrec _ _ hR hw
  · refine Go_aload_n (q := 42) C 0 rfl dX8_readPart_41 rfl ?_
    refine Go_iconst (q := 43) (v := (5 : Int32)) C dX8_readPart_42 rfl rfl ?_
    refine Go_callV_I (av := (fun ad => [.int (5 : Int32)])) (st := []) (C := C) (hM := c_X8_isWrong (Gl G) hR hw) (hlk := wm_18_6) (hini := wm_1_20) (hins := wm_18_7) (hsel := wm_18_8) (hcode := wm_18_9) (ho := kE_7) (hci := rfl) (hc13 := by decide) (n := 1) (hd := by decide +kernel) (hr0 := ⟨rfl, rfl⟩) (hroom := ⟨by first | decide | (dsimp only; omega), by first | decide | (dsimp only; omega)⟩) (hlen := rfl) (hst := rfl) (hW := Nat.le_of_ble_eq_true rfl) (hdg := dX8_readPart_43) (q := 46) (hq := rfl) (fun r43_12 S43_11 hw hR => ?_)
    exact Go_zret C hQ hR (zb hw.1) hw.2 dX8_readPart_46
set_option maxRecDepth 100000 in
set_option maxHeartbeats 4000000 in
theorem h_X8_readPart (l : Launch) {d : Nat} {rec : Int32 → St → (Int32 → St → Prop) → Prop} (hrec : ∀ {p0 : Int32} {S : St} {Q : Int32 → St → Prop}, RCE S → rec p0 S Q → MetI l yX8_readPart (wB yX8_readPart cX8_readPart 4 (some .boolean)) (rm_X8_readPart d) shE NE RCE (fun ad => [.ref (ad (7)), .int p0]) S Q) {p0 : Int32} {S : St} {Q : Int32 → St → Prop} (hR : RCE S) (hw : u_X8_readPart rec p0 S Q) : MetI l yX8_readPart (wB yX8_readPart cX8_readPart 4 (some .boolean)) (rm_X8_readPart (d + 1)) shE NE RCE (fun ad => [.ref (ad (7)), .int p0]) S Q := by
  refine MetI_of (cc := cX8_readPart) (maxL := 4) (ret := (some .boolean)) (plainFor_of_name (by decide)) (fun _ => Nat.le_of_ble_eq_true rfl) (fun G C hl hQ => ?_)
  subst hl
  have C : Cx G cX8_readPart BIG RX8 4 (some .boolean) (rm_X8_readPart (d + 1)) shE NE := C
  show Go G 4 0 [] [(0, .ref (Gad G (7))), (1, .int p0)] S
  unfold u_X8_readPart at hw
  refine Go_aload_n (q := 1) C 0 rfl dX8_readPart_0 rfl ?_
  refine Go_getI (q := 4) (k := 5) C ci8 iw_8 kE_7 rfl wm_16_3 rfl dX8_readPart_1 rfl ?_
  refine Go_topi (fun x4_1 e_x4_1 => ?_)
  have hw := hw x4_1 e_x4_1
  refine Go_istore_n (q := 5) (lv' := [(2, .int x4_1), (0, .ref (Gad G (7))), (1, .int p0)]) C rfl dX8_readPart_4 (by decide) rfl rfl ?_
  refine Go_iload_n (q := 6) C 0 rfl dX8_readPart_5 rfl ?_
  refine Go_iconst (q := 7) (v := (2 : Int32)) C dX8_readPart_6 rfl rfl ?_
  refine Go_icmp_eq (t := 36) (q := 10) C hw dX8_readPart_7 rfl rfl (fun hw => ?_) (fun hw => ?_)
  · refine Go_lvp [1, 2, 0] rfl ?_
    exact g_X8_readPart_36 C hQ @hrec p0 _ hR hw
  · refine Go_iload_n (q := 11) C 0 rfl dX8_readPart_10 rfl ?_
    refine Go_sipush (q := 14) (v := (144 : Int32)) C dX8_readPart_11 rfl rfl ?_
    refine Go_icmp_eq (t := 36) (q := 17) C hw dX8_readPart_14 rfl rfl (fun hw => ?_) (fun hw => ?_)
    · refine Go_lvp [1, 2, 0] rfl ?_
      exact g_X8_readPart_36 C hQ @hrec p0 _ hR hw
    · refine Go_iload_n (q := 18) C 0 rfl dX8_readPart_17 rfl ?_
      refine Go_bipush (q := 20) (v := (40 : Int32)) C dX8_readPart_18 rfl rfl ?_
      refine Go_icmp_eq (t := 36) (q := 23) C hw dX8_readPart_20 rfl rfl (fun hw => ?_) (fun hw => ?_)
      · refine Go_lvp [1, 2, 0] rfl ?_
        exact g_X8_readPart_36 C hQ @hrec p0 _ hR hw
      · refine Go_iload_n (q := 24) C 0 rfl dX8_readPart_23 rfl ?_
        refine Go_sipush (q := 27) (v := (147 : Int32)) C dX8_readPart_24 rfl rfl ?_
        refine Go_icmp_ge (t := 36) (q := 30) C hw dX8_readPart_27 rfl rfl (fun hw => ?_) (fun hw => ?_)
        · refine Go_lvp [1, 2, 0] rfl ?_
          exact g_X8_readPart_36 C hQ @hrec p0 _ hR hw
        · refine Go_aload_n (q := 31) C 1 rfl dX8_readPart_30 rfl ?_
          refine Go_iconst (q := 32) (v := (1 : Int32)) C dX8_readPart_31 rfl rfl ?_
          refine Go_callV_I (av := (fun ad => [.int (1 : Int32)])) (st := []) (C := C) (hM := c_X8_isWrong (Gl G)  hR hw) (hlk := wm_18_6) (hini := wm_1_20) (hins := wm_18_7) (hsel := wm_18_8) (hcode := wm_18_9) (ho := kE_7) (hci := rfl) (hc13 := by decide) (n := 1) (hd := by decide +kernel) (hr0 := ⟨rfl, rfl⟩) (hroom := ⟨by first | decide | (dsimp only; omega), by first | decide | (dsimp only; omega)⟩) (hlen := rfl) (hst := rfl) (hW := Nat.le_of_ble_eq_true rfl) (hdg := dX8_readPart_32) (q := 35) (hq := rfl) (fun r32_14 S32_13 hw hR => ?_)
          exact Go_zret C hQ hR (zb hw.1) hw.2 dX8_readPart_35
theorem c_X8_readPart (l : Launch) : ∀ (d : Nat) {p0 : Int32} {S : St} {Q : Int32 → St → Prop}, RCE S → w_X8_readPart d p0 S Q → MetI l yX8_readPart (wB yX8_readPart cX8_readPart 4 (some .boolean)) (rm_X8_readPart d) shE NE RCE (fun ad => [.ref (ad (7)), .int p0]) S Q := by
  intro d
  induction d with
  | zero => intro _ _ _ _ hw; exact hw.elim
  | succ d ih => intro p0 S Q hR hw; exact h_X8_readPart l (d := d) (rec := w_X8_readPart d) @ih  hR hw
-- X8_readBar
abbrev rm_X8_readBar : Room := { frames := 518, cells := 0, slots := 0, locals := 22537 }
set_option maxRecDepth 100000 in
set_option maxHeartbeats 4000000 in
theorem c_X8_readBar (l : Launch) {S : St} {Q : Int32 → St → Prop} (hR : RCE S) (hw : w_X8_readBar S Q) : MetI l yX8_readBar (wB yX8_readBar cX8_readBar 1 (some .boolean)) rm_X8_readBar shE NE RCE (fun ad => [.ref (ad (7))]) S Q := by
  refine MetI_of (cc := cX8_readBar) (maxL := 1) (ret := (some .boolean)) (plainFor_of_name (by decide)) (fun _ => Nat.le_of_ble_eq_true rfl) (fun G C hl hQ => ?_)
  subst hl
  have C : Cx G cX8_readBar BIG RX8 1 (some .boolean) rm_X8_readBar shE NE := C
  show Go G 1 0 [] [(0, .ref (Gad G (7)))] S
  unfold w_X8_readBar at hw
  refine Go_aload_n (q := 1) C 0 rfl dX8_readBar_0 rfl ?_
  refine Go_getA (q := 4) (k := 2) C ci8 iw_8 kE_7 (rE_7_2 hR) rfl wm_6_10 rfl dX8_readBar_1 rfl ?_
  refine Go_getIN (q := 7) (k := 6) (host := "EndsRound") C ci4 iw_4 kE_11 rfl nw_24 rfl dX8_readBar_4 rfl ?_
  refine Go_iconst (q := 8) (v := (4 : Int32)) C dX8_readBar_7 rfl rfl ?_
  refine Go_icmp_lt (t := 17) (q := 11) C hw dX8_readBar_8 rfl rfl (fun hw => ?_) (fun hw => ?_)
  · refine Go_aload_n (q := 18) C 0 rfl dX8_readBar_17 rfl ?_
    refine Go_aload_n (q := 19) C 0 rfl dX8_readBar_18 rfl ?_
    refine Go_getI (q := 22) (k := 4) C ci8 iw_8 kE_7 rfl wm_18_0 rfl dX8_readBar_19 rfl ?_
    refine Go_iconst (q := 23) (v := (1 : Int32)) C dX8_readBar_22 rfl rfl ?_
    refine Go_iadd (q := 24) C dX8_readBar_23 rfl ?_
    refine Go_callV_V (av := (fun ad => [.int ((gI S 7 4) + (1 : Int32))])) (st := []) (C := C) (hM := c_X8_holdToken (Gl G)  hR hw) (hlk := wm_17_20) (hini := wm_1_20) (hins := wm_17_21) (hsel := wm_17_22) (hcode := wm_17_23) (ho := kE_7) (hci := rfl) (hc13 := by decide) (n := 1) (hd := by decide +kernel) (hr0 := ⟨rfl, rfl⟩) (hroom := ⟨by first | decide | (dsimp only; omega), by first | decide | (dsimp only; omega)⟩) (hlen := rfl) (hst := rfl) (hW := Nat.le_of_ble_eq_true rfl) (hdg := dX8_readBar_24) (q := 27) (hq := rfl) (fun S24_1 hw hR => ?_)
    refine Go_aload_n (q := 28) C 0 rfl dX8_readBar_27 rfl ?_
    refine Go_iconst (q := 29) (v := (0 : Int32)) C dX8_readBar_28 rfl rfl ?_
    obtain ⟨d29_4, hle_d29_4, hw⟩ := hw
    refine Go_callV_I (av := (fun ad => [.int (0 : Int32)])) (st := []) (C := C) (hM := c_X8_readTests (Gl G) (@c_X8_readPart (Gl G) d29_4)  hR hw) (hlk := wm_21_9) (hini := wm_1_20) (hins := wm_21_10) (hsel := wm_21_11) (hcode := wm_21_12) (ho := kE_7) (hci := rfl) (hc13 := by decide) (n := 1) (hd := by decide +kernel) (hr0 := ⟨rfl, rfl⟩) (hroom := ⟨by first | decide | (dsimp only; omega), by first | decide | (dsimp only; omega)⟩) (hlen := rfl) (hst := rfl) (hW := Nat.le_of_ble_eq_true rfl) (hdg := dX8_readBar_29) (q := 32) (hq := rfl) (fun r29_3 S29_2 hw hR => ?_)
    refine Go_if_ne (t := 37) (q := 35) C hw dX8_readBar_32 rfl rfl (fun hw => ?_) (fun hw => ?_)
    · refine Go_iconst (q := 36) (v := (0 : Int32)) C dX8_readBar_35 rfl rfl ?_
      exact Go_zret C hQ hR rfl hw dX8_readBar_36
    · refine Go_aload_n (q := 38) C 0 rfl dX8_readBar_37 rfl ?_
      refine Go_getA (q := 41) (k := 1) C ci8 iw_8 kE_7 (rE_7_1 hR) rfl wm_6_8 rfl dX8_readBar_38 rfl ?_
      refine Go_sipush (q := 44) (v := (10059 : Int32)) C dX8_readBar_41 rfl rfl ?_
      refine Go_callV_V (av := (fun ad => [.int (10059 : Int32)])) (st := []) (C := C) (hM := c_X0_add (Gl G)  hR hw) (hlk := wm_21_16) (hini := wm_6_7) (hins := wm_21_17) (hsel := wm_21_18) (hcode := wm_21_19) (ho := kE_8) (hci := rfl) (hc13 := by decide) (n := 1) (hd := by decide +kernel) (hr0 := ⟨rfl, rfl⟩) (hroom := ⟨by first | decide | (dsimp only; omega), by first | decide | (dsimp only; omega)⟩) (hlen := rfl) (hst := rfl) (hW := Nat.le_of_ble_eq_true rfl) (hdg := dX8_readBar_44) (q := 47) (hq := rfl) (fun S44_5 hw hR => ?_)
      refine Go_aload_n (q := 48) C 0 rfl dX8_readBar_47 rfl ?_
      refine Go_getA (q := 51) (k := 2) C ci8 iw_8 kE_7 (rE_7_2 hR) rfl wm_6_10 rfl dX8_readBar_48 rfl ?_
      refine Go_dup (q := 52) C rfl dX8_readBar_51 rfl ?_
      refine Go_getIN (q := 55) (k := 6) (host := "EndsRound") C ci4 iw_4 kE_11 rfl nw_24 rfl dX8_readBar_52 rfl ?_
      refine Go_iconst (q := 56) (v := (1 : Int32)) C dX8_readBar_55 rfl rfl ?_
      refine Go_iadd (q := 57) C dX8_readBar_56 rfl ?_
      refine Go_putIN (q := 60) (k := 6) (host := "EndsRound") C ci4 iw_4 kE_11 rfl nw_24 rfl rfl (ci4.2.2.2.1 6 (by decide)) rfl rfl dX8_readBar_57 rfl ?_
      refine Go_S (fun S57_6 e_S57_6 => ?_)
      have hw := hw S57_6 e_S57_6
      have hR := rcE e_S57_6 hR
      refine Go_iconst (q := 61) (v := (1 : Int32)) C dX8_readBar_60 rfl rfl ?_
      exact Go_zret C hQ hR rfl hw dX8_readBar_61
  · refine Go_aload_n (q := 12) C 0 rfl dX8_readBar_11 rfl ?_
    refine Go_iconst (q := 13) (v := (5 : Int32)) C dX8_readBar_12 rfl rfl ?_
    refine Go_callV_I (av := (fun ad => [.int (5 : Int32)])) (st := []) (C := C) (hM := c_X8_isWrong (Gl G)  hR hw) (hlk := wm_18_6) (hini := wm_1_20) (hins := wm_18_7) (hsel := wm_18_8) (hcode := wm_18_9) (ho := kE_7) (hci := rfl) (hc13 := by decide) (n := 1) (hd := by decide +kernel) (hr0 := ⟨rfl, rfl⟩) (hroom := ⟨by first | decide | (dsimp only; omega), by first | decide | (dsimp only; omega)⟩) (hlen := rfl) (hst := rfl) (hW := Nat.le_of_ble_eq_true rfl) (hdg := dX8_readBar_13) (q := 16) (hq := rfl) (fun r13_8 S13_7 hw hR => ?_)
    exact Go_zret C hQ hR (zb hw.1) hw.2 dX8_readBar_16
-- X8_readLine
abbrev rm_X8_readLine : Room := { frames := 519, cells := 0, slots := 0, locals := 22557 }
set_option maxRecDepth 100000 in
set_option maxHeartbeats 4000000 in
theorem c_X8_readLine (l : Launch) {S : St} {Q : Int32 → St → Prop} (hR : RCE S) (hw : w_X8_readLine S Q) : MetI l yX8_readLine (wB yX8_readLine cX8_readLine 1 (some .boolean)) rm_X8_readLine shE NE RCE (fun ad => [.ref (ad (7))]) S Q := by
  refine MetI_of (cc := cX8_readLine) (maxL := 1) (ret := (some .boolean)) (plainFor_of_name (by decide)) (fun _ => Nat.le_of_ble_eq_true rfl) (fun G C hl hQ => ?_)
  subst hl
  have C : Cx G cX8_readLine BIG RX8 1 (some .boolean) rm_X8_readLine shE NE := C
  show Go G 1 0 [] [(0, .ref (Gad G (7)))] S
  unfold w_X8_readLine at hw
  refine Go_aload_n (q := 1) C 0 rfl dX8_readLine_0 rfl ?_
  refine Go_getI (q := 4) (k := 5) C ci8 iw_8 kE_7 rfl wm_16_3 rfl dX8_readLine_1 rfl ?_
  refine Go_topi (fun x4_1 e_x4_1 => ?_)
  have hw := hw x4_1 e_x4_1
  by_cases hk129 : x4_1 = (129 : Int32)
  · have hw := ite_t hw hk129
    refine Go_tableIn (t := 80) C dX8_readLine_4 (by rw [hk129]; decide) (by rw [hk129]; decide) (by rw [hk129]; rfl) rfl ?_
    refine Go_aload_n (q := 81) C 0 rfl dX8_readLine_80 rfl ?_
    refine Go_callV_I (av := (fun ad => [])) (st := []) (C := C) (hM := c_X8_readTurn (Gl G)  hR hw) (hlk := wm_18_19) (hini := wm_1_20) (hins := wm_18_20) (hsel := wm_18_21) (hcode := wm_18_22) (ho := kE_7) (hci := rfl) (hc13 := by decide) (n := 0) (hd := by decide +kernel) (hr0 := ⟨rfl, rfl⟩) (hroom := ⟨by first | decide | (dsimp only; omega), by first | decide | (dsimp only; omega)⟩) (hlen := rfl) (hst := rfl) (hW := Nat.le_of_ble_eq_true rfl) (hdg := dX8_readLine_81) (q := 84) (hq := rfl) (fun r81_3 S81_2 hw hR => ?_)
    exact Go_zret C hQ hR (zb hw.1) hw.2 dX8_readLine_84
  have hw := ite_f hw hk129
  by_cases hk130 : x4_1 = (130 : Int32)
  · have hw := ite_t hw hk130
    refine Go_tableIn (t := 110) C dX8_readLine_4 (by rw [hk130]; decide) (by rw [hk130]; decide) (by rw [hk130]; rfl) rfl ?_
    refine Go_aload_n (q := 111) C 0 rfl dX8_readLine_110 rfl ?_
    refine Go_iconst (q := 112) (v := (1 : Int32)) C dX8_readLine_111 rfl rfl ?_
    refine Go_callV_I (av := (fun ad => [.int (1 : Int32)])) (st := []) (C := C) (hM := c_X8_isWrong (Gl G)  hR hw) (hlk := wm_18_6) (hini := wm_1_20) (hins := wm_18_7) (hsel := wm_18_8) (hcode := wm_18_9) (ho := kE_7) (hci := rfl) (hc13 := by decide) (n := 1) (hd := by decide +kernel) (hr0 := ⟨rfl, rfl⟩) (hroom := ⟨by first | decide | (dsimp only; omega), by first | decide | (dsimp only; omega)⟩) (hlen := rfl) (hst := rfl) (hW := Nat.le_of_ble_eq_true rfl) (hdg := dX8_readLine_112) (q := 115) (hq := rfl) (fun r112_5 S112_4 hw hR => ?_)
    exact Go_zret C hQ hR (zb hw.1) hw.2 dX8_readLine_115
  have hw := ite_f hw hk130
  by_cases hk131 : x4_1 = (131 : Int32)
  · have hw := ite_t hw hk131
    refine Go_tableIn (t := 110) C dX8_readLine_4 (by rw [hk131]; decide) (by rw [hk131]; decide) (by rw [hk131]; rfl) rfl ?_
    refine Go_aload_n (q := 111) C 0 rfl dX8_readLine_110 rfl ?_
    refine Go_iconst (q := 112) (v := (1 : Int32)) C dX8_readLine_111 rfl rfl ?_
    refine Go_callV_I (av := (fun ad => [.int (1 : Int32)])) (st := []) (C := C) (hM := c_X8_isWrong (Gl G)  hR hw) (hlk := wm_18_6) (hini := wm_1_20) (hins := wm_18_7) (hsel := wm_18_8) (hcode := wm_18_9) (ho := kE_7) (hci := rfl) (hc13 := by decide) (n := 1) (hd := by decide +kernel) (hr0 := ⟨rfl, rfl⟩) (hroom := ⟨by first | decide | (dsimp only; omega), by first | decide | (dsimp only; omega)⟩) (hlen := rfl) (hst := rfl) (hW := Nat.le_of_ble_eq_true rfl) (hdg := dX8_readLine_112) (q := 115) (hq := rfl) (fun r112_7 S112_6 hw hR => ?_)
    exact Go_zret C hQ hR (zb hw.1) hw.2 dX8_readLine_115
  have hw := ite_f hw hk131
  by_cases hk132 : x4_1 = (132 : Int32)
  · have hw := ite_t hw hk132
    refine Go_tableIn (t := 110) C dX8_readLine_4 (by rw [hk132]; decide) (by rw [hk132]; decide) (by rw [hk132]; rfl) rfl ?_
    refine Go_aload_n (q := 111) C 0 rfl dX8_readLine_110 rfl ?_
    refine Go_iconst (q := 112) (v := (1 : Int32)) C dX8_readLine_111 rfl rfl ?_
    refine Go_callV_I (av := (fun ad => [.int (1 : Int32)])) (st := []) (C := C) (hM := c_X8_isWrong (Gl G)  hR hw) (hlk := wm_18_6) (hini := wm_1_20) (hins := wm_18_7) (hsel := wm_18_8) (hcode := wm_18_9) (ho := kE_7) (hci := rfl) (hc13 := by decide) (n := 1) (hd := by decide +kernel) (hr0 := ⟨rfl, rfl⟩) (hroom := ⟨by first | decide | (dsimp only; omega), by first | decide | (dsimp only; omega)⟩) (hlen := rfl) (hst := rfl) (hW := Nat.le_of_ble_eq_true rfl) (hdg := dX8_readLine_112) (q := 115) (hq := rfl) (fun r112_9 S112_8 hw hR => ?_)
    exact Go_zret C hQ hR (zb hw.1) hw.2 dX8_readLine_115
  have hw := ite_f hw hk132
  by_cases hk133 : x4_1 = (133 : Int32)
  · have hw := ite_t hw hk133
    refine Go_tableIn (t := 110) C dX8_readLine_4 (by rw [hk133]; decide) (by rw [hk133]; decide) (by rw [hk133]; rfl) rfl ?_
    refine Go_aload_n (q := 111) C 0 rfl dX8_readLine_110 rfl ?_
    refine Go_iconst (q := 112) (v := (1 : Int32)) C dX8_readLine_111 rfl rfl ?_
    refine Go_callV_I (av := (fun ad => [.int (1 : Int32)])) (st := []) (C := C) (hM := c_X8_isWrong (Gl G)  hR hw) (hlk := wm_18_6) (hini := wm_1_20) (hins := wm_18_7) (hsel := wm_18_8) (hcode := wm_18_9) (ho := kE_7) (hci := rfl) (hc13 := by decide) (n := 1) (hd := by decide +kernel) (hr0 := ⟨rfl, rfl⟩) (hroom := ⟨by first | decide | (dsimp only; omega), by first | decide | (dsimp only; omega)⟩) (hlen := rfl) (hst := rfl) (hW := Nat.le_of_ble_eq_true rfl) (hdg := dX8_readLine_112) (q := 115) (hq := rfl) (fun r112_11 S112_10 hw hR => ?_)
    exact Go_zret C hQ hR (zb hw.1) hw.2 dX8_readLine_115
  have hw := ite_f hw hk133
  by_cases hk134 : x4_1 = (134 : Int32)
  · have hw := ite_t hw hk134
    refine Go_tableIn (t := 110) C dX8_readLine_4 (by rw [hk134]; decide) (by rw [hk134]; decide) (by rw [hk134]; rfl) rfl ?_
    refine Go_aload_n (q := 111) C 0 rfl dX8_readLine_110 rfl ?_
    refine Go_iconst (q := 112) (v := (1 : Int32)) C dX8_readLine_111 rfl rfl ?_
    refine Go_callV_I (av := (fun ad => [.int (1 : Int32)])) (st := []) (C := C) (hM := c_X8_isWrong (Gl G)  hR hw) (hlk := wm_18_6) (hini := wm_1_20) (hins := wm_18_7) (hsel := wm_18_8) (hcode := wm_18_9) (ho := kE_7) (hci := rfl) (hc13 := by decide) (n := 1) (hd := by decide +kernel) (hr0 := ⟨rfl, rfl⟩) (hroom := ⟨by first | decide | (dsimp only; omega), by first | decide | (dsimp only; omega)⟩) (hlen := rfl) (hst := rfl) (hW := Nat.le_of_ble_eq_true rfl) (hdg := dX8_readLine_112) (q := 115) (hq := rfl) (fun r112_13 S112_12 hw hR => ?_)
    exact Go_zret C hQ hR (zb hw.1) hw.2 dX8_readLine_115
  have hw := ite_f hw hk134
  by_cases hk135 : x4_1 = (135 : Int32)
  · have hw := ite_t hw hk135
    refine Go_tableIn (t := 110) C dX8_readLine_4 (by rw [hk135]; decide) (by rw [hk135]; decide) (by rw [hk135]; rfl) rfl ?_
    refine Go_aload_n (q := 111) C 0 rfl dX8_readLine_110 rfl ?_
    refine Go_iconst (q := 112) (v := (1 : Int32)) C dX8_readLine_111 rfl rfl ?_
    refine Go_callV_I (av := (fun ad => [.int (1 : Int32)])) (st := []) (C := C) (hM := c_X8_isWrong (Gl G)  hR hw) (hlk := wm_18_6) (hini := wm_1_20) (hins := wm_18_7) (hsel := wm_18_8) (hcode := wm_18_9) (ho := kE_7) (hci := rfl) (hc13 := by decide) (n := 1) (hd := by decide +kernel) (hr0 := ⟨rfl, rfl⟩) (hroom := ⟨by first | decide | (dsimp only; omega), by first | decide | (dsimp only; omega)⟩) (hlen := rfl) (hst := rfl) (hW := Nat.le_of_ble_eq_true rfl) (hdg := dX8_readLine_112) (q := 115) (hq := rfl) (fun r112_15 S112_14 hw hR => ?_)
    exact Go_zret C hQ hR (zb hw.1) hw.2 dX8_readLine_115
  have hw := ite_f hw hk135
  by_cases hk136 : x4_1 = (136 : Int32)
  · have hw := ite_t hw hk136
    refine Go_tableIn (t := 85) C dX8_readLine_4 (by rw [hk136]; decide) (by rw [hk136]; decide) (by rw [hk136]; rfl) rfl ?_
    refine Go_aload_n (q := 86) C 0 rfl dX8_readLine_85 rfl ?_
    refine Go_callV_I (av := (fun ad => [])) (st := []) (C := C) (hM := c_X8_readRhyme (Gl G)  hR hw) (hlk := wm_19_21) (hini := wm_1_20) (hins := wm_19_22) (hsel := wm_19_23) (hcode := wm_20_0) (ho := kE_7) (hci := rfl) (hc13 := by decide) (n := 0) (hd := by decide +kernel) (hr0 := ⟨rfl, rfl⟩) (hroom := ⟨by first | decide | (dsimp only; omega), by first | decide | (dsimp only; omega)⟩) (hlen := rfl) (hst := rfl) (hW := Nat.le_of_ble_eq_true rfl) (hdg := dX8_readLine_86) (q := 89) (hq := rfl) (fun r86_17 S86_16 hw hR => ?_)
    exact Go_zret C hQ hR (zb hw.1) hw.2 dX8_readLine_89
  have hw := ite_f hw hk136
  by_cases hk137 : x4_1 = (137 : Int32)
  · have hw := ite_t hw hk137
    refine Go_tableIn (t := 90) C dX8_readLine_4 (by rw [hk137]; decide) (by rw [hk137]; decide) (by rw [hk137]; rfl) rfl ?_
    refine Go_aload_n (q := 91) C 0 rfl dX8_readLine_90 rfl ?_
    refine Go_callV_I (av := (fun ad => [])) (st := []) (C := C) (hM := c_X8_readWhole (Gl G)  hR hw) (hlk := wm_20_5) (hini := wm_1_20) (hins := wm_20_6) (hsel := wm_20_7) (hcode := wm_20_8) (ho := kE_7) (hci := rfl) (hc13 := by decide) (n := 0) (hd := by decide +kernel) (hr0 := ⟨rfl, rfl⟩) (hroom := ⟨by first | decide | (dsimp only; omega), by first | decide | (dsimp only; omega)⟩) (hlen := rfl) (hst := rfl) (hW := Nat.le_of_ble_eq_true rfl) (hdg := dX8_readLine_91) (q := 94) (hq := rfl) (fun r91_19 S91_18 hw hR => ?_)
    exact Go_zret C hQ hR (zb hw.1) hw.2 dX8_readLine_94
  have hw := ite_f hw hk137
  by_cases hk138 : x4_1 = (138 : Int32)
  · have hw := ite_t hw hk138
    refine Go_tableIn (t := 110) C dX8_readLine_4 (by rw [hk138]; decide) (by rw [hk138]; decide) (by rw [hk138]; rfl) rfl ?_
    refine Go_aload_n (q := 111) C 0 rfl dX8_readLine_110 rfl ?_
    refine Go_iconst (q := 112) (v := (1 : Int32)) C dX8_readLine_111 rfl rfl ?_
    refine Go_callV_I (av := (fun ad => [.int (1 : Int32)])) (st := []) (C := C) (hM := c_X8_isWrong (Gl G)  hR hw) (hlk := wm_18_6) (hini := wm_1_20) (hins := wm_18_7) (hsel := wm_18_8) (hcode := wm_18_9) (ho := kE_7) (hci := rfl) (hc13 := by decide) (n := 1) (hd := by decide +kernel) (hr0 := ⟨rfl, rfl⟩) (hroom := ⟨by first | decide | (dsimp only; omega), by first | decide | (dsimp only; omega)⟩) (hlen := rfl) (hst := rfl) (hW := Nat.le_of_ble_eq_true rfl) (hdg := dX8_readLine_112) (q := 115) (hq := rfl) (fun r112_21 S112_20 hw hR => ?_)
    exact Go_zret C hQ hR (zb hw.1) hw.2 dX8_readLine_115
  have hw := ite_f hw hk138
  by_cases hk139 : x4_1 = (139 : Int32)
  · have hw := ite_t hw hk139
    refine Go_tableIn (t := 95) C dX8_readLine_4 (by rw [hk139]; decide) (by rw [hk139]; decide) (by rw [hk139]; rfl) rfl ?_
    refine Go_aload_n (q := 96) C 0 rfl dX8_readLine_95 rfl ?_
    refine Go_callV_I (av := (fun ad => [])) (st := []) (C := C) (hM := c_X8_readFeet (Gl G)  hR hw) (hlk := wm_20_13) (hini := wm_1_20) (hins := wm_20_14) (hsel := wm_20_15) (hcode := wm_20_16) (ho := kE_7) (hci := rfl) (hc13 := by decide) (n := 0) (hd := by decide +kernel) (hr0 := ⟨rfl, rfl⟩) (hroom := ⟨by first | decide | (dsimp only; omega), by first | decide | (dsimp only; omega)⟩) (hlen := rfl) (hst := rfl) (hW := Nat.le_of_ble_eq_true rfl) (hdg := dX8_readLine_96) (q := 99) (hq := rfl) (fun r96_23 S96_22 hw hR => ?_)
    exact Go_zret C hQ hR (zb hw.1) hw.2 dX8_readLine_99
  have hw := ite_f hw hk139
  by_cases hk140 : x4_1 = (140 : Int32)
  · have hw := ite_t hw hk140
    refine Go_tableIn (t := 100) C dX8_readLine_4 (by rw [hk140]; decide) (by rw [hk140]; decide) (by rw [hk140]; rfl) rfl ?_
    refine Go_aload_n (q := 101) C 0 rfl dX8_readLine_100 rfl ?_
    refine Go_callV_I (av := (fun ad => [])) (st := []) (C := C) (hM := c_X8_readWord (Gl G)  hR hw) (hlk := wm_20_17) (hini := wm_1_20) (hins := wm_20_18) (hsel := wm_20_19) (hcode := wm_20_20) (ho := kE_7) (hci := rfl) (hc13 := by decide) (n := 0) (hd := by decide +kernel) (hr0 := ⟨rfl, rfl⟩) (hroom := ⟨by first | decide | (dsimp only; omega), by first | decide | (dsimp only; omega)⟩) (hlen := rfl) (hst := rfl) (hW := Nat.le_of_ble_eq_true rfl) (hdg := dX8_readLine_101) (q := 104) (hq := rfl) (fun r101_25 S101_24 hw hR => ?_)
    exact Go_zret C hQ hR (zb hw.1) hw.2 dX8_readLine_104
  have hw := ite_f hw hk140
  by_cases hk141 : x4_1 = (141 : Int32)
  · have hw := ite_t hw hk141
    refine Go_tableIn (t := 110) C dX8_readLine_4 (by rw [hk141]; decide) (by rw [hk141]; decide) (by rw [hk141]; rfl) rfl ?_
    refine Go_aload_n (q := 111) C 0 rfl dX8_readLine_110 rfl ?_
    refine Go_iconst (q := 112) (v := (1 : Int32)) C dX8_readLine_111 rfl rfl ?_
    refine Go_callV_I (av := (fun ad => [.int (1 : Int32)])) (st := []) (C := C) (hM := c_X8_isWrong (Gl G)  hR hw) (hlk := wm_18_6) (hini := wm_1_20) (hins := wm_18_7) (hsel := wm_18_8) (hcode := wm_18_9) (ho := kE_7) (hci := rfl) (hc13 := by decide) (n := 1) (hd := by decide +kernel) (hr0 := ⟨rfl, rfl⟩) (hroom := ⟨by first | decide | (dsimp only; omega), by first | decide | (dsimp only; omega)⟩) (hlen := rfl) (hst := rfl) (hW := Nat.le_of_ble_eq_true rfl) (hdg := dX8_readLine_112) (q := 115) (hq := rfl) (fun r112_27 S112_26 hw hR => ?_)
    exact Go_zret C hQ hR (zb hw.1) hw.2 dX8_readLine_115
  have hw := ite_f hw hk141
  by_cases hk142 : x4_1 = (142 : Int32)
  · have hw := ite_t hw hk142
    refine Go_tableIn (t := 110) C dX8_readLine_4 (by rw [hk142]; decide) (by rw [hk142]; decide) (by rw [hk142]; rfl) rfl ?_
    refine Go_aload_n (q := 111) C 0 rfl dX8_readLine_110 rfl ?_
    refine Go_iconst (q := 112) (v := (1 : Int32)) C dX8_readLine_111 rfl rfl ?_
    refine Go_callV_I (av := (fun ad => [.int (1 : Int32)])) (st := []) (C := C) (hM := c_X8_isWrong (Gl G)  hR hw) (hlk := wm_18_6) (hini := wm_1_20) (hins := wm_18_7) (hsel := wm_18_8) (hcode := wm_18_9) (ho := kE_7) (hci := rfl) (hc13 := by decide) (n := 1) (hd := by decide +kernel) (hr0 := ⟨rfl, rfl⟩) (hroom := ⟨by first | decide | (dsimp only; omega), by first | decide | (dsimp only; omega)⟩) (hlen := rfl) (hst := rfl) (hW := Nat.le_of_ble_eq_true rfl) (hdg := dX8_readLine_112) (q := 115) (hq := rfl) (fun r112_29 S112_28 hw hR => ?_)
    exact Go_zret C hQ hR (zb hw.1) hw.2 dX8_readLine_115
  have hw := ite_f hw hk142
  by_cases hk143 : x4_1 = (143 : Int32)
  · have hw := ite_t hw hk143
    refine Go_tableIn (t := 105) C dX8_readLine_4 (by rw [hk143]; decide) (by rw [hk143]; decide) (by rw [hk143]; rfl) rfl ?_
    refine Go_aload_n (q := 106) C 0 rfl dX8_readLine_105 rfl ?_
    refine Go_callV_I (av := (fun ad => [])) (st := []) (C := C) (hM := c_X8_readBar (Gl G)  hR hw) (hlk := wm_21_5) (hini := wm_1_20) (hins := wm_21_6) (hsel := wm_21_7) (hcode := wm_21_8) (ho := kE_7) (hci := rfl) (hc13 := by decide) (n := 0) (hd := by decide +kernel) (hr0 := ⟨rfl, rfl⟩) (hroom := ⟨by first | decide | (dsimp only; omega), by first | decide | (dsimp only; omega)⟩) (hlen := rfl) (hst := rfl) (hW := Nat.le_of_ble_eq_true rfl) (hdg := dX8_readLine_106) (q := 109) (hq := rfl) (fun r106_31 S106_30 hw hR => ?_)
    exact Go_zret C hQ hR (zb hw.1) hw.2 dX8_readLine_109
  have hw := ite_f hw hk143
  refine Go_tableOut (t := 110) C dX8_readLine_4 (by have g0 : ¬ (x4_1).toInt = 129 := ne_toInt hk129; have g1 : ¬ (x4_1).toInt = 130 := ne_toInt hk130; have g2 : ¬ (x4_1).toInt = 131 := ne_toInt hk131; have g3 : ¬ (x4_1).toInt = 132 := ne_toInt hk132; have g4 : ¬ (x4_1).toInt = 133 := ne_toInt hk133; have g5 : ¬ (x4_1).toInt = 134 := ne_toInt hk134; have g6 : ¬ (x4_1).toInt = 135 := ne_toInt hk135; have g7 : ¬ (x4_1).toInt = 136 := ne_toInt hk136; have g8 : ¬ (x4_1).toInt = 137 := ne_toInt hk137; have g9 : ¬ (x4_1).toInt = 138 := ne_toInt hk138; have g10 : ¬ (x4_1).toInt = 139 := ne_toInt hk139; have g11 : ¬ (x4_1).toInt = 140 := ne_toInt hk140; have g12 : ¬ (x4_1).toInt = 141 := ne_toInt hk141; have g13 : ¬ (x4_1).toInt = 142 := ne_toInt hk142; have g14 : ¬ (x4_1).toInt = 143 := ne_toInt hk143; omega) rfl ?_
  refine Go_aload_n (q := 111) C 0 rfl dX8_readLine_110 rfl ?_
  refine Go_iconst (q := 112) (v := (1 : Int32)) C dX8_readLine_111 rfl rfl ?_
  refine Go_callV_I (av := (fun ad => [.int (1 : Int32)])) (st := []) (C := C) (hM := c_X8_isWrong (Gl G)  hR hw) (hlk := wm_18_6) (hini := wm_1_20) (hins := wm_18_7) (hsel := wm_18_8) (hcode := wm_18_9) (ho := kE_7) (hci := rfl) (hc13 := by decide) (n := 1) (hd := by decide +kernel) (hr0 := ⟨rfl, rfl⟩) (hroom := ⟨by first | decide | (dsimp only; omega), by first | decide | (dsimp only; omega)⟩) (hlen := rfl) (hst := rfl) (hW := Nat.le_of_ble_eq_true rfl) (hdg := dX8_readLine_112) (q := 115) (hq := rfl) (fun r112_33 S112_32 hw hR => ?_)
  exact Go_zret C hQ hR (zb hw.1) hw.2 dX8_readLine_115
-- X0_push
abbrev rm_X0_push : Room := { frames := 1, cells := 0, slots := 0, locals := 22 }
set_option maxRecDepth 100000 in
set_option maxHeartbeats 4000000 in
theorem c_X0_push (l : Launch) {p0 : Int32} {S : St} {Q : St → Prop} (hR : RCE S) (hw : w_X0_push p0 S Q) : MetV l yX0_push (wB yX0_push cX0_push 2 none) rm_X0_push shE NE RCE (fun ad => [.ref (ad (8)), .int p0]) S Q := by
  refine MetV_of (cc := cX0_push) (maxL := 2) (ret := none) (plainFor_of_name (by decide)) (fun _ => Nat.le_of_ble_eq_true rfl) (fun G C hl hQ => ?_)
  subst hl
  have C : Cx G cX0_push BIG RX0 2 none rm_X0_push shE NE := C
  show Go G 2 0 [] [(0, .ref (Gad G (8))), (1, .int p0)] S
  unfold w_X0_push at hw
  refine Go_aload_n (q := 1) C 0 rfl dX0_push_0 rfl ?_
  refine Go_getA (q := 4) (k := 2) C ci0 iw_0 kE_8 (rE_8_2 hR) rfl wm_6_17 rfl dX0_push_1 rfl ?_
  refine Go_aload_n (q := 5) C 0 rfl dX0_push_4 rfl ?_
  refine Go_getI (q := 8) (k := 3) C ci0 iw_0 kE_8 rfl wm_22_18 rfl dX0_push_5 rfl ?_
  refine Go_iload_n (q := 9) C 1 rfl dX0_push_8 rfl ?_
  refine Go_callSN_V (av := (fun ad => [.ref (ad (10)), .int (gI S 8 3), .int p0])) (st := []) (C := C) (hM := c_X11_put (Gl G) (ok_ln kE_10) hR hw) (host := "EndsRound") (hnw := nw_88) (hini := wm_1_2) (hst2 := wm_10_11) (hcode := wm_10_12) (n := 3) (hd := by decide +kernel) (hr0 := ⟨rfl, rfl⟩) (hroom := ⟨by first | decide | (dsimp only; omega), by first | decide | (dsimp only; omega)⟩) (hlen := rfl) (hst := rfl) (hW := Nat.le_of_ble_eq_true rfl) (hdg := dX0_push_9) (q := 12) (hq := rfl) (fun S9_1 hw hR => ?_)
  refine Go_aload_n (q := 13) C 0 rfl dX0_push_12 rfl ?_
  refine Go_dup (q := 14) C rfl dX0_push_13 rfl ?_
  refine Go_getI (q := 17) (k := 3) C ci0 iw_0 kE_8 rfl wm_22_18 rfl dX0_push_14 rfl ?_
  refine Go_iconst (q := 18) (v := (1 : Int32)) C dX0_push_17 rfl rfl ?_
  refine Go_iadd (q := 19) C dX0_push_18 rfl ?_
  refine Go_putI (q := 22) (k := 3) C ci0 iw_0 kE_8 rfl wm_22_18 rfl rfl (ci0.2.2.2.1 3 (by decide)) rfl rfl dX0_push_19 rfl ?_
  refine Go_S (fun S19_2 e_S19_2 => ?_)
  have hw := hw S19_2 e_S19_2
  have hR := rcE e_S19_2 hR
  exact Go_vret C hQ hR hw dX0_push_22
-- X4_areRhyming
abbrev rm_X4_areRhyming : Room := { frames := 1, cells := 0, slots := 0, locals := 21 }
set_option maxRecDepth 100000 in
set_option maxHeartbeats 4000000 in
theorem c_X4_areRhyming (l : Launch) {o : Nat} (ho : isE4 o) {p0 : Int32} {p1 : Int32} {S : St} {Q : Int32 → St → Prop} (hR : RCE S) (hw : w_X4_areRhyming o p0 p1 S Q) : MetI l yX4_areRhyming (wB yX4_areRhyming cX4_areRhyming 3 (some .boolean)) rm_X4_areRhyming shE NE RCE (fun ad => [.ref (ad (o)), .int p0, .int p1]) S Q := by
  refine MetI_of (cc := cX4_areRhyming) (maxL := 3) (ret := (some .boolean)) (plainFor_of_name (by decide)) (fun _ => Nat.le_of_ble_eq_true rfl) (fun G C hl hQ => ?_)
  subst hl
  have C : Cx G cX4_areRhyming BIG RX4 3 (some .boolean) rm_X4_areRhyming shE NE := C
  show Go G 3 0 [] [(0, .ref (Gad G (o))), (1, .int p0), (2, .int p1)] S
  unfold w_X4_areRhyming at hw
  refine Go_aload_n (q := 1) C 0 rfl dX4_areRhyming_0 rfl ?_
  refine Go_getA (q := 4) (k := 10) C ci4 iw_4 (oE4 ho) (rE4_10 hR ho) rfl wm_7_0 rfl dX4_areRhyming_1 rfl ?_
  refine Go_iload_n (q := 5) C 1 rfl dX4_areRhyming_4 rfl ?_
  refine Go_callSN_I (av := (fun ad => [.ref (ad ((o + 4))), .int p0])) (st := []) (C := C) (hM := c_X11_cell (Gl G) (ok_ln (oE4_10 ho)) hR hw) (host := "EndsRound") (hnw := nw_86) (hini := wm_1_2) (hst2 := wm_10_22) (hcode := wm_10_23) (n := 2) (hd := by decide +kernel) (hr0 := ⟨rfl, rfl⟩) (hroom := ⟨by first | decide | (dsimp only; omega), by first | decide | (dsimp only; omega)⟩) (hlen := rfl) (hst := rfl) (hW := Nat.le_of_ble_eq_true rfl) (hdg := dX4_areRhyming_5) (q := 8) (hq := rfl) (fun r5_2 S5_1 hw hR => ?_)
  refine Go_aload_n (q := 9) C 0 rfl dX4_areRhyming_8 rfl ?_
  refine Go_getA (q := 12) (k := 10) C ci4 iw_4 (oE4 ho) (rE4_10 hR ho) rfl wm_7_0 rfl dX4_areRhyming_9 rfl ?_
  refine Go_iload_n (q := 13) C 2 rfl dX4_areRhyming_12 rfl ?_
  refine Go_callSN_I (av := (fun ad => [.ref (ad ((o + 4))), .int p1])) (st := [.int r5_2]) (C := C) (hM := c_X11_cell (Gl G) (ok_ln (oE4_10 ho)) hR hw) (host := "EndsRound") (hnw := nw_86) (hini := wm_1_2) (hst2 := wm_10_22) (hcode := wm_10_23) (n := 2) (hd := by decide +kernel) (hr0 := ⟨rfl, rfl⟩) (hroom := ⟨by first | decide | (dsimp only; omega), by first | decide | (dsimp only; omega)⟩) (hlen := rfl) (hst := rfl) (hW := Nat.le_of_ble_eq_true rfl) (hdg := dX4_areRhyming_13) (q := 16) (hq := rfl) (fun r13_4 S13_3 hw hR => ?_)
  refine Go_icmp_ne (t := 23) (q := 19) C hw dX4_areRhyming_16 rfl rfl (fun hw => ?_) (fun hw => ?_)
  · refine Go_iconst (q := 20) (v := (1 : Int32)) C dX4_areRhyming_19 rfl rfl ?_
    refine Go_goto (q := 24) C dX4_areRhyming_20 rfl ?_
    exact Go_zret C hQ hR rfl hw dX4_areRhyming_24
  · refine Go_iconst (q := 24) (v := (0 : Int32)) C dX4_areRhyming_23 rfl rfl ?_
    exact Go_zret C hQ hR rfl hw dX4_areRhyming_24
-- X0_factOf
abbrev rm_X0_factOf : Room := { frames := 2, cells := 0, slots := 0, locals := 43 }
set_option maxRecDepth 100000 in
set_option maxHeartbeats 4000000 in
theorem c_X0_factOf (l : Launch) {p0 : Int32} {p1 : Nat} (hp1 : isE4 p1) {p2 : Int32} {p3 : Int32} {S : St} {Q : Int32 → St → Prop} (hR : RCE S) (hw : w_X0_factOf p0 p1 p2 p3 S Q) : MetI l yX0_factOf (wB yX0_factOf cX0_factOf 4 (some .int)) rm_X0_factOf shE NE RCE (fun ad => [.int p0, .ref (ad (p1)), .int p2, .int p3]) S Q := by
  refine MetI_of (cc := cX0_factOf) (maxL := 4) (ret := (some .int)) (plainFor_of_name (by decide)) (fun _ => Nat.le_of_ble_eq_true rfl) (fun G C hl hQ => ?_)
  subst hl
  have C : Cx G cX0_factOf BIG RX0 4 (some .int) rm_X0_factOf shE NE := C
  show Go G 4 0 [] [(0, .int p0), (1, .ref (Gad G (p1))), (2, .int p2), (3, .int p3)] S
  unfold w_X0_factOf at hw
  refine Go_iload_n (q := 1) C 0 rfl dX0_factOf_0 rfl ?_
  by_cases hk147 : p0 = (147 : Int32)
  · have hw := ite_t hw hk147
    refine Go_tableIn (t := 32) C dX0_factOf_1 (by rw [hk147]; decide) (by rw [hk147]; decide) (by rw [hk147]; rfl) rfl ?_
    refine Go_aload_n (q := 33) C 1 rfl dX0_factOf_32 rfl ?_
    refine Go_getAN (q := 36) (k := 12) (host := "EndsRound") C ci4 iw_4 (oE4 hp1) (rE4_12 hR hp1) rfl nw_38 rfl dX0_factOf_33 rfl ?_
    refine Go_iload_n (q := 37) C 2 rfl dX0_factOf_36 rfl ?_
    refine Go_callSN_I (av := (fun ad => [.ref (ad ((p1 + 6))), .int p2])) (st := []) (C := C) (hM := c_X11_cell (Gl G) (ok_ln (oE4_12 hp1)) hR hw) (host := "EndsRound") (hnw := nw_89) (hini := wm_1_2) (hst2 := wm_10_22) (hcode := wm_10_23) (n := 2) (hd := by decide +kernel) (hr0 := ⟨rfl, rfl⟩) (hroom := ⟨by first | decide | (dsimp only; omega), by first | decide | (dsimp only; omega)⟩) (hlen := rfl) (hst := rfl) (hW := Nat.le_of_ble_eq_true rfl) (hdg := dX0_factOf_37) (q := 40) (hq := rfl) (fun r37_3 S37_2 hw hR => ?_)
    exact Go_iret C hQ hR hw dX0_factOf_40
  have hw := ite_f hw hk147
  by_cases hk148 : p0 = (148 : Int32)
  · have hw := ite_t hw hk148
    refine Go_tableIn (t := 41) C dX0_factOf_1 (by rw [hk148]; decide) (by rw [hk148]; decide) (by rw [hk148]; rfl) rfl ?_
    refine Go_aload_n (q := 42) C 1 rfl dX0_factOf_41 rfl ?_
    refine Go_getAN (q := 45) (k := 12) (host := "EndsRound") C ci4 iw_4 (oE4 hp1) (rE4_12 hR hp1) rfl nw_38 rfl dX0_factOf_42 rfl ?_
    refine Go_iload_n (q := 46) C 3 rfl dX0_factOf_45 rfl ?_
    refine Go_callSN_I (av := (fun ad => [.ref (ad ((p1 + 6))), .int p3])) (st := []) (C := C) (hM := c_X11_cell (Gl G) (ok_ln (oE4_12 hp1)) hR hw) (host := "EndsRound") (hnw := nw_89) (hini := wm_1_2) (hst2 := wm_10_22) (hcode := wm_10_23) (n := 2) (hd := by decide +kernel) (hr0 := ⟨rfl, rfl⟩) (hroom := ⟨by first | decide | (dsimp only; omega), by first | decide | (dsimp only; omega)⟩) (hlen := rfl) (hst := rfl) (hW := Nat.le_of_ble_eq_true rfl) (hdg := dX0_factOf_46) (q := 49) (hq := rfl) (fun r46_5 S46_4 hw hR => ?_)
    exact Go_iret C hQ hR hw dX0_factOf_49
  have hw := ite_f hw hk148
  by_cases hk149 : p0 = (149 : Int32)
  · have hw := ite_t hw hk149
    refine Go_tableIn (t := 50) C dX0_factOf_1 (by rw [hk149]; decide) (by rw [hk149]; decide) (by rw [hk149]; rfl) rfl ?_
    refine Go_aload_n (q := 51) C 1 rfl dX0_factOf_50 rfl ?_
    refine Go_getAN (q := 54) (k := 11) (host := "EndsRound") C ci4 iw_4 (oE4 hp1) (rE4_11 hR hp1) rfl nw_36 rfl dX0_factOf_51 rfl ?_
    refine Go_iload_n (q := 55) C 2 rfl dX0_factOf_54 rfl ?_
    refine Go_callSN_I (av := (fun ad => [.ref (ad ((p1 + 5))), .int p2])) (st := []) (C := C) (hM := c_X11_cell (Gl G) (ok_ln (oE4_11 hp1)) hR hw) (host := "EndsRound") (hnw := nw_89) (hini := wm_1_2) (hst2 := wm_10_22) (hcode := wm_10_23) (n := 2) (hd := by decide +kernel) (hr0 := ⟨rfl, rfl⟩) (hroom := ⟨by first | decide | (dsimp only; omega), by first | decide | (dsimp only; omega)⟩) (hlen := rfl) (hst := rfl) (hW := Nat.le_of_ble_eq_true rfl) (hdg := dX0_factOf_55) (q := 58) (hq := rfl) (fun r55_7 S55_6 hw hR => ?_)
    exact Go_iret C hQ hR hw dX0_factOf_58
  have hw := ite_f hw hk149
  by_cases hk150 : p0 = (150 : Int32)
  · have hw := ite_t hw hk150
    refine Go_tableIn (t := 59) C dX0_factOf_1 (by rw [hk150]; decide) (by rw [hk150]; decide) (by rw [hk150]; rfl) rfl ?_
    refine Go_aload_n (q := 60) C 1 rfl dX0_factOf_59 rfl ?_
    refine Go_getAN (q := 63) (k := 11) (host := "EndsRound") C ci4 iw_4 (oE4 hp1) (rE4_11 hR hp1) rfl nw_36 rfl dX0_factOf_60 rfl ?_
    refine Go_iload_n (q := 64) C 3 rfl dX0_factOf_63 rfl ?_
    refine Go_callSN_I (av := (fun ad => [.ref (ad ((p1 + 5))), .int p3])) (st := []) (C := C) (hM := c_X11_cell (Gl G) (ok_ln (oE4_11 hp1)) hR hw) (host := "EndsRound") (hnw := nw_89) (hini := wm_1_2) (hst2 := wm_10_22) (hcode := wm_10_23) (n := 2) (hd := by decide +kernel) (hr0 := ⟨rfl, rfl⟩) (hroom := ⟨by first | decide | (dsimp only; omega), by first | decide | (dsimp only; omega)⟩) (hlen := rfl) (hst := rfl) (hW := Nat.le_of_ble_eq_true rfl) (hdg := dX0_factOf_64) (q := 67) (hq := rfl) (fun r64_9 S64_8 hw hR => ?_)
    exact Go_iret C hQ hR hw dX0_factOf_67
  have hw := ite_f hw hk150
  refine Go_tableOut (t := 68) C dX0_factOf_1 (by have g0 : ¬ (p0).toInt = 147 := ne_toInt hk147; have g1 : ¬ (p0).toInt = 148 := ne_toInt hk148; have g2 : ¬ (p0).toInt = 149 := ne_toInt hk149; have g3 : ¬ (p0).toInt = 150 := ne_toInt hk150; omega) rfl ?_
  refine Go_aload_n (q := 69) C 1 rfl dX0_factOf_68 rfl ?_
  refine Go_iload_n (q := 70) C 2 rfl dX0_factOf_69 rfl ?_
  refine Go_iload_n (q := 71) C 3 rfl dX0_factOf_70 rfl ?_
  refine Go_callV_I (av := (fun ad => [.int p2, .int p3])) (st := []) (C := C) (hM := c_X4_areRhyming (Gl G) hp1 hR hw) (hlk := wm_23_2) (hini := wm_2_0) (hins := wm_23_3) (hsel := wm_23_4) (hcode := wm_23_5) (ho := (oE4 hp1)) (hci := rfl) (hc13 := by decide) (n := 2) (hd := by decide +kernel) (hr0 := ⟨rfl, rfl⟩) (hroom := ⟨by first | decide | (dsimp only; omega), by first | decide | (dsimp only; omega)⟩) (hlen := rfl) (hst := rfl) (hW := Nat.le_of_ble_eq_true rfl) (hdg := dX0_factOf_71) (q := 74) (hq := rfl) (fun r71_11 S71_10 hw hR => ?_)
  refine Go_if_eq (t := 81) (q := 77) C hw dX0_factOf_74 rfl rfl (fun hw => ?_) (fun hw => ?_)
  · refine Go_iconst (q := 82) (v := (0 : Int32)) C dX0_factOf_81 rfl rfl ?_
    exact Go_iret C hQ hR hw dX0_factOf_82
  · refine Go_iconst (q := 78) (v := (1 : Int32)) C dX0_factOf_77 rfl rfl ?_
    refine Go_goto (q := 82) C dX0_factOf_78 rfl ?_
    exact Go_iret C hQ hR hw dX0_factOf_82
-- X0_pop
abbrev rm_X0_pop : Room := { frames := 1, cells := 0, slots := 0, locals := 21 }
set_option maxRecDepth 100000 in
set_option maxHeartbeats 4000000 in
theorem c_X0_pop (l : Launch) {S : St} {Q : Int32 → St → Prop} (hR : RCE S) (hw : w_X0_pop S Q) : MetI l yX0_pop (wB yX0_pop cX0_pop 1 (some .int)) rm_X0_pop shE NE RCE (fun ad => [.ref (ad (8))]) S Q := by
  refine MetI_of (cc := cX0_pop) (maxL := 1) (ret := (some .int)) (plainFor_of_name (by decide)) (fun _ => Nat.le_of_ble_eq_true rfl) (fun G C hl hQ => ?_)
  subst hl
  have C : Cx G cX0_pop BIG RX0 1 (some .int) rm_X0_pop shE NE := C
  show Go G 1 0 [] [(0, .ref (Gad G (8)))] S
  unfold w_X0_pop at hw
  refine Go_aload_n (q := 1) C 0 rfl dX0_pop_0 rfl ?_
  refine Go_dup (q := 2) C rfl dX0_pop_1 rfl ?_
  refine Go_getI (q := 5) (k := 3) C ci0 iw_0 kE_8 rfl wm_22_18 rfl dX0_pop_2 rfl ?_
  refine Go_iconst (q := 6) (v := (1 : Int32)) C dX0_pop_5 rfl rfl ?_
  refine Go_isub (q := 7) C dX0_pop_6 rfl ?_
  refine Go_putI (q := 10) (k := 3) C ci0 iw_0 kE_8 rfl wm_22_18 rfl rfl (ci0.2.2.2.1 3 (by decide)) rfl rfl dX0_pop_7 rfl ?_
  refine Go_S (fun S7_1 e_S7_1 => ?_)
  have hw := hw S7_1 e_S7_1
  have hR := rcE e_S7_1 hR
  refine Go_aload_n (q := 11) C 0 rfl dX0_pop_10 rfl ?_
  refine Go_getA (q := 14) (k := 2) C ci0 iw_0 kE_8 (rE_8_2 hR) rfl wm_6_17 rfl dX0_pop_11 rfl ?_
  refine Go_aload_n (q := 15) C 0 rfl dX0_pop_14 rfl ?_
  refine Go_getI (q := 18) (k := 3) C ci0 iw_0 kE_8 rfl wm_22_18 rfl dX0_pop_15 rfl ?_
  refine Go_callSN_I (av := (fun ad => [.ref (ad (10)), .int (gI S7_1 8 3)])) (st := []) (C := C) (hM := c_X11_cell (Gl G) (ok_ln kE_10) hR hw) (host := "EndsRound") (hnw := nw_89) (hini := wm_1_2) (hst2 := wm_10_22) (hcode := wm_10_23) (n := 2) (hd := by decide +kernel) (hr0 := ⟨rfl, rfl⟩) (hroom := ⟨by first | decide | (dsimp only; omega), by first | decide | (dsimp only; omega)⟩) (hlen := rfl) (hst := rfl) (hW := Nat.le_of_ble_eq_true rfl) (hdg := dX0_pop_18) (q := 21) (hq := rfl) (fun r18_3 S18_2 hw hR => ?_)
  exact Go_iret C hQ hR hw dX0_pop_21
-- X0_joined
abbrev rm_X0_joined : Room := { frames := 0, cells := 0, slots := 0, locals := 0 }
set_option maxRecDepth 100000 in
set_option maxHeartbeats 4000000 in
theorem c_X0_joined (l : Launch) {p0 : Int32} {p1 : Int32} {p2 : Int32} {S : St} {Q : Int32 → St → Prop} (hR : RCE S) (hw : w_X0_joined p0 p1 p2 S Q) : MetI l yX0_joined (wB yX0_joined cX0_joined 3 (some .int)) rm_X0_joined shE NE RCE (fun ad => [.int p0, .int p1, .int p2]) S Q := by
  refine MetI_of (cc := cX0_joined) (maxL := 3) (ret := (some .int)) (plainFor_of_name (by decide)) (fun _ => Nat.le_of_ble_eq_true rfl) (fun G C hl hQ => ?_)
  subst hl
  have C : Cx G cX0_joined BIG RX0 3 (some .int) rm_X0_joined shE NE := C
  show Go G 3 0 [] [(0, .int p0), (1, .int p1), (2, .int p2)] S
  unfold w_X0_joined at hw
  refine Go_iload_n (q := 1) C 0 rfl dX0_joined_0 rfl ?_
  by_cases hk42 : p0 = (42 : Int32)
  · have hw := ite_t hw hk42
    refine Go_lookup (t := 68) C dX0_joined_1 rfl (by first | (rw [hk42]; done) | (rw [hk42]; rfl)) rfl ?_
    refine Go_iload_n (q := 69) C 1 rfl dX0_joined_68 rfl ?_
    refine Go_iload_n (q := 70) C 2 rfl dX0_joined_69 rfl ?_
    refine Go_imul (q := 71) C dX0_joined_70 rfl ?_
    exact Go_iret C hQ hR hw dX0_joined_71
  have hw := ite_f hw hk42
  by_cases hk43 : p0 = (43 : Int32)
  · have hw := ite_t hw hk43
    refine Go_lookup (t := 60) C dX0_joined_1 rfl (by first | (rw [hk43]; done) | (rw [hk43]; rfl)) rfl ?_
    refine Go_iload_n (q := 61) C 1 rfl dX0_joined_60 rfl ?_
    refine Go_iload_n (q := 62) C 2 rfl dX0_joined_61 rfl ?_
    refine Go_iadd (q := 63) C dX0_joined_62 rfl ?_
    exact Go_iret C hQ hR hw dX0_joined_63
  have hw := ite_f hw hk43
  by_cases hk45 : p0 = (45 : Int32)
  · have hw := ite_t hw hk45
    refine Go_lookup (t := 64) C dX0_joined_1 rfl (by first | (rw [hk45]; done) | (rw [hk45]; rfl)) rfl ?_
    refine Go_iload_n (q := 65) C 1 rfl dX0_joined_64 rfl ?_
    refine Go_iload_n (q := 66) C 2 rfl dX0_joined_65 rfl ?_
    refine Go_isub (q := 67) C dX0_joined_66 rfl ?_
    exact Go_iret C hQ hR hw dX0_joined_67
  have hw := ite_f hw hk45
  by_cases hk60 : p0 = (60 : Int32)
  · have hw := ite_t hw hk60
    refine Go_lookup (t := 72) C dX0_joined_1 rfl (by first | (rw [hk60]; done) | (rw [hk60]; rfl)) rfl ?_
    refine Go_iload_n (q := 73) C 1 rfl dX0_joined_72 rfl ?_
    refine Go_iload_n (q := 74) C 2 rfl dX0_joined_73 rfl ?_
    refine Go_icmp_ge (t := 81) (q := 77) C hw dX0_joined_74 rfl rfl (fun hw => ?_) (fun hw => ?_)
    · refine Go_iconst (q := 82) (v := (0 : Int32)) C dX0_joined_81 rfl rfl ?_
      exact Go_iret C hQ hR hw dX0_joined_82
    · refine Go_iconst (q := 78) (v := (1 : Int32)) C dX0_joined_77 rfl rfl ?_
      refine Go_goto (q := 82) C dX0_joined_78 rfl ?_
      exact Go_iret C hQ hR hw dX0_joined_82
  have hw := ite_f hw hk60
  by_cases hk61 : p0 = (61 : Int32)
  · have hw := ite_t hw hk61
    refine Go_lookup (t := 83) C dX0_joined_1 rfl (by first | (rw [hk61]; done) | (rw [hk61]; rfl)) rfl ?_
    refine Go_iload_n (q := 84) C 1 rfl dX0_joined_83 rfl ?_
    refine Go_iload_n (q := 85) C 2 rfl dX0_joined_84 rfl ?_
    refine Go_icmp_ne (t := 92) (q := 88) C hw dX0_joined_85 rfl rfl (fun hw => ?_) (fun hw => ?_)
    · refine Go_iconst (q := 89) (v := (1 : Int32)) C dX0_joined_88 rfl rfl ?_
      refine Go_goto (q := 93) C dX0_joined_89 rfl ?_
      exact Go_iret C hQ hR hw dX0_joined_93
    · refine Go_iconst (q := 93) (v := (0 : Int32)) C dX0_joined_92 rfl rfl ?_
      exact Go_iret C hQ hR hw dX0_joined_93
  have hw := ite_f hw hk61
  by_cases hk145 : p0 = (145 : Int32)
  · have hw := ite_t hw hk145
    refine Go_lookup (t := 94) C dX0_joined_1 rfl (by first | (rw [hk145]; done) | (rw [hk145]; rfl)) rfl ?_
    refine Go_iload_n (q := 95) C 1 rfl dX0_joined_94 rfl ?_
    refine Go_if_eq (t := 106) (q := 98) C hw dX0_joined_95 rfl rfl (fun hw => ?_) (fun hw => ?_)
    · refine Go_iconst (q := 107) (v := (0 : Int32)) C dX0_joined_106 rfl rfl ?_
      exact Go_iret C hQ hR hw dX0_joined_107
    · refine Go_iload_n (q := 99) C 2 rfl dX0_joined_98 rfl ?_
      refine Go_if_eq (t := 106) (q := 102) C hw dX0_joined_99 rfl rfl (fun hw => ?_) (fun hw => ?_)
      · refine Go_iconst (q := 107) (v := (0 : Int32)) C dX0_joined_106 rfl rfl ?_
        exact Go_iret C hQ hR hw dX0_joined_107
      · refine Go_iconst (q := 103) (v := (1 : Int32)) C dX0_joined_102 rfl rfl ?_
        refine Go_goto (q := 107) C dX0_joined_103 rfl ?_
        exact Go_iret C hQ hR hw dX0_joined_107
  have hw := ite_f hw hk145
  refine Go_lookup (off := 107) (t := 108) C dX0_joined_1 rfl (by have g0 : ¬ (p0).toInt = 42 := ne_toInt hk42; have g1 : ¬ (p0).toInt = 43 := ne_toInt hk43; have g2 : ¬ (p0).toInt = 45 := ne_toInt hk45; have g3 : ¬ (p0).toInt = 60 := ne_toInt hk60; have g4 : ¬ (p0).toInt = 61 := ne_toInt hk61; have g5 : ¬ (p0).toInt = 145 := ne_toInt hk145; show Op.lookupswitch.offset [(42, 67), (43, 59), (45, 63), (60, 71), (61, 82), (145, 93)] 107 (p0).toInt = 107; rw [Op.lookupswitch.offset_cons, if_neg (fun e => g0 e.symm)]; rw [Op.lookupswitch.offset_cons, if_neg (fun e => g1 e.symm)]; rw [Op.lookupswitch.offset_cons, if_neg (fun e => g2 e.symm)]; rw [Op.lookupswitch.offset_cons, if_neg (fun e => g3 e.symm)]; rw [Op.lookupswitch.offset_cons, if_neg (fun e => g4 e.symm)]; rw [Op.lookupswitch.offset_cons, if_neg (fun e => g5 e.symm)]; rfl) rfl ?_
  refine Go_iload_n (q := 109) C 1 rfl dX0_joined_108 rfl ?_
  refine Go_if_ne (t := 116) (q := 112) C hw dX0_joined_109 rfl rfl (fun hw => ?_) (fun hw => ?_)
  · refine Go_iload_n (q := 113) C 2 rfl dX0_joined_112 rfl ?_
    refine Go_if_eq (t := 120) (q := 116) C hw dX0_joined_113 rfl rfl (fun hw => ?_) (fun hw => ?_)
    · refine Go_iconst (q := 121) (v := (0 : Int32)) C dX0_joined_120 rfl rfl ?_
      exact Go_iret C hQ hR hw dX0_joined_121
    · refine Go_iconst (q := 117) (v := (1 : Int32)) C dX0_joined_116 rfl rfl ?_
      refine Go_goto (q := 121) C dX0_joined_117 rfl ?_
      exact Go_iret C hQ hR hw dX0_joined_121
  · refine Go_iconst (q := 117) (v := (1 : Int32)) C dX0_joined_116 rfl rfl ?_
    refine Go_goto (q := 121) C dX0_joined_117 rfl ?_
    exact Go_iret C hQ hR hw dX0_joined_121
-- X0_holds
abbrev rm_X0_holds : Room := { frames := 3, cells := 0, slots := 0, locals := 66 }
set_option maxRecDepth 100000 in
set_option maxHeartbeats 4000000 in
theorem g_X0_holds_93 {G : GC} (C : Cx G cX0_holds BIG RX0 7 (some .boolean) rm_X0_holds shE NE) {Q : Int32 → St → Prop} (hQ : QI G RCE Q) (p0 : Nat) (p1 : Int32) (p2 : Int32) (hp0 : isE4 p0) (v4 : Int32) (t0 : Int32) {k8 : Int32 → St → Prop} (hk8 : ∀ (v4 : Int32) (S : St), RCE S → k8 v4 S → Go G 7 8 [] [(0, .ref (Gad G (8))), (1, .ref (Gad G (p0))), (2, .int p1), (3, .int p2), (4, .int v4)] S) {S : St} (hR : RCE S) (hw : w_X0_holds_93 p0 p1 p2 k8 v4 t0 S) : Go G 7 93 [.int t0, .ref (Gad G (8))] [(0, .ref (Gad G (8))), (1, .ref (Gad G (p0))), (2, .int p1), (3, .int p2), (4, .int v4)] S := by
  unfold w_X0_holds_93 at hw
  refine Go_callV_V (av := (fun ad => [.int t0])) (st := []) (C := C) (hM := c_X0_push (Gl G) hR hw) (hlk := wm_22_19) (hini := wm_6_7) (hins := wm_22_20) (hsel := wm_22_21) (hcode := wm_22_22) (ho := kE_8) (hci := rfl) (hc13 := by decide) (n := 1) (hd := by decide +kernel) (hr0 := ⟨rfl, rfl⟩) (hroom := ⟨by first | decide | (dsimp only; omega), by first | decide | (dsimp only; omega)⟩) (hlen := rfl) (hst := rfl) (hW := Nat.le_of_ble_eq_true rfl) (hdg := dX0_holds_93) (q := 96) (hq := rfl) (fun S93_6 hw hR => ?_)
  refine Go_goto (q := 144) C dX0_holds_96 rfl ?_
  refine Go_iinc2 (q := 147) (kp := 4) (cst := (1 : Int32)) C dX0_holds_144 rfl rfl (by decide) rfl (fun x144_7 e_x144_7 => ?_)
  have hw := hw x144_7 e_x144_7
  refine Go_lve (lv' := [(4, .int x144_7), (0, .ref (Gad G (8))), (1, .ref (Gad G (p0))), (2, .int p1), (3, .int p2)]) rfl ?_
  refine Go_goto (q := 8) C dX0_holds_147 rfl ?_
  refine Go_lvp [1, 2, 3, 4, 0] rfl ?_
  exact hk8 _ _ hR hw
set_option maxRecDepth 100000 in
set_option maxHeartbeats 4000000 in
theorem g_X0_holds_8 {G : GC} (C : Cx G cX0_holds BIG RX0 7 (some .boolean) rm_X0_holds shE NE) {Q : Int32 → St → Prop} (hQ : QI G RCE Q) (p0 : Nat) (p1 : Int32) (p2 : Int32) (hp0 : isE4 p0) (v4 : Int32) {S : St} (hR : RCE S) (hw : w_X0_holds_8 p0 p1 p2 Q v4 S) : Go G 7 8 [] [(0, .ref (Gad G (8))), (1, .ref (Gad G (p0))), (2, .int p1), (3, .int p2), (4, .int v4)] S := by
  obtain ⟨n, hw⟩ := hw
  induction n generalizing v4 S with
  | zero => exact hw.elim
  | succ n ih =>
    have hw : b_X0_holds_8 p0 p1 p2 Q (lpn (fun _ _ => False) (b_X0_holds_8 p0 p1 p2 Q) n) v4 S := hw
    generalize lpn (fun _ _ => False) (b_X0_holds_8 p0 p1 p2 Q) n = kf at hw ih
    have hk8 := fun (v4 : Int32) (S : St) (hR : RCE S) hw => ih v4 hR hw
    unfold b_X0_holds_8 at hw
    refine Go_iload (q := 10) C 4 rfl dX0_holds_8 rfl ?_
    refine Go_aload_n (q := 11) C 0 rfl dX0_holds_10 rfl ?_
    refine Go_getI (q := 14) (k := 1) C ci0 iw_0 kE_8 rfl wm_21_20 rfl dX0_holds_11 rfl ?_
    refine Go_icmp_ge (t := 150) (q := 17) C hw dX0_holds_14 rfl rfl (fun hw => ?_) (fun hw => ?_)
    · refine Go_iconst (q := 151) (v := (0 : Int32)) C dX0_holds_150 rfl rfl ?_
      exact Go_zret C hQ hR rfl hw dX0_holds_151
    · refine Go_aload_n (q := 18) C 0 rfl dX0_holds_17 rfl ?_
      refine Go_getA (q := 21) (k := 0) C ci0 iw_0 kE_8 (rE_8_0 hR) rfl wm_6_16 rfl dX0_holds_18 rfl ?_
      refine Go_iload (q := 23) C 4 rfl dX0_holds_21 rfl ?_
      refine Go_callSN_I (av := (fun ad => [.ref (ad (9)), .int v4])) (st := []) (C := C) (hM := c_X11_cell (Gl G) (ok_ln kE_9) hR hw) (host := "EndsRound") (hnw := nw_89) (hini := wm_1_2) (hst2 := wm_10_22) (hcode := wm_10_23) (n := 2) (hd := by decide +kernel) (hr0 := ⟨rfl, rfl⟩) (hroom := ⟨by first | decide | (dsimp only; omega), by first | decide | (dsimp only; omega)⟩) (hlen := rfl) (hst := rfl) (hW := Nat.le_of_ble_eq_true rfl) (hdg := dX0_holds_23) (q := 26) (hq := rfl) (fun r23_3 S23_2 hw hR => ?_)
      refine Go_istore (q := 28) (lv' := [(5, .int r23_3), (0, .ref (Gad G (8))), (1, .ref (Gad G (p0))), (2, .int p1), (3, .int p2), (4, .int v4)]) C dX0_holds_26 (by decide) rfl rfl ?_
      refine Go_iload (q := 30) C 0 rfl dX0_holds_28 rfl ?_
      refine Go_sipush (q := 33) (v := (10000 : Int32)) C dX0_holds_30 rfl rfl ?_
      refine Go_icmp_ge (t := 45) (q := 36) C hw dX0_holds_33 rfl rfl (fun hw => ?_) (fun hw => ?_)
      · refine Go_iload (q := 47) C 0 rfl dX0_holds_45 rfl ?_
        refine Go_sipush (q := 50) (v := (10147 : Int32)) C dX0_holds_47 rfl rfl ?_
        refine Go_icmp_lt (t := 72) (q := 53) C hw dX0_holds_50 rfl rfl (fun hw => ?_) (fun hw => ?_)
        · refine Go_iload (q := 74) C 0 rfl dX0_holds_72 rfl ?_
          refine Go_sipush (q := 77) (v := (10144 : Int32)) C dX0_holds_74 rfl rfl ?_
          refine Go_icmp_ne (t := 99) (q := 80) C hw dX0_holds_77 rfl rfl (fun hw => ?_) (fun hw => ?_)
          · refine Go_aload_n (q := 81) C 1 rfl dX0_holds_80 rfl ?_
            refine Go_aload_n (q := 82) C 1 rfl dX0_holds_81 rfl ?_
            refine Go_callV_I (av := (fun ad => [])) (st := [.ref (Gad G (8))]) (C := C) (hM := c_X0_pop (Gl G) hR hw) (hlk := wm_23_6) (hini := wm_6_7) (hins := wm_23_7) (hsel := wm_23_8) (hcode := wm_23_9) (ho := kE_8) (hci := rfl) (hc13 := by decide) (n := 0) (hd := by decide +kernel) (hr0 := ⟨rfl, rfl⟩) (hroom := ⟨by first | decide | (dsimp only; omega), by first | decide | (dsimp only; omega)⟩) (hlen := rfl) (hst := rfl) (hW := Nat.le_of_ble_eq_true rfl) (hdg := dX0_holds_82) (q := 85) (hq := rfl) (fun r82_5 S82_4 hw hR => ?_)
            refine Go_if_ne (t := 92) (q := 88) C hw dX0_holds_85 rfl rfl (fun hw => ?_) (fun hw => ?_)
            · refine Go_iconst (q := 89) (v := (1 : Int32)) C dX0_holds_88 rfl rfl ?_
              refine Go_goto (q := 93) C dX0_holds_89 rfl ?_
              refine Go_lvp [1, 2, 3, 4, 5] rfl ?_
              exact g_X0_holds_93 C hQ p0 p1 p2 hp0 _ _ hk8 hR hw
            · refine Go_iconst (q := 93) (v := (0 : Int32)) C dX0_holds_92 rfl rfl ?_
              refine Go_lvp [1, 2, 3, 4, 5] rfl ?_
              exact g_X0_holds_93 C hQ p0 p1 p2 hp0 _ _ hk8 hR hw
          · refine Go_iload (q := 101) C 0 rfl dX0_holds_99 rfl ?_
            refine Go_sipush (q := 104) (v := (10059 : Int32)) C dX0_holds_101 rfl rfl ?_
            refine Go_icmp_eq (t := 135) (q := 107) C hw dX0_holds_104 rfl rfl (fun hw => ?_) (fun hw => ?_)
            · refine Go_aload_n (q := 136) C 1 rfl dX0_holds_135 rfl ?_
              refine Go_callV_I (av := (fun ad => [])) (st := []) (C := C) (hM := c_X0_pop (Gl G) hR hw) (hlk := wm_23_6) (hini := wm_6_7) (hins := wm_23_7) (hsel := wm_23_8) (hcode := wm_23_9) (ho := kE_8) (hci := rfl) (hc13 := by decide) (n := 0) (hd := by decide +kernel) (hr0 := ⟨rfl, rfl⟩) (hroom := ⟨by first | decide | (dsimp only; omega), by first | decide | (dsimp only; omega)⟩) (hlen := rfl) (hst := rfl) (hW := Nat.le_of_ble_eq_true rfl) (hdg := dX0_holds_136) (q := 139) (hq := rfl) (fun r136_9 S136_8 hw hR => ?_)
              refine Go_if_eq (t := 144) (q := 142) C hw dX0_holds_139 rfl rfl (fun hw => ?_) (fun hw => ?_)
              · refine Go_iinc2 (q := 147) (kp := 5) (cst := (1 : Int32)) C dX0_holds_144 rfl rfl (by decide) rfl (fun x144_10 e_x144_10 => ?_)
                have hw := hw x144_10 e_x144_10
                refine Go_lve (lv' := [(4, .int x144_10), (5, .int r23_3), (0, .ref (Gad G (8))), (1, .ref (Gad G (p0))), (2, .int p1), (3, .int p2)]) rfl ?_
                refine Go_goto (q := 8) C dX0_holds_147 rfl ?_
                refine Go_lvp [2, 3, 4, 5, 0] rfl ?_
                exact hk8 _ _ hR hw
              · refine Go_iconst (q := 143) (v := (1 : Int32)) C dX0_holds_142 rfl rfl ?_
                exact Go_zret C hQ hR rfl hw dX0_holds_143
            · refine Go_aload_n (q := 108) C 1 rfl dX0_holds_107 rfl ?_
              refine Go_callV_I (av := (fun ad => [])) (st := []) (C := C) (hM := c_X0_pop (Gl G) hR hw) (hlk := wm_23_6) (hini := wm_6_7) (hins := wm_23_7) (hsel := wm_23_8) (hcode := wm_23_9) (ho := kE_8) (hci := rfl) (hc13 := by decide) (n := 0) (hd := by decide +kernel) (hr0 := ⟨rfl, rfl⟩) (hroom := ⟨by first | decide | (dsimp only; omega), by first | decide | (dsimp only; omega)⟩) (hlen := rfl) (hst := rfl) (hW := Nat.le_of_ble_eq_true rfl) (hdg := dX0_holds_108) (q := 111) (hq := rfl) (fun r108_12 S108_11 hw hR => ?_)
              refine Go_istore (q := 113) (lv' := [(6, .int r108_12), (5, .int r23_3), (0, .ref (Gad G (8))), (1, .ref (Gad G (p0))), (2, .int p1), (3, .int p2), (4, .int v4)]) C dX0_holds_111 (by decide) rfl rfl ?_
              refine Go_aload_n (q := 114) C 2 rfl dX0_holds_113 rfl ?_
              refine Go_iload (q := 116) C 1 rfl dX0_holds_114 rfl ?_
              refine Go_sipush (q := 119) (v := (10000 : Int32)) C dX0_holds_116 rfl rfl ?_
              refine Go_isub (q := 120) C dX0_holds_119 rfl ?_
              refine Go_aload_n (q := 121) C 2 rfl dX0_holds_120 rfl ?_
              refine Go_callV_I (av := (fun ad => [])) (st := [.int (r23_3 - (10000 : Int32)), .ref (Gad G (8))]) (C := C) (hM := c_X0_pop (Gl G) hR hw) (hlk := wm_23_6) (hini := wm_6_7) (hins := wm_23_7) (hsel := wm_23_8) (hcode := wm_23_9) (ho := kE_8) (hci := rfl) (hc13 := by decide) (n := 0) (hd := by decide +kernel) (hr0 := ⟨rfl, rfl⟩) (hroom := ⟨by first | decide | (dsimp only; omega), by first | decide | (dsimp only; omega)⟩) (hlen := rfl) (hst := rfl) (hW := Nat.le_of_ble_eq_true rfl) (hdg := dX0_holds_121) (q := 124) (hq := rfl) (fun r121_14 S121_13 hw hR => ?_)
              refine Go_iload (q := 126) C 0 rfl dX0_holds_124 rfl ?_
              refine Go_callS_I (av := (fun ad => [.int (r23_3 - (10000 : Int32)), .int r121_14, .int r108_12])) (st := [.ref (Gad G (8))]) (C := C) (hM := c_X0_joined (Gl G) hR hw) (hlk := wm_23_10) (hini := wm_6_7) (hst2 := wm_23_11) (hcode := wm_23_12) (n := 3) (hd := by decide +kernel) (hr0 := ⟨rfl, rfl⟩) (hroom := ⟨by first | decide | (dsimp only; omega), by first | decide | (dsimp only; omega)⟩) (hlen := rfl) (hst := rfl) (hW := Nat.le_of_ble_eq_true rfl) (hdg := dX0_holds_126) (q := 129) (hq := rfl) (fun r126_16 S126_15 hw hR => ?_)
              refine Go_callV_V (av := (fun ad => [.int r126_16])) (st := []) (C := C) (hM := c_X0_push (Gl G) hR hw) (hlk := wm_22_19) (hini := wm_6_7) (hins := wm_22_20) (hsel := wm_22_21) (hcode := wm_22_22) (ho := kE_8) (hci := rfl) (hc13 := by decide) (n := 1) (hd := by decide +kernel) (hr0 := ⟨rfl, rfl⟩) (hroom := ⟨by first | decide | (dsimp only; omega), by first | decide | (dsimp only; omega)⟩) (hlen := rfl) (hst := rfl) (hW := Nat.le_of_ble_eq_true rfl) (hdg := dX0_holds_129) (q := 132) (hq := rfl) (fun S129_17 hw hR => ?_)
              refine Go_goto (q := 144) C dX0_holds_132 rfl ?_
              refine Go_iinc2 (q := 147) (kp := 6) (cst := (1 : Int32)) C dX0_holds_144 rfl rfl (by decide) rfl (fun x144_18 e_x144_18 => ?_)
              have hw := hw x144_18 e_x144_18
              refine Go_lve (lv' := [(4, .int x144_18), (6, .int r108_12), (5, .int r23_3), (0, .ref (Gad G (8))), (1, .ref (Gad G (p0))), (2, .int p1), (3, .int p2)]) rfl ?_
              refine Go_goto (q := 8) C dX0_holds_147 rfl ?_
              refine Go_lvp [3, 4, 5, 6, 0] rfl ?_
              exact hk8 _ _ hR hw
        · refine Go_aload_n (q := 54) C 1 rfl dX0_holds_53 rfl ?_
          refine Go_iload (q := 56) C 0 rfl dX0_holds_54 rfl ?_
          refine Go_sipush (q := 59) (v := (10000 : Int32)) C dX0_holds_56 rfl rfl ?_
          refine Go_isub (q := 60) C dX0_holds_59 rfl ?_
          refine Go_aload_n (q := 61) C 2 rfl dX0_holds_60 rfl ?_
          refine Go_iload_n (q := 62) C 3 rfl dX0_holds_61 rfl ?_
          refine Go_iload_n (q := 63) C 4 rfl dX0_holds_62 rfl ?_
          refine Go_callS_I (av := (fun ad => [.int (r23_3 - (10000 : Int32)), .ref (ad (p0)), .int p1, .int p2])) (st := [.ref (Gad G (8))]) (C := C) (hM := c_X0_factOf (Gl G) hp0 hR hw) (hlk := wm_22_23) (hini := wm_6_7) (hst2 := wm_23_0) (hcode := wm_23_1) (n := 4) (hd := by decide +kernel) (hr0 := ⟨rfl, rfl⟩) (hroom := ⟨by first | decide | (dsimp only; omega), by first | decide | (dsimp only; omega)⟩) (hlen := rfl) (hst := rfl) (hW := Nat.le_of_ble_eq_true rfl) (hdg := dX0_holds_63) (q := 66) (hq := rfl) (fun r63_20 S63_19 hw hR => ?_)
          refine Go_callV_V (av := (fun ad => [.int r63_20])) (st := []) (C := C) (hM := c_X0_push (Gl G) hR hw) (hlk := wm_22_19) (hini := wm_6_7) (hins := wm_22_20) (hsel := wm_22_21) (hcode := wm_22_22) (ho := kE_8) (hci := rfl) (hc13 := by decide) (n := 1) (hd := by decide +kernel) (hr0 := ⟨rfl, rfl⟩) (hroom := ⟨by first | decide | (dsimp only; omega), by first | decide | (dsimp only; omega)⟩) (hlen := rfl) (hst := rfl) (hW := Nat.le_of_ble_eq_true rfl) (hdg := dX0_holds_66) (q := 69) (hq := rfl) (fun S66_21 hw hR => ?_)
          refine Go_goto (q := 144) C dX0_holds_69 rfl ?_
          refine Go_iinc2 (q := 147) (kp := 5) (cst := (1 : Int32)) C dX0_holds_144 rfl rfl (by decide) rfl (fun x144_22 e_x144_22 => ?_)
          have hw := hw x144_22 e_x144_22
          refine Go_lve (lv' := [(4, .int x144_22), (5, .int r23_3), (0, .ref (Gad G (8))), (1, .ref (Gad G (p0))), (2, .int p1), (3, .int p2)]) rfl ?_
          refine Go_goto (q := 8) C dX0_holds_147 rfl ?_
          refine Go_lvp [2, 3, 4, 5, 0] rfl ?_
          exact hk8 _ _ hR hw
      · refine Go_aload_n (q := 37) C 1 rfl dX0_holds_36 rfl ?_
        refine Go_iload (q := 39) C 0 rfl dX0_holds_37 rfl ?_
        refine Go_callV_V (av := (fun ad => [.int r23_3])) (st := []) (C := C) (hM := c_X0_push (Gl G) hR hw) (hlk := wm_22_19) (hini := wm_6_7) (hins := wm_22_20) (hsel := wm_22_21) (hcode := wm_22_22) (ho := kE_8) (hci := rfl) (hc13 := by decide) (n := 1) (hd := by decide +kernel) (hr0 := ⟨rfl, rfl⟩) (hroom := ⟨by first | decide | (dsimp only; omega), by first | decide | (dsimp only; omega)⟩) (hlen := rfl) (hst := rfl) (hW := Nat.le_of_ble_eq_true rfl) (hdg := dX0_holds_39) (q := 42) (hq := rfl) (fun S39_23 hw hR => ?_)
        refine Go_goto (q := 144) C dX0_holds_42 rfl ?_
        refine Go_iinc2 (q := 147) (kp := 5) (cst := (1 : Int32)) C dX0_holds_144 rfl rfl (by decide) rfl (fun x144_24 e_x144_24 => ?_)
        have hw := hw x144_24 e_x144_24
        refine Go_lve (lv' := [(4, .int x144_24), (5, .int r23_3), (0, .ref (Gad G (8))), (1, .ref (Gad G (p0))), (2, .int p1), (3, .int p2)]) rfl ?_
        refine Go_goto (q := 8) C dX0_holds_147 rfl ?_
        refine Go_lvp [2, 3, 4, 5, 0] rfl ?_
        exact hk8 _ _ hR hw
set_option maxRecDepth 100000 in
set_option maxHeartbeats 4000000 in
theorem c_X0_holds (l : Launch) {p0 : Nat} (hp0 : isE4 p0) {p1 : Int32} {p2 : Int32} {S : St} {Q : Int32 → St → Prop} (hR : RCE S) (hw : w_X0_holds p0 p1 p2 S Q) : MetI l yX0_holds (wB yX0_holds cX0_holds 7 (some .boolean)) rm_X0_holds shE NE RCE (fun ad => [.ref (ad (8)), .ref (ad (p0)), .int p1, .int p2]) S Q := by
  refine MetI_of (cc := cX0_holds) (maxL := 7) (ret := (some .boolean)) (plainFor_of_name (by decide)) (fun _ => Nat.le_of_ble_eq_true rfl) (fun G C hl hQ => ?_)
  subst hl
  have C : Cx G cX0_holds BIG RX0 7 (some .boolean) rm_X0_holds shE NE := C
  show Go G 7 0 [] [(0, .ref (Gad G (8))), (1, .ref (Gad G (p0))), (2, .int p1), (3, .int p2)] S
  unfold w_X0_holds at hw
  refine Go_aload_n (q := 1) C 0 rfl dX0_holds_0 rfl ?_
  refine Go_iconst (q := 2) (v := (0 : Int32)) C dX0_holds_1 rfl rfl ?_
  refine Go_putI (q := 5) (k := 3) C ci0 iw_0 kE_8 rfl wm_22_18 rfl rfl (ci0.2.2.2.1 3 (by decide)) rfl rfl dX0_holds_2 rfl ?_
  refine Go_S (fun S2_1 e_S2_1 => ?_)
  have hw := hw S2_1 e_S2_1
  have hR := rcE e_S2_1 hR
  refine Go_iconst (q := 6) (v := (0 : Int32)) C dX0_holds_5 rfl rfl ?_
  refine Go_istore (q := 8) (lv' := [(4, .int (0 : Int32)), (0, .ref (Gad G (8))), (1, .ref (Gad G (p0))), (2, .int p1), (3, .int p2)]) C dX0_holds_6 (by decide) rfl rfl ?_
  refine Go_lvp [1, 2, 3, 4, 0] rfl ?_
  exact g_X0_holds_8 C hQ p0 p1 p2 hp0 _ hR hw
-- X0_weigh
abbrev rm_X0_weigh : Room := { frames := 4, cells := 0, slots := 0, locals := 92 }
set_option maxRecDepth 100000 in
set_option maxHeartbeats 4000000 in
theorem g_X0_weigh_44 {G : GC} (C : Cx G cX0_weigh BIG RX0 5 none rm_X0_weigh shE NE) {Q : St → Prop} (hQ : QV G RCE Q) (p0 : Nat) (hp0 : isE4 p0) (v2 : Int32) (v4 : Int32) (t0 : Int32) (t1 : Int32) {k15 : Int32 → Int32 → St → Prop} (hk15 : ∀ (v3 : Int32) (v4 : Int32) (S : St), RCE S → k15 v3 v4 S → Go G 5 15 [] [(0, .ref (Gad G (8))), (1, .ref (Gad G (p0))), (2, .int v2), (3, .int v3), (4, .int v4)] S) {S : St} (hR : RCE S) (hw : w_X0_weigh_44 p0 k15 v2 v4 t0 t1 S) : Go G 5 44 [.int t0, .int t1] [(0, .ref (Gad G (8))), (1, .ref (Gad G (p0))), (2, .int v2), (4, .int v4)] S := by
  unfold w_X0_weigh_44 at hw
  refine Go_ior (q := 45) C dX0_weigh_44 rfl ?_
  refine Go_topi (fun x45_5 e_x45_5 => ?_)
  have hw := hw x45_5 e_x45_5
  refine Go_istore_n (q := 46) (lv' := [(3, .int x45_5), (0, .ref (Gad G (8))), (1, .ref (Gad G (p0))), (2, .int v2), (4, .int v4)]) C rfl dX0_weigh_45 (by decide) rfl rfl ?_
  refine Go_iinc2 (q := 49) (kp := 4) (cst := (1 : Int32)) C dX0_weigh_46 rfl rfl (by decide) rfl (fun x46_6 e_x46_6 => ?_)
  have hw := hw x46_6 e_x46_6
  refine Go_lve (lv' := [(4, .int x46_6), (3, .int x45_5), (0, .ref (Gad G (8))), (1, .ref (Gad G (p0))), (2, .int v2)]) rfl ?_
  refine Go_goto (q := 15) C dX0_weigh_49 rfl ?_
  refine Go_lvp [2, 3, 4, 1, 0] rfl ?_
  exact hk15 _ _ _ hR hw
set_option maxRecDepth 100000 in
set_option maxHeartbeats 4000000 in
theorem g_X0_weigh_15 {G : GC} (C : Cx G cX0_weigh BIG RX0 5 none rm_X0_weigh shE NE) {Q : St → Prop} (hQ : QV G RCE Q) (p0 : Nat) (hp0 : isE4 p0) (v2 : Int32) {k2 : Int32 → St → Prop} (hk2 : ∀ (v2 : Int32) (S : St), RCE S → k2 v2 S → Go G 5 2 [] [(0, .ref (Gad G (8))), (1, .ref (Gad G (p0))), (2, .int v2)] S) (v3 : Int32) (v4 : Int32) {S : St} (hR : RCE S) (hw : w_X0_weigh_15 p0 k2 v2 v3 v4 S) : Go G 5 15 [] [(0, .ref (Gad G (8))), (1, .ref (Gad G (p0))), (2, .int v2), (3, .int v3), (4, .int v4)] S := by
  obtain ⟨n, hw⟩ := hw
  induction n generalizing v3 v4 S with
  | zero => exact hw.elim
  | succ n ih =>
    have hw : b_X0_weigh_15 p0 k2 v2 (lpn (fun _ _ _ => False) (b_X0_weigh_15 p0 k2 v2) n) v3 v4 S := hw
    generalize lpn (fun _ _ _ => False) (b_X0_weigh_15 p0 k2 v2) n = kf at hw ih
    have hk15 := fun (v3 : Int32) (v4 : Int32) (S : St) (hR : RCE S) hw => ih v3 v4 hR hw
    unfold b_X0_weigh_15 at hw
    refine Go_iload (q := 17) C 4 rfl dX0_weigh_15 rfl ?_
    refine Go_aload_n (q := 18) C 1 rfl dX0_weigh_17 rfl ?_
    refine Go_getIN (q := 21) (k := 5) (host := "EndsRound") C ci4 iw_4 (oE4 hp0) rfl nw_19 rfl dX0_weigh_18 rfl ?_
    refine Go_icmp_ge (t := 52) (q := 24) C hw dX0_weigh_21 rfl rfl (fun hw => ?_) (fun hw => ?_)
    · refine Go_aload_n (q := 53) C 1 rfl dX0_weigh_52 rfl ?_
      refine Go_getAN (q := 56) (k := 13) (host := "EndsRound") C ci4 iw_4 (oE4 hp0) (rE4_13 hR hp0) rfl nw_40 rfl dX0_weigh_53 rfl ?_
      refine Go_iload_n (q := 57) C 2 rfl dX0_weigh_56 rfl ?_
      refine Go_iload_n (q := 58) C 3 rfl dX0_weigh_57 rfl ?_
      refine Go_callSN_V (av := (fun ad => [.ref (ad ((p0 + 7))), .int v2, .int v3])) (st := []) (C := C) (hM := c_X11_put (Gl G) (ok_ln (oE4_13 hp0)) hR hw) (host := "EndsRound") (hnw := nw_88) (hini := wm_1_2) (hst2 := wm_10_11) (hcode := wm_10_12) (n := 3) (hd := by decide +kernel) (hr0 := ⟨rfl, rfl⟩) (hroom := ⟨by first | decide | (dsimp only; omega), by first | decide | (dsimp only; omega)⟩) (hlen := rfl) (hst := rfl) (hW := Nat.le_of_ble_eq_true rfl) (hdg := dX0_weigh_58) (q := 61) (hq := rfl) (fun S58_1 hw hR => ?_)
      refine Go_iinc2 (q := 64) (kp := 2) (cst := (1 : Int32)) C dX0_weigh_61 rfl rfl (by decide) rfl (fun x61_2 e_x61_2 => ?_)
      have hw := hw x61_2 e_x61_2
      refine Go_lve (lv' := [(2, .int x61_2), (0, .ref (Gad G (8))), (1, .ref (Gad G (p0))), (3, .int v3), (4, .int v4)]) rfl ?_
      refine Go_goto (q := 2) C dX0_weigh_64 rfl ?_
      refine Go_lvp [1, 2, 0] rfl ?_
      exact hk2 _ _ hR hw
    · refine Go_iload_n (q := 25) C 3 rfl dX0_weigh_24 rfl ?_
      refine Go_aload_n (q := 26) C 0 rfl dX0_weigh_25 rfl ?_
      refine Go_aload_n (q := 27) C 1 rfl dX0_weigh_26 rfl ?_
      refine Go_iload_n (q := 28) C 2 rfl dX0_weigh_27 rfl ?_
      refine Go_iload (q := 30) C 4 rfl dX0_weigh_28 rfl ?_
      refine Go_callV_I (av := (fun ad => [.ref (ad (p0)), .int v2, .int v4])) (st := [.int v3]) (C := C) (hM := c_X0_holds (Gl G) hp0 hR hw) (hlk := wm_22_14) (hini := wm_6_7) (hins := wm_22_15) (hsel := wm_22_16) (hcode := wm_22_17) (ho := kE_8) (hci := rfl) (hc13 := by decide) (n := 3) (hd := by decide +kernel) (hr0 := ⟨rfl, rfl⟩) (hroom := ⟨by first | decide | (dsimp only; omega), by first | decide | (dsimp only; omega)⟩) (hlen := rfl) (hst := rfl) (hW := Nat.le_of_ble_eq_true rfl) (hdg := dX0_weigh_30) (q := 33) (hq := rfl) (fun r30_4 S30_3 hw hR => ?_)
      refine Go_if_eq (t := 43) (q := 36) C hw dX0_weigh_33 rfl rfl (fun hw => ?_) (fun hw => ?_)
      · refine Go_iconst (q := 44) (v := (0 : Int32)) C dX0_weigh_43 rfl rfl ?_
        refine Go_lvp [0, 1, 2, 4] rfl ?_
        exact g_X0_weigh_44 C hQ p0 hp0 _ _ _ _ hk15 hR hw
      · refine Go_iconst (q := 37) (v := (1 : Int32)) C dX0_weigh_36 rfl rfl ?_
        refine Go_iload (q := 39) C 4 rfl dX0_weigh_37 rfl ?_
        refine Go_ishl (q := 40) C dX0_weigh_39 rfl ?_
        refine Go_goto (q := 44) C dX0_weigh_40 rfl ?_
        refine Go_lvp [0, 1, 2, 4] rfl ?_
        exact g_X0_weigh_44 C hQ p0 hp0 _ _ _ _ hk15 hR hw
set_option maxRecDepth 100000 in
set_option maxHeartbeats 4000000 in
theorem g_X0_weigh_2 {G : GC} (C : Cx G cX0_weigh BIG RX0 5 none rm_X0_weigh shE NE) {Q : St → Prop} (hQ : QV G RCE Q) (p0 : Nat) (hp0 : isE4 p0) (v2 : Int32) {S : St} (hR : RCE S) (hw : w_X0_weigh_2 p0 Q v2 S) : Go G 5 2 [] [(0, .ref (Gad G (8))), (1, .ref (Gad G (p0))), (2, .int v2)] S := by
  obtain ⟨n, hw⟩ := hw
  induction n generalizing v2 S with
  | zero => exact hw.elim
  | succ n ih =>
    have hw : b_X0_weigh_2 p0 Q (lpn (fun _ _ => False) (b_X0_weigh_2 p0 Q) n) v2 S := hw
    generalize lpn (fun _ _ => False) (b_X0_weigh_2 p0 Q) n = kf at hw ih
    have hk2 := fun (v2 : Int32) (S : St) (hR : RCE S) hw => ih v2 hR hw
    unfold b_X0_weigh_2 at hw
    refine Go_iload_n (q := 3) C 2 rfl dX0_weigh_2 rfl ?_
    refine Go_aload_n (q := 4) C 1 rfl dX0_weigh_3 rfl ?_
    refine Go_getIN (q := 7) (k := 5) (host := "EndsRound") C ci4 iw_4 (oE4 hp0) rfl nw_19 rfl dX0_weigh_4 rfl ?_
    refine Go_icmp_ge (t := 67) (q := 10) C hw dX0_weigh_7 rfl rfl (fun hw => ?_) (fun hw => ?_)
    · exact Go_vret C hQ hR hw dX0_weigh_67
    · refine Go_iconst (q := 11) (v := (0 : Int32)) C dX0_weigh_10 rfl rfl ?_
      refine Go_istore_n (q := 12) (lv' := [(3, .int (0 : Int32)), (0, .ref (Gad G (8))), (1, .ref (Gad G (p0))), (2, .int v2)]) C rfl dX0_weigh_11 (by decide) rfl rfl ?_
      refine Go_iconst (q := 13) (v := (0 : Int32)) C dX0_weigh_12 rfl rfl ?_
      refine Go_istore (q := 15) (lv' := [(4, .int (0 : Int32)), (3, .int (0 : Int32)), (0, .ref (Gad G (8))), (1, .ref (Gad G (p0))), (2, .int v2)]) C dX0_weigh_13 (by decide) rfl rfl ?_
      refine Go_lvp [2, 3, 4, 1, 0] rfl ?_
      exact g_X0_weigh_15 C hQ p0 hp0 _ hk2 _ _ hR hw
set_option maxRecDepth 100000 in
set_option maxHeartbeats 4000000 in
theorem c_X0_weigh (l : Launch) {p0 : Nat} (hp0 : isE4 p0) {S : St} {Q : St → Prop} (hR : RCE S) (hw : w_X0_weigh p0 S Q) : MetV l yX0_weigh (wB yX0_weigh cX0_weigh 5 none) rm_X0_weigh shE NE RCE (fun ad => [.ref (ad (8)), .ref (ad (p0))]) S Q := by
  refine MetV_of (cc := cX0_weigh) (maxL := 5) (ret := none) (plainFor_of_name (by decide)) (fun _ => Nat.le_of_ble_eq_true rfl) (fun G C hl hQ => ?_)
  subst hl
  have C : Cx G cX0_weigh BIG RX0 5 none rm_X0_weigh shE NE := C
  show Go G 5 0 [] [(0, .ref (Gad G (8))), (1, .ref (Gad G (p0)))] S
  unfold w_X0_weigh at hw
  refine Go_iconst (q := 1) (v := (0 : Int32)) C dX0_weigh_0 rfl rfl ?_
  refine Go_istore_n (q := 2) (lv' := [(2, .int (0 : Int32)), (0, .ref (Gad G (8))), (1, .ref (Gad G (p0)))]) C rfl dX0_weigh_1 (by decide) rfl rfl ?_
  refine Go_lvp [1, 2, 0] rfl ?_
  exact g_X0_weigh_2 C hQ p0 hp0 _ hR hw
-- X8_read
abbrev rm_X8_read : Room := { frames := 520, cells := 0, slots := 0, locals := 22577 }
set_option maxRecDepth 100000 in
set_option maxHeartbeats 4000000 in
theorem g_X8_read_138 {G : GC} (C : Cx G cX8_read BIG RX8 3 (some .int) rm_X8_read shE NE) {Q : Int32 → St → Prop} (hQ : QI G RCE Q) (v1 : Int32) {S : St} (hR : RCE S) (hw : w_X8_read_138 Q v1 S) : Go G 3 138 [] [(0, .ref (Gad G (7))), (1, .int v1)] S := by
  unfold w_X8_read_138 at hw
  refine Go_iload_n (q := 139) C 1 rfl dX8_read_138 rfl ?_
  refine Go_if_eq (t := 153) (q := 142) C hw dX8_read_139 rfl rfl (fun hw => ?_) (fun hw => ?_)
  · refine Go_aload_n (q := 154) C 0 rfl dX8_read_153 rfl ?_
    refine Go_getI (q := 157) (k := 8) C ci8 iw_8 kE_7 rfl wm_16_1 rfl dX8_read_154 rfl ?_
    exact Go_iret C hQ hR hw dX8_read_157
  · refine Go_aload_n (q := 143) C 0 rfl dX8_read_142 rfl ?_
    refine Go_getA (q := 146) (k := 1) C ci8 iw_8 kE_7 (rE_7_1 hR) rfl wm_6_8 rfl dX8_read_143 rfl ?_
    refine Go_aload_n (q := 147) C 0 rfl dX8_read_146 rfl ?_
    refine Go_getA (q := 150) (k := 2) C ci8 iw_8 kE_7 (rE_7_2 hR) rfl wm_6_10 rfl dX8_read_147 rfl ?_
    refine Go_callV_V (av := (fun ad => [.ref (ad (11))])) (st := []) (C := C) (hM := c_X0_weigh (Gl G) isE4_11 hR hw) (hlk := wm_22_10) (hini := wm_6_7) (hins := wm_22_11) (hsel := wm_22_12) (hcode := wm_22_13) (ho := kE_8) (hci := rfl) (hc13 := by decide) (n := 1) (hd := by decide +kernel) (hr0 := ⟨rfl, rfl⟩) (hroom := ⟨by first | decide | (dsimp only; omega), by first | decide | (dsimp only; omega)⟩) (hlen := rfl) (hst := rfl) (hW := Nat.le_of_ble_eq_true rfl) (hdg := dX8_read_150) (q := 153) (hq := rfl) (fun S150_8 hw hR => ?_)
    refine Go_aload_n (q := 154) C 0 rfl dX8_read_153 rfl ?_
    refine Go_getI (q := 157) (k := 8) C ci8 iw_8 kE_7 rfl wm_16_1 rfl dX8_read_154 rfl ?_
    exact Go_iret C hQ hR hw dX8_read_157
set_option maxRecDepth 100000 in
set_option maxHeartbeats 4000000 in
theorem g_X8_read_131 {G : GC} (C : Cx G cX8_read BIG RX8 3 (some .int) rm_X8_read shE NE) {Q : Int32 → St → Prop} (hQ : QI G RCE Q) (v2 : Int32) (t0 : Int32) {k92 : Int32 → Int32 → St → Prop} (hk92 : ∀ (v1 : Int32) (v2 : Int32) (S : St), RCE S → k92 v1 v2 S → Go G 3 92 [] [(0, .ref (Gad G (7))), (1, .int v1), (2, .int v2)] S) {S : St} (hR : RCE S) (hw : w_X8_read_131 k92 v2 t0 S) : Go G 3 131 [.int t0] [(0, .ref (Gad G (7))), (2, .int v2)] S := by
  unfold w_X8_read_131 at hw
  refine Go_istore_n (q := 132) (lv' := [(1, .int t0), (0, .ref (Gad G (7))), (2, .int v2)]) C rfl dX8_read_131 (by decide) rfl rfl ?_
  refine Go_iinc2 (q := 135) (kp := 2) (cst := (1 : Int32)) C dX8_read_132 rfl rfl (by decide) rfl (fun x132_11 e_x132_11 => ?_)
  have hw := hw x132_11 e_x132_11
  refine Go_lve (lv' := [(2, .int x132_11), (1, .int t0), (0, .ref (Gad G (7)))]) rfl ?_
  refine Go_goto (q := 92) C dX8_read_135 rfl ?_
  refine Go_lvp [2, 1, 0] rfl ?_
  exact hk92 _ _ _ hR hw
set_option maxRecDepth 100000 in
set_option maxHeartbeats 4000000 in
theorem g_X8_read_130 {G : GC} (C : Cx G cX8_read BIG RX8 3 (some .int) rm_X8_read shE NE) {Q : Int32 → St → Prop} (hQ : QI G RCE Q) (v2 : Int32) {k92 : Int32 → Int32 → St → Prop} (hk92 : ∀ (v1 : Int32) (v2 : Int32) (S : St), RCE S → k92 v1 v2 S → Go G 3 92 [] [(0, .ref (Gad G (7))), (1, .int v1), (2, .int v2)] S) {S : St} (hR : RCE S) (hw : w_X8_read_130 k92 v2 S) : Go G 3 130 [] [(0, .ref (Gad G (7))), (2, .int v2)] S := by
  unfold w_X8_read_130 at hw
  refine Go_iconst (q := 131) (v := (0 : Int32)) C dX8_read_130 rfl rfl ?_
  refine Go_lvp [0, 1] rfl ?_
  exact g_X8_read_131 C hQ _ _ hk92 hR hw
set_option maxRecDepth 100000 in
set_option maxHeartbeats 4000000 in
theorem g_X8_read_92 {G : GC} (C : Cx G cX8_read BIG RX8 3 (some .int) rm_X8_read shE NE) {Q : Int32 → St → Prop} (hQ : QI G RCE Q) (v1 : Int32) (v2 : Int32) {S : St} (hR : RCE S) (hw : w_X8_read_92 Q v1 v2 S) : Go G 3 92 [] [(0, .ref (Gad G (7))), (1, .int v1), (2, .int v2)] S := by
  obtain ⟨n, hw⟩ := hw
  induction n generalizing v1 v2 S with
  | zero => exact hw.elim
  | succ n ih =>
    have hw : b_X8_read_92 Q (lpn (fun _ _ _ => False) (b_X8_read_92 Q) n) v1 v2 S := hw
    generalize lpn (fun _ _ _ => False) (b_X8_read_92 Q) n = kf at hw ih
    have hk92 := fun (v1 : Int32) (v2 : Int32) (S : St) (hR : RCE S) hw => ih v1 v2 hR hw
    unfold b_X8_read_92 at hw
    refine Go_iload_n (q := 93) C 2 rfl dX8_read_92 rfl ?_
    refine Go_sipush (q := 96) (v := (1000 : Int32)) C dX8_read_93 rfl rfl ?_
    refine Go_icmp_ge (t := 138) (q := 99) C hw dX8_read_96 rfl rfl (fun hw => ?_) (fun hw => ?_)
    · refine Go_lvp [0, 1] rfl ?_
      exact g_X8_read_138 C hQ _ hR hw
    · refine Go_iload_n (q := 100) C 1 rfl dX8_read_99 rfl ?_
      refine Go_if_eq (t := 138) (q := 103) C hw dX8_read_100 rfl rfl (fun hw => ?_) (fun hw => ?_)
      · refine Go_lvp [0, 1] rfl ?_
        exact g_X8_read_138 C hQ _ hR hw
      · refine Go_aload_n (q := 104) C 0 rfl dX8_read_103 rfl ?_
        refine Go_getI (q := 107) (k := 5) C ci8 iw_8 kE_7 rfl wm_16_3 rfl dX8_read_104 rfl ?_
        refine Go_if_eq (t := 138) (q := 110) C hw dX8_read_107 rfl rfl (fun hw => ?_) (fun hw => ?_)
        · refine Go_lvp [0, 1] rfl ?_
          exact g_X8_read_138 C hQ _ hR hw
        · refine Go_aload_n (q := 111) C 0 rfl dX8_read_110 rfl ?_
          refine Go_callV_I (av := (fun ad => [])) (st := []) (C := C) (hM := c_X8_readLine (Gl G) hR hw) (hlk := wm_18_15) (hini := wm_1_20) (hins := wm_18_16) (hsel := wm_18_17) (hcode := wm_18_18) (ho := kE_7) (hci := rfl) (hc13 := by decide) (n := 0) (hd := by decide +kernel) (hr0 := ⟨rfl, rfl⟩) (hroom := ⟨by first | decide | (dsimp only; omega), by first | decide | (dsimp only; omega)⟩) (hlen := rfl) (hst := rfl) (hW := Nat.le_of_ble_eq_true rfl) (hdg := dX8_read_111) (q := 114) (hq := rfl) (fun r111_10 S111_9 hw hR => ?_)
          refine Go_if_eq (t := 130) (q := 117) C hw dX8_read_114 rfl rfl (fun hw => ?_) (fun hw => ?_)
          · refine Go_lvp [0, 2] rfl ?_
            exact g_X8_read_130 C hQ _ hk92 hR hw
          · refine Go_aload_n (q := 118) C 0 rfl dX8_read_117 rfl ?_
            refine Go_bipush (q := 120) (v := (59 : Int32)) C dX8_read_118 rfl rfl ?_
            refine Go_callV_I (av := (fun ad => [.int (59 : Int32)])) (st := []) (C := C) (hM := c_X8_takeKey (Gl G) hR hw) (hlk := wm_18_2) (hini := wm_1_20) (hins := wm_18_3) (hsel := wm_18_4) (hcode := wm_18_5) (ho := kE_7) (hci := rfl) (hc13 := by decide) (n := 1) (hd := by decide +kernel) (hr0 := ⟨rfl, rfl⟩) (hroom := ⟨by first | decide | (dsimp only; omega), by first | decide | (dsimp only; omega)⟩) (hlen := rfl) (hst := rfl) (hW := Nat.le_of_ble_eq_true rfl) (hdg := dX8_read_120) (q := 123) (hq := rfl) (fun r120_13 S120_12 hw hR => ?_)
            refine Go_if_eq (t := 130) (q := 126) C hw dX8_read_123 rfl rfl (fun hw => ?_) (fun hw => ?_)
            · refine Go_lvp [0, 2] rfl ?_
              exact g_X8_read_130 C hQ _ hk92 hR hw
            · refine Go_iconst (q := 127) (v := (1 : Int32)) C dX8_read_126 rfl rfl ?_
              refine Go_goto (q := 131) C dX8_read_127 rfl ?_
              refine Go_lvp [0, 2] rfl ?_
              exact g_X8_read_131 C hQ _ _ hk92 hR hw
set_option maxRecDepth 100000 in
set_option maxHeartbeats 4000000 in
theorem g_X8_read_89 {G : GC} (C : Cx G cX8_read BIG RX8 3 (some .int) rm_X8_read shE NE) {Q : Int32 → St → Prop} (hQ : QI G RCE Q) (t0 : Int32) {S : St} (hR : RCE S) (hw : w_X8_read_89 Q t0 S) : Go G 3 89 [.int t0] [(0, .ref (Gad G (7)))] S := by
  unfold w_X8_read_89 at hw
  refine Go_istore_n (q := 90) (lv' := [(1, .int t0), (0, .ref (Gad G (7)))]) C rfl dX8_read_89 (by decide) rfl rfl ?_
  refine Go_iconst (q := 91) (v := (0 : Int32)) C dX8_read_90 rfl rfl ?_
  refine Go_istore_n (q := 92) (lv' := [(2, .int (0 : Int32)), (1, .int t0), (0, .ref (Gad G (7)))]) C rfl dX8_read_91 (by decide) rfl rfl ?_
  refine Go_lvp [2, 1, 0] rfl ?_
  exact g_X8_read_92 C hQ _ _ hR hw
set_option maxRecDepth 100000 in
set_option maxHeartbeats 4000000 in
theorem g_X8_read_88 {G : GC} (C : Cx G cX8_read BIG RX8 3 (some .int) rm_X8_read shE NE) {Q : Int32 → St → Prop} (hQ : QI G RCE Q) {S : St} (hR : RCE S) (hw : w_X8_read_88 Q S) : Go G 3 88 [] [(0, .ref (Gad G (7)))] S := by
  unfold w_X8_read_88 at hw
  refine Go_iconst (q := 89) (v := (0 : Int32)) C dX8_read_88 rfl rfl ?_
  refine Go_lvp [0] rfl ?_
  exact g_X8_read_89 C hQ _ hR hw
set_option maxRecDepth 100000 in
set_option maxHeartbeats 4000000 in
theorem g_X8_read_68 {G : GC} (C : Cx G cX8_read BIG RX8 3 (some .int) rm_X8_read shE NE) {Q : Int32 → St → Prop} (hQ : QI G RCE Q) (v1 : Int32) (t0 : Int32) {S : St} (hR : RCE S) (hw : w_X8_read_68 Q v1 t0 S) : Go G 3 68 [.int t0, .ref (Gad G (11))] [(0, .ref (Gad G (7))), (1, .int v1)] S := by
  unfold w_X8_read_68 at hw
  refine Go_callV_V (av := (fun ad => [.int t0])) (st := []) (C := C) (hM := c_X4_begin (Gl G) isE4_11 hR hw) (hlk := wm_18_14) (hini := wm_2_0) (hins := wm_10_1) (hsel := wm_10_2) (hcode := wm_10_3) (ho := kE_11) (hci := rfl) (hc13 := by decide) (n := 1) (hd := by decide +kernel) (hr0 := ⟨rfl, rfl⟩) (hroom := ⟨by first | decide | (dsimp only; omega), by first | decide | (dsimp only; omega)⟩) (hlen := rfl) (hst := rfl) (hW := Nat.le_of_ble_eq_true rfl) (hdg := dX8_read_68) (q := 71) (hq := rfl) (fun S68_7 hw hR => ?_)
  refine Go_iload_n (q := 72) C 1 rfl dX8_read_71 rfl ?_
  refine Go_if_eq (t := 88) (q := 75) C hw dX8_read_72 rfl rfl (fun hw => ?_) (fun hw => ?_)
  · refine Go_lvp [0] rfl ?_
    exact g_X8_read_88 C hQ hR hw
  · refine Go_aload_n (q := 76) C 0 rfl dX8_read_75 rfl ?_
    refine Go_bipush (q := 78) (v := (59 : Int32)) C dX8_read_76 rfl rfl ?_
    refine Go_callV_I (av := (fun ad => [.int (59 : Int32)])) (st := []) (C := C) (hM := c_X8_takeKey (Gl G) hR hw) (hlk := wm_18_2) (hini := wm_1_20) (hins := wm_18_3) (hsel := wm_18_4) (hcode := wm_18_5) (ho := kE_7) (hci := rfl) (hc13 := by decide) (n := 1) (hd := by decide +kernel) (hr0 := ⟨rfl, rfl⟩) (hroom := ⟨by first | decide | (dsimp only; omega), by first | decide | (dsimp only; omega)⟩) (hlen := rfl) (hst := rfl) (hW := Nat.le_of_ble_eq_true rfl) (hdg := dX8_read_78) (q := 81) (hq := rfl) (fun r78_15 S78_14 hw hR => ?_)
    refine Go_if_eq (t := 88) (q := 84) C hw dX8_read_81 rfl rfl (fun hw => ?_) (fun hw => ?_)
    · refine Go_lvp [0] rfl ?_
      exact g_X8_read_88 C hQ hR hw
    · refine Go_iconst (q := 85) (v := (1 : Int32)) C dX8_read_84 rfl rfl ?_
      refine Go_goto (q := 89) C dX8_read_85 rfl ?_
      refine Go_lvp [0] rfl ?_
      exact g_X8_read_89 C hQ _ hR hw
set_option maxRecDepth 100000 in
set_option maxHeartbeats 4000000 in
theorem g_X8_read_51 {G : GC} (C : Cx G cX8_read BIG RX8 3 (some .int) rm_X8_read shE NE) {Q : Int32 → St → Prop} (hQ : QI G RCE Q) (t0 : Int32) {S : St} (hR : RCE S) (hw : w_X8_read_51 Q t0 S) : Go G 3 51 [.int t0] [(0, .ref (Gad G (7)))] S := by
  unfold w_X8_read_51 at hw
  refine Go_istore_n (q := 52) (lv' := [(1, .int t0), (0, .ref (Gad G (7)))]) C rfl dX8_read_51 (by decide) rfl rfl ?_
  refine Go_aload_n (q := 53) C 1 rfl dX8_read_52 rfl ?_
  refine Go_getA (q := 56) (k := 2) C ci8 iw_8 kE_7 (rE_7_2 hR) rfl wm_6_10 rfl dX8_read_53 rfl ?_
  refine Go_iload_n (q := 57) C 0 rfl dX8_read_56 rfl ?_
  refine Go_if_eq (t := 67) (q := 60) C hw dX8_read_57 rfl rfl (fun hw => ?_) (fun hw => ?_)
  · refine Go_iconst (q := 68) (v := (1 : Int32)) C dX8_read_67 rfl rfl ?_
    refine Go_lvp [1, 0] rfl ?_
    exact g_X8_read_68 C hQ _ _ hR hw
  · refine Go_aload_n (q := 61) C 1 rfl dX8_read_60 rfl ?_
    refine Go_getI (q := 64) (k := 7) C ci8 iw_8 kE_7 rfl wm_16_2 rfl dX8_read_61 rfl ?_
    refine Go_goto (q := 68) C dX8_read_64 rfl ?_
    refine Go_lvp [1, 0] rfl ?_
    exact g_X8_read_68 C hQ _ _ hR hw
set_option maxRecDepth 100000 in
set_option maxHeartbeats 4000000 in
theorem g_X8_read_50 {G : GC} (C : Cx G cX8_read BIG RX8 3 (some .int) rm_X8_read shE NE) {Q : Int32 → St → Prop} (hQ : QI G RCE Q) {S : St} (hR : RCE S) (hw : w_X8_read_50 Q S) : Go G 3 50 [] [(0, .ref (Gad G (7)))] S := by
  unfold w_X8_read_50 at hw
  refine Go_iconst (q := 51) (v := (0 : Int32)) C dX8_read_50 rfl rfl ?_
  refine Go_lvp [0] rfl ?_
  exact g_X8_read_51 C hQ _ hR hw
set_option maxRecDepth 100000 in
set_option maxHeartbeats 4000000 in
theorem c_X8_read (l : Launch) {S : St} {Q : Int32 → St → Prop} (hR : RCE S) (hw : w_X8_read S Q) : MetI l yX8_read (wB yX8_read cX8_read 3 (some .int)) rm_X8_read shE NE RCE (fun ad => [.ref (ad (7))]) S Q := by
  refine MetI_of (cc := cX8_read) (maxL := 3) (ret := (some .int)) (plainFor_of_name (by decide)) (fun _ => Nat.le_of_ble_eq_true rfl) (fun G C hl hQ => ?_)
  subst hl
  have C : Cx G cX8_read BIG RX8 3 (some .int) rm_X8_read shE NE := C
  show Go G 3 0 [] [(0, .ref (Gad G (7)))] S
  unfold w_X8_read at hw
  refine Go_aload_n (q := 1) C 0 rfl dX8_read_0 rfl ?_
  refine Go_getA (q := 4) (k := 0) C ci8 iw_8 kE_7 (rE_7_0 hR) rfl wm_6_12 rfl dX8_read_1 rfl ?_
  refine Go_callV_V (av := (fun ad => [])) (st := []) (C := C) (hM := c_X10_cut (Gl G)  hR hw) (hlk := wm_16_4) (hini := wm_1_16) (hins := wm_16_5) (hsel := wm_16_6) (hcode := wm_16_7) (ho := kE_1) (hci := rfl) (hc13 := by decide) (n := 0) (hd := by decide +kernel) (hr0 := ⟨rfl, rfl⟩) (hroom := ⟨by first | decide | (dsimp only; omega), by first | decide | (dsimp only; omega)⟩) (hlen := rfl) (hst := rfl) (hW := Nat.le_of_ble_eq_true rfl) (hdg := dX8_read_4) (q := 7) (hq := rfl) (fun S4_1 hw hR => ?_)
  refine Go_aload_n (q := 8) C 0 rfl dX8_read_7 rfl ?_
  refine Go_iconst (q := 9) (v := (0 : Int32)) C dX8_read_8 rfl rfl ?_
  refine Go_putI (q := 12) (k := 8) C ci8 iw_8 kE_7 rfl wm_16_1 rfl rfl (ci8.2.2.2.1 8 (by decide)) rfl rfl dX8_read_9 rfl ?_
  refine Go_S (fun S9_2 e_S9_2 => ?_)
  have hw := hw S9_2 e_S9_2
  have hR := rcE e_S9_2 hR
  refine Go_aload_n (q := 13) C 0 rfl dX8_read_12 rfl ?_
  refine Go_getA (q := 16) (k := 1) C ci8 iw_8 kE_7 (rE_7_1 hR) rfl wm_6_8 rfl dX8_read_13 rfl ?_
  refine Go_iconst (q := 17) (v := (0 : Int32)) C dX8_read_16 rfl rfl ?_
  refine Go_putIN (q := 20) (k := 1) (host := "EndsRound") C ci0 iw_0 kE_8 rfl nw_5 rfl rfl (ci0.2.2.2.1 1 (by decide)) rfl rfl dX8_read_17 rfl ?_
  refine Go_S (fun S17_3 e_S17_3 => ?_)
  have hw := hw S17_3 e_S17_3
  have hR := rcE e_S17_3 hR
  refine Go_aload_n (q := 21) C 0 rfl dX8_read_20 rfl ?_
  refine Go_iconst (q := 22) (v := (0 : Int32)) C dX8_read_21 rfl rfl ?_
  refine Go_callV_V (av := (fun ad => [.int (0 : Int32)])) (st := []) (C := C) (hM := c_X8_holdToken (Gl G)  hR hw) (hlk := wm_17_20) (hini := wm_1_20) (hins := wm_17_21) (hsel := wm_17_22) (hcode := wm_17_23) (ho := kE_7) (hci := rfl) (hc13 := by decide) (n := 1) (hd := by decide +kernel) (hr0 := ⟨rfl, rfl⟩) (hroom := ⟨by first | decide | (dsimp only; omega), by first | decide | (dsimp only; omega)⟩) (hlen := rfl) (hst := rfl) (hW := Nat.le_of_ble_eq_true rfl) (hdg := dX8_read_22) (q := 25) (hq := rfl) (fun S22_4 hw hR => ?_)
  refine Go_aload_n (q := 26) C 0 rfl dX8_read_25 rfl ?_
  refine Go_sipush (q := 29) (v := (128 : Int32)) C dX8_read_26 rfl rfl ?_
  refine Go_callV_I (av := (fun ad => [.int (128 : Int32)])) (st := []) (C := C) (hM := c_X8_takeKey (Gl G)  hR hw) (hlk := wm_18_2) (hini := wm_1_20) (hins := wm_18_3) (hsel := wm_18_4) (hcode := wm_18_5) (ho := kE_7) (hci := rfl) (hc13 := by decide) (n := 1) (hd := by decide +kernel) (hr0 := ⟨rfl, rfl⟩) (hroom := ⟨by first | decide | (dsimp only; omega), by first | decide | (dsimp only; omega)⟩) (hlen := rfl) (hst := rfl) (hW := Nat.le_of_ble_eq_true rfl) (hdg := dX8_read_29) (q := 32) (hq := rfl) (fun r29_6 S29_5 hw hR => ?_)
  refine Go_if_eq (t := 50) (q := 35) C hw dX8_read_32 rfl rfl (fun hw => ?_) (fun hw => ?_)
  · refine Go_lvp [0] rfl ?_
    exact g_X8_read_50 C hQ hR hw
  · refine Go_aload_n (q := 36) C 0 rfl dX8_read_35 rfl ?_
    refine Go_iconst (q := 37) (v := (1 : Int32)) C dX8_read_36 rfl rfl ?_
    refine Go_bipush (q := 39) (v := (12 : Int32)) C dX8_read_37 rfl rfl ?_
    refine Go_iconst (q := 40) (v := (-1 : Int32)) C dX8_read_39 rfl rfl ?_
    refine Go_callV_I (av := (fun ad => [.int (1 : Int32), .int (12 : Int32), .int (-1 : Int32)])) (st := []) (C := C) (hM := c_X8_takeNumber (Gl G)  hR hw) (hlk := wm_18_10) (hini := wm_1_20) (hins := wm_18_11) (hsel := wm_18_12) (hcode := wm_18_13) (ho := kE_7) (hci := rfl) (hc13 := by decide) (n := 3) (hd := by decide +kernel) (hr0 := ⟨rfl, rfl⟩) (hroom := ⟨by first | decide | (dsimp only; omega), by first | decide | (dsimp only; omega)⟩) (hlen := rfl) (hst := rfl) (hW := Nat.le_of_ble_eq_true rfl) (hdg := dX8_read_40) (q := 43) (hq := rfl) (fun r40_17 S40_16 hw hR => ?_)
    refine Go_if_eq (t := 50) (q := 46) C hw dX8_read_43 rfl rfl (fun hw => ?_) (fun hw => ?_)
    · refine Go_lvp [0] rfl ?_
      exact g_X8_read_50 C hQ hR hw
    · refine Go_iconst (q := 47) (v := (1 : Int32)) C dX8_read_46 rfl rfl ?_
      refine Go_goto (q := 51) C dX8_read_47 rfl ?_
      refine Go_lvp [0] rfl ?_
      exact g_X8_read_51 C hQ _ hR hw
-- X4_copy
abbrev rm_X4_copy : Room := { frames := 1, cells := 0, slots := 0, locals := 22 }
set_option maxRecDepth 100000 in
set_option maxHeartbeats 4000000 in
theorem c_X4_copy (l : Launch) {o : Nat} (ho : isE4 o) {p0 : Nat} (hp0 : isE4 p0) {S : St} {Q : St → Prop} (hR : RCE S) (hw : w_X4_copy o p0 S Q) : MetV l yX4_copy (wB yX4_copy cX4_copy 2 none) rm_X4_copy shE NE RCE (fun ad => [.ref (ad (o)), .ref (ad (p0))]) S Q := by
  refine MetV_of (cc := cX4_copy) (maxL := 2) (ret := none) (plainFor_of_name (by decide)) (fun _ => Nat.le_of_ble_eq_true rfl) (fun G C hl hQ => ?_)
  subst hl
  have C : Cx G cX4_copy BIG RX4 2 none rm_X4_copy shE NE := C
  show Go G 2 0 [] [(0, .ref (Gad G (o))), (1, .ref (Gad G (p0)))] S
  unfold w_X4_copy at hw
  refine Go_aload_n (q := 1) C 0 rfl dX4_copy_0 rfl ?_
  refine Go_aload_n (q := 2) C 1 rfl dX4_copy_1 rfl ?_
  refine Go_getI (q := 5) (k := 0) C ci4 iw_4 (oE4 hp0) rfl wm_10_4 rfl dX4_copy_2 rfl ?_
  refine Go_putI (q := 8) (k := 0) C ci4 iw_4 (oE4 ho) rfl wm_10_4 rfl rfl (ci4.2.2.2.1 0 (by decide)) rfl rfl dX4_copy_5 rfl ?_
  refine Go_S (fun S5_1 e_S5_1 => ?_)
  have hw := hw S5_1 e_S5_1
  have hR := rcE e_S5_1 hR
  refine Go_aload_n (q := 9) C 0 rfl dX4_copy_8 rfl ?_
  refine Go_aload_n (q := 10) C 1 rfl dX4_copy_9 rfl ?_
  refine Go_getI (q := 13) (k := 1) C ci4 iw_4 (oE4 hp0) rfl wm_10_5 rfl dX4_copy_10 rfl ?_
  refine Go_putI (q := 16) (k := 1) C ci4 iw_4 (oE4 ho) rfl wm_10_5 rfl rfl (ci4.2.2.2.1 1 (by decide)) rfl rfl dX4_copy_13 rfl ?_
  refine Go_S (fun S13_2 e_S13_2 => ?_)
  have hw := hw S13_2 e_S13_2
  have hR := rcE e_S13_2 hR
  refine Go_aload_n (q := 17) C 0 rfl dX4_copy_16 rfl ?_
  refine Go_aload_n (q := 18) C 1 rfl dX4_copy_17 rfl ?_
  refine Go_getI (q := 21) (k := 2) C ci4 iw_4 (oE4 hp0) rfl wm_10_6 rfl dX4_copy_18 rfl ?_
  refine Go_putI (q := 24) (k := 2) C ci4 iw_4 (oE4 ho) rfl wm_10_6 rfl rfl (ci4.2.2.2.1 2 (by decide)) rfl rfl dX4_copy_21 rfl ?_
  refine Go_S (fun S21_3 e_S21_3 => ?_)
  have hw := hw S21_3 e_S21_3
  have hR := rcE e_S21_3 hR
  refine Go_aload_n (q := 25) C 0 rfl dX4_copy_24 rfl ?_
  refine Go_aload_n (q := 26) C 1 rfl dX4_copy_25 rfl ?_
  refine Go_getI (q := 29) (k := 3) C ci4 iw_4 (oE4 hp0) rfl wm_10_7 rfl dX4_copy_26 rfl ?_
  refine Go_putI (q := 32) (k := 3) C ci4 iw_4 (oE4 ho) rfl wm_10_7 rfl rfl (ci4.2.2.2.1 3 (by decide)) rfl rfl dX4_copy_29 rfl ?_
  refine Go_S (fun S29_4 e_S29_4 => ?_)
  have hw := hw S29_4 e_S29_4
  have hR := rcE e_S29_4 hR
  refine Go_aload_n (q := 33) C 0 rfl dX4_copy_32 rfl ?_
  refine Go_aload_n (q := 34) C 1 rfl dX4_copy_33 rfl ?_
  refine Go_getI (q := 37) (k := 4) C ci4 iw_4 (oE4 hp0) rfl wm_10_8 rfl dX4_copy_34 rfl ?_
  refine Go_putI (q := 40) (k := 4) C ci4 iw_4 (oE4 ho) rfl wm_10_8 rfl rfl (ci4.2.2.2.1 4 (by decide)) rfl rfl dX4_copy_37 rfl ?_
  refine Go_S (fun S37_5 e_S37_5 => ?_)
  have hw := hw S37_5 e_S37_5
  have hR := rcE e_S37_5 hR
  refine Go_aload_n (q := 41) C 0 rfl dX4_copy_40 rfl ?_
  refine Go_aload_n (q := 42) C 1 rfl dX4_copy_41 rfl ?_
  refine Go_getI (q := 45) (k := 5) C ci4 iw_4 (oE4 hp0) rfl wm_10_9 rfl dX4_copy_42 rfl ?_
  refine Go_putI (q := 48) (k := 5) C ci4 iw_4 (oE4 ho) rfl wm_10_9 rfl rfl (ci4.2.2.2.1 5 (by decide)) rfl rfl dX4_copy_45 rfl ?_
  refine Go_S (fun S45_6 e_S45_6 => ?_)
  have hw := hw S45_6 e_S45_6
  have hR := rcE e_S45_6 hR
  refine Go_aload_n (q := 49) C 0 rfl dX4_copy_48 rfl ?_
  refine Go_aload_n (q := 50) C 1 rfl dX4_copy_49 rfl ?_
  refine Go_getI (q := 53) (k := 6) C ci4 iw_4 (oE4 hp0) rfl wm_10_10 rfl dX4_copy_50 rfl ?_
  refine Go_putI (q := 56) (k := 6) C ci4 iw_4 (oE4 ho) rfl wm_10_10 rfl rfl (ci4.2.2.2.1 6 (by decide)) rfl rfl dX4_copy_53 rfl ?_
  refine Go_S (fun S53_7 e_S53_7 => ?_)
  have hw := hw S53_7 e_S53_7
  have hR := rcE e_S53_7 hR
  refine Go_aload_n (q := 57) C 1 rfl dX4_copy_56 rfl ?_
  refine Go_getA (q := 60) (k := 7) C ci4 iw_4 (oE4 hp0) (rE4_7 hR hp0) rfl wm_6_21 rfl dX4_copy_57 rfl ?_
  refine Go_aload_n (q := 61) C 0 rfl dX4_copy_60 rfl ?_
  refine Go_getA (q := 64) (k := 7) C ci4 iw_4 (oE4 ho) (rE4_7 hR ho) rfl wm_6_21 rfl dX4_copy_61 rfl ?_
  refine Go_callSN_V (av := (fun ad => [.ref (ad ((p0 + 1))), .ref (ad ((o + 1)))])) (st := []) (C := C) (hM := c_X11_copyRow (Gl G) (ok_ln (oE4_7 hp0)) (ok_ln (oE4_7 ho)) hR hw) (host := "EndsRound") (hnw := nw_87) (hini := wm_1_2) (hst2 := wm_10_20) (hcode := wm_10_21) (n := 2) (hd := by decide +kernel) (hr0 := ⟨rfl, rfl⟩) (hroom := ⟨by first | decide | (dsimp only; omega), by first | decide | (dsimp only; omega)⟩) (hlen := rfl) (hst := rfl) (hW := Nat.le_of_ble_eq_true rfl) (hdg := dX4_copy_64) (q := 67) (hq := rfl) (fun S64_8 hw hR => ?_)
  refine Go_aload_n (q := 68) C 1 rfl dX4_copy_67 rfl ?_
  refine Go_getA (q := 71) (k := 8) C ci4 iw_4 (oE4 hp0) (rE4_8 hR hp0) rfl wm_6_22 rfl dX4_copy_68 rfl ?_
  refine Go_aload_n (q := 72) C 0 rfl dX4_copy_71 rfl ?_
  refine Go_getA (q := 75) (k := 8) C ci4 iw_4 (oE4 ho) (rE4_8 hR ho) rfl wm_6_22 rfl dX4_copy_72 rfl ?_
  refine Go_callSN_V (av := (fun ad => [.ref (ad ((p0 + 2))), .ref (ad ((o + 2)))])) (st := []) (C := C) (hM := c_X11_copyRow (Gl G) (ok_ln (oE4_8 hp0)) (ok_ln (oE4_8 ho)) hR hw) (host := "EndsRound") (hnw := nw_87) (hini := wm_1_2) (hst2 := wm_10_20) (hcode := wm_10_21) (n := 2) (hd := by decide +kernel) (hr0 := ⟨rfl, rfl⟩) (hroom := ⟨by first | decide | (dsimp only; omega), by first | decide | (dsimp only; omega)⟩) (hlen := rfl) (hst := rfl) (hW := Nat.le_of_ble_eq_true rfl) (hdg := dX4_copy_75) (q := 78) (hq := rfl) (fun S75_9 hw hR => ?_)
  refine Go_aload_n (q := 79) C 1 rfl dX4_copy_78 rfl ?_
  refine Go_getA (q := 82) (k := 9) C ci4 iw_4 (oE4 hp0) (rE4_9 hR hp0) rfl wm_6_23 rfl dX4_copy_79 rfl ?_
  refine Go_aload_n (q := 83) C 0 rfl dX4_copy_82 rfl ?_
  refine Go_getA (q := 86) (k := 9) C ci4 iw_4 (oE4 ho) (rE4_9 hR ho) rfl wm_6_23 rfl dX4_copy_83 rfl ?_
  refine Go_callSN_V (av := (fun ad => [.ref (ad ((p0 + 3))), .ref (ad ((o + 3)))])) (st := []) (C := C) (hM := c_X11_copyRow (Gl G) (ok_ln (oE4_9 hp0)) (ok_ln (oE4_9 ho)) hR hw) (host := "EndsRound") (hnw := nw_87) (hini := wm_1_2) (hst2 := wm_10_20) (hcode := wm_10_21) (n := 2) (hd := by decide +kernel) (hr0 := ⟨rfl, rfl⟩) (hroom := ⟨by first | decide | (dsimp only; omega), by first | decide | (dsimp only; omega)⟩) (hlen := rfl) (hst := rfl) (hW := Nat.le_of_ble_eq_true rfl) (hdg := dX4_copy_86) (q := 89) (hq := rfl) (fun S86_10 hw hR => ?_)
  refine Go_aload_n (q := 90) C 1 rfl dX4_copy_89 rfl ?_
  refine Go_getA (q := 93) (k := 10) C ci4 iw_4 (oE4 hp0) (rE4_10 hR hp0) rfl wm_7_0 rfl dX4_copy_90 rfl ?_
  refine Go_aload_n (q := 94) C 0 rfl dX4_copy_93 rfl ?_
  refine Go_getA (q := 97) (k := 10) C ci4 iw_4 (oE4 ho) (rE4_10 hR ho) rfl wm_7_0 rfl dX4_copy_94 rfl ?_
  refine Go_callSN_V (av := (fun ad => [.ref (ad ((p0 + 4))), .ref (ad ((o + 4)))])) (st := []) (C := C) (hM := c_X11_copyRow (Gl G) (ok_ln (oE4_10 hp0)) (ok_ln (oE4_10 ho)) hR hw) (host := "EndsRound") (hnw := nw_87) (hini := wm_1_2) (hst2 := wm_10_20) (hcode := wm_10_21) (n := 2) (hd := by decide +kernel) (hr0 := ⟨rfl, rfl⟩) (hroom := ⟨by first | decide | (dsimp only; omega), by first | decide | (dsimp only; omega)⟩) (hlen := rfl) (hst := rfl) (hW := Nat.le_of_ble_eq_true rfl) (hdg := dX4_copy_97) (q := 100) (hq := rfl) (fun S97_11 hw hR => ?_)
  refine Go_aload_n (q := 101) C 1 rfl dX4_copy_100 rfl ?_
  refine Go_getA (q := 104) (k := 11) C ci4 iw_4 (oE4 hp0) (rE4_11 hR hp0) rfl wm_7_1 rfl dX4_copy_101 rfl ?_
  refine Go_aload_n (q := 105) C 0 rfl dX4_copy_104 rfl ?_
  refine Go_getA (q := 108) (k := 11) C ci4 iw_4 (oE4 ho) (rE4_11 hR ho) rfl wm_7_1 rfl dX4_copy_105 rfl ?_
  refine Go_callSN_V (av := (fun ad => [.ref (ad ((p0 + 5))), .ref (ad ((o + 5)))])) (st := []) (C := C) (hM := c_X11_copyRow (Gl G) (ok_ln (oE4_11 hp0)) (ok_ln (oE4_11 ho)) hR hw) (host := "EndsRound") (hnw := nw_87) (hini := wm_1_2) (hst2 := wm_10_20) (hcode := wm_10_21) (n := 2) (hd := by decide +kernel) (hr0 := ⟨rfl, rfl⟩) (hroom := ⟨by first | decide | (dsimp only; omega), by first | decide | (dsimp only; omega)⟩) (hlen := rfl) (hst := rfl) (hW := Nat.le_of_ble_eq_true rfl) (hdg := dX4_copy_108) (q := 111) (hq := rfl) (fun S108_12 hw hR => ?_)
  refine Go_aload_n (q := 112) C 1 rfl dX4_copy_111 rfl ?_
  refine Go_getA (q := 115) (k := 12) C ci4 iw_4 (oE4 hp0) (rE4_12 hR hp0) rfl wm_7_2 rfl dX4_copy_112 rfl ?_
  refine Go_aload_n (q := 116) C 0 rfl dX4_copy_115 rfl ?_
  refine Go_getA (q := 119) (k := 12) C ci4 iw_4 (oE4 ho) (rE4_12 hR ho) rfl wm_7_2 rfl dX4_copy_116 rfl ?_
  refine Go_callSN_V (av := (fun ad => [.ref (ad ((p0 + 6))), .ref (ad ((o + 6)))])) (st := []) (C := C) (hM := c_X11_copyRow (Gl G) (ok_ln (oE4_12 hp0)) (ok_ln (oE4_12 ho)) hR hw) (host := "EndsRound") (hnw := nw_87) (hini := wm_1_2) (hst2 := wm_10_20) (hcode := wm_10_21) (n := 2) (hd := by decide +kernel) (hr0 := ⟨rfl, rfl⟩) (hroom := ⟨by first | decide | (dsimp only; omega), by first | decide | (dsimp only; omega)⟩) (hlen := rfl) (hst := rfl) (hW := Nat.le_of_ble_eq_true rfl) (hdg := dX4_copy_119) (q := 122) (hq := rfl) (fun S119_13 hw hR => ?_)
  refine Go_aload_n (q := 123) C 1 rfl dX4_copy_122 rfl ?_
  refine Go_getA (q := 126) (k := 13) C ci4 iw_4 (oE4 hp0) (rE4_13 hR hp0) rfl wm_7_3 rfl dX4_copy_123 rfl ?_
  refine Go_aload_n (q := 127) C 0 rfl dX4_copy_126 rfl ?_
  refine Go_getA (q := 130) (k := 13) C ci4 iw_4 (oE4 ho) (rE4_13 hR ho) rfl wm_7_3 rfl dX4_copy_127 rfl ?_
  refine Go_callSN_V (av := (fun ad => [.ref (ad ((p0 + 7))), .ref (ad ((o + 7)))])) (st := []) (C := C) (hM := c_X11_copyRow (Gl G) (ok_ln (oE4_13 hp0)) (ok_ln (oE4_13 ho)) hR hw) (host := "EndsRound") (hnw := nw_87) (hini := wm_1_2) (hst2 := wm_10_20) (hcode := wm_10_21) (n := 2) (hd := by decide +kernel) (hr0 := ⟨rfl, rfl⟩) (hroom := ⟨by first | decide | (dsimp only; omega), by first | decide | (dsimp only; omega)⟩) (hlen := rfl) (hst := rfl) (hW := Nat.le_of_ble_eq_true rfl) (hdg := dX4_copy_130) (q := 133) (hq := rfl) (fun S130_14 hw hR => ?_)
  exact Go_vret C hQ hR hw dX4_copy_133
-- X1_leastMultiple
abbrev rm_X1_leastMultiple : Room := { frames := 0, cells := 0, slots := 0, locals := 0 }
set_option maxRecDepth 100000 in
set_option maxHeartbeats 4000000 in
theorem g_X1_leastMultiple_44 {G : GC} (C : Cx G cX1_leastMultiple BIG RX1 11 (some .long) rm_X1_leastMultiple shE NE) {Q : Int64 → St → Prop} (hQ : QL G RCE Q) (p0 : Int64) (p1 : Int64) (v4 : Int64) {S : St} (hR : RCE S) (hw : w_X1_leastMultiple_44 p0 p1 Q v4 S) : Go G 11 44 [] [(0, .long p0), (2, .long p1), (4, .long v4)] S := by
  unfold w_X1_leastMultiple_44 at hw
  refine Go_lload (q := 46) C 2 rfl dX1_leastMultiple_44 rfl ?_
  refine Go_lconst (q := 47) (v := (0 : Int64)) C dX1_leastMultiple_46 rfl rfl ?_
  refine Go_lcmp_ne (t := 55) (q := 48) (q2 := 51) C hw dX1_leastMultiple_47 rfl dX1_leastMultiple_48 rfl rfl (fun hw => ?_) (fun hw => ?_)
  · refine Go_lconst (q := 52) (v := (0 : Int64)) C dX1_leastMultiple_51 rfl rfl ?_
    refine Go_goto (q := 61) C dX1_leastMultiple_52 rfl ?_
    exact Go_lret C hQ hR hw dX1_leastMultiple_61
  · refine Go_lload_n (q := 56) C 0 rfl dX1_leastMultiple_55 rfl ?_
    refine Go_lload (q := 58) C 2 rfl dX1_leastMultiple_56 rfl ?_
    obtain ⟨hne, hw⟩ := hw
    refine Go_ldiv (q := 59) C hne dX1_leastMultiple_58 rfl ?_
    refine Go_lload_n (q := 60) C 1 rfl dX1_leastMultiple_59 rfl ?_
    refine Go_lmul (q := 61) C dX1_leastMultiple_60 rfl ?_
    exact Go_lret C hQ hR hw dX1_leastMultiple_61
set_option maxRecDepth 100000 in
set_option maxHeartbeats 4000000 in
theorem g_X1_leastMultiple_9 {G : GC} (C : Cx G cX1_leastMultiple BIG RX1 11 (some .long) rm_X1_leastMultiple shE NE) {Q : Int64 → St → Prop} (hQ : QL G RCE Q) (p0 : Int64) (p1 : Int64) (v4 : Int64) (v6 : Int64) (v8 : Int32) {S : St} (hR : RCE S) (hw : w_X1_leastMultiple_9 p0 p1 Q v4 v6 v8 S) : Go G 11 9 [] [(0, .long p0), (2, .long p1), (4, .long v4), (6, .long v6), (8, .int v8)] S := by
  obtain ⟨n, hw⟩ := hw
  induction n generalizing v4 v6 v8 S with
  | zero => exact hw.elim
  | succ n ih =>
    have hw : b_X1_leastMultiple_9 p0 p1 Q (lpn (fun _ _ _ _ => False) (b_X1_leastMultiple_9 p0 p1 Q) n) v4 v6 v8 S := hw
    generalize lpn (fun _ _ _ _ => False) (b_X1_leastMultiple_9 p0 p1 Q) n = kf at hw ih
    have hk9 := fun (v4 : Int64) (v6 : Int64) (v8 : Int32) (S : St) (hR : RCE S) hw => ih v4 v6 v8 hR hw
    unfold b_X1_leastMultiple_9 at hw
    refine Go_iload (q := 11) C 4 rfl dX1_leastMultiple_9 rfl ?_
    refine Go_bipush (q := 13) (v := (100 : Int32)) C dX1_leastMultiple_11 rfl rfl ?_
    refine Go_icmp_ge (t := 44) (q := 16) C hw dX1_leastMultiple_13 rfl rfl (fun hw => ?_) (fun hw => ?_)
    · refine Go_lvp [0, 1, 2] rfl ?_
      exact g_X1_leastMultiple_44 C hQ p0 p1 _ hR hw
    · refine Go_lload (q := 18) C 3 rfl dX1_leastMultiple_16 rfl ?_
      refine Go_lconst (q := 19) (v := (0 : Int64)) C dX1_leastMultiple_18 rfl rfl ?_
      refine Go_lcmp_eq (t := 44) (q := 20) (q2 := 23) C hw dX1_leastMultiple_19 rfl dX1_leastMultiple_20 rfl rfl (fun hw => ?_) (fun hw => ?_)
      · refine Go_lvp [0, 1, 2] rfl ?_
        exact g_X1_leastMultiple_44 C hQ p0 p1 _ hR hw
      · refine Go_lload (q := 25) C 2 rfl dX1_leastMultiple_23 rfl ?_
        refine Go_lload (q := 27) C 3 rfl dX1_leastMultiple_25 rfl ?_
        obtain ⟨hne, hw⟩ := hw
        refine Go_lrem (q := 28) C hne dX1_leastMultiple_27 rfl ?_
        refine Go_topl (fun x28_1 e_x28_1 => ?_)
        have hw := hw x28_1 e_x28_1
        refine Go_lstore (q := 30) (lv' := [(9, .long x28_1), (0, .long p0), (2, .long p1), (4, .long v4), (6, .long v6), (8, .int v8)]) C dX1_leastMultiple_28 (by decide) rfl rfl ?_
        refine Go_lload (q := 32) C 4 rfl dX1_leastMultiple_30 rfl ?_
        refine Go_lstore (q := 34) (lv' := [(4, .long v6), (9, .long x28_1), (0, .long p0), (2, .long p1), (6, .long v6), (8, .int v8)]) C dX1_leastMultiple_32 (by decide) rfl rfl ?_
        refine Go_lload (q := 36) C 1 rfl dX1_leastMultiple_34 rfl ?_
        refine Go_lstore (q := 38) (lv' := [(6, .long x28_1), (4, .long v6), (9, .long x28_1), (0, .long p0), (2, .long p1), (8, .int v8)]) C dX1_leastMultiple_36 (by decide) rfl rfl ?_
        refine Go_iinc2 (q := 41) (kp := 5) (cst := (1 : Int32)) C dX1_leastMultiple_38 rfl rfl (by decide) rfl (fun x38_2 e_x38_2 => ?_)
        have hw := hw x38_2 e_x38_2
        refine Go_lve (lv' := [(8, .int x38_2), (6, .long x28_1), (4, .long v6), (9, .long x28_1), (0, .long p0), (2, .long p1)]) rfl ?_
        refine Go_goto (q := 9) C dX1_leastMultiple_41 rfl ?_
        refine Go_lvp [4, 5, 2, 1, 0] rfl ?_
        exact hk9 _ _ _ _ hR hw
set_option maxRecDepth 100000 in
set_option maxHeartbeats 4000000 in
theorem c_X1_leastMultiple (l : Launch) {p0 : Int64} {p1 : Int64} {S : St} {Q : Int64 → St → Prop} (hR : RCE S) (hw : w_X1_leastMultiple p0 p1 S Q) : MetL l yX1_leastMultiple (wB yX1_leastMultiple cX1_leastMultiple 11 (some .long)) rm_X1_leastMultiple shE NE RCE (fun ad => [.long p0, .long p1]) S Q := by
  refine MetL_of (cc := cX1_leastMultiple) (maxL := 11) (ret := (some .long)) (plainFor_of_name (by decide)) (fun _ => Nat.le_of_ble_eq_true rfl) (fun G C hl hQ => ?_)
  subst hl
  have C : Cx G cX1_leastMultiple BIG RX1 11 (some .long) rm_X1_leastMultiple shE NE := C
  show Go G 11 0 [] [(0, .long p0), (2, .long p1)] S
  unfold w_X1_leastMultiple at hw
  refine Go_lload_n (q := 1) C 0 rfl dX1_leastMultiple_0 rfl ?_
  refine Go_lstore (q := 3) (lv' := [(4, .long p0), (0, .long p0), (2, .long p1)]) C dX1_leastMultiple_1 (by decide) rfl rfl ?_
  refine Go_lload_n (q := 4) C 2 rfl dX1_leastMultiple_3 rfl ?_
  refine Go_lstore (q := 6) (lv' := [(6, .long p1), (4, .long p0), (0, .long p0), (2, .long p1)]) C dX1_leastMultiple_4 (by decide) rfl rfl ?_
  refine Go_iconst (q := 7) (v := (0 : Int32)) C dX1_leastMultiple_6 rfl rfl ?_
  refine Go_istore (q := 9) (lv' := [(8, .int (0 : Int32)), (6, .long p1), (4, .long p0), (0, .long p0), (2, .long p1)]) C dX1_leastMultiple_7 (by decide) rfl rfl ?_
  refine Go_lvp [3, 4, 2, 1, 0] rfl ?_
  exact g_X1_leastMultiple_9 C hQ p0 p1 _ _ _ hR hw
-- X1_addCycle
abbrev rm_X1_addCycle : Room := { frames := 1, cells := 0, slots := 0, locals := 30 }
set_option maxRecDepth 100000 in
set_option maxHeartbeats 4000000 in
theorem g_X1_addCycle_114 {G : GC} (C : Cx G cX1_addCycle BIG RX1 6 none rm_X1_addCycle shE NE) {Q : St → Prop} (hQ : QV G RCE Q) (o : Nat) (ho : isE1 o) (v3 : Int32) (t0 : Int32) (t1 : Int32) {S : St} (hR : RCE S) (hw : w_X1_addCycle_114 o Q v3 t0 t1 S) : Go G 6 114 [.int t0, .int t1, .ref (Gad G (o))] [(0, .ref (Gad G (o))), (3, .int v3)] S := by
  unfold w_X1_addCycle_114 at hw
  refine Go_iadd (q := 115) C dX1_addCycle_114 rfl ?_
  refine Go_putI (q := 118) (k := 4) C ci1 iw_1 (oE1 ho) rfl wm_11_7 rfl rfl (ci1.2.2.2.1 4 (by decide)) rfl rfl dX1_addCycle_115 rfl ?_
  refine Go_S (fun S115_5 e_S115_5 => ?_)
  have hw := hw S115_5 e_S115_5
  have hR := rcE e_S115_5 hR
  refine Go_aload_n (q := 119) C 0 rfl dX1_addCycle_118 rfl ?_
  refine Go_aload_n (q := 120) C 0 rfl dX1_addCycle_119 rfl ?_
  refine Go_getJ (q := 123) (k := 5) C ci1 iw_1 (oE1 ho) rfl wm_11_8 rfl dX1_addCycle_120 rfl ?_
  refine Go_iload_n (q := 124) C 1 rfl dX1_addCycle_123 rfl ?_
  refine Go_i2l (q := 125) C dX1_addCycle_124 rfl ?_
  refine Go_callS_L (av := (fun ad => [.long (gJ S115_5 o 5), .long ((v3).toInt64)])) (st := [.ref (Gad G (o))]) (C := C) (hM := c_X1_leastMultiple (Gl G) hR hw) (hlk := wm_11_17) (hini := wm_3_4) (hst2 := wm_11_18) (hcode := wm_11_19) (n := 2) (hd := by decide +kernel) (hr0 := ⟨rfl, rfl⟩) (hroom := ⟨by first | decide | (dsimp only; omega), by first | decide | (dsimp only; omega)⟩) (hlen := rfl) (hst := rfl) (hW := Nat.le_of_ble_eq_true rfl) (hdg := dX1_addCycle_125) (q := 128) (hq := rfl) (fun r125_7 S125_6 hw hR => ?_)
  refine Go_putJ (q := 131) (k := 5) C ci1 iw_1 (oE1 ho) rfl wm_11_8 rfl rfl (ci1.2.2.2.1 5 (by decide)) rfl rfl dX1_addCycle_128 rfl ?_
  refine Go_S (fun S128_8 e_S128_8 => ?_)
  have hw := hw S128_8 e_S128_8
  have hR := rcEJ e_S128_8 hR
  exact Go_vret C hQ hR hw dX1_addCycle_131
set_option maxRecDepth 100000 in
set_option maxHeartbeats 4000000 in
theorem g_X1_addCycle_47 {G : GC} (C : Cx G cX1_addCycle BIG RX1 6 none rm_X1_addCycle shE NE) {Q : St → Prop} (hQ : QV G RCE Q) (o : Nat) (p0 : Nat) (ho : isE1 o) (hp0 : ok shE NE p0 14 (lnE p0)) (v3 : Int32) (v4 : Int32) (v5 : Int32) {S : St} (hR : RCE S) (hw : w_X1_addCycle_47 o p0 Q v3 v4 v5 S) : Go G 6 47 [] [(0, .ref (Gad G (o))), (1, .ref (Gad G (p0))), (3, .int v3), (4, .int v4), (5, .int v5)] S := by
  obtain ⟨n, hw⟩ := hw
  induction n generalizing v4 v5 S with
  | zero => exact hw.elim
  | succ n ih =>
    have hw : b_X1_addCycle_47 o p0 Q v3 (lpn (fun _ _ _ => False) (b_X1_addCycle_47 o p0 Q v3) n) v4 v5 S := hw
    generalize lpn (fun _ _ _ => False) (b_X1_addCycle_47 o p0 Q v3) n = kf at hw ih
    have hk47 := fun (v4 : Int32) (v5 : Int32) (S : St) (hR : RCE S) hw => ih v4 v5 hR hw
    unfold b_X1_addCycle_47 at hw
    refine Go_iload (q := 49) C 4 rfl dX1_addCycle_47 rfl ?_
    refine Go_iload_n (q := 50) C 2 rfl dX1_addCycle_49 rfl ?_
    refine Go_icmp_ge (t := 77) (q := 53) C hw dX1_addCycle_50 rfl rfl (fun hw => ?_) (fun hw => ?_)
    · refine Go_aload_n (q := 78) C 0 rfl dX1_addCycle_77 rfl ?_
      refine Go_dup (q := 79) C rfl dX1_addCycle_78 rfl ?_
      refine Go_getI (q := 82) (k := 2) C ci1 iw_1 (oE1 ho) rfl wm_11_5 rfl dX1_addCycle_79 rfl ?_
      refine Go_iconst (q := 83) (v := (1 : Int32)) C dX1_addCycle_82 rfl rfl ?_
      refine Go_iadd (q := 84) C dX1_addCycle_83 rfl ?_
      refine Go_putI (q := 87) (k := 2) C ci1 iw_1 (oE1 ho) rfl wm_11_5 rfl rfl (ci1.2.2.2.1 2 (by decide)) rfl rfl dX1_addCycle_84 rfl ?_
      refine Go_S (fun S84_3 e_S84_3 => ?_)
      have hw := hw S84_3 e_S84_3
      have hR := rcE e_S84_3 hR
      refine Go_aload_n (q := 88) C 0 rfl dX1_addCycle_87 rfl ?_
      refine Go_aload_n (q := 89) C 0 rfl dX1_addCycle_88 rfl ?_
      refine Go_getI (q := 92) (k := 3) C ci1 iw_1 (oE1 ho) rfl wm_11_6 rfl dX1_addCycle_89 rfl ?_
      refine Go_iload_n (q := 93) C 2 rfl dX1_addCycle_92 rfl ?_
      refine Go_mmax (q := 96) C wm_11_13 wm_11_14 wm_11_15 wm_11_16 (by first | decide | (dsimp only; omega)) (Nat.le_of_ble_eq_true rfl) dX1_addCycle_93 rfl ?_
      refine Go_putI (q := 99) (k := 3) C ci1 iw_1 (oE1 ho) rfl wm_11_6 rfl rfl (ci1.2.2.2.1 3 (by decide)) rfl rfl dX1_addCycle_96 rfl ?_
      refine Go_S (fun S96_4 e_S96_4 => ?_)
      have hw := hw S96_4 e_S96_4
      have hR := rcE e_S96_4 hR
      refine Go_aload_n (q := 100) C 0 rfl dX1_addCycle_99 rfl ?_
      refine Go_dup (q := 101) C rfl dX1_addCycle_100 rfl ?_
      refine Go_getI (q := 104) (k := 4) C ci1 iw_1 (oE1 ho) rfl wm_11_7 rfl dX1_addCycle_101 rfl ?_
      refine Go_iload_n (q := 105) C 2 rfl dX1_addCycle_104 rfl ?_
      refine Go_iconst (q := 106) (v := (1 : Int32)) C dX1_addCycle_105 rfl rfl ?_
      refine Go_icmp_ne (t := 113) (q := 109) C hw dX1_addCycle_106 rfl rfl (fun hw => ?_) (fun hw => ?_)
      · refine Go_iconst (q := 110) (v := (1 : Int32)) C dX1_addCycle_109 rfl rfl ?_
        refine Go_goto (q := 114) C dX1_addCycle_110 rfl ?_
        refine Go_lvp [0, 2] rfl ?_
        exact g_X1_addCycle_114 C hQ o ho _ _ _ hR hw
      · refine Go_iconst (q := 114) (v := (0 : Int32)) C dX1_addCycle_113 rfl rfl ?_
        refine Go_lvp [0, 2] rfl ?_
        exact g_X1_addCycle_114 C hQ o ho _ _ _ hR hw
    · refine Go_aload_n (q := 54) C 0 rfl dX1_addCycle_53 rfl ?_
      refine Go_getA (q := 57) (k := 0) C ci1 iw_1 (oE1 ho) (rE1_0 hR ho) rfl wm_8_2 rfl dX1_addCycle_54 rfl ?_
      refine Go_iload (q := 59) C 3 rfl dX1_addCycle_57 rfl ?_
      refine Go_iload_n (q := 60) C 2 rfl dX1_addCycle_59 rfl ?_
      refine Go_callSN_V (av := (fun ad => [.ref (ad ((o + 1))), .int v4, .int v3])) (st := []) (C := C) (hM := c_X11_put (Gl G) (ok_ln (oE1_0 ho)) hR hw) (host := "EndsRound") (hnw := nw_81) (hini := wm_1_2) (hst2 := wm_10_11) (hcode := wm_10_12) (n := 3) (hd := by decide +kernel) (hr0 := ⟨rfl, rfl⟩) (hroom := ⟨by first | decide | (dsimp only; omega), by first | decide | (dsimp only; omega)⟩) (hlen := rfl) (hst := rfl) (hW := Nat.le_of_ble_eq_true rfl) (hdg := dX1_addCycle_60) (q := 63) (hq := rfl) (fun S60_9 hw hR => ?_)
      refine Go_aload_n (q := 64) C 1 rfl dX1_addCycle_63 rfl ?_
      refine Go_iload (q := 66) C 3 rfl dX1_addCycle_64 rfl ?_
      refine Go_callSN_I (av := (fun ad => [.ref (ad (p0)), .int v4])) (st := []) (C := C) (hM := c_X11_cell (Gl G) (ok_ln hp0) hR hw) (host := "EndsRound") (hnw := nw_80) (hini := wm_1_2) (hst2 := wm_10_22) (hcode := wm_10_23) (n := 2) (hd := by decide +kernel) (hr0 := ⟨rfl, rfl⟩) (hroom := ⟨by first | decide | (dsimp only; omega), by first | decide | (dsimp only; omega)⟩) (hlen := rfl) (hst := rfl) (hW := Nat.le_of_ble_eq_true rfl) (hdg := dX1_addCycle_66) (q := 69) (hq := rfl) (fun r66_11 S66_10 hw hR => ?_)
      refine Go_istore (q := 71) (lv' := [(4, .int r66_11), (0, .ref (Gad G (o))), (1, .ref (Gad G (p0))), (3, .int v3), (5, .int v5)]) C dX1_addCycle_69 (by decide) rfl rfl ?_
      refine Go_iinc2 (q := 74) (kp := 4) (cst := (1 : Int32)) C dX1_addCycle_71 rfl rfl (by decide) rfl (fun x71_12 e_x71_12 => ?_)
      have hw := hw x71_12 e_x71_12
      refine Go_lve (lv' := [(5, .int x71_12), (4, .int r66_11), (0, .ref (Gad G (o))), (1, .ref (Gad G (p0))), (3, .int v3)]) rfl ?_
      refine Go_goto (q := 47) C dX1_addCycle_74 rfl ?_
      refine Go_lvp [2, 3, 4, 1, 0] rfl ?_
      exact hk47 _ _ _ hR hw
set_option maxRecDepth 100000 in
set_option maxHeartbeats 4000000 in
theorem g_X1_addCycle_12 {G : GC} (C : Cx G cX1_addCycle BIG RX1 6 none rm_X1_addCycle shE NE) {Q : St → Prop} (hQ : QV G RCE Q) (o : Nat) (p0 : Nat) (p1 : Int32) (ho : isE1 o) (hp0 : ok shE NE p0 14 (lnE p0)) (v3 : Int32) (v4 : Int32) (v5 : Int32) {S : St} (hR : RCE S) (hw : w_X1_addCycle_12 o p0 p1 Q v3 v4 v5 S) : Go G 6 12 [] [(0, .ref (Gad G (o))), (1, .ref (Gad G (p0))), (2, .int p1), (3, .int v3), (4, .int v4), (5, .int v5)] S := by
  obtain ⟨n, hw⟩ := hw
  induction n generalizing v3 v4 v5 S with
  | zero => exact hw.elim
  | succ n ih =>
    have hw : b_X1_addCycle_12 o p0 p1 Q (lpn (fun _ _ _ _ => False) (b_X1_addCycle_12 o p0 p1 Q) n) v3 v4 v5 S := hw
    generalize lpn (fun _ _ _ _ => False) (b_X1_addCycle_12 o p0 p1 Q) n = kf at hw ih
    have hk12 := fun (v3 : Int32) (v4 : Int32) (v5 : Int32) (S : St) (hR : RCE S) hw => ih v3 v4 v5 hR hw
    unfold b_X1_addCycle_12 at hw
    refine Go_iload (q := 14) C 5 rfl dX1_addCycle_12 rfl ?_
    refine Go_aload_n (q := 15) C 0 rfl dX1_addCycle_14 rfl ?_
    refine Go_getI (q := 18) (k := 1) C ci1 iw_1 (oE1 ho) rfl wm_11_4 rfl dX1_addCycle_15 rfl ?_
    refine Go_icmp_ge (t := 44) (q := 21) C hw dX1_addCycle_18 rfl rfl (fun hw => ?_) (fun hw => ?_)
    · refine Go_iconst (q := 45) (v := (0 : Int32)) C dX1_addCycle_44 rfl rfl ?_
      refine Go_istore (q := 47) (lv' := [(5, .int (0 : Int32)), (0, .ref (Gad G (o))), (1, .ref (Gad G (p0))), (2, .int p1), (3, .int v3), (4, .int v4)]) C dX1_addCycle_45 (by decide) rfl rfl ?_
      refine Go_lvp [1, 2, 4, 5, 0] rfl ?_
      exact g_X1_addCycle_47 C hQ o p0 ho hp0 _ _ _ hR hw
    · refine Go_iload (q := 23) C 4 rfl dX1_addCycle_21 rfl ?_
      refine Go_iload_n (q := 24) C 2 rfl dX1_addCycle_23 rfl ?_
      refine Go_icmp_eq (t := 44) (q := 27) C hw dX1_addCycle_24 rfl rfl (fun hw => ?_) (fun hw => ?_)
      · refine Go_iconst (q := 45) (v := (0 : Int32)) C dX1_addCycle_44 rfl rfl ?_
        refine Go_istore (q := 47) (lv' := [(5, .int (0 : Int32)), (0, .ref (Gad G (o))), (1, .ref (Gad G (p0))), (2, .int p1), (3, .int v3), (4, .int v4)]) C dX1_addCycle_45 (by decide) rfl rfl ?_
        refine Go_lvp [1, 2, 4, 5, 0] rfl ?_
        exact g_X1_addCycle_47 C hQ o p0 ho hp0 _ _ _ hR hw
      · refine Go_iinc2 (q := 30) (kp := 3) (cst := (1 : Int32)) C dX1_addCycle_27 rfl rfl (by decide) rfl (fun x27_13 e_x27_13 => ?_)
        have hw := hw x27_13 e_x27_13
        refine Go_lve (lv' := [(3, .int x27_13), (0, .ref (Gad G (o))), (1, .ref (Gad G (p0))), (2, .int p1), (4, .int v4), (5, .int v5)]) rfl ?_
        refine Go_aload_n (q := 31) C 2 rfl dX1_addCycle_30 rfl ?_
        refine Go_iload (q := 33) C 4 rfl dX1_addCycle_31 rfl ?_
        refine Go_callSN_I (av := (fun ad => [.ref (ad (p0)), .int v4])) (st := []) (C := C) (hM := c_X11_cell (Gl G) (ok_ln hp0) hR hw) (host := "EndsRound") (hnw := nw_80) (hini := wm_1_2) (hst2 := wm_10_22) (hcode := wm_10_23) (n := 2) (hd := by decide +kernel) (hr0 := ⟨rfl, rfl⟩) (hroom := ⟨by first | decide | (dsimp only; omega), by first | decide | (dsimp only; omega)⟩) (hlen := rfl) (hst := rfl) (hW := Nat.le_of_ble_eq_true rfl) (hdg := dX1_addCycle_33) (q := 36) (hq := rfl) (fun r33_15 S33_14 hw hR => ?_)
        refine Go_istore (q := 38) (lv' := [(4, .int r33_15), (3, .int x27_13), (0, .ref (Gad G (o))), (1, .ref (Gad G (p0))), (2, .int p1), (5, .int v5)]) C dX1_addCycle_36 (by decide) rfl rfl ?_
        refine Go_iinc2 (q := 41) (kp := 5) (cst := (1 : Int32)) C dX1_addCycle_38 rfl rfl (by decide) rfl (fun x38_16 e_x38_16 => ?_)
        have hw := hw x38_16 e_x38_16
        refine Go_lve (lv' := [(5, .int x38_16), (4, .int r33_15), (3, .int x27_13), (0, .ref (Gad G (o))), (1, .ref (Gad G (p0))), (2, .int p1)]) rfl ?_
        refine Go_goto (q := 12) C dX1_addCycle_41 rfl ?_
        refine Go_lvp [3, 4, 5, 2, 1, 0] rfl ?_
        exact hk12 _ _ _ _ hR hw
set_option maxRecDepth 100000 in
set_option maxHeartbeats 4000000 in
theorem c_X1_addCycle (l : Launch) {o : Nat} (ho : isE1 o) {p0 : Nat} (hp0 : ok shE NE p0 14 (lnE p0)) {p1 : Int32} {S : St} {Q : St → Prop} (hR : RCE S) (hw : w_X1_addCycle o p0 p1 S Q) : MetV l yX1_addCycle (wB yX1_addCycle cX1_addCycle 6 none) rm_X1_addCycle shE NE RCE (fun ad => [.ref (ad (o)), .ref (ad (p0)), .int p1]) S Q := by
  refine MetV_of (cc := cX1_addCycle) (maxL := 6) (ret := none) (plainFor_of_name (by decide)) (fun _ => Nat.le_of_ble_eq_true rfl) (fun G C hl hQ => ?_)
  subst hl
  have C : Cx G cX1_addCycle BIG RX1 6 none rm_X1_addCycle shE NE := C
  show Go G 6 0 [] [(0, .ref (Gad G (o))), (1, .ref (Gad G (p0))), (2, .int p1)] S
  unfold w_X1_addCycle at hw
  refine Go_iconst (q := 1) (v := (1 : Int32)) C dX1_addCycle_0 rfl rfl ?_
  refine Go_istore_n (q := 2) (lv' := [(3, .int (1 : Int32)), (0, .ref (Gad G (o))), (1, .ref (Gad G (p0))), (2, .int p1)]) C rfl dX1_addCycle_1 (by decide) rfl rfl ?_
  refine Go_aload_n (q := 3) C 2 rfl dX1_addCycle_2 rfl ?_
  refine Go_iload_n (q := 4) C 3 rfl dX1_addCycle_3 rfl ?_
  refine Go_callSN_I (av := (fun ad => [.ref (ad (p0)), .int p1])) (st := []) (C := C) (hM := c_X11_cell (Gl G) (ok_ln hp0) hR hw) (host := "EndsRound") (hnw := nw_80) (hini := wm_1_2) (hst2 := wm_10_22) (hcode := wm_10_23) (n := 2) (hd := by decide +kernel) (hr0 := ⟨rfl, rfl⟩) (hroom := ⟨by first | decide | (dsimp only; omega), by first | decide | (dsimp only; omega)⟩) (hlen := rfl) (hst := rfl) (hW := Nat.le_of_ble_eq_true rfl) (hdg := dX1_addCycle_4) (q := 7) (hq := rfl) (fun r4_2 S4_1 hw hR => ?_)
  refine Go_istore (q := 9) (lv' := [(4, .int r4_2), (3, .int (1 : Int32)), (0, .ref (Gad G (o))), (1, .ref (Gad G (p0))), (2, .int p1)]) C dX1_addCycle_7 (by decide) rfl rfl ?_
  refine Go_iconst (q := 10) (v := (1 : Int32)) C dX1_addCycle_9 rfl rfl ?_
  refine Go_istore (q := 12) (lv' := [(5, .int (1 : Int32)), (4, .int r4_2), (3, .int (1 : Int32)), (0, .ref (Gad G (o))), (1, .ref (Gad G (p0))), (2, .int p1)]) C dX1_addCycle_10 (by decide) rfl rfl ?_
  refine Go_lvp [3, 4, 5, 2, 1, 0] rfl ?_
  exact g_X1_addCycle_12 C hQ o p0 p1 ho hp0 _ _ _ hR hw
-- X1_follow
abbrev rm_X1_follow : Room := { frames := 2, cells := 0, slots := 0, locals := 55 }
set_option maxRecDepth 100000 in
set_option maxHeartbeats 4000000 in
theorem g_X1_follow_35 {G : GC} (C : Cx G cX1_follow BIG RX1 4 none rm_X1_follow shE NE) {Q : St → Prop} (hQ : QV G RCE Q) (o : Nat) (p0 : Nat) (ho : isE1 o) (hp0 : ok shE NE p0 14 (lnE p0)) (v3 : Int32) {S : St} (hR : RCE S) (hw : w_X1_follow_35 o p0 Q v3 S) : Go G 4 35 [] [(0, .ref (Gad G (o))), (1, .ref (Gad G (p0))), (3, .int v3)] S := by
  obtain ⟨n, hw⟩ := hw
  induction n generalizing v3 S with
  | zero => exact hw.elim
  | succ n ih =>
    have hw : b_X1_follow_35 o p0 Q (lpn (fun _ _ => False) (b_X1_follow_35 o p0 Q) n) v3 S := hw
    generalize lpn (fun _ _ => False) (b_X1_follow_35 o p0 Q) n = kf at hw ih
    have hk35 := fun (v3 : Int32) (S : St) (hR : RCE S) hw => ih v3 hR hw
    unfold b_X1_follow_35 at hw
    refine Go_iload_n (q := 36) C 2 rfl dX1_follow_35 rfl ?_
    refine Go_aload_n (q := 37) C 0 rfl dX1_follow_36 rfl ?_
    refine Go_getI (q := 40) (k := 1) C ci1 iw_1 (oE1 ho) rfl wm_11_4 rfl dX1_follow_37 rfl ?_
    refine Go_icmp_ge (t := 66) (q := 43) C hw dX1_follow_40 rfl rfl (fun hw => ?_) (fun hw => ?_)
    · exact Go_vret C hQ hR hw dX1_follow_66
    · refine Go_aload_n (q := 44) C 0 rfl dX1_follow_43 rfl ?_
      refine Go_getA (q := 47) (k := 0) C ci1 iw_1 (oE1 ho) (rE1_0 hR ho) rfl wm_8_2 rfl dX1_follow_44 rfl ?_
      refine Go_iload_n (q := 48) C 2 rfl dX1_follow_47 rfl ?_
      refine Go_callSN_I (av := (fun ad => [.ref (ad ((o + 1))), .int v3])) (st := []) (C := C) (hM := c_X11_cell (Gl G) (ok_ln (oE1_0 ho)) hR hw) (host := "EndsRound") (hnw := nw_80) (hini := wm_1_2) (hst2 := wm_10_22) (hcode := wm_10_23) (n := 2) (hd := by decide +kernel) (hr0 := ⟨rfl, rfl⟩) (hroom := ⟨by first | decide | (dsimp only; omega), by first | decide | (dsimp only; omega)⟩) (hlen := rfl) (hst := rfl) (hW := Nat.le_of_ble_eq_true rfl) (hdg := dX1_follow_48) (q := 51) (hq := rfl) (fun r48_8 S48_7 hw hR => ?_)
      refine Go_if_ne (t := 60) (q := 54) C hw dX1_follow_51 rfl rfl (fun hw => ?_) (fun hw => ?_)
      · refine Go_aload_n (q := 55) C 0 rfl dX1_follow_54 rfl ?_
        refine Go_aload_n (q := 56) C 1 rfl dX1_follow_55 rfl ?_
        refine Go_iload_n (q := 57) C 2 rfl dX1_follow_56 rfl ?_
        refine Go_callV_V (av := (fun ad => [.ref (ad (p0)), .int v3])) (st := []) (C := C) (hM := c_X1_addCycle (Gl G) ho (ok_ln hp0) hR hw) (hlk := wm_11_9) (hini := wm_3_4) (hins := wm_11_10) (hsel := wm_11_11) (hcode := wm_11_12) (ho := (oE1 ho)) (hci := rfl) (hc13 := by decide) (n := 2) (hd := by decide +kernel) (hr0 := ⟨rfl, rfl⟩) (hroom := ⟨by first | decide | (dsimp only; omega), by first | decide | (dsimp only; omega)⟩) (hlen := rfl) (hst := rfl) (hW := Nat.le_of_ble_eq_true rfl) (hdg := dX1_follow_57) (q := 60) (hq := rfl) (fun S57_9 hw hR => ?_)
        refine Go_iinc2 (q := 63) (kp := 2) (cst := (1 : Int32)) C dX1_follow_60 rfl rfl (by decide) rfl (fun x60_10 e_x60_10 => ?_)
        have hw := hw x60_10 e_x60_10
        refine Go_lve (lv' := [(3, .int x60_10), (0, .ref (Gad G (o))), (1, .ref (Gad G (p0)))]) rfl ?_
        refine Go_goto (q := 35) C dX1_follow_63 rfl ?_
        refine Go_lvp [1, 2, 0] rfl ?_
        exact hk35 _ _ hR hw
      · refine Go_iinc2 (q := 63) (kp := 2) (cst := (1 : Int32)) C dX1_follow_60 rfl rfl (by decide) rfl (fun x60_11 e_x60_11 => ?_)
        have hw := hw x60_11 e_x60_11
        refine Go_lve (lv' := [(3, .int x60_11), (0, .ref (Gad G (o))), (1, .ref (Gad G (p0)))]) rfl ?_
        refine Go_goto (q := 35) C dX1_follow_63 rfl ?_
        refine Go_lvp [1, 2, 0] rfl ?_
        exact hk35 _ _ hR hw
set_option maxRecDepth 100000 in
set_option maxHeartbeats 4000000 in
theorem c_X1_follow (l : Launch) {o : Nat} (ho : isE1 o) {p0 : Nat} (hp0 : ok shE NE p0 14 (lnE p0)) {p1 : Int32} {S : St} {Q : St → Prop} (hR : RCE S) (hw : w_X1_follow o p0 p1 S Q) : MetV l yX1_follow (wB yX1_follow cX1_follow 4 none) rm_X1_follow shE NE RCE (fun ad => [.ref (ad (o)), .ref (ad (p0)), .int p1]) S Q := by
  refine MetV_of (cc := cX1_follow) (maxL := 4) (ret := none) (plainFor_of_name (by decide)) (fun _ => Nat.le_of_ble_eq_true rfl) (fun G C hl hQ => ?_)
  subst hl
  have C : Cx G cX1_follow BIG RX1 4 none rm_X1_follow shE NE := C
  show Go G 4 0 [] [(0, .ref (Gad G (o))), (1, .ref (Gad G (p0))), (2, .int p1)] S
  unfold w_X1_follow at hw
  refine Go_aload_n (q := 1) C 0 rfl dX1_follow_0 rfl ?_
  refine Go_iload_n (q := 2) C 2 rfl dX1_follow_1 rfl ?_
  refine Go_putI (q := 5) (k := 1) C ci1 iw_1 (oE1 ho) rfl wm_11_4 rfl rfl (ci1.2.2.2.1 1 (by decide)) rfl rfl dX1_follow_2 rfl ?_
  refine Go_S (fun S2_1 e_S2_1 => ?_)
  have hw := hw S2_1 e_S2_1
  have hR := rcE e_S2_1 hR
  refine Go_aload_n (q := 6) C 0 rfl dX1_follow_5 rfl ?_
  refine Go_iconst (q := 7) (v := (0 : Int32)) C dX1_follow_6 rfl rfl ?_
  refine Go_putI (q := 10) (k := 2) C ci1 iw_1 (oE1 ho) rfl wm_11_5 rfl rfl (ci1.2.2.2.1 2 (by decide)) rfl rfl dX1_follow_7 rfl ?_
  refine Go_S (fun S7_2 e_S7_2 => ?_)
  have hw := hw S7_2 e_S7_2
  have hR := rcE e_S7_2 hR
  refine Go_aload_n (q := 11) C 0 rfl dX1_follow_10 rfl ?_
  refine Go_iconst (q := 12) (v := (0 : Int32)) C dX1_follow_11 rfl rfl ?_
  refine Go_putI (q := 15) (k := 3) C ci1 iw_1 (oE1 ho) rfl wm_11_6 rfl rfl (ci1.2.2.2.1 3 (by decide)) rfl rfl dX1_follow_12 rfl ?_
  refine Go_S (fun S12_3 e_S12_3 => ?_)
  have hw := hw S12_3 e_S12_3
  have hR := rcE e_S12_3 hR
  refine Go_aload_n (q := 16) C 0 rfl dX1_follow_15 rfl ?_
  refine Go_iconst (q := 17) (v := (0 : Int32)) C dX1_follow_16 rfl rfl ?_
  refine Go_putI (q := 20) (k := 4) C ci1 iw_1 (oE1 ho) rfl wm_11_7 rfl rfl (ci1.2.2.2.1 4 (by decide)) rfl rfl dX1_follow_17 rfl ?_
  refine Go_S (fun S17_4 e_S17_4 => ?_)
  have hw := hw S17_4 e_S17_4
  have hR := rcE e_S17_4 hR
  refine Go_aload_n (q := 21) C 0 rfl dX1_follow_20 rfl ?_
  refine Go_lconst (q := 22) (v := (1 : Int64)) C dX1_follow_21 rfl rfl ?_
  refine Go_putJ (q := 25) (k := 5) C ci1 iw_1 (oE1 ho) rfl wm_11_8 rfl rfl (ci1.2.2.2.1 5 (by decide)) rfl rfl dX1_follow_22 rfl ?_
  refine Go_S (fun S22_5 e_S22_5 => ?_)
  have hw := hw S22_5 e_S22_5
  have hR := rcEJ e_S22_5 hR
  refine Go_aload_n (q := 26) C 0 rfl dX1_follow_25 rfl ?_
  refine Go_getA (q := 29) (k := 0) C ci1 iw_1 (oE1 ho) (rE1_0 hR ho) rfl wm_8_2 rfl dX1_follow_26 rfl ?_
  refine Go_iconst (q := 30) (v := (0 : Int32)) C dX1_follow_29 rfl rfl ?_
  refine Go_callSN_V (av := (fun ad => [.ref (ad ((o + 1))), .int (0 : Int32)])) (st := []) (C := C) (hM := c_X11_blank (Gl G) (ok_ln (oE1_0 ho)) hR hw) (host := "EndsRound") (hnw := nw_79) (hini := wm_1_2) (hst2 := wm_10_13) (hcode := wm_10_14) (n := 2) (hd := by decide +kernel) (hr0 := ⟨rfl, rfl⟩) (hroom := ⟨by first | decide | (dsimp only; omega), by first | decide | (dsimp only; omega)⟩) (hlen := rfl) (hst := rfl) (hW := Nat.le_of_ble_eq_true rfl) (hdg := dX1_follow_30) (q := 33) (hq := rfl) (fun S30_6 hw hR => ?_)
  refine Go_iconst (q := 34) (v := (0 : Int32)) C dX1_follow_33 rfl rfl ?_
  refine Go_istore_n (q := 35) (lv' := [(3, .int (0 : Int32)), (0, .ref (Gad G (o))), (1, .ref (Gad G (p0))), (2, .int p1)]) C rfl dX1_follow_34 (by decide) rfl rfl ?_
  refine Go_lvp [1, 2, 0] rfl ?_
  exact g_X1_follow_35 C hQ o p0 ho hp0 _ hR hw
-- X9_addNeighbours
abbrev rm_X9_addNeighbours : Room := { frames := 1, cells := 0, slots := 0, locals := 22 }
set_option maxRecDepth 100000 in
set_option maxHeartbeats 4000000 in
theorem g_X9_addNeighbours_2 {G : GC} (C : Cx G cX9_addNeighbours BIG RX9 3 none rm_X9_addNeighbours shE NE) {Q : St → Prop} (hQ : QV G RCE Q) (v1 : Int32) {S : St} (hR : RCE S) (hw : w_X9_addNeighbours_2 Q v1 S) : Go G 3 2 [] [(0, .ref (Gad G (34))), (1, .int v1)] S := by
  obtain ⟨n, hw⟩ := hw
  induction n generalizing v1 S with
  | zero => exact hw.elim
  | succ n ih =>
    have hw : b_X9_addNeighbours_2 Q (lpn (fun _ _ => False) (b_X9_addNeighbours_2 Q) n) v1 S := hw
    generalize lpn (fun _ _ => False) (b_X9_addNeighbours_2 Q) n = kf at hw ih
    have hk2 := fun (v1 : Int32) (S : St) (hR : RCE S) hw => ih v1 hR hw
    unfold b_X9_addNeighbours_2 at hw
    refine Go_iload_n (q := 3) C 1 rfl dX9_addNeighbours_2 rfl ?_
    refine Go_iconst (q := 4) (v := (1 : Int32)) C dX9_addNeighbours_3 rfl rfl ?_
    refine Go_iadd (q := 5) C dX9_addNeighbours_4 rfl ?_
    refine Go_aload_n (q := 6) C 0 rfl dX9_addNeighbours_5 rfl ?_
    refine Go_getI (q := 9) (k := 7) C ci9 iw_9 kE_34 rfl wm_10_19 rfl dX9_addNeighbours_6 rfl ?_
    refine Go_icmp_ge (t := 59) (q := 12) C hw dX9_addNeighbours_9 rfl rfl (fun hw => ?_) (fun hw => ?_)
    · exact Go_vret C hQ hR hw dX9_addNeighbours_59
    · refine Go_aload_n (q := 13) C 0 rfl dX9_addNeighbours_12 rfl ?_
      refine Go_getA (q := 16) (k := 5) C ci9 iw_9 kE_34 (rE_34_5 hR) rfl wm_7_20 rfl dX9_addNeighbours_13 rfl ?_
      refine Go_iload_n (q := 17) C 1 rfl dX9_addNeighbours_16 rfl ?_
      refine Go_callSN_I (av := (fun ad => [.ref (ad (41)), .int v1])) (st := []) (C := C) (hM := c_X11_cell (Gl G) (ok_ln kE_41) hR hw) (host := "EndsRound") (hnw := nw_77) (hini := wm_1_2) (hst2 := wm_10_22) (hcode := wm_10_23) (n := 2) (hd := by decide +kernel) (hr0 := ⟨rfl, rfl⟩) (hroom := ⟨by first | decide | (dsimp only; omega), by first | decide | (dsimp only; omega)⟩) (hlen := rfl) (hst := rfl) (hW := Nat.le_of_ble_eq_true rfl) (hdg := dX9_addNeighbours_17) (q := 20) (hq := rfl) (fun r17_2 S17_1 hw hR => ?_)
      refine Go_bipush (q := 22) (v := (12 : Int32)) C dX9_addNeighbours_20 rfl rfl ?_
      refine Go_imul (q := 23) C dX9_addNeighbours_22 rfl ?_
      refine Go_aload_n (q := 24) C 0 rfl dX9_addNeighbours_23 rfl ?_
      refine Go_getA (q := 27) (k := 5) C ci9 iw_9 kE_34 (rE_34_5 hR) rfl wm_7_20 rfl dX9_addNeighbours_24 rfl ?_
      refine Go_iload_n (q := 28) C 1 rfl dX9_addNeighbours_27 rfl ?_
      refine Go_iconst (q := 29) (v := (1 : Int32)) C dX9_addNeighbours_28 rfl rfl ?_
      refine Go_iadd (q := 30) C dX9_addNeighbours_29 rfl ?_
      refine Go_callSN_I (av := (fun ad => [.ref (ad (41)), .int (v1 + (1 : Int32))])) (st := [.int (r17_2 * (12 : Int32))]) (C := C) (hM := c_X11_cell (Gl G) (ok_ln kE_41) hR hw) (host := "EndsRound") (hnw := nw_77) (hini := wm_1_2) (hst2 := wm_10_22) (hcode := wm_10_23) (n := 2) (hd := by decide +kernel) (hr0 := ⟨rfl, rfl⟩) (hroom := ⟨by first | decide | (dsimp only; omega), by first | decide | (dsimp only; omega)⟩) (hlen := rfl) (hst := rfl) (hW := Nat.le_of_ble_eq_true rfl) (hdg := dX9_addNeighbours_30) (q := 33) (hq := rfl) (fun r30_4 S30_3 hw hR => ?_)
      refine Go_iadd (q := 34) C dX9_addNeighbours_33 rfl ?_
      refine Go_topi (fun x34_5 e_x34_5 => ?_)
      have hw := hw x34_5 e_x34_5
      refine Go_istore_n (q := 35) (lv' := [(2, .int x34_5), (0, .ref (Gad G (34))), (1, .int v1)]) C rfl dX9_addNeighbours_34 (by decide) rfl rfl ?_
      refine Go_aload_n (q := 36) C 1 rfl dX9_addNeighbours_35 rfl ?_
      refine Go_getA (q := 39) (k := 4) C ci9 iw_9 kE_34 (rE_34_4 hR) rfl wm_7_19 rfl dX9_addNeighbours_36 rfl ?_
      refine Go_iload_n (q := 40) C 0 rfl dX9_addNeighbours_39 rfl ?_
      refine Go_aload_n (q := 41) C 1 rfl dX9_addNeighbours_40 rfl ?_
      refine Go_getA (q := 44) (k := 4) C ci9 iw_9 kE_34 (rE_34_4 hR) rfl wm_7_19 rfl dX9_addNeighbours_41 rfl ?_
      refine Go_iload_n (q := 45) C 0 rfl dX9_addNeighbours_44 rfl ?_
      refine Go_callSN_I (av := (fun ad => [.ref (ad (40)), .int x34_5])) (st := [.int x34_5, .ref (Gad G (40))]) (C := C) (hM := c_X11_cell (Gl G) (ok_ln kE_40) hR hw) (host := "EndsRound") (hnw := nw_77) (hini := wm_1_2) (hst2 := wm_10_22) (hcode := wm_10_23) (n := 2) (hd := by decide +kernel) (hr0 := ⟨rfl, rfl⟩) (hroom := ⟨by first | decide | (dsimp only; omega), by first | decide | (dsimp only; omega)⟩) (hlen := rfl) (hst := rfl) (hW := Nat.le_of_ble_eq_true rfl) (hdg := dX9_addNeighbours_45) (q := 48) (hq := rfl) (fun r45_7 S45_6 hw hR => ?_)
      refine Go_iconst (q := 49) (v := (1 : Int32)) C dX9_addNeighbours_48 rfl rfl ?_
      refine Go_iadd (q := 50) C dX9_addNeighbours_49 rfl ?_
      refine Go_callSN_V (av := (fun ad => [.ref (ad (40)), .int x34_5, .int (r45_7 + (1 : Int32))])) (st := []) (C := C) (hM := c_X11_put (Gl G) (ok_ln kE_40) hR hw) (host := "EndsRound") (hnw := nw_78) (hini := wm_1_2) (hst2 := wm_10_11) (hcode := wm_10_12) (n := 3) (hd := by decide +kernel) (hr0 := ⟨rfl, rfl⟩) (hroom := ⟨by first | decide | (dsimp only; omega), by first | decide | (dsimp only; omega)⟩) (hlen := rfl) (hst := rfl) (hW := Nat.le_of_ble_eq_true rfl) (hdg := dX9_addNeighbours_50) (q := 53) (hq := rfl) (fun S50_8 hw hR => ?_)
      refine Go_iinc2 (q := 56) (kp := 2) (cst := (1 : Int32)) C dX9_addNeighbours_53 rfl rfl (by decide) rfl (fun x53_9 e_x53_9 => ?_)
      have hw := hw x53_9 e_x53_9
      refine Go_lve (lv' := [(1, .int x53_9), (2, .int x34_5), (0, .ref (Gad G (34)))]) rfl ?_
      refine Go_goto (q := 2) C dX9_addNeighbours_56 rfl ?_
      refine Go_lvp [2, 0] rfl ?_
      exact hk2 _ _ hR hw
set_option maxRecDepth 100000 in
set_option maxHeartbeats 4000000 in
theorem c_X9_addNeighbours (l : Launch) {S : St} {Q : St → Prop} (hR : RCE S) (hw : w_X9_addNeighbours S Q) : MetV l yX9_addNeighbours (wB yX9_addNeighbours cX9_addNeighbours 3 none) rm_X9_addNeighbours shE NE RCE (fun ad => [.ref (ad (34))]) S Q := by
  refine MetV_of (cc := cX9_addNeighbours) (maxL := 3) (ret := none) (plainFor_of_name (by decide)) (fun _ => Nat.le_of_ble_eq_true rfl) (fun G C hl hQ => ?_)
  subst hl
  have C : Cx G cX9_addNeighbours BIG RX9 3 none rm_X9_addNeighbours shE NE := C
  show Go G 3 0 [] [(0, .ref (Gad G (34)))] S
  unfold w_X9_addNeighbours at hw
  refine Go_iconst (q := 1) (v := (0 : Int32)) C dX9_addNeighbours_0 rfl rfl ?_
  refine Go_istore_n (q := 2) (lv' := [(1, .int (0 : Int32)), (0, .ref (Gad G (34)))]) C rfl dX9_addNeighbours_1 (by decide) rfl rfl ?_
  refine Go_lvp [1, 0] rfl ?_
  exact g_X9_addNeighbours_2 C hQ _ hR hw
-- X9_joinClasses
abbrev rm_X9_joinClasses : Room := { frames := 1, cells := 0, slots := 0, locals := 22 }
set_option maxRecDepth 100000 in
set_option maxHeartbeats 4000000 in
theorem g_X9_joinClasses_22 {G : GC} (C : Cx G cX9_joinClasses BIG RX9 6 none rm_X9_joinClasses shE NE) {Q : St → Prop} (hQ : QV G RCE Q) (v3 : Int32) (v4 : Int32) (v5 : Int32) {S : St} (hR : RCE S) (hw : w_X9_joinClasses_22 Q v3 v4 v5 S) : Go G 6 22 [] [(0, .ref (Gad G (34))), (3, .int v3), (4, .int v4), (5, .int v5)] S := by
  obtain ⟨n, hw⟩ := hw
  induction n generalizing v5 S with
  | zero => exact hw.elim
  | succ n ih =>
    have hw : b_X9_joinClasses_22 Q v3 v4 (lpn (fun _ _ => False) (b_X9_joinClasses_22 Q v3 v4) n) v5 S := hw
    generalize lpn (fun _ _ => False) (b_X9_joinClasses_22 Q v3 v4) n = kf at hw ih
    have hk22 := fun (v5 : Int32) (S : St) (hR : RCE S) hw => ih v5 hR hw
    unfold b_X9_joinClasses_22 at hw
    refine Go_iload (q := 24) C 3 rfl dX9_joinClasses_22 rfl ?_
    refine Go_aload_n (q := 25) C 0 rfl dX9_joinClasses_24 rfl ?_
    refine Go_getI (q := 28) (k := 7) C ci9 iw_9 kE_34 rfl wm_10_19 rfl dX9_joinClasses_25 rfl ?_
    refine Go_icmp_ge (t := 61) (q := 31) C hw dX9_joinClasses_28 rfl rfl (fun hw => ?_) (fun hw => ?_)
    · exact Go_vret C hQ hR hw dX9_joinClasses_61
    · refine Go_aload_n (q := 32) C 0 rfl dX9_joinClasses_31 rfl ?_
      refine Go_getA (q := 35) (k := 3) C ci9 iw_9 kE_34 (rE_34_3 hR) rfl wm_7_18 rfl dX9_joinClasses_32 rfl ?_
      refine Go_iload (q := 37) C 3 rfl dX9_joinClasses_35 rfl ?_
      refine Go_callSN_I (av := (fun ad => [.ref (ad (39)), .int v5])) (st := []) (C := C) (hM := c_X11_cell (Gl G) (ok_ln kE_39) hR hw) (host := "EndsRound") (hnw := nw_77) (hini := wm_1_2) (hst2 := wm_10_22) (hcode := wm_10_23) (n := 2) (hd := by decide +kernel) (hr0 := ⟨rfl, rfl⟩) (hroom := ⟨by first | decide | (dsimp only; omega), by first | decide | (dsimp only; omega)⟩) (hlen := rfl) (hst := rfl) (hW := Nat.le_of_ble_eq_true rfl) (hdg := dX9_joinClasses_37) (q := 40) (hq := rfl) (fun r37_4 S37_3 hw hR => ?_)
      refine Go_iload (q := 42) C 2 rfl dX9_joinClasses_40 rfl ?_
      refine Go_icmp_ne (t := 55) (q := 45) C hw dX9_joinClasses_42 rfl rfl (fun hw => ?_) (fun hw => ?_)
      · refine Go_aload_n (q := 46) C 0 rfl dX9_joinClasses_45 rfl ?_
        refine Go_getA (q := 49) (k := 3) C ci9 iw_9 kE_34 (rE_34_3 hR) rfl wm_7_18 rfl dX9_joinClasses_46 rfl ?_
        refine Go_iload (q := 51) C 3 rfl dX9_joinClasses_49 rfl ?_
        refine Go_iload_n (q := 52) C 1 rfl dX9_joinClasses_51 rfl ?_
        refine Go_callSN_V (av := (fun ad => [.ref (ad (39)), .int v5, .int v3])) (st := []) (C := C) (hM := c_X11_put (Gl G) (ok_ln kE_39) hR hw) (host := "EndsRound") (hnw := nw_78) (hini := wm_1_2) (hst2 := wm_10_11) (hcode := wm_10_12) (n := 3) (hd := by decide +kernel) (hr0 := ⟨rfl, rfl⟩) (hroom := ⟨by first | decide | (dsimp only; omega), by first | decide | (dsimp only; omega)⟩) (hlen := rfl) (hst := rfl) (hW := Nat.le_of_ble_eq_true rfl) (hdg := dX9_joinClasses_52) (q := 55) (hq := rfl) (fun S52_5 hw hR => ?_)
        refine Go_iinc2 (q := 58) (kp := 3) (cst := (1 : Int32)) C dX9_joinClasses_55 rfl rfl (by decide) rfl (fun x55_6 e_x55_6 => ?_)
        have hw := hw x55_6 e_x55_6
        refine Go_lve (lv' := [(5, .int x55_6), (0, .ref (Gad G (34))), (3, .int v3), (4, .int v4)]) rfl ?_
        refine Go_goto (q := 22) C dX9_joinClasses_58 rfl ?_
        refine Go_lvp [1, 2, 3, 0] rfl ?_
        exact hk22 _ _ hR hw
      · refine Go_iinc2 (q := 58) (kp := 3) (cst := (1 : Int32)) C dX9_joinClasses_55 rfl rfl (by decide) rfl (fun x55_7 e_x55_7 => ?_)
        have hw := hw x55_7 e_x55_7
        refine Go_lve (lv' := [(5, .int x55_7), (0, .ref (Gad G (34))), (3, .int v3), (4, .int v4)]) rfl ?_
        refine Go_goto (q := 22) C dX9_joinClasses_58 rfl ?_
        refine Go_lvp [1, 2, 3, 0] rfl ?_
        exact hk22 _ _ hR hw
set_option maxRecDepth 100000 in
set_option maxHeartbeats 4000000 in
theorem c_X9_joinClasses (l : Launch) {p0 : Int32} {p1 : Int32} {S : St} {Q : St → Prop} (hR : RCE S) (hw : w_X9_joinClasses p0 p1 S Q) : MetV l yX9_joinClasses (wB yX9_joinClasses cX9_joinClasses 6 none) rm_X9_joinClasses shE NE RCE (fun ad => [.ref (ad (34)), .int p0, .int p1]) S Q := by
  refine MetV_of (cc := cX9_joinClasses) (maxL := 6) (ret := none) (plainFor_of_name (by decide)) (fun _ => Nat.le_of_ble_eq_true rfl) (fun G C hl hQ => ?_)
  subst hl
  have C : Cx G cX9_joinClasses BIG RX9 6 none rm_X9_joinClasses shE NE := C
  show Go G 6 0 [] [(0, .ref (Gad G (34))), (1, .int p0), (2, .int p1)] S
  unfold w_X9_joinClasses at hw
  refine Go_iload_n (q := 1) C 1 rfl dX9_joinClasses_0 rfl ?_
  refine Go_iload_n (q := 2) C 2 rfl dX9_joinClasses_1 rfl ?_
  refine Go_icmp_ne (t := 6) (q := 5) C hw dX9_joinClasses_2 rfl rfl (fun hw => ?_) (fun hw => ?_)
  · exact Go_vret C hQ hR hw dX9_joinClasses_5
  · refine Go_iload_n (q := 7) C 1 rfl dX9_joinClasses_6 rfl ?_
    refine Go_iload_n (q := 8) C 2 rfl dX9_joinClasses_7 rfl ?_
    refine Go_mmin (q := 11) C wm_12_8 wm_12_9 wm_11_15 wm_12_10 (by first | decide | (dsimp only; omega)) (Nat.le_of_ble_eq_true rfl) dX9_joinClasses_8 rfl ?_
    refine Go_topi (fun x11_1 e_x11_1 => ?_)
    have hw := hw x11_1 e_x11_1
    refine Go_istore_n (q := 12) (lv' := [(3, .int x11_1), (0, .ref (Gad G (34))), (1, .int p0), (2, .int p1)]) C rfl dX9_joinClasses_11 (by decide) rfl rfl ?_
    refine Go_iload_n (q := 13) C 2 rfl dX9_joinClasses_12 rfl ?_
    refine Go_iload_n (q := 14) C 3 rfl dX9_joinClasses_13 rfl ?_
    refine Go_mmax (q := 17) C wm_12_11 wm_11_14 wm_11_15 wm_11_16 (by first | decide | (dsimp only; omega)) (Nat.le_of_ble_eq_true rfl) dX9_joinClasses_14 rfl ?_
    refine Go_topi (fun x17_2 e_x17_2 => ?_)
    have hw := hw x17_2 e_x17_2
    refine Go_istore (q := 19) (lv' := [(4, .int x17_2), (3, .int x11_1), (0, .ref (Gad G (34))), (1, .int p0), (2, .int p1)]) C dX9_joinClasses_17 (by decide) rfl rfl ?_
    refine Go_iconst (q := 20) (v := (0 : Int32)) C dX9_joinClasses_19 rfl rfl ?_
    refine Go_istore (q := 22) (lv' := [(5, .int (0 : Int32)), (4, .int x17_2), (3, .int x11_1), (0, .ref (Gad G (34))), (1, .int p0), (2, .int p1)]) C dX9_joinClasses_20 (by decide) rfl rfl ?_
    refine Go_lvp [3, 2, 1, 0] rfl ?_
    exact g_X9_joinClasses_22 C hQ _ _ _ hR hw
-- X9_addRhymes
abbrev rm_X9_addRhymes : Room := { frames := 2, cells := 0, slots := 0, locals := 47 }
set_option maxRecDepth 100000 in
set_option maxHeartbeats 4000000 in
theorem g_X9_addRhymes_22 {G : GC} (C : Cx G cX9_addRhymes BIG RX9 5 none rm_X9_addRhymes shE NE) {Q : St → Prop} (hQ : QV G RCE Q) (p0 : Nat) (hp0 : isE4 p0) (v2 : Int32) (v3 : Int32) {k2 : Int32 → St → Prop} (hk2 : ∀ (v2 : Int32) (S : St), RCE S → k2 v2 S → Go G 5 2 [] [(0, .ref (Gad G (34))), (1, .ref (Gad G (p0))), (2, .int v2)] S) (v4 : Int32) {S : St} (hR : RCE S) (hw : w_X9_addRhymes_22 p0 k2 v2 v3 v4 S) : Go G 5 22 [] [(0, .ref (Gad G (34))), (1, .ref (Gad G (p0))), (2, .int v2), (3, .int v3), (4, .int v4)] S := by
  obtain ⟨n, hw⟩ := hw
  induction n generalizing v4 S with
  | zero => exact hw.elim
  | succ n ih =>
    have hw : b_X9_addRhymes_22 p0 k2 v2 v3 (lpn (fun _ _ => False) (b_X9_addRhymes_22 p0 k2 v2 v3) n) v4 S := hw
    generalize lpn (fun _ _ => False) (b_X9_addRhymes_22 p0 k2 v2 v3) n = kf at hw ih
    have hk22 := fun (v4 : Int32) (S : St) (hR : RCE S) hw => ih v4 hR hw
    unfold b_X9_addRhymes_22 at hw
    refine Go_iload_n (q := 23) C 3 rfl dX9_addRhymes_22 rfl ?_
    refine Go_if_eq (t := 82) (q := 26) C hw dX9_addRhymes_23 rfl rfl (fun hw => ?_) (fun hw => ?_)
    · refine Go_iinc2 (q := 85) (kp := 2) (cst := (1 : Int32)) C dX9_addRhymes_82 rfl rfl (by decide) rfl (fun x82_3 e_x82_3 => ?_)
      have hw := hw x82_3 e_x82_3
      refine Go_lve (lv' := [(2, .int x82_3), (0, .ref (Gad G (34))), (1, .ref (Gad G (p0))), (3, .int v3), (4, .int v4)]) rfl ?_
      refine Go_goto (q := 2) C dX9_addRhymes_85 rfl ?_
      refine Go_lvp [1, 2, 0] rfl ?_
      exact hk2 _ _ hR hw
    · refine Go_iload (q := 28) C 4 rfl dX9_addRhymes_26 rfl ?_
      refine Go_iload_n (q := 29) C 2 rfl dX9_addRhymes_28 rfl ?_
      refine Go_icmp_ge (t := 82) (q := 32) C hw dX9_addRhymes_29 rfl rfl (fun hw => ?_) (fun hw => ?_)
      · refine Go_iinc2 (q := 85) (kp := 2) (cst := (1 : Int32)) C dX9_addRhymes_82 rfl rfl (by decide) rfl (fun x82_4 e_x82_4 => ?_)
        have hw := hw x82_4 e_x82_4
        refine Go_lve (lv' := [(2, .int x82_4), (0, .ref (Gad G (34))), (1, .ref (Gad G (p0))), (3, .int v3), (4, .int v4)]) rfl ?_
        refine Go_goto (q := 2) C dX9_addRhymes_85 rfl ?_
        refine Go_lvp [1, 2, 0] rfl ?_
        exact hk2 _ _ hR hw
      · refine Go_iload_n (q := 33) C 3 rfl dX9_addRhymes_32 rfl ?_
        refine Go_iload (q := 35) C 4 rfl dX9_addRhymes_33 rfl ?_
        refine Go_ishr (q := 36) C dX9_addRhymes_35 rfl ?_
        refine Go_iconst (q := 37) (v := (1 : Int32)) C dX9_addRhymes_36 rfl rfl ?_
        refine Go_iand (q := 38) C dX9_addRhymes_37 rfl ?_
        refine Go_if_eq (t := 76) (q := 41) C hw dX9_addRhymes_38 rfl rfl (fun hw => ?_) (fun hw => ?_)
        · refine Go_iinc2 (q := 79) (kp := 4) (cst := (1 : Int32)) C dX9_addRhymes_76 rfl rfl (by decide) rfl (fun x76_5 e_x76_5 => ?_)
          have hw := hw x76_5 e_x76_5
          refine Go_lve (lv' := [(4, .int x76_5), (0, .ref (Gad G (34))), (1, .ref (Gad G (p0))), (2, .int v2), (3, .int v3)]) rfl ?_
          refine Go_goto (q := 22) C dX9_addRhymes_79 rfl ?_
          refine Go_lvp [1, 2, 3, 4, 0] rfl ?_
          exact hk22 _ _ hR hw
        · refine Go_aload_n (q := 42) C 0 rfl dX9_addRhymes_41 rfl ?_
          refine Go_aload_n (q := 43) C 0 rfl dX9_addRhymes_42 rfl ?_
          refine Go_getA (q := 46) (k := 3) C ci9 iw_9 kE_34 (rE_34_3 hR) rfl wm_7_18 rfl dX9_addRhymes_43 rfl ?_
          refine Go_aload_n (q := 47) C 0 rfl dX9_addRhymes_46 rfl ?_
          refine Go_getA (q := 50) (k := 5) C ci9 iw_9 kE_34 (rE_34_5 hR) rfl wm_7_20 rfl dX9_addRhymes_47 rfl ?_
          refine Go_iload_n (q := 51) C 2 rfl dX9_addRhymes_50 rfl ?_
          refine Go_callSN_I (av := (fun ad => [.ref (ad (41)), .int v2])) (st := [.ref (Gad G (39)), .ref (Gad G (34))]) (C := C) (hM := c_X11_cell (Gl G) (ok_ln kE_41) hR hw) (host := "EndsRound") (hnw := nw_77) (hini := wm_1_2) (hst2 := wm_10_22) (hcode := wm_10_23) (n := 2) (hd := by decide +kernel) (hr0 := ⟨rfl, rfl⟩) (hroom := ⟨by first | decide | (dsimp only; omega), by first | decide | (dsimp only; omega)⟩) (hlen := rfl) (hst := rfl) (hW := Nat.le_of_ble_eq_true rfl) (hdg := dX9_addRhymes_51) (q := 54) (hq := rfl) (fun r51_7 S51_6 hw hR => ?_)
          refine Go_callSN_I (av := (fun ad => [.ref (ad (39)), .int r51_7])) (st := [.ref (Gad G (34))]) (C := C) (hM := c_X11_cell (Gl G) (ok_ln kE_39) hR hw) (host := "EndsRound") (hnw := nw_77) (hini := wm_1_2) (hst2 := wm_10_22) (hcode := wm_10_23) (n := 2) (hd := by decide +kernel) (hr0 := ⟨rfl, rfl⟩) (hroom := ⟨by first | decide | (dsimp only; omega), by first | decide | (dsimp only; omega)⟩) (hlen := rfl) (hst := rfl) (hW := Nat.le_of_ble_eq_true rfl) (hdg := dX9_addRhymes_54) (q := 57) (hq := rfl) (fun r54_9 S54_8 hw hR => ?_)
          refine Go_aload_n (q := 58) C 0 rfl dX9_addRhymes_57 rfl ?_
          refine Go_getA (q := 61) (k := 3) C ci9 iw_9 kE_34 (rE_34_3 hR) rfl wm_7_18 rfl dX9_addRhymes_58 rfl ?_
          refine Go_aload_n (q := 62) C 0 rfl dX9_addRhymes_61 rfl ?_
          refine Go_getA (q := 65) (k := 5) C ci9 iw_9 kE_34 (rE_34_5 hR) rfl wm_7_20 rfl dX9_addRhymes_62 rfl ?_
          refine Go_iload (q := 67) C 4 rfl dX9_addRhymes_65 rfl ?_
          refine Go_callSN_I (av := (fun ad => [.ref (ad (41)), .int v4])) (st := [.ref (Gad G (39)), .int r54_9, .ref (Gad G (34))]) (C := C) (hM := c_X11_cell (Gl G) (ok_ln kE_41) hR hw) (host := "EndsRound") (hnw := nw_77) (hini := wm_1_2) (hst2 := wm_10_22) (hcode := wm_10_23) (n := 2) (hd := by decide +kernel) (hr0 := ⟨rfl, rfl⟩) (hroom := ⟨by first | decide | (dsimp only; omega), by first | decide | (dsimp only; omega)⟩) (hlen := rfl) (hst := rfl) (hW := Nat.le_of_ble_eq_true rfl) (hdg := dX9_addRhymes_67) (q := 70) (hq := rfl) (fun r67_11 S67_10 hw hR => ?_)
          refine Go_callSN_I (av := (fun ad => [.ref (ad (39)), .int r67_11])) (st := [.int r54_9, .ref (Gad G (34))]) (C := C) (hM := c_X11_cell (Gl G) (ok_ln kE_39) hR hw) (host := "EndsRound") (hnw := nw_77) (hini := wm_1_2) (hst2 := wm_10_22) (hcode := wm_10_23) (n := 2) (hd := by decide +kernel) (hr0 := ⟨rfl, rfl⟩) (hroom := ⟨by first | decide | (dsimp only; omega), by first | decide | (dsimp only; omega)⟩) (hlen := rfl) (hst := rfl) (hW := Nat.le_of_ble_eq_true rfl) (hdg := dX9_addRhymes_70) (q := 73) (hq := rfl) (fun r70_13 S70_12 hw hR => ?_)
          refine Go_callV_V (av := (fun ad => [.int r54_9, .int r70_13])) (st := []) (C := C) (hM := c_X9_joinClasses (Gl G) hR hw) (hlk := wm_12_4) (hini := wm_2_8) (hins := wm_12_5) (hsel := wm_12_6) (hcode := wm_12_7) (ho := kE_34) (hci := rfl) (hc13 := by decide) (n := 2) (hd := by decide +kernel) (hr0 := ⟨rfl, rfl⟩) (hroom := ⟨by first | decide | (dsimp only; omega), by first | decide | (dsimp only; omega)⟩) (hlen := rfl) (hst := rfl) (hW := Nat.le_of_ble_eq_true rfl) (hdg := dX9_addRhymes_73) (q := 76) (hq := rfl) (fun S73_14 hw hR => ?_)
          refine Go_iinc2 (q := 79) (kp := 4) (cst := (1 : Int32)) C dX9_addRhymes_76 rfl rfl (by decide) rfl (fun x76_15 e_x76_15 => ?_)
          have hw := hw x76_15 e_x76_15
          refine Go_lve (lv' := [(4, .int x76_15), (0, .ref (Gad G (34))), (1, .ref (Gad G (p0))), (2, .int v2), (3, .int v3)]) rfl ?_
          refine Go_goto (q := 22) C dX9_addRhymes_79 rfl ?_
          refine Go_lvp [1, 2, 3, 4, 0] rfl ?_
          exact hk22 _ _ hR hw
set_option maxRecDepth 100000 in
set_option maxHeartbeats 4000000 in
theorem g_X9_addRhymes_2 {G : GC} (C : Cx G cX9_addRhymes BIG RX9 5 none rm_X9_addRhymes shE NE) {Q : St → Prop} (hQ : QV G RCE Q) (p0 : Nat) (hp0 : isE4 p0) (v2 : Int32) {S : St} (hR : RCE S) (hw : w_X9_addRhymes_2 p0 Q v2 S) : Go G 5 2 [] [(0, .ref (Gad G (34))), (1, .ref (Gad G (p0))), (2, .int v2)] S := by
  obtain ⟨n, hw⟩ := hw
  induction n generalizing v2 S with
  | zero => exact hw.elim
  | succ n ih =>
    have hw : b_X9_addRhymes_2 p0 Q (lpn (fun _ _ => False) (b_X9_addRhymes_2 p0 Q) n) v2 S := hw
    generalize lpn (fun _ _ => False) (b_X9_addRhymes_2 p0 Q) n = kf at hw ih
    have hk2 := fun (v2 : Int32) (S : St) (hR : RCE S) hw => ih v2 hR hw
    unfold b_X9_addRhymes_2 at hw
    refine Go_iload_n (q := 3) C 2 rfl dX9_addRhymes_2 rfl ?_
    refine Go_aload_n (q := 4) C 0 rfl dX9_addRhymes_3 rfl ?_
    refine Go_getI (q := 7) (k := 7) C ci9 iw_9 kE_34 rfl wm_10_19 rfl dX9_addRhymes_4 rfl ?_
    refine Go_icmp_ge (t := 88) (q := 10) C hw dX9_addRhymes_7 rfl rfl (fun hw => ?_) (fun hw => ?_)
    · exact Go_vret C hQ hR hw dX9_addRhymes_88
    · refine Go_aload_n (q := 11) C 1 rfl dX9_addRhymes_10 rfl ?_
      refine Go_getAN (q := 14) (k := 8) (host := "EndsRound") C ci4 iw_4 (oE4 hp0) (rE4_8 hR hp0) rfl nw_29 rfl dX9_addRhymes_11 rfl ?_
      refine Go_iload_n (q := 15) C 2 rfl dX9_addRhymes_14 rfl ?_
      refine Go_callSN_I (av := (fun ad => [.ref (ad ((p0 + 2))), .int v2])) (st := []) (C := C) (hM := c_X11_cell (Gl G) (ok_ln (oE4_8 hp0)) hR hw) (host := "EndsRound") (hnw := nw_77) (hini := wm_1_2) (hst2 := wm_10_22) (hcode := wm_10_23) (n := 2) (hd := by decide +kernel) (hr0 := ⟨rfl, rfl⟩) (hroom := ⟨by first | decide | (dsimp only; omega), by first | decide | (dsimp only; omega)⟩) (hlen := rfl) (hst := rfl) (hW := Nat.le_of_ble_eq_true rfl) (hdg := dX9_addRhymes_15) (q := 18) (hq := rfl) (fun r15_2 S15_1 hw hR => ?_)
      refine Go_istore_n (q := 19) (lv' := [(3, .int r15_2), (0, .ref (Gad G (34))), (1, .ref (Gad G (p0))), (2, .int v2)]) C rfl dX9_addRhymes_18 (by decide) rfl rfl ?_
      refine Go_iconst (q := 20) (v := (0 : Int32)) C dX9_addRhymes_19 rfl rfl ?_
      refine Go_istore (q := 22) (lv' := [(4, .int (0 : Int32)), (3, .int r15_2), (0, .ref (Gad G (34))), (1, .ref (Gad G (p0))), (2, .int v2)]) C dX9_addRhymes_20 (by decide) rfl rfl ?_
      refine Go_lvp [2, 3, 4, 1, 0] rfl ?_
      exact g_X9_addRhymes_22 C hQ p0 hp0 _ _ hk2 _ hR hw
set_option maxRecDepth 100000 in
set_option maxHeartbeats 4000000 in
theorem c_X9_addRhymes (l : Launch) {p0 : Nat} (hp0 : isE4 p0) {S : St} {Q : St → Prop} (hR : RCE S) (hw : w_X9_addRhymes p0 S Q) : MetV l yX9_addRhymes (wB yX9_addRhymes cX9_addRhymes 5 none) rm_X9_addRhymes shE NE RCE (fun ad => [.ref (ad (34)), .ref (ad (p0))]) S Q := by
  refine MetV_of (cc := cX9_addRhymes) (maxL := 5) (ret := none) (plainFor_of_name (by decide)) (fun _ => Nat.le_of_ble_eq_true rfl) (fun G C hl hQ => ?_)
  subst hl
  have C : Cx G cX9_addRhymes BIG RX9 5 none rm_X9_addRhymes shE NE := C
  show Go G 5 0 [] [(0, .ref (Gad G (34))), (1, .ref (Gad G (p0)))] S
  unfold w_X9_addRhymes at hw
  refine Go_iconst (q := 1) (v := (0 : Int32)) C dX9_addRhymes_0 rfl rfl ?_
  refine Go_istore_n (q := 2) (lv' := [(2, .int (0 : Int32)), (0, .ref (Gad G (34))), (1, .ref (Gad G (p0)))]) C rfl dX9_addRhymes_1 (by decide) rfl rfl ?_
  refine Go_lvp [1, 2, 0] rfl ?_
  exact g_X9_addRhymes_2 C hQ p0 hp0 _ hR hw
-- X9_turnRow
abbrev rm_X9_turnRow : Room := { frames := 1, cells := 0, slots := 0, locals := 22 }
set_option maxRecDepth 100000 in
set_option maxHeartbeats 4000000 in
theorem g_X9_turnRow_2 {G : GC} (C : Cx G cX9_turnRow BIG RX9 2 none rm_X9_turnRow shE NE) {Q : St → Prop} (hQ : QV G RCE Q) (v1 : Int32) {S : St} (hR : RCE S) (hw : w_X9_turnRow_2 Q v1 S) : Go G 2 2 [] [(0, .ref (Gad G (34))), (1, .int v1)] S := by
  obtain ⟨n, hw⟩ := hw
  induction n generalizing v1 S with
  | zero => exact hw.elim
  | succ n ih =>
    have hw : b_X9_turnRow_2 Q (lpn (fun _ _ => False) (b_X9_turnRow_2 Q) n) v1 S := hw
    generalize lpn (fun _ _ => False) (b_X9_turnRow_2 Q) n = kf at hw ih
    have hk2 := fun (v1 : Int32) (S : St) (hR : RCE S) hw => ih v1 hR hw
    unfold b_X9_turnRow_2 at hw
    refine Go_iload_n (q := 3) C 1 rfl dX9_turnRow_2 rfl ?_
    refine Go_aload_n (q := 4) C 0 rfl dX9_turnRow_3 rfl ?_
    refine Go_getI (q := 7) (k := 7) C ci9 iw_9 kE_34 rfl wm_10_19 rfl dX9_turnRow_4 rfl ?_
    refine Go_icmp_ge (t := 39) (q := 10) C hw dX9_turnRow_7 rfl rfl (fun hw => ?_) (fun hw => ?_)
    · refine Go_aload_n (q := 40) C 0 rfl dX9_turnRow_39 rfl ?_
      refine Go_getA (q := 43) (k := 6) C ci9 iw_9 kE_34 (rE_34_6 hR) rfl wm_7_21 rfl dX9_turnRow_40 rfl ?_
      refine Go_aload_n (q := 44) C 0 rfl dX9_turnRow_43 rfl ?_
      refine Go_getA (q := 47) (k := 5) C ci9 iw_9 kE_34 (rE_34_5 hR) rfl wm_7_20 rfl dX9_turnRow_44 rfl ?_
      refine Go_callSN_V (av := (fun ad => [.ref (ad (42)), .ref (ad (41))])) (st := []) (C := C) (hM := c_X11_copyRow (Gl G) (ok_ln kE_42) (ok_ln kE_41) hR hw) (host := "EndsRound") (hnw := nw_76) (hini := wm_1_2) (hst2 := wm_10_20) (hcode := wm_10_21) (n := 2) (hd := by decide +kernel) (hr0 := ⟨rfl, rfl⟩) (hroom := ⟨by first | decide | (dsimp only; omega), by first | decide | (dsimp only; omega)⟩) (hlen := rfl) (hst := rfl) (hW := Nat.le_of_ble_eq_true rfl) (hdg := dX9_turnRow_47) (q := 50) (hq := rfl) (fun S47_1 hw hR => ?_)
      exact Go_vret C hQ hR hw dX9_turnRow_50
    · refine Go_aload_n (q := 11) C 0 rfl dX9_turnRow_10 rfl ?_
      refine Go_getA (q := 14) (k := 6) C ci9 iw_9 kE_34 (rE_34_6 hR) rfl wm_7_21 rfl dX9_turnRow_11 rfl ?_
      refine Go_iload_n (q := 15) C 1 rfl dX9_turnRow_14 rfl ?_
      refine Go_aload_n (q := 16) C 0 rfl dX9_turnRow_15 rfl ?_
      refine Go_getA (q := 19) (k := 5) C ci9 iw_9 kE_34 (rE_34_5 hR) rfl wm_7_20 rfl dX9_turnRow_16 rfl ?_
      refine Go_aload_n (q := 20) C 0 rfl dX9_turnRow_19 rfl ?_
      refine Go_getA (q := 23) (k := 1) C ci9 iw_9 kE_34 (rE_34_1 hR) rfl wm_7_16 rfl dX9_turnRow_20 rfl ?_
      refine Go_iload_n (q := 24) C 1 rfl dX9_turnRow_23 rfl ?_
      refine Go_callSN_I (av := (fun ad => [.ref (ad (37)), .int v1])) (st := [.ref (Gad G (41)), .int v1, .ref (Gad G (42))]) (C := C) (hM := c_X11_cell (Gl G) (ok_ln kE_37) hR hw) (host := "EndsRound") (hnw := nw_77) (hini := wm_1_2) (hst2 := wm_10_22) (hcode := wm_10_23) (n := 2) (hd := by decide +kernel) (hr0 := ⟨rfl, rfl⟩) (hroom := ⟨by first | decide | (dsimp only; omega), by first | decide | (dsimp only; omega)⟩) (hlen := rfl) (hst := rfl) (hW := Nat.le_of_ble_eq_true rfl) (hdg := dX9_turnRow_24) (q := 27) (hq := rfl) (fun r24_3 S24_2 hw hR => ?_)
      refine Go_callSN_I (av := (fun ad => [.ref (ad (41)), .int r24_3])) (st := [.int v1, .ref (Gad G (42))]) (C := C) (hM := c_X11_cell (Gl G) (ok_ln kE_41) hR hw) (host := "EndsRound") (hnw := nw_77) (hini := wm_1_2) (hst2 := wm_10_22) (hcode := wm_10_23) (n := 2) (hd := by decide +kernel) (hr0 := ⟨rfl, rfl⟩) (hroom := ⟨by first | decide | (dsimp only; omega), by first | decide | (dsimp only; omega)⟩) (hlen := rfl) (hst := rfl) (hW := Nat.le_of_ble_eq_true rfl) (hdg := dX9_turnRow_27) (q := 30) (hq := rfl) (fun r27_5 S27_4 hw hR => ?_)
      refine Go_callSN_V (av := (fun ad => [.ref (ad (42)), .int v1, .int r27_5])) (st := []) (C := C) (hM := c_X11_put (Gl G) (ok_ln kE_42) hR hw) (host := "EndsRound") (hnw := nw_78) (hini := wm_1_2) (hst2 := wm_10_11) (hcode := wm_10_12) (n := 3) (hd := by decide +kernel) (hr0 := ⟨rfl, rfl⟩) (hroom := ⟨by first | decide | (dsimp only; omega), by first | decide | (dsimp only; omega)⟩) (hlen := rfl) (hst := rfl) (hW := Nat.le_of_ble_eq_true rfl) (hdg := dX9_turnRow_30) (q := 33) (hq := rfl) (fun S30_6 hw hR => ?_)
      refine Go_iinc2 (q := 36) (kp := 1) (cst := (1 : Int32)) C dX9_turnRow_33 rfl rfl (by decide) rfl (fun x33_7 e_x33_7 => ?_)
      have hw := hw x33_7 e_x33_7
      refine Go_lve (lv' := [(1, .int x33_7), (0, .ref (Gad G (34)))]) rfl ?_
      refine Go_goto (q := 2) C dX9_turnRow_36 rfl ?_
      refine Go_lvp [1, 0] rfl ?_
      exact hk2 _ _ hR hw
set_option maxRecDepth 100000 in
set_option maxHeartbeats 4000000 in
theorem c_X9_turnRow (l : Launch) {S : St} {Q : St → Prop} (hR : RCE S) (hw : w_X9_turnRow S Q) : MetV l yX9_turnRow (wB yX9_turnRow cX9_turnRow 2 none) rm_X9_turnRow shE NE RCE (fun ad => [.ref (ad (34))]) S Q := by
  refine MetV_of (cc := cX9_turnRow) (maxL := 2) (ret := none) (plainFor_of_name (by decide)) (fun _ => Nat.le_of_ble_eq_true rfl) (fun G C hl hQ => ?_)
  subst hl
  have C : Cx G cX9_turnRow BIG RX9 2 none rm_X9_turnRow shE NE := C
  show Go G 2 0 [] [(0, .ref (Gad G (34)))] S
  unfold w_X9_turnRow at hw
  refine Go_iconst (q := 1) (v := (0 : Int32)) C dX9_turnRow_0 rfl rfl ?_
  refine Go_istore_n (q := 2) (lv' := [(1, .int (0 : Int32)), (0, .ref (Gad G (34)))]) C rfl dX9_turnRow_1 (by decide) rfl rfl ?_
  refine Go_lvp [1, 0] rfl ?_
  exact g_X9_turnRow_2 C hQ _ hR hw
-- X9_follow
abbrev rm_X9_follow : Room := { frames := 3, cells := 0, slots := 0, locals := 78 }
set_option maxRecDepth 100000 in
set_option maxHeartbeats 4000000 in
theorem g_X9_follow_108 {G : GC} (C : Cx G cX9_follow BIG RX9 4 none rm_X9_follow shE NE) {Q : St → Prop} (hQ : QV G RCE Q) (p0 : Nat) (hp0 : isE4 p0) (v2 : Int64) {S : St} (hR : RCE S) (hw : w_X9_follow_108 p0 Q v2 S) : Go G 4 108 [] [(0, .ref (Gad G (34))), (1, .ref (Gad G (p0))), (2, .long v2)] S := by
  obtain ⟨n, hw⟩ := hw
  induction n generalizing v2 S with
  | zero => exact hw.elim
  | succ n ih =>
    have hw : b_X9_follow_108 p0 Q (lpn (fun _ _ => False) (b_X9_follow_108 p0 Q) n) v2 S := hw
    generalize lpn (fun _ _ => False) (b_X9_follow_108 p0 Q) n = kf at hw ih
    have hk108 := fun (v2 : Int64) (S : St) (hR : RCE S) hw => ih v2 hR hw
    unfold b_X9_follow_108 at hw
    refine Go_lload_n (q := 109) C 2 rfl dX9_follow_108 rfl ?_
    refine Go_aload_n (q := 110) C 0 rfl dX9_follow_109 rfl ?_
    refine Go_getA (q := 113) (k := 0) C ci9 iw_9 kE_34 (rE_34_0 hR) rfl wm_7_15 rfl dX9_follow_110 rfl ?_
    refine Go_getJN (q := 116) (k := 5) (host := "EndsRound") C ci1 iw_1 kE_35 rfl nw_54 rfl dX9_follow_113 rfl ?_
    refine Go_lcmp_ge (t := 140) (q := 117) (q2 := 120) C hw dX9_follow_116 rfl dX9_follow_117 rfl rfl (fun hw => ?_) (fun hw => ?_)
    · refine Go_aload_n (q := 121) C 0 rfl dX9_follow_120 rfl ?_
      refine Go_callV_V (av := (fun ad => [])) (st := []) (C := C) (hM := c_X9_addNeighbours (Gl G) hR hw) (hlk := wm_11_20) (hini := wm_2_8) (hins := wm_11_21) (hsel := wm_11_22) (hcode := wm_11_23) (ho := kE_34) (hci := rfl) (hc13 := by decide) (n := 0) (hd := by decide +kernel) (hr0 := ⟨rfl, rfl⟩) (hroom := ⟨by first | decide | (dsimp only; omega), by first | decide | (dsimp only; omega)⟩) (hlen := rfl) (hst := rfl) (hW := Nat.le_of_ble_eq_true rfl) (hdg := dX9_follow_121) (q := 124) (hq := rfl) (fun S121_5 hw hR => ?_)
      refine Go_aload_n (q := 125) C 0 rfl dX9_follow_124 rfl ?_
      refine Go_aload_n (q := 126) C 1 rfl dX9_follow_125 rfl ?_
      refine Go_callV_V (av := (fun ad => [.ref (ad (p0))])) (st := []) (C := C) (hM := c_X9_addRhymes (Gl G) hp0 hR hw) (hlk := wm_12_0) (hini := wm_2_8) (hins := wm_12_1) (hsel := wm_12_2) (hcode := wm_12_3) (ho := kE_34) (hci := rfl) (hc13 := by decide) (n := 1) (hd := by decide +kernel) (hr0 := ⟨rfl, rfl⟩) (hroom := ⟨by first | decide | (dsimp only; omega), by first | decide | (dsimp only; omega)⟩) (hlen := rfl) (hst := rfl) (hW := Nat.le_of_ble_eq_true rfl) (hdg := dX9_follow_126) (q := 129) (hq := rfl) (fun S126_6 hw hR => ?_)
      refine Go_aload_n (q := 130) C 0 rfl dX9_follow_129 rfl ?_
      refine Go_callV_V (av := (fun ad => [])) (st := []) (C := C) (hM := c_X9_turnRow (Gl G) hR hw) (hlk := wm_12_12) (hini := wm_2_8) (hins := wm_12_13) (hsel := wm_12_14) (hcode := wm_12_15) (ho := kE_34) (hci := rfl) (hc13 := by decide) (n := 0) (hd := by decide +kernel) (hr0 := ⟨rfl, rfl⟩) (hroom := ⟨by first | decide | (dsimp only; omega), by first | decide | (dsimp only; omega)⟩) (hlen := rfl) (hst := rfl) (hW := Nat.le_of_ble_eq_true rfl) (hdg := dX9_follow_130) (q := 133) (hq := rfl) (fun S130_7 hw hR => ?_)
      refine Go_lload_n (q := 134) C 2 rfl dX9_follow_133 rfl ?_
      refine Go_lconst (q := 135) (v := (1 : Int64)) C dX9_follow_134 rfl rfl ?_
      refine Go_ladd (q := 136) C dX9_follow_135 rfl ?_
      refine Go_topl (fun x136_8 e_x136_8 => ?_)
      have hw := hw x136_8 e_x136_8
      refine Go_lstore_n (q := 137) (lv' := [(2, .long x136_8), (0, .ref (Gad G (34))), (1, .ref (Gad G (p0)))]) C rfl dX9_follow_136 (by decide) rfl rfl ?_
      refine Go_goto (q := 108) C dX9_follow_137 rfl ?_
      refine Go_lvp [1, 2, 0] rfl ?_
      exact hk108 _ _ hR hw
    · exact Go_vret C hQ hR hw dX9_follow_140
set_option maxRecDepth 100000 in
set_option maxHeartbeats 4000000 in
theorem g_X9_follow_76 {G : GC} (C : Cx G cX9_follow BIG RX9 4 none rm_X9_follow shE NE) {Q : St → Prop} (hQ : QV G RCE Q) (p0 : Nat) (hp0 : isE4 p0) (v2 : Int32) {S : St} (hR : RCE S) (hw : w_X9_follow_76 p0 Q v2 S) : Go G 4 76 [] [(0, .ref (Gad G (34))), (1, .ref (Gad G (p0))), (2, .int v2)] S := by
  obtain ⟨n, hw⟩ := hw
  induction n generalizing v2 S with
  | zero => exact hw.elim
  | succ n ih =>
    have hw : b_X9_follow_76 p0 Q (lpn (fun _ _ => False) (b_X9_follow_76 p0 Q) n) v2 S := hw
    generalize lpn (fun _ _ => False) (b_X9_follow_76 p0 Q) n = kf at hw ih
    have hk76 := fun (v2 : Int32) (S : St) (hR : RCE S) hw => ih v2 hR hw
    unfold b_X9_follow_76 at hw
    refine Go_iload_n (q := 77) C 2 rfl dX9_follow_76 rfl ?_
    refine Go_bipush (q := 79) (v := (12 : Int32)) C dX9_follow_77 rfl rfl ?_
    refine Go_icmp_ge (t := 106) (q := 82) C hw dX9_follow_79 rfl rfl (fun hw => ?_) (fun hw => ?_)
    · refine Go_lconst (q := 107) (v := (0 : Int64)) C dX9_follow_106 rfl rfl ?_
      refine Go_lstore_n (q := 108) (lv' := [(2, .long (0 : Int64)), (0, .ref (Gad G (34))), (1, .ref (Gad G (p0)))]) C rfl dX9_follow_107 (by decide) rfl rfl ?_
      refine Go_lvp [1, 2, 0] rfl ?_
      exact g_X9_follow_108 C hQ p0 hp0 _ hR hw
    · refine Go_aload_n (q := 83) C 0 rfl dX9_follow_82 rfl ?_
      refine Go_getA (q := 86) (k := 5) C ci9 iw_9 kE_34 (rE_34_5 hR) rfl wm_7_20 rfl dX9_follow_83 rfl ?_
      refine Go_iload_n (q := 87) C 2 rfl dX9_follow_86 rfl ?_
      refine Go_iload_n (q := 88) C 2 rfl dX9_follow_87 rfl ?_
      refine Go_callSN_V (av := (fun ad => [.ref (ad (41)), .int v2, .int v2])) (st := []) (C := C) (hM := c_X11_put (Gl G) (ok_ln kE_41) hR hw) (host := "EndsRound") (hnw := nw_78) (hini := wm_1_2) (hst2 := wm_10_11) (hcode := wm_10_12) (n := 3) (hd := by decide +kernel) (hr0 := ⟨rfl, rfl⟩) (hroom := ⟨by first | decide | (dsimp only; omega), by first | decide | (dsimp only; omega)⟩) (hlen := rfl) (hst := rfl) (hW := Nat.le_of_ble_eq_true rfl) (hdg := dX9_follow_88) (q := 91) (hq := rfl) (fun S88_9 hw hR => ?_)
      refine Go_aload_n (q := 92) C 0 rfl dX9_follow_91 rfl ?_
      refine Go_getA (q := 95) (k := 3) C ci9 iw_9 kE_34 (rE_34_3 hR) rfl wm_7_18 rfl dX9_follow_92 rfl ?_
      refine Go_iload_n (q := 96) C 2 rfl dX9_follow_95 rfl ?_
      refine Go_iload_n (q := 97) C 2 rfl dX9_follow_96 rfl ?_
      refine Go_callSN_V (av := (fun ad => [.ref (ad (39)), .int v2, .int v2])) (st := []) (C := C) (hM := c_X11_put (Gl G) (ok_ln kE_39) hR hw) (host := "EndsRound") (hnw := nw_78) (hini := wm_1_2) (hst2 := wm_10_11) (hcode := wm_10_12) (n := 3) (hd := by decide +kernel) (hr0 := ⟨rfl, rfl⟩) (hroom := ⟨by first | decide | (dsimp only; omega), by first | decide | (dsimp only; omega)⟩) (hlen := rfl) (hst := rfl) (hW := Nat.le_of_ble_eq_true rfl) (hdg := dX9_follow_97) (q := 100) (hq := rfl) (fun S97_10 hw hR => ?_)
      refine Go_iinc2 (q := 103) (kp := 2) (cst := (1 : Int32)) C dX9_follow_100 rfl rfl (by decide) rfl (fun x100_11 e_x100_11 => ?_)
      have hw := hw x100_11 e_x100_11
      refine Go_lve (lv' := [(2, .int x100_11), (0, .ref (Gad G (34))), (1, .ref (Gad G (p0)))]) rfl ?_
      refine Go_goto (q := 76) C dX9_follow_103 rfl ?_
      refine Go_lvp [1, 2, 0] rfl ?_
      exact hk76 _ _ hR hw
set_option maxRecDepth 100000 in
set_option maxHeartbeats 4000000 in
theorem g_X9_follow_21 {G : GC} (C : Cx G cX9_follow BIG RX9 4 none rm_X9_follow shE NE) {Q : St → Prop} (hQ : QV G RCE Q) (p0 : Nat) (hp0 : isE4 p0) (v2 : Int32) {S : St} (hR : RCE S) (hw : w_X9_follow_21 p0 Q v2 S) : Go G 4 21 [] [(0, .ref (Gad G (34))), (1, .ref (Gad G (p0))), (2, .int v2)] S := by
  obtain ⟨n, hw⟩ := hw
  induction n generalizing v2 S with
  | zero => exact hw.elim
  | succ n ih =>
    have hw : b_X9_follow_21 p0 Q (lpn (fun _ _ => False) (b_X9_follow_21 p0 Q) n) v2 S := hw
    generalize lpn (fun _ _ => False) (b_X9_follow_21 p0 Q) n = kf at hw ih
    have hk21 := fun (v2 : Int32) (S : St) (hR : RCE S) hw => ih v2 hR hw
    unfold b_X9_follow_21 at hw
    refine Go_iload_n (q := 22) C 2 rfl dX9_follow_21 rfl ?_
    refine Go_aload_n (q := 23) C 0 rfl dX9_follow_22 rfl ?_
    refine Go_getI (q := 26) (k := 7) C ci9 iw_9 kE_34 rfl wm_10_19 rfl dX9_follow_23 rfl ?_
    refine Go_icmp_ge (t := 51) (q := 29) C hw dX9_follow_26 rfl rfl (fun hw => ?_) (fun hw => ?_)
    · refine Go_aload_n (q := 52) C 0 rfl dX9_follow_51 rfl ?_
      refine Go_getA (q := 55) (k := 0) C ci9 iw_9 kE_34 (rE_34_0 hR) rfl wm_7_15 rfl dX9_follow_52 rfl ?_
      refine Go_aload_n (q := 56) C 0 rfl dX9_follow_55 rfl ?_
      refine Go_getA (q := 59) (k := 1) C ci9 iw_9 kE_34 (rE_34_1 hR) rfl wm_7_16 rfl dX9_follow_56 rfl ?_
      refine Go_aload_n (q := 60) C 0 rfl dX9_follow_59 rfl ?_
      refine Go_getI (q := 63) (k := 7) C ci9 iw_9 kE_34 rfl wm_10_19 rfl dX9_follow_60 rfl ?_
      refine Go_callV_V (av := (fun ad => [.ref (ad (37)), .int (gI S 34 7)])) (st := []) (C := C) (hM := c_X1_follow (Gl G) isE1_35 (ok_ln kE_37) hR hw) (hlk := wm_11_0) (hini := wm_3_4) (hins := wm_11_1) (hsel := wm_11_2) (hcode := wm_11_3) (ho := kE_35) (hci := rfl) (hc13 := by decide) (n := 2) (hd := by decide +kernel) (hr0 := ⟨rfl, rfl⟩) (hroom := ⟨by first | decide | (dsimp only; omega), by first | decide | (dsimp only; omega)⟩) (hlen := rfl) (hst := rfl) (hW := Nat.le_of_ble_eq_true rfl) (hdg := dX9_follow_63) (q := 66) (hq := rfl) (fun S63_3 hw hR => ?_)
      refine Go_aload_n (q := 67) C 0 rfl dX9_follow_66 rfl ?_
      refine Go_getA (q := 70) (k := 4) C ci9 iw_9 kE_34 (rE_34_4 hR) rfl wm_7_19 rfl dX9_follow_67 rfl ?_
      refine Go_iconst (q := 71) (v := (0 : Int32)) C dX9_follow_70 rfl rfl ?_
      refine Go_callSN_V (av := (fun ad => [.ref (ad (40)), .int (0 : Int32)])) (st := []) (C := C) (hM := c_X11_blank (Gl G) (ok_ln kE_40) hR hw) (host := "EndsRound") (hnw := nw_82) (hini := wm_1_2) (hst2 := wm_10_13) (hcode := wm_10_14) (n := 2) (hd := by decide +kernel) (hr0 := ⟨rfl, rfl⟩) (hroom := ⟨by first | decide | (dsimp only; omega), by first | decide | (dsimp only; omega)⟩) (hlen := rfl) (hst := rfl) (hW := Nat.le_of_ble_eq_true rfl) (hdg := dX9_follow_71) (q := 74) (hq := rfl) (fun S71_4 hw hR => ?_)
      refine Go_iconst (q := 75) (v := (0 : Int32)) C dX9_follow_74 rfl rfl ?_
      refine Go_istore_n (q := 76) (lv' := [(2, .int (0 : Int32)), (0, .ref (Gad G (34))), (1, .ref (Gad G (p0)))]) C rfl dX9_follow_75 (by decide) rfl rfl ?_
      refine Go_lvp [1, 2, 0] rfl ?_
      exact g_X9_follow_76 C hQ p0 hp0 _ hR hw
    · refine Go_aload_n (q := 30) C 0 rfl dX9_follow_29 rfl ?_
      refine Go_getA (q := 33) (k := 2) C ci9 iw_9 kE_34 (rE_34_2 hR) rfl wm_7_17 rfl dX9_follow_30 rfl ?_
      refine Go_aload_n (q := 34) C 0 rfl dX9_follow_33 rfl ?_
      refine Go_getA (q := 37) (k := 1) C ci9 iw_9 kE_34 (rE_34_1 hR) rfl wm_7_16 rfl dX9_follow_34 rfl ?_
      refine Go_iload_n (q := 38) C 2 rfl dX9_follow_37 rfl ?_
      refine Go_callSN_I (av := (fun ad => [.ref (ad (37)), .int v2])) (st := [.ref (Gad G (38))]) (C := C) (hM := c_X11_cell (Gl G) (ok_ln kE_37) hR hw) (host := "EndsRound") (hnw := nw_77) (hini := wm_1_2) (hst2 := wm_10_22) (hcode := wm_10_23) (n := 2) (hd := by decide +kernel) (hr0 := ⟨rfl, rfl⟩) (hroom := ⟨by first | decide | (dsimp only; omega), by first | decide | (dsimp only; omega)⟩) (hlen := rfl) (hst := rfl) (hW := Nat.le_of_ble_eq_true rfl) (hdg := dX9_follow_38) (q := 41) (hq := rfl) (fun r38_13 S38_12 hw hR => ?_)
      refine Go_iload_n (q := 42) C 2 rfl dX9_follow_41 rfl ?_
      refine Go_callSN_V (av := (fun ad => [.ref (ad (38)), .int r38_13, .int v2])) (st := []) (C := C) (hM := c_X11_put (Gl G) (ok_ln kE_38) hR hw) (host := "EndsRound") (hnw := nw_78) (hini := wm_1_2) (hst2 := wm_10_11) (hcode := wm_10_12) (n := 3) (hd := by decide +kernel) (hr0 := ⟨rfl, rfl⟩) (hroom := ⟨by first | decide | (dsimp only; omega), by first | decide | (dsimp only; omega)⟩) (hlen := rfl) (hst := rfl) (hW := Nat.le_of_ble_eq_true rfl) (hdg := dX9_follow_42) (q := 45) (hq := rfl) (fun S42_14 hw hR => ?_)
      refine Go_iinc2 (q := 48) (kp := 2) (cst := (1 : Int32)) C dX9_follow_45 rfl rfl (by decide) rfl (fun x45_15 e_x45_15 => ?_)
      have hw := hw x45_15 e_x45_15
      refine Go_lve (lv' := [(2, .int x45_15), (0, .ref (Gad G (34))), (1, .ref (Gad G (p0)))]) rfl ?_
      refine Go_goto (q := 21) C dX9_follow_48 rfl ?_
      refine Go_lvp [1, 2, 0] rfl ?_
      exact hk21 _ _ hR hw
set_option maxRecDepth 100000 in
set_option maxHeartbeats 4000000 in
theorem c_X9_follow (l : Launch) {p0 : Nat} (hp0 : isE4 p0) {S : St} {Q : St → Prop} (hR : RCE S) (hw : w_X9_follow p0 S Q) : MetV l yX9_follow (wB yX9_follow cX9_follow 4 none) rm_X9_follow shE NE RCE (fun ad => [.ref (ad (34)), .ref (ad (p0))]) S Q := by
  refine MetV_of (cc := cX9_follow) (maxL := 4) (ret := none) (plainFor_of_name (by decide)) (fun _ => Nat.le_of_ble_eq_true rfl) (fun G C hl hQ => ?_)
  subst hl
  have C : Cx G cX9_follow BIG RX9 4 none rm_X9_follow shE NE := C
  show Go G 4 0 [] [(0, .ref (Gad G (34))), (1, .ref (Gad G (p0)))] S
  unfold w_X9_follow at hw
  refine Go_aload_n (q := 1) C 0 rfl dX9_follow_0 rfl ?_
  refine Go_aload_n (q := 2) C 1 rfl dX9_follow_1 rfl ?_
  refine Go_getIN (q := 5) (k := 0) (host := "EndsRound") C ci4 iw_4 (oE4 hp0) rfl nw_6 rfl dX9_follow_2 rfl ?_
  refine Go_putI (q := 8) (k := 7) C ci9 iw_9 kE_34 rfl wm_10_19 rfl rfl (ci9.2.2.2.1 7 (by decide)) rfl rfl dX9_follow_5 rfl ?_
  refine Go_S (fun S5_1 e_S5_1 => ?_)
  have hw := hw S5_1 e_S5_1
  have hR := rcE e_S5_1 hR
  refine Go_aload_n (q := 9) C 1 rfl dX9_follow_8 rfl ?_
  refine Go_getAN (q := 12) (k := 7) (host := "EndsRound") C ci4 iw_4 (oE4 hp0) (rE4_7 hR hp0) rfl nw_26 rfl dX9_follow_9 rfl ?_
  refine Go_aload_n (q := 13) C 0 rfl dX9_follow_12 rfl ?_
  refine Go_getA (q := 16) (k := 1) C ci9 iw_9 kE_34 (rE_34_1 hR) rfl wm_7_16 rfl dX9_follow_13 rfl ?_
  refine Go_callSN_V (av := (fun ad => [.ref (ad ((p0 + 1))), .ref (ad (37))])) (st := []) (C := C) (hM := c_X11_copyRow (Gl G) (ok_ln (oE4_7 hp0)) (ok_ln kE_37) hR hw) (host := "EndsRound") (hnw := nw_76) (hini := wm_1_2) (hst2 := wm_10_20) (hcode := wm_10_21) (n := 2) (hd := by decide +kernel) (hr0 := ⟨rfl, rfl⟩) (hroom := ⟨by first | decide | (dsimp only; omega), by first | decide | (dsimp only; omega)⟩) (hlen := rfl) (hst := rfl) (hW := Nat.le_of_ble_eq_true rfl) (hdg := dX9_follow_16) (q := 19) (hq := rfl) (fun S16_2 hw hR => ?_)
  refine Go_iconst (q := 20) (v := (0 : Int32)) C dX9_follow_19 rfl rfl ?_
  refine Go_istore_n (q := 21) (lv' := [(2, .int (0 : Int32)), (0, .ref (Gad G (34))), (1, .ref (Gad G (p0)))]) C rfl dX9_follow_20 (by decide) rfl rfl ?_
  refine Go_lvp [1, 2, 0] rfl ?_
  exact g_X9_follow_21 C hQ p0 hp0 _ hR hw
-- X3_forget
abbrev rm_X3_forget : Room := { frames := 0, cells := 0, slots := 0, locals := 0 }
set_option maxRecDepth 100000 in
set_option maxHeartbeats 4000000 in
theorem c_X3_forget (l : Launch) {S : St} {Q : St → Prop} (hR : RCE S) (hw : w_X3_forget S Q) : MetV l yX3_forget (wB yX3_forget cX3_forget 1 none) rm_X3_forget shE NE RCE (fun ad => [.ref (ad (43))]) S Q := by
  refine MetV_of (cc := cX3_forget) (maxL := 1) (ret := none) (plainFor_of_name (by decide)) (fun _ => Nat.le_of_ble_eq_true rfl) (fun G C hl hQ => ?_)
  subst hl
  have C : Cx G cX3_forget BIG RX3 1 none rm_X3_forget shE NE := C
  show Go G 1 0 [] [(0, .ref (Gad G (43)))] S
  unfold w_X3_forget at hw
  refine Go_aload_n (q := 1) C 0 rfl dX3_forget_0 rfl ?_
  refine Go_iconst (q := 2) (v := (0 : Int32)) C dX3_forget_1 rfl rfl ?_
  refine Go_putI (q := 5) (k := 9) C ci3 iw_3 kE_43 rfl wm_24_1 rfl rfl (ci3.2.2.2.1 9 (by decide)) rfl rfl dX3_forget_2 rfl ?_
  refine Go_S (fun S2_1 e_S2_1 => ?_)
  have hw := hw S2_1 e_S2_1
  have hR := rcE e_S2_1 hR
  refine Go_aload_n (q := 6) C 0 rfl dX3_forget_5 rfl ?_
  refine Go_iconst (q := 7) (v := (0 : Int32)) C dX3_forget_6 rfl rfl ?_
  refine Go_putI (q := 10) (k := 10) C ci3 iw_3 kE_43 rfl wm_24_2 rfl rfl (ci3.2.2.2.1 10 (by decide)) rfl rfl dX3_forget_7 rfl ?_
  refine Go_S (fun S7_2 e_S7_2 => ?_)
  have hw := hw S7_2 e_S7_2
  have hR := rcE e_S7_2 hR
  refine Go_aload_n (q := 11) C 0 rfl dX3_forget_10 rfl ?_
  refine Go_iconst (q := 12) (v := (0 : Int32)) C dX3_forget_11 rfl rfl ?_
  refine Go_putI (q := 15) (k := 11) C ci3 iw_3 kE_43 rfl wm_24_3 rfl rfl (ci3.2.2.2.1 11 (by decide)) rfl rfl dX3_forget_12 rfl ?_
  refine Go_S (fun S12_3 e_S12_3 => ?_)
  have hw := hw S12_3 e_S12_3
  have hR := rcE e_S12_3 hR
  refine Go_aload_n (q := 16) C 0 rfl dX3_forget_15 rfl ?_
  refine Go_iconst (q := 17) (v := (0 : Int32)) C dX3_forget_16 rfl rfl ?_
  refine Go_putI (q := 20) (k := 14) C ci3 iw_3 kE_43 rfl wm_24_4 rfl rfl (ci3.2.2.2.1 14 (by decide)) rfl rfl dX3_forget_17 rfl ?_
  refine Go_S (fun S17_4 e_S17_4 => ?_)
  have hw := hw S17_4 e_S17_4
  have hR := rcE e_S17_4 hR
  exact Go_vret C hQ hR hw dX3_forget_20
-- X6_forget
abbrev rm_X6_forget : Room := { frames := 0, cells := 0, slots := 0, locals := 0 }
set_option maxRecDepth 100000 in
set_option maxHeartbeats 4000000 in
theorem c_X6_forget (l : Launch) {S : St} {Q : St → Prop} (hR : RCE S) (hw : w_X6_forget S Q) : MetV l yX6_forget (wB yX6_forget cX6_forget 1 none) rm_X6_forget shE NE RCE (fun ad => [.ref (ad (50))]) S Q := by
  refine MetV_of (cc := cX6_forget) (maxL := 1) (ret := none) (plainFor_of_name (by decide)) (fun _ => Nat.le_of_ble_eq_true rfl) (fun G C hl hQ => ?_)
  subst hl
  have C : Cx G cX6_forget BIG RX6 1 none rm_X6_forget shE NE := C
  show Go G 1 0 [] [(0, .ref (Gad G (50)))] S
  unfold w_X6_forget at hw
  refine Go_aload_n (q := 1) C 0 rfl dX6_forget_0 rfl ?_
  refine Go_iconst (q := 2) (v := (0 : Int32)) C dX6_forget_1 rfl rfl ?_
  refine Go_putI (q := 5) (k := 8) C ci6 iw_6 kE_50 rfl wm_24_9 rfl rfl (ci6.2.2.2.1 8 (by decide)) rfl rfl dX6_forget_2 rfl ?_
  refine Go_S (fun S2_1 e_S2_1 => ?_)
  have hw := hw S2_1 e_S2_1
  have hR := rcE e_S2_1 hR
  exact Go_vret C hQ hR hw dX6_forget_5
-- X11_formChanged
abbrev rm_X11_formChanged : Room := { frames := 4, cells := 0, slots := 0, locals := 101 }
set_option maxRecDepth 100000 in
set_option maxHeartbeats 4000000 in
theorem c_X11_formChanged (l : Launch) {S : St} {Q : St → Prop} (hR : RCE S) (hw : w_X11_formChanged S Q) : MetV l yX11_formChanged (wB yX11_formChanged cX11_formChanged 1 none) rm_X11_formChanged shE NE RCE (fun ad => [.ref (ad (0))]) S Q := by
  refine MetV_of (cc := cX11_formChanged) (maxL := 1) (ret := none) (plainFor_of_name (by decide)) (fun _ => Nat.le_of_ble_eq_true rfl) (fun G C hl hQ => ?_)
  subst hl
  have C : Cx G cX11_formChanged BIG RX11 1 none rm_X11_formChanged shE NE := C
  show Go G 1 0 [] [(0, .ref (Gad G (0)))] S
  unfold w_X11_formChanged at hw
  refine Go_aload_n (q := 1) C 0 rfl dX11_formChanged_0 rfl ?_
  refine Go_getA (q := 4) (k := 4) C ci11 iw_11 kE_0 (rE_0_4 hR) rfl wm_2_9 rfl dX11_formChanged_1 rfl ?_
  refine Go_aload_n (q := 5) C 0 rfl dX11_formChanged_4 rfl ?_
  refine Go_getA (q := 8) (k := 2) C ci11 iw_11 kE_0 (rE_0_2 hR) rfl wm_2_1 rfl dX11_formChanged_5 rfl ?_
  refine Go_callV_V (av := (fun ad => [.ref (ad (21))])) (st := []) (C := C) (hM := c_X9_follow (Gl G) isE4_21 hR hw) (hlk := wm_10_15) (hini := wm_2_8) (hins := wm_10_16) (hsel := wm_10_17) (hcode := wm_10_18) (ho := kE_34) (hci := rfl) (hc13 := by decide) (n := 1) (hd := by decide +kernel) (hr0 := ⟨rfl, rfl⟩) (hroom := ⟨by first | decide | (dsimp only; omega), by first | decide | (dsimp only; omega)⟩) (hlen := rfl) (hst := rfl) (hW := Nat.le_of_ble_eq_true rfl) (hdg := dX11_formChanged_8) (q := 11) (hq := rfl) (fun S8_1 hw hR => ?_)
  refine Go_aload_n (q := 12) C 0 rfl dX11_formChanged_11 rfl ?_
  refine Go_getA (q := 15) (k := 5) C ci11 iw_11 kE_0 (rE_0_5 hR) rfl wm_2_13 rfl dX11_formChanged_12 rfl ?_
  refine Go_callV_V (av := (fun ad => [])) (st := []) (C := C) (hM := c_X3_forget (Gl G)  hR hw) (hlk := wm_23_21) (hini := wm_2_12) (hins := wm_23_22) (hsel := wm_23_23) (hcode := wm_24_0) (ho := kE_43) (hci := rfl) (hc13 := by decide) (n := 0) (hd := by decide +kernel) (hr0 := ⟨rfl, rfl⟩) (hroom := ⟨by first | decide | (dsimp only; omega), by first | decide | (dsimp only; omega)⟩) (hlen := rfl) (hst := rfl) (hW := Nat.le_of_ble_eq_true rfl) (hdg := dX11_formChanged_15) (q := 18) (hq := rfl) (fun S15_2 hw hR => ?_)
  refine Go_aload_n (q := 19) C 0 rfl dX11_formChanged_18 rfl ?_
  refine Go_getA (q := 22) (k := 6) C ci11 iw_11 kE_0 (rE_0_6 hR) rfl wm_2_17 rfl dX11_formChanged_19 rfl ?_
  refine Go_callV_V (av := (fun ad => [])) (st := []) (C := C) (hM := c_X6_forget (Gl G)  hR hw) (hlk := wm_24_5) (hini := wm_2_16) (hins := wm_24_6) (hsel := wm_24_7) (hcode := wm_24_8) (ho := kE_50) (hci := rfl) (hc13 := by decide) (n := 0) (hd := by decide +kernel) (hr0 := ⟨rfl, rfl⟩) (hroom := ⟨by first | decide | (dsimp only; omega), by first | decide | (dsimp only; omega)⟩) (hlen := rfl) (hst := rfl) (hW := Nat.le_of_ble_eq_true rfl) (hdg := dX11_formChanged_22) (q := 25) (hq := rfl) (fun S22_3 hw hR => ?_)
  exact Go_vret C hQ hR hw dX11_formChanged_25
-- X11_form
abbrev rm_X11_form : Room := { frames := 521, cells := 0, slots := 0, locals := 22599 }
set_option maxRecDepth 100000 in
set_option maxHeartbeats 4000000 in
theorem c_X11_form (l : Launch) {S : St} {Q : Int32 → St → Prop} (hR : RCE S) (hw : w_X11_form S Q) : MetI l yX11_form (wB yX11_form cX11_form 2 (some .int)) rm_X11_form shE NE RCE (fun ad => [.ref (ad (0))]) S Q := by
  refine MetI_of (cc := cX11_form) (maxL := 2) (ret := (some .int)) (plainFor_of_name (by decide)) (fun _ => Nat.le_of_ble_eq_true rfl) (fun G C hl hQ => ?_)
  subst hl
  have C : Cx G cX11_form BIG RX11 2 (some .int) rm_X11_form shE NE := C
  show Go G 2 0 [] [(0, .ref (Gad G (0)))] S
  unfold w_X11_form at hw
  refine Go_aload_n (q := 1) C 0 rfl dX11_form_0 rfl ?_
  refine Go_getA (q := 4) (k := 1) C ci11 iw_11 kE_0 (rE_0_1 hR) rfl wm_1_21 rfl dX11_form_1 rfl ?_
  refine Go_callV_I (av := (fun ad => [])) (st := []) (C := C) (hM := c_X8_read (Gl G)  hR hw) (hlk := wm_15_21) (hini := wm_1_20) (hins := wm_15_22) (hsel := wm_15_23) (hcode := wm_16_0) (ho := kE_7) (hci := rfl) (hc13 := by decide) (n := 0) (hd := by decide +kernel) (hr0 := ⟨rfl, rfl⟩) (hroom := ⟨by first | decide | (dsimp only; omega), by first | decide | (dsimp only; omega)⟩) (hlen := rfl) (hst := rfl) (hW := Nat.le_of_ble_eq_true rfl) (hdg := dX11_form_4) (q := 7) (hq := rfl) (fun r4_2 S4_1 hw hR => ?_)
  refine Go_istore_n (q := 8) (lv' := [(1, .int r4_2), (0, .ref (Gad G (0)))]) C rfl dX11_form_7 (by decide) rfl rfl ?_
  refine Go_iload_n (q := 9) C 0 rfl dX11_form_8 rfl ?_
  refine Go_if_ne (t := 38) (q := 12) C hw dX11_form_9 rfl rfl (fun hw => ?_) (fun hw => ?_)
  · refine Go_aload_n (q := 13) C 1 rfl dX11_form_12 rfl ?_
    refine Go_getA (q := 16) (k := 2) C ci11 iw_11 kE_0 (rE_0_2 hR) rfl wm_2_1 rfl dX11_form_13 rfl ?_
    refine Go_aload_n (q := 17) C 1 rfl dX11_form_16 rfl ?_
    refine Go_getA (q := 20) (k := 1) C ci11 iw_11 kE_0 (rE_0_1 hR) rfl wm_1_21 rfl dX11_form_17 rfl ?_
    refine Go_getAN (q := 23) (k := 2) (host := "EndsRound") C ci8 iw_8 kE_7 (rE_7_2 hR) rfl nw_41 rfl dX11_form_20 rfl ?_
    refine Go_callV_V (av := (fun ad => [.ref (ad (11))])) (st := []) (C := C) (hM := c_X4_copy (Gl G) isE4_21 isE4_11 hR hw) (hlk := wm_23_13) (hini := wm_2_0) (hins := wm_23_14) (hsel := wm_23_15) (hcode := wm_23_16) (ho := kE_21) (hci := rfl) (hc13 := by decide) (n := 1) (hd := by decide +kernel) (hr0 := ⟨rfl, rfl⟩) (hroom := ⟨by first | decide | (dsimp only; omega), by first | decide | (dsimp only; omega)⟩) (hlen := rfl) (hst := rfl) (hW := Nat.le_of_ble_eq_true rfl) (hdg := dX11_form_23) (q := 26) (hq := rfl) (fun S23_3 hw hR => ?_)
    refine Go_aload_n (q := 27) C 1 rfl dX11_form_26 rfl ?_
    refine Go_getA (q := 30) (k := 3) C ci11 iw_11 kE_0 (rE_0_3 hR) rfl wm_2_5 rfl dX11_form_27 rfl ?_
    refine Go_iconst (q := 31) (v := (0 : Int32)) C dX11_form_30 rfl rfl ?_
    refine Go_putIN (q := 34) (k := 3) (host := "EndsRound") C ci2 iw_2 kE_30 rfl nw_46 rfl rfl (ci2.2.2.2.1 3 (by decide)) rfl rfl dX11_form_31 rfl ?_
    refine Go_S (fun S31_4 e_S31_4 => ?_)
    have hw := hw S31_4 e_S31_4
    have hR := rcE e_S31_4 hR
    refine Go_aload_n (q := 35) C 1 rfl dX11_form_34 rfl ?_
    refine Go_callV_V (av := (fun ad => [])) (st := []) (C := C) (hM := c_X11_formChanged (Gl G)  hR hw) (hlk := wm_23_17) (hini := wm_1_2) (hins := wm_23_18) (hsel := wm_23_19) (hcode := wm_23_20) (ho := kE_0) (hci := rfl) (hc13 := by decide) (n := 0) (hd := by decide +kernel) (hr0 := ⟨rfl, rfl⟩) (hroom := ⟨by first | decide | (dsimp only; omega), by first | decide | (dsimp only; omega)⟩) (hlen := rfl) (hst := rfl) (hW := Nat.le_of_ble_eq_true rfl) (hdg := dX11_form_35) (q := 38) (hq := rfl) (fun S35_5 hw hR => ?_)
    refine Go_iload_n (q := 39) C 0 rfl dX11_form_38 rfl ?_
    exact Go_iret C hQ hR hw dX11_form_39
  · refine Go_iload_n (q := 39) C 0 rfl dX11_form_38 rfl ?_
    exact Go_iret C hQ hR hw dX11_form_39
-- X11_isEnd
abbrev rm_X11_isEnd : Room := { frames := 0, cells := 0, slots := 0, locals := 0 }
set_option maxRecDepth 100000 in
set_option maxHeartbeats 4000000 in
theorem c_X11_isEnd (l : Launch) {p0 : Int32} {S : St} {Q : Int32 → St → Prop} (hR : RCE S) (hw : w_X11_isEnd p0 S Q) : MetI l yX11_isEnd (wB yX11_isEnd cX11_isEnd 2 (some .boolean)) rm_X11_isEnd shE NE RCE (fun ad => [.ref (ad (0)), .int p0]) S Q := by
  refine MetI_of (cc := cX11_isEnd) (maxL := 2) (ret := (some .boolean)) (plainFor_of_name (by decide)) (fun _ => Nat.le_of_ble_eq_true rfl) (fun G C hl hQ => ?_)
  subst hl
  have C : Cx G cX11_isEnd BIG RX11 2 (some .boolean) rm_X11_isEnd shE NE := C
  show Go G 2 0 [] [(0, .ref (Gad G (0))), (1, .int p0)] S
  unfold w_X11_isEnd at hw
  refine Go_iload_n (q := 1) C 1 rfl dX11_isEnd_0 rfl ?_
  refine Go_if_lt (t := 19) (q := 4) C hw dX11_isEnd_1 rfl rfl (fun hw => ?_) (fun hw => ?_)
  · refine Go_iconst (q := 20) (v := (0 : Int32)) C dX11_isEnd_19 rfl rfl ?_
    exact Go_zret C hQ hR rfl hw dX11_isEnd_20
  · refine Go_iload_n (q := 5) C 1 rfl dX11_isEnd_4 rfl ?_
    refine Go_aload_n (q := 6) C 0 rfl dX11_isEnd_5 rfl ?_
    refine Go_getA (q := 9) (k := 2) C ci11 iw_11 kE_0 (rE_0_2 hR) rfl wm_2_1 rfl dX11_isEnd_6 rfl ?_
    refine Go_getIN (q := 12) (k := 0) (host := "EndsRound") C ci4 iw_4 kE_21 rfl nw_11 rfl dX11_isEnd_9 rfl ?_
    refine Go_icmp_ge (t := 19) (q := 15) C hw dX11_isEnd_12 rfl rfl (fun hw => ?_) (fun hw => ?_)
    · refine Go_iconst (q := 20) (v := (0 : Int32)) C dX11_isEnd_19 rfl rfl ?_
      exact Go_zret C hQ hR rfl hw dX11_isEnd_20
    · refine Go_iconst (q := 16) (v := (1 : Int32)) C dX11_isEnd_15 rfl rfl ?_
      refine Go_goto (q := 20) C dX11_isEnd_16 rfl ?_
      exact Go_zret C hQ hR rfl hw dX11_isEnd_20
-- X11_turning
abbrev rm_X11_turning : Room := { frames := 1, cells := 0, slots := 0, locals := 21 }
set_option maxRecDepth 100000 in
set_option maxHeartbeats 4000000 in
theorem c_X11_turning (l : Launch) {p0 : Int32} {p1 : Int32} {S : St} {Q : Int32 → St → Prop} (hR : RCE S) (hw : w_X11_turning p0 p1 S Q) : MetI l yX11_turning (wB yX11_turning cX11_turning 3 (some .int)) rm_X11_turning shE NE RCE (fun ad => [.ref (ad (0)), .int p0, .int p1]) S Q := by
  refine MetI_of (cc := cX11_turning) (maxL := 3) (ret := (some .int)) (plainFor_of_name (by decide)) (fun _ => Nat.le_of_ble_eq_true rfl) (fun G C hl hQ => ?_)
  subst hl
  have C : Cx G cX11_turning BIG RX11 3 (some .int) rm_X11_turning shE NE := C
  show Go G 3 0 [] [(0, .ref (Gad G (0))), (1, .int p0), (2, .int p1)] S
  unfold w_X11_turning at hw
  refine Go_aload_n (q := 1) C 0 rfl dX11_turning_0 rfl ?_
  refine Go_iload_n (q := 2) C 1 rfl dX11_turning_1 rfl ?_
  refine Go_callV_I (av := (fun ad => [.int p0])) (st := []) (C := C) (hM := c_X11_isEnd (Gl G)  hR hw) (hlk := wm_31_13) (hini := wm_1_2) (hins := wm_31_14) (hsel := wm_31_15) (hcode := wm_31_16) (ho := kE_0) (hci := rfl) (hc13 := by decide) (n := 1) (hd := by decide +kernel) (hr0 := ⟨rfl, rfl⟩) (hroom := ⟨by first | decide | (dsimp only; omega), by first | decide | (dsimp only; omega)⟩) (hlen := rfl) (hst := rfl) (hW := Nat.le_of_ble_eq_true rfl) (hdg := dX11_turning_2) (q := 5) (hq := rfl) (fun r2_2 S2_1 hw hR => ?_)
  refine Go_if_ne (t := 10) (q := 8) C hw dX11_turning_5 rfl rfl (fun hw => ?_) (fun hw => ?_)
  · refine Go_iconst (q := 9) (v := (-1 : Int32)) C dX11_turning_8 rfl rfl ?_
    exact Go_iret C hQ hR hw dX11_turning_9
  · refine Go_iload_n (q := 11) C 2 rfl dX11_turning_10 rfl ?_
    by_cases hk0 : p1 = (0 : Int32)
    · have hw := ite_t hw hk0
      refine Go_tableIn (t := 36) C dX11_turning_11 (by rw [hk0]; decide) (by rw [hk0]; decide) (by rw [hk0]; rfl) rfl ?_
      refine Go_aload_n (q := 37) C 0 rfl dX11_turning_36 rfl ?_
      refine Go_getA (q := 40) (k := 4) C ci11 iw_11 kE_0 (rE_0_4 hR) rfl wm_2_9 rfl dX11_turning_37 rfl ?_
      refine Go_getAN (q := 43) (k := 2) (host := "EndsRound") C ci9 iw_9 kE_34 (rE_34_2 hR) rfl nw_57 rfl dX11_turning_40 rfl ?_
      refine Go_iload_n (q := 44) C 1 rfl dX11_turning_43 rfl ?_
      refine Go_callS_I (av := (fun ad => [.ref (ad (38)), .int p0])) (st := []) (C := C) (hM := c_X11_cell (Gl G) (ok_ln kE_38) hR hw) (hlk := wm_31_17) (hini := wm_1_2) (hst2 := wm_10_22) (hcode := wm_10_23) (n := 2) (hd := by decide +kernel) (hr0 := ⟨rfl, rfl⟩) (hroom := ⟨by first | decide | (dsimp only; omega), by first | decide | (dsimp only; omega)⟩) (hlen := rfl) (hst := rfl) (hW := Nat.le_of_ble_eq_true rfl) (hdg := dX11_turning_44) (q := 47) (hq := rfl) (fun r44_5 S44_4 hw hR => ?_)
      exact Go_iret C hQ hR hw dX11_turning_47
    have hw := ite_f hw hk0
    by_cases hk1 : p1 = (1 : Int32)
    · have hw := ite_t hw hk1
      refine Go_tableIn (t := 48) C dX11_turning_11 (by rw [hk1]; decide) (by rw [hk1]; decide) (by rw [hk1]; rfl) rfl ?_
      refine Go_aload_n (q := 49) C 0 rfl dX11_turning_48 rfl ?_
      refine Go_getA (q := 52) (k := 2) C ci11 iw_11 kE_0 (rE_0_2 hR) rfl wm_2_1 rfl dX11_turning_49 rfl ?_
      refine Go_getAN (q := 55) (k := 7) (host := "EndsRound") C ci4 iw_4 kE_21 (rE4_7 hR isE4_21) rfl nw_28 rfl dX11_turning_52 rfl ?_
      refine Go_iload_n (q := 56) C 1 rfl dX11_turning_55 rfl ?_
      refine Go_callS_I (av := (fun ad => [.ref (ad (22)), .int p0])) (st := []) (C := C) (hM := c_X11_cell (Gl G) (ok_ln kE_22) hR hw) (hlk := wm_31_17) (hini := wm_1_2) (hst2 := wm_10_22) (hcode := wm_10_23) (n := 2) (hd := by decide +kernel) (hr0 := ⟨rfl, rfl⟩) (hroom := ⟨by first | decide | (dsimp only; omega), by first | decide | (dsimp only; omega)⟩) (hlen := rfl) (hst := rfl) (hW := Nat.le_of_ble_eq_true rfl) (hdg := dX11_turning_56) (q := 59) (hq := rfl) (fun r56_7 S56_6 hw hR => ?_)
      exact Go_iret C hQ hR hw dX11_turning_59
    have hw := ite_f hw hk1
    by_cases hk2 : p1 = (2 : Int32)
    · have hw := ite_t hw hk2
      refine Go_tableIn (t := 60) C dX11_turning_11 (by rw [hk2]; decide) (by rw [hk2]; decide) (by rw [hk2]; rfl) rfl ?_
      refine Go_aload_n (q := 61) C 0 rfl dX11_turning_60 rfl ?_
      refine Go_getA (q := 64) (k := 4) C ci11 iw_11 kE_0 (rE_0_4 hR) rfl wm_2_9 rfl dX11_turning_61 rfl ?_
      refine Go_getAN (q := 67) (k := 0) (host := "EndsRound") C ci9 iw_9 kE_34 (rE_34_0 hR) rfl nw_56 rfl dX11_turning_64 rfl ?_
      refine Go_getAN (q := 70) (k := 0) (host := "EndsRound") C ci1 iw_1 kE_35 (rE1_0 hR isE1_35) rfl nw_49 rfl dX11_turning_67 rfl ?_
      refine Go_iload_n (q := 71) C 1 rfl dX11_turning_70 rfl ?_
      refine Go_callS_I (av := (fun ad => [.ref (ad (36)), .int p0])) (st := []) (C := C) (hM := c_X11_cell (Gl G) (ok_ln kE_36) hR hw) (hlk := wm_31_17) (hini := wm_1_2) (hst2 := wm_10_22) (hcode := wm_10_23) (n := 2) (hd := by decide +kernel) (hr0 := ⟨rfl, rfl⟩) (hroom := ⟨by first | decide | (dsimp only; omega), by first | decide | (dsimp only; omega)⟩) (hlen := rfl) (hst := rfl) (hW := Nat.le_of_ble_eq_true rfl) (hdg := dX11_turning_71) (q := 74) (hq := rfl) (fun r71_9 S71_8 hw hR => ?_)
      exact Go_iret C hQ hR hw dX11_turning_74
    have hw := ite_f hw hk2
    refine Go_tableOut (t := 75) C dX11_turning_11 (by have g0 : ¬ (p1).toInt = 0 := ne_toInt hk0; have g1 : ¬ (p1).toInt = 1 := ne_toInt hk1; have g2 : ¬ (p1).toInt = 2 := ne_toInt hk2; omega) rfl ?_
    refine Go_iconst (q := 76) (v := (-1 : Int32)) C dX11_turning_75 rfl rfl ?_
    exact Go_iret C hQ hR hw dX11_turning_76
-- X11_isStanza
abbrev rm_X11_isStanza : Room := { frames := 0, cells := 0, slots := 0, locals := 0 }
set_option maxRecDepth 100000 in
set_option maxHeartbeats 4000000 in
theorem c_X11_isStanza (l : Launch) {p0 : Int64} {S : St} {Q : Int32 → St → Prop} (hR : RCE S) (hw : w_X11_isStanza p0 S Q) : MetI l yX11_isStanza (wB yX11_isStanza cX11_isStanza 2 (some .boolean)) rm_X11_isStanza shE NE RCE (fun ad => [.long p0]) S Q := by
  refine MetI_of (cc := cX11_isStanza) (maxL := 2) (ret := (some .boolean)) (plainFor_of_name (by decide)) (fun _ => Nat.le_of_ble_eq_true rfl) (fun G C hl hQ => ?_)
  subst hl
  have C : Cx G cX11_isStanza BIG RX11 2 (some .boolean) rm_X11_isStanza shE NE := C
  show Go G 2 0 [] [(0, .long p0)] S
  unfold w_X11_isStanza at hw
  refine Go_lload_n (q := 1) C 0 rfl dX11_isStanza_0 rfl ?_
  refine Go_lconst (q := 2) (v := (0 : Int64)) C dX11_isStanza_1 rfl rfl ?_
  refine Go_lcmp_lt (t := 18) (q := 3) (q2 := 6) C hw dX11_isStanza_2 rfl dX11_isStanza_3 rfl rfl (fun hw => ?_) (fun hw => ?_)
  · refine Go_iconst (q := 19) (v := (0 : Int32)) C dX11_isStanza_18 rfl rfl ?_
    exact Go_zret C hQ hR rfl hw dX11_isStanza_19
  · refine Go_lload_n (q := 7) C 0 rfl dX11_isStanza_6 rfl ?_
    refine Go_ldc2 (q := 10) (v := (1000000000000000 : Int64)) C wm_32_17 dX11_isStanza_7 rfl ?_
    refine Go_lcmp_gt (t := 18) (q := 11) (q2 := 14) C hw dX11_isStanza_10 rfl dX11_isStanza_11 rfl rfl (fun hw => ?_) (fun hw => ?_)
    · refine Go_iconst (q := 19) (v := (0 : Int32)) C dX11_isStanza_18 rfl rfl ?_
      exact Go_zret C hQ hR rfl hw dX11_isStanza_19
    · refine Go_iconst (q := 15) (v := (1 : Int32)) C dX11_isStanza_14 rfl rfl ?_
      refine Go_goto (q := 19) C dX11_isStanza_15 rfl ?_
      exact Go_zret C hQ hR rfl hw dX11_isStanza_19
-- X9_walk
abbrev rm_X9_walk : Room := { frames := 1, cells := 0, slots := 0, locals := 21 }
set_option maxRecDepth 100000 in
set_option maxHeartbeats 4000000 in
theorem g_X9_walk_38 {G : GC} (C : Cx G cX9_walk BIG RX9 11 (some .int) rm_X9_walk shE NE) {Q : Int32 → St → Prop} (hQ : QI G RCE Q) (p0 : Nat) (hp0 : ok shE NE p0 14 (lnE p0)) (v6 : Int64) (v8 : Int32) (v9 : Int64) {S : St} (hR : RCE S) (hw : w_X9_walk_38 p0 Q v6 v8 v9 S) : Go G 11 38 [] [(1, .ref (Gad G (p0))), (6, .long v6), (8, .int v8), (9, .long v9)] S := by
  obtain ⟨n, hw⟩ := hw
  induction n generalizing v8 v9 S with
  | zero => exact hw.elim
  | succ n ih =>
    have hw : b_X9_walk_38 p0 Q v6 (lpn (fun _ _ _ => False) (b_X9_walk_38 p0 Q v6) n) v8 v9 S := hw
    generalize lpn (fun _ _ _ => False) (b_X9_walk_38 p0 Q v6) n = kf at hw ih
    have hk38 := fun (v8 : Int32) (v9 : Int64) (S : St) (hR : RCE S) hw => ih v8 v9 hR hw
    unfold b_X9_walk_38 at hw
    refine Go_lload (q := 40) C 3 rfl dX9_walk_38 rfl ?_
    refine Go_lload (q := 42) C 1 rfl dX9_walk_40 rfl ?_
    refine Go_lcmp_ge (t := 63) (q := 43) (q2 := 46) C hw dX9_walk_42 rfl dX9_walk_43 rfl rfl (fun hw => ?_) (fun hw => ?_)
    · refine Go_aload_n (q := 47) C 0 rfl dX9_walk_46 rfl ?_
      refine Go_iload (q := 49) C 2 rfl dX9_walk_47 rfl ?_
      refine Go_callSN_I (av := (fun ad => [.ref (ad (p0)), .int v8])) (st := []) (C := C) (hM := c_X11_cell (Gl G) (ok_ln hp0) hR hw) (host := "EndsRound") (hnw := nw_77) (hini := wm_1_2) (hst2 := wm_10_22) (hcode := wm_10_23) (n := 2) (hd := by decide +kernel) (hr0 := ⟨rfl, rfl⟩) (hroom := ⟨by first | decide | (dsimp only; omega), by first | decide | (dsimp only; omega)⟩) (hlen := rfl) (hst := rfl) (hW := Nat.le_of_ble_eq_true rfl) (hdg := dX9_walk_49) (q := 52) (hq := rfl) (fun r49_4 S49_3 hw hR => ?_)
      refine Go_istore (q := 54) (lv' := [(8, .int r49_4), (1, .ref (Gad G (p0))), (6, .long v6), (9, .long v9)]) C dX9_walk_52 (by decide) rfl rfl ?_
      refine Go_lload (q := 56) C 3 rfl dX9_walk_54 rfl ?_
      refine Go_lconst (q := 57) (v := (1 : Int64)) C dX9_walk_56 rfl rfl ?_
      refine Go_ladd (q := 58) C dX9_walk_57 rfl ?_
      refine Go_topl (fun x58_5 e_x58_5 => ?_)
      have hw := hw x58_5 e_x58_5
      refine Go_lstore (q := 60) (lv' := [(9, .long x58_5), (8, .int r49_4), (1, .ref (Gad G (p0))), (6, .long v6)]) C dX9_walk_58 (by decide) rfl rfl ?_
      refine Go_goto (q := 38) C dX9_walk_60 rfl ?_
      refine Go_lvp [2, 3, 1, 0] rfl ?_
      exact hk38 _ _ _ hR hw
    · refine Go_iload (q := 65) C 2 rfl dX9_walk_63 rfl ?_
      exact Go_iret C hQ hR hw dX9_walk_65
set_option maxRecDepth 100000 in
set_option maxHeartbeats 4000000 in
theorem g_X9_walk_29 {G : GC} (C : Cx G cX9_walk BIG RX9 11 (some .int) rm_X9_walk shE NE) {Q : Int32 → St → Prop} (hQ : QI G RCE Q) (p0 : Nat) (p2 : Int32) (hp0 : ok shE NE p0 14 (lnE p0)) (t0 : Int64) {S : St} (hR : RCE S) (hw : w_X9_walk_29 p0 p2 Q t0 S) : Go G 11 29 [.long t0] [(1, .ref (Gad G (p0))), (4, .int p2)] S := by
  unfold w_X9_walk_29 at hw
  refine Go_lstore (q := 31) (lv' := [(6, .long t0), (1, .ref (Gad G (p0))), (4, .int p2)]) C dX9_walk_29 (by decide) rfl rfl ?_
  refine Go_iload (q := 33) C 2 rfl dX9_walk_31 rfl ?_
  refine Go_istore (q := 35) (lv' := [(8, .int p2), (6, .long t0), (1, .ref (Gad G (p0))), (4, .int p2)]) C dX9_walk_33 (by decide) rfl rfl ?_
  refine Go_lconst (q := 36) (v := (0 : Int64)) C dX9_walk_35 rfl rfl ?_
  refine Go_lstore (q := 38) (lv' := [(9, .long (0 : Int64)), (8, .int p2), (6, .long t0), (1, .ref (Gad G (p0))), (4, .int p2)]) C dX9_walk_36 (by decide) rfl rfl ?_
  refine Go_lvp [3, 2, 1, 0] rfl ?_
  exact g_X9_walk_38 C hQ p0 hp0 _ _ _ hR hw
set_option maxRecDepth 100000 in
set_option maxHeartbeats 4000000 in
theorem c_X9_walk (l : Launch) {p0 : Nat} (hp0 : ok shE NE p0 14 (lnE p0)) {p1 : Int64} {p2 : Int32} {S : St} {Q : Int32 → St → Prop} (hR : RCE S) (hw : w_X9_walk p0 p1 p2 S Q) : MetI l yX9_walk (wB yX9_walk cX9_walk 11 (some .int)) rm_X9_walk shE NE RCE (fun ad => [.ref (ad (34)), .ref (ad (p0)), .long p1, .int p2]) S Q := by
  refine MetI_of (cc := cX9_walk) (maxL := 11) (ret := (some .int)) (plainFor_of_name (by decide)) (fun _ => Nat.le_of_ble_eq_true rfl) (fun G C hl hQ => ?_)
  subst hl
  have C : Cx G cX9_walk BIG RX9 11 (some .int) rm_X9_walk shE NE := C
  show Go G 11 0 [] [(0, .ref (Gad G (34))), (1, .ref (Gad G (p0))), (2, .long p1), (4, .int p2)] S
  unfold w_X9_walk at hw
  refine Go_aload_n (q := 1) C 0 rfl dX9_walk_0 rfl ?_
  refine Go_getA (q := 4) (k := 0) C ci9 iw_9 kE_34 (rE_34_0 hR) rfl wm_7_15 rfl dX9_walk_1 rfl ?_
  refine Go_getAN (q := 7) (k := 0) (host := "EndsRound") C ci1 iw_1 kE_35 (rE1_0 hR isE1_35) rfl nw_50 rfl dX9_walk_4 rfl ?_
  refine Go_iload (q := 9) C 3 rfl dX9_walk_7 rfl ?_
  refine Go_callSN_I (av := (fun ad => [.ref (ad (36)), .int p2])) (st := []) (C := C) (hM := c_X11_cell (Gl G) (ok_ln kE_36) hR hw) (host := "EndsRound") (hnw := nw_77) (hini := wm_1_2) (hst2 := wm_10_22) (hcode := wm_10_23) (n := 2) (hd := by decide +kernel) (hr0 := ⟨rfl, rfl⟩) (hroom := ⟨by first | decide | (dsimp only; omega), by first | decide | (dsimp only; omega)⟩) (hlen := rfl) (hst := rfl) (hW := Nat.le_of_ble_eq_true rfl) (hdg := dX9_walk_9) (q := 12) (hq := rfl) (fun r9_2 S9_1 hw hR => ?_)
  refine Go_istore (q := 14) (lv' := [(5, .int r9_2), (0, .ref (Gad G (34))), (1, .ref (Gad G (p0))), (2, .long p1), (4, .int p2)]) C dX9_walk_12 (by decide) rfl rfl ?_
  refine Go_iload (q := 16) C 0 rfl dX9_walk_14 rfl ?_
  refine Go_iconst (q := 17) (v := (1 : Int32)) C dX9_walk_16 rfl rfl ?_
  refine Go_icmp_ge (t := 24) (q := 20) C hw dX9_walk_17 rfl rfl (fun hw => ?_) (fun hw => ?_)
  · refine Go_lload_n (q := 25) C 3 rfl dX9_walk_24 rfl ?_
    refine Go_iload (q := 27) C 0 rfl dX9_walk_25 rfl ?_
    refine Go_i2l (q := 28) C dX9_walk_27 rfl ?_
    obtain ⟨hne, hw⟩ := hw
    refine Go_lrem (q := 29) C hne dX9_walk_28 rfl ?_
    refine Go_lvp [2, 4] rfl ?_
    exact g_X9_walk_29 C hQ p0 p2 hp0 _ hR hw
  · refine Go_lconst (q := 21) (v := (0 : Int64)) C dX9_walk_20 rfl rfl ?_
    refine Go_goto (q := 29) C dX9_walk_21 rfl ?_
    refine Go_lvp [2, 4] rfl ?_
    exact g_X9_walk_29 C hQ p0 p2 hp0 _ hR hw
-- X9_endAt
abbrev rm_X9_endAt : Room := { frames := 2, cells := 0, slots := 0, locals := 51 }
set_option maxRecDepth 100000 in
set_option maxHeartbeats 4000000 in
theorem c_X9_endAt (l : Launch) {p0 : Int64} {p1 : Int32} {S : St} {Q : Int32 → St → Prop} (hR : RCE S) (hw : w_X9_endAt p0 p1 S Q) : MetI l yX9_endAt (wB yX9_endAt cX9_endAt 4 (some .int)) rm_X9_endAt shE NE RCE (fun ad => [.ref (ad (34)), .long p0, .int p1]) S Q := by
  refine MetI_of (cc := cX9_endAt) (maxL := 4) (ret := (some .int)) (plainFor_of_name (by decide)) (fun _ => Nat.le_of_ble_eq_true rfl) (fun G C hl hQ => ?_)
  subst hl
  have C : Cx G cX9_endAt BIG RX9 4 (some .int) rm_X9_endAt shE NE := C
  show Go G 4 0 [] [(0, .ref (Gad G (34))), (1, .long p0), (3, .int p1)] S
  unfold w_X9_endAt at hw
  refine Go_aload_n (q := 1) C 0 rfl dX9_endAt_0 rfl ?_
  refine Go_aload_n (q := 2) C 0 rfl dX9_endAt_1 rfl ?_
  refine Go_getA (q := 5) (k := 1) C ci9 iw_9 kE_34 (rE_34_1 hR) rfl wm_7_16 rfl dX9_endAt_2 rfl ?_
  refine Go_lload_n (q := 6) C 1 rfl dX9_endAt_5 rfl ?_
  refine Go_iload_n (q := 7) C 2 rfl dX9_endAt_6 rfl ?_
  refine Go_callV_I (av := (fun ad => [.ref (ad (37)), .long p0, .int p1])) (st := []) (C := C) (hM := c_X9_walk (Gl G) (ok_ln kE_37) hR hw) (hlk := wm_32_22) (hini := wm_2_8) (hins := wm_32_23) (hsel := wm_33_0) (hcode := wm_33_1) (ho := kE_34) (hci := rfl) (hc13 := by decide) (n := 3) (hd := by decide +kernel) (hr0 := ⟨rfl, rfl⟩) (hroom := ⟨by first | decide | (dsimp only; omega), by first | decide | (dsimp only; omega)⟩) (hlen := rfl) (hst := rfl) (hW := Nat.le_of_ble_eq_true rfl) (hdg := dX9_endAt_7) (q := 10) (hq := rfl) (fun r7_2 S7_1 hw hR => ?_)
  exact Go_iret C hQ hR hw dX9_endAt_10
-- X11_end
abbrev rm_X11_end : Room := { frames := 3, cells := 0, slots := 0, locals := 74 }
set_option maxRecDepth 100000 in
set_option maxHeartbeats 4000000 in
theorem c_X11_end (l : Launch) {p0 : Int64} {p1 : Int32} {S : St} {Q : Int32 → St → Prop} (hR : RCE S) (hw : w_X11_end p0 p1 S Q) : MetI l yX11_end (wB yX11_end cX11_end 4 (some .int)) rm_X11_end shE NE RCE (fun ad => [.ref (ad (0)), .long p0, .int p1]) S Q := by
  refine MetI_of (cc := cX11_end) (maxL := 4) (ret := (some .int)) (plainFor_of_name (by decide)) (fun _ => Nat.le_of_ble_eq_true rfl) (fun G C hl hQ => ?_)
  subst hl
  have C : Cx G cX11_end BIG RX11 4 (some .int) rm_X11_end shE NE := C
  show Go G 4 0 [] [(0, .ref (Gad G (0))), (1, .long p0), (3, .int p1)] S
  unfold w_X11_end at hw
  refine Go_lload_n (q := 1) C 1 rfl dX11_end_0 rfl ?_
  refine Go_callS_I (av := (fun ad => [.long p0])) (st := []) (C := C) (hM := c_X11_isStanza (Gl G)  hR hw) (hlk := wm_32_14) (hini := wm_1_2) (hst2 := wm_32_15) (hcode := wm_32_16) (n := 1) (hd := by decide +kernel) (hr0 := ⟨rfl, rfl⟩) (hroom := ⟨by first | decide | (dsimp only; omega), by first | decide | (dsimp only; omega)⟩) (hlen := rfl) (hst := rfl) (hW := Nat.le_of_ble_eq_true rfl) (hdg := dX11_end_1) (q := 4) (hq := rfl) (fun r1_2 S1_1 hw hR => ?_)
  refine Go_if_eq (t := 27) (q := 7) C hw dX11_end_4 rfl rfl (fun hw => ?_) (fun hw => ?_)
  · refine Go_iconst (q := 28) (v := (-1 : Int32)) C dX11_end_27 rfl rfl ?_
    exact Go_iret C hQ hR hw dX11_end_28
  · refine Go_aload_n (q := 8) C 0 rfl dX11_end_7 rfl ?_
    refine Go_iload_n (q := 9) C 2 rfl dX11_end_8 rfl ?_
    refine Go_callV_I (av := (fun ad => [.int p1])) (st := []) (C := C) (hM := c_X11_isEnd (Gl G)  hR hw) (hlk := wm_31_13) (hini := wm_1_2) (hins := wm_31_14) (hsel := wm_31_15) (hcode := wm_31_16) (ho := kE_0) (hci := rfl) (hc13 := by decide) (n := 1) (hd := by decide +kernel) (hr0 := ⟨rfl, rfl⟩) (hroom := ⟨by first | decide | (dsimp only; omega), by first | decide | (dsimp only; omega)⟩) (hlen := rfl) (hst := rfl) (hW := Nat.le_of_ble_eq_true rfl) (hdg := dX11_end_9) (q := 12) (hq := rfl) (fun r9_4 S9_3 hw hR => ?_)
    refine Go_if_eq (t := 27) (q := 15) C hw dX11_end_12 rfl rfl (fun hw => ?_) (fun hw => ?_)
    · refine Go_iconst (q := 28) (v := (-1 : Int32)) C dX11_end_27 rfl rfl ?_
      exact Go_iret C hQ hR hw dX11_end_28
    · refine Go_aload_n (q := 16) C 0 rfl dX11_end_15 rfl ?_
      refine Go_getA (q := 19) (k := 4) C ci11 iw_11 kE_0 (rE_0_4 hR) rfl wm_2_9 rfl dX11_end_16 rfl ?_
      refine Go_lload_n (q := 20) C 1 rfl dX11_end_19 rfl ?_
      refine Go_iload_n (q := 21) C 2 rfl dX11_end_20 rfl ?_
      refine Go_callV_I (av := (fun ad => [.long p0, .int p1])) (st := []) (C := C) (hM := c_X9_endAt (Gl G)  hR hw) (hlk := wm_32_18) (hini := wm_2_8) (hins := wm_32_19) (hsel := wm_32_20) (hcode := wm_32_21) (ho := kE_34) (hci := rfl) (hc13 := by decide) (n := 2) (hd := by decide +kernel) (hr0 := ⟨rfl, rfl⟩) (hroom := ⟨by first | decide | (dsimp only; omega), by first | decide | (dsimp only; omega)⟩) (hlen := rfl) (hst := rfl) (hW := Nat.le_of_ble_eq_true rfl) (hdg := dX11_end_21) (q := 24) (hq := rfl) (fun r21_6 S21_5 hw hR => ?_)
      refine Go_goto (q := 28) C dX11_end_24 rfl ?_
      exact Go_iret C hQ hR hw dX11_end_28
-- X9_placeOf
abbrev rm_X9_placeOf : Room := { frames := 2, cells := 0, slots := 0, locals := 51 }
set_option maxRecDepth 100000 in
set_option maxHeartbeats 4000000 in
theorem c_X9_placeOf (l : Launch) {p0 : Int64} {p1 : Int32} {S : St} {Q : Int32 → St → Prop} (hR : RCE S) (hw : w_X9_placeOf p0 p1 S Q) : MetI l yX9_placeOf (wB yX9_placeOf cX9_placeOf 4 (some .int)) rm_X9_placeOf shE NE RCE (fun ad => [.ref (ad (34)), .long p0, .int p1]) S Q := by
  refine MetI_of (cc := cX9_placeOf) (maxL := 4) (ret := (some .int)) (plainFor_of_name (by decide)) (fun _ => Nat.le_of_ble_eq_true rfl) (fun G C hl hQ => ?_)
  subst hl
  have C : Cx G cX9_placeOf BIG RX9 4 (some .int) rm_X9_placeOf shE NE := C
  show Go G 4 0 [] [(0, .ref (Gad G (34))), (1, .long p0), (3, .int p1)] S
  unfold w_X9_placeOf at hw
  refine Go_aload_n (q := 1) C 0 rfl dX9_placeOf_0 rfl ?_
  refine Go_aload_n (q := 2) C 0 rfl dX9_placeOf_1 rfl ?_
  refine Go_getA (q := 5) (k := 2) C ci9 iw_9 kE_34 (rE_34_2 hR) rfl wm_7_17 rfl dX9_placeOf_2 rfl ?_
  refine Go_lload_n (q := 6) C 1 rfl dX9_placeOf_5 rfl ?_
  refine Go_iload_n (q := 7) C 2 rfl dX9_placeOf_6 rfl ?_
  refine Go_callV_I (av := (fun ad => [.ref (ad (38)), .long p0, .int p1])) (st := []) (C := C) (hM := c_X9_walk (Gl G) (ok_ln kE_38) hR hw) (hlk := wm_32_22) (hini := wm_2_8) (hins := wm_32_23) (hsel := wm_33_0) (hcode := wm_33_1) (ho := kE_34) (hci := rfl) (hc13 := by decide) (n := 3) (hd := by decide +kernel) (hr0 := ⟨rfl, rfl⟩) (hroom := ⟨by first | decide | (dsimp only; omega), by first | decide | (dsimp only; omega)⟩) (hlen := rfl) (hst := rfl) (hW := Nat.le_of_ble_eq_true rfl) (hdg := dX9_placeOf_7) (q := 10) (hq := rfl) (fun r7_2 S7_1 hw hR => ?_)
  exact Go_iret C hQ hR hw dX9_placeOf_10
-- X11_where
abbrev rm_X11_where : Room := { frames := 3, cells := 0, slots := 0, locals := 74 }
set_option maxRecDepth 100000 in
set_option maxHeartbeats 4000000 in
theorem c_X11_where (l : Launch) {p0 : Int64} {p1 : Int32} {S : St} {Q : Int32 → St → Prop} (hR : RCE S) (hw : w_X11_where p0 p1 S Q) : MetI l yX11_where (wB yX11_where cX11_where 4 (some .int)) rm_X11_where shE NE RCE (fun ad => [.ref (ad (0)), .long p0, .int p1]) S Q := by
  refine MetI_of (cc := cX11_where) (maxL := 4) (ret := (some .int)) (plainFor_of_name (by decide)) (fun _ => Nat.le_of_ble_eq_true rfl) (fun G C hl hQ => ?_)
  subst hl
  have C : Cx G cX11_where BIG RX11 4 (some .int) rm_X11_where shE NE := C
  show Go G 4 0 [] [(0, .ref (Gad G (0))), (1, .long p0), (3, .int p1)] S
  unfold w_X11_where at hw
  refine Go_lload_n (q := 1) C 1 rfl dX11_where_0 rfl ?_
  refine Go_callS_I (av := (fun ad => [.long p0])) (st := []) (C := C) (hM := c_X11_isStanza (Gl G)  hR hw) (hlk := wm_32_14) (hini := wm_1_2) (hst2 := wm_32_15) (hcode := wm_32_16) (n := 1) (hd := by decide +kernel) (hr0 := ⟨rfl, rfl⟩) (hroom := ⟨by first | decide | (dsimp only; omega), by first | decide | (dsimp only; omega)⟩) (hlen := rfl) (hst := rfl) (hW := Nat.le_of_ble_eq_true rfl) (hdg := dX11_where_1) (q := 4) (hq := rfl) (fun r1_2 S1_1 hw hR => ?_)
  refine Go_if_eq (t := 27) (q := 7) C hw dX11_where_4 rfl rfl (fun hw => ?_) (fun hw => ?_)
  · refine Go_iconst (q := 28) (v := (-1 : Int32)) C dX11_where_27 rfl rfl ?_
    exact Go_iret C hQ hR hw dX11_where_28
  · refine Go_aload_n (q := 8) C 0 rfl dX11_where_7 rfl ?_
    refine Go_iload_n (q := 9) C 2 rfl dX11_where_8 rfl ?_
    refine Go_callV_I (av := (fun ad => [.int p1])) (st := []) (C := C) (hM := c_X11_isEnd (Gl G)  hR hw) (hlk := wm_31_13) (hini := wm_1_2) (hins := wm_31_14) (hsel := wm_31_15) (hcode := wm_31_16) (ho := kE_0) (hci := rfl) (hc13 := by decide) (n := 1) (hd := by decide +kernel) (hr0 := ⟨rfl, rfl⟩) (hroom := ⟨by first | decide | (dsimp only; omega), by first | decide | (dsimp only; omega)⟩) (hlen := rfl) (hst := rfl) (hW := Nat.le_of_ble_eq_true rfl) (hdg := dX11_where_9) (q := 12) (hq := rfl) (fun r9_4 S9_3 hw hR => ?_)
    refine Go_if_eq (t := 27) (q := 15) C hw dX11_where_12 rfl rfl (fun hw => ?_) (fun hw => ?_)
    · refine Go_iconst (q := 28) (v := (-1 : Int32)) C dX11_where_27 rfl rfl ?_
      exact Go_iret C hQ hR hw dX11_where_28
    · refine Go_aload_n (q := 16) C 0 rfl dX11_where_15 rfl ?_
      refine Go_getA (q := 19) (k := 4) C ci11 iw_11 kE_0 (rE_0_4 hR) rfl wm_2_9 rfl dX11_where_16 rfl ?_
      refine Go_lload_n (q := 20) C 1 rfl dX11_where_19 rfl ?_
      refine Go_iload_n (q := 21) C 2 rfl dX11_where_20 rfl ?_
      refine Go_callV_I (av := (fun ad => [.long p0, .int p1])) (st := []) (C := C) (hM := c_X9_placeOf (Gl G)  hR hw) (hlk := wm_33_18) (hini := wm_2_8) (hins := wm_33_19) (hsel := wm_33_20) (hcode := wm_33_21) (ho := kE_34) (hci := rfl) (hc13 := by decide) (n := 2) (hd := by decide +kernel) (hr0 := ⟨rfl, rfl⟩) (hroom := ⟨by first | decide | (dsimp only; omega), by first | decide | (dsimp only; omega)⟩) (hlen := rfl) (hst := rfl) (hW := Nat.le_of_ble_eq_true rfl) (hdg := dX11_where_21) (q := 24) (hq := rfl) (fun r21_6 S21_5 hw hR => ?_)
      refine Go_goto (q := 28) C dX11_where_24 rfl ?_
      exact Go_iret C hQ hR hw dX11_where_28
-- X9_firstMeeting
abbrev rm_X9_firstMeeting : Room := { frames := 1, cells := 0, slots := 0, locals := 21 }
set_option maxRecDepth 100000 in
set_option maxHeartbeats 4000000 in
theorem g_X9_firstMeeting_5 {G : GC} (C : Cx G cX9_firstMeeting BIG RX9 5 (some .int) rm_X9_firstMeeting shE NE) {Q : Int32 → St → Prop} (hQ : QI G RCE Q) (p1 : Int32) (v3 : Int32) (v4 : Int32) {S : St} (hR : RCE S) (hw : w_X9_firstMeeting_5 p1 Q v3 v4 S) : Go G 5 5 [] [(0, .ref (Gad G (34))), (2, .int p1), (3, .int v3), (4, .int v4)] S := by
  obtain ⟨n, hw⟩ := hw
  induction n generalizing v3 v4 S with
  | zero => exact hw.elim
  | succ n ih =>
    have hw : b_X9_firstMeeting_5 p1 Q (lpn (fun _ _ _ => False) (b_X9_firstMeeting_5 p1 Q) n) v3 v4 S := hw
    generalize lpn (fun _ _ _ => False) (b_X9_firstMeeting_5 p1 Q) n = kf at hw ih
    have hk5 := fun (v3 : Int32) (v4 : Int32) (S : St) (hR : RCE S) hw => ih v3 v4 hR hw
    unfold b_X9_firstMeeting_5 at hw
    refine Go_iload (q := 7) C 3 rfl dX9_firstMeeting_5 rfl ?_
    refine Go_aload_n (q := 8) C 0 rfl dX9_firstMeeting_7 rfl ?_
    refine Go_getI (q := 11) (k := 7) C ci9 iw_9 kE_34 rfl wm_10_19 rfl dX9_firstMeeting_8 rfl ?_
    refine Go_icmp_ge (t := 37) (q := 14) C hw dX9_firstMeeting_11 rfl rfl (fun hw => ?_) (fun hw => ?_)
    · refine Go_iconst (q := 38) (v := (-1 : Int32)) C dX9_firstMeeting_37 rfl rfl ?_
      exact Go_iret C hQ hR hw dX9_firstMeeting_38
    · refine Go_iload_n (q := 15) C 2 rfl dX9_firstMeeting_14 rfl ?_
      refine Go_iload_n (q := 16) C 1 rfl dX9_firstMeeting_15 rfl ?_
      refine Go_icmp_ne (t := 22) (q := 19) C hw dX9_firstMeeting_16 rfl rfl (fun hw => ?_) (fun hw => ?_)
      · refine Go_iload (q := 21) C 3 rfl dX9_firstMeeting_19 rfl ?_
        exact Go_iret C hQ hR hw dX9_firstMeeting_21
      · refine Go_aload_n (q := 23) C 0 rfl dX9_firstMeeting_22 rfl ?_
        refine Go_getA (q := 26) (k := 2) C ci9 iw_9 kE_34 (rE_34_2 hR) rfl wm_7_17 rfl dX9_firstMeeting_23 rfl ?_
        refine Go_iload_n (q := 27) C 2 rfl dX9_firstMeeting_26 rfl ?_
        refine Go_callSN_I (av := (fun ad => [.ref (ad (38)), .int v3])) (st := []) (C := C) (hM := c_X11_cell (Gl G) (ok_ln kE_38) hR hw) (host := "EndsRound") (hnw := nw_77) (hini := wm_1_2) (hst2 := wm_10_22) (hcode := wm_10_23) (n := 2) (hd := by decide +kernel) (hr0 := ⟨rfl, rfl⟩) (hroom := ⟨by first | decide | (dsimp only; omega), by first | decide | (dsimp only; omega)⟩) (hlen := rfl) (hst := rfl) (hW := Nat.le_of_ble_eq_true rfl) (hdg := dX9_firstMeeting_27) (q := 30) (hq := rfl) (fun r27_2 S27_1 hw hR => ?_)
        refine Go_istore_n (q := 31) (lv' := [(3, .int r27_2), (0, .ref (Gad G (34))), (2, .int p1), (4, .int v4)]) C rfl dX9_firstMeeting_30 (by decide) rfl rfl ?_
        refine Go_iinc2 (q := 34) (kp := 3) (cst := (1 : Int32)) C dX9_firstMeeting_31 rfl rfl (by decide) rfl (fun x31_3 e_x31_3 => ?_)
        have hw := hw x31_3 e_x31_3
        refine Go_lve (lv' := [(4, .int x31_3), (3, .int r27_2), (0, .ref (Gad G (34))), (2, .int p1)]) rfl ?_
        refine Go_goto (q := 5) C dX9_firstMeeting_34 rfl ?_
        refine Go_lvp [2, 3, 1, 0] rfl ?_
        exact hk5 _ _ _ hR hw
set_option maxRecDepth 100000 in
set_option maxHeartbeats 4000000 in
theorem c_X9_firstMeeting (l : Launch) {p0 : Int32} {p1 : Int32} {S : St} {Q : Int32 → St → Prop} (hR : RCE S) (hw : w_X9_firstMeeting p0 p1 S Q) : MetI l yX9_firstMeeting (wB yX9_firstMeeting cX9_firstMeeting 5 (some .int)) rm_X9_firstMeeting shE NE RCE (fun ad => [.ref (ad (34)), .int p0, .int p1]) S Q := by
  refine MetI_of (cc := cX9_firstMeeting) (maxL := 5) (ret := (some .int)) (plainFor_of_name (by decide)) (fun _ => Nat.le_of_ble_eq_true rfl) (fun G C hl hQ => ?_)
  subst hl
  have C : Cx G cX9_firstMeeting BIG RX9 5 (some .int) rm_X9_firstMeeting shE NE := C
  show Go G 5 0 [] [(0, .ref (Gad G (34))), (1, .int p0), (2, .int p1)] S
  unfold w_X9_firstMeeting at hw
  refine Go_iload_n (q := 1) C 1 rfl dX9_firstMeeting_0 rfl ?_
  refine Go_istore_n (q := 2) (lv' := [(3, .int p0), (0, .ref (Gad G (34))), (1, .int p0), (2, .int p1)]) C rfl dX9_firstMeeting_1 (by decide) rfl rfl ?_
  refine Go_iconst (q := 3) (v := (0 : Int32)) C dX9_firstMeeting_2 rfl rfl ?_
  refine Go_istore (q := 5) (lv' := [(4, .int (0 : Int32)), (3, .int p0), (0, .ref (Gad G (34))), (1, .int p0), (2, .int p1)]) C dX9_firstMeeting_3 (by decide) rfl rfl ?_
  refine Go_lvp [2, 4, 1, 0] rfl ?_
  exact g_X9_firstMeeting_5 C hQ p1 _ _ hR hw
-- X11_meets
abbrev rm_X11_meets : Room := { frames := 2, cells := 0, slots := 0, locals := 45 }
set_option maxRecDepth 100000 in
set_option maxHeartbeats 4000000 in
theorem c_X11_meets (l : Launch) {p0 : Int32} {p1 : Int32} {S : St} {Q : Int32 → St → Prop} (hR : RCE S) (hw : w_X11_meets p0 p1 S Q) : MetI l yX11_meets (wB yX11_meets cX11_meets 3 (some .int)) rm_X11_meets shE NE RCE (fun ad => [.ref (ad (0)), .int p0, .int p1]) S Q := by
  refine MetI_of (cc := cX11_meets) (maxL := 3) (ret := (some .int)) (plainFor_of_name (by decide)) (fun _ => Nat.le_of_ble_eq_true rfl) (fun G C hl hQ => ?_)
  subst hl
  have C : Cx G cX11_meets BIG RX11 3 (some .int) rm_X11_meets shE NE := C
  show Go G 3 0 [] [(0, .ref (Gad G (0))), (1, .int p0), (2, .int p1)] S
  unfold w_X11_meets at hw
  refine Go_aload_n (q := 1) C 0 rfl dX11_meets_0 rfl ?_
  refine Go_iload_n (q := 2) C 1 rfl dX11_meets_1 rfl ?_
  refine Go_callV_I (av := (fun ad => [.int p0])) (st := []) (C := C) (hM := c_X11_isEnd (Gl G)  hR hw) (hlk := wm_31_13) (hini := wm_1_2) (hins := wm_31_14) (hsel := wm_31_15) (hcode := wm_31_16) (ho := kE_0) (hci := rfl) (hc13 := by decide) (n := 1) (hd := by decide +kernel) (hr0 := ⟨rfl, rfl⟩) (hroom := ⟨by first | decide | (dsimp only; omega), by first | decide | (dsimp only; omega)⟩) (hlen := rfl) (hst := rfl) (hW := Nat.le_of_ble_eq_true rfl) (hdg := dX11_meets_2) (q := 5) (hq := rfl) (fun r2_2 S2_1 hw hR => ?_)
  refine Go_if_eq (t := 28) (q := 8) C hw dX11_meets_5 rfl rfl (fun hw => ?_) (fun hw => ?_)
  · refine Go_iconst (q := 29) (v := (-1 : Int32)) C dX11_meets_28 rfl rfl ?_
    exact Go_iret C hQ hR hw dX11_meets_29
  · refine Go_aload_n (q := 9) C 0 rfl dX11_meets_8 rfl ?_
    refine Go_iload_n (q := 10) C 2 rfl dX11_meets_9 rfl ?_
    refine Go_callV_I (av := (fun ad => [.int p1])) (st := []) (C := C) (hM := c_X11_isEnd (Gl G)  hR hw) (hlk := wm_31_13) (hini := wm_1_2) (hins := wm_31_14) (hsel := wm_31_15) (hcode := wm_31_16) (ho := kE_0) (hci := rfl) (hc13 := by decide) (n := 1) (hd := by decide +kernel) (hr0 := ⟨rfl, rfl⟩) (hroom := ⟨by first | decide | (dsimp only; omega), by first | decide | (dsimp only; omega)⟩) (hlen := rfl) (hst := rfl) (hW := Nat.le_of_ble_eq_true rfl) (hdg := dX11_meets_10) (q := 13) (hq := rfl) (fun r10_4 S10_3 hw hR => ?_)
    refine Go_if_eq (t := 28) (q := 16) C hw dX11_meets_13 rfl rfl (fun hw => ?_) (fun hw => ?_)
    · refine Go_iconst (q := 29) (v := (-1 : Int32)) C dX11_meets_28 rfl rfl ?_
      exact Go_iret C hQ hR hw dX11_meets_29
    · refine Go_aload_n (q := 17) C 0 rfl dX11_meets_16 rfl ?_
      refine Go_getA (q := 20) (k := 4) C ci11 iw_11 kE_0 (rE_0_4 hR) rfl wm_2_9 rfl dX11_meets_17 rfl ?_
      refine Go_iload_n (q := 21) C 1 rfl dX11_meets_20 rfl ?_
      refine Go_iload_n (q := 22) C 2 rfl dX11_meets_21 rfl ?_
      refine Go_callV_I (av := (fun ad => [.int p0, .int p1])) (st := []) (C := C) (hM := c_X9_firstMeeting (Gl G)  hR hw) (hlk := wm_34_10) (hini := wm_2_8) (hins := wm_34_11) (hsel := wm_34_12) (hcode := wm_34_13) (ho := kE_34) (hci := rfl) (hc13 := by decide) (n := 2) (hd := by decide +kernel) (hr0 := ⟨rfl, rfl⟩) (hroom := ⟨by first | decide | (dsimp only; omega), by first | decide | (dsimp only; omega)⟩) (hlen := rfl) (hst := rfl) (hW := Nat.le_of_ble_eq_true rfl) (hdg := dX11_meets_22) (q := 25) (hq := rfl) (fun r22_6 S22_5 hw hR => ?_)
      refine Go_goto (q := 29) C dX11_meets_25 rfl ?_
      exact Go_iret C hQ hR hw dX11_meets_29
-- X11_round
abbrev rm_X11_round : Room := { frames := 0, cells := 0, slots := 0, locals := 0 }
set_option maxRecDepth 100000 in
set_option maxHeartbeats 4000000 in
theorem c_X11_round (l : Launch) {p0 : Int32} {S : St} {Q : Int32 → St → Prop} (hR : RCE S) (hw : w_X11_round p0 S Q) : MetI l yX11_round (wB yX11_round cX11_round 2 (some .int)) rm_X11_round shE NE RCE (fun ad => [.ref (ad (0)), .int p0]) S Q := by
  refine MetI_of (cc := cX11_round) (maxL := 2) (ret := (some .int)) (plainFor_of_name (by decide)) (fun _ => Nat.le_of_ble_eq_true rfl) (fun G C hl hQ => ?_)
  subst hl
  have C : Cx G cX11_round BIG RX11 2 (some .int) rm_X11_round shE NE := C
  show Go G 2 0 [] [(0, .ref (Gad G (0))), (1, .int p0)] S
  unfold w_X11_round at hw
  refine Go_iload_n (q := 1) C 1 rfl dX11_round_0 rfl ?_
  by_cases hk0 : p0 = (0 : Int32)
  · have hw := ite_t hw hk0
    refine Go_tableIn (t := 36) C dX11_round_1 (by rw [hk0]; decide) (by rw [hk0]; decide) (by rw [hk0]; rfl) rfl ?_
    refine Go_aload_n (q := 37) C 0 rfl dX11_round_36 rfl ?_
    refine Go_getA (q := 40) (k := 4) C ci11 iw_11 kE_0 (rE_0_4 hR) rfl wm_2_9 rfl dX11_round_37 rfl ?_
    refine Go_getAN (q := 43) (k := 0) (host := "EndsRound") C ci9 iw_9 kE_34 (rE_34_0 hR) rfl nw_56 rfl dX11_round_40 rfl ?_
    refine Go_getJN (q := 46) (k := 5) (host := "EndsRound") C ci1 iw_1 kE_35 rfl nw_55 rfl dX11_round_43 rfl ?_
    refine Go_l2i (q := 47) C dX11_round_46 rfl ?_
    exact Go_iret C hQ hR hw dX11_round_47
  have hw := ite_f hw hk0
  by_cases hk1 : p0 = (1 : Int32)
  · have hw := ite_t hw hk1
    refine Go_tableIn (t := 48) C dX11_round_1 (by rw [hk1]; decide) (by rw [hk1]; decide) (by rw [hk1]; rfl) rfl ?_
    refine Go_aload_n (q := 49) C 0 rfl dX11_round_48 rfl ?_
    refine Go_getA (q := 52) (k := 4) C ci11 iw_11 kE_0 (rE_0_4 hR) rfl wm_2_9 rfl dX11_round_49 rfl ?_
    refine Go_getAN (q := 55) (k := 0) (host := "EndsRound") C ci9 iw_9 kE_34 (rE_34_0 hR) rfl nw_56 rfl dX11_round_52 rfl ?_
    refine Go_getIN (q := 58) (k := 2) (host := "EndsRound") C ci1 iw_1 kE_35 rfl nw_51 rfl dX11_round_55 rfl ?_
    exact Go_iret C hQ hR hw dX11_round_58
  have hw := ite_f hw hk1
  by_cases hk2 : p0 = (2 : Int32)
  · have hw := ite_t hw hk2
    refine Go_tableIn (t := 59) C dX11_round_1 (by rw [hk2]; decide) (by rw [hk2]; decide) (by rw [hk2]; rfl) rfl ?_
    refine Go_aload_n (q := 60) C 0 rfl dX11_round_59 rfl ?_
    refine Go_getA (q := 63) (k := 4) C ci11 iw_11 kE_0 (rE_0_4 hR) rfl wm_2_9 rfl dX11_round_60 rfl ?_
    refine Go_getAN (q := 66) (k := 0) (host := "EndsRound") C ci9 iw_9 kE_34 (rE_34_0 hR) rfl nw_56 rfl dX11_round_63 rfl ?_
    refine Go_getIN (q := 69) (k := 3) (host := "EndsRound") C ci1 iw_1 kE_35 rfl nw_52 rfl dX11_round_66 rfl ?_
    exact Go_iret C hQ hR hw dX11_round_69
  have hw := ite_f hw hk2
  by_cases hk3 : p0 = (3 : Int32)
  · have hw := ite_t hw hk3
    refine Go_tableIn (t := 70) C dX11_round_1 (by rw [hk3]; decide) (by rw [hk3]; decide) (by rw [hk3]; rfl) rfl ?_
    refine Go_aload_n (q := 71) C 0 rfl dX11_round_70 rfl ?_
    refine Go_getA (q := 74) (k := 4) C ci11 iw_11 kE_0 (rE_0_4 hR) rfl wm_2_9 rfl dX11_round_71 rfl ?_
    refine Go_getAN (q := 77) (k := 0) (host := "EndsRound") C ci9 iw_9 kE_34 (rE_34_0 hR) rfl nw_56 rfl dX11_round_74 rfl ?_
    refine Go_getIN (q := 80) (k := 4) (host := "EndsRound") C ci1 iw_1 kE_35 rfl nw_53 rfl dX11_round_77 rfl ?_
    exact Go_iret C hQ hR hw dX11_round_80
  have hw := ite_f hw hk3
  by_cases hk4 : p0 = (4 : Int32)
  · have hw := ite_t hw hk4
    refine Go_tableIn (t := 81) C dX11_round_1 (by rw [hk4]; decide) (by rw [hk4]; decide) (by rw [hk4]; rfl) rfl ?_
    refine Go_aload_n (q := 82) C 0 rfl dX11_round_81 rfl ?_
    refine Go_getA (q := 85) (k := 2) C ci11 iw_11 kE_0 (rE_0_2 hR) rfl wm_2_1 rfl dX11_round_82 rfl ?_
    refine Go_getIN (q := 88) (k := 0) (host := "EndsRound") C ci4 iw_4 kE_21 rfl nw_11 rfl dX11_round_85 rfl ?_
    refine Go_aload_n (q := 89) C 0 rfl dX11_round_88 rfl ?_
    refine Go_getA (q := 92) (k := 4) C ci11 iw_11 kE_0 (rE_0_4 hR) rfl wm_2_9 rfl dX11_round_89 rfl ?_
    refine Go_getAN (q := 95) (k := 0) (host := "EndsRound") C ci9 iw_9 kE_34 (rE_34_0 hR) rfl nw_56 rfl dX11_round_92 rfl ?_
    refine Go_getIN (q := 98) (k := 2) (host := "EndsRound") C ci1 iw_1 kE_35 rfl nw_51 rfl dX11_round_95 rfl ?_
    refine Go_isub (q := 99) C dX11_round_98 rfl ?_
    refine Go_iconst (q := 100) (v := (1 : Int32)) C dX11_round_99 rfl rfl ?_
    refine Go_iand (q := 101) C dX11_round_100 rfl ?_
    exact Go_iret C hQ hR hw dX11_round_101
  have hw := ite_f hw hk4
  refine Go_tableOut (t := 102) C dX11_round_1 (by have g0 : ¬ (p0).toInt = 0 := ne_toInt hk0; have g1 : ¬ (p0).toInt = 1 := ne_toInt hk1; have g2 : ¬ (p0).toInt = 2 := ne_toInt hk2; have g3 : ¬ (p0).toInt = 3 := ne_toInt hk3; have g4 : ¬ (p0).toInt = 4 := ne_toInt hk4; omega) rfl ?_
  refine Go_iconst (q := 103) (v := (-1 : Int32)) C dX11_round_102 rfl rfl ?_
  exact Go_iret C hQ hR hw dX11_round_103
