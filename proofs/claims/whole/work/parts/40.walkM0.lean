-- X12_thrown
abbrev rm_X12_thrown : Room := { frames := 0, cells := 0, slots := 0, locals := 0 }
set_option maxRecDepth 100000 in
set_option maxHeartbeats 4000000 in
theorem c_X12_thrown (l : Launch) {S : St} {Q : Int32 → St → Prop} (hR : RCM S) (hw : w_X12_thrown S Q) : MetI l yX12_thrown (wB yX12_thrown cX12_thrown 1 (some .int)) rm_X12_thrown shM NM RCM (fun ad => [.ref (ad (0))]) S Q := by
  refine MetI_of (cc := cX12_thrown) (maxL := 1) (ret := (some .int)) (plainFor_of_name (by decide)) (fun _ => Nat.le_of_ble_eq_true rfl) (fun G C hl hQ => ?_)
  subst hl
  have C : Cx G cX12_thrown BIG RX12 1 (some .int) rm_X12_thrown shM NM := C
  show Go G 1 0 [] [(0, .ref (Gad G (0)))] S
  unfold w_X12_thrown at hw
  refine Go_aload_n (q := 1) C 0 rfl dX12_thrown_0 rfl ?_
  refine Go_getI (q := 4) (k := 0) C ci12 iw_12 kM_0 rfl wm_15_14 rfl dX12_thrown_1 rfl ?_
  exact Go_iret C hQ hR hw dX12_thrown_4
-- X12_within
abbrev rm_X12_within : Room := { frames := 0, cells := 0, slots := 0, locals := 0 }
set_option maxRecDepth 100000 in
set_option maxHeartbeats 4000000 in
theorem c_X12_within (l : Launch) {p0 : Int32} {p1 : Int32} {p2 : Int32} {S : St} {Q : Int32 → St → Prop} (hR : RCM S) (hw : w_X12_within p0 p1 p2 S Q) : MetI l yX12_within (wB yX12_within cX12_within 3 (some .boolean)) rm_X12_within shM NM RCM (fun ad => [.int p0, .int p1, .int p2]) S Q := by
  refine MetI_of (cc := cX12_within) (maxL := 3) (ret := (some .boolean)) (plainFor_of_name (by decide)) (fun _ => Nat.le_of_ble_eq_true rfl) (fun G C hl hQ => ?_)
  subst hl
  have C : Cx G cX12_within BIG RX12 3 (some .boolean) rm_X12_within shM NM := C
  show Go G 3 0 [] [(0, .int p0), (1, .int p1), (2, .int p2)] S
  unfold w_X12_within at hw
  refine Go_iload_n (q := 1) C 0 rfl dX12_within_0 rfl ?_
  refine Go_iload_n (q := 2) C 1 rfl dX12_within_1 rfl ?_
  refine Go_icmp_lt (t := 14) (q := 5) C hw dX12_within_2 rfl rfl (fun hw => ?_) (fun hw => ?_)
  · refine Go_iconst (q := 15) (v := (0 : Int32)) C dX12_within_14 rfl rfl ?_
    exact Go_zret C hQ hR rfl hw dX12_within_15
  · refine Go_iload_n (q := 6) C 0 rfl dX12_within_5 rfl ?_
    refine Go_iload_n (q := 7) C 2 rfl dX12_within_6 rfl ?_
    refine Go_icmp_gt (t := 14) (q := 10) C hw dX12_within_7 rfl rfl (fun hw => ?_) (fun hw => ?_)
    · refine Go_iconst (q := 15) (v := (0 : Int32)) C dX12_within_14 rfl rfl ?_
      exact Go_zret C hQ hR rfl hw dX12_within_15
    · refine Go_iconst (q := 11) (v := (1 : Int32)) C dX12_within_10 rfl rfl ?_
      refine Go_goto (q := 15) C dX12_within_11 rfl ?_
      exact Go_zret C hQ hR rfl hw dX12_within_15
-- X12_bits
abbrev rm_X12_bits : Room := { frames := 0, cells := 0, slots := 0, locals := 0 }
set_option maxRecDepth 100000 in
set_option maxHeartbeats 4000000 in
theorem g_X12_bits_4 {G : GC} (C : Cx G cX12_bits BIG RX12 3 (some .int) rm_X12_bits shM NM) {Q : Int32 → St → Prop} (hQ : QI G RCM Q) (p0 : Int32) (v1 : Int32) (v2 : Int32) {S : St} (hR : RCM S) (hw : w_X12_bits_4 p0 Q v1 v2 S) : Go G 3 4 [] [(0, .int p0), (1, .int v1), (2, .int v2)] S := by
  obtain ⟨n, hw⟩ := hw
  induction n generalizing v1 v2 S with
  | zero => exact hw.elim
  | succ n ih =>
    have hw : b_X12_bits_4 p0 Q (lpn (fun _ _ _ => False) (b_X12_bits_4 p0 Q) n) v1 v2 S := hw
    generalize lpn (fun _ _ _ => False) (b_X12_bits_4 p0 Q) n = kf at hw ih
    have hk4 := fun (v1 : Int32) (v2 : Int32) (S : St) (hR : RCM S) hw => ih v1 v2 hR hw
    unfold b_X12_bits_4 at hw
    refine Go_iload_n (q := 5) C 2 rfl dX12_bits_4 rfl ?_
    refine Go_bipush (q := 7) (v := (12 : Int32)) C dX12_bits_5 rfl rfl ?_
    refine Go_icmp_ge (t := 24) (q := 10) C hw dX12_bits_7 rfl rfl (fun hw => ?_) (fun hw => ?_)
    · refine Go_iload_n (q := 25) C 1 rfl dX12_bits_24 rfl ?_
      exact Go_iret C hQ hR hw dX12_bits_25
    · refine Go_iload_n (q := 11) C 1 rfl dX12_bits_10 rfl ?_
      refine Go_iload_n (q := 12) C 0 rfl dX12_bits_11 rfl ?_
      refine Go_iload_n (q := 13) C 2 rfl dX12_bits_12 rfl ?_
      refine Go_ishr (q := 14) C dX12_bits_13 rfl ?_
      refine Go_iconst (q := 15) (v := (1 : Int32)) C dX12_bits_14 rfl rfl ?_
      refine Go_iand (q := 16) C dX12_bits_15 rfl ?_
      refine Go_iadd (q := 17) C dX12_bits_16 rfl ?_
      refine Go_topi (fun x17_1 e_x17_1 => ?_)
      have hw := hw x17_1 e_x17_1
      refine Go_istore_n (q := 18) (lv' := [(1, .int x17_1), (0, .int p0), (2, .int v2)]) C rfl dX12_bits_17 (by decide) rfl rfl ?_
      refine Go_iinc2 (q := 21) (kp := 2) (cst := (1 : Int32)) C dX12_bits_18 rfl rfl (by decide) rfl (fun x18_2 e_x18_2 => ?_)
      have hw := hw x18_2 e_x18_2
      refine Go_lve (lv' := [(2, .int x18_2), (1, .int x17_1), (0, .int p0)]) rfl ?_
      refine Go_goto (q := 4) C dX12_bits_21 rfl ?_
      refine Go_lvp [2, 1, 0] rfl ?_
      exact hk4 _ _ _ hR hw
set_option maxRecDepth 100000 in
set_option maxHeartbeats 4000000 in
theorem c_X12_bits (l : Launch) {p0 : Int32} {S : St} {Q : Int32 → St → Prop} (hR : RCM S) (hw : w_X12_bits p0 S Q) : MetI l yX12_bits (wB yX12_bits cX12_bits 3 (some .int)) rm_X12_bits shM NM RCM (fun ad => [.int p0]) S Q := by
  refine MetI_of (cc := cX12_bits) (maxL := 3) (ret := (some .int)) (plainFor_of_name (by decide)) (fun _ => Nat.le_of_ble_eq_true rfl) (fun G C hl hQ => ?_)
  subst hl
  have C : Cx G cX12_bits BIG RX12 3 (some .int) rm_X12_bits shM NM := C
  show Go G 3 0 [] [(0, .int p0)] S
  unfold w_X12_bits at hw
  refine Go_iconst (q := 1) (v := (0 : Int32)) C dX12_bits_0 rfl rfl ?_
  refine Go_istore_n (q := 2) (lv' := [(1, .int (0 : Int32)), (0, .int p0)]) C rfl dX12_bits_1 (by decide) rfl rfl ?_
  refine Go_iconst (q := 3) (v := (0 : Int32)) C dX12_bits_2 rfl rfl ?_
  refine Go_istore_n (q := 4) (lv' := [(2, .int (0 : Int32)), (1, .int (0 : Int32)), (0, .int p0)]) C rfl dX12_bits_3 (by decide) rfl rfl ?_
  refine Go_lvp [2, 1, 0] rfl ?_
  exact g_X12_bits_4 C hQ p0 _ _ hR hw
-- X12_feed
abbrev rm_X12_feed : Room := { frames := 0, cells := 0, slots := 0, locals := 0 }
set_option maxRecDepth 100000 in
set_option maxHeartbeats 4000000 in
theorem g_X12_feed_93 {G : GC} (C : Cx G cX12_feed BIG RX12 11 (some .int) rm_X12_feed shM NM) {Q : Int32 → St → Prop} (hQ : QI G RCM Q) (p0 : Int64) (p1 : Int64) (p2 : Int64) (v7 : Int32) (v10 : Int32) {k8 : Int32 → St → Prop} (hk8 : ∀ (v7 : Int32) (S : St), RCM S → k8 v7 S → Go G 11 8 [] [(0, .ref (Gad G (0))), (1, .long p0), (3, .long p1), (5, .long p2), (7, .int v7)] S) {S : St} (hR : RCM S) (hw : w_X12_feed_93 p0 p1 p2 k8 v7 v10 S) : Go G 11 93 [] [(0, .ref (Gad G (0))), (1, .long p0), (3, .long p1), (5, .long p2), (7, .int v7), (10, .int v10)] S := by
  unfold w_X12_feed_93 at hw
  refine Go_aload_n (q := 94) C 0 rfl dX12_feed_93 rfl ?_
  refine Go_getA (q := 97) (k := 2) C ci12 iw_12 kM_0 (rM_0_2 hR) rfl wm_12_20 rfl dX12_feed_94 rfl ?_
  refine Go_aload_n (q := 98) C 0 rfl dX12_feed_97 rfl ?_
  refine Go_getI (q := 101) (k := 1) C ci12 iw_12 kM_0 rfl wm_15_16 rfl dX12_feed_98 rfl ?_
  refine Go_iload (q := 103) C 5 rfl dX12_feed_101 rfl ?_
  obtain ⟨hin, hw⟩ := hw
  refine Go_iastore (q := 104) C kM_1 hin dX12_feed_103 rfl ?_
  refine Go_S (fun S103_4 e_S103_4 => ?_)
  have hw := hw S103_4 e_S103_4
  have hR := rcM e_S103_4 hR
  refine Go_aload_n (q := 105) C 0 rfl dX12_feed_104 rfl ?_
  refine Go_dup (q := 106) C rfl dX12_feed_105 rfl ?_
  refine Go_getI (q := 109) (k := 1) C ci12 iw_12 kM_0 rfl wm_15_16 rfl dX12_feed_106 rfl ?_
  refine Go_iconst (q := 110) (v := (1 : Int32)) C dX12_feed_109 rfl rfl ?_
  refine Go_iadd (q := 111) C dX12_feed_110 rfl ?_
  refine Go_putI (q := 114) (k := 1) C ci12 iw_12 kM_0 rfl wm_15_16 rfl rfl (ci12.2.2.2.1 1 (by decide)) rfl rfl dX12_feed_111 rfl ?_
  refine Go_S (fun S111_5 e_S111_5 => ?_)
  have hw := hw S111_5 e_S111_5
  have hR := rcM e_S111_5 hR
  refine Go_iinc2 (q := 117) (kp := 4) (cst := (1 : Int32)) C dX12_feed_114 rfl rfl (by decide) rfl (fun x114_6 e_x114_6 => ?_)
  have hw := hw x114_6 e_x114_6
  refine Go_lve (lv' := [(7, .int x114_6), (0, .ref (Gad G (0))), (1, .long p0), (3, .long p1), (5, .long p2), (10, .int v10)]) rfl ?_
  refine Go_goto (q := 8) C dX12_feed_117 rfl ?_
  refine Go_lvp [1, 2, 3, 4, 0] rfl ?_
  exact hk8 _ _ hR hw
set_option maxRecDepth 100000 in
set_option maxHeartbeats 4000000 in
theorem g_X12_feed_39 {G : GC} (C : Cx G cX12_feed BIG RX12 11 (some .int) rm_X12_feed shM NM) {Q : Int32 → St → Prop} (hQ : QI G RCM Q) (p0 : Int64) (p1 : Int64) (p2 : Int64) (v7 : Int32) (t0 : Int64) {k8 : Int32 → St → Prop} (hk8 : ∀ (v7 : Int32) (S : St), RCM S → k8 v7 S → Go G 11 8 [] [(0, .ref (Gad G (0))), (1, .long p0), (3, .long p1), (5, .long p2), (7, .int v7)] S) {S : St} (hR : RCM S) (hw : w_X12_feed_39 p0 p1 p2 k8 v7 t0 S) : Go G 11 39 [.long t0] [(0, .ref (Gad G (0))), (1, .long p0), (3, .long p1), (5, .long p2), (7, .int v7)] S := by
  unfold w_X12_feed_39 at hw
  refine Go_lstore (q := 41) (lv' := [(8, .long t0), (0, .ref (Gad G (0))), (1, .long p0), (3, .long p1), (5, .long p2), (7, .int v7)]) C dX12_feed_39 (by decide) rfl rfl ?_
  refine Go_lload (q := 43) C 0 rfl dX12_feed_41 rfl ?_
  refine Go_bipush (q := 45) (v := (56 : Int32)) C dX12_feed_43 rfl rfl ?_
  refine Go_bipush (q := 47) (v := (8 : Int32)) C dX12_feed_45 rfl rfl ?_
  refine Go_iload (q := 49) C 5 rfl dX12_feed_47 rfl ?_
  refine Go_bipush (q := 51) (v := (7 : Int32)) C dX12_feed_49 rfl rfl ?_
  refine Go_iand (q := 52) C dX12_feed_51 rfl ?_
  refine Go_imul (q := 53) C dX12_feed_52 rfl ?_
  refine Go_isub (q := 54) C dX12_feed_53 rfl ?_
  refine Go_lushr (q := 55) C dX12_feed_54 rfl ?_
  refine Go_ldc2 (q := 58) (v := (255 : Int64)) C wm_15_15 dX12_feed_55 rfl ?_
  refine Go_land (q := 59) C dX12_feed_58 rfl ?_
  refine Go_l2i (q := 60) C dX12_feed_59 rfl ?_
  refine Go_topi (fun x60_2 e_x60_2 => ?_)
  have hw := hw x60_2 e_x60_2
  refine Go_istore (q := 62) (lv' := [(10, .int x60_2), (8, .long t0), (0, .ref (Gad G (0))), (1, .long p0), (3, .long p1), (5, .long p2), (7, .int v7)]) C dX12_feed_60 (by decide) rfl rfl ?_
  refine Go_aload_n (q := 63) C 2 rfl dX12_feed_62 rfl ?_
  refine Go_getI (q := 66) (k := 1) C ci12 iw_12 kM_0 rfl wm_15_16 rfl dX12_feed_63 rfl ?_
  refine Go_sipush (q := 69) (v := (1000 : Int32)) C dX12_feed_66 rfl rfl ?_
  refine Go_icmp_ge (t := 114) (q := 72) C hw dX12_feed_69 rfl rfl (fun hw => ?_) (fun hw => ?_)
  · refine Go_iinc2 (q := 117) (kp := 6) (cst := (1 : Int32)) C dX12_feed_114 rfl rfl (by decide) rfl (fun x114_3 e_x114_3 => ?_)
    have hw := hw x114_3 e_x114_3
    refine Go_lve (lv' := [(7, .int x114_3), (10, .int x60_2), (8, .long t0), (0, .ref (Gad G (0))), (1, .long p0), (3, .long p1), (5, .long p2)]) rfl ?_
    refine Go_goto (q := 8) C dX12_feed_117 rfl ?_
    refine Go_lvp [3, 4, 5, 6, 0] rfl ?_
    exact hk8 _ _ hR hw
  · refine Go_iload (q := 74) C 0 rfl dX12_feed_72 rfl ?_
    refine Go_bipush (q := 76) (v := (10 : Int32)) C dX12_feed_74 rfl rfl ?_
    refine Go_icmp_eq (t := 93) (q := 79) C hw dX12_feed_76 rfl rfl (fun hw => ?_) (fun hw => ?_)
    · refine Go_lvp [2, 3, 4, 5, 6, 0] rfl ?_
      exact g_X12_feed_93 C hQ p0 p1 p2 _ _ hk8 hR hw
    · refine Go_iload (q := 81) C 0 rfl dX12_feed_79 rfl ?_
      refine Go_bipush (q := 83) (v := (32 : Int32)) C dX12_feed_81 rfl rfl ?_
      refine Go_icmp_lt (t := 114) (q := 86) C hw dX12_feed_83 rfl rfl (fun hw => ?_) (fun hw => ?_)
      · refine Go_iinc2 (q := 117) (kp := 6) (cst := (1 : Int32)) C dX12_feed_114 rfl rfl (by decide) rfl (fun x114_7 e_x114_7 => ?_)
        have hw := hw x114_7 e_x114_7
        refine Go_lve (lv' := [(7, .int x114_7), (10, .int x60_2), (8, .long t0), (0, .ref (Gad G (0))), (1, .long p0), (3, .long p1), (5, .long p2)]) rfl ?_
        refine Go_goto (q := 8) C dX12_feed_117 rfl ?_
        refine Go_lvp [3, 4, 5, 6, 0] rfl ?_
        exact hk8 _ _ hR hw
      · refine Go_iload (q := 88) C 0 rfl dX12_feed_86 rfl ?_
        refine Go_bipush (q := 90) (v := (126 : Int32)) C dX12_feed_88 rfl rfl ?_
        refine Go_icmp_gt (t := 114) (q := 93) C hw dX12_feed_90 rfl rfl (fun hw => ?_) (fun hw => ?_)
        · refine Go_iinc2 (q := 117) (kp := 6) (cst := (1 : Int32)) C dX12_feed_114 rfl rfl (by decide) rfl (fun x114_8 e_x114_8 => ?_)
          have hw := hw x114_8 e_x114_8
          refine Go_lve (lv' := [(7, .int x114_8), (10, .int x60_2), (8, .long t0), (0, .ref (Gad G (0))), (1, .long p0), (3, .long p1), (5, .long p2)]) rfl ?_
          refine Go_goto (q := 8) C dX12_feed_117 rfl ?_
          refine Go_lvp [3, 4, 5, 6, 0] rfl ?_
          exact hk8 _ _ hR hw
        · refine Go_lvp [2, 3, 4, 5, 6, 0] rfl ?_
          exact g_X12_feed_93 C hQ p0 p1 p2 _ _ hk8 hR hw
set_option maxRecDepth 100000 in
set_option maxHeartbeats 4000000 in
theorem g_X12_feed_8 {G : GC} (C : Cx G cX12_feed BIG RX12 11 (some .int) rm_X12_feed shM NM) {Q : Int32 → St → Prop} (hQ : QI G RCM Q) (p0 : Int64) (p1 : Int64) (p2 : Int64) (v7 : Int32) {S : St} (hR : RCM S) (hw : w_X12_feed_8 p0 p1 p2 Q v7 S) : Go G 11 8 [] [(0, .ref (Gad G (0))), (1, .long p0), (3, .long p1), (5, .long p2), (7, .int v7)] S := by
  obtain ⟨n, hw⟩ := hw
  induction n generalizing v7 S with
  | zero => exact hw.elim
  | succ n ih =>
    have hw : b_X12_feed_8 p0 p1 p2 Q (lpn (fun _ _ => False) (b_X12_feed_8 p0 p1 p2 Q) n) v7 S := hw
    generalize lpn (fun _ _ => False) (b_X12_feed_8 p0 p1 p2 Q) n = kf at hw ih
    have hk8 := fun (v7 : Int32) (S : St) (hR : RCM S) hw => ih v7 hR hw
    unfold b_X12_feed_8 at hw
    refine Go_iload (q := 10) C 4 rfl dX12_feed_8 rfl ?_
    refine Go_bipush (q := 12) (v := (24 : Int32)) C dX12_feed_10 rfl rfl ?_
    refine Go_icmp_ge (t := 120) (q := 15) C hw dX12_feed_12 rfl rfl (fun hw => ?_) (fun hw => ?_)
    · refine Go_aload_n (q := 121) C 0 rfl dX12_feed_120 rfl ?_
      refine Go_getI (q := 124) (k := 1) C ci12 iw_12 kM_0 rfl wm_15_16 rfl dX12_feed_121 rfl ?_
      exact Go_iret C hQ hR hw dX12_feed_124
    · refine Go_iload (q := 17) C 4 rfl dX12_feed_15 rfl ?_
      refine Go_bipush (q := 19) (v := (8 : Int32)) C dX12_feed_17 rfl rfl ?_
      refine Go_icmp_ge (t := 26) (q := 22) C hw dX12_feed_19 rfl rfl (fun hw => ?_) (fun hw => ?_)
      · refine Go_iload (q := 28) C 4 rfl dX12_feed_26 rfl ?_
        refine Go_bipush (q := 30) (v := (16 : Int32)) C dX12_feed_28 rfl rfl ?_
        refine Go_icmp_ge (t := 37) (q := 33) C hw dX12_feed_30 rfl rfl (fun hw => ?_) (fun hw => ?_)
        · refine Go_lload (q := 39) C 3 rfl dX12_feed_37 rfl ?_
          refine Go_lvp [0, 1, 2, 3, 4] rfl ?_
          exact g_X12_feed_39 C hQ p0 p1 p2 _ _ hk8 hR hw
        · refine Go_lload_n (q := 34) C 2 rfl dX12_feed_33 rfl ?_
          refine Go_goto (q := 39) C dX12_feed_34 rfl ?_
          refine Go_lvp [0, 1, 2, 3, 4] rfl ?_
          exact g_X12_feed_39 C hQ p0 p1 p2 _ _ hk8 hR hw
      · refine Go_lload_n (q := 23) C 1 rfl dX12_feed_22 rfl ?_
        refine Go_goto (q := 39) C dX12_feed_23 rfl ?_
        refine Go_lvp [0, 1, 2, 3, 4] rfl ?_
        exact g_X12_feed_39 C hQ p0 p1 p2 _ _ hk8 hR hw
set_option maxRecDepth 100000 in
set_option maxHeartbeats 4000000 in
theorem c_X12_feed (l : Launch) {p0 : Int64} {p1 : Int64} {p2 : Int64} {S : St} {Q : Int32 → St → Prop} (hR : RCM S) (hw : w_X12_feed p0 p1 p2 S Q) : MetI l yX12_feed (wB yX12_feed cX12_feed 11 (some .int)) rm_X12_feed shM NM RCM (fun ad => [.ref (ad (0)), .long p0, .long p1, .long p2]) S Q := by
  refine MetI_of (cc := cX12_feed) (maxL := 11) (ret := (some .int)) (plainFor_of_name (by decide)) (fun _ => Nat.le_of_ble_eq_true rfl) (fun G C hl hQ => ?_)
  subst hl
  have C : Cx G cX12_feed BIG RX12 11 (some .int) rm_X12_feed shM NM := C
  show Go G 11 0 [] [(0, .ref (Gad G (0))), (1, .long p0), (3, .long p1), (5, .long p2)] S
  unfold w_X12_feed at hw
  refine Go_aload_n (q := 1) C 0 rfl dX12_feed_0 rfl ?_
  refine Go_iconst (q := 2) (v := (0 : Int32)) C dX12_feed_1 rfl rfl ?_
  refine Go_putI (q := 5) (k := 0) C ci12 iw_12 kM_0 rfl wm_15_14 rfl rfl (ci12.2.2.2.1 0 (by decide)) rfl rfl dX12_feed_2 rfl ?_
  refine Go_S (fun S2_1 e_S2_1 => ?_)
  have hw := hw S2_1 e_S2_1
  have hR := rcM e_S2_1 hR
  refine Go_iconst (q := 6) (v := (0 : Int32)) C dX12_feed_5 rfl rfl ?_
  refine Go_istore (q := 8) (lv' := [(7, .int (0 : Int32)), (0, .ref (Gad G (0))), (1, .long p0), (3, .long p1), (5, .long p2)]) C dX12_feed_6 (by decide) rfl rfl ?_
  refine Go_lvp [1, 2, 3, 4, 0] rfl ?_
  exact g_X12_feed_8 C hQ p0 p1 p2 _ hR hw
-- X12_signAt
abbrev rm_X12_signAt : Room := { frames := 0, cells := 0, slots := 0, locals := 0 }
set_option maxRecDepth 100000 in
set_option maxHeartbeats 4000000 in
theorem c_X12_signAt (l : Launch) {p0 : Int32} {S : St} {Q : Int32 → St → Prop} (hR : RCM S) (hw : w_X12_signAt p0 S Q) : MetI l yX12_signAt (wB yX12_signAt cX12_signAt 2 (some .int)) rm_X12_signAt shM NM RCM (fun ad => [.ref (ad (0)), .int p0]) S Q := by
  refine MetI_of (cc := cX12_signAt) (maxL := 2) (ret := (some .int)) (plainFor_of_name (by decide)) (fun _ => Nat.le_of_ble_eq_true rfl) (fun G C hl hQ => ?_)
  subst hl
  have C : Cx G cX12_signAt BIG RX12 2 (some .int) rm_X12_signAt shM NM := C
  show Go G 2 0 [] [(0, .ref (Gad G (0))), (1, .int p0)] S
  unfold w_X12_signAt at hw
  refine Go_iload_n (q := 1) C 1 rfl dX12_signAt_0 rfl ?_
  refine Go_aload_n (q := 2) C 0 rfl dX12_signAt_1 rfl ?_
  refine Go_getI (q := 5) (k := 3) C ci12 iw_12 kM_0 rfl wm_25_10 rfl dX12_signAt_2 rfl ?_
  refine Go_icmp_ge (t := 17) (q := 8) C hw dX12_signAt_5 rfl rfl (fun hw => ?_) (fun hw => ?_)
  · refine Go_iconst (q := 18) (v := (0 : Int32)) C dX12_signAt_17 rfl rfl ?_
    exact Go_iret C hQ hR hw dX12_signAt_18
  · refine Go_aload_n (q := 9) C 0 rfl dX12_signAt_8 rfl ?_
    refine Go_getA (q := 12) (k := 2) C ci12 iw_12 kM_0 (rM_0_2 hR) rfl wm_12_20 rfl dX12_signAt_9 rfl ?_
    refine Go_iload_n (q := 13) C 1 rfl dX12_signAt_12 rfl ?_
    obtain ⟨hin, hw⟩ := hw
    refine Go_iaload (q := 14) C kM_1 hin dX12_signAt_13 rfl ?_
    refine Go_goto (q := 18) C dX12_signAt_14 rfl ?_
    exact Go_iret C hQ hR hw dX12_signAt_18
-- X12_nextToken
abbrev rm_X12_nextToken : Room := { frames := 1, cells := 0, slots := 0, locals := 21 }
set_option maxRecDepth 100000 in
set_option maxHeartbeats 4000000 in
theorem g_X12_nextToken_345 {G : GC} (C : Cx G cX12_nextToken BIG RX12 2 none rm_X12_nextToken shM NM) {Q : St → Prop} (hQ : QV G RCM Q) (v1 : Int32) {S : St} (hR : RCM S) (hw : w_X12_nextToken_345 Q v1 S) : Go G 2 345 [.ref (Gad G (0))] [(1, .int v1)] S := by
  unfold w_X12_nextToken_345 at hw
  refine Go_iload_n (q := 346) C 0 rfl dX12_nextToken_345 rfl ?_
  refine Go_bipush (q := 348) (v := (45 : Int32)) C dX12_nextToken_346 rfl rfl ?_
  refine Go_icmp_eq (t := 363) (q := 351) C hw dX12_nextToken_348 rfl rfl (fun hw => ?_) (fun hw => ?_)
  · refine Go_iconst (q := 364) (v := (3 : Int32)) C dX12_nextToken_363 rfl rfl ?_
    refine Go_goto (q := 368) C dX12_nextToken_364 rfl ?_
    refine Go_putI (q := 371) (k := 6) C ci12 iw_12 kM_0 rfl wm_25_14 rfl rfl (ci12.2.2.2.1 6 (by decide)) rfl rfl dX12_nextToken_368 rfl ?_
    refine Go_S (fun S368_7 e_S368_7 => ?_)
    have hw := hw S368_7 e_S368_7
    have hR := rcM e_S368_7 hR
    exact Go_vret C hQ hR hw dX12_nextToken_371
  · refine Go_iload_n (q := 352) C 0 rfl dX12_nextToken_351 rfl ?_
    refine Go_bipush (q := 354) (v := (59 : Int32)) C dX12_nextToken_352 rfl rfl ?_
    refine Go_icmp_lt (t := 367) (q := 357) C hw dX12_nextToken_354 rfl rfl (fun hw => ?_) (fun hw => ?_)
    · refine Go_iconst (q := 368) (v := (4 : Int32)) C dX12_nextToken_367 rfl rfl ?_
      refine Go_putI (q := 371) (k := 6) C ci12 iw_12 kM_0 rfl wm_25_14 rfl rfl (ci12.2.2.2.1 6 (by decide)) rfl rfl dX12_nextToken_368 rfl ?_
      refine Go_S (fun S368_8 e_S368_8 => ?_)
      have hw := hw S368_8 e_S368_8
      have hR := rcM e_S368_8 hR
      exact Go_vret C hQ hR hw dX12_nextToken_371
    · refine Go_iload_n (q := 358) C 0 rfl dX12_nextToken_357 rfl ?_
      refine Go_bipush (q := 360) (v := (61 : Int32)) C dX12_nextToken_358 rfl rfl ?_
      refine Go_icmp_gt (t := 367) (q := 363) C hw dX12_nextToken_360 rfl rfl (fun hw => ?_) (fun hw => ?_)
      · refine Go_iconst (q := 368) (v := (4 : Int32)) C dX12_nextToken_367 rfl rfl ?_
        refine Go_putI (q := 371) (k := 6) C ci12 iw_12 kM_0 rfl wm_25_14 rfl rfl (ci12.2.2.2.1 6 (by decide)) rfl rfl dX12_nextToken_368 rfl ?_
        refine Go_S (fun S368_9 e_S368_9 => ?_)
        have hw := hw S368_9 e_S368_9
        have hR := rcM e_S368_9 hR
        exact Go_vret C hQ hR hw dX12_nextToken_371
      · refine Go_iconst (q := 364) (v := (3 : Int32)) C dX12_nextToken_363 rfl rfl ?_
        refine Go_goto (q := 368) C dX12_nextToken_364 rfl ?_
        refine Go_putI (q := 371) (k := 6) C ci12 iw_12 kM_0 rfl wm_25_14 rfl rfl (ci12.2.2.2.1 6 (by decide)) rfl rfl dX12_nextToken_368 rfl ?_
        refine Go_S (fun S368_10 e_S368_10 => ?_)
        have hw := hw S368_10 e_S368_10
        have hR := rcM e_S368_10 hR
        exact Go_vret C hQ hR hw dX12_nextToken_371
set_option maxRecDepth 100000 in
set_option maxHeartbeats 4000000 in
theorem g_X12_nextToken_322 {G : GC} (C : Cx G cX12_nextToken BIG RX12 2 none rm_X12_nextToken shM NM) {Q : St → Prop} (hQ : QV G RCM Q) (v1 : Int32) {S : St} (hR : RCM S) (hw : w_X12_nextToken_322 Q v1 S) : Go G 2 322 [] [(0, .ref (Gad G (0))), (1, .int v1)] S := by
  unfold w_X12_nextToken_322 at hw
  refine Go_aload_n (q := 323) C 0 rfl dX12_nextToken_322 rfl ?_
  refine Go_dup (q := 324) C rfl dX12_nextToken_323 rfl ?_
  refine Go_getI (q := 327) (k := 4) C ci12 iw_12 kM_0 rfl wm_25_11 rfl dX12_nextToken_324 rfl ?_
  refine Go_iconst (q := 328) (v := (1 : Int32)) C dX12_nextToken_327 rfl rfl ?_
  refine Go_iadd (q := 329) C dX12_nextToken_328 rfl ?_
  refine Go_putI (q := 332) (k := 4) C ci12 iw_12 kM_0 rfl wm_25_11 rfl rfl (ci12.2.2.2.1 4 (by decide)) rfl rfl dX12_nextToken_329 rfl ?_
  refine Go_S (fun S329_6 e_S329_6 => ?_)
  have hw := hw S329_6 e_S329_6
  have hR := rcM e_S329_6 hR
  refine Go_aload_n (q := 333) C 0 rfl dX12_nextToken_332 rfl ?_
  refine Go_iload_n (q := 334) C 1 rfl dX12_nextToken_333 rfl ?_
  refine Go_bipush (q := 336) (v := (40 : Int32)) C dX12_nextToken_334 rfl rfl ?_
  refine Go_icmp_lt (t := 345) (q := 339) C hw dX12_nextToken_336 rfl rfl (fun hw => ?_) (fun hw => ?_)
  · refine Go_lvp [1] rfl ?_
    exact g_X12_nextToken_345 C hQ _ hR hw
  · refine Go_iload_n (q := 340) C 1 rfl dX12_nextToken_339 rfl ?_
    refine Go_bipush (q := 342) (v := (43 : Int32)) C dX12_nextToken_340 rfl rfl ?_
    refine Go_icmp_le (t := 363) (q := 345) C hw dX12_nextToken_342 rfl rfl (fun hw => ?_) (fun hw => ?_)
    · refine Go_iconst (q := 364) (v := (3 : Int32)) C dX12_nextToken_363 rfl rfl ?_
      refine Go_goto (q := 368) C dX12_nextToken_364 rfl ?_
      refine Go_putI (q := 371) (k := 6) C ci12 iw_12 kM_0 rfl wm_25_14 rfl rfl (ci12.2.2.2.1 6 (by decide)) rfl rfl dX12_nextToken_368 rfl ?_
      refine Go_S (fun S368_11 e_S368_11 => ?_)
      have hw := hw S368_11 e_S368_11
      have hR := rcM e_S368_11 hR
      exact Go_vret C hQ hR hw dX12_nextToken_371
    · refine Go_lvp [1] rfl ?_
      exact g_X12_nextToken_345 C hQ _ hR hw
set_option maxRecDepth 100000 in
set_option maxHeartbeats 4000000 in
theorem g_X12_nextToken_299 {G : GC} (C : Cx G cX12_nextToken BIG RX12 2 none rm_X12_nextToken shM NM) {Q : St → Prop} (hQ : QV G RCM Q) {S : St} (hR : RCM S) (hw : w_X12_nextToken_299 Q S) : Go G 2 299 [] [(0, .ref (Gad G (0)))] S := by
  unfold w_X12_nextToken_299 at hw
  refine Go_aload_n (q := 300) C 0 rfl dX12_nextToken_299 rfl ?_
  refine Go_aload_n (q := 301) C 0 rfl dX12_nextToken_300 rfl ?_
  refine Go_getI (q := 304) (k := 4) C ci12 iw_12 kM_0 rfl wm_25_11 rfl dX12_nextToken_301 rfl ?_
  refine Go_aload_n (q := 305) C 0 rfl dX12_nextToken_304 rfl ?_
  refine Go_getI (q := 308) (k := 5) C ci12 iw_12 kM_0 rfl wm_26_1 rfl dX12_nextToken_305 rfl ?_
  refine Go_isub (q := 309) C dX12_nextToken_308 rfl ?_
  refine Go_iconst (q := 310) (v := (4 : Int32)) C dX12_nextToken_309 rfl rfl ?_
  refine Go_icmp_le (t := 317) (q := 313) C hw dX12_nextToken_310 rfl rfl (fun hw => ?_) (fun hw => ?_)
  · refine Go_iconst (q := 318) (v := (2 : Int32)) C dX12_nextToken_317 rfl rfl ?_
    refine Go_putI (q := 321) (k := 6) C ci12 iw_12 kM_0 rfl wm_25_14 rfl rfl (ci12.2.2.2.1 6 (by decide)) rfl rfl dX12_nextToken_318 rfl ?_
    refine Go_S (fun S318_14 e_S318_14 => ?_)
    have hw := hw S318_14 e_S318_14
    have hR := rcM e_S318_14 hR
    exact Go_vret C hQ hR hw dX12_nextToken_321
  · refine Go_iconst (q := 314) (v := (4 : Int32)) C dX12_nextToken_313 rfl rfl ?_
    refine Go_goto (q := 318) C dX12_nextToken_314 rfl ?_
    refine Go_putI (q := 321) (k := 6) C ci12 iw_12 kM_0 rfl wm_25_14 rfl rfl (ci12.2.2.2.1 6 (by decide)) rfl rfl dX12_nextToken_318 rfl ?_
    refine Go_S (fun S318_15 e_S318_15 => ?_)
    have hw := hw S318_15 e_S318_15
    have hR := rcM e_S318_15 hR
    exact Go_vret C hQ hR hw dX12_nextToken_321
set_option maxRecDepth 100000 in
set_option maxHeartbeats 4000000 in
theorem g_X12_nextToken_286 {G : GC} (C : Cx G cX12_nextToken BIG RX12 2 none rm_X12_nextToken shM NM) {Q : St → Prop} (hQ : QV G RCM Q) {k224 : St → Prop} (hk224 : ∀ (S : St), RCM S → k224 S → Go G 2 224 [] [(0, .ref (Gad G (0)))] S) {S : St} (hR : RCM S) (hw : w_X12_nextToken_286 k224 S) : Go G 2 286 [] [(0, .ref (Gad G (0)))] S := by
  unfold w_X12_nextToken_286 at hw
  refine Go_aload_n (q := 287) C 0 rfl dX12_nextToken_286 rfl ?_
  refine Go_dup (q := 288) C rfl dX12_nextToken_287 rfl ?_
  refine Go_getI (q := 291) (k := 4) C ci12 iw_12 kM_0 rfl wm_25_11 rfl dX12_nextToken_288 rfl ?_
  refine Go_iconst (q := 292) (v := (1 : Int32)) C dX12_nextToken_291 rfl rfl ?_
  refine Go_iadd (q := 293) C dX12_nextToken_292 rfl ?_
  refine Go_putI (q := 296) (k := 4) C ci12 iw_12 kM_0 rfl wm_25_11 rfl rfl (ci12.2.2.2.1 4 (by decide)) rfl rfl dX12_nextToken_293 rfl ?_
  refine Go_S (fun S293_18 e_S293_18 => ?_)
  have hw := hw S293_18 e_S293_18
  have hR := rcM e_S293_18 hR
  refine Go_goto (q := 224) C dX12_nextToken_296 rfl ?_
  refine Go_lvp [0] rfl ?_
  exact hk224 _ hR hw
set_option maxRecDepth 100000 in
set_option maxHeartbeats 4000000 in
theorem g_X12_nextToken_224 {G : GC} (C : Cx G cX12_nextToken BIG RX12 2 none rm_X12_nextToken shM NM) {Q : St → Prop} (hQ : QV G RCM Q) {S : St} (hR : RCM S) (hw : w_X12_nextToken_224 Q S) : Go G 2 224 [] [(0, .ref (Gad G (0)))] S := by
  obtain ⟨n, hw⟩ := hw
  induction n generalizing S with
  | zero => exact hw.elim
  | succ n ih =>
    have hw : b_X12_nextToken_224 Q (lpn (fun _ => False) (b_X12_nextToken_224 Q) n) S := hw
    generalize lpn (fun _ => False) (b_X12_nextToken_224 Q) n = kf at hw ih
    have hk224 := fun (S : St) (hR : RCM S) hw => ih hR hw
    unfold b_X12_nextToken_224 at hw
    refine Go_aload_n (q := 225) C 0 rfl dX12_nextToken_224 rfl ?_
    refine Go_aload_n (q := 226) C 0 rfl dX12_nextToken_225 rfl ?_
    refine Go_getI (q := 229) (k := 4) C ci12 iw_12 kM_0 rfl wm_25_11 rfl dX12_nextToken_226 rfl ?_
    refine Go_callV_I (av := (fun ad => [.int (gI S 0 4)])) (st := []) (C := C) (hM := c_X12_signAt (Gl G) hR hw) (hlk := wm_26_5) (hini := wm_1_5) (hins := wm_26_6) (hsel := wm_26_7) (hcode := wm_26_8) (ho := kM_0) (hci := rfl) (hc13 := by decide) (n := 1) (hd := by decide +kernel) (hr0 := ⟨rfl, rfl⟩) (hroom := ⟨by first | decide | (dsimp only; omega), by first | decide | (dsimp only; omega)⟩) (hlen := rfl) (hst := rfl) (hW := Nat.le_of_ble_eq_true rfl) (hdg := dX12_nextToken_229) (q := 232) (hq := rfl) (fun r229_13 S229_12 hw hR => ?_)
    refine Go_bipush (q := 234) (v := (48 : Int32)) C dX12_nextToken_232 rfl rfl ?_
    refine Go_icmp_lt (t := 299) (q := 237) C hw dX12_nextToken_234 rfl rfl (fun hw => ?_) (fun hw => ?_)
    · refine Go_lvp [0] rfl ?_
      exact g_X12_nextToken_299 C hQ hR hw
    · refine Go_aload_n (q := 238) C 0 rfl dX12_nextToken_237 rfl ?_
      refine Go_aload_n (q := 239) C 0 rfl dX12_nextToken_238 rfl ?_
      refine Go_getI (q := 242) (k := 4) C ci12 iw_12 kM_0 rfl wm_25_11 rfl dX12_nextToken_239 rfl ?_
      refine Go_callV_I (av := (fun ad => [.int (gI S229_12 0 4)])) (st := []) (C := C) (hM := c_X12_signAt (Gl G) hR hw) (hlk := wm_26_5) (hini := wm_1_5) (hins := wm_26_6) (hsel := wm_26_7) (hcode := wm_26_8) (ho := kM_0) (hci := rfl) (hc13 := by decide) (n := 1) (hd := by decide +kernel) (hr0 := ⟨rfl, rfl⟩) (hroom := ⟨by first | decide | (dsimp only; omega), by first | decide | (dsimp only; omega)⟩) (hlen := rfl) (hst := rfl) (hW := Nat.le_of_ble_eq_true rfl) (hdg := dX12_nextToken_242) (q := 245) (hq := rfl) (fun r242_17 S242_16 hw hR => ?_)
      refine Go_bipush (q := 247) (v := (57 : Int32)) C dX12_nextToken_245 rfl rfl ?_
      refine Go_icmp_gt (t := 299) (q := 250) C hw dX12_nextToken_247 rfl rfl (fun hw => ?_) (fun hw => ?_)
      · refine Go_lvp [0] rfl ?_
        exact g_X12_nextToken_299 C hQ hR hw
      · refine Go_aload_n (q := 251) C 0 rfl dX12_nextToken_250 rfl ?_
        refine Go_getI (q := 254) (k := 4) C ci12 iw_12 kM_0 rfl wm_25_11 rfl dX12_nextToken_251 rfl ?_
        refine Go_aload_n (q := 255) C 0 rfl dX12_nextToken_254 rfl ?_
        refine Go_getI (q := 258) (k := 5) C ci12 iw_12 kM_0 rfl wm_26_1 rfl dX12_nextToken_255 rfl ?_
        refine Go_isub (q := 259) C dX12_nextToken_258 rfl ?_
        refine Go_iconst (q := 260) (v := (4 : Int32)) C dX12_nextToken_259 rfl rfl ?_
        refine Go_icmp_ge (t := 286) (q := 263) C hw dX12_nextToken_260 rfl rfl (fun hw => ?_) (fun hw => ?_)
        · refine Go_lvp [0] rfl ?_
          exact g_X12_nextToken_286 C hQ hk224 hR hw
        · refine Go_aload_n (q := 264) C 0 rfl dX12_nextToken_263 rfl ?_
          refine Go_aload_n (q := 265) C 0 rfl dX12_nextToken_264 rfl ?_
          refine Go_getI (q := 268) (k := 8) C ci12 iw_12 kM_0 rfl wm_25_13 rfl dX12_nextToken_265 rfl ?_
          refine Go_bipush (q := 270) (v := (10 : Int32)) C dX12_nextToken_268 rfl rfl ?_
          refine Go_imul (q := 271) C dX12_nextToken_270 rfl ?_
          refine Go_aload_n (q := 272) C 0 rfl dX12_nextToken_271 rfl ?_
          refine Go_aload_n (q := 273) C 0 rfl dX12_nextToken_272 rfl ?_
          refine Go_getI (q := 276) (k := 4) C ci12 iw_12 kM_0 rfl wm_25_11 rfl dX12_nextToken_273 rfl ?_
          refine Go_callV_I (av := (fun ad => [.int (gI S242_16 0 4)])) (st := [.int ((gI S242_16 0 8) * (10 : Int32)), .ref (Gad G (0))]) (C := C) (hM := c_X12_signAt (Gl G) hR hw) (hlk := wm_26_5) (hini := wm_1_5) (hins := wm_26_6) (hsel := wm_26_7) (hcode := wm_26_8) (ho := kM_0) (hci := rfl) (hc13 := by decide) (n := 1) (hd := by decide +kernel) (hr0 := ⟨rfl, rfl⟩) (hroom := ⟨by first | decide | (dsimp only; omega), by first | decide | (dsimp only; omega)⟩) (hlen := rfl) (hst := rfl) (hW := Nat.le_of_ble_eq_true rfl) (hdg := dX12_nextToken_276) (q := 279) (hq := rfl) (fun r276_20 S276_19 hw hR => ?_)
          refine Go_iadd (q := 280) C dX12_nextToken_279 rfl ?_
          refine Go_bipush (q := 282) (v := (48 : Int32)) C dX12_nextToken_280 rfl rfl ?_
          refine Go_isub (q := 283) C dX12_nextToken_282 rfl ?_
          refine Go_putI (q := 286) (k := 8) C ci12 iw_12 kM_0 rfl wm_25_13 rfl rfl (ci12.2.2.2.1 8 (by decide)) rfl rfl dX12_nextToken_283 rfl ?_
          refine Go_S (fun S283_21 e_S283_21 => ?_)
          have hw := hw S283_21 e_S283_21
          have hR := rcM e_S283_21 hR
          refine Go_lvp [0] rfl ?_
          exact g_X12_nextToken_286 C hQ hk224 hR hw
set_option maxRecDepth 100000 in
set_option maxHeartbeats 4000000 in
theorem g_X12_nextToken_212 {G : GC} (C : Cx G cX12_nextToken BIG RX12 2 none rm_X12_nextToken shM NM) {Q : St → Prop} (hQ : QV G RCM Q) (v1 : Int32) {S : St} (hR : RCM S) (hw : w_X12_nextToken_212 Q v1 S) : Go G 2 212 [] [(0, .ref (Gad G (0))), (1, .int v1)] S := by
  unfold w_X12_nextToken_212 at hw
  refine Go_iload_n (q := 213) C 1 rfl dX12_nextToken_212 rfl ?_
  refine Go_bipush (q := 215) (v := (48 : Int32)) C dX12_nextToken_213 rfl rfl ?_
  refine Go_icmp_lt (t := 322) (q := 218) C hw dX12_nextToken_215 rfl rfl (fun hw => ?_) (fun hw => ?_)
  · refine Go_lvp [0, 1] rfl ?_
    exact g_X12_nextToken_322 C hQ _ hR hw
  · refine Go_iload_n (q := 219) C 1 rfl dX12_nextToken_218 rfl ?_
    refine Go_bipush (q := 221) (v := (57 : Int32)) C dX12_nextToken_219 rfl rfl ?_
    refine Go_icmp_gt (t := 322) (q := 224) C hw dX12_nextToken_221 rfl rfl (fun hw => ?_) (fun hw => ?_)
    · refine Go_lvp [0, 1] rfl ?_
      exact g_X12_nextToken_322 C hQ _ hR hw
    · refine Go_lvp [0] rfl ?_
      exact g_X12_nextToken_224 C hQ hR hw
set_option maxRecDepth 100000 in
set_option maxHeartbeats 4000000 in
theorem g_X12_nextToken_188 {G : GC} (C : Cx G cX12_nextToken BIG RX12 2 none rm_X12_nextToken shM NM) {Q : St → Prop} (hQ : QV G RCM Q) {S : St} (hR : RCM S) (hw : w_X12_nextToken_188 Q S) : Go G 2 188 [] [(0, .ref (Gad G (0)))] S := by
  unfold w_X12_nextToken_188 at hw
  refine Go_aload_n (q := 189) C 0 rfl dX12_nextToken_188 rfl ?_
  refine Go_aload_n (q := 190) C 0 rfl dX12_nextToken_189 rfl ?_
  refine Go_getI (q := 193) (k := 4) C ci12 iw_12 kM_0 rfl wm_25_11 rfl dX12_nextToken_190 rfl ?_
  refine Go_aload_n (q := 194) C 0 rfl dX12_nextToken_193 rfl ?_
  refine Go_getI (q := 197) (k := 5) C ci12 iw_12 kM_0 rfl wm_26_1 rfl dX12_nextToken_194 rfl ?_
  refine Go_isub (q := 198) C dX12_nextToken_197 rfl ?_
  refine Go_bipush (q := 200) (v := (8 : Int32)) C dX12_nextToken_198 rfl rfl ?_
  refine Go_icmp_le (t := 207) (q := 203) C hw dX12_nextToken_200 rfl rfl (fun hw => ?_) (fun hw => ?_)
  · refine Go_iconst (q := 208) (v := (1 : Int32)) C dX12_nextToken_207 rfl rfl ?_
    refine Go_putI (q := 211) (k := 6) C ci12 iw_12 kM_0 rfl wm_25_14 rfl rfl (ci12.2.2.2.1 6 (by decide)) rfl rfl dX12_nextToken_208 rfl ?_
    refine Go_S (fun S208_24 e_S208_24 => ?_)
    have hw := hw S208_24 e_S208_24
    have hR := rcM e_S208_24 hR
    exact Go_vret C hQ hR hw dX12_nextToken_211
  · refine Go_iconst (q := 204) (v := (4 : Int32)) C dX12_nextToken_203 rfl rfl ?_
    refine Go_goto (q := 208) C dX12_nextToken_204 rfl ?_
    refine Go_putI (q := 211) (k := 6) C ci12 iw_12 kM_0 rfl wm_25_14 rfl rfl (ci12.2.2.2.1 6 (by decide)) rfl rfl dX12_nextToken_208 rfl ?_
    refine Go_S (fun S208_25 e_S208_25 => ?_)
    have hw := hw S208_25 e_S208_25
    have hR := rcM e_S208_25 hR
    exact Go_vret C hQ hR hw dX12_nextToken_211
set_option maxRecDepth 100000 in
set_option maxHeartbeats 4000000 in
theorem g_X12_nextToken_175 {G : GC} (C : Cx G cX12_nextToken BIG RX12 2 none rm_X12_nextToken shM NM) {Q : St → Prop} (hQ : QV G RCM Q) {k109 : St → Prop} (hk109 : ∀ (S : St), RCM S → k109 S → Go G 2 109 [] [(0, .ref (Gad G (0)))] S) {S : St} (hR : RCM S) (hw : w_X12_nextToken_175 k109 S) : Go G 2 175 [] [(0, .ref (Gad G (0)))] S := by
  unfold w_X12_nextToken_175 at hw
  refine Go_aload_n (q := 176) C 0 rfl dX12_nextToken_175 rfl ?_
  refine Go_dup (q := 177) C rfl dX12_nextToken_176 rfl ?_
  refine Go_getI (q := 180) (k := 4) C ci12 iw_12 kM_0 rfl wm_25_11 rfl dX12_nextToken_177 rfl ?_
  refine Go_iconst (q := 181) (v := (1 : Int32)) C dX12_nextToken_180 rfl rfl ?_
  refine Go_iadd (q := 182) C dX12_nextToken_181 rfl ?_
  refine Go_putI (q := 185) (k := 4) C ci12 iw_12 kM_0 rfl wm_25_11 rfl rfl (ci12.2.2.2.1 4 (by decide)) rfl rfl dX12_nextToken_182 rfl ?_
  refine Go_S (fun S182_28 e_S182_28 => ?_)
  have hw := hw S182_28 e_S182_28
  have hR := rcM e_S182_28 hR
  refine Go_goto (q := 109) C dX12_nextToken_185 rfl ?_
  refine Go_lvp [0] rfl ?_
  exact hk109 _ hR hw
set_option maxRecDepth 100000 in
set_option maxHeartbeats 4000000 in
theorem g_X12_nextToken_109 {G : GC} (C : Cx G cX12_nextToken BIG RX12 2 none rm_X12_nextToken shM NM) {Q : St → Prop} (hQ : QV G RCM Q) {S : St} (hR : RCM S) (hw : w_X12_nextToken_109 Q S) : Go G 2 109 [] [(0, .ref (Gad G (0)))] S := by
  obtain ⟨n, hw⟩ := hw
  induction n generalizing S with
  | zero => exact hw.elim
  | succ n ih =>
    have hw : b_X12_nextToken_109 Q (lpn (fun _ => False) (b_X12_nextToken_109 Q) n) S := hw
    generalize lpn (fun _ => False) (b_X12_nextToken_109 Q) n = kf at hw ih
    have hk109 := fun (S : St) (hR : RCM S) hw => ih hR hw
    unfold b_X12_nextToken_109 at hw
    refine Go_aload_n (q := 110) C 0 rfl dX12_nextToken_109 rfl ?_
    refine Go_aload_n (q := 111) C 0 rfl dX12_nextToken_110 rfl ?_
    refine Go_getI (q := 114) (k := 4) C ci12 iw_12 kM_0 rfl wm_25_11 rfl dX12_nextToken_111 rfl ?_
    refine Go_callV_I (av := (fun ad => [.int (gI S 0 4)])) (st := []) (C := C) (hM := c_X12_signAt (Gl G) hR hw) (hlk := wm_26_5) (hini := wm_1_5) (hins := wm_26_6) (hsel := wm_26_7) (hcode := wm_26_8) (ho := kM_0) (hci := rfl) (hc13 := by decide) (n := 1) (hd := by decide +kernel) (hr0 := ⟨rfl, rfl⟩) (hroom := ⟨by first | decide | (dsimp only; omega), by first | decide | (dsimp only; omega)⟩) (hlen := rfl) (hst := rfl) (hW := Nat.le_of_ble_eq_true rfl) (hdg := dX12_nextToken_114) (q := 117) (hq := rfl) (fun r114_23 S114_22 hw hR => ?_)
    refine Go_bipush (q := 119) (v := (97 : Int32)) C dX12_nextToken_117 rfl rfl ?_
    refine Go_icmp_lt (t := 188) (q := 122) C hw dX12_nextToken_119 rfl rfl (fun hw => ?_) (fun hw => ?_)
    · refine Go_lvp [0] rfl ?_
      exact g_X12_nextToken_188 C hQ hR hw
    · refine Go_aload_n (q := 123) C 0 rfl dX12_nextToken_122 rfl ?_
      refine Go_aload_n (q := 124) C 0 rfl dX12_nextToken_123 rfl ?_
      refine Go_getI (q := 127) (k := 4) C ci12 iw_12 kM_0 rfl wm_25_11 rfl dX12_nextToken_124 rfl ?_
      refine Go_callV_I (av := (fun ad => [.int (gI S114_22 0 4)])) (st := []) (C := C) (hM := c_X12_signAt (Gl G) hR hw) (hlk := wm_26_5) (hini := wm_1_5) (hins := wm_26_6) (hsel := wm_26_7) (hcode := wm_26_8) (ho := kM_0) (hci := rfl) (hc13 := by decide) (n := 1) (hd := by decide +kernel) (hr0 := ⟨rfl, rfl⟩) (hroom := ⟨by first | decide | (dsimp only; omega), by first | decide | (dsimp only; omega)⟩) (hlen := rfl) (hst := rfl) (hW := Nat.le_of_ble_eq_true rfl) (hdg := dX12_nextToken_127) (q := 130) (hq := rfl) (fun r127_27 S127_26 hw hR => ?_)
      refine Go_bipush (q := 132) (v := (122 : Int32)) C dX12_nextToken_130 rfl rfl ?_
      refine Go_icmp_gt (t := 188) (q := 135) C hw dX12_nextToken_132 rfl rfl (fun hw => ?_) (fun hw => ?_)
      · refine Go_lvp [0] rfl ?_
        exact g_X12_nextToken_188 C hQ hR hw
      · refine Go_aload_n (q := 136) C 0 rfl dX12_nextToken_135 rfl ?_
        refine Go_getI (q := 139) (k := 4) C ci12 iw_12 kM_0 rfl wm_25_11 rfl dX12_nextToken_136 rfl ?_
        refine Go_aload_n (q := 140) C 0 rfl dX12_nextToken_139 rfl ?_
        refine Go_getI (q := 143) (k := 5) C ci12 iw_12 kM_0 rfl wm_26_1 rfl dX12_nextToken_140 rfl ?_
        refine Go_isub (q := 144) C dX12_nextToken_143 rfl ?_
        refine Go_bipush (q := 146) (v := (8 : Int32)) C dX12_nextToken_144 rfl rfl ?_
        refine Go_icmp_ge (t := 175) (q := 149) C hw dX12_nextToken_146 rfl rfl (fun hw => ?_) (fun hw => ?_)
        · refine Go_lvp [0] rfl ?_
          exact g_X12_nextToken_175 C hQ hk109 hR hw
        · refine Go_aload_n (q := 150) C 0 rfl dX12_nextToken_149 rfl ?_
          refine Go_aload_n (q := 151) C 0 rfl dX12_nextToken_150 rfl ?_
          refine Go_getJ (q := 154) (k := 7) C ci12 iw_12 kM_0 rfl wm_26_2 rfl dX12_nextToken_151 rfl ?_
          refine Go_ldc2 (q := 157) (v := (27 : Int64)) C wm_26_3 dX12_nextToken_154 rfl ?_
          refine Go_lmul (q := 158) C dX12_nextToken_157 rfl ?_
          refine Go_aload_n (q := 159) C 0 rfl dX12_nextToken_158 rfl ?_
          refine Go_aload_n (q := 160) C 0 rfl dX12_nextToken_159 rfl ?_
          refine Go_getI (q := 163) (k := 4) C ci12 iw_12 kM_0 rfl wm_25_11 rfl dX12_nextToken_160 rfl ?_
          refine Go_callV_I (av := (fun ad => [.int (gI S127_26 0 4)])) (st := [.long ((gJ S127_26 0 7) * (27 : Int64)), .ref (Gad G (0))]) (C := C) (hM := c_X12_signAt (Gl G) hR hw) (hlk := wm_26_5) (hini := wm_1_5) (hins := wm_26_6) (hsel := wm_26_7) (hcode := wm_26_8) (ho := kM_0) (hci := rfl) (hc13 := by decide) (n := 1) (hd := by decide +kernel) (hr0 := ⟨rfl, rfl⟩) (hroom := ⟨by first | decide | (dsimp only; omega), by first | decide | (dsimp only; omega)⟩) (hlen := rfl) (hst := rfl) (hW := Nat.le_of_ble_eq_true rfl) (hdg := dX12_nextToken_163) (q := 166) (hq := rfl) (fun r163_30 S163_29 hw hR => ?_)
          refine Go_i2l (q := 167) C dX12_nextToken_166 rfl ?_
          refine Go_ladd (q := 168) C dX12_nextToken_167 rfl ?_
          refine Go_ldc2 (q := 171) (v := (96 : Int64)) C wm_26_4 dX12_nextToken_168 rfl ?_
          refine Go_lsub (q := 172) C dX12_nextToken_171 rfl ?_
          refine Go_putJ (q := 175) (k := 7) C ci12 iw_12 kM_0 rfl wm_26_2 rfl rfl (ci12.2.2.2.1 7 (by decide)) rfl rfl dX12_nextToken_172 rfl ?_
          refine Go_S (fun S172_31 e_S172_31 => ?_)
          have hw := hw S172_31 e_S172_31
          have hR := rcMJ e_S172_31 hR
          refine Go_lvp [0] rfl ?_
          exact g_X12_nextToken_175 C hQ hk109 hR hw
set_option maxRecDepth 100000 in
set_option maxHeartbeats 4000000 in
theorem g_X12_nextToken_52 {G : GC} (C : Cx G cX12_nextToken BIG RX12 2 none rm_X12_nextToken shM NM) {Q : St → Prop} (hQ : QV G RCM Q) {S : St} (hR : RCM S) (hw : w_X12_nextToken_52 Q S) : Go G 2 52 [] [(0, .ref (Gad G (0)))] S := by
  unfold w_X12_nextToken_52 at hw
  refine Go_aload_n (q := 53) C 0 rfl dX12_nextToken_52 rfl ?_
  refine Go_aload_n (q := 54) C 0 rfl dX12_nextToken_53 rfl ?_
  refine Go_getI (q := 57) (k := 4) C ci12 iw_12 kM_0 rfl wm_25_11 rfl dX12_nextToken_54 rfl ?_
  refine Go_putI (q := 60) (k := 5) C ci12 iw_12 kM_0 rfl wm_26_1 rfl rfl (ci12.2.2.2.1 5 (by decide)) rfl rfl dX12_nextToken_57 rfl ?_
  refine Go_S (fun S57_1 e_S57_1 => ?_)
  have hw := hw S57_1 e_S57_1
  have hR := rcM e_S57_1 hR
  refine Go_aload_n (q := 61) C 0 rfl dX12_nextToken_60 rfl ?_
  refine Go_lconst (q := 62) (v := (0 : Int64)) C dX12_nextToken_61 rfl rfl ?_
  refine Go_putJ (q := 65) (k := 7) C ci12 iw_12 kM_0 rfl wm_26_2 rfl rfl (ci12.2.2.2.1 7 (by decide)) rfl rfl dX12_nextToken_62 rfl ?_
  refine Go_S (fun S62_2 e_S62_2 => ?_)
  have hw := hw S62_2 e_S62_2
  have hR := rcMJ e_S62_2 hR
  refine Go_aload_n (q := 66) C 0 rfl dX12_nextToken_65 rfl ?_
  refine Go_iconst (q := 67) (v := (0 : Int32)) C dX12_nextToken_66 rfl rfl ?_
  refine Go_putI (q := 70) (k := 8) C ci12 iw_12 kM_0 rfl wm_25_13 rfl rfl (ci12.2.2.2.1 8 (by decide)) rfl rfl dX12_nextToken_67 rfl ?_
  refine Go_S (fun S67_3 e_S67_3 => ?_)
  have hw := hw S67_3 e_S67_3
  have hR := rcM e_S67_3 hR
  refine Go_aload_n (q := 71) C 0 rfl dX12_nextToken_70 rfl ?_
  refine Go_getI (q := 74) (k := 4) C ci12 iw_12 kM_0 rfl wm_25_11 rfl dX12_nextToken_71 rfl ?_
  refine Go_aload_n (q := 75) C 0 rfl dX12_nextToken_74 rfl ?_
  refine Go_getI (q := 78) (k := 3) C ci12 iw_12 kM_0 rfl wm_25_10 rfl dX12_nextToken_75 rfl ?_
  refine Go_icmp_ne (t := 87) (q := 81) C hw dX12_nextToken_78 rfl rfl (fun hw => ?_) (fun hw => ?_)
  · refine Go_aload_n (q := 82) C 0 rfl dX12_nextToken_81 rfl ?_
    refine Go_iconst (q := 83) (v := (0 : Int32)) C dX12_nextToken_82 rfl rfl ?_
    refine Go_putI (q := 86) (k := 6) C ci12 iw_12 kM_0 rfl wm_25_14 rfl rfl (ci12.2.2.2.1 6 (by decide)) rfl rfl dX12_nextToken_83 rfl ?_
    refine Go_S (fun S83_4 e_S83_4 => ?_)
    have hw := hw S83_4 e_S83_4
    have hR := rcM e_S83_4 hR
    exact Go_vret C hQ hR hw dX12_nextToken_86
  · refine Go_aload_n (q := 88) C 0 rfl dX12_nextToken_87 rfl ?_
    refine Go_getA (q := 91) (k := 2) C ci12 iw_12 kM_0 (rM_0_2 hR) rfl wm_12_20 rfl dX12_nextToken_88 rfl ?_
    refine Go_aload_n (q := 92) C 0 rfl dX12_nextToken_91 rfl ?_
    refine Go_getI (q := 95) (k := 4) C ci12 iw_12 kM_0 rfl wm_25_11 rfl dX12_nextToken_92 rfl ?_
    obtain ⟨hin, hw⟩ := hw
    refine Go_iaload (q := 96) C kM_1 hin dX12_nextToken_95 rfl ?_
    refine Go_topi (fun x96_5 e_x96_5 => ?_)
    have hw := hw x96_5 e_x96_5
    refine Go_istore_n (q := 97) (lv' := [(1, .int x96_5), (0, .ref (Gad G (0)))]) C rfl dX12_nextToken_96 (by decide) rfl rfl ?_
    refine Go_iload_n (q := 98) C 0 rfl dX12_nextToken_97 rfl ?_
    refine Go_bipush (q := 100) (v := (97 : Int32)) C dX12_nextToken_98 rfl rfl ?_
    refine Go_icmp_lt (t := 212) (q := 103) C hw dX12_nextToken_100 rfl rfl (fun hw => ?_) (fun hw => ?_)
    · refine Go_lvp [1, 0] rfl ?_
      exact g_X12_nextToken_212 C hQ _ hR hw
    · refine Go_iload_n (q := 104) C 0 rfl dX12_nextToken_103 rfl ?_
      refine Go_bipush (q := 106) (v := (122 : Int32)) C dX12_nextToken_104 rfl rfl ?_
      refine Go_icmp_gt (t := 212) (q := 109) C hw dX12_nextToken_106 rfl rfl (fun hw => ?_) (fun hw => ?_)
      · refine Go_lvp [1, 0] rfl ?_
        exact g_X12_nextToken_212 C hQ _ hR hw
      · refine Go_lvp [1] rfl ?_
        exact g_X12_nextToken_109 C hQ hR hw
set_option maxRecDepth 100000 in
set_option maxHeartbeats 4000000 in
theorem g_X12_nextToken_39 {G : GC} (C : Cx G cX12_nextToken BIG RX12 2 none rm_X12_nextToken shM NM) {Q : St → Prop} (hQ : QV G RCM Q) {k0 : St → Prop} (hk0 : ∀ (S : St), RCM S → k0 S → Go G 2 0 [] [(0, .ref (Gad G (0)))] S) {S : St} (hR : RCM S) (hw : w_X12_nextToken_39 k0 S) : Go G 2 39 [] [(0, .ref (Gad G (0)))] S := by
  unfold w_X12_nextToken_39 at hw
  refine Go_aload_n (q := 40) C 0 rfl dX12_nextToken_39 rfl ?_
  refine Go_dup (q := 41) C rfl dX12_nextToken_40 rfl ?_
  refine Go_getI (q := 44) (k := 4) C ci12 iw_12 kM_0 rfl wm_25_11 rfl dX12_nextToken_41 rfl ?_
  refine Go_iconst (q := 45) (v := (1 : Int32)) C dX12_nextToken_44 rfl rfl ?_
  refine Go_iadd (q := 46) C dX12_nextToken_45 rfl ?_
  refine Go_putI (q := 49) (k := 4) C ci12 iw_12 kM_0 rfl wm_25_11 rfl rfl (ci12.2.2.2.1 4 (by decide)) rfl rfl dX12_nextToken_46 rfl ?_
  refine Go_S (fun S46_32 e_S46_32 => ?_)
  have hw := hw S46_32 e_S46_32
  have hR := rcM e_S46_32 hR
  refine Go_goto (q := 0) C dX12_nextToken_49 rfl ?_
  refine Go_lvp [0] rfl ?_
  exact hk0 _ hR hw
set_option maxRecDepth 100000 in
set_option maxHeartbeats 4000000 in
theorem g_X12_nextToken_0 {G : GC} (C : Cx G cX12_nextToken BIG RX12 2 none rm_X12_nextToken shM NM) {Q : St → Prop} (hQ : QV G RCM Q) {S : St} (hR : RCM S) (hw : w_X12_nextToken_0 Q S) : Go G 2 0 [] [(0, .ref (Gad G (0)))] S := by
  obtain ⟨n, hw⟩ := hw
  induction n generalizing S with
  | zero => exact hw.elim
  | succ n ih =>
    have hw : b_X12_nextToken_0 Q (lpn (fun _ => False) (b_X12_nextToken_0 Q) n) S := hw
    generalize lpn (fun _ => False) (b_X12_nextToken_0 Q) n = kf at hw ih
    have hk0 := fun (S : St) (hR : RCM S) hw => ih hR hw
    unfold b_X12_nextToken_0 at hw
    refine Go_aload_n (q := 1) C 0 rfl dX12_nextToken_0 rfl ?_
    refine Go_getI (q := 4) (k := 4) C ci12 iw_12 kM_0 rfl wm_25_11 rfl dX12_nextToken_1 rfl ?_
    refine Go_aload_n (q := 5) C 0 rfl dX12_nextToken_4 rfl ?_
    refine Go_getI (q := 8) (k := 3) C ci12 iw_12 kM_0 rfl wm_25_10 rfl dX12_nextToken_5 rfl ?_
    refine Go_icmp_ge (t := 52) (q := 11) C hw dX12_nextToken_8 rfl rfl (fun hw => ?_) (fun hw => ?_)
    · refine Go_lvp [0] rfl ?_
      exact g_X12_nextToken_52 C hQ hR hw
    · refine Go_aload_n (q := 12) C 0 rfl dX12_nextToken_11 rfl ?_
      refine Go_getA (q := 15) (k := 2) C ci12 iw_12 kM_0 (rM_0_2 hR) rfl wm_12_20 rfl dX12_nextToken_12 rfl ?_
      refine Go_aload_n (q := 16) C 0 rfl dX12_nextToken_15 rfl ?_
      refine Go_getI (q := 19) (k := 4) C ci12 iw_12 kM_0 rfl wm_25_11 rfl dX12_nextToken_16 rfl ?_
      obtain ⟨hin, hw⟩ := hw
      refine Go_iaload (q := 20) C kM_1 hin dX12_nextToken_19 rfl ?_
      refine Go_bipush (q := 22) (v := (32 : Int32)) C dX12_nextToken_20 rfl rfl ?_
      refine Go_icmp_eq (t := 39) (q := 25) C hw dX12_nextToken_22 rfl rfl (fun hw => ?_) (fun hw => ?_)
      · refine Go_lvp [0] rfl ?_
        exact g_X12_nextToken_39 C hQ hk0 hR hw
      · refine Go_aload_n (q := 26) C 0 rfl dX12_nextToken_25 rfl ?_
        refine Go_getA (q := 29) (k := 2) C ci12 iw_12 kM_0 (rM_0_2 hR) rfl wm_12_20 rfl dX12_nextToken_26 rfl ?_
        refine Go_aload_n (q := 30) C 0 rfl dX12_nextToken_29 rfl ?_
        refine Go_getI (q := 33) (k := 4) C ci12 iw_12 kM_0 rfl wm_25_11 rfl dX12_nextToken_30 rfl ?_
        obtain ⟨hin, hw⟩ := hw
        refine Go_iaload (q := 34) C kM_1 hin dX12_nextToken_33 rfl ?_
        refine Go_bipush (q := 36) (v := (10 : Int32)) C dX12_nextToken_34 rfl rfl ?_
        refine Go_icmp_ne (t := 52) (q := 39) C hw dX12_nextToken_36 rfl rfl (fun hw => ?_) (fun hw => ?_)
        · refine Go_lvp [0] rfl ?_
          exact g_X12_nextToken_39 C hQ hk0 hR hw
        · refine Go_lvp [0] rfl ?_
          exact g_X12_nextToken_52 C hQ hR hw
set_option maxRecDepth 100000 in
set_option maxHeartbeats 4000000 in
theorem c_X12_nextToken (l : Launch) {S : St} {Q : St → Prop} (hR : RCM S) (hw : w_X12_nextToken S Q) : MetV l yX12_nextToken (wB yX12_nextToken cX12_nextToken 2 none) rm_X12_nextToken shM NM RCM (fun ad => [.ref (ad (0))]) S Q := by
  refine MetV_of (cc := cX12_nextToken) (maxL := 2) (ret := none) (plainFor_of_name (by decide)) (fun _ => Nat.le_of_ble_eq_true rfl) (fun G C hl hQ => ?_)
  subst hl
  have C : Cx G cX12_nextToken BIG RX12 2 none rm_X12_nextToken shM NM := C
  show Go G 2 0 [] [(0, .ref (Gad G (0)))] S
  unfold w_X12_nextToken at hw
  refine Go_lvp [0] rfl ?_
  exact g_X12_nextToken_0 C hQ hR hw
-- X12_isWord
abbrev rm_X12_isWord : Room := { frames := 0, cells := 0, slots := 0, locals := 0 }
set_option maxRecDepth 100000 in
set_option maxHeartbeats 4000000 in
theorem c_X12_isWord (l : Launch) {p0 : Int64} {S : St} {Q : Int32 → St → Prop} (hR : RCM S) (hw : w_X12_isWord p0 S Q) : MetI l yX12_isWord (wB yX12_isWord cX12_isWord 3 (some .boolean)) rm_X12_isWord shM NM RCM (fun ad => [.ref (ad (0)), .long p0]) S Q := by
  refine MetI_of (cc := cX12_isWord) (maxL := 3) (ret := (some .boolean)) (plainFor_of_name (by decide)) (fun _ => Nat.le_of_ble_eq_true rfl) (fun G C hl hQ => ?_)
  subst hl
  have C : Cx G cX12_isWord BIG RX12 3 (some .boolean) rm_X12_isWord shM NM := C
  show Go G 3 0 [] [(0, .ref (Gad G (0))), (1, .long p0)] S
  unfold w_X12_isWord at hw
  refine Go_aload_n (q := 1) C 0 rfl dX12_isWord_0 rfl ?_
  refine Go_getI (q := 4) (k := 6) C ci12 iw_12 kM_0 rfl wm_25_14 rfl dX12_isWord_1 rfl ?_
  refine Go_iconst (q := 5) (v := (1 : Int32)) C dX12_isWord_4 rfl rfl ?_
  refine Go_icmp_ne (t := 21) (q := 8) C hw dX12_isWord_5 rfl rfl (fun hw => ?_) (fun hw => ?_)
  · refine Go_aload_n (q := 9) C 0 rfl dX12_isWord_8 rfl ?_
    refine Go_getJ (q := 12) (k := 7) C ci12 iw_12 kM_0 rfl wm_26_2 rfl dX12_isWord_9 rfl ?_
    refine Go_lload_n (q := 13) C 1 rfl dX12_isWord_12 rfl ?_
    refine Go_lcmp_ne (t := 21) (q := 14) (q2 := 17) C hw dX12_isWord_13 rfl dX12_isWord_14 rfl rfl (fun hw => ?_) (fun hw => ?_)
    · refine Go_iconst (q := 18) (v := (1 : Int32)) C dX12_isWord_17 rfl rfl ?_
      refine Go_goto (q := 22) C dX12_isWord_18 rfl ?_
      exact Go_zret C hQ hR rfl hw dX12_isWord_22
    · refine Go_iconst (q := 22) (v := (0 : Int32)) C dX12_isWord_21 rfl rfl ?_
      exact Go_zret C hQ hR rfl hw dX12_isWord_22
  · refine Go_iconst (q := 22) (v := (0 : Int32)) C dX12_isWord_21 rfl rfl ?_
    exact Go_zret C hQ hR rfl hw dX12_isWord_22
-- X12_isSign
abbrev rm_X12_isSign : Room := { frames := 0, cells := 0, slots := 0, locals := 0 }
set_option maxRecDepth 100000 in
set_option maxHeartbeats 4000000 in
theorem c_X12_isSign (l : Launch) {p0 : Int32} {S : St} {Q : Int32 → St → Prop} (hR : RCM S) (hw : w_X12_isSign p0 S Q) : MetI l yX12_isSign (wB yX12_isSign cX12_isSign 2 (some .boolean)) rm_X12_isSign shM NM RCM (fun ad => [.ref (ad (0)), .int p0]) S Q := by
  refine MetI_of (cc := cX12_isSign) (maxL := 2) (ret := (some .boolean)) (plainFor_of_name (by decide)) (fun _ => Nat.le_of_ble_eq_true rfl) (fun G C hl hQ => ?_)
  subst hl
  have C : Cx G cX12_isSign BIG RX12 2 (some .boolean) rm_X12_isSign shM NM := C
  show Go G 2 0 [] [(0, .ref (Gad G (0))), (1, .int p0)] S
  unfold w_X12_isSign at hw
  refine Go_aload_n (q := 1) C 0 rfl dX12_isSign_0 rfl ?_
  refine Go_getI (q := 4) (k := 6) C ci12 iw_12 kM_0 rfl wm_25_14 rfl dX12_isSign_1 rfl ?_
  refine Go_iconst (q := 5) (v := (3 : Int32)) C dX12_isSign_4 rfl rfl ?_
  refine Go_icmp_ne (t := 25) (q := 8) C hw dX12_isSign_5 rfl rfl (fun hw => ?_) (fun hw => ?_)
  · refine Go_aload_n (q := 9) C 0 rfl dX12_isSign_8 rfl ?_
    refine Go_getA (q := 12) (k := 2) C ci12 iw_12 kM_0 (rM_0_2 hR) rfl wm_12_20 rfl dX12_isSign_9 rfl ?_
    refine Go_aload_n (q := 13) C 0 rfl dX12_isSign_12 rfl ?_
    refine Go_getI (q := 16) (k := 5) C ci12 iw_12 kM_0 rfl wm_26_1 rfl dX12_isSign_13 rfl ?_
    obtain ⟨hin, hw⟩ := hw
    refine Go_iaload (q := 17) C kM_1 hin dX12_isSign_16 rfl ?_
    refine Go_iload_n (q := 18) C 1 rfl dX12_isSign_17 rfl ?_
    refine Go_icmp_ne (t := 25) (q := 21) C hw dX12_isSign_18 rfl rfl (fun hw => ?_) (fun hw => ?_)
    · refine Go_iconst (q := 22) (v := (1 : Int32)) C dX12_isSign_21 rfl rfl ?_
      refine Go_goto (q := 26) C dX12_isSign_22 rfl ?_
      exact Go_zret C hQ hR rfl hw dX12_isSign_26
    · refine Go_iconst (q := 26) (v := (0 : Int32)) C dX12_isSign_25 rfl rfl ?_
      exact Go_zret C hQ hR rfl hw dX12_isSign_26
  · refine Go_iconst (q := 26) (v := (0 : Int32)) C dX12_isSign_25 rfl rfl ?_
    exact Go_zret C hQ hR rfl hw dX12_isSign_26
-- X12_fails
abbrev rm_X12_fails : Room := { frames := 0, cells := 0, slots := 0, locals := 0 }
set_option maxRecDepth 100000 in
set_option maxHeartbeats 4000000 in
theorem c_X12_fails (l : Launch) {p0 : Int32} {S : St} {Q : Int32 → St → Prop} (hR : RCM S) (hw : w_X12_fails p0 S Q) : MetI l yX12_fails (wB yX12_fails cX12_fails 2 (some .boolean)) rm_X12_fails shM NM RCM (fun ad => [.ref (ad (0)), .int p0]) S Q := by
  refine MetI_of (cc := cX12_fails) (maxL := 2) (ret := (some .boolean)) (plainFor_of_name (by decide)) (fun _ => Nat.le_of_ble_eq_true rfl) (fun G C hl hQ => ?_)
  subst hl
  have C : Cx G cX12_fails BIG RX12 2 (some .boolean) rm_X12_fails shM NM := C
  show Go G 2 0 [] [(0, .ref (Gad G (0))), (1, .int p0)] S
  unfold w_X12_fails at hw
  refine Go_aload_n (q := 1) C 0 rfl dX12_fails_0 rfl ?_
  refine Go_iload_n (q := 2) C 1 rfl dX12_fails_1 rfl ?_
  refine Go_bipush (q := 4) (v := (16 : Int32)) C dX12_fails_2 rfl rfl ?_
  refine Go_aload_n (q := 5) C 0 rfl dX12_fails_4 rfl ?_
  refine Go_getI (q := 8) (k := 5) C ci12 iw_12 kM_0 rfl wm_26_1 rfl dX12_fails_5 rfl ?_
  refine Go_imul (q := 9) C dX12_fails_8 rfl ?_
  refine Go_iadd (q := 10) C dX12_fails_9 rfl ?_
  refine Go_putI (q := 13) (k := 9) C ci12 iw_12 kM_0 rfl wm_24_14 rfl rfl (ci12.2.2.2.1 9 (by decide)) rfl rfl dX12_fails_10 rfl ?_
  refine Go_S (fun S10_1 e_S10_1 => ?_)
  have hw := hw S10_1 e_S10_1
  have hR := rcM e_S10_1 hR
  refine Go_iconst (q := 14) (v := (0 : Int32)) C dX12_fails_13 rfl rfl ?_
  exact Go_zret C hQ hR rfl hw dX12_fails_14
-- X12_puts
abbrev rm_X12_puts : Room := { frames := 0, cells := 0, slots := 0, locals := 0 }
set_option maxRecDepth 100000 in
set_option maxHeartbeats 4000000 in
theorem c_X12_puts (l : Launch) {p0 : Int32} {S : St} {Q : St → Prop} (hR : RCM S) (hw : w_X12_puts p0 S Q) : MetV l yX12_puts (wB yX12_puts cX12_puts 2 none) rm_X12_puts shM NM RCM (fun ad => [.ref (ad (0)), .int p0]) S Q := by
  refine MetV_of (cc := cX12_puts) (maxL := 2) (ret := none) (plainFor_of_name (by decide)) (fun _ => Nat.le_of_ble_eq_true rfl) (fun G C hl hQ => ?_)
  subst hl
  have C : Cx G cX12_puts BIG RX12 2 none rm_X12_puts shM NM := C
  show Go G 2 0 [] [(0, .ref (Gad G (0))), (1, .int p0)] S
  unfold w_X12_puts at hw
  refine Go_aload_n (q := 1) C 0 rfl dX12_puts_0 rfl ?_
  refine Go_getA (q := 4) (k := 42) C ci12 iw_12 kM_0 (rM_0_42 hR) rfl wm_13_16 rfl dX12_puts_1 rfl ?_
  refine Go_aload_n (q := 5) C 0 rfl dX12_puts_4 rfl ?_
  refine Go_getI (q := 8) (k := 43) C ci12 iw_12 kM_0 rfl wm_25_9 rfl dX12_puts_5 rfl ?_
  refine Go_iload_n (q := 9) C 1 rfl dX12_puts_8 rfl ?_
  obtain ⟨hin, hw⟩ := hw
  refine Go_iastore (q := 10) C kM_20 hin dX12_puts_9 rfl ?_
  refine Go_S (fun S9_1 e_S9_1 => ?_)
  have hw := hw S9_1 e_S9_1
  have hR := rcM e_S9_1 hR
  refine Go_aload_n (q := 11) C 0 rfl dX12_puts_10 rfl ?_
  refine Go_dup (q := 12) C rfl dX12_puts_11 rfl ?_
  refine Go_getI (q := 15) (k := 43) C ci12 iw_12 kM_0 rfl wm_25_9 rfl dX12_puts_12 rfl ?_
  refine Go_iconst (q := 16) (v := (1 : Int32)) C dX12_puts_15 rfl rfl ?_
  refine Go_iadd (q := 17) C dX12_puts_16 rfl ?_
  refine Go_putI (q := 20) (k := 43) C ci12 iw_12 kM_0 rfl wm_25_9 rfl rfl (ci12.2.2.2.1 43 (by decide)) rfl rfl dX12_puts_17 rfl ?_
  refine Go_S (fun S17_2 e_S17_2 => ?_)
  have hw := hw S17_2 e_S17_2
  have hR := rcM e_S17_2 hR
  exact Go_vret C hQ hR hw dX12_puts_20
-- X12_fact
abbrev rm_X12_fact : Room := { frames := 0, cells := 0, slots := 0, locals := 0 }
set_option maxRecDepth 100000 in
set_option maxHeartbeats 4000000 in
theorem c_X12_fact (l : Launch) {S : St} {Q : Int32 → St → Prop} (hR : RCM S) (hw : w_X12_fact S Q) : MetI l yX12_fact (wB yX12_fact cX12_fact 1 (some .int)) rm_X12_fact shM NM RCM (fun ad => [.ref (ad (0))]) S Q := by
  refine MetI_of (cc := cX12_fact) (maxL := 1) (ret := (some .int)) (plainFor_of_name (by decide)) (fun _ => Nat.le_of_ble_eq_true rfl) (fun G C hl hQ => ?_)
  subst hl
  have C : Cx G cX12_fact BIG RX12 1 (some .int) rm_X12_fact shM NM := C
  show Go G 1 0 [] [(0, .ref (Gad G (0)))] S
  unfold w_X12_fact at hw
  refine Go_aload_n (q := 1) C 0 rfl dX12_fact_0 rfl ?_
  refine Go_getI (q := 4) (k := 6) C ci12 iw_12 kM_0 rfl wm_25_14 rfl dX12_fact_1 rfl ?_
  refine Go_iconst (q := 5) (v := (1 : Int32)) C dX12_fact_4 rfl rfl ?_
  refine Go_icmp_eq (t := 10) (q := 8) C hw dX12_fact_5 rfl rfl (fun hw => ?_) (fun hw => ?_)
  · refine Go_aload_n (q := 11) C 0 rfl dX12_fact_10 rfl ?_
    refine Go_getJ (q := 14) (k := 7) C ci12 iw_12 kM_0 rfl wm_26_2 rfl dX12_fact_11 rfl ?_
    refine Go_ldc2 (q := 17) (v := (385418 : Int64)) C wm_30_4 dX12_fact_14 rfl ?_
    refine Go_lcmp_ne (t := 23) (q := 18) (q2 := 21) C hw dX12_fact_17 rfl dX12_fact_18 rfl rfl (fun hw => ?_) (fun hw => ?_)
    · refine Go_iconst (q := 22) (v := (1 : Int32)) C dX12_fact_21 rfl rfl ?_
      exact Go_iret C hQ hR hw dX12_fact_22
    · refine Go_aload_n (q := 24) C 0 rfl dX12_fact_23 rfl ?_
      refine Go_getJ (q := 27) (k := 7) C ci12 iw_12 kM_0 rfl wm_26_2 rfl dX12_fact_24 rfl ?_
      refine Go_ldc2 (q := 30) (v := (279875 : Int64)) C wm_30_5 dX12_fact_27 rfl ?_
      refine Go_lcmp_ne (t := 36) (q := 31) (q2 := 34) C hw dX12_fact_30 rfl dX12_fact_31 rfl rfl (fun hw => ?_) (fun hw => ?_)
      · refine Go_iconst (q := 35) (v := (2 : Int32)) C dX12_fact_34 rfl rfl ?_
        exact Go_iret C hQ hR hw dX12_fact_35
      · refine Go_aload_n (q := 37) C 0 rfl dX12_fact_36 rfl ?_
        refine Go_getJ (q := 40) (k := 7) C ci12 iw_12 kM_0 rfl wm_26_2 rfl dX12_fact_37 rfl ?_
        refine Go_ldc2 (q := 43) (v := (247516 : Int64)) C wm_30_6 dX12_fact_40 rfl ?_
        refine Go_lcmp_ne (t := 49) (q := 44) (q2 := 47) C hw dX12_fact_43 rfl dX12_fact_44 rfl rfl (fun hw => ?_) (fun hw => ?_)
        · refine Go_iconst (q := 48) (v := (3 : Int32)) C dX12_fact_47 rfl rfl ?_
          exact Go_iret C hQ hR hw dX12_fact_48
        · refine Go_aload_n (q := 50) C 0 rfl dX12_fact_49 rfl ?_
          refine Go_getJ (q := 53) (k := 7) C ci12 iw_12 kM_0 rfl wm_26_2 rfl dX12_fact_50 rfl ?_
          refine Go_ldc2 (q := 56) (v := (10266284 : Int64)) C wm_30_7 dX12_fact_53 rfl ?_
          refine Go_lcmp_ne (t := 62) (q := 57) (q2 := 60) C hw dX12_fact_56 rfl dX12_fact_57 rfl rfl (fun hw => ?_) (fun hw => ?_)
          · refine Go_iconst (q := 61) (v := (4 : Int32)) C dX12_fact_60 rfl rfl ?_
            exact Go_iret C hQ hR hw dX12_fact_61
          · refine Go_aload_n (q := 63) C 0 rfl dX12_fact_62 rfl ?_
            refine Go_getJ (q := 66) (k := 7) C ci12 iw_12 kM_0 rfl wm_26_2 rfl dX12_fact_63 rfl ?_
            refine Go_ldc2 (q := 69) (v := (774500 : Int64)) C wm_30_8 dX12_fact_66 rfl ?_
            refine Go_lcmp_ne (t := 75) (q := 70) (q2 := 73) C hw dX12_fact_69 rfl dX12_fact_70 rfl rfl (fun hw => ?_) (fun hw => ?_)
            · refine Go_iconst (q := 74) (v := (5 : Int32)) C dX12_fact_73 rfl rfl ?_
              exact Go_iret C hQ hR hw dX12_fact_74
            · refine Go_iconst (q := 76) (v := (0 : Int32)) C dX12_fact_75 rfl rfl ?_
              exact Go_iret C hQ hR hw dX12_fact_76
  · refine Go_iconst (q := 9) (v := (0 : Int32)) C dX12_fact_8 rfl rfl ?_
    exact Go_iret C hQ hR hw dX12_fact_9
-- X12_reads
abbrev rm_X12_reads : Room := { frames := 2, cells := 0, slots := 0, locals := 42 }
set_option maxRecDepth 100000 in
set_option maxHeartbeats 4000000 in
theorem g_X12_reads_418 {G : GC} (C : Cx G cX12_reads BIG RX12 6 (some .boolean) rm_X12_reads shM NM) {Q : Int32 → St → Prop} (hQ : QI G RCM Q) {S : St} (hR : RCM S) (hw : w_X12_reads_418 Q S) : Go G 6 418 [] [(0, .ref (Gad G (0)))] S := by
  unfold w_X12_reads_418 at hw
  refine Go_aload_n (q := 419) C 0 rfl dX12_reads_418 rfl ?_
  refine Go_iconst (q := 420) (v := (1 : Int32)) C dX12_reads_419 rfl rfl ?_
  refine Go_callV_I (av := (fun ad => [.int (1 : Int32)])) (st := []) (C := C) (hM := c_X12_fails (Gl G) hR hw) (hlk := wm_26_17) (hini := wm_1_5) (hins := wm_26_18) (hsel := wm_26_19) (hcode := wm_26_20) (ho := kM_0) (hci := rfl) (hc13 := by decide) (n := 1) (hd := by decide +kernel) (hr0 := ⟨rfl, rfl⟩) (hroom := ⟨by first | decide | (dsimp only; omega), by first | decide | (dsimp only; omega)⟩) (hlen := rfl) (hst := rfl) (hW := Nat.le_of_ble_eq_true rfl) (hdg := dX12_reads_420) (q := 423) (hq := rfl) (fun r420_21 S420_20 hw hR => ?_)
  exact Go_zret C hQ hR (zb hw.1) hw.2 dX12_reads_423
set_option maxRecDepth 100000 in
set_option maxHeartbeats 4000000 in
theorem g_X12_reads_399 {G : GC} (C : Cx G cX12_reads BIG RX12 6 (some .boolean) rm_X12_reads shM NM) {Q : Int32 → St → Prop} (hQ : QI G RCM Q) (v1 : Int32) {S : St} (hR : RCM S) (hw : w_X12_reads_399 Q v1 S) : Go G 6 399 [] [(0, .ref (Gad G (0))), (1, .int v1)] S := by
  unfold w_X12_reads_399 at hw
  refine Go_iload_n (q := 400) C 1 rfl dX12_reads_399 rfl ?_
  refine Go_if_ne (t := 418) (q := 403) C hw dX12_reads_400 rfl rfl (fun hw => ?_) (fun hw => ?_)
  · refine Go_aload_n (q := 404) C 0 rfl dX12_reads_403 rfl ?_
    refine Go_bipush (q := 406) (v := (59 : Int32)) C dX12_reads_404 rfl rfl ?_
    refine Go_callV_I (av := (fun ad => [.int (59 : Int32)])) (st := []) (C := C) (hM := c_X12_isSign (Gl G) hR hw) (hlk := wm_27_8) (hini := wm_1_5) (hins := wm_27_9) (hsel := wm_27_10) (hcode := wm_27_11) (ho := kM_0) (hci := rfl) (hc13 := by decide) (n := 1) (hd := by decide +kernel) (hr0 := ⟨rfl, rfl⟩) (hroom := ⟨by first | decide | (dsimp only; omega), by first | decide | (dsimp only; omega)⟩) (hlen := rfl) (hst := rfl) (hW := Nat.le_of_ble_eq_true rfl) (hdg := dX12_reads_406) (q := 409) (hq := rfl) (fun r406_19 S406_18 hw hR => ?_)
    refine Go_if_eq (t := 418) (q := 412) C hw dX12_reads_409 rfl rfl (fun hw => ?_) (fun hw => ?_)
    · refine Go_lvp [0] rfl ?_
      exact g_X12_reads_418 C hQ hR hw
    · refine Go_aload_n (q := 413) C 0 rfl dX12_reads_412 rfl ?_
      refine Go_callV_V (av := (fun ad => [])) (st := []) (C := C) (hM := c_X12_nextToken (Gl G) hR hw) (hlk := wm_25_21) (hini := wm_1_5) (hins := wm_25_22) (hsel := wm_25_23) (hcode := wm_26_0) (ho := kM_0) (hci := rfl) (hc13 := by decide) (n := 0) (hd := by decide +kernel) (hr0 := ⟨rfl, rfl⟩) (hroom := ⟨by first | decide | (dsimp only; omega), by first | decide | (dsimp only; omega)⟩) (hlen := rfl) (hst := rfl) (hW := Nat.le_of_ble_eq_true rfl) (hdg := dX12_reads_413) (q := 416) (hq := rfl) (fun S413_22 hw hR => ?_)
      refine Go_iconst (q := 417) (v := (1 : Int32)) C dX12_reads_416 rfl rfl ?_
      exact Go_zret C hQ hR rfl hw dX12_reads_417
  · refine Go_lvp [0] rfl ?_
    exact g_X12_reads_418 C hQ hR hw
set_option maxRecDepth 100000 in
set_option maxHeartbeats 4000000 in
theorem g_X12_reads_424 {G : GC} (C : Cx G cX12_reads BIG RX12 6 (some .boolean) rm_X12_reads shM NM) {Q : Int32 → St → Prop} (hQ : QI G RCM Q) (v1 : Int32) (v2 : Int32) {k11 : Int32 → Int32 → St → Prop} (hk11 : ∀ (v1 : Int32) (v2 : Int32) (S : St), RCM S → k11 v1 v2 S → Go G 6 11 [] [(0, .ref (Gad G (0))), (1, .int v1), (2, .int v2)] S) {S : St} (hR : RCM S) (hw : w_X12_reads_424 k11 v1 v2 S) : Go G 6 424 [] [(0, .ref (Gad G (0))), (1, .int v1), (2, .int v2)] S := by
  unfold w_X12_reads_424 at hw
  refine Go_aload_n (q := 425) C 0 rfl dX12_reads_424 rfl ?_
  refine Go_callV_V (av := (fun ad => [])) (st := []) (C := C) (hM := c_X12_nextToken (Gl G) hR hw) (hlk := wm_25_21) (hini := wm_1_5) (hins := wm_25_22) (hsel := wm_25_23) (hcode := wm_26_0) (ho := kM_0) (hci := rfl) (hc13 := by decide) (n := 0) (hd := by decide +kernel) (hr0 := ⟨rfl, rfl⟩) (hroom := ⟨by first | decide | (dsimp only; omega), by first | decide | (dsimp only; omega)⟩) (hlen := rfl) (hst := rfl) (hW := Nat.le_of_ble_eq_true rfl) (hdg := dX12_reads_425) (q := 428) (hq := rfl) (fun S425_25 hw hR => ?_)
  refine Go_goto (q := 11) C dX12_reads_428 rfl ?_
  refine Go_lvp [0, 1, 2] rfl ?_
  exact hk11 _ _ _ hR hw
set_option maxRecDepth 100000 in
set_option maxHeartbeats 4000000 in
theorem g_X12_reads_379 {G : GC} (C : Cx G cX12_reads BIG RX12 6 (some .boolean) rm_X12_reads shM NM) {Q : Int32 → St → Prop} (hQ : QI G RCM Q) (v2 : Int32) {k11 : Int32 → Int32 → St → Prop} (hk11 : ∀ (v1 : Int32) (v2 : Int32) (S : St), RCM S → k11 v1 v2 S → Go G 6 11 [] [(0, .ref (Gad G (0))), (1, .int v1), (2, .int v2)] S) (v1 : Int32) {S : St} (hR : RCM S) (hw : w_X12_reads_379 k11 v2 v1 S) : Go G 6 379 [] [(0, .ref (Gad G (0))), (1, .int v1), (2, .int v2)] S := by
  obtain ⟨n, hw⟩ := hw
  induction n generalizing v1 S with
  | zero => exact hw.elim
  | succ n ih =>
    have hw : b_X12_reads_379 k11 v2 (lpn (fun _ _ => False) (b_X12_reads_379 k11 v2) n) v1 S := hw
    generalize lpn (fun _ _ => False) (b_X12_reads_379 k11 v2) n = kf at hw ih
    have hk379 := fun (v1 : Int32) (S : St) (hR : RCM S) hw => ih v1 hR hw
    unfold b_X12_reads_379 at hw
    refine Go_iload_n (q := 380) C 1 rfl dX12_reads_379 rfl ?_
    refine Go_if_le (t := 424) (q := 383) C hw dX12_reads_380 rfl rfl (fun hw => ?_) (fun hw => ?_)
    · refine Go_lvp [0, 1, 2] rfl ?_
      exact g_X12_reads_424 C hQ _ _ hk11 hR hw
    · refine Go_aload_n (q := 384) C 0 rfl dX12_reads_383 rfl ?_
      refine Go_getA (q := 387) (k := 44) C ci12 iw_12 kM_0 (rM_0_44 hR) rfl wm_13_17 rfl dX12_reads_384 rfl ?_
      refine Go_iload_n (q := 388) C 1 rfl dX12_reads_387 rfl ?_
      obtain ⟨hin, hw⟩ := hw
      refine Go_iaload (q := 389) C kM_21 hin dX12_reads_388 rfl ?_
      refine Go_iconst (q := 390) (v := (1 : Int32)) C dX12_reads_389 rfl rfl ?_
      refine Go_icmp_ne (t := 424) (q := 393) C hw dX12_reads_390 rfl rfl (fun hw => ?_) (fun hw => ?_)
      · refine Go_iinc2 (q := 396) (kp := 1) (cst := (-1 : Int32)) C dX12_reads_393 rfl rfl (by decide) rfl (fun x393_26 e_x393_26 => ?_)
        have hw := hw x393_26 e_x393_26
        refine Go_lve (lv' := [(1, .int x393_26), (0, .ref (Gad G (0))), (2, .int v2)]) rfl ?_
        refine Go_goto (q := 379) C dX12_reads_396 rfl ?_
        refine Go_lvp [1, 0, 2] rfl ?_
        exact hk379 _ _ hR hw
      · refine Go_lvp [0, 1, 2] rfl ?_
        exact g_X12_reads_424 C hQ _ _ hk11 hR hw
set_option maxRecDepth 100000 in
set_option maxHeartbeats 4000000 in
theorem g_X12_reads_342 {G : GC} (C : Cx G cX12_reads BIG RX12 6 (some .boolean) rm_X12_reads shM NM) {Q : Int32 → St → Prop} (hQ : QI G RCM Q) (v1 : Int32) (t0 : Int32) {k11 : Int32 → Int32 → St → Prop} (hk11 : ∀ (v1 : Int32) (v2 : Int32) (S : St), RCM S → k11 v1 v2 S → Go G 6 11 [] [(0, .ref (Gad G (0))), (1, .int v1), (2, .int v2)] S) {S : St} (hR : RCM S) (hw : w_X12_reads_342 k11 v1 t0 S) : Go G 6 342 [.int t0, .ref (Gad G (0))] [(0, .ref (Gad G (0))), (1, .int v1)] S := by
  unfold w_X12_reads_342 at hw
  refine Go_callV_V (av := (fun ad => [.int t0])) (st := []) (C := C) (hM := c_X12_puts (Gl G) hR hw) (hlk := wm_30_9) (hini := wm_1_5) (hins := wm_30_10) (hsel := wm_30_11) (hcode := wm_30_12) (ho := kM_0) (hci := rfl) (hc13 := by decide) (n := 1) (hd := by decide +kernel) (hr0 := ⟨rfl, rfl⟩) (hroom := ⟨by first | decide | (dsimp only; omega), by first | decide | (dsimp only; omega)⟩) (hlen := rfl) (hst := rfl) (hW := Nat.le_of_ble_eq_true rfl) (hdg := dX12_reads_342) (q := 345) (hq := rfl) (fun S342_29 hw hR => ?_)
  refine Go_aload_n (q := 346) C 0 rfl dX12_reads_345 rfl ?_
  refine Go_getA (q := 349) (k := 45) C ci12 iw_12 kM_0 (rM_0_45 hR) rfl wm_13_18 rfl dX12_reads_346 rfl ?_
  refine Go_iload_n (q := 350) C 1 rfl dX12_reads_349 rfl ?_
  refine Go_iconst (q := 351) (v := (0 : Int32)) C dX12_reads_350 rfl rfl ?_
  obtain ⟨hin, hw⟩ := hw
  refine Go_zastore2 (q := 352) C kM_22 hin (by decide) dX12_reads_351 rfl ?_
  refine Go_S (fun S351_30 e_S351_30 => ?_)
  have hw := hw S351_30 e_S351_30
  have hR := rcM e_S351_30 hR
  refine Go_iconst (q := 353) (v := (1 : Int32)) C dX12_reads_352 rfl rfl ?_
  refine Go_istore_n (q := 354) (lv' := [(2, .int (1 : Int32)), (0, .ref (Gad G (0))), (1, .int v1)]) C rfl dX12_reads_353 (by decide) rfl rfl ?_
  refine Go_goto (q := 424) C dX12_reads_354 rfl ?_
  refine Go_lvp [1, 2, 0] rfl ?_
  exact g_X12_reads_424 C hQ _ _ hk11 hR hw
set_option maxRecDepth 100000 in
set_option maxHeartbeats 4000000 in
theorem g_X12_reads_324 {G : GC} (C : Cx G cX12_reads BIG RX12 6 (some .boolean) rm_X12_reads shM NM) {Q : Int32 → St → Prop} (hQ : QI G RCM Q) (v1 : Int32) {k11 : Int32 → Int32 → St → Prop} (hk11 : ∀ (v1 : Int32) (v2 : Int32) (S : St), RCM S → k11 v1 v2 S → Go G 6 11 [] [(0, .ref (Gad G (0))), (1, .int v1), (2, .int v2)] S) {S : St} (hR : RCM S) (hw : w_X12_reads_324 k11 v1 S) : Go G 6 324 [] [(0, .ref (Gad G (0))), (1, .int v1)] S := by
  unfold w_X12_reads_324 at hw
  refine Go_aload_n (q := 325) C 0 rfl dX12_reads_324 rfl ?_
  refine Go_aload_n (q := 326) C 0 rfl dX12_reads_325 rfl ?_
  refine Go_ldc2 (q := 329) (v := (1111 : Int64)) C wm_29_14 dX12_reads_326 rfl ?_
  refine Go_callV_I (av := (fun ad => [.long (1111 : Int64)])) (st := [.ref (Gad G (0))]) (C := C) (hM := c_X12_isWord (Gl G) hR hw) (hlk := wm_26_13) (hini := wm_1_5) (hins := wm_26_14) (hsel := wm_26_15) (hcode := wm_26_16) (ho := kM_0) (hci := rfl) (hc13 := by decide) (n := 1) (hd := by decide +kernel) (hr0 := ⟨rfl, rfl⟩) (hroom := ⟨by first | decide | (dsimp only; omega), by first | decide | (dsimp only; omega)⟩) (hlen := rfl) (hst := rfl) (hW := Nat.le_of_ble_eq_true rfl) (hdg := dX12_reads_329) (q := 332) (hq := rfl) (fun r329_28 S329_27 hw hR => ?_)
  refine Go_if_eq (t := 340) (q := 335) C hw dX12_reads_332 rfl rfl (fun hw => ?_) (fun hw => ?_)
  · refine Go_bipush (q := 342) (v := (27 : Int32)) C dX12_reads_340 rfl rfl ?_
    refine Go_lvp [0, 1] rfl ?_
    exact g_X12_reads_342 C hQ _ _ hk11 hR hw
  · refine Go_bipush (q := 337) (v := (26 : Int32)) C dX12_reads_335 rfl rfl ?_
    refine Go_goto (q := 342) C dX12_reads_337 rfl ?_
    refine Go_lvp [0, 1] rfl ?_
    exact g_X12_reads_342 C hQ _ _ hk11 hR hw
set_option maxRecDepth 100000 in
set_option maxHeartbeats 4000000 in
theorem g_X12_reads_304 {G : GC} (C : Cx G cX12_reads BIG RX12 6 (some .boolean) rm_X12_reads shM NM) {Q : Int32 → St → Prop} (hQ : QI G RCM Q) (v1 : Int32) (v2 : Int32) {k11 : Int32 → Int32 → St → Prop} (hk11 : ∀ (v1 : Int32) (v2 : Int32) (S : St), RCM S → k11 v1 v2 S → Go G 6 11 [] [(0, .ref (Gad G (0))), (1, .int v1), (2, .int v2)] S) {S : St} (hR : RCM S) (hw : w_X12_reads_304 Q k11 v1 v2 S) : Go G 6 304 [] [(0, .ref (Gad G (0))), (1, .int v1), (2, .int v2)] S := by
  unfold w_X12_reads_304 at hw
  refine Go_aload_n (q := 305) C 0 rfl dX12_reads_304 rfl ?_
  refine Go_ldc2 (q := 308) (v := (1111 : Int64)) C wm_29_14 dX12_reads_305 rfl ?_
  refine Go_callV_I (av := (fun ad => [.long (1111 : Int64)])) (st := []) (C := C) (hM := c_X12_isWord (Gl G) hR hw) (hlk := wm_26_13) (hini := wm_1_5) (hins := wm_26_14) (hsel := wm_26_15) (hcode := wm_26_16) (ho := kM_0) (hci := rfl) (hc13 := by decide) (n := 1) (hd := by decide +kernel) (hr0 := ⟨rfl, rfl⟩) (hroom := ⟨by first | decide | (dsimp only; omega), by first | decide | (dsimp only; omega)⟩) (hlen := rfl) (hst := rfl) (hW := Nat.le_of_ble_eq_true rfl) (hdg := dX12_reads_308) (q := 311) (hq := rfl) (fun r308_13 S308_12 hw hR => ?_)
  refine Go_if_ne (t := 324) (q := 314) C hw dX12_reads_311 rfl rfl (fun hw => ?_) (fun hw => ?_)
  · refine Go_aload_n (q := 315) C 0 rfl dX12_reads_314 rfl ?_
    refine Go_ldc2 (q := 318) (v := (423 : Int64)) C wm_29_15 dX12_reads_315 rfl ?_
    refine Go_callV_I (av := (fun ad => [.long (423 : Int64)])) (st := []) (C := C) (hM := c_X12_isWord (Gl G) hR hw) (hlk := wm_26_13) (hini := wm_1_5) (hins := wm_26_14) (hsel := wm_26_15) (hcode := wm_26_16) (ho := kM_0) (hci := rfl) (hc13 := by decide) (n := 1) (hd := by decide +kernel) (hr0 := ⟨rfl, rfl⟩) (hroom := ⟨by first | decide | (dsimp only; omega), by first | decide | (dsimp only; omega)⟩) (hlen := rfl) (hst := rfl) (hW := Nat.le_of_ble_eq_true rfl) (hdg := dX12_reads_318) (q := 321) (hq := rfl) (fun r318_15 S318_14 hw hR => ?_)
    refine Go_if_eq (t := 357) (q := 324) C hw dX12_reads_321 rfl rfl (fun hw => ?_) (fun hw => ?_)
    · refine Go_aload_n (q := 358) C 0 rfl dX12_reads_357 rfl ?_
      refine Go_bipush (q := 360) (v := (41 : Int32)) C dX12_reads_358 rfl rfl ?_
      refine Go_callV_I (av := (fun ad => [.int (41 : Int32)])) (st := []) (C := C) (hM := c_X12_isSign (Gl G) hR hw) (hlk := wm_27_8) (hini := wm_1_5) (hins := wm_27_9) (hsel := wm_27_10) (hcode := wm_27_11) (ho := kM_0) (hci := rfl) (hc13 := by decide) (n := 1) (hd := by decide +kernel) (hr0 := ⟨rfl, rfl⟩) (hroom := ⟨by first | decide | (dsimp only; omega), by first | decide | (dsimp only; omega)⟩) (hlen := rfl) (hst := rfl) (hW := Nat.le_of_ble_eq_true rfl) (hdg := dX12_reads_360) (q := 363) (hq := rfl) (fun r360_17 S360_16 hw hR => ?_)
      refine Go_if_eq (t := 399) (q := 366) C hw dX12_reads_363 rfl rfl (fun hw => ?_) (fun hw => ?_)
      · refine Go_lvp [0, 1] rfl ?_
        exact g_X12_reads_399 C hQ _ hR hw
      · refine Go_iload_n (q := 367) C 1 rfl dX12_reads_366 rfl ?_
        refine Go_if_le (t := 399) (q := 370) C hw dX12_reads_367 rfl rfl (fun hw => ?_) (fun hw => ?_)
        · refine Go_lvp [0, 1] rfl ?_
          exact g_X12_reads_399 C hQ _ hR hw
        · refine Go_aload_n (q := 371) C 0 rfl dX12_reads_370 rfl ?_
          refine Go_bipush (q := 373) (v := (29 : Int32)) C dX12_reads_371 rfl rfl ?_
          refine Go_callV_V (av := (fun ad => [.int (29 : Int32)])) (st := []) (C := C) (hM := c_X12_puts (Gl G) hR hw) (hlk := wm_30_9) (hini := wm_1_5) (hins := wm_30_10) (hsel := wm_30_11) (hcode := wm_30_12) (ho := kM_0) (hci := rfl) (hc13 := by decide) (n := 1) (hd := by decide +kernel) (hr0 := ⟨rfl, rfl⟩) (hroom := ⟨by first | decide | (dsimp only; omega), by first | decide | (dsimp only; omega)⟩) (hlen := rfl) (hst := rfl) (hW := Nat.le_of_ble_eq_true rfl) (hdg := dX12_reads_373) (q := 376) (hq := rfl) (fun S373_23 hw hR => ?_)
          refine Go_iinc2 (q := 379) (kp := 1) (cst := (-1 : Int32)) C dX12_reads_376 rfl rfl (by decide) rfl (fun x376_24 e_x376_24 => ?_)
          have hw := hw x376_24 e_x376_24
          refine Go_lve (lv' := [(1, .int x376_24), (0, .ref (Gad G (0))), (2, .int v2)]) rfl ?_
          refine Go_lvp [1, 0, 2] rfl ?_
          exact g_X12_reads_379 C hQ _ hk11 _ hR hw
    · refine Go_lvp [0, 1] rfl ?_
      exact g_X12_reads_324 C hQ _ hk11 hR hw
  · refine Go_lvp [0, 1] rfl ?_
    exact g_X12_reads_324 C hQ _ hk11 hR hw
set_option maxRecDepth 100000 in
set_option maxHeartbeats 4000000 in
theorem g_X12_reads_289 {G : GC} (C : Cx G cX12_reads BIG RX12 6 (some .boolean) rm_X12_reads shM NM) {Q : Int32 → St → Prop} (hQ : QI G RCM Q) (v1 : Int32) (t0 : Int32) {k11 : Int32 → Int32 → St → Prop} (hk11 : ∀ (v1 : Int32) (v2 : Int32) (S : St), RCM S → k11 v1 v2 S → Go G 6 11 [] [(0, .ref (Gad G (0))), (1, .int v1), (2, .int v2)] S) {S : St} (hR : RCM S) (hw : w_X12_reads_289 k11 v1 t0 S) : Go G 6 289 [.int t0, .ref (Gad G (0))] [(0, .ref (Gad G (0))), (1, .int v1)] S := by
  unfold w_X12_reads_289 at hw
  refine Go_callV_V (av := (fun ad => [.int t0])) (st := []) (C := C) (hM := c_X12_puts (Gl G) hR hw) (hlk := wm_30_9) (hini := wm_1_5) (hins := wm_30_10) (hsel := wm_30_11) (hcode := wm_30_12) (ho := kM_0) (hci := rfl) (hc13 := by decide) (n := 1) (hd := by decide +kernel) (hr0 := ⟨rfl, rfl⟩) (hroom := ⟨by first | decide | (dsimp only; omega), by first | decide | (dsimp only; omega)⟩) (hlen := rfl) (hst := rfl) (hW := Nat.le_of_ble_eq_true rfl) (hdg := dX12_reads_289) (q := 292) (hq := rfl) (fun S289_33 hw hR => ?_)
  refine Go_aload_n (q := 293) C 0 rfl dX12_reads_292 rfl ?_
  refine Go_getA (q := 296) (k := 45) C ci12 iw_12 kM_0 (rM_0_45 hR) rfl wm_13_18 rfl dX12_reads_293 rfl ?_
  refine Go_iload_n (q := 297) C 1 rfl dX12_reads_296 rfl ?_
  refine Go_iconst (q := 298) (v := (1 : Int32)) C dX12_reads_297 rfl rfl ?_
  obtain ⟨hin, hw⟩ := hw
  refine Go_zastore2 (q := 299) C kM_22 hin (by decide) dX12_reads_298 rfl ?_
  refine Go_S (fun S298_34 e_S298_34 => ?_)
  have hw := hw S298_34 e_S298_34
  have hR := rcM e_S298_34 hR
  refine Go_iconst (q := 300) (v := (1 : Int32)) C dX12_reads_299 rfl rfl ?_
  refine Go_istore_n (q := 301) (lv' := [(2, .int (1 : Int32)), (0, .ref (Gad G (0))), (1, .int v1)]) C rfl dX12_reads_300 (by decide) rfl rfl ?_
  refine Go_goto (q := 424) C dX12_reads_301 rfl ?_
  refine Go_lvp [1, 2, 0] rfl ?_
  exact g_X12_reads_424 C hQ _ _ hk11 hR hw
set_option maxRecDepth 100000 in
set_option maxHeartbeats 4000000 in
theorem g_X12_reads_263 {G : GC} (C : Cx G cX12_reads BIG RX12 6 (some .boolean) rm_X12_reads shM NM) {Q : Int32 → St → Prop} (hQ : QI G RCM Q) (v1 : Int32) (v2 : Int32) {k11 : Int32 → Int32 → St → Prop} (hk11 : ∀ (v1 : Int32) (v2 : Int32) (S : St), RCM S → k11 v1 v2 S → Go G 6 11 [] [(0, .ref (Gad G (0))), (1, .int v1), (2, .int v2)] S) {S : St} (hR : RCM S) (hw : w_X12_reads_263 Q k11 v1 v2 S) : Go G 6 263 [] [(0, .ref (Gad G (0))), (1, .int v1), (2, .int v2)] S := by
  unfold w_X12_reads_263 at hw
  refine Go_aload_n (q := 264) C 0 rfl dX12_reads_263 rfl ?_
  refine Go_getA (q := 267) (k := 45) C ci12 iw_12 kM_0 (rM_0_45 hR) rfl wm_13_18 rfl dX12_reads_264 rfl ?_
  refine Go_iload_n (q := 268) C 1 rfl dX12_reads_267 rfl ?_
  obtain ⟨hin, hw⟩ := hw
  refine Go_zaload (q := 269) C kM_22 hin dX12_reads_268 rfl ?_
  refine Go_if_ne (t := 304) (q := 272) C hw dX12_reads_269 rfl rfl (fun hw => ?_) (fun hw => ?_)
  · refine Go_aload_n (q := 273) C 0 rfl dX12_reads_272 rfl ?_
    refine Go_aload_n (q := 274) C 0 rfl dX12_reads_273 rfl ?_
    refine Go_bipush (q := 276) (v := (60 : Int32)) C dX12_reads_274 rfl rfl ?_
    refine Go_callV_I (av := (fun ad => [.int (60 : Int32)])) (st := [.ref (Gad G (0))]) (C := C) (hM := c_X12_isSign (Gl G) hR hw) (hlk := wm_27_8) (hini := wm_1_5) (hins := wm_27_9) (hsel := wm_27_10) (hcode := wm_27_11) (ho := kM_0) (hci := rfl) (hc13 := by decide) (n := 1) (hd := by decide +kernel) (hr0 := ⟨rfl, rfl⟩) (hroom := ⟨by first | decide | (dsimp only; omega), by first | decide | (dsimp only; omega)⟩) (hlen := rfl) (hst := rfl) (hW := Nat.le_of_ble_eq_true rfl) (hdg := dX12_reads_276) (q := 279) (hq := rfl) (fun r276_32 S276_31 hw hR => ?_)
    refine Go_if_eq (t := 287) (q := 282) C hw dX12_reads_279 rfl rfl (fun hw => ?_) (fun hw => ?_)
    · refine Go_bipush (q := 289) (v := (25 : Int32)) C dX12_reads_287 rfl rfl ?_
      refine Go_lvp [0, 1] rfl ?_
      exact g_X12_reads_289 C hQ _ _ hk11 hR hw
    · refine Go_bipush (q := 284) (v := (24 : Int32)) C dX12_reads_282 rfl rfl ?_
      refine Go_goto (q := 289) C dX12_reads_284 rfl ?_
      refine Go_lvp [0, 1] rfl ?_
      exact g_X12_reads_289 C hQ _ _ hk11 hR hw
  · refine Go_lvp [0, 1, 2] rfl ?_
    exact g_X12_reads_304 C hQ _ _ hk11 hR hw
set_option maxRecDepth 100000 in
set_option maxHeartbeats 4000000 in
theorem g_X12_reads_237 {G : GC} (C : Cx G cX12_reads BIG RX12 6 (some .boolean) rm_X12_reads shM NM) {Q : Int32 → St → Prop} (hQ : QI G RCM Q) (v1 : Int32) (t0 : Int32) {k11 : Int32 → Int32 → St → Prop} (hk11 : ∀ (v1 : Int32) (v2 : Int32) (S : St), RCM S → k11 v1 v2 S → Go G 6 11 [] [(0, .ref (Gad G (0))), (1, .int v1), (2, .int v2)] S) {S : St} (hR : RCM S) (hw : w_X12_reads_237 k11 v1 t0 S) : Go G 6 237 [.int t0, .ref (Gad G (0))] [(0, .ref (Gad G (0))), (1, .int v1)] S := by
  unfold w_X12_reads_237 at hw
  refine Go_callV_V (av := (fun ad => [.int t0])) (st := []) (C := C) (hM := c_X12_puts (Gl G) hR hw) (hlk := wm_30_9) (hini := wm_1_5) (hins := wm_30_10) (hsel := wm_30_11) (hcode := wm_30_12) (ho := kM_0) (hci := rfl) (hc13 := by decide) (n := 1) (hd := by decide +kernel) (hr0 := ⟨rfl, rfl⟩) (hroom := ⟨by first | decide | (dsimp only; omega), by first | decide | (dsimp only; omega)⟩) (hlen := rfl) (hst := rfl) (hW := Nat.le_of_ble_eq_true rfl) (hdg := dX12_reads_237) (q := 240) (hq := rfl) (fun S237_39 hw hR => ?_)
  refine Go_iconst (q := 241) (v := (1 : Int32)) C dX12_reads_240 rfl rfl ?_
  refine Go_istore_n (q := 242) (lv' := [(2, .int (1 : Int32)), (0, .ref (Gad G (0))), (1, .int v1)]) C rfl dX12_reads_241 (by decide) rfl rfl ?_
  refine Go_goto (q := 424) C dX12_reads_242 rfl ?_
  refine Go_lvp [1, 2, 0] rfl ?_
  exact g_X12_reads_424 C hQ _ _ hk11 hR hw
set_option maxRecDepth 100000 in
set_option maxHeartbeats 4000000 in
theorem g_X12_reads_206 {G : GC} (C : Cx G cX12_reads BIG RX12 6 (some .boolean) rm_X12_reads shM NM) {Q : Int32 → St → Prop} (hQ : QI G RCM Q) (v1 : Int32) {k11 : Int32 → Int32 → St → Prop} (hk11 : ∀ (v1 : Int32) (v2 : Int32) (S : St), RCM S → k11 v1 v2 S → Go G 6 11 [] [(0, .ref (Gad G (0))), (1, .int v1), (2, .int v2)] S) {S : St} (hR : RCM S) (hw : w_X12_reads_206 k11 v1 S) : Go G 6 206 [] [(0, .ref (Gad G (0))), (1, .int v1)] S := by
  unfold w_X12_reads_206 at hw
  refine Go_aload_n (q := 207) C 0 rfl dX12_reads_206 rfl ?_
  refine Go_aload_n (q := 208) C 0 rfl dX12_reads_207 rfl ?_
  refine Go_bipush (q := 210) (v := (43 : Int32)) C dX12_reads_208 rfl rfl ?_
  refine Go_callV_I (av := (fun ad => [.int (43 : Int32)])) (st := [.ref (Gad G (0))]) (C := C) (hM := c_X12_isSign (Gl G) hR hw) (hlk := wm_27_8) (hini := wm_1_5) (hins := wm_27_9) (hsel := wm_27_10) (hcode := wm_27_11) (ho := kM_0) (hci := rfl) (hc13 := by decide) (n := 1) (hd := by decide +kernel) (hr0 := ⟨rfl, rfl⟩) (hroom := ⟨by first | decide | (dsimp only; omega), by first | decide | (dsimp only; omega)⟩) (hlen := rfl) (hst := rfl) (hW := Nat.le_of_ble_eq_true rfl) (hdg := dX12_reads_210) (q := 213) (hq := rfl) (fun r210_36 S210_35 hw hR => ?_)
  refine Go_if_eq (t := 221) (q := 216) C hw dX12_reads_213 rfl rfl (fun hw => ?_) (fun hw => ?_)
  · refine Go_aload_n (q := 222) C 0 rfl dX12_reads_221 rfl ?_
    refine Go_bipush (q := 224) (v := (45 : Int32)) C dX12_reads_222 rfl rfl ?_
    refine Go_callV_I (av := (fun ad => [.int (45 : Int32)])) (st := [.ref (Gad G (0))]) (C := C) (hM := c_X12_isSign (Gl G) hR hw) (hlk := wm_27_8) (hini := wm_1_5) (hins := wm_27_9) (hsel := wm_27_10) (hcode := wm_27_11) (ho := kM_0) (hci := rfl) (hc13 := by decide) (n := 1) (hd := by decide +kernel) (hr0 := ⟨rfl, rfl⟩) (hroom := ⟨by first | decide | (dsimp only; omega), by first | decide | (dsimp only; omega)⟩) (hlen := rfl) (hst := rfl) (hW := Nat.le_of_ble_eq_true rfl) (hdg := dX12_reads_224) (q := 227) (hq := rfl) (fun r224_38 S224_37 hw hR => ?_)
    refine Go_if_eq (t := 235) (q := 230) C hw dX12_reads_227 rfl rfl (fun hw => ?_) (fun hw => ?_)
    · refine Go_bipush (q := 237) (v := (22 : Int32)) C dX12_reads_235 rfl rfl ?_
      refine Go_lvp [0, 1] rfl ?_
      exact g_X12_reads_237 C hQ _ _ hk11 hR hw
    · refine Go_bipush (q := 232) (v := (21 : Int32)) C dX12_reads_230 rfl rfl ?_
      refine Go_goto (q := 237) C dX12_reads_232 rfl ?_
      refine Go_lvp [0, 1] rfl ?_
      exact g_X12_reads_237 C hQ _ _ hk11 hR hw
  · refine Go_bipush (q := 218) (v := (20 : Int32)) C dX12_reads_216 rfl rfl ?_
    refine Go_goto (q := 237) C dX12_reads_218 rfl ?_
    refine Go_lvp [0, 1] rfl ?_
    exact g_X12_reads_237 C hQ _ _ hk11 hR hw
set_option maxRecDepth 100000 in
set_option maxHeartbeats 4000000 in
theorem g_X12_reads_172 {G : GC} (C : Cx G cX12_reads BIG RX12 6 (some .boolean) rm_X12_reads shM NM) {Q : Int32 → St → Prop} (hQ : QI G RCM Q) (v1 : Int32) (v2 : Int32) {k11 : Int32 → Int32 → St → Prop} (hk11 : ∀ (v1 : Int32) (v2 : Int32) (S : St), RCM S → k11 v1 v2 S → Go G 6 11 [] [(0, .ref (Gad G (0))), (1, .int v1), (2, .int v2)] S) {S : St} (hR : RCM S) (hw : w_X12_reads_172 k11 v1 v2 S) : Go G 6 172 [] [(0, .ref (Gad G (0))), (1, .int v1), (2, .int v2)] S := by
  unfold w_X12_reads_172 at hw
  refine Go_aload_n (q := 173) C 0 rfl dX12_reads_172 rfl ?_
  refine Go_callV_V (av := (fun ad => [])) (st := []) (C := C) (hM := c_X12_nextToken (Gl G) hR hw) (hlk := wm_25_21) (hini := wm_1_5) (hins := wm_25_22) (hsel := wm_25_23) (hcode := wm_26_0) (ho := kM_0) (hci := rfl) (hc13 := by decide) (n := 0) (hd := by decide +kernel) (hr0 := ⟨rfl, rfl⟩) (hroom := ⟨by first | decide | (dsimp only; omega), by first | decide | (dsimp only; omega)⟩) (hlen := rfl) (hst := rfl) (hW := Nat.le_of_ble_eq_true rfl) (hdg := dX12_reads_173) (q := 176) (hq := rfl) (fun S173_49 hw hR => ?_)
  refine Go_goto (q := 11) C dX12_reads_176 rfl ?_
  refine Go_lvp [0, 1, 2] rfl ?_
  exact hk11 _ _ _ hR hw
set_option maxRecDepth 100000 in
set_option maxHeartbeats 4000000 in
theorem g_X12_reads_152 {G : GC} (C : Cx G cX12_reads BIG RX12 6 (some .boolean) rm_X12_reads shM NM) {Q : Int32 → St → Prop} (hQ : QI G RCM Q) (v2 : Int32) {k11 : Int32 → Int32 → St → Prop} (hk11 : ∀ (v1 : Int32) (v2 : Int32) (S : St), RCM S → k11 v1 v2 S → Go G 6 11 [] [(0, .ref (Gad G (0))), (1, .int v1), (2, .int v2)] S) (v1 : Int32) {S : St} (hR : RCM S) (hw : w_X12_reads_152 k11 v2 v1 S) : Go G 6 152 [] [(0, .ref (Gad G (0))), (1, .int v1), (2, .int v2)] S := by
  obtain ⟨n, hw⟩ := hw
  induction n generalizing v1 S with
  | zero => exact hw.elim
  | succ n ih =>
    have hw : b_X12_reads_152 k11 v2 (lpn (fun _ _ => False) (b_X12_reads_152 k11 v2) n) v1 S := hw
    generalize lpn (fun _ _ => False) (b_X12_reads_152 k11 v2) n = kf at hw ih
    have hk152 := fun (v1 : Int32) (S : St) (hR : RCM S) hw => ih v1 hR hw
    unfold b_X12_reads_152 at hw
    refine Go_iload_n (q := 153) C 1 rfl dX12_reads_152 rfl ?_
    refine Go_if_le (t := 172) (q := 156) C hw dX12_reads_153 rfl rfl (fun hw => ?_) (fun hw => ?_)
    · refine Go_lvp [0, 1, 2] rfl ?_
      exact g_X12_reads_172 C hQ _ _ hk11 hR hw
    · refine Go_aload_n (q := 157) C 0 rfl dX12_reads_156 rfl ?_
      refine Go_getA (q := 160) (k := 44) C ci12 iw_12 kM_0 (rM_0_44 hR) rfl wm_13_17 rfl dX12_reads_157 rfl ?_
      refine Go_iload_n (q := 161) C 1 rfl dX12_reads_160 rfl ?_
      obtain ⟨hin, hw⟩ := hw
      refine Go_iaload (q := 162) C kM_21 hin dX12_reads_161 rfl ?_
      refine Go_iconst (q := 163) (v := (1 : Int32)) C dX12_reads_162 rfl rfl ?_
      refine Go_icmp_ne (t := 172) (q := 166) C hw dX12_reads_163 rfl rfl (fun hw => ?_) (fun hw => ?_)
      · refine Go_iinc2 (q := 169) (kp := 1) (cst := (-1 : Int32)) C dX12_reads_166 rfl rfl (by decide) rfl (fun x166_50 e_x166_50 => ?_)
        have hw := hw x166_50 e_x166_50
        refine Go_lve (lv' := [(1, .int x166_50), (0, .ref (Gad G (0))), (2, .int v2)]) rfl ?_
        refine Go_goto (q := 152) C dX12_reads_169 rfl ?_
        refine Go_lvp [1, 0, 2] rfl ?_
        exact hk152 _ _ hR hw
      · refine Go_lvp [0, 1, 2] rfl ?_
        exact g_X12_reads_172 C hQ _ _ hk11 hR hw
set_option maxRecDepth 100000 in
set_option maxHeartbeats 4000000 in
theorem g_X12_reads_147 {G : GC} (C : Cx G cX12_reads BIG RX12 6 (some .boolean) rm_X12_reads shM NM) {Q : Int32 → St → Prop} (hQ : QI G RCM Q) (v1 : Int32) (t0 : Int32) {k11 : Int32 → Int32 → St → Prop} (hk11 : ∀ (v1 : Int32) (v2 : Int32) (S : St), RCM S → k11 v1 v2 S → Go G 6 11 [] [(0, .ref (Gad G (0))), (1, .int v1), (2, .int v2)] S) {S : St} (hR : RCM S) (hw : w_X12_reads_147 k11 v1 t0 S) : Go G 6 147 [.int t0, .ref (Gad G (0))] [(0, .ref (Gad G (0))), (1, .int v1)] S := by
  unfold w_X12_reads_147 at hw
  refine Go_callV_V (av := (fun ad => [.int t0])) (st := []) (C := C) (hM := c_X12_puts (Gl G) hR hw) (hlk := wm_30_9) (hini := wm_1_5) (hins := wm_30_10) (hsel := wm_30_11) (hcode := wm_30_12) (ho := kM_0) (hci := rfl) (hc13 := by decide) (n := 1) (hd := by decide +kernel) (hr0 := ⟨rfl, rfl⟩) (hroom := ⟨by first | decide | (dsimp only; omega), by first | decide | (dsimp only; omega)⟩) (hlen := rfl) (hst := rfl) (hW := Nat.le_of_ble_eq_true rfl) (hdg := dX12_reads_147) (q := 150) (hq := rfl) (fun S147_48 hw hR => ?_)
  refine Go_iconst (q := 151) (v := (0 : Int32)) C dX12_reads_150 rfl rfl ?_
  refine Go_istore_n (q := 152) (lv' := [(2, .int (0 : Int32)), (0, .ref (Gad G (0))), (1, .int v1)]) C rfl dX12_reads_151 (by decide) rfl rfl ?_
  refine Go_lvp [1, 2, 0] rfl ?_
  exact g_X12_reads_152 C hQ _ hk11 _ hR hw
set_option maxRecDepth 100000 in
set_option maxHeartbeats 4000000 in
theorem g_X12_reads_120 {G : GC} (C : Cx G cX12_reads BIG RX12 6 (some .boolean) rm_X12_reads shM NM) {Q : Int32 → St → Prop} (hQ : QI G RCM Q) (v1 : Int32) (v2 : Int32) (t0 : Int32) (t1 : Int32) {k11 : Int32 → Int32 → St → Prop} (hk11 : ∀ (v1 : Int32) (v2 : Int32) (S : St), RCM S → k11 v1 v2 S → Go G 6 11 [] [(0, .ref (Gad G (0))), (1, .int v1), (2, .int v2)] S) {S : St} (hR : RCM S) (hw : w_X12_reads_120 k11 v1 v2 t0 t1 S) : Go G 6 120 [.int t0, .int t1, .ref (Gad G (21))] [(0, .ref (Gad G (0))), (1, .int v1), (2, .int v2)] S := by
  unfold w_X12_reads_120 at hw
  obtain ⟨hin, hw⟩ := hw
  refine Go_iastore (q := 121) C kM_21 hin dX12_reads_120 rfl ?_
  refine Go_S (fun S120_53 e_S120_53 => ?_)
  have hw := hw S120_53 e_S120_53
  have hR := rcM e_S120_53 hR
  refine Go_aload_n (q := 122) C 0 rfl dX12_reads_121 rfl ?_
  refine Go_getA (q := 125) (k := 45) C ci12 iw_12 kM_0 (rM_0_45 hR) rfl wm_13_18 rfl dX12_reads_122 rfl ?_
  refine Go_iload_n (q := 126) C 1 rfl dX12_reads_125 rfl ?_
  refine Go_iconst (q := 127) (v := (0 : Int32)) C dX12_reads_126 rfl rfl ?_
  obtain ⟨hin, hw⟩ := hw
  refine Go_zastore2 (q := 128) C kM_22 hin (by decide) dX12_reads_127 rfl ?_
  refine Go_S (fun S127_54 e_S127_54 => ?_)
  have hw := hw S127_54 e_S127_54
  have hR := rcM e_S127_54 hR
  refine Go_goto (q := 172) C dX12_reads_128 rfl ?_
  refine Go_lvp [0, 1, 2] rfl ?_
  exact g_X12_reads_172 C hQ _ _ hk11 hR hw
set_option maxRecDepth 100000 in
set_option maxHeartbeats 4000000 in
theorem g_X12_reads_99 {G : GC} (C : Cx G cX12_reads BIG RX12 6 (some .boolean) rm_X12_reads shM NM) {Q : Int32 → St → Prop} (hQ : QI G RCM Q) (v1 : Int32) (v2 : Int32) (v4 : Int32) (t0 : Int32) {k11 : Int32 → Int32 → St → Prop} (hk11 : ∀ (v1 : Int32) (v2 : Int32) (S : St), RCM S → k11 v1 v2 S → Go G 6 11 [] [(0, .ref (Gad G (0))), (1, .int v1), (2, .int v2)] S) {S : St} (hR : RCM S) (hw : w_X12_reads_99 k11 v1 v2 v4 t0 S) : Go G 6 99 [.int t0, .ref (Gad G (0))] [(0, .ref (Gad G (0))), (1, .int v1), (2, .int v2), (4, .int v4)] S := by
  unfold w_X12_reads_99 at hw
  refine Go_callV_V (av := (fun ad => [.int t0])) (st := []) (C := C) (hM := c_X12_puts (Gl G) hR hw) (hlk := wm_30_9) (hini := wm_1_5) (hins := wm_30_10) (hsel := wm_30_11) (hcode := wm_30_12) (ho := kM_0) (hci := rfl) (hc13 := by decide) (n := 1) (hd := by decide +kernel) (hr0 := ⟨rfl, rfl⟩) (hroom := ⟨by first | decide | (dsimp only; omega), by first | decide | (dsimp only; omega)⟩) (hlen := rfl) (hst := rfl) (hW := Nat.le_of_ble_eq_true rfl) (hdg := dX12_reads_99) (q := 102) (hq := rfl) (fun S99_51 hw hR => ?_)
  refine Go_iinc2 (q := 105) (kp := 1) (cst := (1 : Int32)) C dX12_reads_102 rfl rfl (by decide) rfl (fun x102_52 e_x102_52 => ?_)
  have hw := hw x102_52 e_x102_52
  refine Go_lve (lv' := [(1, .int x102_52), (0, .ref (Gad G (0))), (2, .int v2), (4, .int v4)]) rfl ?_
  refine Go_aload_n (q := 106) C 1 rfl dX12_reads_105 rfl ?_
  refine Go_getA (q := 109) (k := 44) C ci12 iw_12 kM_0 (rM_0_44 hR) rfl wm_13_17 rfl dX12_reads_106 rfl ?_
  refine Go_iload_n (q := 110) C 0 rfl dX12_reads_109 rfl ?_
  refine Go_iload (q := 112) C 3 rfl dX12_reads_110 rfl ?_
  refine Go_if_eq (t := 119) (q := 115) C hw dX12_reads_112 rfl rfl (fun hw => ?_) (fun hw => ?_)
  · refine Go_iconst (q := 120) (v := (2 : Int32)) C dX12_reads_119 rfl rfl ?_
    refine Go_lvp [1, 0, 2] rfl ?_
    exact g_X12_reads_120 C hQ _ _ _ _ hk11 hR hw
  · refine Go_iconst (q := 116) (v := (1 : Int32)) C dX12_reads_115 rfl rfl ?_
    refine Go_goto (q := 120) C dX12_reads_116 rfl ?_
    refine Go_lvp [1, 0, 2] rfl ?_
    exact g_X12_reads_120 C hQ _ _ _ _ hk11 hR hw
set_option maxRecDepth 100000 in
set_option maxHeartbeats 4000000 in
theorem g_X12_reads_86 {G : GC} (C : Cx G cX12_reads BIG RX12 6 (some .boolean) rm_X12_reads shM NM) {Q : Int32 → St → Prop} (hQ : QI G RCM Q) (v1 : Int32) (v2 : Int32) (v4 : Int32) {k11 : Int32 → Int32 → St → Prop} (hk11 : ∀ (v1 : Int32) (v2 : Int32) (S : St), RCM S → k11 v1 v2 S → Go G 6 11 [] [(0, .ref (Gad G (0))), (1, .int v1), (2, .int v2)] S) {S : St} (hR : RCM S) (hw : w_X12_reads_86 k11 v1 v2 v4 S) : Go G 6 86 [] [(0, .ref (Gad G (0))), (1, .int v1), (2, .int v2), (4, .int v4)] S := by
  unfold w_X12_reads_86 at hw
  refine Go_aload_n (q := 87) C 0 rfl dX12_reads_86 rfl ?_
  refine Go_iload (q := 89) C 3 rfl dX12_reads_87 rfl ?_
  refine Go_if_eq (t := 97) (q := 92) C hw dX12_reads_89 rfl rfl (fun hw => ?_) (fun hw => ?_)
  · refine Go_bipush (q := 99) (v := (28 : Int32)) C dX12_reads_97 rfl rfl ?_
    refine Go_lvp [0, 1, 2, 3] rfl ?_
    exact g_X12_reads_99 C hQ _ _ _ _ hk11 hR hw
  · refine Go_bipush (q := 94) (v := (30 : Int32)) C dX12_reads_92 rfl rfl ?_
    refine Go_goto (q := 99) C dX12_reads_94 rfl ?_
    refine Go_lvp [0, 1, 2, 3] rfl ?_
    exact g_X12_reads_99 C hQ _ _ _ _ hk11 hR hw
set_option maxRecDepth 100000 in
set_option maxHeartbeats 4000000 in
theorem g_X12_reads_65 {G : GC} (C : Cx G cX12_reads BIG RX12 6 (some .boolean) rm_X12_reads shM NM) {Q : Int32 → St → Prop} (hQ : QI G RCM Q) (v1 : Int32) (v2 : Int32) (v3 : Int32) (v4 : Int32) (v5 : Int32) {k11 : Int32 → Int32 → St → Prop} (hk11 : ∀ (v1 : Int32) (v2 : Int32) (S : St), RCM S → k11 v1 v2 S → Go G 6 11 [] [(0, .ref (Gad G (0))), (1, .int v1), (2, .int v2)] S) {S : St} (hR : RCM S) (hw : w_X12_reads_65 Q k11 v1 v2 v3 v4 v5 S) : Go G 6 65 [] [(0, .ref (Gad G (0))), (1, .int v1), (2, .int v2), (3, .int v3), (4, .int v4), (5, .int v5)] S := by
  unfold w_X12_reads_65 at hw
  refine Go_iload_n (q := 66) C 1 rfl dX12_reads_65 rfl ?_
  refine Go_iconst (q := 67) (v := (5 : Int32)) C dX12_reads_66 rfl rfl ?_
  refine Go_icmp_ne (t := 76) (q := 70) C hw dX12_reads_67 rfl rfl (fun hw => ?_) (fun hw => ?_)
  · refine Go_aload_n (q := 71) C 0 rfl dX12_reads_70 rfl ?_
    refine Go_iconst (q := 72) (v := (5 : Int32)) C dX12_reads_71 rfl rfl ?_
    refine Go_callV_I (av := (fun ad => [.int (5 : Int32)])) (st := []) (C := C) (hM := c_X12_fails (Gl G) hR hw) (hlk := wm_26_17) (hini := wm_1_5) (hins := wm_26_18) (hsel := wm_26_19) (hcode := wm_26_20) (ho := kM_0) (hci := rfl) (hc13 := by decide) (n := 1) (hd := by decide +kernel) (hr0 := ⟨rfl, rfl⟩) (hroom := ⟨by first | decide | (dsimp only; omega), by first | decide | (dsimp only; omega)⟩) (hlen := rfl) (hst := rfl) (hW := Nat.le_of_ble_eq_true rfl) (hdg := dX12_reads_72) (q := 75) (hq := rfl) (fun r72_47 S72_46 hw hR => ?_)
    exact Go_zret C hQ hR (zb hw.1) hw.2 dX12_reads_75
  · refine Go_iload (q := 78) C 4 rfl dX12_reads_76 rfl ?_
    refine Go_if_ne (t := 86) (q := 81) C hw dX12_reads_78 rfl rfl (fun hw => ?_) (fun hw => ?_)
    · refine Go_iload (q := 83) C 5 rfl dX12_reads_81 rfl ?_
      refine Go_if_eq (t := 131) (q := 86) C hw dX12_reads_83 rfl rfl (fun hw => ?_) (fun hw => ?_)
      · refine Go_aload_n (q := 132) C 0 rfl dX12_reads_131 rfl ?_
        refine Go_iload_n (q := 133) C 3 rfl dX12_reads_132 rfl ?_
        refine Go_if_le (t := 140) (q := 136) C hw dX12_reads_133 rfl rfl (fun hw => ?_) (fun hw => ?_)
        · refine Go_bipush (q := 142) (v := (100 : Int32)) C dX12_reads_140 rfl rfl ?_
          refine Go_aload_n (q := 143) C 0 rfl dX12_reads_142 rfl ?_
          refine Go_getI (q := 146) (k := 8) C ci12 iw_12 kM_0 rfl wm_25_13 rfl dX12_reads_143 rfl ?_
          refine Go_iadd (q := 147) C dX12_reads_146 rfl ?_
          refine Go_lvp [0, 1] rfl ?_
          exact g_X12_reads_147 C hQ _ _ hk11 hR hw
        · refine Go_iload_n (q := 137) C 3 rfl dX12_reads_136 rfl ?_
          refine Go_goto (q := 147) C dX12_reads_137 rfl ?_
          refine Go_lvp [0, 1] rfl ?_
          exact g_X12_reads_147 C hQ _ _ hk11 hR hw
      · refine Go_lvp [0, 1, 2, 4] rfl ?_
        exact g_X12_reads_86 C hQ _ _ _ hk11 hR hw
    · refine Go_lvp [0, 1, 2, 4] rfl ?_
      exact g_X12_reads_86 C hQ _ _ _ hk11 hR hw
set_option maxRecDepth 100000 in
set_option maxHeartbeats 4000000 in
theorem g_X12_reads_11 {G : GC} (C : Cx G cX12_reads BIG RX12 6 (some .boolean) rm_X12_reads shM NM) {Q : Int32 → St → Prop} (hQ : QI G RCM Q) (v1 : Int32) (v2 : Int32) {S : St} (hR : RCM S) (hw : w_X12_reads_11 Q v1 v2 S) : Go G 6 11 [] [(0, .ref (Gad G (0))), (1, .int v1), (2, .int v2)] S := by
  obtain ⟨n, hw⟩ := hw
  induction n generalizing v1 v2 S with
  | zero => exact hw.elim
  | succ n ih =>
    have hw : b_X12_reads_11 Q (lpn (fun _ _ _ => False) (b_X12_reads_11 Q) n) v1 v2 S := hw
    generalize lpn (fun _ _ _ => False) (b_X12_reads_11 Q) n = kf at hw ih
    have hk11 := fun (v1 : Int32) (v2 : Int32) (S : St) (hR : RCM S) hw => ih v1 v2 hR hw
    unfold b_X12_reads_11 at hw
    refine Go_iload_n (q := 12) C 2 rfl dX12_reads_11 rfl ?_
    refine Go_if_eq (t := 179) (q := 15) C hw dX12_reads_12 rfl rfl (fun hw => ?_) (fun hw => ?_)
    · refine Go_aload_n (q := 180) C 0 rfl dX12_reads_179 rfl ?_
      refine Go_bipush (q := 182) (v := (43 : Int32)) C dX12_reads_180 rfl rfl ?_
      refine Go_callV_I (av := (fun ad => [.int (43 : Int32)])) (st := []) (C := C) (hM := c_X12_isSign (Gl G) hR hw) (hlk := wm_27_8) (hini := wm_1_5) (hins := wm_27_9) (hsel := wm_27_10) (hcode := wm_27_11) (ho := kM_0) (hci := rfl) (hc13 := by decide) (n := 1) (hd := by decide +kernel) (hr0 := ⟨rfl, rfl⟩) (hroom := ⟨by first | decide | (dsimp only; omega), by first | decide | (dsimp only; omega)⟩) (hlen := rfl) (hst := rfl) (hW := Nat.le_of_ble_eq_true rfl) (hdg := dX12_reads_182) (q := 185) (hq := rfl) (fun r182_3 S182_2 hw hR => ?_)
      refine Go_if_ne (t := 206) (q := 188) C hw dX12_reads_185 rfl rfl (fun hw => ?_) (fun hw => ?_)
      · refine Go_aload_n (q := 189) C 0 rfl dX12_reads_188 rfl ?_
        refine Go_bipush (q := 191) (v := (45 : Int32)) C dX12_reads_189 rfl rfl ?_
        refine Go_callV_I (av := (fun ad => [.int (45 : Int32)])) (st := []) (C := C) (hM := c_X12_isSign (Gl G) hR hw) (hlk := wm_27_8) (hini := wm_1_5) (hins := wm_27_9) (hsel := wm_27_10) (hcode := wm_27_11) (ho := kM_0) (hci := rfl) (hc13 := by decide) (n := 1) (hd := by decide +kernel) (hr0 := ⟨rfl, rfl⟩) (hroom := ⟨by first | decide | (dsimp only; omega), by first | decide | (dsimp only; omega)⟩) (hlen := rfl) (hst := rfl) (hW := Nat.le_of_ble_eq_true rfl) (hdg := dX12_reads_191) (q := 194) (hq := rfl) (fun r191_5 S191_4 hw hR => ?_)
        refine Go_if_ne (t := 206) (q := 197) C hw dX12_reads_194 rfl rfl (fun hw => ?_) (fun hw => ?_)
        · refine Go_aload_n (q := 198) C 0 rfl dX12_reads_197 rfl ?_
          refine Go_bipush (q := 200) (v := (42 : Int32)) C dX12_reads_198 rfl rfl ?_
          refine Go_callV_I (av := (fun ad => [.int (42 : Int32)])) (st := []) (C := C) (hM := c_X12_isSign (Gl G) hR hw) (hlk := wm_27_8) (hini := wm_1_5) (hins := wm_27_9) (hsel := wm_27_10) (hcode := wm_27_11) (ho := kM_0) (hci := rfl) (hc13 := by decide) (n := 1) (hd := by decide +kernel) (hr0 := ⟨rfl, rfl⟩) (hroom := ⟨by first | decide | (dsimp only; omega), by first | decide | (dsimp only; omega)⟩) (hlen := rfl) (hst := rfl) (hW := Nat.le_of_ble_eq_true rfl) (hdg := dX12_reads_200) (q := 203) (hq := rfl) (fun r200_7 S200_6 hw hR => ?_)
          refine Go_if_eq (t := 245) (q := 206) C hw dX12_reads_203 rfl rfl (fun hw => ?_) (fun hw => ?_)
          · refine Go_aload_n (q := 246) C 0 rfl dX12_reads_245 rfl ?_
            refine Go_bipush (q := 248) (v := (60 : Int32)) C dX12_reads_246 rfl rfl ?_
            refine Go_callV_I (av := (fun ad => [.int (60 : Int32)])) (st := []) (C := C) (hM := c_X12_isSign (Gl G) hR hw) (hlk := wm_27_8) (hini := wm_1_5) (hins := wm_27_9) (hsel := wm_27_10) (hcode := wm_27_11) (ho := kM_0) (hci := rfl) (hc13 := by decide) (n := 1) (hd := by decide +kernel) (hr0 := ⟨rfl, rfl⟩) (hroom := ⟨by first | decide | (dsimp only; omega), by first | decide | (dsimp only; omega)⟩) (hlen := rfl) (hst := rfl) (hW := Nat.le_of_ble_eq_true rfl) (hdg := dX12_reads_248) (q := 251) (hq := rfl) (fun r248_9 S248_8 hw hR => ?_)
            refine Go_if_ne (t := 263) (q := 254) C hw dX12_reads_251 rfl rfl (fun hw => ?_) (fun hw => ?_)
            · refine Go_aload_n (q := 255) C 0 rfl dX12_reads_254 rfl ?_
              refine Go_bipush (q := 257) (v := (61 : Int32)) C dX12_reads_255 rfl rfl ?_
              refine Go_callV_I (av := (fun ad => [.int (61 : Int32)])) (st := []) (C := C) (hM := c_X12_isSign (Gl G) hR hw) (hlk := wm_27_8) (hini := wm_1_5) (hins := wm_27_9) (hsel := wm_27_10) (hcode := wm_27_11) (ho := kM_0) (hci := rfl) (hc13 := by decide) (n := 1) (hd := by decide +kernel) (hr0 := ⟨rfl, rfl⟩) (hroom := ⟨by first | decide | (dsimp only; omega), by first | decide | (dsimp only; omega)⟩) (hlen := rfl) (hst := rfl) (hW := Nat.le_of_ble_eq_true rfl) (hdg := dX12_reads_257) (q := 260) (hq := rfl) (fun r257_11 S257_10 hw hR => ?_)
              refine Go_if_eq (t := 304) (q := 263) C hw dX12_reads_260 rfl rfl (fun hw => ?_) (fun hw => ?_)
              · refine Go_lvp [0, 1, 2] rfl ?_
                exact g_X12_reads_304 C hQ _ _ hk11 hR hw
              · refine Go_lvp [0, 1, 2] rfl ?_
                exact g_X12_reads_263 C hQ _ _ hk11 hR hw
            · refine Go_lvp [0, 1, 2] rfl ?_
              exact g_X12_reads_263 C hQ _ _ hk11 hR hw
          · refine Go_lvp [0, 1] rfl ?_
            exact g_X12_reads_206 C hQ _ hk11 hR hw
        · refine Go_lvp [0, 1] rfl ?_
          exact g_X12_reads_206 C hQ _ hk11 hR hw
      · refine Go_lvp [0, 1] rfl ?_
        exact g_X12_reads_206 C hQ _ hk11 hR hw
    · refine Go_aload_n (q := 16) C 0 rfl dX12_reads_15 rfl ?_
      refine Go_callV_I (av := (fun ad => [])) (st := []) (C := C) (hM := c_X12_fact (Gl G) hR hw) (hlk := wm_30_0) (hini := wm_1_5) (hins := wm_30_1) (hsel := wm_30_2) (hcode := wm_30_3) (ho := kM_0) (hci := rfl) (hc13 := by decide) (n := 0) (hd := by decide +kernel) (hr0 := ⟨rfl, rfl⟩) (hroom := ⟨by first | decide | (dsimp only; omega), by first | decide | (dsimp only; omega)⟩) (hlen := rfl) (hst := rfl) (hW := Nat.le_of_ble_eq_true rfl) (hdg := dX12_reads_16) (q := 19) (hq := rfl) (fun r16_41 S16_40 hw hR => ?_)
      refine Go_istore_n (q := 20) (lv' := [(3, .int r16_41), (0, .ref (Gad G (0))), (1, .int v1), (2, .int v2)]) C rfl dX12_reads_19 (by decide) rfl rfl ?_
      refine Go_aload_n (q := 21) C 1 rfl dX12_reads_20 rfl ?_
      refine Go_ldc2 (q := 24) (v := (10631 : Int64)) C wm_29_13 dX12_reads_21 rfl ?_
      refine Go_callV_I (av := (fun ad => [.long (10631 : Int64)])) (st := []) (C := C) (hM := c_X12_isWord (Gl G) hR hw) (hlk := wm_26_13) (hini := wm_1_5) (hins := wm_26_14) (hsel := wm_26_15) (hcode := wm_26_16) (ho := kM_0) (hci := rfl) (hc13 := by decide) (n := 1) (hd := by decide +kernel) (hr0 := ⟨rfl, rfl⟩) (hroom := ⟨by first | decide | (dsimp only; omega), by first | decide | (dsimp only; omega)⟩) (hlen := rfl) (hst := rfl) (hW := Nat.le_of_ble_eq_true rfl) (hdg := dX12_reads_24) (q := 27) (hq := rfl) (fun r24_43 S24_42 hw hR => ?_)
      refine Go_istore (q := 29) (lv' := [(4, .int r24_43), (3, .int r16_41), (0, .ref (Gad G (0))), (1, .int v1), (2, .int v2)]) C dX12_reads_27 (by decide) rfl rfl ?_
      refine Go_aload_n (q := 30) C 2 rfl dX12_reads_29 rfl ?_
      refine Go_bipush (q := 32) (v := (40 : Int32)) C dX12_reads_30 rfl rfl ?_
      refine Go_callV_I (av := (fun ad => [.int (40 : Int32)])) (st := []) (C := C) (hM := c_X12_isSign (Gl G) hR hw) (hlk := wm_27_8) (hini := wm_1_5) (hins := wm_27_9) (hsel := wm_27_10) (hcode := wm_27_11) (ho := kM_0) (hci := rfl) (hc13 := by decide) (n := 1) (hd := by decide +kernel) (hr0 := ⟨rfl, rfl⟩) (hroom := ⟨by first | decide | (dsimp only; omega), by first | decide | (dsimp only; omega)⟩) (hlen := rfl) (hst := rfl) (hW := Nat.le_of_ble_eq_true rfl) (hdg := dX12_reads_32) (q := 35) (hq := rfl) (fun r32_45 S32_44 hw hR => ?_)
      refine Go_istore (q := 37) (lv' := [(5, .int r32_45), (4, .int r24_43), (3, .int r16_41), (0, .ref (Gad G (0))), (1, .int v1), (2, .int v2)]) C dX12_reads_35 (by decide) rfl rfl ?_
      refine Go_iload_n (q := 38) C 2 rfl dX12_reads_37 rfl ?_
      refine Go_if_ne (t := 65) (q := 41) C hw dX12_reads_38 rfl rfl (fun hw => ?_) (fun hw => ?_)
      · refine Go_iload (q := 43) C 1 rfl dX12_reads_41 rfl ?_
        refine Go_if_ne (t := 65) (q := 46) C hw dX12_reads_43 rfl rfl (fun hw => ?_) (fun hw => ?_)
        · refine Go_iload (q := 48) C 0 rfl dX12_reads_46 rfl ?_
          refine Go_if_ne (t := 65) (q := 51) C hw dX12_reads_48 rfl rfl (fun hw => ?_) (fun hw => ?_)
          · refine Go_aload_n (q := 52) C 3 rfl dX12_reads_51 rfl ?_
            refine Go_getI (q := 55) (k := 6) C ci12 iw_12 kM_0 rfl wm_25_14 rfl dX12_reads_52 rfl ?_
            refine Go_iconst (q := 56) (v := (2 : Int32)) C dX12_reads_55 rfl rfl ?_
            refine Go_icmp_eq (t := 65) (q := 59) C hw dX12_reads_56 rfl rfl (fun hw => ?_) (fun hw => ?_)
            · refine Go_lvp [3, 4, 5, 2, 1, 0] rfl ?_
              exact g_X12_reads_65 C hQ _ _ _ _ _ hk11 hR hw
            · refine Go_aload_n (q := 60) C 3 rfl dX12_reads_59 rfl ?_
              refine Go_iconst (q := 61) (v := (1 : Int32)) C dX12_reads_60 rfl rfl ?_
              refine Go_callV_I (av := (fun ad => [.int (1 : Int32)])) (st := []) (C := C) (hM := c_X12_fails (Gl G) hR hw) (hlk := wm_26_17) (hini := wm_1_5) (hins := wm_26_18) (hsel := wm_26_19) (hcode := wm_26_20) (ho := kM_0) (hci := rfl) (hc13 := by decide) (n := 1) (hd := by decide +kernel) (hr0 := ⟨rfl, rfl⟩) (hroom := ⟨by first | decide | (dsimp only; omega), by first | decide | (dsimp only; omega)⟩) (hlen := rfl) (hst := rfl) (hW := Nat.le_of_ble_eq_true rfl) (hdg := dX12_reads_61) (q := 64) (hq := rfl) (fun r61_56 S61_55 hw hR => ?_)
              exact Go_zret C hQ hR (zb hw.1) hw.2 dX12_reads_64
          · refine Go_lvp [3, 4, 5, 2, 1, 0] rfl ?_
            exact g_X12_reads_65 C hQ _ _ _ _ _ hk11 hR hw
        · refine Go_lvp [3, 4, 5, 2, 1, 0] rfl ?_
          exact g_X12_reads_65 C hQ _ _ _ _ _ hk11 hR hw
      · refine Go_lvp [3, 4, 5, 2, 1, 0] rfl ?_
        exact g_X12_reads_65 C hQ _ _ _ _ _ hk11 hR hw
set_option maxRecDepth 100000 in
set_option maxHeartbeats 4000000 in
theorem c_X12_reads (l : Launch) {S : St} {Q : Int32 → St → Prop} (hR : RCM S) (hw : w_X12_reads S Q) : MetI l yX12_reads (wB yX12_reads cX12_reads 6 (some .boolean)) rm_X12_reads shM NM RCM (fun ad => [.ref (ad (0))]) S Q := by
  refine MetI_of (cc := cX12_reads) (maxL := 6) (ret := (some .boolean)) (plainFor_of_name (by decide)) (fun _ => Nat.le_of_ble_eq_true rfl) (fun G C hl hQ => ?_)
  subst hl
  have C : Cx G cX12_reads BIG RX12 6 (some .boolean) rm_X12_reads shM NM := C
  show Go G 6 0 [] [(0, .ref (Gad G (0)))] S
  unfold w_X12_reads at hw
  refine Go_iconst (q := 1) (v := (0 : Int32)) C dX12_reads_0 rfl rfl ?_
  refine Go_istore_n (q := 2) (lv' := [(1, .int (0 : Int32)), (0, .ref (Gad G (0)))]) C rfl dX12_reads_1 (by decide) rfl rfl ?_
  refine Go_iconst (q := 3) (v := (1 : Int32)) C dX12_reads_2 rfl rfl ?_
  refine Go_istore_n (q := 4) (lv' := [(2, .int (1 : Int32)), (1, .int (0 : Int32)), (0, .ref (Gad G (0)))]) C rfl dX12_reads_3 (by decide) rfl rfl ?_
  refine Go_aload_n (q := 5) C 2 rfl dX12_reads_4 rfl ?_
  refine Go_getA (q := 8) (k := 45) C ci12 iw_12 kM_0 (rM_0_45 hR) rfl wm_13_18 rfl dX12_reads_5 rfl ?_
  refine Go_iconst (q := 9) (v := (0 : Int32)) C dX12_reads_8 rfl rfl ?_
  refine Go_iconst (q := 10) (v := (0 : Int32)) C dX12_reads_9 rfl rfl ?_
  refine Go_zastore2 (q := 11) C kM_22 (by unfold vp_in; decide) (by decide) dX12_reads_10 rfl ?_
  refine Go_S (fun S10_1 e_S10_1 => ?_)
  have hw := hw S10_1 e_S10_1
  have hR := rcM e_S10_1 hR
  refine Go_lvp [2, 1, 0] rfl ?_
  exact g_X12_reads_11 C hQ _ _ hR hw
-- X12_opens
abbrev rm_X12_opens : Room := { frames := 0, cells := 0, slots := 0, locals := 0 }
set_option maxRecDepth 100000 in
set_option maxHeartbeats 4000000 in
theorem c_X12_opens (l : Launch) {p0 : Int32} {S : St} {Q : St → Prop} (hR : RCM S) (hw : w_X12_opens p0 S Q) : MetV l yX12_opens (wB yX12_opens cX12_opens 2 none) rm_X12_opens shM NM RCM (fun ad => [.ref (ad (0)), .int p0]) S Q := by
  refine MetV_of (cc := cX12_opens) (maxL := 2) (ret := none) (plainFor_of_name (by decide)) (fun _ => Nat.le_of_ble_eq_true rfl) (fun G C hl hQ => ?_)
  subst hl
  have C : Cx G cX12_opens BIG RX12 2 none rm_X12_opens shM NM := C
  show Go G 2 0 [] [(0, .ref (Gad G (0))), (1, .int p0)] S
  unfold w_X12_opens at hw
  refine Go_aload_n (q := 1) C 0 rfl dX12_opens_0 rfl ?_
  refine Go_getA (q := 4) (k := 47) C ci12 iw_12 kM_0 (rM_0_47 hR) rfl wm_13_20 rfl dX12_opens_1 rfl ?_
  refine Go_iload_n (q := 5) C 1 rfl dX12_opens_4 rfl ?_
  refine Go_iconst (q := 6) (v := (0 : Int32)) C dX12_opens_5 rfl rfl ?_
  obtain ⟨hin, hw⟩ := hw
  refine Go_iastore (q := 7) C kM_24 hin dX12_opens_6 rfl ?_
  refine Go_S (fun S6_1 e_S6_1 => ?_)
  have hw := hw S6_1 e_S6_1
  have hR := rcM e_S6_1 hR
  refine Go_aload_n (q := 8) C 0 rfl dX12_opens_7 rfl ?_
  refine Go_getA (q := 11) (k := 49) C ci12 iw_12 kM_0 (rM_0_49 hR) rfl wm_13_22 rfl dX12_opens_8 rfl ?_
  refine Go_iload_n (q := 12) C 1 rfl dX12_opens_11 rfl ?_
  refine Go_iconst (q := 13) (v := (0 : Int32)) C dX12_opens_12 rfl rfl ?_
  obtain ⟨hin, hw⟩ := hw
  refine Go_iastore (q := 14) C kM_26 hin dX12_opens_13 rfl ?_
  refine Go_S (fun S13_2 e_S13_2 => ?_)
  have hw := hw S13_2 e_S13_2
  have hR := rcM e_S13_2 hR
  refine Go_aload_n (q := 15) C 0 rfl dX12_opens_14 rfl ?_
  refine Go_getA (q := 18) (k := 50) C ci12 iw_12 kM_0 (rM_0_50 hR) rfl wm_13_23 rfl dX12_opens_15 rfl ?_
  refine Go_iload_n (q := 19) C 1 rfl dX12_opens_18 rfl ?_
  refine Go_iconst (q := 20) (v := (0 : Int32)) C dX12_opens_19 rfl rfl ?_
  obtain ⟨hin, hw⟩ := hw
  refine Go_iastore (q := 21) C kM_27 hin dX12_opens_20 rfl ?_
  refine Go_S (fun S20_3 e_S20_3 => ?_)
  have hw := hw S20_3 e_S20_3
  have hR := rcM e_S20_3 hR
  refine Go_aload_n (q := 22) C 0 rfl dX12_opens_21 rfl ?_
  refine Go_getA (q := 25) (k := 51) C ci12 iw_12 kM_0 (rM_0_51 hR) rfl wm_14_0 rfl dX12_opens_22 rfl ?_
  refine Go_iload_n (q := 26) C 1 rfl dX12_opens_25 rfl ?_
  refine Go_bipush (q := 28) (v := (20 : Int32)) C dX12_opens_26 rfl rfl ?_
  obtain ⟨hin, hw⟩ := hw
  refine Go_iastore (q := 29) C kM_28 hin dX12_opens_28 rfl ?_
  refine Go_S (fun S28_4 e_S28_4 => ?_)
  have hw := hw S28_4 e_S28_4
  have hR := rcM e_S28_4 hR
  refine Go_aload_n (q := 30) C 0 rfl dX12_opens_29 rfl ?_
  refine Go_getA (q := 33) (k := 53) C ci12 iw_12 kM_0 (rM_0_53 hR) rfl wm_14_2 rfl dX12_opens_30 rfl ?_
  refine Go_iload_n (q := 34) C 1 rfl dX12_opens_33 rfl ?_
  refine Go_iconst (q := 35) (v := (0 : Int32)) C dX12_opens_34 rfl rfl ?_
  obtain ⟨hin, hw⟩ := hw
  refine Go_iastore (q := 36) C kM_30 hin dX12_opens_35 rfl ?_
  refine Go_S (fun S35_5 e_S35_5 => ?_)
  have hw := hw S35_5 e_S35_5
  have hR := rcM e_S35_5 hR
  exact Go_vret C hQ hR hw dX12_opens_36
-- X12_sums
abbrev rm_X12_sums : Room := { frames := 0, cells := 0, slots := 0, locals := 0 }
set_option maxRecDepth 100000 in
set_option maxHeartbeats 4000000 in
theorem g_X12_sums_45 {G : GC} (C : Cx G cX12_sums BIG RX12 2 none rm_X12_sums shM NM) {Q : St → Prop} (hQ : QV G RCM Q) (p0 : Int32) (t0 : Int32) (t1 : Int32) {S : St} (hR : RCM S) (hw : w_X12_sums_45 p0 Q t0 t1 S) : Go G 2 45 [.int t0, .int t1, .ref (Gad G (27))] [(0, .ref (Gad G (0))), (1, .int p0)] S := by
  unfold w_X12_sums_45 at hw
  obtain ⟨hin, hw⟩ := hw
  refine Go_iastore (q := 46) C kM_27 hin dX12_sums_45 rfl ?_
  refine Go_S (fun S45_1 e_S45_1 => ?_)
  have hw := hw S45_1 e_S45_1
  have hR := rcM e_S45_1 hR
  refine Go_aload_n (q := 47) C 0 rfl dX12_sums_46 rfl ?_
  refine Go_getA (q := 50) (k := 53) C ci12 iw_12 kM_0 (rM_0_53 hR) rfl wm_14_2 rfl dX12_sums_47 rfl ?_
  refine Go_iload_n (q := 51) C 1 rfl dX12_sums_50 rfl ?_
  refine Go_iconst (q := 52) (v := (0 : Int32)) C dX12_sums_51 rfl rfl ?_
  obtain ⟨hin, hw⟩ := hw
  refine Go_iastore (q := 53) C kM_30 hin dX12_sums_52 rfl ?_
  refine Go_S (fun S52_2 e_S52_2 => ?_)
  have hw := hw S52_2 e_S52_2
  have hR := rcM e_S52_2 hR
  exact Go_vret C hQ hR hw dX12_sums_53
set_option maxRecDepth 100000 in
set_option maxHeartbeats 4000000 in
theorem c_X12_sums (l : Launch) {p0 : Int32} {S : St} {Q : St → Prop} (hR : RCM S) (hw : w_X12_sums p0 S Q) : MetV l yX12_sums (wB yX12_sums cX12_sums 2 none) rm_X12_sums shM NM RCM (fun ad => [.ref (ad (0)), .int p0]) S Q := by
  refine MetV_of (cc := cX12_sums) (maxL := 2) (ret := none) (plainFor_of_name (by decide)) (fun _ => Nat.le_of_ble_eq_true rfl) (fun G C hl hQ => ?_)
  subst hl
  have C : Cx G cX12_sums BIG RX12 2 none rm_X12_sums shM NM := C
  show Go G 2 0 [] [(0, .ref (Gad G (0))), (1, .int p0)] S
  unfold w_X12_sums at hw
  refine Go_aload_n (q := 1) C 0 rfl dX12_sums_0 rfl ?_
  refine Go_getA (q := 4) (k := 50) C ci12 iw_12 kM_0 (rM_0_50 hR) rfl wm_13_23 rfl dX12_sums_1 rfl ?_
  refine Go_iload_n (q := 5) C 1 rfl dX12_sums_4 rfl ?_
  refine Go_aload_n (q := 6) C 0 rfl dX12_sums_5 rfl ?_
  refine Go_getA (q := 9) (k := 51) C ci12 iw_12 kM_0 (rM_0_51 hR) rfl wm_14_0 rfl dX12_sums_6 rfl ?_
  refine Go_iload_n (q := 10) C 1 rfl dX12_sums_9 rfl ?_
  obtain ⟨hin, hw⟩ := hw
  refine Go_iaload (q := 11) C kM_28 hin dX12_sums_10 rfl ?_
  refine Go_bipush (q := 13) (v := (21 : Int32)) C dX12_sums_11 rfl rfl ?_
  refine Go_icmp_ne (t := 32) (q := 16) C hw dX12_sums_13 rfl rfl (fun hw => ?_) (fun hw => ?_)
  · refine Go_aload_n (q := 17) C 0 rfl dX12_sums_16 rfl ?_
    refine Go_getA (q := 20) (k := 50) C ci12 iw_12 kM_0 (rM_0_50 hR) rfl wm_13_23 rfl dX12_sums_17 rfl ?_
    refine Go_iload_n (q := 21) C 1 rfl dX12_sums_20 rfl ?_
    obtain ⟨hin, hw⟩ := hw
    refine Go_iaload (q := 22) C kM_27 hin dX12_sums_21 rfl ?_
    refine Go_aload_n (q := 23) C 0 rfl dX12_sums_22 rfl ?_
    refine Go_getA (q := 26) (k := 52) C ci12 iw_12 kM_0 (rM_0_52 hR) rfl wm_14_1 rfl dX12_sums_23 rfl ?_
    refine Go_iload_n (q := 27) C 1 rfl dX12_sums_26 rfl ?_
    obtain ⟨hin, hw⟩ := hw
    refine Go_iaload (q := 28) C kM_29 hin dX12_sums_27 rfl ?_
    refine Go_isub (q := 29) C dX12_sums_28 rfl ?_
    refine Go_goto (q := 45) C dX12_sums_29 rfl ?_
    refine Go_lvp [0, 1] rfl ?_
    exact g_X12_sums_45 C hQ p0 _ _ hR hw
  · refine Go_aload_n (q := 33) C 0 rfl dX12_sums_32 rfl ?_
    refine Go_getA (q := 36) (k := 50) C ci12 iw_12 kM_0 (rM_0_50 hR) rfl wm_13_23 rfl dX12_sums_33 rfl ?_
    refine Go_iload_n (q := 37) C 1 rfl dX12_sums_36 rfl ?_
    obtain ⟨hin, hw⟩ := hw
    refine Go_iaload (q := 38) C kM_27 hin dX12_sums_37 rfl ?_
    refine Go_aload_n (q := 39) C 0 rfl dX12_sums_38 rfl ?_
    refine Go_getA (q := 42) (k := 52) C ci12 iw_12 kM_0 (rM_0_52 hR) rfl wm_14_1 rfl dX12_sums_39 rfl ?_
    refine Go_iload_n (q := 43) C 1 rfl dX12_sums_42 rfl ?_
    obtain ⟨hin, hw⟩ := hw
    refine Go_iaload (q := 44) C kM_29 hin dX12_sums_43 rfl ?_
    refine Go_iadd (q := 45) C dX12_sums_44 rfl ?_
    refine Go_lvp [0, 1] rfl ?_
    exact g_X12_sums_45 C hQ p0 _ _ hR hw
-- X12_tests
abbrev rm_X12_tests : Room := { frames := 1, cells := 0, slots := 0, locals := 21 }
set_option maxRecDepth 100000 in
set_option maxHeartbeats 4000000 in
theorem g_X12_tests_136 {G : GC} (C : Cx G cX12_tests BIG RX12 3 none rm_X12_tests shM NM) {Q : St → Prop} (hQ : QV G RCM Q) (p0 : Int32) (v2 : Int32) {S : St} (hR : RCM S) (hw : w_X12_tests_136 p0 Q v2 S) : Go G 3 136 [] [(0, .ref (Gad G (0))), (1, .int p0), (2, .int v2)] S := by
  unfold w_X12_tests_136 at hw
  refine Go_aload_n (q := 137) C 0 rfl dX12_tests_136 rfl ?_
  refine Go_getA (q := 140) (k := 46) C ci12 iw_12 kM_0 (rM_0_46 hR) rfl wm_13_19 rfl dX12_tests_137 rfl ?_
  refine Go_iload_n (q := 141) C 1 rfl dX12_tests_140 rfl ?_
  refine Go_iload_n (q := 142) C 2 rfl dX12_tests_141 rfl ?_
  obtain ⟨hin, hw⟩ := hw
  refine Go_iastore (q := 143) C kM_23 hin dX12_tests_142 rfl ?_
  refine Go_S (fun S142_3 e_S142_3 => ?_)
  have hw := hw S142_3 e_S142_3
  have hR := rcM e_S142_3 hR
  refine Go_aload_n (q := 144) C 0 rfl dX12_tests_143 rfl ?_
  refine Go_getA (q := 147) (k := 49) C ci12 iw_12 kM_0 (rM_0_49 hR) rfl wm_13_22 rfl dX12_tests_144 rfl ?_
  refine Go_iload_n (q := 148) C 1 rfl dX12_tests_147 rfl ?_
  refine Go_iconst (q := 149) (v := (0 : Int32)) C dX12_tests_148 rfl rfl ?_
  obtain ⟨hin, hw⟩ := hw
  refine Go_iastore (q := 150) C kM_26 hin dX12_tests_149 rfl ?_
  refine Go_S (fun S149_4 e_S149_4 => ?_)
  have hw := hw S149_4 e_S149_4
  have hR := rcM e_S149_4 hR
  refine Go_aload_n (q := 151) C 0 rfl dX12_tests_150 rfl ?_
  refine Go_getA (q := 154) (k := 50) C ci12 iw_12 kM_0 (rM_0_50 hR) rfl wm_13_23 rfl dX12_tests_151 rfl ?_
  refine Go_iload_n (q := 155) C 1 rfl dX12_tests_154 rfl ?_
  refine Go_iconst (q := 156) (v := (0 : Int32)) C dX12_tests_155 rfl rfl ?_
  obtain ⟨hin, hw⟩ := hw
  refine Go_iastore (q := 157) C kM_27 hin dX12_tests_156 rfl ?_
  refine Go_S (fun S156_5 e_S156_5 => ?_)
  have hw := hw S156_5 e_S156_5
  have hR := rcM e_S156_5 hR
  refine Go_aload_n (q := 158) C 0 rfl dX12_tests_157 rfl ?_
  refine Go_getA (q := 161) (k := 51) C ci12 iw_12 kM_0 (rM_0_51 hR) rfl wm_14_0 rfl dX12_tests_158 rfl ?_
  refine Go_iload_n (q := 162) C 1 rfl dX12_tests_161 rfl ?_
  refine Go_bipush (q := 164) (v := (20 : Int32)) C dX12_tests_162 rfl rfl ?_
  obtain ⟨hin, hw⟩ := hw
  refine Go_iastore (q := 165) C kM_28 hin dX12_tests_164 rfl ?_
  refine Go_S (fun S164_6 e_S164_6 => ?_)
  have hw := hw S164_6 e_S164_6
  have hR := rcM e_S164_6 hR
  exact Go_vret C hQ hR hw dX12_tests_165
set_option maxRecDepth 100000 in
set_option maxHeartbeats 4000000 in
theorem g_X12_tests_135 {G : GC} (C : Cx G cX12_tests BIG RX12 3 none rm_X12_tests shM NM) {Q : St → Prop} (hQ : QV G RCM Q) (p0 : Int32) (t0 : Int32) {S : St} (hR : RCM S) (hw : w_X12_tests_135 p0 Q t0 S) : Go G 3 135 [.int t0] [(0, .ref (Gad G (0))), (1, .int p0)] S := by
  unfold w_X12_tests_135 at hw
  refine Go_istore_n (q := 136) (lv' := [(2, .int t0), (0, .ref (Gad G (0))), (1, .int p0)]) C rfl dX12_tests_135 (by decide) rfl rfl ?_
  refine Go_lvp [1, 2, 0] rfl ?_
  exact g_X12_tests_136 C hQ p0 _ hR hw
set_option maxRecDepth 100000 in
set_option maxHeartbeats 4000000 in
theorem g_X12_tests_130 {G : GC} (C : Cx G cX12_tests BIG RX12 3 none rm_X12_tests shM NM) {Q : St → Prop} (hQ : QV G RCM Q) (p0 : Int32) {S : St} (hR : RCM S) (hw : w_X12_tests_130 p0 Q S) : Go G 3 130 [] [(0, .ref (Gad G (0))), (1, .int p0)] S := by
  unfold w_X12_tests_130 at hw
  refine Go_iconst (q := 131) (v := (1 : Int32)) C dX12_tests_130 rfl rfl ?_
  refine Go_goto (q := 135) C dX12_tests_131 rfl ?_
  refine Go_lvp [0, 1] rfl ?_
  exact g_X12_tests_135 C hQ p0 _ hR hw
set_option maxRecDepth 100000 in
set_option maxHeartbeats 4000000 in
theorem g_X12_tests_106 {G : GC} (C : Cx G cX12_tests BIG RX12 3 none rm_X12_tests shM NM) {Q : St → Prop} (hQ : QV G RCM Q) (p0 : Int32) (v2 : Int32) {S : St} (hR : RCM S) (hw : w_X12_tests_106 p0 Q v2 S) : Go G 3 106 [] [(0, .ref (Gad G (0))), (1, .int p0), (2, .int v2)] S := by
  unfold w_X12_tests_106 at hw
  refine Go_aload_n (q := 107) C 0 rfl dX12_tests_106 rfl ?_
  refine Go_getA (q := 110) (k := 47) C ci12 iw_12 kM_0 (rM_0_47 hR) rfl wm_13_20 rfl dX12_tests_107 rfl ?_
  refine Go_iload_n (q := 111) C 1 rfl dX12_tests_110 rfl ?_
  obtain ⟨hin, hw⟩ := hw
  refine Go_iaload (q := 112) C kM_24 hin dX12_tests_111 rfl ?_
  refine Go_bipush (q := 114) (v := (27 : Int32)) C dX12_tests_112 rfl rfl ?_
  refine Go_icmp_ne (t := 136) (q := 117) C hw dX12_tests_114 rfl rfl (fun hw => ?_) (fun hw => ?_)
  · refine Go_aload_n (q := 118) C 0 rfl dX12_tests_117 rfl ?_
    refine Go_getA (q := 121) (k := 46) C ci12 iw_12 kM_0 (rM_0_46 hR) rfl wm_13_19 rfl dX12_tests_118 rfl ?_
    refine Go_iload_n (q := 122) C 1 rfl dX12_tests_121 rfl ?_
    obtain ⟨hin, hw⟩ := hw
    refine Go_iaload (q := 123) C kM_23 hin dX12_tests_122 rfl ?_
    refine Go_if_ne (t := 130) (q := 126) C hw dX12_tests_123 rfl rfl (fun hw => ?_) (fun hw => ?_)
    · refine Go_iload_n (q := 127) C 2 rfl dX12_tests_126 rfl ?_
      refine Go_if_eq (t := 134) (q := 130) C hw dX12_tests_127 rfl rfl (fun hw => ?_) (fun hw => ?_)
      · refine Go_iconst (q := 135) (v := (0 : Int32)) C dX12_tests_134 rfl rfl ?_
        refine Go_lvp [0, 1] rfl ?_
        exact g_X12_tests_135 C hQ p0 _ hR hw
      · refine Go_lvp [0, 1] rfl ?_
        exact g_X12_tests_130 C hQ p0 hR hw
    · refine Go_lvp [0, 1] rfl ?_
      exact g_X12_tests_130 C hQ p0 hR hw
  · refine Go_lvp [0, 1, 2] rfl ?_
    exact g_X12_tests_136 C hQ p0 _ hR hw
set_option maxRecDepth 100000 in
set_option maxHeartbeats 4000000 in
theorem g_X12_tests_105 {G : GC} (C : Cx G cX12_tests BIG RX12 3 none rm_X12_tests shM NM) {Q : St → Prop} (hQ : QV G RCM Q) (p0 : Int32) (t0 : Int32) {S : St} (hR : RCM S) (hw : w_X12_tests_105 p0 Q t0 S) : Go G 3 105 [.int t0] [(0, .ref (Gad G (0))), (1, .int p0)] S := by
  unfold w_X12_tests_105 at hw
  refine Go_istore_n (q := 106) (lv' := [(2, .int t0), (0, .ref (Gad G (0))), (1, .int p0)]) C rfl dX12_tests_105 (by decide) rfl rfl ?_
  refine Go_lvp [1, 2, 0] rfl ?_
  exact g_X12_tests_106 C hQ p0 _ hR hw
set_option maxRecDepth 100000 in
set_option maxHeartbeats 4000000 in
theorem g_X12_tests_104 {G : GC} (C : Cx G cX12_tests BIG RX12 3 none rm_X12_tests shM NM) {Q : St → Prop} (hQ : QV G RCM Q) (p0 : Int32) {S : St} (hR : RCM S) (hw : w_X12_tests_104 p0 Q S) : Go G 3 104 [] [(0, .ref (Gad G (0))), (1, .int p0)] S := by
  unfold w_X12_tests_104 at hw
  refine Go_iconst (q := 105) (v := (0 : Int32)) C dX12_tests_104 rfl rfl ?_
  refine Go_lvp [0, 1] rfl ?_
  exact g_X12_tests_105 C hQ p0 _ hR hw
set_option maxRecDepth 100000 in
set_option maxHeartbeats 4000000 in
theorem g_X12_tests_76 {G : GC} (C : Cx G cX12_tests BIG RX12 3 none rm_X12_tests shM NM) {Q : St → Prop} (hQ : QV G RCM Q) (p0 : Int32) (v2 : Int32) {S : St} (hR : RCM S) (hw : w_X12_tests_76 p0 Q v2 S) : Go G 3 76 [] [(0, .ref (Gad G (0))), (1, .int p0), (2, .int v2)] S := by
  unfold w_X12_tests_76 at hw
  refine Go_aload_n (q := 77) C 0 rfl dX12_tests_76 rfl ?_
  refine Go_getA (q := 80) (k := 47) C ci12 iw_12 kM_0 (rM_0_47 hR) rfl wm_13_20 rfl dX12_tests_77 rfl ?_
  refine Go_iload_n (q := 81) C 1 rfl dX12_tests_80 rfl ?_
  obtain ⟨hin, hw⟩ := hw
  refine Go_iaload (q := 82) C kM_24 hin dX12_tests_81 rfl ?_
  refine Go_bipush (q := 84) (v := (26 : Int32)) C dX12_tests_82 rfl rfl ?_
  refine Go_icmp_ne (t := 106) (q := 87) C hw dX12_tests_84 rfl rfl (fun hw => ?_) (fun hw => ?_)
  · refine Go_aload_n (q := 88) C 0 rfl dX12_tests_87 rfl ?_
    refine Go_getA (q := 91) (k := 46) C ci12 iw_12 kM_0 (rM_0_46 hR) rfl wm_13_19 rfl dX12_tests_88 rfl ?_
    refine Go_iload_n (q := 92) C 1 rfl dX12_tests_91 rfl ?_
    obtain ⟨hin, hw⟩ := hw
    refine Go_iaload (q := 93) C kM_23 hin dX12_tests_92 rfl ?_
    refine Go_if_eq (t := 104) (q := 96) C hw dX12_tests_93 rfl rfl (fun hw => ?_) (fun hw => ?_)
    · refine Go_lvp [0, 1] rfl ?_
      exact g_X12_tests_104 C hQ p0 hR hw
    · refine Go_iload_n (q := 97) C 2 rfl dX12_tests_96 rfl ?_
      refine Go_if_eq (t := 104) (q := 100) C hw dX12_tests_97 rfl rfl (fun hw => ?_) (fun hw => ?_)
      · refine Go_lvp [0, 1] rfl ?_
        exact g_X12_tests_104 C hQ p0 hR hw
      · refine Go_iconst (q := 101) (v := (1 : Int32)) C dX12_tests_100 rfl rfl ?_
        refine Go_goto (q := 105) C dX12_tests_101 rfl ?_
        refine Go_lvp [0, 1] rfl ?_
        exact g_X12_tests_105 C hQ p0 _ hR hw
  · refine Go_lvp [0, 1, 2] rfl ?_
    exact g_X12_tests_106 C hQ p0 _ hR hw
set_option maxRecDepth 100000 in
set_option maxHeartbeats 4000000 in
theorem g_X12_tests_75 {G : GC} (C : Cx G cX12_tests BIG RX12 3 none rm_X12_tests shM NM) {Q : St → Prop} (hQ : QV G RCM Q) (p0 : Int32) (t0 : Int32) {S : St} (hR : RCM S) (hw : w_X12_tests_75 p0 Q t0 S) : Go G 3 75 [.int t0] [(0, .ref (Gad G (0))), (1, .int p0)] S := by
  unfold w_X12_tests_75 at hw
  refine Go_istore_n (q := 76) (lv' := [(2, .int t0), (0, .ref (Gad G (0))), (1, .int p0)]) C rfl dX12_tests_75 (by decide) rfl rfl ?_
  refine Go_lvp [1, 2, 0] rfl ?_
  exact g_X12_tests_76 C hQ p0 _ hR hw
set_option maxRecDepth 100000 in
set_option maxHeartbeats 4000000 in
theorem g_X12_tests_44 {G : GC} (C : Cx G cX12_tests BIG RX12 3 none rm_X12_tests shM NM) {Q : St → Prop} (hQ : QV G RCM Q) (p0 : Int32) (v2 : Int32) {S : St} (hR : RCM S) (hw : w_X12_tests_44 p0 Q v2 S) : Go G 3 44 [] [(0, .ref (Gad G (0))), (1, .int p0), (2, .int v2)] S := by
  unfold w_X12_tests_44 at hw
  refine Go_aload_n (q := 45) C 0 rfl dX12_tests_44 rfl ?_
  refine Go_getA (q := 48) (k := 49) C ci12 iw_12 kM_0 (rM_0_49 hR) rfl wm_13_22 rfl dX12_tests_45 rfl ?_
  refine Go_iload_n (q := 49) C 1 rfl dX12_tests_48 rfl ?_
  obtain ⟨hin, hw⟩ := hw
  refine Go_iaload (q := 50) C kM_26 hin dX12_tests_49 rfl ?_
  refine Go_bipush (q := 52) (v := (25 : Int32)) C dX12_tests_50 rfl rfl ?_
  refine Go_icmp_ne (t := 76) (q := 55) C hw dX12_tests_52 rfl rfl (fun hw => ?_) (fun hw => ?_)
  · refine Go_aload_n (q := 56) C 0 rfl dX12_tests_55 rfl ?_
    refine Go_getA (q := 59) (k := 48) C ci12 iw_12 kM_0 (rM_0_48 hR) rfl wm_13_21 rfl dX12_tests_56 rfl ?_
    refine Go_iload_n (q := 60) C 1 rfl dX12_tests_59 rfl ?_
    obtain ⟨hin, hw⟩ := hw
    refine Go_iaload (q := 61) C kM_25 hin dX12_tests_60 rfl ?_
    refine Go_aload_n (q := 62) C 0 rfl dX12_tests_61 rfl ?_
    refine Go_getA (q := 65) (k := 50) C ci12 iw_12 kM_0 (rM_0_50 hR) rfl wm_13_23 rfl dX12_tests_62 rfl ?_
    refine Go_iload_n (q := 66) C 1 rfl dX12_tests_65 rfl ?_
    obtain ⟨hin, hw⟩ := hw
    refine Go_iaload (q := 67) C kM_27 hin dX12_tests_66 rfl ?_
    refine Go_icmp_ne (t := 74) (q := 70) C hw dX12_tests_67 rfl rfl (fun hw => ?_) (fun hw => ?_)
    · refine Go_iconst (q := 71) (v := (1 : Int32)) C dX12_tests_70 rfl rfl ?_
      refine Go_goto (q := 75) C dX12_tests_71 rfl ?_
      refine Go_lvp [0, 1] rfl ?_
      exact g_X12_tests_75 C hQ p0 _ hR hw
    · refine Go_iconst (q := 75) (v := (0 : Int32)) C dX12_tests_74 rfl rfl ?_
      refine Go_lvp [0, 1] rfl ?_
      exact g_X12_tests_75 C hQ p0 _ hR hw
  · refine Go_lvp [0, 1, 2] rfl ?_
    exact g_X12_tests_76 C hQ p0 _ hR hw
set_option maxRecDepth 100000 in
set_option maxHeartbeats 4000000 in
theorem g_X12_tests_43 {G : GC} (C : Cx G cX12_tests BIG RX12 3 none rm_X12_tests shM NM) {Q : St → Prop} (hQ : QV G RCM Q) (p0 : Int32) (t0 : Int32) {S : St} (hR : RCM S) (hw : w_X12_tests_43 p0 Q t0 S) : Go G 3 43 [.int t0] [(0, .ref (Gad G (0))), (1, .int p0)] S := by
  unfold w_X12_tests_43 at hw
  refine Go_istore_n (q := 44) (lv' := [(2, .int t0), (0, .ref (Gad G (0))), (1, .int p0)]) C rfl dX12_tests_43 (by decide) rfl rfl ?_
  refine Go_lvp [1, 2, 0] rfl ?_
  exact g_X12_tests_44 C hQ p0 _ hR hw
set_option maxRecDepth 100000 in
set_option maxHeartbeats 4000000 in
theorem c_X12_tests (l : Launch) {p0 : Int32} {S : St} {Q : St → Prop} (hR : RCM S) (hw : w_X12_tests p0 S Q) : MetV l yX12_tests (wB yX12_tests cX12_tests 3 none) rm_X12_tests shM NM RCM (fun ad => [.ref (ad (0)), .int p0]) S Q := by
  refine MetV_of (cc := cX12_tests) (maxL := 3) (ret := none) (plainFor_of_name (by decide)) (fun _ => Nat.le_of_ble_eq_true rfl) (fun G C hl hQ => ?_)
  subst hl
  have C : Cx G cX12_tests BIG RX12 3 none rm_X12_tests shM NM := C
  show Go G 3 0 [] [(0, .ref (Gad G (0))), (1, .int p0)] S
  unfold w_X12_tests at hw
  refine Go_aload_n (q := 1) C 0 rfl dX12_tests_0 rfl ?_
  refine Go_iload_n (q := 2) C 1 rfl dX12_tests_1 rfl ?_
  refine Go_callV_V (av := (fun ad => [.int p0])) (st := []) (C := C) (hM := c_X12_sums (Gl G)  hR hw) (hlk := wm_31_1) (hini := wm_1_5) (hins := wm_31_2) (hsel := wm_31_3) (hcode := wm_31_4) (ho := kM_0) (hci := rfl) (hc13 := by decide) (n := 1) (hd := by decide +kernel) (hr0 := ⟨rfl, rfl⟩) (hroom := ⟨by first | decide | (dsimp only; omega), by first | decide | (dsimp only; omega)⟩) (hlen := rfl) (hst := rfl) (hW := Nat.le_of_ble_eq_true rfl) (hdg := dX12_tests_2) (q := 5) (hq := rfl) (fun S2_1 hw hR => ?_)
  refine Go_aload_n (q := 6) C 0 rfl dX12_tests_5 rfl ?_
  refine Go_getA (q := 9) (k := 50) C ci12 iw_12 kM_0 (rM_0_50 hR) rfl wm_13_23 rfl dX12_tests_6 rfl ?_
  refine Go_iload_n (q := 10) C 1 rfl dX12_tests_9 rfl ?_
  obtain ⟨hin, hw⟩ := hw
  refine Go_iaload (q := 11) C kM_27 hin dX12_tests_10 rfl ?_
  refine Go_topi (fun x11_2 e_x11_2 => ?_)
  have hw := hw x11_2 e_x11_2
  refine Go_istore_n (q := 12) (lv' := [(2, .int x11_2), (0, .ref (Gad G (0))), (1, .int p0)]) C rfl dX12_tests_11 (by decide) rfl rfl ?_
  refine Go_aload_n (q := 13) C 1 rfl dX12_tests_12 rfl ?_
  refine Go_getA (q := 16) (k := 49) C ci12 iw_12 kM_0 (rM_0_49 hR) rfl wm_13_22 rfl dX12_tests_13 rfl ?_
  refine Go_iload_n (q := 17) C 2 rfl dX12_tests_16 rfl ?_
  obtain ⟨hin, hw⟩ := hw
  refine Go_iaload (q := 18) C kM_26 hin dX12_tests_17 rfl ?_
  refine Go_bipush (q := 20) (v := (24 : Int32)) C dX12_tests_18 rfl rfl ?_
  refine Go_icmp_ne (t := 44) (q := 23) C hw dX12_tests_20 rfl rfl (fun hw => ?_) (fun hw => ?_)
  · refine Go_aload_n (q := 24) C 1 rfl dX12_tests_23 rfl ?_
    refine Go_getA (q := 27) (k := 48) C ci12 iw_12 kM_0 (rM_0_48 hR) rfl wm_13_21 rfl dX12_tests_24 rfl ?_
    refine Go_iload_n (q := 28) C 2 rfl dX12_tests_27 rfl ?_
    obtain ⟨hin, hw⟩ := hw
    refine Go_iaload (q := 29) C kM_25 hin dX12_tests_28 rfl ?_
    refine Go_aload_n (q := 30) C 1 rfl dX12_tests_29 rfl ?_
    refine Go_getA (q := 33) (k := 50) C ci12 iw_12 kM_0 (rM_0_50 hR) rfl wm_13_23 rfl dX12_tests_30 rfl ?_
    refine Go_iload_n (q := 34) C 2 rfl dX12_tests_33 rfl ?_
    obtain ⟨hin, hw⟩ := hw
    refine Go_iaload (q := 35) C kM_27 hin dX12_tests_34 rfl ?_
    refine Go_icmp_ge (t := 42) (q := 38) C hw dX12_tests_35 rfl rfl (fun hw => ?_) (fun hw => ?_)
    · refine Go_iconst (q := 43) (v := (0 : Int32)) C dX12_tests_42 rfl rfl ?_
      refine Go_lvp [1, 2] rfl ?_
      exact g_X12_tests_43 C hQ p0 _ hR hw
    · refine Go_iconst (q := 39) (v := (1 : Int32)) C dX12_tests_38 rfl rfl ?_
      refine Go_goto (q := 43) C dX12_tests_39 rfl ?_
      refine Go_lvp [1, 2] rfl ?_
      exact g_X12_tests_43 C hQ p0 _ hR hw
  · refine Go_lvp [1, 2, 0] rfl ?_
    exact g_X12_tests_44 C hQ p0 _ hR hw
-- X12_worked
abbrev rm_X12_worked : Room := { frames := 2, cells := 0, slots := 0, locals := 43 }
set_option maxRecDepth 100000 in
set_option maxHeartbeats 4000000 in
theorem g_X12_worked_66 {G : GC} (C : Cx G cX12_worked BIG RX12 6 (some .int) rm_X12_worked shM NM) {Q : Int32 → St → Prop} (hQ : QI G RCM Q) (p0 : Int32) (v2 : Int32) (v3 : Int32) (t0 : Int32) (t1 : Int32) {k14 : Int32 → Int32 → St → Prop} (hk14 : ∀ (v2 : Int32) (v3 : Int32) (S : St), RCM S → k14 v2 v3 S → Go G 6 14 [] [(0, .ref (Gad G (0))), (1, .int p0), (2, .int v2), (3, .int v3)] S) {S : St} (hR : RCM S) (hw : w_X12_worked_66 p0 k14 v2 v3 t0 t1 S) : Go G 6 66 [.int t0, .int t1, .ref (Gad G (31))] [(0, .ref (Gad G (0))), (1, .int p0), (2, .int v2), (3, .int v3)] S := by
  unfold w_X12_worked_66 at hw
  obtain ⟨hin, hw⟩ := hw
  refine Go_iastore (q := 67) C kM_31 hin dX12_worked_66 rfl ?_
  refine Go_S (fun S66_6 e_S66_6 => ?_)
  have hw := hw S66_6 e_S66_6
  have hR := rcM e_S66_6 hR
  refine Go_aload_n (q := 68) C 0 rfl dX12_worked_67 rfl ?_
  refine Go_iload_n (q := 69) C 2 rfl dX12_worked_68 rfl ?_
  refine Go_callV_V (av := (fun ad => [.int v2])) (st := []) (C := C) (hM := c_X12_opens (Gl G) hR hw) (hlk := wm_30_21) (hini := wm_1_5) (hins := wm_30_22) (hsel := wm_30_23) (hcode := wm_31_0) (ho := kM_0) (hci := rfl) (hc13 := by decide) (n := 1) (hd := by decide +kernel) (hr0 := ⟨rfl, rfl⟩) (hroom := ⟨by first | decide | (dsimp only; omega), by first | decide | (dsimp only; omega)⟩) (hlen := rfl) (hst := rfl) (hW := Nat.le_of_ble_eq_true rfl) (hdg := dX12_worked_69) (q := 72) (hq := rfl) (fun S69_7 hw hR => ?_)
  refine Go_goto (q := 329) C dX12_worked_72 rfl ?_
  refine Go_iinc2 (q := 332) (kp := 3) (cst := (1 : Int32)) C dX12_worked_329 rfl rfl (by decide) rfl (fun x329_8 e_x329_8 => ?_)
  have hw := hw x329_8 e_x329_8
  refine Go_lve (lv' := [(3, .int x329_8), (0, .ref (Gad G (0))), (1, .int p0), (2, .int v2)]) rfl ?_
  refine Go_goto (q := 14) C dX12_worked_332 rfl ?_
  refine Go_lvp [1, 2, 3, 0] rfl ?_
  exact hk14 _ _ _ hR hw
set_option maxRecDepth 100000 in
set_option maxHeartbeats 4000000 in
theorem g_X12_worked_46 {G : GC} (C : Cx G cX12_worked BIG RX12 6 (some .int) rm_X12_worked shM NM) {Q : Int32 → St → Prop} (hQ : QI G RCM Q) (p0 : Int32) (v2 : Int32) (v3 : Int32) (v4 : Int32) {k14 : Int32 → Int32 → St → Prop} (hk14 : ∀ (v2 : Int32) (v3 : Int32) (S : St), RCM S → k14 v2 v3 S → Go G 6 14 [] [(0, .ref (Gad G (0))), (1, .int p0), (2, .int v2), (3, .int v3)] S) {S : St} (hR : RCM S) (hw : w_X12_worked_46 p0 k14 v2 v3 v4 S) : Go G 6 46 [] [(0, .ref (Gad G (0))), (1, .int p0), (2, .int v2), (3, .int v3), (4, .int v4)] S := by
  unfold w_X12_worked_46 at hw
  refine Go_iinc2 (q := 49) (kp := 2) (cst := (1 : Int32)) C dX12_worked_46 rfl rfl (by decide) rfl (fun x46_5 e_x46_5 => ?_)
  have hw := hw x46_5 e_x46_5
  refine Go_lve (lv' := [(2, .int x46_5), (0, .ref (Gad G (0))), (1, .int p0), (3, .int v3), (4, .int v4)]) rfl ?_
  refine Go_aload_n (q := 50) C 1 rfl dX12_worked_49 rfl ?_
  refine Go_getA (q := 53) (k := 54) C ci12 iw_12 kM_0 (rM_0_54 hR) rfl wm_14_3 rfl dX12_worked_50 rfl ?_
  refine Go_iload_n (q := 54) C 0 rfl dX12_worked_53 rfl ?_
  refine Go_iload (q := 56) C 4 rfl dX12_worked_54 rfl ?_
  refine Go_bipush (q := 58) (v := (30 : Int32)) C dX12_worked_56 rfl rfl ?_
  refine Go_icmp_ne (t := 65) (q := 61) C hw dX12_worked_58 rfl rfl (fun hw => ?_) (fun hw => ?_)
  · refine Go_iconst (q := 62) (v := (1 : Int32)) C dX12_worked_61 rfl rfl ?_
    refine Go_goto (q := 66) C dX12_worked_62 rfl ?_
    refine Go_lvp [1, 2, 0, 3] rfl ?_
    exact g_X12_worked_66 C hQ p0 _ _ _ _ hk14 hR hw
  · refine Go_iconst (q := 66) (v := (0 : Int32)) C dX12_worked_65 rfl rfl ?_
    refine Go_lvp [1, 2, 0, 3] rfl ?_
    exact g_X12_worked_66 C hQ p0 _ _ _ _ hk14 hR hw
set_option maxRecDepth 100000 in
set_option maxHeartbeats 4000000 in
theorem g_X12_worked_89 {G : GC} (C : Cx G cX12_worked BIG RX12 6 (some .int) rm_X12_worked shM NM) {Q : Int32 → St → Prop} (hQ : QI G RCM Q) (p0 : Int32) (v2 : Int32) (v3 : Int32) (v4 : Int32) {k14 : Int32 → Int32 → St → Prop} (hk14 : ∀ (v2 : Int32) (v3 : Int32) (S : St), RCM S → k14 v2 v3 S → Go G 6 14 [] [(0, .ref (Gad G (0))), (1, .int p0), (2, .int v2), (3, .int v3)] S) {S : St} (hR : RCM S) (hw : w_X12_worked_89 p0 k14 v2 v3 v4 S) : Go G 6 89 [] [(0, .ref (Gad G (0))), (1, .int p0), (2, .int v2), (3, .int v3), (4, .int v4)] S := by
  unfold w_X12_worked_89 at hw
  refine Go_aload_n (q := 90) C 0 rfl dX12_worked_89 rfl ?_
  refine Go_iload_n (q := 91) C 2 rfl dX12_worked_90 rfl ?_
  refine Go_callV_V (av := (fun ad => [.int v2])) (st := []) (C := C) (hM := c_X12_sums (Gl G) hR hw) (hlk := wm_31_1) (hini := wm_1_5) (hins := wm_31_2) (hsel := wm_31_3) (hcode := wm_31_4) (ho := kM_0) (hci := rfl) (hc13 := by decide) (n := 1) (hd := by decide +kernel) (hr0 := ⟨rfl, rfl⟩) (hroom := ⟨by first | decide | (dsimp only; omega), by first | decide | (dsimp only; omega)⟩) (hlen := rfl) (hst := rfl) (hW := Nat.le_of_ble_eq_true rfl) (hdg := dX12_worked_91) (q := 94) (hq := rfl) (fun S91_9 hw hR => ?_)
  refine Go_aload_n (q := 95) C 0 rfl dX12_worked_94 rfl ?_
  refine Go_getA (q := 98) (k := 51) C ci12 iw_12 kM_0 (rM_0_51 hR) rfl wm_14_0 rfl dX12_worked_95 rfl ?_
  refine Go_iload_n (q := 99) C 2 rfl dX12_worked_98 rfl ?_
  refine Go_iload (q := 101) C 4 rfl dX12_worked_99 rfl ?_
  obtain ⟨hin, hw⟩ := hw
  refine Go_iastore (q := 102) C kM_28 hin dX12_worked_101 rfl ?_
  refine Go_S (fun S101_10 e_S101_10 => ?_)
  have hw := hw S101_10 e_S101_10
  have hR := rcM e_S101_10 hR
  refine Go_goto (q := 329) C dX12_worked_102 rfl ?_
  refine Go_iinc2 (q := 332) (kp := 3) (cst := (1 : Int32)) C dX12_worked_329 rfl rfl (by decide) rfl (fun x329_11 e_x329_11 => ?_)
  have hw := hw x329_11 e_x329_11
  refine Go_lve (lv' := [(3, .int x329_11), (0, .ref (Gad G (0))), (1, .int p0), (2, .int v2), (4, .int v4)]) rfl ?_
  refine Go_goto (q := 14) C dX12_worked_332 rfl ?_
  refine Go_lvp [1, 2, 3, 0] rfl ?_
  exact hk14 _ _ _ hR hw
set_option maxRecDepth 100000 in
set_option maxHeartbeats 4000000 in
theorem g_X12_worked_137 {G : GC} (C : Cx G cX12_worked BIG RX12 6 (some .int) rm_X12_worked shM NM) {Q : Int32 → St → Prop} (hQ : QI G RCM Q) (p0 : Int32) (v2 : Int32) (v3 : Int32) (v4 : Int32) {k14 : Int32 → Int32 → St → Prop} (hk14 : ∀ (v2 : Int32) (v3 : Int32) (S : St), RCM S → k14 v2 v3 S → Go G 6 14 [] [(0, .ref (Gad G (0))), (1, .int p0), (2, .int v2), (3, .int v3)] S) {S : St} (hR : RCM S) (hw : w_X12_worked_137 p0 k14 v2 v3 v4 S) : Go G 6 137 [] [(0, .ref (Gad G (0))), (1, .int p0), (2, .int v2), (3, .int v3), (4, .int v4)] S := by
  unfold w_X12_worked_137 at hw
  refine Go_aload_n (q := 138) C 0 rfl dX12_worked_137 rfl ?_
  refine Go_iload_n (q := 139) C 2 rfl dX12_worked_138 rfl ?_
  refine Go_callV_V (av := (fun ad => [.int v2])) (st := []) (C := C) (hM := c_X12_sums (Gl G) hR hw) (hlk := wm_31_1) (hini := wm_1_5) (hins := wm_31_2) (hsel := wm_31_3) (hcode := wm_31_4) (ho := kM_0) (hci := rfl) (hc13 := by decide) (n := 1) (hd := by decide +kernel) (hr0 := ⟨rfl, rfl⟩) (hroom := ⟨by first | decide | (dsimp only; omega), by first | decide | (dsimp only; omega)⟩) (hlen := rfl) (hst := rfl) (hW := Nat.le_of_ble_eq_true rfl) (hdg := dX12_worked_139) (q := 142) (hq := rfl) (fun S139_14 hw hR => ?_)
  refine Go_aload_n (q := 143) C 0 rfl dX12_worked_142 rfl ?_
  refine Go_getA (q := 146) (k := 48) C ci12 iw_12 kM_0 (rM_0_48 hR) rfl wm_13_21 rfl dX12_worked_143 rfl ?_
  refine Go_iload_n (q := 147) C 2 rfl dX12_worked_146 rfl ?_
  refine Go_aload_n (q := 148) C 0 rfl dX12_worked_147 rfl ?_
  refine Go_getA (q := 151) (k := 50) C ci12 iw_12 kM_0 (rM_0_50 hR) rfl wm_13_23 rfl dX12_worked_148 rfl ?_
  refine Go_iload_n (q := 152) C 2 rfl dX12_worked_151 rfl ?_
  obtain ⟨hin, hw⟩ := hw
  refine Go_iaload (q := 153) C kM_27 hin dX12_worked_152 rfl ?_
  obtain ⟨hin, hw⟩ := hw
  refine Go_iastore (q := 154) C kM_25 hin dX12_worked_153 rfl ?_
  refine Go_S (fun S153_15 e_S153_15 => ?_)
  have hw := hw S153_15 e_S153_15
  have hR := rcM e_S153_15 hR
  refine Go_aload_n (q := 155) C 0 rfl dX12_worked_154 rfl ?_
  refine Go_getA (q := 158) (k := 49) C ci12 iw_12 kM_0 (rM_0_49 hR) rfl wm_13_22 rfl dX12_worked_155 rfl ?_
  refine Go_iload_n (q := 159) C 2 rfl dX12_worked_158 rfl ?_
  refine Go_iload (q := 161) C 4 rfl dX12_worked_159 rfl ?_
  obtain ⟨hin, hw⟩ := hw
  refine Go_iastore (q := 162) C kM_26 hin dX12_worked_161 rfl ?_
  refine Go_S (fun S161_16 e_S161_16 => ?_)
  have hw := hw S161_16 e_S161_16
  have hR := rcM e_S161_16 hR
  refine Go_aload_n (q := 163) C 0 rfl dX12_worked_162 rfl ?_
  refine Go_getA (q := 166) (k := 50) C ci12 iw_12 kM_0 (rM_0_50 hR) rfl wm_13_23 rfl dX12_worked_163 rfl ?_
  refine Go_iload_n (q := 167) C 2 rfl dX12_worked_166 rfl ?_
  refine Go_iconst (q := 168) (v := (0 : Int32)) C dX12_worked_167 rfl rfl ?_
  obtain ⟨hin, hw⟩ := hw
  refine Go_iastore (q := 169) C kM_27 hin dX12_worked_168 rfl ?_
  refine Go_S (fun S168_17 e_S168_17 => ?_)
  have hw := hw S168_17 e_S168_17
  have hR := rcM e_S168_17 hR
  refine Go_aload_n (q := 170) C 0 rfl dX12_worked_169 rfl ?_
  refine Go_getA (q := 173) (k := 51) C ci12 iw_12 kM_0 (rM_0_51 hR) rfl wm_14_0 rfl dX12_worked_170 rfl ?_
  refine Go_iload_n (q := 174) C 2 rfl dX12_worked_173 rfl ?_
  refine Go_bipush (q := 176) (v := (20 : Int32)) C dX12_worked_174 rfl rfl ?_
  obtain ⟨hin, hw⟩ := hw
  refine Go_iastore (q := 177) C kM_28 hin dX12_worked_176 rfl ?_
  refine Go_S (fun S176_18 e_S176_18 => ?_)
  have hw := hw S176_18 e_S176_18
  have hR := rcM e_S176_18 hR
  refine Go_goto (q := 329) C dX12_worked_177 rfl ?_
  refine Go_iinc2 (q := 332) (kp := 3) (cst := (1 : Int32)) C dX12_worked_329 rfl rfl (by decide) rfl (fun x329_19 e_x329_19 => ?_)
  have hw := hw x329_19 e_x329_19
  refine Go_lve (lv' := [(3, .int x329_19), (0, .ref (Gad G (0))), (1, .int p0), (2, .int v2), (4, .int v4)]) rfl ?_
  refine Go_goto (q := 14) C dX12_worked_332 rfl ?_
  refine Go_lvp [1, 2, 3, 0] rfl ?_
  exact hk14 _ _ _ hR hw
set_option maxRecDepth 100000 in
set_option maxHeartbeats 4000000 in
theorem g_X12_worked_194 {G : GC} (C : Cx G cX12_worked BIG RX12 6 (some .int) rm_X12_worked shM NM) {Q : Int32 → St → Prop} (hQ : QI G RCM Q) (p0 : Int32) (v2 : Int32) (v3 : Int32) (v4 : Int32) {k14 : Int32 → Int32 → St → Prop} (hk14 : ∀ (v2 : Int32) (v3 : Int32) (S : St), RCM S → k14 v2 v3 S → Go G 6 14 [] [(0, .ref (Gad G (0))), (1, .int p0), (2, .int v2), (3, .int v3)] S) {S : St} (hR : RCM S) (hw : w_X12_worked_194 p0 k14 v2 v3 v4 S) : Go G 6 194 [] [(0, .ref (Gad G (0))), (1, .int p0), (2, .int v2), (3, .int v3), (4, .int v4)] S := by
  unfold w_X12_worked_194 at hw
  refine Go_aload_n (q := 195) C 0 rfl dX12_worked_194 rfl ?_
  refine Go_iload_n (q := 196) C 2 rfl dX12_worked_195 rfl ?_
  refine Go_callV_V (av := (fun ad => [.int v2])) (st := []) (C := C) (hM := c_X12_tests (Gl G) hR hw) (hlk := wm_31_5) (hini := wm_1_5) (hins := wm_31_6) (hsel := wm_31_7) (hcode := wm_31_8) (ho := kM_0) (hci := rfl) (hc13 := by decide) (n := 1) (hd := by decide +kernel) (hr0 := ⟨rfl, rfl⟩) (hroom := ⟨by first | decide | (dsimp only; omega), by first | decide | (dsimp only; omega)⟩) (hlen := rfl) (hst := rfl) (hW := Nat.le_of_ble_eq_true rfl) (hdg := dX12_worked_196) (q := 199) (hq := rfl) (fun S196_20 hw hR => ?_)
  refine Go_aload_n (q := 200) C 0 rfl dX12_worked_199 rfl ?_
  refine Go_getA (q := 203) (k := 47) C ci12 iw_12 kM_0 (rM_0_47 hR) rfl wm_13_20 rfl dX12_worked_200 rfl ?_
  refine Go_iload_n (q := 204) C 2 rfl dX12_worked_203 rfl ?_
  refine Go_iload (q := 206) C 4 rfl dX12_worked_204 rfl ?_
  obtain ⟨hin, hw⟩ := hw
  refine Go_iastore (q := 207) C kM_24 hin dX12_worked_206 rfl ?_
  refine Go_S (fun S206_21 e_S206_21 => ?_)
  have hw := hw S206_21 e_S206_21
  have hR := rcM e_S206_21 hR
  refine Go_goto (q := 329) C dX12_worked_207 rfl ?_
  refine Go_iinc2 (q := 332) (kp := 3) (cst := (1 : Int32)) C dX12_worked_329 rfl rfl (by decide) rfl (fun x329_22 e_x329_22 => ?_)
  have hw := hw x329_22 e_x329_22
  refine Go_lve (lv' := [(3, .int x329_22), (0, .ref (Gad G (0))), (1, .int p0), (2, .int v2), (4, .int v4)]) rfl ?_
  refine Go_goto (q := 14) C dX12_worked_332 rfl ?_
  refine Go_lvp [1, 2, 3, 0] rfl ?_
  exact hk14 _ _ _ hR hw
set_option maxRecDepth 100000 in
set_option maxHeartbeats 4000000 in
theorem g_X12_worked_328 {G : GC} (C : Cx G cX12_worked BIG RX12 6 (some .int) rm_X12_worked shM NM) {Q : Int32 → St → Prop} (hQ : QI G RCM Q) (p0 : Int32) (v2 : Int32) (v3 : Int32) (t0 : Int32) (t1 : Int32) {k14 : Int32 → Int32 → St → Prop} (hk14 : ∀ (v2 : Int32) (v3 : Int32) (S : St), RCM S → k14 v2 v3 S → Go G 6 14 [] [(0, .ref (Gad G (0))), (1, .int p0), (2, .int v2), (3, .int v3)] S) {S : St} (hR : RCM S) (hw : w_X12_worked_328 p0 k14 v2 v3 t0 t1 S) : Go G 6 328 [.int t0, .int t1, .ref (Gad G (29))] [(0, .ref (Gad G (0))), (1, .int p0), (2, .int v2), (3, .int v3)] S := by
  unfold w_X12_worked_328 at hw
  obtain ⟨hin, hw⟩ := hw
  refine Go_iastore (q := 329) C kM_29 hin dX12_worked_328 rfl ?_
  refine Go_S (fun S328_26 e_S328_26 => ?_)
  have hw := hw S328_26 e_S328_26
  have hR := rcM e_S328_26 hR
  refine Go_iinc2 (q := 332) (kp := 3) (cst := (1 : Int32)) C dX12_worked_329 rfl rfl (by decide) rfl (fun x329_27 e_x329_27 => ?_)
  have hw := hw x329_27 e_x329_27
  refine Go_lve (lv' := [(3, .int x329_27), (0, .ref (Gad G (0))), (1, .int p0), (2, .int v2)]) rfl ?_
  refine Go_goto (q := 14) C dX12_worked_332 rfl ?_
  refine Go_lvp [1, 2, 3, 0] rfl ?_
  exact hk14 _ _ _ hR hw
set_option maxRecDepth 100000 in
set_option maxHeartbeats 4000000 in
theorem g_X12_worked_300 {G : GC} (C : Cx G cX12_worked BIG RX12 6 (some .int) rm_X12_worked shM NM) {Q : Int32 → St → Prop} (hQ : QI G RCM Q) (p0 : Int32) (v2 : Int32) (v3 : Int32) (v5 : Int32) {k14 : Int32 → Int32 → St → Prop} (hk14 : ∀ (v2 : Int32) (v3 : Int32) (S : St), RCM S → k14 v2 v3 S → Go G 6 14 [] [(0, .ref (Gad G (0))), (1, .int p0), (2, .int v2), (3, .int v3)] S) {S : St} (hR : RCM S) (hw : w_X12_worked_300 p0 k14 v2 v3 v5 S) : Go G 6 300 [] [(0, .ref (Gad G (0))), (1, .int p0), (2, .int v2), (3, .int v3), (5, .int v5)] S := by
  unfold w_X12_worked_300 at hw
  refine Go_aload_n (q := 301) C 0 rfl dX12_worked_300 rfl ?_
  refine Go_getA (q := 304) (k := 52) C ci12 iw_12 kM_0 (rM_0_52 hR) rfl wm_14_1 rfl dX12_worked_301 rfl ?_
  refine Go_iload_n (q := 305) C 2 rfl dX12_worked_304 rfl ?_
  refine Go_aload_n (q := 306) C 0 rfl dX12_worked_305 rfl ?_
  refine Go_getA (q := 309) (k := 53) C ci12 iw_12 kM_0 (rM_0_53 hR) rfl wm_14_2 rfl dX12_worked_306 rfl ?_
  refine Go_iload_n (q := 310) C 2 rfl dX12_worked_309 rfl ?_
  obtain ⟨hin, hw⟩ := hw
  refine Go_iaload (q := 311) C kM_30 hin dX12_worked_310 rfl ?_
  refine Go_if_ne (t := 319) (q := 314) C hw dX12_worked_311 rfl rfl (fun hw => ?_) (fun hw => ?_)
  · refine Go_iload (q := 316) C 4 rfl dX12_worked_314 rfl ?_
    refine Go_goto (q := 328) C dX12_worked_316 rfl ?_
    refine Go_lvp [0, 1, 2, 3] rfl ?_
    exact g_X12_worked_328 C hQ p0 _ _ _ _ hk14 hR hw
  · refine Go_aload_n (q := 320) C 0 rfl dX12_worked_319 rfl ?_
    refine Go_getA (q := 323) (k := 52) C ci12 iw_12 kM_0 (rM_0_52 hR) rfl wm_14_1 rfl dX12_worked_320 rfl ?_
    refine Go_iload_n (q := 324) C 2 rfl dX12_worked_323 rfl ?_
    obtain ⟨hin, hw⟩ := hw
    refine Go_iaload (q := 325) C kM_29 hin dX12_worked_324 rfl ?_
    refine Go_iload (q := 327) C 4 rfl dX12_worked_325 rfl ?_
    refine Go_imul (q := 328) C dX12_worked_327 rfl ?_
    refine Go_lvp [0, 1, 2, 3] rfl ?_
    exact g_X12_worked_328 C hQ p0 _ _ _ _ hk14 hR hw
set_option maxRecDepth 100000 in
set_option maxHeartbeats 4000000 in
theorem g_X12_worked_292 {G : GC} (C : Cx G cX12_worked BIG RX12 6 (some .int) rm_X12_worked shM NM) {Q : Int32 → St → Prop} (hQ : QI G RCM Q) (p0 : Int32) (v2 : Int32) (v3 : Int32) (t0 : Int32) {k268 : Int32 → Int32 → St → Prop} (hk268 : ∀ (v2 : Int32) (v5 : Int32) (S : St), RCM S → k268 v2 v5 S → Go G 6 268 [] [(0, .ref (Gad G (0))), (1, .int p0), (2, .int v2), (3, .int v3), (5, .int v5)] S) {S : St} (hR : RCM S) (hw : w_X12_worked_292 p0 k268 v2 v3 t0 S) : Go G 6 292 [.int t0] [(0, .ref (Gad G (0))), (1, .int p0), (2, .int v2), (3, .int v3)] S := by
  unfold w_X12_worked_292 at hw
  refine Go_istore (q := 294) (lv' := [(5, .int t0), (0, .ref (Gad G (0))), (1, .int p0), (2, .int v2), (3, .int v3)]) C dX12_worked_292 (by decide) rfl rfl ?_
  refine Go_iinc2 (q := 297) (kp := 3) (cst := (-1 : Int32)) C dX12_worked_294 rfl rfl (by decide) rfl (fun x294_28 e_x294_28 => ?_)
  have hw := hw x294_28 e_x294_28
  refine Go_lve (lv' := [(2, .int x294_28), (5, .int t0), (0, .ref (Gad G (0))), (1, .int p0), (3, .int v3)]) rfl ?_
  refine Go_goto (q := 268) C dX12_worked_297 rfl ?_
  refine Go_lvp [2, 3, 0, 4, 1] rfl ?_
  exact hk268 _ _ _ hR hw
set_option maxRecDepth 100000 in
set_option maxHeartbeats 4000000 in
theorem g_X12_worked_268 {G : GC} (C : Cx G cX12_worked BIG RX12 6 (some .int) rm_X12_worked shM NM) {Q : Int32 → St → Prop} (hQ : QI G RCM Q) (p0 : Int32) (v3 : Int32) {k14 : Int32 → Int32 → St → Prop} (hk14 : ∀ (v2 : Int32) (v3 : Int32) (S : St), RCM S → k14 v2 v3 S → Go G 6 14 [] [(0, .ref (Gad G (0))), (1, .int p0), (2, .int v2), (3, .int v3)] S) (v2 : Int32) (v5 : Int32) {S : St} (hR : RCM S) (hw : w_X12_worked_268 p0 k14 v3 v2 v5 S) : Go G 6 268 [] [(0, .ref (Gad G (0))), (1, .int p0), (2, .int v2), (3, .int v3), (5, .int v5)] S := by
  obtain ⟨n, hw⟩ := hw
  induction n generalizing v2 v5 S with
  | zero => exact hw.elim
  | succ n ih =>
    have hw : b_X12_worked_268 p0 k14 v3 (lpn (fun _ _ _ => False) (b_X12_worked_268 p0 k14 v3) n) v2 v5 S := hw
    generalize lpn (fun _ _ _ => False) (b_X12_worked_268 p0 k14 v3) n = kf at hw ih
    have hk268 := fun (v2 : Int32) (v5 : Int32) (S : St) (hR : RCM S) hw => ih v2 v5 hR hw
    unfold b_X12_worked_268 at hw
    refine Go_iload_n (q := 269) C 2 rfl dX12_worked_268 rfl ?_
    refine Go_if_le (t := 300) (q := 272) C hw dX12_worked_269 rfl rfl (fun hw => ?_) (fun hw => ?_)
    · refine Go_lvp [0, 1, 2, 3, 4] rfl ?_
      exact g_X12_worked_300 C hQ p0 _ _ _ hk14 hR hw
    · refine Go_aload_n (q := 273) C 0 rfl dX12_worked_272 rfl ?_
      refine Go_getA (q := 276) (k := 54) C ci12 iw_12 kM_0 (rM_0_54 hR) rfl wm_14_3 rfl dX12_worked_273 rfl ?_
      refine Go_iload_n (q := 277) C 2 rfl dX12_worked_276 rfl ?_
      obtain ⟨hin, hw⟩ := hw
      refine Go_iaload (q := 278) C kM_31 hin dX12_worked_277 rfl ?_
      refine Go_iconst (q := 279) (v := (1 : Int32)) C dX12_worked_278 rfl rfl ?_
      refine Go_icmp_ne (t := 300) (q := 282) C hw dX12_worked_279 rfl rfl (fun hw => ?_) (fun hw => ?_)
      · refine Go_iload (q := 284) C 4 rfl dX12_worked_282 rfl ?_
        refine Go_if_ne (t := 291) (q := 287) C hw dX12_worked_284 rfl rfl (fun hw => ?_) (fun hw => ?_)
        · refine Go_iconst (q := 288) (v := (1 : Int32)) C dX12_worked_287 rfl rfl ?_
          refine Go_goto (q := 292) C dX12_worked_288 rfl ?_
          refine Go_lvp [0, 1, 2, 3] rfl ?_
          exact g_X12_worked_292 C hQ p0 _ _ _ hk268 hR hw
        · refine Go_iconst (q := 292) (v := (0 : Int32)) C dX12_worked_291 rfl rfl ?_
          refine Go_lvp [0, 1, 2, 3] rfl ?_
          exact g_X12_worked_292 C hQ p0 _ _ _ hk268 hR hw
      · refine Go_lvp [0, 1, 2, 3, 4] rfl ?_
        exact g_X12_worked_300 C hQ p0 _ _ _ hk14 hR hw
set_option maxRecDepth 100000 in
set_option maxHeartbeats 4000000 in
theorem g_X12_worked_243 {G : GC} (C : Cx G cX12_worked BIG RX12 6 (some .int) rm_X12_worked shM NM) {Q : Int32 → St → Prop} (hQ : QI G RCM Q) (p0 : Int32) (v2 : Int32) (v3 : Int32) (v4 : Int32) (t0 : Int32) {k14 : Int32 → Int32 → St → Prop} (hk14 : ∀ (v2 : Int32) (v3 : Int32) (S : St), RCM S → k14 v2 v3 S → Go G 6 14 [] [(0, .ref (Gad G (0))), (1, .int p0), (2, .int v2), (3, .int v3)] S) {S : St} (hR : RCM S) (hw : w_X12_worked_243 p0 k14 v2 v3 v4 t0 S) : Go G 6 243 [.int t0] [(0, .ref (Gad G (0))), (1, .int p0), (2, .int v2), (3, .int v3), (4, .int v4)] S := by
  unfold w_X12_worked_243 at hw
  refine Go_istore (q := 245) (lv' := [(5, .int t0), (0, .ref (Gad G (0))), (1, .int p0), (2, .int v2), (3, .int v3), (4, .int v4)]) C dX12_worked_243 (by decide) rfl rfl ?_
  refine Go_iload (q := 247) C 5 rfl dX12_worked_245 rfl ?_
  refine Go_bipush (q := 249) (v := (29 : Int32)) C dX12_worked_247 rfl rfl ?_
  refine Go_icmp_ne (t := 268) (q := 252) C hw dX12_worked_249 rfl rfl (fun hw => ?_) (fun hw => ?_)
  · refine Go_aload_n (q := 253) C 1 rfl dX12_worked_252 rfl ?_
    refine Go_iload_n (q := 254) C 3 rfl dX12_worked_253 rfl ?_
    refine Go_callV_V (av := (fun ad => [.int v2])) (st := []) (C := C) (hM := c_X12_tests (Gl G) hR hw) (hlk := wm_31_5) (hini := wm_1_5) (hins := wm_31_6) (hsel := wm_31_7) (hcode := wm_31_8) (ho := kM_0) (hci := rfl) (hc13 := by decide) (n := 1) (hd := by decide +kernel) (hr0 := ⟨rfl, rfl⟩) (hroom := ⟨by first | decide | (dsimp only; omega), by first | decide | (dsimp only; omega)⟩) (hlen := rfl) (hst := rfl) (hW := Nat.le_of_ble_eq_true rfl) (hdg := dX12_worked_254) (q := 257) (hq := rfl) (fun S254_23 hw hR => ?_)
    refine Go_aload_n (q := 258) C 1 rfl dX12_worked_257 rfl ?_
    refine Go_getA (q := 261) (k := 46) C ci12 iw_12 kM_0 (rM_0_46 hR) rfl wm_13_19 rfl dX12_worked_258 rfl ?_
    refine Go_iload_n (q := 262) C 3 rfl dX12_worked_261 rfl ?_
    obtain ⟨hin, hw⟩ := hw
    refine Go_iaload (q := 263) C kM_23 hin dX12_worked_262 rfl ?_
    refine Go_topi (fun x263_24 e_x263_24 => ?_)
    have hw := hw x263_24 e_x263_24
    refine Go_istore (q := 265) (lv' := [(5, .int x263_24), (0, .ref (Gad G (0))), (1, .int p0), (2, .int v2), (3, .int v3), (4, .int v4)]) C dX12_worked_263 (by decide) rfl rfl ?_
    refine Go_iinc2 (q := 268) (kp := 3) (cst := (-1 : Int32)) C dX12_worked_265 rfl rfl (by decide) rfl (fun x265_25 e_x265_25 => ?_)
    have hw := hw x265_25 e_x265_25
    refine Go_lve (lv' := [(2, .int x265_25), (5, .int x263_24), (0, .ref (Gad G (0))), (1, .int p0), (3, .int v3), (4, .int v4)]) rfl ?_
    refine Go_lvp [2, 3, 0, 4, 1] rfl ?_
    exact g_X12_worked_268 C hQ p0 _ hk14 _ _ hR hw
  · refine Go_lvp [1, 2, 3, 4, 0] rfl ?_
    exact g_X12_worked_268 C hQ p0 _ hk14 _ _ hR hw
set_option maxRecDepth 100000 in
set_option maxHeartbeats 4000000 in
theorem g_X12_worked_14 {G : GC} (C : Cx G cX12_worked BIG RX12 6 (some .int) rm_X12_worked shM NM) {Q : Int32 → St → Prop} (hQ : QI G RCM Q) (p0 : Int32) (v2 : Int32) (v3 : Int32) {S : St} (hR : RCM S) (hw : w_X12_worked_14 p0 Q v2 v3 S) : Go G 6 14 [] [(0, .ref (Gad G (0))), (1, .int p0), (2, .int v2), (3, .int v3)] S := by
  obtain ⟨n, hw⟩ := hw
  induction n generalizing v2 v3 S with
  | zero => exact hw.elim
  | succ n ih =>
    have hw : b_X12_worked_14 p0 Q (lpn (fun _ _ _ => False) (b_X12_worked_14 p0 Q) n) v2 v3 S := hw
    generalize lpn (fun _ _ _ => False) (b_X12_worked_14 p0 Q) n = kf at hw ih
    have hk14 := fun (v2 : Int32) (v3 : Int32) (S : St) (hR : RCM S) hw => ih v2 v3 hR hw
    unfold b_X12_worked_14 at hw
    refine Go_iload_n (q := 15) C 3 rfl dX12_worked_14 rfl ?_
    refine Go_aload_n (q := 16) C 0 rfl dX12_worked_15 rfl ?_
    refine Go_getA (q := 19) (k := 41) C ci12 iw_12 kM_0 (rM_0_41 hR) rfl wm_13_15 rfl dX12_worked_16 rfl ?_
    refine Go_iload_n (q := 20) C 1 rfl dX12_worked_19 rfl ?_
    obtain ⟨hin, hw⟩ := hw
    refine Go_iaload (q := 21) C kM_19 hin dX12_worked_20 rfl ?_
    refine Go_icmp_ge (t := 335) (q := 24) C hw dX12_worked_21 rfl rfl (fun hw => ?_) (fun hw => ?_)
    · refine Go_aload_n (q := 336) C 0 rfl dX12_worked_335 rfl ?_
      refine Go_iconst (q := 337) (v := (0 : Int32)) C dX12_worked_336 rfl rfl ?_
      refine Go_callV_V (av := (fun ad => [.int (0 : Int32)])) (st := []) (C := C) (hM := c_X12_tests (Gl G) hR hw) (hlk := wm_31_5) (hini := wm_1_5) (hins := wm_31_6) (hsel := wm_31_7) (hcode := wm_31_8) (ho := kM_0) (hci := rfl) (hc13 := by decide) (n := 1) (hd := by decide +kernel) (hr0 := ⟨rfl, rfl⟩) (hroom := ⟨by first | decide | (dsimp only; omega), by first | decide | (dsimp only; omega)⟩) (hlen := rfl) (hst := rfl) (hW := Nat.le_of_ble_eq_true rfl) (hdg := dX12_worked_337) (q := 340) (hq := rfl) (fun S337_3 hw hR => ?_)
      refine Go_aload_n (q := 341) C 0 rfl dX12_worked_340 rfl ?_
      refine Go_getA (q := 344) (k := 46) C ci12 iw_12 kM_0 (rM_0_46 hR) rfl wm_13_19 rfl dX12_worked_341 rfl ?_
      refine Go_iconst (q := 345) (v := (0 : Int32)) C dX12_worked_344 rfl rfl ?_
      refine Go_iaload (q := 346) C kM_23 (by unfold vp_in; decide) dX12_worked_345 rfl ?_
      exact Go_iret C hQ hR hw dX12_worked_346
    · refine Go_aload_n (q := 25) C 0 rfl dX12_worked_24 rfl ?_
      refine Go_getA (q := 28) (k := 42) C ci12 iw_12 kM_0 (rM_0_42 hR) rfl wm_13_16 rfl dX12_worked_25 rfl ?_
      refine Go_iload_n (q := 29) C 3 rfl dX12_worked_28 rfl ?_
      obtain ⟨hin, hw⟩ := hw
      refine Go_iaload (q := 30) C kM_20 hin dX12_worked_29 rfl ?_
      refine Go_topi (fun x30_4 e_x30_4 => ?_)
      have hw := hw x30_4 e_x30_4
      refine Go_istore (q := 32) (lv' := [(4, .int x30_4), (0, .ref (Gad G (0))), (1, .int p0), (2, .int v2), (3, .int v3)]) C dX12_worked_30 (by decide) rfl rfl ?_
      refine Go_iload (q := 34) C 0 rfl dX12_worked_32 rfl ?_
      refine Go_bipush (q := 36) (v := (28 : Int32)) C dX12_worked_34 rfl rfl ?_
      refine Go_icmp_eq (t := 46) (q := 39) C hw dX12_worked_36 rfl rfl (fun hw => ?_) (fun hw => ?_)
      · refine Go_lvp [1, 2, 3, 4, 0] rfl ?_
        exact g_X12_worked_46 C hQ p0 _ _ _ hk14 hR hw
      · refine Go_iload (q := 41) C 0 rfl dX12_worked_39 rfl ?_
        refine Go_bipush (q := 43) (v := (30 : Int32)) C dX12_worked_41 rfl rfl ?_
        refine Go_icmp_ne (t := 75) (q := 46) C hw dX12_worked_43 rfl rfl (fun hw => ?_) (fun hw => ?_)
        · refine Go_lvp [1, 2, 3, 4, 0] rfl ?_
          exact g_X12_worked_46 C hQ p0 _ _ _ hk14 hR hw
        · refine Go_iload (q := 77) C 0 rfl dX12_worked_75 rfl ?_
          refine Go_bipush (q := 79) (v := (20 : Int32)) C dX12_worked_77 rfl rfl ?_
          refine Go_icmp_eq (t := 89) (q := 82) C hw dX12_worked_79 rfl rfl (fun hw => ?_) (fun hw => ?_)
          · refine Go_lvp [1, 2, 3, 4, 0] rfl ?_
            exact g_X12_worked_89 C hQ p0 _ _ _ hk14 hR hw
          · refine Go_iload (q := 84) C 0 rfl dX12_worked_82 rfl ?_
            refine Go_bipush (q := 86) (v := (21 : Int32)) C dX12_worked_84 rfl rfl ?_
            refine Go_icmp_ne (t := 105) (q := 89) C hw dX12_worked_86 rfl rfl (fun hw => ?_) (fun hw => ?_)
            · refine Go_lvp [1, 2, 3, 4, 0] rfl ?_
              exact g_X12_worked_89 C hQ p0 _ _ _ hk14 hR hw
            · refine Go_iload (q := 107) C 0 rfl dX12_worked_105 rfl ?_
              refine Go_bipush (q := 109) (v := (22 : Int32)) C dX12_worked_107 rfl rfl ?_
              refine Go_icmp_ne (t := 123) (q := 112) C hw dX12_worked_109 rfl rfl (fun hw => ?_) (fun hw => ?_)
              · refine Go_aload_n (q := 113) C 1 rfl dX12_worked_112 rfl ?_
                refine Go_getA (q := 116) (k := 53) C ci12 iw_12 kM_0 (rM_0_53 hR) rfl wm_14_2 rfl dX12_worked_113 rfl ?_
                refine Go_iload_n (q := 117) C 3 rfl dX12_worked_116 rfl ?_
                refine Go_iload (q := 119) C 0 rfl dX12_worked_117 rfl ?_
                obtain ⟨hin, hw⟩ := hw
                refine Go_iastore (q := 120) C kM_30 hin dX12_worked_119 rfl ?_
                refine Go_S (fun S119_12 e_S119_12 => ?_)
                have hw := hw S119_12 e_S119_12
                have hR := rcM e_S119_12 hR
                refine Go_goto (q := 329) C dX12_worked_120 rfl ?_
                refine Go_iinc2 (q := 332) (kp := 4) (cst := (1 : Int32)) C dX12_worked_329 rfl rfl (by decide) rfl (fun x329_13 e_x329_13 => ?_)
                have hw := hw x329_13 e_x329_13
                refine Go_lve (lv' := [(3, .int x329_13), (4, .int x30_4), (0, .ref (Gad G (0))), (1, .int p0), (2, .int v2)]) rfl ?_
                refine Go_goto (q := 14) C dX12_worked_332 rfl ?_
                refine Go_lvp [2, 3, 4, 0] rfl ?_
                exact hk14 _ _ _ hR hw
              · refine Go_iload (q := 125) C 0 rfl dX12_worked_123 rfl ?_
                refine Go_bipush (q := 127) (v := (24 : Int32)) C dX12_worked_125 rfl rfl ?_
                refine Go_icmp_eq (t := 137) (q := 130) C hw dX12_worked_127 rfl rfl (fun hw => ?_) (fun hw => ?_)
                · refine Go_lvp [1, 2, 3, 4, 0] rfl ?_
                  exact g_X12_worked_137 C hQ p0 _ _ _ hk14 hR hw
                · refine Go_iload (q := 132) C 0 rfl dX12_worked_130 rfl ?_
                  refine Go_bipush (q := 134) (v := (25 : Int32)) C dX12_worked_132 rfl rfl ?_
                  refine Go_icmp_ne (t := 180) (q := 137) C hw dX12_worked_134 rfl rfl (fun hw => ?_) (fun hw => ?_)
                  · refine Go_lvp [1, 2, 3, 4, 0] rfl ?_
                    exact g_X12_worked_137 C hQ p0 _ _ _ hk14 hR hw
                  · refine Go_iload (q := 182) C 0 rfl dX12_worked_180 rfl ?_
                    refine Go_bipush (q := 184) (v := (26 : Int32)) C dX12_worked_182 rfl rfl ?_
                    refine Go_icmp_eq (t := 194) (q := 187) C hw dX12_worked_184 rfl rfl (fun hw => ?_) (fun hw => ?_)
                    · refine Go_lvp [1, 2, 3, 4, 0] rfl ?_
                      exact g_X12_worked_194 C hQ p0 _ _ _ hk14 hR hw
                    · refine Go_iload (q := 189) C 0 rfl dX12_worked_187 rfl ?_
                      refine Go_bipush (q := 191) (v := (27 : Int32)) C dX12_worked_189 rfl rfl ?_
                      refine Go_icmp_ne (t := 210) (q := 194) C hw dX12_worked_191 rfl rfl (fun hw => ?_) (fun hw => ?_)
                      · refine Go_lvp [1, 2, 3, 4, 0] rfl ?_
                        exact g_X12_worked_194 C hQ p0 _ _ _ hk14 hR hw
                      · refine Go_iload (q := 212) C 0 rfl dX12_worked_210 rfl ?_
                        refine Go_bipush (q := 214) (v := (100 : Int32)) C dX12_worked_212 rfl rfl ?_
                        refine Go_icmp_lt (t := 225) (q := 217) C hw dX12_worked_214 rfl rfl (fun hw => ?_) (fun hw => ?_)
                        · refine Go_iload (q := 227) C 0 rfl dX12_worked_225 rfl ?_
                          refine Go_bipush (q := 229) (v := (20 : Int32)) C dX12_worked_227 rfl rfl ?_
                          refine Go_icmp_ge (t := 242) (q := 232) C hw dX12_worked_229 rfl rfl (fun hw => ?_) (fun hw => ?_)
                          · refine Go_iconst (q := 243) (v := (0 : Int32)) C dX12_worked_242 rfl rfl ?_
                            refine Go_lvp [1, 2, 3, 4, 0] rfl ?_
                            exact g_X12_worked_243 C hQ p0 _ _ _ _ hk14 hR hw
                          · refine Go_aload_n (q := 233) C 1 rfl dX12_worked_232 rfl ?_
                            refine Go_getA (q := 236) (k := 55) C ci12 iw_12 kM_0 (rM_0_55 hR) rfl wm_14_4 rfl dX12_worked_233 rfl ?_
                            refine Go_iload (q := 238) C 0 rfl dX12_worked_236 rfl ?_
                            obtain ⟨hin, hw⟩ := hw
                            refine Go_iaload (q := 239) C kM_32 hin dX12_worked_238 rfl ?_
                            refine Go_goto (q := 243) C dX12_worked_239 rfl ?_
                            refine Go_lvp [1, 2, 3, 4, 0] rfl ?_
                            exact g_X12_worked_243 C hQ p0 _ _ _ _ hk14 hR hw
                        · refine Go_iload (q := 219) C 0 rfl dX12_worked_217 rfl ?_
                          refine Go_bipush (q := 221) (v := (100 : Int32)) C dX12_worked_219 rfl rfl ?_
                          refine Go_isub (q := 222) C dX12_worked_221 rfl ?_
                          refine Go_goto (q := 243) C dX12_worked_222 rfl ?_
                          refine Go_lvp [1, 2, 3, 4, 0] rfl ?_
                          exact g_X12_worked_243 C hQ p0 _ _ _ _ hk14 hR hw
set_option maxRecDepth 100000 in
set_option maxHeartbeats 4000000 in
theorem c_X12_worked (l : Launch) {p0 : Int32} {S : St} {Q : Int32 → St → Prop} (hR : RCM S) (hw : w_X12_worked p0 S Q) : MetI l yX12_worked (wB yX12_worked cX12_worked 6 (some .int)) rm_X12_worked shM NM RCM (fun ad => [.ref (ad (0)), .int p0]) S Q := by
  refine MetI_of (cc := cX12_worked) (maxL := 6) (ret := (some .int)) (plainFor_of_name (by decide)) (fun _ => Nat.le_of_ble_eq_true rfl) (fun G C hl hQ => ?_)
  subst hl
  have C : Cx G cX12_worked BIG RX12 6 (some .int) rm_X12_worked shM NM := C
  show Go G 6 0 [] [(0, .ref (Gad G (0))), (1, .int p0)] S
  unfold w_X12_worked at hw
  refine Go_iconst (q := 1) (v := (0 : Int32)) C dX12_worked_0 rfl rfl ?_
  refine Go_istore_n (q := 2) (lv' := [(2, .int (0 : Int32)), (0, .ref (Gad G (0))), (1, .int p0)]) C rfl dX12_worked_1 (by decide) rfl rfl ?_
  refine Go_aload_n (q := 3) C 1 rfl dX12_worked_2 rfl ?_
  refine Go_iconst (q := 4) (v := (0 : Int32)) C dX12_worked_3 rfl rfl ?_
  refine Go_callV_V (av := (fun ad => [.int (0 : Int32)])) (st := []) (C := C) (hM := c_X12_opens (Gl G)  hR hw) (hlk := wm_30_21) (hini := wm_1_5) (hins := wm_30_22) (hsel := wm_30_23) (hcode := wm_31_0) (ho := kM_0) (hci := rfl) (hc13 := by decide) (n := 1) (hd := by decide +kernel) (hr0 := ⟨rfl, rfl⟩) (hroom := ⟨by first | decide | (dsimp only; omega), by first | decide | (dsimp only; omega)⟩) (hlen := rfl) (hst := rfl) (hW := Nat.le_of_ble_eq_true rfl) (hdg := dX12_worked_4) (q := 7) (hq := rfl) (fun S4_1 hw hR => ?_)
  refine Go_aload_n (q := 8) C 1 rfl dX12_worked_7 rfl ?_
  refine Go_getA (q := 11) (k := 40) C ci12 iw_12 kM_0 (rM_0_40 hR) rfl wm_13_14 rfl dX12_worked_8 rfl ?_
  refine Go_iload_n (q := 12) C 2 rfl dX12_worked_11 rfl ?_
  obtain ⟨hin, hw⟩ := hw
  refine Go_iaload (q := 13) C kM_18 hin dX12_worked_12 rfl ?_
  refine Go_topi (fun x13_2 e_x13_2 => ?_)
  have hw := hw x13_2 e_x13_2
  refine Go_istore_n (q := 14) (lv' := [(3, .int x13_2), (2, .int (0 : Int32)), (0, .ref (Gad G (0))), (1, .int p0)]) C rfl dX12_worked_13 (by decide) rfl rfl ?_
  refine Go_lvp [2, 3, 1, 0] rfl ?_
  exact g_X12_worked_14 C hQ p0 _ _ hR hw
-- X12_isKept
abbrev rm_X12_isKept : Room := { frames := 0, cells := 0, slots := 0, locals := 0 }
set_option maxRecDepth 100000 in
set_option maxHeartbeats 4000000 in
theorem c_X12_isKept (l : Launch) {S : St} {Q : Int32 → St → Prop} (hR : RCM S) (hw : w_X12_isKept S Q) : MetI l yX12_isKept (wB yX12_isKept cX12_isKept 1 (some .boolean)) rm_X12_isKept shM NM RCM (fun ad => [.ref (ad (0))]) S Q := by
  refine MetI_of (cc := cX12_isKept) (maxL := 1) (ret := (some .boolean)) (plainFor_of_name (by decide)) (fun _ => Nat.le_of_ble_eq_true rfl) (fun G C hl hQ => ?_)
  subst hl
  have C : Cx G cX12_isKept BIG RX12 1 (some .boolean) rm_X12_isKept shM NM := C
  show Go G 1 0 [] [(0, .ref (Gad G (0)))] S
  unfold w_X12_isKept at hw
  refine Go_aload_n (q := 1) C 0 rfl dX12_isKept_0 rfl ?_
  refine Go_getI (q := 4) (k := 6) C ci12 iw_12 kM_0 rfl wm_25_14 rfl dX12_isKept_1 rfl ?_
  refine Go_iconst (q := 5) (v := (1 : Int32)) C dX12_isKept_4 rfl rfl ?_
  refine Go_icmp_eq (t := 10) (q := 8) C hw dX12_isKept_5 rfl rfl (fun hw => ?_) (fun hw => ?_)
  · refine Go_aload_n (q := 11) C 0 rfl dX12_isKept_10 rfl ?_
    refine Go_getJ (q := 14) (k := 7) C ci12 iw_12 kM_0 rfl wm_26_2 rfl dX12_isKept_11 rfl ?_
    refine Go_ldc2 (q := 17) (v := (108748 : Int64)) C wm_25_12 dX12_isKept_14 rfl ?_
    refine Go_lcmp_eq (t := 219) (q := 18) (q2 := 21) C hw dX12_isKept_17 rfl dX12_isKept_18 rfl rfl (fun hw => ?_) (fun hw => ?_)
    · refine Go_iconst (q := 220) (v := (1 : Int32)) C dX12_isKept_219 rfl rfl ?_
      refine Go_goto (q := 224) C dX12_isKept_220 rfl ?_
      exact Go_zret C hQ hR rfl hw dX12_isKept_224
    · refine Go_aload_n (q := 22) C 0 rfl dX12_isKept_21 rfl ?_
      refine Go_getJ (q := 25) (k := 7) C ci12 iw_12 kM_0 rfl wm_26_2 rfl dX12_isKept_22 rfl ?_
      refine Go_ldc2 (q := 28) (v := (409469 : Int64)) C wm_25_15 dX12_isKept_25 rfl ?_
      refine Go_lcmp_eq (t := 219) (q := 29) (q2 := 32) C hw dX12_isKept_28 rfl dX12_isKept_29 rfl rfl (fun hw => ?_) (fun hw => ?_)
      · refine Go_iconst (q := 220) (v := (1 : Int32)) C dX12_isKept_219 rfl rfl ?_
        refine Go_goto (q := 224) C dX12_isKept_220 rfl ?_
        exact Go_zret C hQ hR rfl hw dX12_isKept_224
      · refine Go_aload_n (q := 33) C 0 rfl dX12_isKept_32 rfl ?_
        refine Go_getJ (q := 36) (k := 7) C ci12 iw_12 kM_0 rfl wm_26_2 rfl dX12_isKept_33 rfl ?_
        refine Go_ldc2 (q := 39) (v := (281322597 : Int64)) C wm_28_0 dX12_isKept_36 rfl ?_
        refine Go_lcmp_eq (t := 219) (q := 40) (q2 := 43) C hw dX12_isKept_39 rfl dX12_isKept_40 rfl rfl (fun hw => ?_) (fun hw => ?_)
        · refine Go_iconst (q := 220) (v := (1 : Int32)) C dX12_isKept_219 rfl rfl ?_
          refine Go_goto (q := 224) C dX12_isKept_220 rfl ?_
          exact Go_zret C hQ hR rfl hw dX12_isKept_224
        · refine Go_aload_n (q := 44) C 0 rfl dX12_isKept_43 rfl ?_
          refine Go_getJ (q := 47) (k := 7) C ci12 iw_12 kM_0 rfl wm_26_2 rfl dX12_isKept_44 rfl ?_
          refine Go_ldc2 (q := 50) (v := (40187 : Int64)) C wm_28_1 dX12_isKept_47 rfl ?_
          refine Go_lcmp_eq (t := 219) (q := 51) (q2 := 54) C hw dX12_isKept_50 rfl dX12_isKept_51 rfl rfl (fun hw => ?_) (fun hw => ?_)
          · refine Go_iconst (q := 220) (v := (1 : Int32)) C dX12_isKept_219 rfl rfl ?_
            refine Go_goto (q := 224) C dX12_isKept_220 rfl ?_
            exact Go_zret C hQ hR rfl hw dX12_isKept_224
          · refine Go_aload_n (q := 55) C 0 rfl dX12_isKept_54 rfl ?_
            refine Go_getJ (q := 58) (k := 7) C ci12 iw_12 kM_0 rfl wm_26_2 rfl dX12_isKept_55 rfl ?_
            refine Go_ldc2 (q := 61) (v := (115575085 : Int64)) C wm_28_2 dX12_isKept_58 rfl ?_
            refine Go_lcmp_eq (t := 219) (q := 62) (q2 := 65) C hw dX12_isKept_61 rfl dX12_isKept_62 rfl rfl (fun hw => ?_) (fun hw => ?_)
            · refine Go_iconst (q := 220) (v := (1 : Int32)) C dX12_isKept_219 rfl rfl ?_
              refine Go_goto (q := 224) C dX12_isKept_220 rfl ?_
              exact Go_zret C hQ hR rfl hw dX12_isKept_224
            · refine Go_aload_n (q := 66) C 0 rfl dX12_isKept_65 rfl ?_
              refine Go_getJ (q := 69) (k := 7) C ci12 iw_12 kM_0 rfl wm_26_2 rfl dX12_isKept_66 rfl ?_
              refine Go_ldc2 (q := 72) (v := (291420064 : Int64)) C wm_28_3 dX12_isKept_69 rfl ?_
              refine Go_lcmp_eq (t := 219) (q := 73) (q2 := 76) C hw dX12_isKept_72 rfl dX12_isKept_73 rfl rfl (fun hw => ?_) (fun hw => ?_)
              · refine Go_iconst (q := 220) (v := (1 : Int32)) C dX12_isKept_219 rfl rfl ?_
                refine Go_goto (q := 224) C dX12_isKept_220 rfl ?_
                exact Go_zret C hQ hR rfl hw dX12_isKept_224
              · refine Go_aload_n (q := 77) C 0 rfl dX12_isKept_76 rfl ?_
                refine Go_getJ (q := 80) (k := 7) C ci12 iw_12 kM_0 rfl wm_26_2 rfl dX12_isKept_77 rfl ?_
                refine Go_ldc2 (q := 83) (v := (10261586 : Int64)) C wm_28_4 dX12_isKept_80 rfl ?_
                refine Go_lcmp_eq (t := 219) (q := 84) (q2 := 87) C hw dX12_isKept_83 rfl dX12_isKept_84 rfl rfl (fun hw => ?_) (fun hw => ?_)
                · refine Go_iconst (q := 220) (v := (1 : Int32)) C dX12_isKept_219 rfl rfl ?_
                  refine Go_goto (q := 224) C dX12_isKept_220 rfl ?_
                  exact Go_zret C hQ hR rfl hw dX12_isKept_224
                · refine Go_aload_n (q := 88) C 0 rfl dX12_isKept_87 rfl ?_
                  refine Go_getJ (q := 91) (k := 7) C ci12 iw_12 kM_0 rfl wm_26_2 rfl dX12_isKept_88 rfl ?_
                  refine Go_ldc2 (q := 94) (v := (390787 : Int64)) C wm_28_5 dX12_isKept_91 rfl ?_
                  refine Go_lcmp_eq (t := 219) (q := 95) (q2 := 98) C hw dX12_isKept_94 rfl dX12_isKept_95 rfl rfl (fun hw => ?_) (fun hw => ?_)
                  · refine Go_iconst (q := 220) (v := (1 : Int32)) C dX12_isKept_219 rfl rfl ?_
                    refine Go_goto (q := 224) C dX12_isKept_220 rfl ?_
                    exact Go_zret C hQ hR rfl hw dX12_isKept_224
                  · refine Go_aload_n (q := 99) C 0 rfl dX12_isKept_98 rfl ?_
                    refine Go_getJ (q := 102) (k := 7) C ci12 iw_12 kM_0 rfl wm_26_2 rfl dX12_isKept_99 rfl ?_
                    refine Go_ldc2 (q := 105) (v := (9741983 : Int64)) C wm_25_16 dX12_isKept_102 rfl ?_
                    refine Go_lcmp_eq (t := 219) (q := 106) (q2 := 109) C hw dX12_isKept_105 rfl dX12_isKept_106 rfl rfl (fun hw => ?_) (fun hw => ?_)
                    · refine Go_iconst (q := 220) (v := (1 : Int32)) C dX12_isKept_219 rfl rfl ?_
                      refine Go_goto (q := 224) C dX12_isKept_220 rfl ?_
                      exact Go_zret C hQ hR rfl hw dX12_isKept_224
                    · refine Go_aload_n (q := 110) C 0 rfl dX12_isKept_109 rfl ?_
                      refine Go_getJ (q := 113) (k := 7) C ci12 iw_12 kM_0 rfl wm_26_2 rfl dX12_isKept_110 rfl ?_
                      refine Go_ldc2 (q := 116) (v := (12391871 : Int64)) C wm_25_17 dX12_isKept_113 rfl ?_
                      refine Go_lcmp_eq (t := 219) (q := 117) (q2 := 120) C hw dX12_isKept_116 rfl dX12_isKept_117 rfl rfl (fun hw => ?_) (fun hw => ?_)
                      · refine Go_iconst (q := 220) (v := (1 : Int32)) C dX12_isKept_219 rfl rfl ?_
                        refine Go_goto (q := 224) C dX12_isKept_220 rfl ?_
                        exact Go_zret C hQ hR rfl hw dX12_isKept_224
                      · refine Go_aload_n (q := 121) C 0 rfl dX12_isKept_120 rfl ?_
                        refine Go_getJ (q := 124) (k := 7) C ci12 iw_12 kM_0 rfl wm_26_2 rfl dX12_isKept_121 rfl ?_
                        refine Go_ldc2 (q := 127) (v := (3094387 : Int64)) C wm_28_22 dX12_isKept_124 rfl ?_
                        refine Go_lcmp_eq (t := 219) (q := 128) (q2 := 131) C hw dX12_isKept_127 rfl dX12_isKept_128 rfl rfl (fun hw => ?_) (fun hw => ?_)
                        · refine Go_iconst (q := 220) (v := (1 : Int32)) C dX12_isKept_219 rfl rfl ?_
                          refine Go_goto (q := 224) C dX12_isKept_220 rfl ?_
                          exact Go_zret C hQ hR rfl hw dX12_isKept_224
                        · refine Go_aload_n (q := 132) C 0 rfl dX12_isKept_131 rfl ?_
                          refine Go_getJ (q := 135) (k := 7) C ci12 iw_12 kM_0 rfl wm_26_2 rfl dX12_isKept_132 rfl ?_
                          refine Go_ldc2 (q := 138) (v := (121898 : Int64)) C wm_25_18 dX12_isKept_135 rfl ?_
                          refine Go_lcmp_eq (t := 219) (q := 139) (q2 := 142) C hw dX12_isKept_138 rfl dX12_isKept_139 rfl rfl (fun hw => ?_) (fun hw => ?_)
                          · refine Go_iconst (q := 220) (v := (1 : Int32)) C dX12_isKept_219 rfl rfl ?_
                            refine Go_goto (q := 224) C dX12_isKept_220 rfl ?_
                            exact Go_zret C hQ hR rfl hw dX12_isKept_224
                          · refine Go_aload_n (q := 143) C 0 rfl dX12_isKept_142 rfl ?_
                            refine Go_getJ (q := 146) (k := 7) C ci12 iw_12 kM_0 rfl wm_26_2 rfl dX12_isKept_143 rfl ?_
                            refine Go_ldc2 (q := 149) (v := (464134 : Int64)) C wm_25_19 dX12_isKept_146 rfl ?_
                            refine Go_lcmp_eq (t := 219) (q := 150) (q2 := 153) C hw dX12_isKept_149 rfl dX12_isKept_150 rfl rfl (fun hw => ?_) (fun hw => ?_)
                            · refine Go_iconst (q := 220) (v := (1 : Int32)) C dX12_isKept_219 rfl rfl ?_
                              refine Go_goto (q := 224) C dX12_isKept_220 rfl ?_
                              exact Go_zret C hQ hR rfl hw dX12_isKept_224
                            · refine Go_aload_n (q := 154) C 0 rfl dX12_isKept_153 rfl ?_
                              refine Go_getJ (q := 157) (k := 7) C ci12 iw_12 kM_0 rfl wm_26_2 rfl dX12_isKept_154 rfl ?_
                              refine Go_ldc2 (q := 160) (v := (1162585 : Int64)) C wm_29_7 dX12_isKept_157 rfl ?_
                              refine Go_lcmp_eq (t := 219) (q := 161) (q2 := 164) C hw dX12_isKept_160 rfl dX12_isKept_161 rfl rfl (fun hw => ?_) (fun hw => ?_)
                              · refine Go_iconst (q := 220) (v := (1 : Int32)) C dX12_isKept_219 rfl rfl ?_
                                refine Go_goto (q := 224) C dX12_isKept_220 rfl ?_
                                exact Go_zret C hQ hR rfl hw dX12_isKept_224
                              · refine Go_aload_n (q := 165) C 0 rfl dX12_isKept_164 rfl ?_
                                refine Go_getJ (q := 168) (k := 7) C ci12 iw_12 kM_0 rfl wm_26_2 rfl dX12_isKept_165 rfl ?_
                                refine Go_ldc2 (q := 171) (v := (223456 : Int64)) C wm_29_8 dX12_isKept_168 rfl ?_
                                refine Go_lcmp_eq (t := 219) (q := 172) (q2 := 175) C hw dX12_isKept_171 rfl dX12_isKept_172 rfl rfl (fun hw => ?_) (fun hw => ?_)
                                · refine Go_iconst (q := 220) (v := (1 : Int32)) C dX12_isKept_219 rfl rfl ?_
                                  refine Go_goto (q := 224) C dX12_isKept_220 rfl ?_
                                  exact Go_zret C hQ hR rfl hw dX12_isKept_224
                                · refine Go_aload_n (q := 176) C 0 rfl dX12_isKept_175 rfl ?_
                                  refine Go_getJ (q := 179) (k := 7) C ci12 iw_12 kM_0 rfl wm_26_2 rfl dX12_isKept_176 rfl ?_
                                  refine Go_ldc2 (q := 182) (v := (1503 : Int64)) C wm_25_20 dX12_isKept_179 rfl ?_
                                  refine Go_lcmp_eq (t := 219) (q := 183) (q2 := 186) C hw dX12_isKept_182 rfl dX12_isKept_183 rfl rfl (fun hw => ?_) (fun hw => ?_)
                                  · refine Go_iconst (q := 220) (v := (1 : Int32)) C dX12_isKept_219 rfl rfl ?_
                                    refine Go_goto (q := 224) C dX12_isKept_220 rfl ?_
                                    exact Go_zret C hQ hR rfl hw dX12_isKept_224
                                  · refine Go_aload_n (q := 187) C 0 rfl dX12_isKept_186 rfl ?_
                                    refine Go_getJ (q := 190) (k := 7) C ci12 iw_12 kM_0 rfl wm_26_2 rfl dX12_isKept_187 rfl ?_
                                    refine Go_ldc2 (q := 193) (v := (10631 : Int64)) C wm_29_13 dX12_isKept_190 rfl ?_
                                    refine Go_lcmp_eq (t := 219) (q := 194) (q2 := 197) C hw dX12_isKept_193 rfl dX12_isKept_194 rfl rfl (fun hw => ?_) (fun hw => ?_)
                                    · refine Go_iconst (q := 220) (v := (1 : Int32)) C dX12_isKept_219 rfl rfl ?_
                                      refine Go_goto (q := 224) C dX12_isKept_220 rfl ?_
                                      exact Go_zret C hQ hR rfl hw dX12_isKept_224
                                    · refine Go_aload_n (q := 198) C 0 rfl dX12_isKept_197 rfl ?_
                                      refine Go_getJ (q := 201) (k := 7) C ci12 iw_12 kM_0 rfl wm_26_2 rfl dX12_isKept_198 rfl ?_
                                      refine Go_ldc2 (q := 204) (v := (1111 : Int64)) C wm_29_14 dX12_isKept_201 rfl ?_
                                      refine Go_lcmp_eq (t := 219) (q := 205) (q2 := 208) C hw dX12_isKept_204 rfl dX12_isKept_205 rfl rfl (fun hw => ?_) (fun hw => ?_)
                                      · refine Go_iconst (q := 220) (v := (1 : Int32)) C dX12_isKept_219 rfl rfl ?_
                                        refine Go_goto (q := 224) C dX12_isKept_220 rfl ?_
                                        exact Go_zret C hQ hR rfl hw dX12_isKept_224
                                      · refine Go_aload_n (q := 209) C 0 rfl dX12_isKept_208 rfl ?_
                                        refine Go_getJ (q := 212) (k := 7) C ci12 iw_12 kM_0 rfl wm_26_2 rfl dX12_isKept_209 rfl ?_
                                        refine Go_ldc2 (q := 215) (v := (423 : Int64)) C wm_29_15 dX12_isKept_212 rfl ?_
                                        refine Go_lcmp_ne (t := 223) (q := 216) (q2 := 219) C hw dX12_isKept_215 rfl dX12_isKept_216 rfl rfl (fun hw => ?_) (fun hw => ?_)
                                        · refine Go_iconst (q := 220) (v := (1 : Int32)) C dX12_isKept_219 rfl rfl ?_
                                          refine Go_goto (q := 224) C dX12_isKept_220 rfl ?_
                                          exact Go_zret C hQ hR rfl hw dX12_isKept_224
                                        · refine Go_iconst (q := 224) (v := (0 : Int32)) C dX12_isKept_223 rfl rfl ?_
                                          exact Go_zret C hQ hR rfl hw dX12_isKept_224
  · refine Go_iconst (q := 9) (v := (1 : Int32)) C dX12_isKept_8 rfl rfl ?_
    exact Go_zret C hQ hR rfl hw dX12_isKept_9
-- X12_needsNumber
abbrev rm_X12_needsNumber : Room := { frames := 1, cells := 0, slots := 0, locals := 22 }
set_option maxRecDepth 100000 in
set_option maxHeartbeats 4000000 in
theorem c_X12_needsNumber (l : Launch) {p0 : Int32} {p1 : Int32} {S : St} {Q : Int32 → St → Prop} (hR : RCM S) (hw : w_X12_needsNumber p0 p1 S Q) : MetI l yX12_needsNumber (wB yX12_needsNumber cX12_needsNumber 3 (some .boolean)) rm_X12_needsNumber shM NM RCM (fun ad => [.ref (ad (0)), .int p0, .int p1]) S Q := by
  refine MetI_of (cc := cX12_needsNumber) (maxL := 3) (ret := (some .boolean)) (plainFor_of_name (by decide)) (fun _ => Nat.le_of_ble_eq_true rfl) (fun G C hl hQ => ?_)
  subst hl
  have C : Cx G cX12_needsNumber BIG RX12 3 (some .boolean) rm_X12_needsNumber shM NM := C
  show Go G 3 0 [] [(0, .ref (Gad G (0))), (1, .int p0), (2, .int p1)] S
  unfold w_X12_needsNumber at hw
  refine Go_aload_n (q := 1) C 0 rfl dX12_needsNumber_0 rfl ?_
  refine Go_getI (q := 4) (k := 6) C ci12 iw_12 kM_0 rfl wm_25_14 rfl dX12_needsNumber_1 rfl ?_
  refine Go_iconst (q := 5) (v := (2 : Int32)) C dX12_needsNumber_4 rfl rfl ?_
  refine Go_icmp_eq (t := 16) (q := 8) C hw dX12_needsNumber_5 rfl rfl (fun hw => ?_) (fun hw => ?_)
  · refine Go_aload_n (q := 17) C 0 rfl dX12_needsNumber_16 rfl ?_
    refine Go_getI (q := 20) (k := 8) C ci12 iw_12 kM_0 rfl wm_25_13 rfl dX12_needsNumber_17 rfl ?_
    refine Go_iload_n (q := 21) C 1 rfl dX12_needsNumber_20 rfl ?_
    refine Go_iload_n (q := 22) C 2 rfl dX12_needsNumber_21 rfl ?_
    refine Go_callS_I (av := (fun ad => [.int (gI S 0 8), .int p0, .int p1])) (st := []) (C := C) (hM := c_X12_within (Gl G)  hR hw) (hlk := wm_27_1) (hini := wm_1_5) (hst2 := wm_27_2) (hcode := wm_27_3) (n := 3) (hd := by decide +kernel) (hr0 := ⟨rfl, rfl⟩) (hroom := ⟨by first | decide | (dsimp only; omega), by first | decide | (dsimp only; omega)⟩) (hlen := rfl) (hst := rfl) (hW := Nat.le_of_ble_eq_true rfl) (hdg := dX12_needsNumber_22) (q := 25) (hq := rfl) (fun r22_2 S22_1 hw hR => ?_)
    refine Go_if_ne (t := 36) (q := 28) C hw dX12_needsNumber_25 rfl rfl (fun hw => ?_) (fun hw => ?_)
    · refine Go_aload_n (q := 29) C 0 rfl dX12_needsNumber_28 rfl ?_
      refine Go_iconst (q := 30) (v := (4 : Int32)) C dX12_needsNumber_29 rfl rfl ?_
      refine Go_callV_I (av := (fun ad => [.int (4 : Int32)])) (st := []) (C := C) (hM := c_X12_fails (Gl G)  hR hw) (hlk := wm_26_17) (hini := wm_1_5) (hins := wm_26_18) (hsel := wm_26_19) (hcode := wm_26_20) (ho := kM_0) (hci := rfl) (hc13 := by decide) (n := 1) (hd := by decide +kernel) (hr0 := ⟨rfl, rfl⟩) (hroom := ⟨by first | decide | (dsimp only; omega), by first | decide | (dsimp only; omega)⟩) (hlen := rfl) (hst := rfl) (hW := Nat.le_of_ble_eq_true rfl) (hdg := dX12_needsNumber_30) (q := 33) (hq := rfl) (fun r30_4 S30_3 hw hR => ?_)
      refine Go_if_eq (t := 40) (q := 36) C hw dX12_needsNumber_33 rfl rfl (fun hw => ?_) (fun hw => ?_)
      · refine Go_iconst (q := 41) (v := (0 : Int32)) C dX12_needsNumber_40 rfl rfl ?_
        exact Go_zret C hQ hR rfl hw dX12_needsNumber_41
      · refine Go_iconst (q := 37) (v := (1 : Int32)) C dX12_needsNumber_36 rfl rfl ?_
        refine Go_goto (q := 41) C dX12_needsNumber_37 rfl ?_
        exact Go_zret C hQ hR rfl hw dX12_needsNumber_41
    · refine Go_iconst (q := 37) (v := (1 : Int32)) C dX12_needsNumber_36 rfl rfl ?_
      refine Go_goto (q := 41) C dX12_needsNumber_37 rfl ?_
      exact Go_zret C hQ hR rfl hw dX12_needsNumber_41
  · refine Go_aload_n (q := 9) C 0 rfl dX12_needsNumber_8 rfl ?_
    refine Go_iconst (q := 10) (v := (1 : Int32)) C dX12_needsNumber_9 rfl rfl ?_
    refine Go_callV_I (av := (fun ad => [.int (1 : Int32)])) (st := []) (C := C) (hM := c_X12_fails (Gl G)  hR hw) (hlk := wm_26_17) (hini := wm_1_5) (hins := wm_26_18) (hsel := wm_26_19) (hcode := wm_26_20) (ho := kM_0) (hci := rfl) (hc13 := by decide) (n := 1) (hd := by decide +kernel) (hr0 := ⟨rfl, rfl⟩) (hroom := ⟨by first | decide | (dsimp only; omega), by first | decide | (dsimp only; omega)⟩) (hlen := rfl) (hst := rfl) (hW := Nat.le_of_ble_eq_true rfl) (hdg := dX12_needsNumber_10) (q := 13) (hq := rfl) (fun r10_6 S10_5 hw hR => ?_)
    refine Go_goto (q := 41) C dX12_needsNumber_13 rfl ?_
    exact Go_zret C hQ hR (zb hw.1) hw.2 dX12_needsNumber_41
-- X12_needsWord
abbrev rm_X12_needsWord : Room := { frames := 2, cells := 0, slots := 0, locals := 42 }
set_option maxRecDepth 100000 in
set_option maxHeartbeats 4000000 in
theorem c_X12_needsWord (l : Launch) {p0 : Int64} {S : St} {Q : Int32 → St → Prop} (hR : RCM S) (hw : w_X12_needsWord p0 S Q) : MetI l yX12_needsWord (wB yX12_needsWord cX12_needsWord 3 (some .boolean)) rm_X12_needsWord shM NM RCM (fun ad => [.ref (ad (0)), .long p0]) S Q := by
  refine MetI_of (cc := cX12_needsWord) (maxL := 3) (ret := (some .boolean)) (plainFor_of_name (by decide)) (fun _ => Nat.le_of_ble_eq_true rfl) (fun G C hl hQ => ?_)
  subst hl
  have C : Cx G cX12_needsWord BIG RX12 3 (some .boolean) rm_X12_needsWord shM NM := C
  show Go G 3 0 [] [(0, .ref (Gad G (0))), (1, .long p0)] S
  unfold w_X12_needsWord at hw
  refine Go_aload_n (q := 1) C 0 rfl dX12_needsWord_0 rfl ?_
  refine Go_lload_n (q := 2) C 1 rfl dX12_needsWord_1 rfl ?_
  refine Go_callV_I (av := (fun ad => [.long p0])) (st := []) (C := C) (hM := c_X12_isWord (Gl G)  hR hw) (hlk := wm_26_13) (hini := wm_1_5) (hins := wm_26_14) (hsel := wm_26_15) (hcode := wm_26_16) (ho := kM_0) (hci := rfl) (hc13 := by decide) (n := 1) (hd := by decide +kernel) (hr0 := ⟨rfl, rfl⟩) (hroom := ⟨by first | decide | (dsimp only; omega), by first | decide | (dsimp only; omega)⟩) (hlen := rfl) (hst := rfl) (hW := Nat.le_of_ble_eq_true rfl) (hdg := dX12_needsWord_2) (q := 5) (hq := rfl) (fun r2_2 S2_1 hw hR => ?_)
  refine Go_if_ne (t := 14) (q := 8) C hw dX12_needsWord_5 rfl rfl (fun hw => ?_) (fun hw => ?_)
  · refine Go_aload_n (q := 9) C 0 rfl dX12_needsWord_8 rfl ?_
    refine Go_iconst (q := 10) (v := (1 : Int32)) C dX12_needsWord_9 rfl rfl ?_
    refine Go_callV_I (av := (fun ad => [.int (1 : Int32)])) (st := []) (C := C) (hM := c_X12_fails (Gl G)  hR hw) (hlk := wm_26_17) (hini := wm_1_5) (hins := wm_26_18) (hsel := wm_26_19) (hcode := wm_26_20) (ho := kM_0) (hci := rfl) (hc13 := by decide) (n := 1) (hd := by decide +kernel) (hr0 := ⟨rfl, rfl⟩) (hroom := ⟨by first | decide | (dsimp only; omega), by first | decide | (dsimp only; omega)⟩) (hlen := rfl) (hst := rfl) (hW := Nat.le_of_ble_eq_true rfl) (hdg := dX12_needsWord_10) (q := 13) (hq := rfl) (fun r10_4 S10_3 hw hR => ?_)
    exact Go_zret C hQ hR (zb hw.1) hw.2 dX12_needsWord_13
  · refine Go_aload_n (q := 15) C 0 rfl dX12_needsWord_14 rfl ?_
    refine Go_callV_V (av := (fun ad => [])) (st := []) (C := C) (hM := c_X12_nextToken (Gl G)  hR hw) (hlk := wm_25_21) (hini := wm_1_5) (hins := wm_25_22) (hsel := wm_25_23) (hcode := wm_26_0) (ho := kM_0) (hci := rfl) (hc13 := by decide) (n := 0) (hd := by decide +kernel) (hr0 := ⟨rfl, rfl⟩) (hroom := ⟨by first | decide | (dsimp only; omega), by first | decide | (dsimp only; omega)⟩) (hlen := rfl) (hst := rfl) (hW := Nat.le_of_ble_eq_true rfl) (hdg := dX12_needsWord_15) (q := 18) (hq := rfl) (fun S15_5 hw hR => ?_)
    refine Go_iconst (q := 19) (v := (1 : Int32)) C dX12_needsWord_18 rfl rfl ?_
    exact Go_zret C hQ hR rfl hw dX12_needsWord_19
-- X12_ends
abbrev rm_X12_ends : Room := { frames := 2, cells := 0, slots := 0, locals := 42 }
set_option maxRecDepth 100000 in
set_option maxHeartbeats 4000000 in
theorem c_X12_ends (l : Launch) {S : St} {Q : Int32 → St → Prop} (hR : RCM S) (hw : w_X12_ends S Q) : MetI l yX12_ends (wB yX12_ends cX12_ends 1 (some .boolean)) rm_X12_ends shM NM RCM (fun ad => [.ref (ad (0))]) S Q := by
  refine MetI_of (cc := cX12_ends) (maxL := 1) (ret := (some .boolean)) (plainFor_of_name (by decide)) (fun _ => Nat.le_of_ble_eq_true rfl) (fun G C hl hQ => ?_)
  subst hl
  have C : Cx G cX12_ends BIG RX12 1 (some .boolean) rm_X12_ends shM NM := C
  show Go G 1 0 [] [(0, .ref (Gad G (0)))] S
  unfold w_X12_ends at hw
  refine Go_aload_n (q := 1) C 0 rfl dX12_ends_0 rfl ?_
  refine Go_bipush (q := 3) (v := (59 : Int32)) C dX12_ends_1 rfl rfl ?_
  refine Go_callV_I (av := (fun ad => [.int (59 : Int32)])) (st := []) (C := C) (hM := c_X12_isSign (Gl G)  hR hw) (hlk := wm_27_8) (hini := wm_1_5) (hins := wm_27_9) (hsel := wm_27_10) (hcode := wm_27_11) (ho := kM_0) (hci := rfl) (hc13 := by decide) (n := 1) (hd := by decide +kernel) (hr0 := ⟨rfl, rfl⟩) (hroom := ⟨by first | decide | (dsimp only; omega), by first | decide | (dsimp only; omega)⟩) (hlen := rfl) (hst := rfl) (hW := Nat.le_of_ble_eq_true rfl) (hdg := dX12_ends_3) (q := 6) (hq := rfl) (fun r3_2 S3_1 hw hR => ?_)
  refine Go_if_ne (t := 15) (q := 9) C hw dX12_ends_6 rfl rfl (fun hw => ?_) (fun hw => ?_)
  · refine Go_aload_n (q := 10) C 0 rfl dX12_ends_9 rfl ?_
    refine Go_iconst (q := 11) (v := (1 : Int32)) C dX12_ends_10 rfl rfl ?_
    refine Go_callV_I (av := (fun ad => [.int (1 : Int32)])) (st := []) (C := C) (hM := c_X12_fails (Gl G)  hR hw) (hlk := wm_26_17) (hini := wm_1_5) (hins := wm_26_18) (hsel := wm_26_19) (hcode := wm_26_20) (ho := kM_0) (hci := rfl) (hc13 := by decide) (n := 1) (hd := by decide +kernel) (hr0 := ⟨rfl, rfl⟩) (hroom := ⟨by first | decide | (dsimp only; omega), by first | decide | (dsimp only; omega)⟩) (hlen := rfl) (hst := rfl) (hW := Nat.le_of_ble_eq_true rfl) (hdg := dX12_ends_11) (q := 14) (hq := rfl) (fun r11_4 S11_3 hw hR => ?_)
    exact Go_zret C hQ hR (zb hw.1) hw.2 dX12_ends_14
  · refine Go_aload_n (q := 16) C 0 rfl dX12_ends_15 rfl ?_
    refine Go_callV_V (av := (fun ad => [])) (st := []) (C := C) (hM := c_X12_nextToken (Gl G)  hR hw) (hlk := wm_25_21) (hini := wm_1_5) (hins := wm_25_22) (hsel := wm_25_23) (hcode := wm_26_0) (ho := kM_0) (hci := rfl) (hc13 := by decide) (n := 0) (hd := by decide +kernel) (hr0 := ⟨rfl, rfl⟩) (hroom := ⟨by first | decide | (dsimp only; omega), by first | decide | (dsimp only; omega)⟩) (hlen := rfl) (hst := rfl) (hW := Nat.le_of_ble_eq_true rfl) (hdg := dX12_ends_16) (q := 19) (hq := rfl) (fun S16_5 hw hR => ?_)
    refine Go_iconst (q := 20) (v := (1 : Int32)) C dX12_ends_19 rfl rfl ?_
    exact Go_zret C hQ hR rfl hw dX12_ends_20
-- X12_stepKind
abbrev rm_X12_stepKind : Room := { frames := 1, cells := 0, slots := 0, locals := 22 }
set_option maxRecDepth 100000 in
set_option maxHeartbeats 4000000 in
theorem c_X12_stepKind (l : Launch) {S : St} {Q : Int32 → St → Prop} (hR : RCM S) (hw : w_X12_stepKind S Q) : MetI l yX12_stepKind (wB yX12_stepKind cX12_stepKind 1 (some .int)) rm_X12_stepKind shM NM RCM (fun ad => [.ref (ad (0))]) S Q := by
  refine MetI_of (cc := cX12_stepKind) (maxL := 1) (ret := (some .int)) (plainFor_of_name (by decide)) (fun _ => Nat.le_of_ble_eq_true rfl) (fun G C hl hQ => ?_)
  subst hl
  have C : Cx G cX12_stepKind BIG RX12 1 (some .int) rm_X12_stepKind shM NM := C
  show Go G 1 0 [] [(0, .ref (Gad G (0)))] S
  unfold w_X12_stepKind at hw
  refine Go_aload_n (q := 1) C 0 rfl dX12_stepKind_0 rfl ?_
  refine Go_ldc2 (q := 4) (v := (281322597 : Int64)) C wm_28_0 dX12_stepKind_1 rfl ?_
  refine Go_callV_I (av := (fun ad => [.long (281322597 : Int64)])) (st := []) (C := C) (hM := c_X12_isWord (Gl G)  hR hw) (hlk := wm_26_13) (hini := wm_1_5) (hins := wm_26_14) (hsel := wm_26_15) (hcode := wm_26_16) (ho := kM_0) (hci := rfl) (hc13 := by decide) (n := 1) (hd := by decide +kernel) (hr0 := ⟨rfl, rfl⟩) (hroom := ⟨by first | decide | (dsimp only; omega), by first | decide | (dsimp only; omega)⟩) (hlen := rfl) (hst := rfl) (hW := Nat.le_of_ble_eq_true rfl) (hdg := dX12_stepKind_4) (q := 7) (hq := rfl) (fun r4_2 S4_1 hw hR => ?_)
  refine Go_if_eq (t := 14) (q := 10) C hw dX12_stepKind_7 rfl rfl (fun hw => ?_) (fun hw => ?_)
  · refine Go_aload_n (q := 15) C 0 rfl dX12_stepKind_14 rfl ?_
    refine Go_ldc2 (q := 18) (v := (40187 : Int64)) C wm_28_1 dX12_stepKind_15 rfl ?_
    refine Go_callV_I (av := (fun ad => [.long (40187 : Int64)])) (st := []) (C := C) (hM := c_X12_isWord (Gl G)  hR hw) (hlk := wm_26_13) (hini := wm_1_5) (hins := wm_26_14) (hsel := wm_26_15) (hcode := wm_26_16) (ho := kM_0) (hci := rfl) (hc13 := by decide) (n := 1) (hd := by decide +kernel) (hr0 := ⟨rfl, rfl⟩) (hroom := ⟨by first | decide | (dsimp only; omega), by first | decide | (dsimp only; omega)⟩) (hlen := rfl) (hst := rfl) (hW := Nat.le_of_ble_eq_true rfl) (hdg := dX12_stepKind_18) (q := 21) (hq := rfl) (fun r18_4 S18_3 hw hR => ?_)
    refine Go_if_eq (t := 28) (q := 24) C hw dX12_stepKind_21 rfl rfl (fun hw => ?_) (fun hw => ?_)
    · refine Go_aload_n (q := 29) C 0 rfl dX12_stepKind_28 rfl ?_
      refine Go_ldc2 (q := 32) (v := (115575085 : Int64)) C wm_28_2 dX12_stepKind_29 rfl ?_
      refine Go_callV_I (av := (fun ad => [.long (115575085 : Int64)])) (st := []) (C := C) (hM := c_X12_isWord (Gl G)  hR hw) (hlk := wm_26_13) (hini := wm_1_5) (hins := wm_26_14) (hsel := wm_26_15) (hcode := wm_26_16) (ho := kM_0) (hci := rfl) (hc13 := by decide) (n := 1) (hd := by decide +kernel) (hr0 := ⟨rfl, rfl⟩) (hroom := ⟨by first | decide | (dsimp only; omega), by first | decide | (dsimp only; omega)⟩) (hlen := rfl) (hst := rfl) (hW := Nat.le_of_ble_eq_true rfl) (hdg := dX12_stepKind_32) (q := 35) (hq := rfl) (fun r32_6 S32_5 hw hR => ?_)
      refine Go_if_eq (t := 42) (q := 38) C hw dX12_stepKind_35 rfl rfl (fun hw => ?_) (fun hw => ?_)
      · refine Go_aload_n (q := 43) C 0 rfl dX12_stepKind_42 rfl ?_
        refine Go_ldc2 (q := 46) (v := (291420064 : Int64)) C wm_28_3 dX12_stepKind_43 rfl ?_
        refine Go_callV_I (av := (fun ad => [.long (291420064 : Int64)])) (st := []) (C := C) (hM := c_X12_isWord (Gl G)  hR hw) (hlk := wm_26_13) (hini := wm_1_5) (hins := wm_26_14) (hsel := wm_26_15) (hcode := wm_26_16) (ho := kM_0) (hci := rfl) (hc13 := by decide) (n := 1) (hd := by decide +kernel) (hr0 := ⟨rfl, rfl⟩) (hroom := ⟨by first | decide | (dsimp only; omega), by first | decide | (dsimp only; omega)⟩) (hlen := rfl) (hst := rfl) (hW := Nat.le_of_ble_eq_true rfl) (hdg := dX12_stepKind_46) (q := 49) (hq := rfl) (fun r46_8 S46_7 hw hR => ?_)
        refine Go_if_eq (t := 56) (q := 52) C hw dX12_stepKind_49 rfl rfl (fun hw => ?_) (fun hw => ?_)
        · refine Go_aload_n (q := 57) C 0 rfl dX12_stepKind_56 rfl ?_
          refine Go_ldc2 (q := 60) (v := (10261586 : Int64)) C wm_28_4 dX12_stepKind_57 rfl ?_
          refine Go_callV_I (av := (fun ad => [.long (10261586 : Int64)])) (st := []) (C := C) (hM := c_X12_isWord (Gl G)  hR hw) (hlk := wm_26_13) (hini := wm_1_5) (hins := wm_26_14) (hsel := wm_26_15) (hcode := wm_26_16) (ho := kM_0) (hci := rfl) (hc13 := by decide) (n := 1) (hd := by decide +kernel) (hr0 := ⟨rfl, rfl⟩) (hroom := ⟨by first | decide | (dsimp only; omega), by first | decide | (dsimp only; omega)⟩) (hlen := rfl) (hst := rfl) (hW := Nat.le_of_ble_eq_true rfl) (hdg := dX12_stepKind_60) (q := 63) (hq := rfl) (fun r60_10 S60_9 hw hR => ?_)
          refine Go_if_eq (t := 70) (q := 66) C hw dX12_stepKind_63 rfl rfl (fun hw => ?_) (fun hw => ?_)
          · refine Go_aload_n (q := 71) C 0 rfl dX12_stepKind_70 rfl ?_
            refine Go_ldc2 (q := 74) (v := (390787 : Int64)) C wm_28_5 dX12_stepKind_71 rfl ?_
            refine Go_callV_I (av := (fun ad => [.long (390787 : Int64)])) (st := []) (C := C) (hM := c_X12_isWord (Gl G)  hR hw) (hlk := wm_26_13) (hini := wm_1_5) (hins := wm_26_14) (hsel := wm_26_15) (hcode := wm_26_16) (ho := kM_0) (hci := rfl) (hc13 := by decide) (n := 1) (hd := by decide +kernel) (hr0 := ⟨rfl, rfl⟩) (hroom := ⟨by first | decide | (dsimp only; omega), by first | decide | (dsimp only; omega)⟩) (hlen := rfl) (hst := rfl) (hW := Nat.le_of_ble_eq_true rfl) (hdg := dX12_stepKind_74) (q := 77) (hq := rfl) (fun r74_12 S74_11 hw hR => ?_)
            refine Go_if_eq (t := 84) (q := 80) C hw dX12_stepKind_77 rfl rfl (fun hw => ?_) (fun hw => ?_)
            · refine Go_iconst (q := 85) (v := (-1 : Int32)) C dX12_stepKind_84 rfl rfl ?_
              exact Go_iret C hQ hR hw dX12_stepKind_85
            · refine Go_iconst (q := 81) (v := (5 : Int32)) C dX12_stepKind_80 rfl rfl ?_
              refine Go_goto (q := 85) C dX12_stepKind_81 rfl ?_
              exact Go_iret C hQ hR hw dX12_stepKind_85
          · refine Go_iconst (q := 67) (v := (4 : Int32)) C dX12_stepKind_66 rfl rfl ?_
            refine Go_goto (q := 85) C dX12_stepKind_67 rfl ?_
            exact Go_iret C hQ hR hw dX12_stepKind_85
        · refine Go_iconst (q := 53) (v := (3 : Int32)) C dX12_stepKind_52 rfl rfl ?_
          refine Go_goto (q := 85) C dX12_stepKind_53 rfl ?_
          exact Go_iret C hQ hR hw dX12_stepKind_85
      · refine Go_iconst (q := 39) (v := (2 : Int32)) C dX12_stepKind_38 rfl rfl ?_
        refine Go_goto (q := 85) C dX12_stepKind_39 rfl ?_
        exact Go_iret C hQ hR hw dX12_stepKind_85
    · refine Go_iconst (q := 25) (v := (1 : Int32)) C dX12_stepKind_24 rfl rfl ?_
      refine Go_goto (q := 85) C dX12_stepKind_25 rfl ?_
      exact Go_iret C hQ hR hw dX12_stepKind_85
  · refine Go_iconst (q := 11) (v := (0 : Int32)) C dX12_stepKind_10 rfl rfl ?_
    refine Go_goto (q := 85) C dX12_stepKind_11 rfl ?_
    exact Go_iret C hQ hR hw dX12_stepKind_85
-- X12_lays
abbrev rm_X12_lays : Room := { frames := 0, cells := 0, slots := 0, locals := 0 }
set_option maxRecDepth 100000 in
set_option maxHeartbeats 4000000 in
theorem g_X12_lays_135 {G : GC} (C : Cx G cX12_lays BIG RX12 8 none rm_X12_lays shM NM) {Q : St → Prop} (hQ : QV G RCM Q) (p0 : Int32) (p1 : Int32) (v3 : Int32) (v4 : Int32) (v5 : Int32) (v6 : Int32) {k14 : Int32 → Int32 → Int32 → St → Prop} (hk14 : ∀ (v4 : Int32) (v5 : Int32) (v6 : Int32) (S : St), RCM S → k14 v4 v5 v6 S → Go G 8 14 [] [(0, .ref (Gad G (0))), (1, .int p0), (2, .int p1), (3, .int v3), (4, .int v4), (5, .int v5), (6, .int v6)] S) {S : St} (hR : RCM S) (hw : w_X12_lays_135 p0 p1 k14 v3 v4 v5 v6 S) : Go G 8 135 [] [(0, .ref (Gad G (0))), (1, .int p0), (2, .int p1), (3, .int v3), (4, .int v4), (5, .int v5), (6, .int v6)] S := by
  unfold w_X12_lays_135 at hw
  refine Go_iload_n (q := 136) C 1 rfl dX12_lays_135 rfl ?_
  refine Go_iconst (q := 137) (v := (4 : Int32)) C dX12_lays_136 rfl rfl ?_
  refine Go_icmp_ne (t := 157) (q := 140) C hw dX12_lays_137 rfl rfl (fun hw => ?_) (fun hw => ?_)
  · refine Go_aload_n (q := 141) C 0 rfl dX12_lays_140 rfl ?_
    refine Go_getA (q := 144) (k := 56) C ci12 iw_12 kM_0 (rM_0_56 hR) rfl wm_14_5 rfl dX12_lays_141 rfl ?_
    refine Go_iload (q := 146) C 6 rfl dX12_lays_144 rfl ?_
    refine Go_iload (q := 148) C 6 rfl dX12_lays_146 rfl ?_
    refine Go_iload_n (q := 149) C 2 rfl dX12_lays_148 rfl ?_
    refine Go_iload_n (q := 150) C 3 rfl dX12_lays_149 rfl ?_
    obtain ⟨hne, hw⟩ := hw
    refine Go_irem (q := 151) C hne dX12_lays_150 rfl ?_
    refine Go_isub (q := 152) C dX12_lays_151 rfl ?_
    refine Go_iload_n (q := 153) C 3 rfl dX12_lays_152 rfl ?_
    refine Go_iadd (q := 154) C dX12_lays_153 rfl ?_
    refine Go_iload_n (q := 155) C 3 rfl dX12_lays_154 rfl ?_
    obtain ⟨hne, hw⟩ := hw
    refine Go_irem (q := 156) C hne dX12_lays_155 rfl ?_
    obtain ⟨hin, hw⟩ := hw
    refine Go_iastore (q := 157) C kM_33 hin dX12_lays_156 rfl ?_
    refine Go_S (fun S156_8 e_S156_8 => ?_)
    have hw := hw S156_8 e_S156_8
    have hR := rcM e_S156_8 hR
    refine Go_iinc2 (q := 160) (kp := 6) (cst := (1 : Int32)) C dX12_lays_157 rfl rfl (by decide) rfl (fun x157_9 e_x157_9 => ?_)
    have hw := hw x157_9 e_x157_9
    refine Go_lve (lv' := [(6, .int x157_9), (0, .ref (Gad G (0))), (1, .int p0), (2, .int p1), (3, .int v3), (4, .int v4), (5, .int v5)]) rfl ?_
    refine Go_goto (q := 14) C dX12_lays_160 rfl ?_
    refine Go_lvp [1, 2, 3, 4, 5, 6, 0] rfl ?_
    exact hk14 _ _ _ _ hR hw
  · refine Go_iinc2 (q := 160) (kp := 6) (cst := (1 : Int32)) C dX12_lays_157 rfl rfl (by decide) rfl (fun x157_10 e_x157_10 => ?_)
    have hw := hw x157_10 e_x157_10
    refine Go_lve (lv' := [(6, .int x157_10), (0, .ref (Gad G (0))), (1, .int p0), (2, .int p1), (3, .int v3), (4, .int v4), (5, .int v5)]) rfl ?_
    refine Go_goto (q := 14) C dX12_lays_160 rfl ?_
    refine Go_lvp [1, 2, 3, 4, 5, 6, 0] rfl ?_
    exact hk14 _ _ _ _ hR hw
set_option maxRecDepth 100000 in
set_option maxHeartbeats 4000000 in
theorem g_X12_lays_105 {G : GC} (C : Cx G cX12_lays BIG RX12 8 none rm_X12_lays shM NM) {Q : St → Prop} (hQ : QV G RCM Q) (p0 : Int32) (p1 : Int32) (v3 : Int32) (v4 : Int32) (v5 : Int32) (v6 : Int32) {k14 : Int32 → Int32 → Int32 → St → Prop} (hk14 : ∀ (v4 : Int32) (v5 : Int32) (v6 : Int32) (S : St), RCM S → k14 v4 v5 v6 S → Go G 8 14 [] [(0, .ref (Gad G (0))), (1, .int p0), (2, .int p1), (3, .int v3), (4, .int v4), (5, .int v5), (6, .int v6)] S) {S : St} (hR : RCM S) (hw : w_X12_lays_105 p0 p1 k14 v3 v4 v5 v6 S) : Go G 8 105 [] [(0, .ref (Gad G (0))), (1, .int p0), (2, .int p1), (3, .int v3), (4, .int v4), (5, .int v5), (6, .int v6)] S := by
  unfold w_X12_lays_105 at hw
  refine Go_iload_n (q := 106) C 1 rfl dX12_lays_105 rfl ?_
  refine Go_iconst (q := 107) (v := (3 : Int32)) C dX12_lays_106 rfl rfl ?_
  refine Go_icmp_ne (t := 135) (q := 110) C hw dX12_lays_107 rfl rfl (fun hw => ?_) (fun hw => ?_)
  · refine Go_aload_n (q := 111) C 0 rfl dX12_lays_110 rfl ?_
    refine Go_getA (q := 114) (k := 56) C ci12 iw_12 kM_0 (rM_0_56 hR) rfl wm_14_5 rfl dX12_lays_111 rfl ?_
    refine Go_iload (q := 116) C 6 rfl dX12_lays_114 rfl ?_
    refine Go_iload (q := 118) C 5 rfl dX12_lays_116 rfl ?_
    obtain ⟨hin, hw⟩ := hw
    refine Go_iastore (q := 119) C kM_33 hin dX12_lays_118 rfl ?_
    refine Go_S (fun S118_6 e_S118_6 => ?_)
    have hw := hw S118_6 e_S118_6
    have hR := rcM e_S118_6 hR
    refine Go_iinc2 (q := 122) (kp := 5) (cst := (3 : Int32)) C dX12_lays_119 rfl rfl (by decide) rfl (fun x119_7 e_x119_7 => ?_)
    have hw := hw x119_7 e_x119_7
    refine Go_lve (lv' := [(5, .int x119_7), (0, .ref (Gad G (0))), (1, .int p0), (2, .int p1), (3, .int v3), (4, .int v4), (6, .int v6)]) rfl ?_
    refine Go_iload (q := 124) C 0 rfl dX12_lays_122 rfl ?_
    refine Go_iload_n (q := 125) C 4 rfl dX12_lays_124 rfl ?_
    refine Go_icmp_lt (t := 135) (q := 128) C hw dX12_lays_125 rfl rfl (fun hw => ?_) (fun hw => ?_)
    · refine Go_lvp [1, 2, 3, 4, 5, 0, 6] rfl ?_
      exact g_X12_lays_135 C hQ p0 p1 _ _ _ _ hk14 hR hw
    · refine Go_iinc2 (q := 131) (kp := 5) (cst := (1 : Int32)) C dX12_lays_128 rfl rfl (by decide) rfl (fun x128_11 e_x128_11 => ?_)
      have hw := hw x128_11 e_x128_11
      refine Go_lve (lv' := [(4, .int x128_11), (5, .int x119_7), (0, .ref (Gad G (0))), (1, .int p0), (2, .int p1), (3, .int v3), (6, .int v6)]) rfl ?_
      refine Go_iload (q := 133) C 0 rfl dX12_lays_131 rfl ?_
      refine Go_istore (q := 135) (lv' := [(5, .int x128_11), (4, .int x128_11), (0, .ref (Gad G (0))), (1, .int p0), (2, .int p1), (3, .int v3), (6, .int v6)]) C dX12_lays_133 (by decide) rfl rfl ?_
      refine Go_lvp [2, 3, 4, 5, 1, 0, 6] rfl ?_
      exact g_X12_lays_135 C hQ p0 p1 _ _ _ _ hk14 hR hw
  · refine Go_lvp [0, 1, 2, 3, 4, 5, 6] rfl ?_
    exact g_X12_lays_135 C hQ p0 p1 _ _ _ _ hk14 hR hw
set_option maxRecDepth 100000 in
set_option maxHeartbeats 4000000 in
theorem g_X12_lays_104 {G : GC} (C : Cx G cX12_lays BIG RX12 8 none rm_X12_lays shM NM) {Q : St → Prop} (hQ : QV G RCM Q) (p0 : Int32) (p1 : Int32) (v3 : Int32) (v4 : Int32) (v5 : Int32) (v6 : Int32) (t0 : Int32) (t1 : Int32) {k14 : Int32 → Int32 → Int32 → St → Prop} (hk14 : ∀ (v4 : Int32) (v5 : Int32) (v6 : Int32) (S : St), RCM S → k14 v4 v5 v6 S → Go G 8 14 [] [(0, .ref (Gad G (0))), (1, .int p0), (2, .int p1), (3, .int v3), (4, .int v4), (5, .int v5), (6, .int v6)] S) {S : St} (hR : RCM S) (hw : w_X12_lays_104 p0 p1 k14 v3 v4 v5 v6 t0 t1 S) : Go G 8 104 [.int t0, .int t1, .ref (Gad G (33))] [(0, .ref (Gad G (0))), (1, .int p0), (2, .int p1), (3, .int v3), (4, .int v4), (5, .int v5), (6, .int v6)] S := by
  unfold w_X12_lays_104 at hw
  obtain ⟨hin, hw⟩ := hw
  refine Go_iastore (q := 105) C kM_33 hin dX12_lays_104 rfl ?_
  refine Go_S (fun S104_5 e_S104_5 => ?_)
  have hw := hw S104_5 e_S104_5
  have hR := rcM e_S104_5 hR
  refine Go_lvp [0, 1, 2, 3, 4, 5, 6] rfl ?_
  exact g_X12_lays_105 C hQ p0 p1 _ _ _ _ hk14 hR hw
set_option maxRecDepth 100000 in
set_option maxHeartbeats 4000000 in
theorem g_X12_lays_73 {G : GC} (C : Cx G cX12_lays BIG RX12 8 none rm_X12_lays shM NM) {Q : St → Prop} (hQ : QV G RCM Q) (p0 : Int32) (p1 : Int32) (v3 : Int32) (v4 : Int32) (v5 : Int32) (v6 : Int32) (v7 : Int32) {k14 : Int32 → Int32 → Int32 → St → Prop} (hk14 : ∀ (v4 : Int32) (v5 : Int32) (v6 : Int32) (S : St), RCM S → k14 v4 v5 v6 S → Go G 8 14 [] [(0, .ref (Gad G (0))), (1, .int p0), (2, .int p1), (3, .int v3), (4, .int v4), (5, .int v5), (6, .int v6)] S) {S : St} (hR : RCM S) (hw : w_X12_lays_73 p0 p1 k14 v3 v4 v5 v6 v7 S) : Go G 8 73 [] [(0, .ref (Gad G (0))), (1, .int p0), (2, .int p1), (3, .int v3), (4, .int v4), (5, .int v5), (6, .int v6), (7, .int v7)] S := by
  unfold w_X12_lays_73 at hw
  refine Go_iload_n (q := 74) C 1 rfl dX12_lays_73 rfl ?_
  refine Go_iconst (q := 75) (v := (2 : Int32)) C dX12_lays_74 rfl rfl ?_
  refine Go_icmp_ne (t := 105) (q := 78) C hw dX12_lays_75 rfl rfl (fun hw => ?_) (fun hw => ?_)
  · refine Go_aload_n (q := 79) C 0 rfl dX12_lays_78 rfl ?_
    refine Go_getA (q := 82) (k := 56) C ci12 iw_12 kM_0 (rM_0_56 hR) rfl wm_14_5 rfl dX12_lays_79 rfl ?_
    refine Go_iload (q := 84) C 6 rfl dX12_lays_82 rfl ?_
    refine Go_iload (q := 86) C 6 rfl dX12_lays_84 rfl ?_
    refine Go_iconst (q := 87) (v := (2 : Int32)) C dX12_lays_86 rfl rfl ?_
    refine Go_irem (q := 88) C (by decide) dX12_lays_87 rfl ?_
    refine Go_if_ne (t := 96) (q := 91) C hw dX12_lays_88 rfl rfl (fun hw => ?_) (fun hw => ?_)
    · refine Go_iload (q := 93) C 7 rfl dX12_lays_91 rfl ?_
      refine Go_goto (q := 104) C dX12_lays_93 rfl ?_
      refine Go_lvp [0, 1, 2, 3, 4, 5, 6] rfl ?_
      exact g_X12_lays_104 C hQ p0 p1 _ _ _ _ _ _ hk14 hR hw
    · refine Go_iload_n (q := 97) C 3 rfl dX12_lays_96 rfl ?_
      refine Go_iconst (q := 98) (v := (1 : Int32)) C dX12_lays_97 rfl rfl ?_
      refine Go_iadd (q := 99) C dX12_lays_98 rfl ?_
      refine Go_iconst (q := 100) (v := (2 : Int32)) C dX12_lays_99 rfl rfl ?_
      refine Go_idiv (q := 101) C (by decide) dX12_lays_100 rfl ?_
      refine Go_iload (q := 103) C 7 rfl dX12_lays_101 rfl ?_
      refine Go_iadd (q := 104) C dX12_lays_103 rfl ?_
      refine Go_lvp [0, 1, 2, 3, 4, 5, 6] rfl ?_
      exact g_X12_lays_104 C hQ p0 p1 _ _ _ _ _ _ hk14 hR hw
  · refine Go_lvp [0, 1, 2, 3, 4, 5, 6] rfl ?_
    exact g_X12_lays_105 C hQ p0 p1 _ _ _ _ hk14 hR hw
set_option maxRecDepth 100000 in
set_option maxHeartbeats 4000000 in
theorem g_X12_lays_55 {G : GC} (C : Cx G cX12_lays BIG RX12 8 none rm_X12_lays shM NM) {Q : St → Prop} (hQ : QV G RCM Q) (p0 : Int32) (p1 : Int32) (v3 : Int32) (v4 : Int32) (v5 : Int32) (v6 : Int32) (v7 : Int32) {k14 : Int32 → Int32 → Int32 → St → Prop} (hk14 : ∀ (v4 : Int32) (v5 : Int32) (v6 : Int32) (S : St), RCM S → k14 v4 v5 v6 S → Go G 8 14 [] [(0, .ref (Gad G (0))), (1, .int p0), (2, .int p1), (3, .int v3), (4, .int v4), (5, .int v5), (6, .int v6)] S) {S : St} (hR : RCM S) (hw : w_X12_lays_55 p0 p1 k14 v3 v4 v5 v6 v7 S) : Go G 8 55 [] [(0, .ref (Gad G (0))), (1, .int p0), (2, .int p1), (3, .int v3), (4, .int v4), (5, .int v5), (6, .int v6), (7, .int v7)] S := by
  unfold w_X12_lays_55 at hw
  refine Go_iload_n (q := 56) C 1 rfl dX12_lays_55 rfl ?_
  refine Go_iconst (q := 57) (v := (1 : Int32)) C dX12_lays_56 rfl rfl ?_
  refine Go_icmp_ne (t := 73) (q := 60) C hw dX12_lays_57 rfl rfl (fun hw => ?_) (fun hw => ?_)
  · refine Go_aload_n (q := 61) C 0 rfl dX12_lays_60 rfl ?_
    refine Go_getA (q := 64) (k := 56) C ci12 iw_12 kM_0 (rM_0_56 hR) rfl wm_14_5 rfl dX12_lays_61 rfl ?_
    refine Go_iload (q := 66) C 6 rfl dX12_lays_64 rfl ?_
    refine Go_iload_n (q := 67) C 3 rfl dX12_lays_66 rfl ?_
    refine Go_iconst (q := 68) (v := (1 : Int32)) C dX12_lays_67 rfl rfl ?_
    refine Go_isub (q := 69) C dX12_lays_68 rfl ?_
    refine Go_iload (q := 71) C 6 rfl dX12_lays_69 rfl ?_
    refine Go_isub (q := 72) C dX12_lays_71 rfl ?_
    obtain ⟨hin, hw⟩ := hw
    refine Go_iastore (q := 73) C kM_33 hin dX12_lays_72 rfl ?_
    refine Go_S (fun S72_4 e_S72_4 => ?_)
    have hw := hw S72_4 e_S72_4
    have hR := rcM e_S72_4 hR
    refine Go_lvp [0, 1, 2, 3, 4, 5, 6, 7] rfl ?_
    exact g_X12_lays_73 C hQ p0 p1 _ _ _ _ _ hk14 hR hw
  · refine Go_lvp [0, 1, 2, 3, 4, 5, 6, 7] rfl ?_
    exact g_X12_lays_73 C hQ p0 p1 _ _ _ _ _ hk14 hR hw
set_option maxRecDepth 100000 in
set_option maxHeartbeats 4000000 in
theorem g_X12_lays_54 {G : GC} (C : Cx G cX12_lays BIG RX12 8 none rm_X12_lays shM NM) {Q : St → Prop} (hQ : QV G RCM Q) (p0 : Int32) (p1 : Int32) (v3 : Int32) (v4 : Int32) (v5 : Int32) (v6 : Int32) (v7 : Int32) (t0 : Int32) (t1 : Int32) {k14 : Int32 → Int32 → Int32 → St → Prop} (hk14 : ∀ (v4 : Int32) (v5 : Int32) (v6 : Int32) (S : St), RCM S → k14 v4 v5 v6 S → Go G 8 14 [] [(0, .ref (Gad G (0))), (1, .int p0), (2, .int p1), (3, .int v3), (4, .int v4), (5, .int v5), (6, .int v6)] S) {S : St} (hR : RCM S) (hw : w_X12_lays_54 p0 p1 k14 v3 v4 v5 v6 v7 t0 t1 S) : Go G 8 54 [.int t0, .int t1, .ref (Gad G (33))] [(0, .ref (Gad G (0))), (1, .int p0), (2, .int p1), (3, .int v3), (4, .int v4), (5, .int v5), (6, .int v6), (7, .int v7)] S := by
  unfold w_X12_lays_54 at hw
  obtain ⟨hin, hw⟩ := hw
  refine Go_iastore (q := 55) C kM_33 hin dX12_lays_54 rfl ?_
  refine Go_S (fun S54_3 e_S54_3 => ?_)
  have hw := hw S54_3 e_S54_3
  have hR := rcM e_S54_3 hR
  refine Go_lvp [0, 1, 2, 3, 4, 5, 6, 7] rfl ?_
  exact g_X12_lays_55 C hQ p0 p1 _ _ _ _ _ hk14 hR hw
set_option maxRecDepth 100000 in
set_option maxHeartbeats 4000000 in
theorem g_X12_lays_14 {G : GC} (C : Cx G cX12_lays BIG RX12 8 none rm_X12_lays shM NM) {Q : St → Prop} (hQ : QV G RCM Q) (p0 : Int32) (p1 : Int32) (v3 : Int32) (v4 : Int32) (v5 : Int32) (v6 : Int32) {S : St} (hR : RCM S) (hw : w_X12_lays_14 p0 p1 Q v3 v4 v5 v6 S) : Go G 8 14 [] [(0, .ref (Gad G (0))), (1, .int p0), (2, .int p1), (3, .int v3), (4, .int v4), (5, .int v5), (6, .int v6)] S := by
  obtain ⟨n, hw⟩ := hw
  induction n generalizing v4 v5 v6 S with
  | zero => exact hw.elim
  | succ n ih =>
    have hw : b_X12_lays_14 p0 p1 Q v3 (lpn (fun _ _ _ _ => False) (b_X12_lays_14 p0 p1 Q v3) n) v4 v5 v6 S := hw
    generalize lpn (fun _ _ _ _ => False) (b_X12_lays_14 p0 p1 Q v3) n = kf at hw ih
    have hk14 := fun (v4 : Int32) (v5 : Int32) (v6 : Int32) (S : St) (hR : RCM S) hw => ih v4 v5 v6 hR hw
    unfold b_X12_lays_14 at hw
    refine Go_iload (q := 16) C 6 rfl dX12_lays_14 rfl ?_
    refine Go_iload_n (q := 17) C 3 rfl dX12_lays_16 rfl ?_
    refine Go_icmp_ge (t := 163) (q := 20) C hw dX12_lays_17 rfl rfl (fun hw => ?_) (fun hw => ?_)
    · exact Go_vret C hQ hR hw dX12_lays_163
    · refine Go_iload (q := 22) C 6 rfl dX12_lays_20 rfl ?_
      refine Go_iconst (q := 23) (v := (2 : Int32)) C dX12_lays_22 rfl rfl ?_
      refine Go_idiv (q := 24) C (by decide) dX12_lays_23 rfl ?_
      refine Go_topi (fun x24_2 e_x24_2 => ?_)
      have hw := hw x24_2 e_x24_2
      refine Go_istore (q := 26) (lv' := [(7, .int x24_2), (0, .ref (Gad G (0))), (1, .int p0), (2, .int p1), (3, .int v3), (4, .int v4), (5, .int v5), (6, .int v6)]) C dX12_lays_24 (by decide) rfl rfl ?_
      refine Go_iload_n (q := 27) C 2 rfl dX12_lays_26 rfl ?_
      refine Go_if_ne (t := 55) (q := 30) C hw dX12_lays_27 rfl rfl (fun hw => ?_) (fun hw => ?_)
      · refine Go_aload_n (q := 31) C 1 rfl dX12_lays_30 rfl ?_
        refine Go_getA (q := 34) (k := 56) C ci12 iw_12 kM_0 (rM_0_56 hR) rfl wm_14_5 rfl dX12_lays_31 rfl ?_
        refine Go_iload (q := 36) C 7 rfl dX12_lays_34 rfl ?_
        refine Go_iload (q := 38) C 7 rfl dX12_lays_36 rfl ?_
        refine Go_iconst (q := 39) (v := (2 : Int32)) C dX12_lays_38 rfl rfl ?_
        refine Go_irem (q := 40) C (by decide) dX12_lays_39 rfl ?_
        refine Go_if_ne (t := 52) (q := 43) C hw dX12_lays_40 rfl rfl (fun hw => ?_) (fun hw => ?_)
        · refine Go_iload_n (q := 44) C 4 rfl dX12_lays_43 rfl ?_
          refine Go_iconst (q := 45) (v := (1 : Int32)) C dX12_lays_44 rfl rfl ?_
          refine Go_isub (q := 46) C dX12_lays_45 rfl ?_
          refine Go_iload (q := 48) C 0 rfl dX12_lays_46 rfl ?_
          refine Go_isub (q := 49) C dX12_lays_48 rfl ?_
          refine Go_goto (q := 54) C dX12_lays_49 rfl ?_
          refine Go_lvp [1, 2, 3, 4, 5, 6, 7, 0] rfl ?_
          exact g_X12_lays_54 C hQ p0 p1 _ _ _ _ _ _ _ hk14 hR hw
        · refine Go_iload (q := 54) C 0 rfl dX12_lays_52 rfl ?_
          refine Go_lvp [1, 2, 3, 4, 5, 6, 7, 0] rfl ?_
          exact g_X12_lays_54 C hQ p0 p1 _ _ _ _ _ _ _ hk14 hR hw
      · refine Go_lvp [1, 2, 3, 4, 5, 6, 7, 0] rfl ?_
        exact g_X12_lays_55 C hQ p0 p1 _ _ _ _ _ hk14 hR hw
set_option maxRecDepth 100000 in
set_option maxHeartbeats 4000000 in
theorem c_X12_lays (l : Launch) {p0 : Int32} {p1 : Int32} {S : St} {Q : St → Prop} (hR : RCM S) (hw : w_X12_lays p0 p1 S Q) : MetV l yX12_lays (wB yX12_lays cX12_lays 8 none) rm_X12_lays shM NM RCM (fun ad => [.ref (ad (0)), .int p0, .int p1]) S Q := by
  refine MetV_of (cc := cX12_lays) (maxL := 8) (ret := none) (plainFor_of_name (by decide)) (fun _ => Nat.le_of_ble_eq_true rfl) (fun G C hl hQ => ?_)
  subst hl
  have C : Cx G cX12_lays BIG RX12 8 none rm_X12_lays shM NM := C
  show Go G 8 0 [] [(0, .ref (Gad G (0))), (1, .int p0), (2, .int p1)] S
  unfold w_X12_lays at hw
  refine Go_aload_n (q := 1) C 0 rfl dX12_lays_0 rfl ?_
  refine Go_getI (q := 4) (k := 25) C ci12 iw_12 kM_0 rfl wm_24_15 rfl dX12_lays_1 rfl ?_
  refine Go_topi (fun x4_1 e_x4_1 => ?_)
  have hw := hw x4_1 e_x4_1
  refine Go_istore_n (q := 5) (lv' := [(3, .int x4_1), (0, .ref (Gad G (0))), (1, .int p0), (2, .int p1)]) C rfl dX12_lays_4 (by decide) rfl rfl ?_
  refine Go_iconst (q := 6) (v := (0 : Int32)) C dX12_lays_5 rfl rfl ?_
  refine Go_istore (q := 8) (lv' := [(4, .int (0 : Int32)), (3, .int x4_1), (0, .ref (Gad G (0))), (1, .int p0), (2, .int p1)]) C dX12_lays_6 (by decide) rfl rfl ?_
  refine Go_iconst (q := 9) (v := (0 : Int32)) C dX12_lays_8 rfl rfl ?_
  refine Go_istore (q := 11) (lv' := [(5, .int (0 : Int32)), (4, .int (0 : Int32)), (3, .int x4_1), (0, .ref (Gad G (0))), (1, .int p0), (2, .int p1)]) C dX12_lays_9 (by decide) rfl rfl ?_
  refine Go_iconst (q := 12) (v := (0 : Int32)) C dX12_lays_11 rfl rfl ?_
  refine Go_istore (q := 14) (lv' := [(6, .int (0 : Int32)), (5, .int (0 : Int32)), (4, .int (0 : Int32)), (3, .int x4_1), (0, .ref (Gad G (0))), (1, .int p0), (2, .int p1)]) C dX12_lays_12 (by decide) rfl rfl ?_
  refine Go_lvp [4, 5, 6, 3, 2, 1, 0] rfl ?_
  exact g_X12_lays_14 C hQ p0 p1 _ _ _ _ hR hw
