-- X12_isPairOn
abbrev rm_X12_isPairOn : Room := { frames := 0, cells := 0, slots := 0, locals := 0 }
set_option maxRecDepth 100000 in
set_option maxHeartbeats 4000000 in
theorem g_X12_isPairOn_56 {G : GC} (C : Cx G cX12_isPairOn BIG RX12 7 (some .boolean) rm_X12_isPairOn shM NM) {Q : Int32 → St → Prop} (hQ : QI G RCM Q) (p0 : Int32) (p1 : Int32) (p2 : Int32) (v4 : Int32) (v5 : Int32) (v6 : Int32) {k3 : Int32 → St → Prop} (hk3 : ∀ (v4 : Int32) (S : St), RCM S → k3 v4 S → Go G 7 3 [] [(0, .ref (Gad G (0))), (1, .int p0), (2, .int p1), (3, .int p2), (4, .int v4)] S) {S : St} (hR : RCM S) (hw : w_X12_isPairOn_56 p0 p1 p2 Q k3 v4 v5 v6 S) : Go G 7 56 [] [(0, .ref (Gad G (0))), (1, .int p0), (2, .int p1), (3, .int p2), (4, .int v4), (5, .int v5), (6, .int v6)] S := by
  unfold w_X12_isPairOn_56 at hw
  refine Go_iload (q := 58) C 5 rfl dX12_isPairOn_56 rfl ?_
  refine Go_iload_n (q := 59) C 3 rfl dX12_isPairOn_58 rfl ?_
  refine Go_icmp_ne (t := 70) (q := 62) C hw dX12_isPairOn_59 rfl rfl (fun hw => ?_) (fun hw => ?_)
  · refine Go_iload (q := 64) C 6 rfl dX12_isPairOn_62 rfl ?_
    refine Go_iload_n (q := 65) C 2 rfl dX12_isPairOn_64 rfl ?_
    refine Go_icmp_ne (t := 70) (q := 68) C hw dX12_isPairOn_65 rfl rfl (fun hw => ?_) (fun hw => ?_)
    · refine Go_iconst (q := 69) (v := (1 : Int32)) C dX12_isPairOn_68 rfl rfl ?_
      exact Go_zret C hQ hR rfl hw dX12_isPairOn_69
    · refine Go_iinc2 (q := 73) (kp := 4) (cst := (1 : Int32)) C dX12_isPairOn_70 rfl rfl (by decide) rfl (fun x70_3 e_x70_3 => ?_)
      have hw := hw x70_3 e_x70_3
      refine Go_lve (lv' := [(4, .int x70_3), (0, .ref (Gad G (0))), (1, .int p0), (2, .int p1), (3, .int p2), (5, .int v5), (6, .int v6)]) rfl ?_
      refine Go_goto (q := 3) C dX12_isPairOn_73 rfl ?_
      refine Go_lvp [1, 2, 3, 4, 0] rfl ?_
      exact hk3 _ _ hR hw
  · refine Go_iinc2 (q := 73) (kp := 4) (cst := (1 : Int32)) C dX12_isPairOn_70 rfl rfl (by decide) rfl (fun x70_4 e_x70_4 => ?_)
    have hw := hw x70_4 e_x70_4
    refine Go_lve (lv' := [(4, .int x70_4), (0, .ref (Gad G (0))), (1, .int p0), (2, .int p1), (3, .int p2), (5, .int v5), (6, .int v6)]) rfl ?_
    refine Go_goto (q := 3) C dX12_isPairOn_73 rfl ?_
    refine Go_lvp [1, 2, 3, 4, 0] rfl ?_
    exact hk3 _ _ hR hw
set_option maxRecDepth 100000 in
set_option maxHeartbeats 4000000 in
theorem g_X12_isPairOn_3 {G : GC} (C : Cx G cX12_isPairOn BIG RX12 7 (some .boolean) rm_X12_isPairOn shM NM) {Q : Int32 → St → Prop} (hQ : QI G RCM Q) (p0 : Int32) (p1 : Int32) (p2 : Int32) (v4 : Int32) {S : St} (hR : RCM S) (hw : w_X12_isPairOn_3 p0 p1 p2 Q v4 S) : Go G 7 3 [] [(0, .ref (Gad G (0))), (1, .int p0), (2, .int p1), (3, .int p2), (4, .int v4)] S := by
  obtain ⟨n, hw⟩ := hw
  induction n generalizing v4 S with
  | zero => exact hw.elim
  | succ n ih =>
    have hw : b_X12_isPairOn_3 p0 p1 p2 Q (lpn (fun _ _ => False) (b_X12_isPairOn_3 p0 p1 p2 Q) n) v4 S := hw
    generalize lpn (fun _ _ => False) (b_X12_isPairOn_3 p0 p1 p2 Q) n = kf at hw ih
    have hk3 := fun (v4 : Int32) (S : St) (hR : RCM S) hw => ih v4 hR hw
    unfold b_X12_isPairOn_3 at hw
    refine Go_iload (q := 5) C 4 rfl dX12_isPairOn_3 rfl ?_
    refine Go_aload_n (q := 6) C 0 rfl dX12_isPairOn_5 rfl ?_
    refine Go_getA (q := 9) (k := 72) C ci12 iw_12 kM_0 (rM_0_72 hR) rfl wm_14_18 rfl dX12_isPairOn_6 rfl ?_
    refine Go_iload_n (q := 10) C 1 rfl dX12_isPairOn_9 rfl ?_
    refine Go_iconst (q := 11) (v := (1 : Int32)) C dX12_isPairOn_10 rfl rfl ?_
    refine Go_iadd (q := 12) C dX12_isPairOn_11 rfl ?_
    obtain ⟨hin, hw⟩ := hw
    refine Go_iaload (q := 13) C kM_46 hin dX12_isPairOn_12 rfl ?_
    refine Go_icmp_ge (t := 76) (q := 16) C hw dX12_isPairOn_13 rfl rfl (fun hw => ?_) (fun hw => ?_)
    · refine Go_iconst (q := 77) (v := (0 : Int32)) C dX12_isPairOn_76 rfl rfl ?_
      exact Go_zret C hQ hR rfl hw dX12_isPairOn_77
    · refine Go_aload_n (q := 17) C 0 rfl dX12_isPairOn_16 rfl ?_
      refine Go_getA (q := 20) (k := 72) C ci12 iw_12 kM_0 (rM_0_72 hR) rfl wm_14_18 rfl dX12_isPairOn_17 rfl ?_
      refine Go_iload_n (q := 21) C 1 rfl dX12_isPairOn_20 rfl ?_
      refine Go_bipush (q := 23) (v := (26 : Int32)) C dX12_isPairOn_21 rfl rfl ?_
      refine Go_iadd (q := 24) C dX12_isPairOn_23 rfl ?_
      refine Go_iload (q := 26) C 4 rfl dX12_isPairOn_24 rfl ?_
      refine Go_iadd (q := 27) C dX12_isPairOn_26 rfl ?_
      obtain ⟨hin, hw⟩ := hw
      refine Go_iaload (q := 28) C kM_46 hin dX12_isPairOn_27 rfl ?_
      refine Go_topi (fun x28_1 e_x28_1 => ?_)
      have hw := hw x28_1 e_x28_1
      refine Go_istore (q := 30) (lv' := [(5, .int x28_1), (0, .ref (Gad G (0))), (1, .int p0), (2, .int p1), (3, .int p2), (4, .int v4)]) C dX12_isPairOn_28 (by decide) rfl rfl ?_
      refine Go_aload_n (q := 31) C 1 rfl dX12_isPairOn_30 rfl ?_
      refine Go_getA (q := 34) (k := 72) C ci12 iw_12 kM_0 (rM_0_72 hR) rfl wm_14_18 rfl dX12_isPairOn_31 rfl ?_
      refine Go_iload_n (q := 35) C 2 rfl dX12_isPairOn_34 rfl ?_
      refine Go_bipush (q := 37) (v := (34 : Int32)) C dX12_isPairOn_35 rfl rfl ?_
      refine Go_iadd (q := 38) C dX12_isPairOn_37 rfl ?_
      refine Go_iload (q := 40) C 5 rfl dX12_isPairOn_38 rfl ?_
      refine Go_iadd (q := 41) C dX12_isPairOn_40 rfl ?_
      obtain ⟨hin, hw⟩ := hw
      refine Go_iaload (q := 42) C kM_46 hin dX12_isPairOn_41 rfl ?_
      refine Go_topi (fun x42_2 e_x42_2 => ?_)
      have hw := hw x42_2 e_x42_2
      refine Go_istore (q := 44) (lv' := [(6, .int x42_2), (5, .int x28_1), (0, .ref (Gad G (0))), (1, .int p0), (2, .int p1), (3, .int p2), (4, .int v4)]) C dX12_isPairOn_42 (by decide) rfl rfl ?_
      refine Go_iload (q := 46) C 1 rfl dX12_isPairOn_44 rfl ?_
      refine Go_iload_n (q := 47) C 4 rfl dX12_isPairOn_46 rfl ?_
      refine Go_icmp_ne (t := 56) (q := 50) C hw dX12_isPairOn_47 rfl rfl (fun hw => ?_) (fun hw => ?_)
      · refine Go_iload (q := 52) C 0 rfl dX12_isPairOn_50 rfl ?_
        refine Go_iload_n (q := 53) C 5 rfl dX12_isPairOn_52 rfl ?_
        refine Go_icmp_eq (t := 68) (q := 56) C hw dX12_isPairOn_53 rfl rfl (fun hw => ?_) (fun hw => ?_)
        · refine Go_iconst (q := 69) (v := (1 : Int32)) C dX12_isPairOn_68 rfl rfl ?_
          exact Go_zret C hQ hR rfl hw dX12_isPairOn_69
        · refine Go_lvp [2, 3, 4, 5, 6, 1, 0] rfl ?_
          exact g_X12_isPairOn_56 C hQ p0 p1 p2 _ _ _ hk3 hR hw
      · refine Go_lvp [2, 3, 4, 5, 6, 1, 0] rfl ?_
        exact g_X12_isPairOn_56 C hQ p0 p1 p2 _ _ _ hk3 hR hw
set_option maxRecDepth 100000 in
set_option maxHeartbeats 4000000 in
theorem c_X12_isPairOn (l : Launch) {p0 : Int32} {p1 : Int32} {p2 : Int32} {S : St} {Q : Int32 → St → Prop} (hR : RCM S) (hw : w_X12_isPairOn p0 p1 p2 S Q) : MetI l yX12_isPairOn (wB yX12_isPairOn cX12_isPairOn 7 (some .boolean)) rm_X12_isPairOn shM NM RCM (fun ad => [.ref (ad (0)), .int p0, .int p1, .int p2]) S Q := by
  refine MetI_of (cc := cX12_isPairOn) (maxL := 7) (ret := (some .boolean)) (plainFor_of_name (by decide)) (fun _ => Nat.le_of_ble_eq_true rfl) (fun G C hl hQ => ?_)
  subst hl
  have C : Cx G cX12_isPairOn BIG RX12 7 (some .boolean) rm_X12_isPairOn shM NM := C
  show Go G 7 0 [] [(0, .ref (Gad G (0))), (1, .int p0), (2, .int p1), (3, .int p2)] S
  unfold w_X12_isPairOn at hw
  refine Go_iconst (q := 1) (v := (0 : Int32)) C dX12_isPairOn_0 rfl rfl ?_
  refine Go_istore (q := 3) (lv' := [(4, .int (0 : Int32)), (0, .ref (Gad G (0))), (1, .int p0), (2, .int p1), (3, .int p2)]) C dX12_isPairOn_1 (by decide) rfl rfl ?_
  refine Go_lvp [1, 2, 3, 4, 0] rfl ?_
  exact g_X12_isPairOn_3 C hQ p0 p1 p2 _ hR hw
-- X12_friends
abbrev rm_X12_friends : Room := { frames := 1, cells := 0, slots := 0, locals := 26 }
set_option maxRecDepth 100000 in
set_option maxHeartbeats 4000000 in
theorem g_X12_friends_54 {G : GC} (C : Cx G cX12_friends BIG RX12 5 (some .int) rm_X12_friends shM NM) {Q : Int32 → St → Prop} (hQ : QI G RCM Q) (p0 : Int32) (p1 : Int32) (v4 : Int32) (t0 : Int32) (t1 : Int32) {k5 : Int32 → Int32 → St → Prop} (hk5 : ∀ (v3 : Int32) (v4 : Int32) (S : St), RCM S → k5 v3 v4 S → Go G 5 5 [] [(0, .ref (Gad G (0))), (1, .int p0), (2, .int p1), (3, .int v3), (4, .int v4)] S) {S : St} (hR : RCM S) (hw : w_X12_friends_54 p0 p1 k5 v4 t0 t1 S) : Go G 5 54 [.int t0, .int t1] [(0, .ref (Gad G (0))), (1, .int p0), (2, .int p1), (4, .int v4)] S := by
  unfold w_X12_friends_54 at hw
  refine Go_iadd (q := 55) C dX12_friends_54 rfl ?_
  refine Go_topi (fun x55_1 e_x55_1 => ?_)
  have hw := hw x55_1 e_x55_1
  refine Go_istore_n (q := 56) (lv' := [(3, .int x55_1), (0, .ref (Gad G (0))), (1, .int p0), (2, .int p1), (4, .int v4)]) C rfl dX12_friends_55 (by decide) rfl rfl ?_
  refine Go_iinc2 (q := 59) (kp := 4) (cst := (1 : Int32)) C dX12_friends_56 rfl rfl (by decide) rfl (fun x56_2 e_x56_2 => ?_)
  have hw := hw x56_2 e_x56_2
  refine Go_lve (lv' := [(4, .int x56_2), (3, .int x55_1), (0, .ref (Gad G (0))), (1, .int p0), (2, .int p1)]) rfl ?_
  refine Go_goto (q := 5) C dX12_friends_59 rfl ?_
  refine Go_lvp [2, 3, 4, 1, 0] rfl ?_
  exact hk5 _ _ _ hR hw
set_option maxRecDepth 100000 in
set_option maxHeartbeats 4000000 in
theorem g_X12_friends_53 {G : GC} (C : Cx G cX12_friends BIG RX12 5 (some .int) rm_X12_friends shM NM) {Q : Int32 → St → Prop} (hQ : QI G RCM Q) (p0 : Int32) (p1 : Int32) (v4 : Int32) (t0 : Int32) {k5 : Int32 → Int32 → St → Prop} (hk5 : ∀ (v3 : Int32) (v4 : Int32) (S : St), RCM S → k5 v3 v4 S → Go G 5 5 [] [(0, .ref (Gad G (0))), (1, .int p0), (2, .int p1), (3, .int v3), (4, .int v4)] S) {S : St} (hR : RCM S) (hw : w_X12_friends_53 p0 p1 k5 v4 t0 S) : Go G 5 53 [.int t0] [(0, .ref (Gad G (0))), (1, .int p0), (2, .int p1), (4, .int v4)] S := by
  unfold w_X12_friends_53 at hw
  refine Go_iconst (q := 54) (v := (0 : Int32)) C dX12_friends_53 rfl rfl ?_
  refine Go_lvp [0, 1, 2, 3] rfl ?_
  exact g_X12_friends_54 C hQ p0 p1 _ _ _ hk5 hR hw
set_option maxRecDepth 100000 in
set_option maxHeartbeats 4000000 in
theorem g_X12_friends_49 {G : GC} (C : Cx G cX12_friends BIG RX12 5 (some .int) rm_X12_friends shM NM) {Q : Int32 → St → Prop} (hQ : QI G RCM Q) (p0 : Int32) (p1 : Int32) (v4 : Int32) (t0 : Int32) {k5 : Int32 → Int32 → St → Prop} (hk5 : ∀ (v3 : Int32) (v4 : Int32) (S : St), RCM S → k5 v3 v4 S → Go G 5 5 [] [(0, .ref (Gad G (0))), (1, .int p0), (2, .int p1), (3, .int v3), (4, .int v4)] S) {S : St} (hR : RCM S) (hw : w_X12_friends_49 p0 p1 k5 v4 t0 S) : Go G 5 49 [.int t0] [(0, .ref (Gad G (0))), (1, .int p0), (2, .int p1), (4, .int v4)] S := by
  unfold w_X12_friends_49 at hw
  refine Go_iconst (q := 50) (v := (1 : Int32)) C dX12_friends_49 rfl rfl ?_
  refine Go_goto (q := 54) C dX12_friends_50 rfl ?_
  refine Go_lvp [0, 1, 2, 3] rfl ?_
  exact g_X12_friends_54 C hQ p0 p1 _ _ _ hk5 hR hw
set_option maxRecDepth 100000 in
set_option maxHeartbeats 4000000 in
theorem g_X12_friends_5 {G : GC} (C : Cx G cX12_friends BIG RX12 5 (some .int) rm_X12_friends shM NM) {Q : Int32 → St → Prop} (hQ : QI G RCM Q) (p0 : Int32) (p1 : Int32) (v3 : Int32) (v4 : Int32) {S : St} (hR : RCM S) (hw : w_X12_friends_5 p0 p1 Q v3 v4 S) : Go G 5 5 [] [(0, .ref (Gad G (0))), (1, .int p0), (2, .int p1), (3, .int v3), (4, .int v4)] S := by
  obtain ⟨n, hw⟩ := hw
  induction n generalizing v3 v4 S with
  | zero => exact hw.elim
  | succ n ih =>
    have hw : b_X12_friends_5 p0 p1 Q (lpn (fun _ _ _ => False) (b_X12_friends_5 p0 p1 Q) n) v3 v4 S := hw
    generalize lpn (fun _ _ _ => False) (b_X12_friends_5 p0 p1 Q) n = kf at hw ih
    have hk5 := fun (v3 : Int32) (v4 : Int32) (S : St) (hR : RCM S) hw => ih v3 v4 hR hw
    unfold b_X12_friends_5 at hw
    refine Go_iload (q := 7) C 4 rfl dX12_friends_5 rfl ?_
    refine Go_aload_n (q := 8) C 0 rfl dX12_friends_7 rfl ?_
    refine Go_getI (q := 11) (k := 10) C ci12 iw_12 kM_0 rfl wm_14_20 rfl dX12_friends_8 rfl ?_
    refine Go_icmp_ge (t := 62) (q := 14) C hw dX12_friends_11 rfl rfl (fun hw => ?_) (fun hw => ?_)
    · refine Go_iload_n (q := 63) C 3 rfl dX12_friends_62 rfl ?_
      exact Go_iret C hQ hR hw dX12_friends_63
    · refine Go_iload_n (q := 15) C 3 rfl dX12_friends_14 rfl ?_
      refine Go_iload (q := 17) C 4 rfl dX12_friends_15 rfl ?_
      refine Go_iload_n (q := 18) C 2 rfl dX12_friends_17 rfl ?_
      refine Go_icmp_eq (t := 53) (q := 21) C hw dX12_friends_18 rfl rfl (fun hw => ?_) (fun hw => ?_)
      · refine Go_lvp [0, 1, 2, 4] rfl ?_
        exact g_X12_friends_53 C hQ p0 p1 _ _ hk5 hR hw
      · refine Go_iload_n (q := 22) C 1 rfl dX12_friends_21 rfl ?_
        refine Go_if_ge (t := 38) (q := 25) C hw dX12_friends_22 rfl rfl (fun hw => ?_) (fun hw => ?_)
        · refine Go_aload_n (q := 39) C 0 rfl dX12_friends_38 rfl ?_
          refine Go_iload_n (q := 40) C 1 rfl dX12_friends_39 rfl ?_
          refine Go_iload_n (q := 41) C 2 rfl dX12_friends_40 rfl ?_
          refine Go_iload (q := 43) C 4 rfl dX12_friends_41 rfl ?_
          refine Go_callV_I (av := (fun ad => [.int p0, .int p1, .int v4])) (st := [.int v3]) (C := C) (hM := c_X12_isPairOn (Gl G) hR hw) (hlk := wm_51_12) (hini := wm_1_5) (hins := wm_51_13) (hsel := wm_51_14) (hcode := wm_51_15) (ho := kM_0) (hci := rfl) (hc13 := by decide) (n := 3) (hd := by decide +kernel) (hr0 := ⟨rfl, rfl⟩) (hroom := ⟨by first | decide | (dsimp only; omega), by first | decide | (dsimp only; omega)⟩) (hlen := rfl) (hst := rfl) (hW := Nat.le_of_ble_eq_true rfl) (hdg := dX12_friends_43) (q := 46) (hq := rfl) (fun r43_4 S43_3 hw hR => ?_)
          refine Go_if_eq (t := 53) (q := 49) C hw dX12_friends_46 rfl rfl (fun hw => ?_) (fun hw => ?_)
          · refine Go_lvp [0, 1, 2, 4] rfl ?_
            exact g_X12_friends_53 C hQ p0 p1 _ _ hk5 hR hw
          · refine Go_lvp [0, 1, 2, 4] rfl ?_
            exact g_X12_friends_49 C hQ p0 p1 _ _ hk5 hR hw
        · refine Go_aload_n (q := 26) C 0 rfl dX12_friends_25 rfl ?_
          refine Go_iload_n (q := 27) C 2 rfl dX12_friends_26 rfl ?_
          refine Go_iload (q := 29) C 4 rfl dX12_friends_27 rfl ?_
          refine Go_callV_I (av := (fun ad => [.int p1, .int v4])) (st := [.int v3]) (C := C) (hM := c_X12_isPair (Gl G) hR hw) (hlk := wm_51_8) (hini := wm_1_5) (hins := wm_51_9) (hsel := wm_51_10) (hcode := wm_51_11) (ho := kM_0) (hci := rfl) (hc13 := by decide) (n := 2) (hd := by decide +kernel) (hr0 := ⟨rfl, rfl⟩) (hroom := ⟨by first | decide | (dsimp only; omega), by first | decide | (dsimp only; omega)⟩) (hlen := rfl) (hst := rfl) (hW := Nat.le_of_ble_eq_true rfl) (hdg := dX12_friends_29) (q := 32) (hq := rfl) (fun r29_6 S29_5 hw hR => ?_)
          refine Go_if_eq (t := 53) (q := 35) C hw dX12_friends_32 rfl rfl (fun hw => ?_) (fun hw => ?_)
          · refine Go_lvp [0, 1, 2, 4] rfl ?_
            exact g_X12_friends_53 C hQ p0 p1 _ _ hk5 hR hw
          · refine Go_goto (q := 49) C dX12_friends_35 rfl ?_
            refine Go_lvp [0, 1, 2, 4] rfl ?_
            exact g_X12_friends_49 C hQ p0 p1 _ _ hk5 hR hw
set_option maxRecDepth 100000 in
set_option maxHeartbeats 4000000 in
theorem c_X12_friends (l : Launch) {p0 : Int32} {p1 : Int32} {S : St} {Q : Int32 → St → Prop} (hR : RCM S) (hw : w_X12_friends p0 p1 S Q) : MetI l yX12_friends (wB yX12_friends cX12_friends 5 (some .int)) rm_X12_friends shM NM RCM (fun ad => [.ref (ad (0)), .int p0, .int p1]) S Q := by
  refine MetI_of (cc := cX12_friends) (maxL := 5) (ret := (some .int)) (plainFor_of_name (by decide)) (fun _ => Nat.le_of_ble_eq_true rfl) (fun G C hl hQ => ?_)
  subst hl
  have C : Cx G cX12_friends BIG RX12 5 (some .int) rm_X12_friends shM NM := C
  show Go G 5 0 [] [(0, .ref (Gad G (0))), (1, .int p0), (2, .int p1)] S
  unfold w_X12_friends at hw
  refine Go_iconst (q := 1) (v := (0 : Int32)) C dX12_friends_0 rfl rfl ?_
  refine Go_istore_n (q := 2) (lv' := [(3, .int (0 : Int32)), (0, .ref (Gad G (0))), (1, .int p0), (2, .int p1)]) C rfl dX12_friends_1 (by decide) rfl rfl ?_
  refine Go_iconst (q := 3) (v := (0 : Int32)) C dX12_friends_2 rfl rfl ?_
  refine Go_istore (q := 5) (lv' := [(4, .int (0 : Int32)), (3, .int (0 : Int32)), (0, .ref (Gad G (0))), (1, .int p0), (2, .int p1)]) C dX12_friends_3 (by decide) rfl rfl ?_
  refine Go_lvp [2, 3, 4, 1, 0] rfl ?_
  exact g_X12_friends_5 C hQ p0 p1 _ _ hR hw
-- X12_mayBe
abbrev rm_X12_mayBe : Room := { frames := 2, cells := 0, slots := 0, locals := 50 }
set_option maxRecDepth 100000 in
set_option maxHeartbeats 4000000 in
theorem g_X12_mayBe_204 {G : GC} (C : Cx G cX12_mayBe BIG RX12 5 (some .boolean) rm_X12_mayBe shM NM) {Q : Int32 → St → Prop} (hQ : QI G RCM Q) (p0 : Int32) (p1 : Int32) (p2 : Int32) (v4 : Int32) (t0 : Int32) (t1 : Int32) {k77 : Int32 → St → Prop} (hk77 : ∀ (v4 : Int32) (S : St), RCM S → k77 v4 S → Go G 5 77 [] [(0, .ref (Gad G (0))), (1, .int p0), (2, .int p1), (3, .int p2), (4, .int v4)] S) {S : St} (hR : RCM S) (hw : w_X12_mayBe_204 p0 p1 p2 Q k77 v4 t0 t1 S) : Go G 5 204 [.int t0, .int t1] [(0, .ref (Gad G (0))), (1, .int p0), (2, .int p1), (3, .int p2), (4, .int v4)] S := by
  unfold w_X12_mayBe_204 at hw
  refine Go_icmp_eq (t := 209) (q := 207) C hw dX12_mayBe_204 rfl rfl (fun hw => ?_) (fun hw => ?_)
  · refine Go_iinc2 (q := 212) (kp := 4) (cst := (1 : Int32)) C dX12_mayBe_209 rfl rfl (by decide) rfl (fun x209_9 e_x209_9 => ?_)
    have hw := hw x209_9 e_x209_9
    refine Go_lve (lv' := [(4, .int x209_9), (0, .ref (Gad G (0))), (1, .int p0), (2, .int p1), (3, .int p2)]) rfl ?_
    refine Go_goto (q := 77) C dX12_mayBe_212 rfl ?_
    refine Go_lvp [1, 2, 3, 4, 0] rfl ?_
    exact hk77 _ _ hR hw
  · refine Go_iconst (q := 208) (v := (0 : Int32)) C dX12_mayBe_207 rfl rfl ?_
    exact Go_zret C hQ hR rfl hw dX12_mayBe_208
set_option maxRecDepth 100000 in
set_option maxHeartbeats 4000000 in
theorem g_X12_mayBe_179 {G : GC} (C : Cx G cX12_mayBe BIG RX12 5 (some .boolean) rm_X12_mayBe shM NM) {Q : Int32 → St → Prop} (hQ : QI G RCM Q) (p0 : Int32) (p1 : Int32) (p2 : Int32) (v4 : Int32) (t0 : Int32) {k77 : Int32 → St → Prop} (hk77 : ∀ (v4 : Int32) (S : St), RCM S → k77 v4 S → Go G 5 77 [] [(0, .ref (Gad G (0))), (1, .int p0), (2, .int p1), (3, .int p2), (4, .int v4)] S) {S : St} (hR : RCM S) (hw : w_X12_mayBe_179 p0 p1 p2 Q k77 v4 t0 S) : Go G 5 179 [.int t0] [(0, .ref (Gad G (0))), (1, .int p0), (2, .int p1), (3, .int p2), (4, .int v4)] S := by
  unfold w_X12_mayBe_179 at hw
  refine Go_aload_n (q := 180) C 0 rfl dX12_mayBe_179 rfl ?_
  refine Go_getA (q := 183) (k := 72) C ci12 iw_12 kM_0 (rM_0_72 hR) rfl wm_14_18 rfl dX12_mayBe_180 rfl ?_
  refine Go_iload_n (q := 184) C 1 rfl dX12_mayBe_183 rfl ?_
  refine Go_iconst (q := 185) (v := (2 : Int32)) C dX12_mayBe_184 rfl rfl ?_
  refine Go_iadd (q := 186) C dX12_mayBe_185 rfl ?_
  refine Go_aload_n (q := 187) C 0 rfl dX12_mayBe_186 rfl ?_
  refine Go_getA (q := 190) (k := 74) C ci12 iw_12 kM_0 (rM_0_74 hR) rfl wm_14_19 rfl dX12_mayBe_187 rfl ?_
  refine Go_iload (q := 192) C 4 rfl dX12_mayBe_190 rfl ?_
  obtain ⟨hin, hw⟩ := hw
  refine Go_iaload (q := 193) C kM_47 hin dX12_mayBe_192 rfl ?_
  refine Go_iadd (q := 194) C dX12_mayBe_193 rfl ?_
  obtain ⟨hin, hw⟩ := hw
  refine Go_iaload (q := 195) C kM_46 hin dX12_mayBe_194 rfl ?_
  refine Go_iload_n (q := 196) C 3 rfl dX12_mayBe_195 rfl ?_
  refine Go_icmp_ne (t := 203) (q := 199) C hw dX12_mayBe_196 rfl rfl (fun hw => ?_) (fun hw => ?_)
  · refine Go_iconst (q := 200) (v := (1 : Int32)) C dX12_mayBe_199 rfl rfl ?_
    refine Go_goto (q := 204) C dX12_mayBe_200 rfl ?_
    refine Go_lvp [0, 1, 2, 3, 4] rfl ?_
    exact g_X12_mayBe_204 C hQ p0 p1 p2 _ _ _ hk77 hR hw
  · refine Go_iconst (q := 204) (v := (0 : Int32)) C dX12_mayBe_203 rfl rfl ?_
    refine Go_lvp [0, 1, 2, 3, 4] rfl ?_
    exact g_X12_mayBe_204 C hQ p0 p1 p2 _ _ _ hk77 hR hw
set_option maxRecDepth 100000 in
set_option maxHeartbeats 4000000 in
theorem g_X12_mayBe_160 {G : GC} (C : Cx G cX12_mayBe BIG RX12 5 (some .boolean) rm_X12_mayBe shM NM) {Q : Int32 → St → Prop} (hQ : QI G RCM Q) (p0 : Int32) (p1 : Int32) (p2 : Int32) (v4 : Int32) (t0 : Int32) (t1 : Int32) {k77 : Int32 → St → Prop} (hk77 : ∀ (v4 : Int32) (S : St), RCM S → k77 v4 S → Go G 5 77 [] [(0, .ref (Gad G (0))), (1, .int p0), (2, .int p1), (3, .int p2), (4, .int v4)] S) {S : St} (hR : RCM S) (hw : w_X12_mayBe_160 p0 p1 p2 Q k77 v4 t0 t1 S) : Go G 5 160 [.int t0, .int t1] [(0, .ref (Gad G (0))), (1, .int p0), (2, .int p1), (3, .int p2), (4, .int v4)] S := by
  unfold w_X12_mayBe_160 at hw
  refine Go_icmp_ne (t := 207) (q := 163) C hw dX12_mayBe_160 rfl rfl (fun hw => ?_) (fun hw => ?_)
  · refine Go_aload_n (q := 164) C 0 rfl dX12_mayBe_163 rfl ?_
    refine Go_getA (q := 167) (k := 17) C ci12 iw_12 kM_0 (rM_0_17 hR) rfl wm_12_21 rfl dX12_mayBe_164 rfl ?_
    refine Go_iload (q := 169) C 4 rfl dX12_mayBe_167 rfl ?_
    obtain ⟨hin, hw⟩ := hw
    refine Go_iaload (q := 170) C kM_2 hin dX12_mayBe_169 rfl ?_
    refine Go_iload_n (q := 171) C 2 rfl dX12_mayBe_170 rfl ?_
    refine Go_icmp_ne (t := 178) (q := 174) C hw dX12_mayBe_171 rfl rfl (fun hw => ?_) (fun hw => ?_)
    · refine Go_iconst (q := 175) (v := (1 : Int32)) C dX12_mayBe_174 rfl rfl ?_
      refine Go_goto (q := 179) C dX12_mayBe_175 rfl ?_
      refine Go_lvp [0, 1, 2, 3, 4] rfl ?_
      exact g_X12_mayBe_179 C hQ p0 p1 p2 _ _ hk77 hR hw
    · refine Go_iconst (q := 179) (v := (0 : Int32)) C dX12_mayBe_178 rfl rfl ?_
      refine Go_lvp [0, 1, 2, 3, 4] rfl ?_
      exact g_X12_mayBe_179 C hQ p0 p1 p2 _ _ hk77 hR hw
  · refine Go_iconst (q := 208) (v := (0 : Int32)) C dX12_mayBe_207 rfl rfl ?_
    exact Go_zret C hQ hR rfl hw dX12_mayBe_208
set_option maxRecDepth 100000 in
set_option maxHeartbeats 4000000 in
theorem g_X12_mayBe_135 {G : GC} (C : Cx G cX12_mayBe BIG RX12 5 (some .boolean) rm_X12_mayBe shM NM) {Q : Int32 → St → Prop} (hQ : QI G RCM Q) (p0 : Int32) (p1 : Int32) (p2 : Int32) (v4 : Int32) (t0 : Int32) {k77 : Int32 → St → Prop} (hk77 : ∀ (v4 : Int32) (S : St), RCM S → k77 v4 S → Go G 5 77 [] [(0, .ref (Gad G (0))), (1, .int p0), (2, .int p1), (3, .int p2), (4, .int v4)] S) {S : St} (hR : RCM S) (hw : w_X12_mayBe_135 p0 p1 p2 Q k77 v4 t0 S) : Go G 5 135 [.int t0] [(0, .ref (Gad G (0))), (1, .int p0), (2, .int p1), (3, .int p2), (4, .int v4)] S := by
  unfold w_X12_mayBe_135 at hw
  refine Go_aload_n (q := 136) C 0 rfl dX12_mayBe_135 rfl ?_
  refine Go_getA (q := 139) (k := 72) C ci12 iw_12 kM_0 (rM_0_72 hR) rfl wm_14_18 rfl dX12_mayBe_136 rfl ?_
  refine Go_iload_n (q := 140) C 1 rfl dX12_mayBe_139 rfl ?_
  refine Go_iconst (q := 141) (v := (2 : Int32)) C dX12_mayBe_140 rfl rfl ?_
  refine Go_iadd (q := 142) C dX12_mayBe_141 rfl ?_
  refine Go_iload_n (q := 143) C 3 rfl dX12_mayBe_142 rfl ?_
  refine Go_iadd (q := 144) C dX12_mayBe_143 rfl ?_
  obtain ⟨hin, hw⟩ := hw
  refine Go_iaload (q := 145) C kM_46 hin dX12_mayBe_144 rfl ?_
  refine Go_aload_n (q := 146) C 0 rfl dX12_mayBe_145 rfl ?_
  refine Go_getA (q := 149) (k := 74) C ci12 iw_12 kM_0 (rM_0_74 hR) rfl wm_14_19 rfl dX12_mayBe_146 rfl ?_
  refine Go_iload (q := 151) C 4 rfl dX12_mayBe_149 rfl ?_
  obtain ⟨hin, hw⟩ := hw
  refine Go_iaload (q := 152) C kM_47 hin dX12_mayBe_151 rfl ?_
  refine Go_icmp_ne (t := 159) (q := 155) C hw dX12_mayBe_152 rfl rfl (fun hw => ?_) (fun hw => ?_)
  · refine Go_iconst (q := 156) (v := (1 : Int32)) C dX12_mayBe_155 rfl rfl ?_
    refine Go_goto (q := 160) C dX12_mayBe_156 rfl ?_
    refine Go_lvp [0, 1, 2, 3, 4] rfl ?_
    exact g_X12_mayBe_160 C hQ p0 p1 p2 _ _ _ hk77 hR hw
  · refine Go_iconst (q := 160) (v := (0 : Int32)) C dX12_mayBe_159 rfl rfl ?_
    refine Go_lvp [0, 1, 2, 3, 4] rfl ?_
    exact g_X12_mayBe_160 C hQ p0 p1 p2 _ _ _ hk77 hR hw
set_option maxRecDepth 100000 in
set_option maxHeartbeats 4000000 in
theorem g_X12_mayBe_77 {G : GC} (C : Cx G cX12_mayBe BIG RX12 5 (some .boolean) rm_X12_mayBe shM NM) {Q : Int32 → St → Prop} (hQ : QI G RCM Q) (p0 : Int32) (p1 : Int32) (p2 : Int32) (v4 : Int32) {S : St} (hR : RCM S) (hw : w_X12_mayBe_77 p0 p1 p2 Q v4 S) : Go G 5 77 [] [(0, .ref (Gad G (0))), (1, .int p0), (2, .int p1), (3, .int p2), (4, .int v4)] S := by
  obtain ⟨n, hw⟩ := hw
  induction n generalizing v4 S with
  | zero => exact hw.elim
  | succ n ih =>
    have hw : b_X12_mayBe_77 p0 p1 p2 Q (lpn (fun _ _ => False) (b_X12_mayBe_77 p0 p1 p2 Q) n) v4 S := hw
    generalize lpn (fun _ _ => False) (b_X12_mayBe_77 p0 p1 p2 Q) n = kf at hw ih
    have hk77 := fun (v4 : Int32) (S : St) (hR : RCM S) hw => ih v4 hR hw
    unfold b_X12_mayBe_77 at hw
    refine Go_iload (q := 79) C 4 rfl dX12_mayBe_77 rfl ?_
    refine Go_iload_n (q := 80) C 2 rfl dX12_mayBe_79 rfl ?_
    refine Go_icmp_ge (t := 215) (q := 83) C hw dX12_mayBe_80 rfl rfl (fun hw => ?_) (fun hw => ?_)
    · refine Go_iconst (q := 216) (v := (1 : Int32)) C dX12_mayBe_215 rfl rfl ?_
      exact Go_zret C hQ hR rfl hw dX12_mayBe_216
    · refine Go_aload_n (q := 84) C 0 rfl dX12_mayBe_83 rfl ?_
      refine Go_getA (q := 87) (k := 74) C ci12 iw_12 kM_0 (rM_0_74 hR) rfl wm_14_19 rfl dX12_mayBe_84 rfl ?_
      refine Go_iload (q := 89) C 4 rfl dX12_mayBe_87 rfl ?_
      obtain ⟨hin, hw⟩ := hw
      refine Go_iaload (q := 90) C kM_47 hin dX12_mayBe_89 rfl ?_
      refine Go_iload_n (q := 91) C 3 rfl dX12_mayBe_90 rfl ?_
      refine Go_icmp_eq (t := 117) (q := 94) C hw dX12_mayBe_91 rfl rfl (fun hw => ?_) (fun hw => ?_)
      · refine Go_iconst (q := 118) (v := (0 : Int32)) C dX12_mayBe_117 rfl rfl ?_
        exact Go_zret C hQ hR rfl hw dX12_mayBe_118
      · refine Go_aload_n (q := 95) C 0 rfl dX12_mayBe_94 rfl ?_
        refine Go_iload (q := 97) C 4 rfl dX12_mayBe_95 rfl ?_
        refine Go_iload_n (q := 98) C 2 rfl dX12_mayBe_97 rfl ?_
        refine Go_callV_I (av := (fun ad => [.int v4, .int p1])) (st := []) (C := C) (hM := c_X12_isPair (Gl G) hR hw) (hlk := wm_51_8) (hini := wm_1_5) (hins := wm_51_9) (hsel := wm_51_10) (hcode := wm_51_11) (ho := kM_0) (hci := rfl) (hc13 := by decide) (n := 2) (hd := by decide +kernel) (hr0 := ⟨rfl, rfl⟩) (hroom := ⟨by first | decide | (dsimp only; omega), by first | decide | (dsimp only; omega)⟩) (hlen := rfl) (hst := rfl) (hW := Nat.le_of_ble_eq_true rfl) (hdg := dX12_mayBe_98) (q := 101) (hq := rfl) (fun r98_6 S98_5 hw hR => ?_)
        refine Go_aload_n (q := 102) C 0 rfl dX12_mayBe_101 rfl ?_
        refine Go_iload_n (q := 103) C 1 rfl dX12_mayBe_102 rfl ?_
        refine Go_aload_n (q := 104) C 0 rfl dX12_mayBe_103 rfl ?_
        refine Go_getA (q := 107) (k := 74) C ci12 iw_12 kM_0 (rM_0_74 hR) rfl wm_14_19 rfl dX12_mayBe_104 rfl ?_
        refine Go_iload (q := 109) C 4 rfl dX12_mayBe_107 rfl ?_
        obtain ⟨hin, hw⟩ := hw
        refine Go_iaload (q := 110) C kM_47 hin dX12_mayBe_109 rfl ?_
        refine Go_iload_n (q := 111) C 3 rfl dX12_mayBe_110 rfl ?_
        refine Go_callV_I (av := (fun ad => [.int p0, .int (gI S98_5 47 v4.toNatClampNeg), .int p2])) (st := [.int r98_6]) (C := C) (hM := c_X12_isPairOn (Gl G) hR hw) (hlk := wm_51_12) (hini := wm_1_5) (hins := wm_51_13) (hsel := wm_51_14) (hcode := wm_51_15) (ho := kM_0) (hci := rfl) (hc13 := by decide) (n := 3) (hd := by decide +kernel) (hr0 := ⟨rfl, rfl⟩) (hroom := ⟨by first | decide | (dsimp only; omega), by first | decide | (dsimp only; omega)⟩) (hlen := rfl) (hst := rfl) (hW := Nat.le_of_ble_eq_true rfl) (hdg := dX12_mayBe_111) (q := 114) (hq := rfl) (fun r111_8 S111_7 hw hR => ?_)
        refine Go_icmp_eq (t := 119) (q := 117) C hw dX12_mayBe_114 rfl rfl (fun hw => ?_) (fun hw => ?_)
        · refine Go_aload_n (q := 120) C 0 rfl dX12_mayBe_119 rfl ?_
          refine Go_getA (q := 123) (k := 17) C ci12 iw_12 kM_0 (rM_0_17 hR) rfl wm_12_21 rfl dX12_mayBe_120 rfl ?_
          refine Go_iload_n (q := 124) C 2 rfl dX12_mayBe_123 rfl ?_
          obtain ⟨hin, hw⟩ := hw
          refine Go_iaload (q := 125) C kM_2 hin dX12_mayBe_124 rfl ?_
          refine Go_iload (q := 127) C 4 rfl dX12_mayBe_125 rfl ?_
          refine Go_icmp_ne (t := 134) (q := 130) C hw dX12_mayBe_127 rfl rfl (fun hw => ?_) (fun hw => ?_)
          · refine Go_iconst (q := 131) (v := (1 : Int32)) C dX12_mayBe_130 rfl rfl ?_
            refine Go_goto (q := 135) C dX12_mayBe_131 rfl ?_
            refine Go_lvp [0, 1, 2, 3, 4] rfl ?_
            exact g_X12_mayBe_135 C hQ p0 p1 p2 _ _ hk77 hR hw
          · refine Go_iconst (q := 135) (v := (0 : Int32)) C dX12_mayBe_134 rfl rfl ?_
            refine Go_lvp [0, 1, 2, 3, 4] rfl ?_
            exact g_X12_mayBe_135 C hQ p0 p1 p2 _ _ hk77 hR hw
        · refine Go_iconst (q := 118) (v := (0 : Int32)) C dX12_mayBe_117 rfl rfl ?_
          exact Go_zret C hQ hR rfl hw dX12_mayBe_118
set_option maxRecDepth 100000 in
set_option maxHeartbeats 4000000 in
theorem g_X12_mayBe_69 {G : GC} (C : Cx G cX12_mayBe BIG RX12 5 (some .boolean) rm_X12_mayBe shM NM) {Q : Int32 → St → Prop} (hQ : QI G RCM Q) (p0 : Int32) (p1 : Int32) (p2 : Int32) (t0 : Int32) (t1 : Int32) {S : St} (hR : RCM S) (hw : w_X12_mayBe_69 p0 p1 p2 Q t0 t1 S) : Go G 5 69 [.int t0, .int t1] [(0, .ref (Gad G (0))), (1, .int p0), (2, .int p1), (3, .int p2)] S := by
  unfold w_X12_mayBe_69 at hw
  refine Go_icmp_eq (t := 74) (q := 72) C hw dX12_mayBe_69 rfl rfl (fun hw => ?_) (fun hw => ?_)
  · refine Go_iconst (q := 75) (v := (0 : Int32)) C dX12_mayBe_74 rfl rfl ?_
    refine Go_istore (q := 77) (lv' := [(4, .int (0 : Int32)), (0, .ref (Gad G (0))), (1, .int p0), (2, .int p1), (3, .int p2)]) C dX12_mayBe_75 (by decide) rfl rfl ?_
    refine Go_lvp [1, 2, 3, 4, 0] rfl ?_
    exact g_X12_mayBe_77 C hQ p0 p1 p2 _ hR hw
  · refine Go_iconst (q := 73) (v := (0 : Int32)) C dX12_mayBe_72 rfl rfl ?_
    exact Go_zret C hQ hR rfl hw dX12_mayBe_73
set_option maxRecDepth 100000 in
set_option maxHeartbeats 4000000 in
theorem g_X12_mayBe_50 {G : GC} (C : Cx G cX12_mayBe BIG RX12 5 (some .boolean) rm_X12_mayBe shM NM) {Q : Int32 → St → Prop} (hQ : QI G RCM Q) (p0 : Int32) (p1 : Int32) (p2 : Int32) (t0 : Int32) {S : St} (hR : RCM S) (hw : w_X12_mayBe_50 p0 p1 p2 Q t0 S) : Go G 5 50 [.int t0] [(0, .ref (Gad G (0))), (1, .int p0), (2, .int p1), (3, .int p2)] S := by
  unfold w_X12_mayBe_50 at hw
  refine Go_aload_n (q := 51) C 0 rfl dX12_mayBe_50 rfl ?_
  refine Go_getA (q := 54) (k := 72) C ci12 iw_12 kM_0 (rM_0_72 hR) rfl wm_14_18 rfl dX12_mayBe_51 rfl ?_
  refine Go_iload_n (q := 55) C 1 rfl dX12_mayBe_54 rfl ?_
  refine Go_iconst (q := 56) (v := (2 : Int32)) C dX12_mayBe_55 rfl rfl ?_
  refine Go_iadd (q := 57) C dX12_mayBe_56 rfl ?_
  refine Go_iload_n (q := 58) C 3 rfl dX12_mayBe_57 rfl ?_
  refine Go_iadd (q := 59) C dX12_mayBe_58 rfl ?_
  obtain ⟨hin, hw⟩ := hw
  refine Go_iaload (q := 60) C kM_46 hin dX12_mayBe_59 rfl ?_
  refine Go_iload_n (q := 61) C 3 rfl dX12_mayBe_60 rfl ?_
  refine Go_icmp_ne (t := 68) (q := 64) C hw dX12_mayBe_61 rfl rfl (fun hw => ?_) (fun hw => ?_)
  · refine Go_iconst (q := 65) (v := (1 : Int32)) C dX12_mayBe_64 rfl rfl ?_
    refine Go_goto (q := 69) C dX12_mayBe_65 rfl ?_
    refine Go_lvp [0, 1, 2, 3] rfl ?_
    exact g_X12_mayBe_69 C hQ p0 p1 p2 _ _ hR hw
  · refine Go_iconst (q := 69) (v := (0 : Int32)) C dX12_mayBe_68 rfl rfl ?_
    refine Go_lvp [0, 1, 2, 3] rfl ?_
    exact g_X12_mayBe_69 C hQ p0 p1 p2 _ _ hR hw
set_option maxRecDepth 100000 in
set_option maxHeartbeats 4000000 in
theorem c_X12_mayBe (l : Launch) {p0 : Int32} {p1 : Int32} {p2 : Int32} {S : St} {Q : Int32 → St → Prop} (hR : RCM S) (hw : w_X12_mayBe p0 p1 p2 S Q) : MetI l yX12_mayBe (wB yX12_mayBe cX12_mayBe 5 (some .boolean)) rm_X12_mayBe shM NM RCM (fun ad => [.ref (ad (0)), .int p0, .int p1, .int p2]) S Q := by
  refine MetI_of (cc := cX12_mayBe) (maxL := 5) (ret := (some .boolean)) (plainFor_of_name (by decide)) (fun _ => Nat.le_of_ble_eq_true rfl) (fun G C hl hQ => ?_)
  subst hl
  have C : Cx G cX12_mayBe BIG RX12 5 (some .boolean) rm_X12_mayBe shM NM := C
  show Go G 5 0 [] [(0, .ref (Gad G (0))), (1, .int p0), (2, .int p1), (3, .int p2)] S
  unfold w_X12_mayBe at hw
  refine Go_aload_n (q := 1) C 0 rfl dX12_mayBe_0 rfl ?_
  refine Go_getA (q := 4) (k := 20) C ci12 iw_12 kM_0 (rM_0_20 hR) rfl wm_13_0 rfl dX12_mayBe_1 rfl ?_
  refine Go_iload_n (q := 5) C 2 rfl dX12_mayBe_4 rfl ?_
  obtain ⟨hin, hw⟩ := hw
  refine Go_iaload (q := 6) C kM_5 hin dX12_mayBe_5 rfl ?_
  refine Go_aload_n (q := 7) C 0 rfl dX12_mayBe_6 rfl ?_
  refine Go_getA (q := 10) (k := 72) C ci12 iw_12 kM_0 (rM_0_72 hR) rfl wm_14_18 rfl dX12_mayBe_7 rfl ?_
  refine Go_iload_n (q := 11) C 1 rfl dX12_mayBe_10 rfl ?_
  refine Go_bipush (q := 13) (v := (14 : Int32)) C dX12_mayBe_11 rfl rfl ?_
  refine Go_iadd (q := 14) C dX12_mayBe_13 rfl ?_
  refine Go_iload_n (q := 15) C 3 rfl dX12_mayBe_14 rfl ?_
  refine Go_iadd (q := 16) C dX12_mayBe_15 rfl ?_
  obtain ⟨hin, hw⟩ := hw
  refine Go_iaload (q := 17) C kM_46 hin dX12_mayBe_16 rfl ?_
  refine Go_icmp_ne (t := 72) (q := 20) C hw dX12_mayBe_17 rfl rfl (fun hw => ?_) (fun hw => ?_)
  · refine Go_aload_n (q := 21) C 0 rfl dX12_mayBe_20 rfl ?_
    refine Go_iconst (q := 22) (v := (-1 : Int32)) C dX12_mayBe_21 rfl rfl ?_
    refine Go_iload_n (q := 23) C 2 rfl dX12_mayBe_22 rfl ?_
    refine Go_callV_I (av := (fun ad => [.int (-1 : Int32), .int p1])) (st := []) (C := C) (hM := c_X12_friends (Gl G)  hR hw) (hlk := wm_51_4) (hini := wm_1_5) (hins := wm_51_5) (hsel := wm_51_6) (hcode := wm_51_7) (ho := kM_0) (hci := rfl) (hc13 := by decide) (n := 2) (hd := by decide +kernel) (hr0 := ⟨rfl, rfl⟩) (hroom := ⟨by first | decide | (dsimp only; omega), by first | decide | (dsimp only; omega)⟩) (hlen := rfl) (hst := rfl) (hW := Nat.le_of_ble_eq_true rfl) (hdg := dX12_mayBe_23) (q := 26) (hq := rfl) (fun r23_2 S23_1 hw hR => ?_)
    refine Go_aload_n (q := 27) C 0 rfl dX12_mayBe_26 rfl ?_
    refine Go_iload_n (q := 28) C 1 rfl dX12_mayBe_27 rfl ?_
    refine Go_iload_n (q := 29) C 3 rfl dX12_mayBe_28 rfl ?_
    refine Go_callV_I (av := (fun ad => [.int p0, .int p2])) (st := [.int r23_2]) (C := C) (hM := c_X12_friends (Gl G)  hR hw) (hlk := wm_51_4) (hini := wm_1_5) (hins := wm_51_5) (hsel := wm_51_6) (hcode := wm_51_7) (ho := kM_0) (hci := rfl) (hc13 := by decide) (n := 2) (hd := by decide +kernel) (hr0 := ⟨rfl, rfl⟩) (hroom := ⟨by first | decide | (dsimp only; omega), by first | decide | (dsimp only; omega)⟩) (hlen := rfl) (hst := rfl) (hW := Nat.le_of_ble_eq_true rfl) (hdg := dX12_mayBe_29) (q := 32) (hq := rfl) (fun r29_4 S29_3 hw hR => ?_)
    refine Go_icmp_ne (t := 72) (q := 35) C hw dX12_mayBe_32 rfl rfl (fun hw => ?_) (fun hw => ?_)
    · refine Go_aload_n (q := 36) C 0 rfl dX12_mayBe_35 rfl ?_
      refine Go_getA (q := 39) (k := 17) C ci12 iw_12 kM_0 (rM_0_17 hR) rfl wm_12_21 rfl dX12_mayBe_36 rfl ?_
      refine Go_iload_n (q := 40) C 2 rfl dX12_mayBe_39 rfl ?_
      obtain ⟨hin, hw⟩ := hw
      refine Go_iaload (q := 41) C kM_2 hin dX12_mayBe_40 rfl ?_
      refine Go_iload_n (q := 42) C 2 rfl dX12_mayBe_41 rfl ?_
      refine Go_icmp_ne (t := 49) (q := 45) C hw dX12_mayBe_42 rfl rfl (fun hw => ?_) (fun hw => ?_)
      · refine Go_iconst (q := 46) (v := (1 : Int32)) C dX12_mayBe_45 rfl rfl ?_
        refine Go_goto (q := 50) C dX12_mayBe_46 rfl ?_
        refine Go_lvp [0, 1, 2, 3] rfl ?_
        exact g_X12_mayBe_50 C hQ p0 p1 p2 _ hR hw
      · refine Go_iconst (q := 50) (v := (0 : Int32)) C dX12_mayBe_49 rfl rfl ?_
        refine Go_lvp [0, 1, 2, 3] rfl ?_
        exact g_X12_mayBe_50 C hQ p0 p1 p2 _ hR hw
    · refine Go_iconst (q := 73) (v := (0 : Int32)) C dX12_mayBe_72 rfl rfl ?_
      exact Go_zret C hQ hR rfl hw dX12_mayBe_73
  · refine Go_iconst (q := 73) (v := (0 : Int32)) C dX12_mayBe_72 rfl rfl ?_
    exact Go_zret C hQ hR rfl hw dX12_mayBe_73
-- X12_names
abbrev rm_X12_names (d : Nat) : Room := { frames := d * 16, cells := 0, slots := 0, locals := d * 700 }

set_option maxRecDepth 100000 in
set_option maxHeartbeats 4000000 in
theorem g_X12_names_12 {G : GC} {d : Nat} (C : Cx G cX12_names BIG RX12 4 (some .boolean) (rm_X12_names (d + 1)) shM NM) {Q : Int32 → St → Prop} (hQ : QI G RCM Q) {rec : Int32 → Int32 → St → (Int32 → St → Prop) → Prop} (hrec : ∀ {p0 : Int32} {p1 : Int32} {S : St} {Q : Int32 → St → Prop}, RCM S → rec p0 p1 S Q → MetI (Gl G) yX12_names (wB yX12_names cX12_names 4 (some .boolean)) (rm_X12_names d) shM NM RCM (fun ad => [.ref (ad (0)), .int p0, .int p1]) S Q) (p0 : Int32) (p1 : Int32) (v3 : Int32) {S : St} (hR : RCM S) (hw : w_X12_names_12 p0 p1 rec Q v3 S) : Go G 4 12 [] [(0, .ref (Gad G (0))), (1, .int p0), (2, .int p1), (3, .int v3)] S := by
  obtain ⟨n, hw⟩ := hw
  induction n generalizing v3 S with
  | zero => exact hw.elim
  | succ n ih =>
    have hw : b_X12_names_12 p0 p1 rec Q (lpn (fun _ _ => False) (b_X12_names_12 p0 p1 rec Q) n) v3 S := hw
    generalize lpn (fun _ _ => False) (b_X12_names_12 p0 p1 rec Q) n = kf at hw ih
    have hk12 := fun (v3 : Int32) (S : St) (hR : RCM S) hw => ih v3 hR hw
    unfold b_X12_names_12 at hw
    refine Go_iload_n (q := 13) C 3 rfl dX12_names_12 rfl ?_
    refine Go_aload_n (q := 14) C 0 rfl dX12_names_13 rfl ?_
    refine Go_getI (q := 17) (k := 10) C ci12 iw_12 kM_0 rfl wm_14_20 rfl dX12_names_14 rfl ?_
    refine Go_icmp_ge (t := 59) (q := 20) C hw dX12_names_17 rfl rfl (fun hw => ?_) (fun hw => ?_)
    · refine Go_iconst (q := 60) (v := (0 : Int32)) C dX12_names_59 rfl rfl ?_
      exact Go_zret C hQ hR rfl hw dX12_names_60
    · refine Go_aload_n (q := 21) C 0 rfl dX12_names_20 rfl ?_
      refine Go_iload_n (q := 22) C 1 rfl dX12_names_21 rfl ?_
      refine Go_iload_n (q := 23) C 2 rfl dX12_names_22 rfl ?_
      refine Go_iload_n (q := 24) C 3 rfl dX12_names_23 rfl ?_
      refine Go_callV_I (av := (fun ad => [.int p0, .int p1, .int v3])) (st := []) (C := C) (hM := c_X12_mayBe (Gl G) hR hw) (hlk := wm_51_0) (hini := wm_1_5) (hins := wm_51_1) (hsel := wm_51_2) (hcode := wm_51_3) (ho := kM_0) (hci := rfl) (hc13 := by decide) (n := 3) (hd := by decide +kernel) (hr0 := ⟨rfl, rfl⟩) (hroom := ⟨by first | decide | (dsimp only; omega), by first | decide | (dsimp only; omega)⟩) (hlen := rfl) (hst := rfl) (hW := Nat.le_of_ble_eq_true rfl) (hdg := dX12_names_24) (q := 27) (hq := rfl) (fun r24_2 S24_1 hw hR => ?_)
      refine Go_if_ne (t := 33) (q := 30) C hw dX12_names_27 rfl rfl (fun hw => ?_) (fun hw => ?_)
      · refine Go_goto (q := 53) C dX12_names_30 rfl ?_
        refine Go_iinc2 (q := 56) (kp := 3) (cst := (1 : Int32)) C dX12_names_53 rfl rfl (by decide) rfl (fun x53_3 e_x53_3 => ?_)
        have hw := hw x53_3 e_x53_3
        refine Go_lve (lv' := [(3, .int x53_3), (0, .ref (Gad G (0))), (1, .int p0), (2, .int p1)]) rfl ?_
        refine Go_goto (q := 12) C dX12_names_56 rfl ?_
        refine Go_lvp [1, 2, 3, 0] rfl ?_
        exact hk12 _ _ hR hw
      · refine Go_aload_n (q := 34) C 0 rfl dX12_names_33 rfl ?_
        refine Go_getA (q := 37) (k := 74) C ci12 iw_12 kM_0 (rM_0_74 hR) rfl wm_14_19 rfl dX12_names_34 rfl ?_
        refine Go_iload_n (q := 38) C 2 rfl dX12_names_37 rfl ?_
        refine Go_iload_n (q := 39) C 3 rfl dX12_names_38 rfl ?_
        obtain ⟨hin, hw⟩ := hw
        refine Go_iastore (q := 40) C kM_47 hin dX12_names_39 rfl ?_
        refine Go_S (fun S39_4 e_S39_4 => ?_)
        have hw := hw S39_4 e_S39_4
        have hR := rcM e_S39_4 hR
        refine Go_aload_n (q := 41) C 0 rfl dX12_names_40 rfl ?_
        refine Go_iload_n (q := 42) C 1 rfl dX12_names_41 rfl ?_
        refine Go_iload_n (q := 43) C 2 rfl dX12_names_42 rfl ?_
        refine Go_iconst (q := 44) (v := (1 : Int32)) C dX12_names_43 rfl rfl ?_
        refine Go_iadd (q := 45) C dX12_names_44 rfl ?_
        refine Go_callV_I (av := (fun ad => [.int p0, .int (p1 + (1 : Int32))])) (st := []) (C := C) (hM := hrec hR hw) (hlk := wm_50_20) (hini := wm_1_5) (hins := wm_50_21) (hsel := wm_50_22) (hcode := wm_50_23) (ho := kM_0) (hci := rfl) (hc13 := by decide) (n := 2) (hd := by decide +kernel) (hr0 := ⟨rfl, rfl⟩) (hroom := ⟨by first | decide | (dsimp only; omega), by first | decide | (dsimp only; omega)⟩) (hlen := rfl) (hst := rfl) (hW := Nat.le_of_ble_eq_true rfl) (hdg := dX12_names_45) (q := 48) (hq := rfl) (fun r45_6 S45_5 hw hR => ?_)
        refine Go_if_eq (t := 53) (q := 51) C hw dX12_names_48 rfl rfl (fun hw => ?_) (fun hw => ?_)
        · refine Go_iinc2 (q := 56) (kp := 3) (cst := (1 : Int32)) C dX12_names_53 rfl rfl (by decide) rfl (fun x53_7 e_x53_7 => ?_)
          have hw := hw x53_7 e_x53_7
          refine Go_lve (lv' := [(3, .int x53_7), (0, .ref (Gad G (0))), (1, .int p0), (2, .int p1)]) rfl ?_
          refine Go_goto (q := 12) C dX12_names_56 rfl ?_
          refine Go_lvp [1, 2, 3, 0] rfl ?_
          exact hk12 _ _ hR hw
        · refine Go_iconst (q := 52) (v := (1 : Int32)) C dX12_names_51 rfl rfl ?_
          exact Go_zret C hQ hR rfl hw dX12_names_52
set_option maxRecDepth 100000 in
set_option maxHeartbeats 4000000 in
theorem h_X12_names (l : Launch) {d : Nat} {rec : Int32 → Int32 → St → (Int32 → St → Prop) → Prop} (hrec : ∀ {p0 : Int32} {p1 : Int32} {S : St} {Q : Int32 → St → Prop}, RCM S → rec p0 p1 S Q → MetI l yX12_names (wB yX12_names cX12_names 4 (some .boolean)) (rm_X12_names d) shM NM RCM (fun ad => [.ref (ad (0)), .int p0, .int p1]) S Q) {p0 : Int32} {p1 : Int32} {S : St} {Q : Int32 → St → Prop} (hR : RCM S) (hw : u_X12_names rec p0 p1 S Q) : MetI l yX12_names (wB yX12_names cX12_names 4 (some .boolean)) (rm_X12_names (d + 1)) shM NM RCM (fun ad => [.ref (ad (0)), .int p0, .int p1]) S Q := by
  refine MetI_of (cc := cX12_names) (maxL := 4) (ret := (some .boolean)) (plainFor_of_name (by decide)) (fun _ => Nat.le_of_ble_eq_true rfl) (fun G C hl hQ => ?_)
  subst hl
  have C : Cx G cX12_names BIG RX12 4 (some .boolean) (rm_X12_names (d + 1)) shM NM := C
  show Go G 4 0 [] [(0, .ref (Gad G (0))), (1, .int p0), (2, .int p1)] S
  unfold u_X12_names at hw
  refine Go_iload_n (q := 1) C 2 rfl dX12_names_0 rfl ?_
  refine Go_aload_n (q := 2) C 0 rfl dX12_names_1 rfl ?_
  refine Go_getI (q := 5) (k := 10) C ci12 iw_12 kM_0 rfl wm_14_20 rfl dX12_names_2 rfl ?_
  refine Go_icmp_ne (t := 10) (q := 8) C hw dX12_names_5 rfl rfl (fun hw => ?_) (fun hw => ?_)
  · refine Go_iconst (q := 9) (v := (1 : Int32)) C dX12_names_8 rfl rfl ?_
    exact Go_zret C hQ hR rfl hw dX12_names_9
  · refine Go_iconst (q := 11) (v := (0 : Int32)) C dX12_names_10 rfl rfl ?_
    refine Go_istore_n (q := 12) (lv' := [(3, .int (0 : Int32)), (0, .ref (Gad G (0))), (1, .int p0), (2, .int p1)]) C rfl dX12_names_11 (by decide) rfl rfl ?_
    refine Go_lvp [1, 2, 3, 0] rfl ?_
    exact g_X12_names_12 C hQ @hrec p0 p1 _ hR hw
theorem c_X12_names (l : Launch) : ∀ (d : Nat) {p0 : Int32} {p1 : Int32} {S : St} {Q : Int32 → St → Prop}, RCM S → w_X12_names d p0 p1 S Q → MetI l yX12_names (wB yX12_names cX12_names 4 (some .boolean)) (rm_X12_names d) shM NM RCM (fun ad => [.ref (ad (0)), .int p0, .int p1]) S Q := by
  intro d
  induction d with
  | zero => intro _ _ _ _ _ hw; exact hw.elim
  | succ d ih => intro p0 p1 S Q hR hw; exact h_X12_names l (d := d) (rec := w_X12_names d) @ih  hR hw
-- X12_areSame
abbrev rm_X12_areSame : Room := { frames := 513, cells := 0, slots := 0, locals := 22423 }
set_option maxRecDepth 100000 in
set_option maxHeartbeats 4000000 in
theorem c_X12_areSame (l : Launch) {p0 : Int32} {S : St} {Q : Int32 → St → Prop} (hR : RCM S) (hw : w_X12_areSame p0 S Q) : MetI l yX12_areSame (wB yX12_areSame cX12_areSame 2 (some .boolean)) rm_X12_areSame shM NM RCM (fun ad => [.ref (ad (0)), .int p0]) S Q := by
  refine MetI_of (cc := cX12_areSame) (maxL := 2) (ret := (some .boolean)) (plainFor_of_name (by decide)) (fun _ => Nat.le_of_ble_eq_true rfl) (fun G C hl hQ => ?_)
  subst hl
  have C : Cx G cX12_areSame BIG RX12 2 (some .boolean) rm_X12_areSame shM NM := C
  show Go G 2 0 [] [(0, .ref (Gad G (0))), (1, .int p0)] S
  unfold w_X12_areSame at hw
  refine Go_aload_n (q := 1) C 0 rfl dX12_areSame_0 rfl ?_
  refine Go_getA (q := 4) (k := 72) C ci12 iw_12 kM_0 (rM_0_72 hR) rfl wm_14_18 rfl dX12_areSame_1 rfl ?_
  refine Go_sipush (q := 7) (v := (500 : Int32)) C dX12_areSame_4 rfl rfl ?_
  refine Go_iload_n (q := 8) C 1 rfl dX12_areSame_7 rfl ?_
  refine Go_imul (q := 9) C dX12_areSame_8 rfl ?_
  obtain ⟨hin, hw⟩ := hw
  refine Go_iaload (q := 10) C kM_46 hin dX12_areSame_9 rfl ?_
  refine Go_aload_n (q := 11) C 0 rfl dX12_areSame_10 rfl ?_
  refine Go_getI (q := 14) (k := 10) C ci12 iw_12 kM_0 rfl wm_14_20 rfl dX12_areSame_11 rfl ?_
  refine Go_icmp_ne (t := 34) (q := 17) C hw dX12_areSame_14 rfl rfl (fun hw => ?_) (fun hw => ?_)
  · refine Go_aload_n (q := 18) C 0 rfl dX12_areSame_17 rfl ?_
    refine Go_sipush (q := 21) (v := (500 : Int32)) C dX12_areSame_18 rfl rfl ?_
    refine Go_iload_n (q := 22) C 1 rfl dX12_areSame_21 rfl ?_
    refine Go_imul (q := 23) C dX12_areSame_22 rfl ?_
    refine Go_iconst (q := 24) (v := (0 : Int32)) C dX12_areSame_23 rfl rfl ?_
    obtain ⟨d24_3, hle_d24_3, hw⟩ := hw
    refine Go_callV_I (av := (fun ad => [.int ((500 : Int32) * p0), .int (0 : Int32)])) (st := []) (C := C) (hM := c_X12_names (Gl G) d24_3  hR hw) (hlk := wm_50_20) (hini := wm_1_5) (hins := wm_50_21) (hsel := wm_50_22) (hcode := wm_50_23) (ho := kM_0) (hci := rfl) (hc13 := by decide) (n := 2) (hd := by decide +kernel) (hr0 := ⟨rfl, rfl⟩) (hroom := ⟨by first | decide | (dsimp only; omega), by first | decide | (dsimp only; omega)⟩) (hlen := rfl) (hst := rfl) (hW := Nat.le_of_ble_eq_true rfl) (hdg := dX12_areSame_24) (q := 27) (hq := rfl) (fun r24_2 S24_1 hw hR => ?_)
    refine Go_if_eq (t := 34) (q := 30) C hw dX12_areSame_27 rfl rfl (fun hw => ?_) (fun hw => ?_)
    · refine Go_iconst (q := 35) (v := (0 : Int32)) C dX12_areSame_34 rfl rfl ?_
      exact Go_zret C hQ hR rfl hw dX12_areSame_35
    · refine Go_iconst (q := 31) (v := (1 : Int32)) C dX12_areSame_30 rfl rfl ?_
      refine Go_goto (q := 35) C dX12_areSame_31 rfl ?_
      exact Go_zret C hQ hR rfl hw dX12_areSame_35
  · refine Go_iconst (q := 35) (v := (0 : Int32)) C dX12_areSame_34 rfl rfl ?_
    exact Go_zret C hQ hR rfl hw dX12_areSame_35
-- X12_same
abbrev rm_X12_same : Room := { frames := 514, cells := 0, slots := 0, locals := 22444 }
set_option maxRecDepth 100000 in
set_option maxHeartbeats 4000000 in
theorem c_X12_same (l : Launch) {p0 : Int32} {S : St} {Q : Int32 → St → Prop} (hR : RCM S) (hw : w_X12_same p0 S Q) : MetI l yX12_same (wB yX12_same cX12_same 2 (some .int)) rm_X12_same shM NM RCM (fun ad => [.ref (ad (0)), .int p0]) S Q := by
  refine MetI_of (cc := cX12_same) (maxL := 2) (ret := (some .int)) (plainFor_of_name (by decide)) (fun _ => Nat.le_of_ble_eq_true rfl) (fun G C hl hQ => ?_)
  subst hl
  have C : Cx G cX12_same BIG RX12 2 (some .int) rm_X12_same shM NM := C
  show Go G 2 0 [] [(0, .ref (Gad G (0))), (1, .int p0)] S
  unfold w_X12_same at hw
  refine Go_aload_n (q := 1) C 0 rfl dX12_same_0 rfl ?_
  refine Go_iconst (q := 2) (v := (0 : Int32)) C dX12_same_1 rfl rfl ?_
  refine Go_putI (q := 5) (k := 0) C ci12 iw_12 kM_0 rfl wm_15_14 rfl rfl (ci12.2.2.2.1 0 (by decide)) rfl rfl dX12_same_2 rfl ?_
  refine Go_S (fun S2_1 e_S2_1 => ?_)
  have hw := hw S2_1 e_S2_1
  have hR := rcM e_S2_1 hR
  refine Go_iload_n (q := 6) C 1 rfl dX12_same_5 rfl ?_
  refine Go_iconst (q := 7) (v := (0 : Int32)) C dX12_same_6 rfl rfl ?_
  refine Go_iconst (q := 8) (v := (3 : Int32)) C dX12_same_7 rfl rfl ?_
  refine Go_callS_I (av := (fun ad => [.int p0, .int (0 : Int32), .int (3 : Int32)])) (st := []) (C := C) (hM := c_X12_within (Gl G)  hR hw) (hlk := wm_27_1) (hini := wm_1_5) (hst2 := wm_27_2) (hcode := wm_27_3) (n := 3) (hd := by decide +kernel) (hr0 := ⟨rfl, rfl⟩) (hroom := ⟨by first | decide | (dsimp only; omega), by first | decide | (dsimp only; omega)⟩) (hlen := rfl) (hst := rfl) (hW := Nat.le_of_ble_eq_true rfl) (hdg := dX12_same_8) (q := 11) (hq := rfl) (fun r8_3 S8_2 hw hR => ?_)
  refine Go_if_eq (t := 39) (q := 14) C hw dX12_same_11 rfl rfl (fun hw => ?_) (fun hw => ?_)
  · refine Go_iconst (q := 40) (v := (-1 : Int32)) C dX12_same_39 rfl rfl ?_
    exact Go_iret C hQ hR hw dX12_same_40
  · refine Go_aload_n (q := 15) C 0 rfl dX12_same_14 rfl ?_
    refine Go_getA (q := 18) (k := 71) C ci12 iw_12 kM_0 (rM_0_71 hR) rfl wm_14_17 rfl dX12_same_15 rfl ?_
    refine Go_iload_n (q := 19) C 1 rfl dX12_same_18 rfl ?_
    obtain ⟨hin, hw⟩ := hw
    refine Go_zaload (q := 20) C kM_45 hin dX12_same_19 rfl ?_
    refine Go_if_eq (t := 39) (q := 23) C hw dX12_same_20 rfl rfl (fun hw => ?_) (fun hw => ?_)
    · refine Go_iconst (q := 40) (v := (-1 : Int32)) C dX12_same_39 rfl rfl ?_
      exact Go_iret C hQ hR hw dX12_same_40
    · refine Go_aload_n (q := 24) C 0 rfl dX12_same_23 rfl ?_
      refine Go_iload_n (q := 25) C 1 rfl dX12_same_24 rfl ?_
      refine Go_callV_I (av := (fun ad => [.int p0])) (st := []) (C := C) (hM := c_X12_areSame (Gl G)  hR hw) (hlk := wm_50_16) (hini := wm_1_5) (hins := wm_50_17) (hsel := wm_50_18) (hcode := wm_50_19) (ho := kM_0) (hci := rfl) (hc13 := by decide) (n := 1) (hd := by decide +kernel) (hr0 := ⟨rfl, rfl⟩) (hroom := ⟨by first | decide | (dsimp only; omega), by first | decide | (dsimp only; omega)⟩) (hlen := rfl) (hst := rfl) (hW := Nat.le_of_ble_eq_true rfl) (hdg := dX12_same_25) (q := 28) (hq := rfl) (fun r25_5 S25_4 hw hR => ?_)
      refine Go_if_eq (t := 35) (q := 31) C hw dX12_same_28 rfl rfl (fun hw => ?_) (fun hw => ?_)
      · refine Go_iconst (q := 36) (v := (0 : Int32)) C dX12_same_35 rfl rfl ?_
        refine Go_goto (q := 40) C dX12_same_36 rfl ?_
        exact Go_iret C hQ hR hw dX12_same_40
      · refine Go_iconst (q := 32) (v := (1 : Int32)) C dX12_same_31 rfl rfl ?_
        refine Go_goto (q := 40) C dX12_same_32 rfl ?_
        exact Go_iret C hQ hR hw dX12_same_40
-- X12_renamed
abbrev rm_X12_renamed : Room := { frames := 514, cells := 0, slots := 0, locals := 22444 }
set_option maxRecDepth 100000 in
set_option maxHeartbeats 4000000 in
theorem c_X12_renamed (l : Launch) {p0 : Int32} {p1 : Int32} {S : St} {Q : Int32 → St → Prop} (hR : RCM S) (hw : w_X12_renamed p0 p1 S Q) : MetI l yX12_renamed (wB yX12_renamed cX12_renamed 3 (some .int)) rm_X12_renamed shM NM RCM (fun ad => [.ref (ad (0)), .int p0, .int p1]) S Q := by
  refine MetI_of (cc := cX12_renamed) (maxL := 3) (ret := (some .int)) (plainFor_of_name (by decide)) (fun _ => Nat.le_of_ble_eq_true rfl) (fun G C hl hQ => ?_)
  subst hl
  have C : Cx G cX12_renamed BIG RX12 3 (some .int) rm_X12_renamed shM NM := C
  show Go G 3 0 [] [(0, .ref (Gad G (0))), (1, .int p0), (2, .int p1)] S
  unfold w_X12_renamed at hw
  refine Go_aload_n (q := 1) C 0 rfl dX12_renamed_0 rfl ?_
  refine Go_iconst (q := 2) (v := (0 : Int32)) C dX12_renamed_1 rfl rfl ?_
  refine Go_putI (q := 5) (k := 0) C ci12 iw_12 kM_0 rfl wm_15_14 rfl rfl (ci12.2.2.2.1 0 (by decide)) rfl rfl dX12_renamed_2 rfl ?_
  refine Go_S (fun S2_1 e_S2_1 => ?_)
  have hw := hw S2_1 e_S2_1
  have hR := rcM e_S2_1 hR
  refine Go_iload_n (q := 6) C 1 rfl dX12_renamed_5 rfl ?_
  refine Go_iconst (q := 7) (v := (0 : Int32)) C dX12_renamed_6 rfl rfl ?_
  refine Go_iconst (q := 8) (v := (3 : Int32)) C dX12_renamed_7 rfl rfl ?_
  refine Go_callS_I (av := (fun ad => [.int p0, .int (0 : Int32), .int (3 : Int32)])) (st := []) (C := C) (hM := c_X12_within (Gl G)  hR hw) (hlk := wm_27_1) (hini := wm_1_5) (hst2 := wm_27_2) (hcode := wm_27_3) (n := 3) (hd := by decide +kernel) (hr0 := ⟨rfl, rfl⟩) (hroom := ⟨by first | decide | (dsimp only; omega), by first | decide | (dsimp only; omega)⟩) (hlen := rfl) (hst := rfl) (hW := Nat.le_of_ble_eq_true rfl) (hdg := dX12_renamed_8) (q := 11) (hq := rfl) (fun r8_3 S8_2 hw hR => ?_)
  refine Go_if_eq (t := 48) (q := 14) C hw dX12_renamed_11 rfl rfl (fun hw => ?_) (fun hw => ?_)
  · refine Go_iconst (q := 49) (v := (-1 : Int32)) C dX12_renamed_48 rfl rfl ?_
    exact Go_iret C hQ hR hw dX12_renamed_49
  · refine Go_aload_n (q := 15) C 0 rfl dX12_renamed_14 rfl ?_
    refine Go_getA (q := 18) (k := 71) C ci12 iw_12 kM_0 (rM_0_71 hR) rfl wm_14_17 rfl dX12_renamed_15 rfl ?_
    refine Go_iload_n (q := 19) C 1 rfl dX12_renamed_18 rfl ?_
    obtain ⟨hin, hw⟩ := hw
    refine Go_zaload (q := 20) C kM_45 hin dX12_renamed_19 rfl ?_
    refine Go_if_eq (t := 48) (q := 23) C hw dX12_renamed_20 rfl rfl (fun hw => ?_) (fun hw => ?_)
    · refine Go_iconst (q := 49) (v := (-1 : Int32)) C dX12_renamed_48 rfl rfl ?_
      exact Go_iret C hQ hR hw dX12_renamed_49
    · refine Go_aload_n (q := 24) C 0 rfl dX12_renamed_23 rfl ?_
      refine Go_iload_n (q := 25) C 2 rfl dX12_renamed_24 rfl ?_
      refine Go_callV_I (av := (fun ad => [.int p1])) (st := []) (C := C) (hM := c_X12_isPlace (Gl G)  hR hw) (hlk := wm_31_22) (hini := wm_1_5) (hins := wm_31_23) (hsel := wm_32_0) (hcode := wm_32_1) (ho := kM_0) (hci := rfl) (hc13 := by decide) (n := 1) (hd := by decide +kernel) (hr0 := ⟨rfl, rfl⟩) (hroom := ⟨by first | decide | (dsimp only; omega), by first | decide | (dsimp only; omega)⟩) (hlen := rfl) (hst := rfl) (hW := Nat.le_of_ble_eq_true rfl) (hdg := dX12_renamed_25) (q := 28) (hq := rfl) (fun r25_5 S25_4 hw hR => ?_)
      refine Go_if_eq (t := 48) (q := 31) C hw dX12_renamed_28 rfl rfl (fun hw => ?_) (fun hw => ?_)
      · refine Go_iconst (q := 49) (v := (-1 : Int32)) C dX12_renamed_48 rfl rfl ?_
        exact Go_iret C hQ hR hw dX12_renamed_49
      · refine Go_aload_n (q := 32) C 0 rfl dX12_renamed_31 rfl ?_
        refine Go_iload_n (q := 33) C 1 rfl dX12_renamed_32 rfl ?_
        refine Go_callV_I (av := (fun ad => [.int p0])) (st := []) (C := C) (hM := c_X12_areSame (Gl G)  hR hw) (hlk := wm_50_16) (hini := wm_1_5) (hins := wm_50_17) (hsel := wm_50_18) (hcode := wm_50_19) (ho := kM_0) (hci := rfl) (hc13 := by decide) (n := 1) (hd := by decide +kernel) (hr0 := ⟨rfl, rfl⟩) (hroom := ⟨by first | decide | (dsimp only; omega), by first | decide | (dsimp only; omega)⟩) (hlen := rfl) (hst := rfl) (hW := Nat.le_of_ble_eq_true rfl) (hdg := dX12_renamed_33) (q := 36) (hq := rfl) (fun r33_7 S33_6 hw hR => ?_)
        refine Go_if_eq (t := 48) (q := 39) C hw dX12_renamed_36 rfl rfl (fun hw => ?_) (fun hw => ?_)
        · refine Go_iconst (q := 49) (v := (-1 : Int32)) C dX12_renamed_48 rfl rfl ?_
          exact Go_iret C hQ hR hw dX12_renamed_49
        · refine Go_aload_n (q := 40) C 0 rfl dX12_renamed_39 rfl ?_
          refine Go_getA (q := 43) (k := 74) C ci12 iw_12 kM_0 (rM_0_74 hR) rfl wm_14_19 rfl dX12_renamed_40 rfl ?_
          refine Go_iload_n (q := 44) C 2 rfl dX12_renamed_43 rfl ?_
          obtain ⟨hin, hw⟩ := hw
          refine Go_iaload (q := 45) C kM_47 hin dX12_renamed_44 rfl ?_
          refine Go_goto (q := 49) C dX12_renamed_45 rfl ?_
          exact Go_iret C hQ hR hw dX12_renamed_49
-- X12_count
abbrev rm_X12_count : Room := { frames := 1, cells := 0, slots := 0, locals := 22 }
set_option maxRecDepth 100000 in
set_option maxHeartbeats 4000000 in
theorem c_X12_count (l : Launch) {p0 : Int32} {S : St} {Q : Int32 → St → Prop} (hR : RCM S) (hw : w_X12_count p0 S Q) : MetI l yX12_count (wB yX12_count cX12_count 2 (some .int)) rm_X12_count shM NM RCM (fun ad => [.ref (ad (0)), .int p0]) S Q := by
  refine MetI_of (cc := cX12_count) (maxL := 2) (ret := (some .int)) (plainFor_of_name (by decide)) (fun _ => Nat.le_of_ble_eq_true rfl) (fun G C hl hQ => ?_)
  subst hl
  have C : Cx G cX12_count BIG RX12 2 (some .int) rm_X12_count shM NM := C
  show Go G 2 0 [] [(0, .ref (Gad G (0))), (1, .int p0)] S
  unfold w_X12_count at hw
  refine Go_aload_n (q := 1) C 0 rfl dX12_count_0 rfl ?_
  refine Go_iconst (q := 2) (v := (0 : Int32)) C dX12_count_1 rfl rfl ?_
  refine Go_putI (q := 5) (k := 0) C ci12 iw_12 kM_0 rfl wm_15_14 rfl rfl (ci12.2.2.2.1 0 (by decide)) rfl rfl dX12_count_2 rfl ?_
  refine Go_S (fun S2_1 e_S2_1 => ?_)
  have hw := hw S2_1 e_S2_1
  have hR := rcM e_S2_1 hR
  refine Go_iload_n (q := 6) C 1 rfl dX12_count_5 rfl ?_
  refine Go_iconst (q := 7) (v := (0 : Int32)) C dX12_count_6 rfl rfl ?_
  refine Go_bipush (q := 9) (v := (8 : Int32)) C dX12_count_7 rfl rfl ?_
  refine Go_callS_I (av := (fun ad => [.int p0, .int (0 : Int32), .int (8 : Int32)])) (st := []) (C := C) (hM := c_X12_within (Gl G)  hR hw) (hlk := wm_27_1) (hini := wm_1_5) (hst2 := wm_27_2) (hcode := wm_27_3) (n := 3) (hd := by decide +kernel) (hr0 := ⟨rfl, rfl⟩) (hroom := ⟨by first | decide | (dsimp only; omega), by first | decide | (dsimp only; omega)⟩) (hlen := rfl) (hst := rfl) (hW := Nat.le_of_ble_eq_true rfl) (hdg := dX12_count_9) (q := 12) (hq := rfl) (fun r9_3 S9_2 hw hR => ?_)
  refine Go_if_ne (t := 17) (q := 15) C hw dX12_count_12 rfl rfl (fun hw => ?_) (fun hw => ?_)
  · refine Go_iconst (q := 16) (v := (-1 : Int32)) C dX12_count_15 rfl rfl ?_
    exact Go_iret C hQ hR hw dX12_count_16
  · refine Go_iload_n (q := 18) C 1 rfl dX12_count_17 rfl ?_
    refine Go_if_ne (t := 28) (q := 21) C hw dX12_count_18 rfl rfl (fun hw => ?_) (fun hw => ?_)
    · refine Go_aload_n (q := 22) C 0 rfl dX12_count_21 rfl ?_
      refine Go_getI (q := 25) (k := 10) C ci12 iw_12 kM_0 rfl wm_14_20 rfl dX12_count_22 rfl ?_
      refine Go_goto (q := 118) C dX12_count_25 rfl ?_
      exact Go_iret C hQ hR hw dX12_count_118
    · refine Go_iload_n (q := 29) C 1 rfl dX12_count_28 rfl ?_
      refine Go_iconst (q := 30) (v := (1 : Int32)) C dX12_count_29 rfl rfl ?_
      refine Go_icmp_ne (t := 40) (q := 33) C hw dX12_count_30 rfl rfl (fun hw => ?_) (fun hw => ?_)
      · refine Go_aload_n (q := 34) C 0 rfl dX12_count_33 rfl ?_
        refine Go_getI (q := 37) (k := 11) C ci12 iw_12 kM_0 rfl wm_24_17 rfl dX12_count_34 rfl ?_
        refine Go_goto (q := 118) C dX12_count_37 rfl ?_
        exact Go_iret C hQ hR hw dX12_count_118
      · refine Go_iload_n (q := 41) C 1 rfl dX12_count_40 rfl ?_
        refine Go_iconst (q := 42) (v := (2 : Int32)) C dX12_count_41 rfl rfl ?_
        refine Go_icmp_ne (t := 52) (q := 45) C hw dX12_count_42 rfl rfl (fun hw => ?_) (fun hw => ?_)
        · refine Go_aload_n (q := 46) C 0 rfl dX12_count_45 rfl ?_
          refine Go_getI (q := 49) (k := 12) C ci12 iw_12 kM_0 rfl wm_24_19 rfl dX12_count_46 rfl ?_
          refine Go_goto (q := 118) C dX12_count_49 rfl ?_
          exact Go_iret C hQ hR hw dX12_count_118
        · refine Go_iload_n (q := 53) C 1 rfl dX12_count_52 rfl ?_
          refine Go_iconst (q := 54) (v := (3 : Int32)) C dX12_count_53 rfl rfl ?_
          refine Go_icmp_ne (t := 64) (q := 57) C hw dX12_count_54 rfl rfl (fun hw => ?_) (fun hw => ?_)
          · refine Go_aload_n (q := 58) C 0 rfl dX12_count_57 rfl ?_
            refine Go_getI (q := 61) (k := 13) C ci12 iw_12 kM_0 rfl wm_24_21 rfl dX12_count_58 rfl ?_
            refine Go_goto (q := 118) C dX12_count_61 rfl ?_
            exact Go_iret C hQ hR hw dX12_count_118
          · refine Go_iload_n (q := 65) C 1 rfl dX12_count_64 rfl ?_
            refine Go_iconst (q := 66) (v := (4 : Int32)) C dX12_count_65 rfl rfl ?_
            refine Go_icmp_ne (t := 76) (q := 69) C hw dX12_count_66 rfl rfl (fun hw => ?_) (fun hw => ?_)
            · refine Go_aload_n (q := 70) C 0 rfl dX12_count_69 rfl ?_
              refine Go_getI (q := 73) (k := 14) C ci12 iw_12 kM_0 rfl wm_24_23 rfl dX12_count_70 rfl ?_
              refine Go_goto (q := 118) C dX12_count_73 rfl ?_
              exact Go_iret C hQ hR hw dX12_count_118
            · refine Go_iload_n (q := 77) C 1 rfl dX12_count_76 rfl ?_
              refine Go_iconst (q := 78) (v := (5 : Int32)) C dX12_count_77 rfl rfl ?_
              refine Go_icmp_ne (t := 88) (q := 81) C hw dX12_count_78 rfl rfl (fun hw => ?_) (fun hw => ?_)
              · refine Go_aload_n (q := 82) C 0 rfl dX12_count_81 rfl ?_
                refine Go_getI (q := 85) (k := 15) C ci12 iw_12 kM_0 rfl wm_25_1 rfl dX12_count_82 rfl ?_
                refine Go_goto (q := 118) C dX12_count_85 rfl ?_
                exact Go_iret C hQ hR hw dX12_count_118
              · refine Go_iload_n (q := 89) C 1 rfl dX12_count_88 rfl ?_
                refine Go_bipush (q := 91) (v := (6 : Int32)) C dX12_count_89 rfl rfl ?_
                refine Go_icmp_ne (t := 101) (q := 94) C hw dX12_count_91 rfl rfl (fun hw => ?_) (fun hw => ?_)
                · refine Go_aload_n (q := 95) C 0 rfl dX12_count_94 rfl ?_
                  refine Go_getI (q := 98) (k := 16) C ci12 iw_12 kM_0 rfl wm_25_3 rfl dX12_count_95 rfl ?_
                  refine Go_goto (q := 118) C dX12_count_98 rfl ?_
                  exact Go_iret C hQ hR hw dX12_count_118
                · refine Go_iload_n (q := 102) C 1 rfl dX12_count_101 rfl ?_
                  refine Go_bipush (q := 104) (v := (7 : Int32)) C dX12_count_102 rfl rfl ?_
                  refine Go_icmp_ne (t := 114) (q := 107) C hw dX12_count_104 rfl rfl (fun hw => ?_) (fun hw => ?_)
                  · refine Go_aload_n (q := 108) C 0 rfl dX12_count_107 rfl ?_
                    refine Go_getI (q := 111) (k := 65) C ci12 iw_12 kM_0 rfl wm_25_4 rfl dX12_count_108 rfl ?_
                    refine Go_goto (q := 118) C dX12_count_111 rfl ?_
                    exact Go_iret C hQ hR hw dX12_count_118
                  · refine Go_aload_n (q := 115) C 0 rfl dX12_count_114 rfl ?_
                    refine Go_getI (q := 118) (k := 1) C ci12 iw_12 kM_0 rfl wm_15_16 rfl dX12_count_115 rfl ?_
                    exact Go_iret C hQ hR hw dX12_count_118
