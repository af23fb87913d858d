-- X12_turns
abbrev rm_X12_turns : Room := { frames := 0, cells := 0, slots := 0, locals := 0 }
set_option maxRecDepth 100000 in
set_option maxHeartbeats 4000000 in
theorem g_X12_turns_35 {G : GC} (C : Cx G cX12_turns BIG RX12 2 none rm_X12_turns shM NM) {Q : St → Prop} (hQ : QV G RCM Q) (v1 : Int32) {S : St} (hR : RCM S) (hw : w_X12_turns_35 Q v1 S) : Go G 2 35 [] [(0, .ref (Gad G (0))), (1, .int v1)] S := by
  obtain ⟨n, hw⟩ := hw
  induction n generalizing v1 S with
  | zero => exact hw.elim
  | succ n ih =>
    have hw : b_X12_turns_35 Q (lpn (fun _ _ => False) (b_X12_turns_35 Q) n) v1 S := hw
    generalize lpn (fun _ _ => False) (b_X12_turns_35 Q) n = kf at hw ih
    have hk35 := fun (v1 : Int32) (S : St) (hR : RCM S) hw => ih v1 hR hw
    unfold b_X12_turns_35 at hw
    refine Go_iload_n (q := 36) C 1 rfl dX12_turns_35 rfl ?_
    refine Go_aload_n (q := 37) C 0 rfl dX12_turns_36 rfl ?_
    refine Go_getI (q := 40) (k := 25) C ci12 iw_12 kM_0 rfl wm_24_15 rfl dX12_turns_37 rfl ?_
    refine Go_icmp_ge (t := 61) (q := 43) C hw dX12_turns_40 rfl rfl (fun hw => ?_) (fun hw => ?_)
    · exact Go_vret C hQ hR hw dX12_turns_61
    · refine Go_aload_n (q := 44) C 0 rfl dX12_turns_43 rfl ?_
      refine Go_getA (q := 47) (k := 32) C ci12 iw_12 kM_0 (rM_0_32 hR) rfl wm_13_6 rfl dX12_turns_44 rfl ?_
      refine Go_iload_n (q := 48) C 1 rfl dX12_turns_47 rfl ?_
      refine Go_aload_n (q := 49) C 0 rfl dX12_turns_48 rfl ?_
      refine Go_getA (q := 52) (k := 57) C ci12 iw_12 kM_0 (rM_0_57 hR) rfl wm_14_6 rfl dX12_turns_49 rfl ?_
      refine Go_iload_n (q := 53) C 1 rfl dX12_turns_52 rfl ?_
      obtain ⟨hin, hw⟩ := hw
      refine Go_iaload (q := 54) C kM_34 hin dX12_turns_53 rfl ?_
      obtain ⟨hin, hw⟩ := hw
      refine Go_iastore (q := 55) C kM_10 hin dX12_turns_54 rfl ?_
      refine Go_S (fun S54_1 e_S54_1 => ?_)
      have hw := hw S54_1 e_S54_1
      have hR := rcM e_S54_1 hR
      refine Go_iinc2 (q := 58) (kp := 1) (cst := (1 : Int32)) C dX12_turns_55 rfl rfl (by decide) rfl (fun x55_2 e_x55_2 => ?_)
      have hw := hw x55_2 e_x55_2
      refine Go_lve (lv' := [(1, .int x55_2), (0, .ref (Gad G (0)))]) rfl ?_
      refine Go_goto (q := 35) C dX12_turns_58 rfl ?_
      refine Go_lvp [1, 0] rfl ?_
      exact hk35 _ _ hR hw
set_option maxRecDepth 100000 in
set_option maxHeartbeats 4000000 in
theorem g_X12_turns_2 {G : GC} (C : Cx G cX12_turns BIG RX12 2 none rm_X12_turns shM NM) {Q : St → Prop} (hQ : QV G RCM Q) (v1 : Int32) {S : St} (hR : RCM S) (hw : w_X12_turns_2 Q v1 S) : Go G 2 2 [] [(0, .ref (Gad G (0))), (1, .int v1)] S := by
  obtain ⟨n, hw⟩ := hw
  induction n generalizing v1 S with
  | zero => exact hw.elim
  | succ n ih =>
    have hw : b_X12_turns_2 Q (lpn (fun _ _ => False) (b_X12_turns_2 Q) n) v1 S := hw
    generalize lpn (fun _ _ => False) (b_X12_turns_2 Q) n = kf at hw ih
    have hk2 := fun (v1 : Int32) (S : St) (hR : RCM S) hw => ih v1 hR hw
    unfold b_X12_turns_2 at hw
    refine Go_iload_n (q := 3) C 1 rfl dX12_turns_2 rfl ?_
    refine Go_aload_n (q := 4) C 0 rfl dX12_turns_3 rfl ?_
    refine Go_getI (q := 7) (k := 25) C ci12 iw_12 kM_0 rfl wm_24_15 rfl dX12_turns_4 rfl ?_
    refine Go_icmp_ge (t := 33) (q := 10) C hw dX12_turns_7 rfl rfl (fun hw => ?_) (fun hw => ?_)
    · refine Go_iconst (q := 34) (v := (0 : Int32)) C dX12_turns_33 rfl rfl ?_
      refine Go_istore_n (q := 35) (lv' := [(1, .int (0 : Int32)), (0, .ref (Gad G (0)))]) C rfl dX12_turns_34 (by decide) rfl rfl ?_
      refine Go_lvp [1, 0] rfl ?_
      exact g_X12_turns_35 C hQ _ hR hw
    · refine Go_aload_n (q := 11) C 0 rfl dX12_turns_10 rfl ?_
      refine Go_getA (q := 14) (k := 57) C ci12 iw_12 kM_0 (rM_0_57 hR) rfl wm_14_6 rfl dX12_turns_11 rfl ?_
      refine Go_iload_n (q := 15) C 1 rfl dX12_turns_14 rfl ?_
      refine Go_aload_n (q := 16) C 0 rfl dX12_turns_15 rfl ?_
      refine Go_getA (q := 19) (k := 32) C ci12 iw_12 kM_0 (rM_0_32 hR) rfl wm_13_6 rfl dX12_turns_16 rfl ?_
      refine Go_aload_n (q := 20) C 0 rfl dX12_turns_19 rfl ?_
      refine Go_getA (q := 23) (k := 56) C ci12 iw_12 kM_0 (rM_0_56 hR) rfl wm_14_5 rfl dX12_turns_20 rfl ?_
      refine Go_iload_n (q := 24) C 1 rfl dX12_turns_23 rfl ?_
      obtain ⟨hin, hw⟩ := hw
      refine Go_iaload (q := 25) C kM_33 hin dX12_turns_24 rfl ?_
      obtain ⟨hin, hw⟩ := hw
      refine Go_iaload (q := 26) C kM_10 hin dX12_turns_25 rfl ?_
      obtain ⟨hin, hw⟩ := hw
      refine Go_iastore (q := 27) C kM_34 hin dX12_turns_26 rfl ?_
      refine Go_S (fun S26_3 e_S26_3 => ?_)
      have hw := hw S26_3 e_S26_3
      have hR := rcM e_S26_3 hR
      refine Go_iinc2 (q := 30) (kp := 1) (cst := (1 : Int32)) C dX12_turns_27 rfl rfl (by decide) rfl (fun x27_4 e_x27_4 => ?_)
      have hw := hw x27_4 e_x27_4
      refine Go_lve (lv' := [(1, .int x27_4), (0, .ref (Gad G (0)))]) rfl ?_
      refine Go_goto (q := 2) C dX12_turns_30 rfl ?_
      refine Go_lvp [1, 0] rfl ?_
      exact hk2 _ _ hR hw
set_option maxRecDepth 100000 in
set_option maxHeartbeats 4000000 in
theorem c_X12_turns (l : Launch) {S : St} {Q : St → Prop} (hR : RCM S) (hw : w_X12_turns S Q) : MetV l yX12_turns (wB yX12_turns cX12_turns 2 none) rm_X12_turns shM NM RCM (fun ad => [.ref (ad (0))]) S Q := by
  refine MetV_of (cc := cX12_turns) (maxL := 2) (ret := none) (plainFor_of_name (by decide)) (fun _ => Nat.le_of_ble_eq_true rfl) (fun G C hl hQ => ?_)
  subst hl
  have C : Cx G cX12_turns BIG RX12 2 none rm_X12_turns shM NM := C
  show Go G 2 0 [] [(0, .ref (Gad G (0)))] S
  unfold w_X12_turns at hw
  refine Go_iconst (q := 1) (v := (0 : Int32)) C dX12_turns_0 rfl rfl ?_
  refine Go_istore_n (q := 2) (lv' := [(1, .int (0 : Int32)), (0, .ref (Gad G (0)))]) C rfl dX12_turns_1 (by decide) rfl rfl ?_
  refine Go_lvp [1, 0] rfl ?_
  exact g_X12_turns_2 C hQ _ hR hw
-- X12_readsStep
abbrev rm_X12_readsStep : Room := { frames := 2, cells := 0, slots := 0, locals := 44 }
set_option maxRecDepth 100000 in
set_option maxHeartbeats 4000000 in
theorem g_X12_readsStep_188 {G : GC} (C : Cx G cX12_readsStep BIG RX12 6 (some .boolean) rm_X12_readsStep shM NM) {Q : Int32 → St → Prop} (hQ : QI G RCM Q) {S : St} (hR : RCM S) (hw : w_X12_readsStep_188 Q S) : Go G 6 188 [] [(0, .ref (Gad G (0)))] S := by
  unfold w_X12_readsStep_188 at hw
  refine Go_aload_n (q := 189) C 0 rfl dX12_readsStep_188 rfl ?_
  refine Go_callV_V (av := (fun ad => [])) (st := []) (C := C) (hM := c_X12_turns (Gl G) hR hw) (hlk := wm_28_10) (hini := wm_1_5) (hins := wm_28_11) (hsel := wm_28_12) (hcode := wm_28_13) (ho := kM_0) (hci := rfl) (hc13 := by decide) (n := 0) (hd := by decide +kernel) (hr0 := ⟨rfl, rfl⟩) (hroom := ⟨by first | decide | (dsimp only; omega), by first | decide | (dsimp only; omega)⟩) (hlen := rfl) (hst := rfl) (hW := Nat.le_of_ble_eq_true rfl) (hdg := dX12_readsStep_189) (q := 192) (hq := rfl) (fun S189_20 hw hR => ?_)
  refine Go_aload_n (q := 193) C 0 rfl dX12_readsStep_192 rfl ?_
  refine Go_dup (q := 194) C rfl dX12_readsStep_193 rfl ?_
  refine Go_getI (q := 197) (k := 26) C ci12 iw_12 kM_0 rfl wm_24_16 rfl dX12_readsStep_194 rfl ?_
  refine Go_iconst (q := 198) (v := (1 : Int32)) C dX12_readsStep_197 rfl rfl ?_
  refine Go_iadd (q := 199) C dX12_readsStep_198 rfl ?_
  refine Go_putI (q := 202) (k := 26) C ci12 iw_12 kM_0 rfl wm_24_16 rfl rfl (ci12.2.2.2.1 26 (by decide)) rfl rfl dX12_readsStep_199 rfl ?_
  refine Go_S (fun S199_21 e_S199_21 => ?_)
  have hw := hw S199_21 e_S199_21
  have hR := rcM e_S199_21 hR
  refine Go_iconst (q := 203) (v := (1 : Int32)) C dX12_readsStep_202 rfl rfl ?_
  exact Go_zret C hQ hR rfl hw dX12_readsStep_203
set_option maxRecDepth 100000 in
set_option maxHeartbeats 4000000 in
theorem g_X12_readsStep_172 {G : GC} (C : Cx G cX12_readsStep BIG RX12 6 (some .boolean) rm_X12_readsStep shM NM) {Q : Int32 → St → Prop} (hQ : QI G RCM Q) (v3 : Int32) (v4 : Int32) (v5 : Int32) (t0 : Int32) (t1 : Int32) {k133 : Int32 → St → Prop} (hk133 : ∀ (v5 : Int32) (S : St), RCM S → k133 v5 S → Go G 6 133 [] [(0, .ref (Gad G (0))), (3, .int v3), (4, .int v4), (5, .int v5)] S) {S : St} (hR : RCM S) (hw : w_X12_readsStep_172 k133 v3 v4 v5 t0 t1 S) : Go G 6 172 [.int t0, .int t1, .ref (Gad G (33))] [(0, .ref (Gad G (0))), (3, .int v3), (4, .int v4), (5, .int v5)] S := by
  unfold w_X12_readsStep_172 at hw
  obtain ⟨hin, hw⟩ := hw
  refine Go_iastore (q := 173) C kM_33 hin dX12_readsStep_172 rfl ?_
  refine Go_S (fun S172_22 e_S172_22 => ?_)
  have hw := hw S172_22 e_S172_22
  have hR := rcM e_S172_22 hR
  refine Go_iinc2 (q := 176) (kp := 3) (cst := (1 : Int32)) C dX12_readsStep_173 rfl rfl (by decide) rfl (fun x173_23 e_x173_23 => ?_)
  have hw := hw x173_23 e_x173_23
  refine Go_lve (lv' := [(5, .int x173_23), (0, .ref (Gad G (0))), (3, .int v3), (4, .int v4)]) rfl ?_
  refine Go_goto (q := 133) C dX12_readsStep_176 rfl ?_
  refine Go_lvp [1, 2, 3, 0] rfl ?_
  exact hk133 _ _ hR hw
set_option maxRecDepth 100000 in
set_option maxHeartbeats 4000000 in
theorem g_X12_readsStep_133 {G : GC} (C : Cx G cX12_readsStep BIG RX12 6 (some .boolean) rm_X12_readsStep shM NM) {Q : Int32 → St → Prop} (hQ : QI G RCM Q) (v3 : Int32) (v4 : Int32) (v5 : Int32) {S : St} (hR : RCM S) (hw : w_X12_readsStep_133 Q v3 v4 v5 S) : Go G 6 133 [] [(0, .ref (Gad G (0))), (3, .int v3), (4, .int v4), (5, .int v5)] S := by
  obtain ⟨n, hw⟩ := hw
  induction n generalizing v5 S with
  | zero => exact hw.elim
  | succ n ih =>
    have hw : b_X12_readsStep_133 Q v3 v4 (lpn (fun _ _ => False) (b_X12_readsStep_133 Q v3 v4) n) v5 S := hw
    generalize lpn (fun _ _ => False) (b_X12_readsStep_133 Q v3 v4) n = kf at hw ih
    have hk133 := fun (v5 : Int32) (S : St) (hR : RCM S) hw => ih v5 hR hw
    unfold b_X12_readsStep_133 at hw
    refine Go_iload (q := 135) C 3 rfl dX12_readsStep_133 rfl ?_
    refine Go_aload_n (q := 136) C 0 rfl dX12_readsStep_135 rfl ?_
    refine Go_getI (q := 139) (k := 25) C ci12 iw_12 kM_0 rfl wm_24_15 rfl dX12_readsStep_136 rfl ?_
    refine Go_icmp_ge (t := 179) (q := 142) C hw dX12_readsStep_139 rfl rfl (fun hw => ?_) (fun hw => ?_)
    · refine Go_goto (q := 188) C dX12_readsStep_179 rfl ?_
      refine Go_lvp [0] rfl ?_
      exact g_X12_readsStep_188 C hQ hR hw
    · refine Go_aload_n (q := 143) C 0 rfl dX12_readsStep_142 rfl ?_
      refine Go_getA (q := 146) (k := 56) C ci12 iw_12 kM_0 (rM_0_56 hR) rfl wm_14_5 rfl dX12_readsStep_143 rfl ?_
      refine Go_iload (q := 148) C 3 rfl dX12_readsStep_146 rfl ?_
      refine Go_iload (q := 150) C 3 rfl dX12_readsStep_148 rfl ?_
      refine Go_iload_n (q := 151) C 1 rfl dX12_readsStep_150 rfl ?_
      refine Go_icmp_ne (t := 159) (q := 154) C hw dX12_readsStep_151 rfl rfl (fun hw => ?_) (fun hw => ?_)
      · refine Go_iload (q := 156) C 2 rfl dX12_readsStep_154 rfl ?_
        refine Go_goto (q := 172) C dX12_readsStep_156 rfl ?_
        refine Go_lvp [0, 1, 2, 3] rfl ?_
        exact g_X12_readsStep_172 C hQ _ _ _ _ _ hk133 hR hw
      · refine Go_iload (q := 161) C 3 rfl dX12_readsStep_159 rfl ?_
        refine Go_iload (q := 163) C 2 rfl dX12_readsStep_161 rfl ?_
        refine Go_icmp_ne (t := 170) (q := 166) C hw dX12_readsStep_163 rfl rfl (fun hw => ?_) (fun hw => ?_)
        · refine Go_iload_n (q := 167) C 1 rfl dX12_readsStep_166 rfl ?_
          refine Go_goto (q := 172) C dX12_readsStep_167 rfl ?_
          refine Go_lvp [0, 1, 2, 3] rfl ?_
          exact g_X12_readsStep_172 C hQ _ _ _ _ _ hk133 hR hw
        · refine Go_iload (q := 172) C 3 rfl dX12_readsStep_170 rfl ?_
          refine Go_lvp [0, 1, 2, 3] rfl ?_
          exact g_X12_readsStep_172 C hQ _ _ _ _ _ hk133 hR hw
set_option maxRecDepth 100000 in
set_option maxHeartbeats 4000000 in
theorem g_X12_readsStep_62 {G : GC} (C : Cx G cX12_readsStep BIG RX12 6 (some .boolean) rm_X12_readsStep shM NM) {Q : Int32 → St → Prop} (hQ : QI G RCM Q) (v1 : Int32) (v2 : Int32) {S : St} (hR : RCM S) (hw : w_X12_readsStep_62 Q v1 v2 S) : Go G 6 62 [] [(0, .ref (Gad G (0))), (1, .int v1), (2, .int v2)] S := by
  unfold w_X12_readsStep_62 at hw
  refine Go_iload_n (q := 63) C 1 rfl dX12_readsStep_62 rfl ?_
  refine Go_iconst (q := 64) (v := (5 : Int32)) C dX12_readsStep_63 rfl rfl ?_
  refine Go_icmp_ne (t := 182) (q := 67) C hw dX12_readsStep_64 rfl rfl (fun hw => ?_) (fun hw => ?_)
  · refine Go_aload_n (q := 68) C 0 rfl dX12_readsStep_67 rfl ?_
    refine Go_iconst (q := 69) (v := (0 : Int32)) C dX12_readsStep_68 rfl rfl ?_
    refine Go_aload_n (q := 70) C 0 rfl dX12_readsStep_69 rfl ?_
    refine Go_getI (q := 73) (k := 25) C ci12 iw_12 kM_0 rfl wm_24_15 rfl dX12_readsStep_70 rfl ?_
    refine Go_iconst (q := 74) (v := (1 : Int32)) C dX12_readsStep_73 rfl rfl ?_
    refine Go_isub (q := 75) C dX12_readsStep_74 rfl ?_
    refine Go_callV_I (av := (fun ad => [.int (0 : Int32), .int ((gI S 0 25) - (1 : Int32))])) (st := []) (C := C) (hM := c_X12_needsNumber (Gl G) hR hw) (hlk := wm_26_21) (hini := wm_1_5) (hins := wm_26_22) (hsel := wm_26_23) (hcode := wm_27_0) (ho := kM_0) (hci := rfl) (hc13 := by decide) (n := 2) (hd := by decide +kernel) (hr0 := ⟨rfl, rfl⟩) (hroom := ⟨by first | decide | (dsimp only; omega), by first | decide | (dsimp only; omega)⟩) (hlen := rfl) (hst := rfl) (hW := Nat.le_of_ble_eq_true rfl) (hdg := dX12_readsStep_75) (q := 78) (hq := rfl) (fun r75_11 S75_10 hw hR => ?_)
    refine Go_if_ne (t := 83) (q := 81) C hw dX12_readsStep_78 rfl rfl (fun hw => ?_) (fun hw => ?_)
    · refine Go_iconst (q := 82) (v := (0 : Int32)) C dX12_readsStep_81 rfl rfl ?_
      exact Go_zret C hQ hR rfl hw dX12_readsStep_82
    · refine Go_aload_n (q := 84) C 0 rfl dX12_readsStep_83 rfl ?_
      refine Go_getI (q := 87) (k := 8) C ci12 iw_12 kM_0 rfl wm_25_13 rfl dX12_readsStep_84 rfl ?_
      refine Go_topi (fun x87_12 e_x87_12 => ?_)
      have hw := hw x87_12 e_x87_12
      refine Go_istore_n (q := 88) (lv' := [(3, .int x87_12), (0, .ref (Gad G (0))), (1, .int v1), (2, .int v2)]) C rfl dX12_readsStep_87 (by decide) rfl rfl ?_
      refine Go_aload_n (q := 89) C 1 rfl dX12_readsStep_88 rfl ?_
      refine Go_callV_V (av := (fun ad => [])) (st := []) (C := C) (hM := c_X12_nextToken (Gl G) hR hw) (hlk := wm_25_21) (hini := wm_1_5) (hins := wm_25_22) (hsel := wm_25_23) (hcode := wm_26_0) (ho := kM_0) (hci := rfl) (hc13 := by decide) (n := 0) (hd := by decide +kernel) (hr0 := ⟨rfl, rfl⟩) (hroom := ⟨by first | decide | (dsimp only; omega), by first | decide | (dsimp only; omega)⟩) (hlen := rfl) (hst := rfl) (hW := Nat.le_of_ble_eq_true rfl) (hdg := dX12_readsStep_89) (q := 92) (hq := rfl) (fun S89_13 hw hR => ?_)
      refine Go_aload_n (q := 93) C 1 rfl dX12_readsStep_92 rfl ?_
      refine Go_iconst (q := 94) (v := (0 : Int32)) C dX12_readsStep_93 rfl rfl ?_
      refine Go_aload_n (q := 95) C 1 rfl dX12_readsStep_94 rfl ?_
      refine Go_getI (q := 98) (k := 25) C ci12 iw_12 kM_0 rfl wm_24_15 rfl dX12_readsStep_95 rfl ?_
      refine Go_iconst (q := 99) (v := (1 : Int32)) C dX12_readsStep_98 rfl rfl ?_
      refine Go_isub (q := 100) C dX12_readsStep_99 rfl ?_
      refine Go_callV_I (av := (fun ad => [.int (0 : Int32), .int ((gI S89_13 0 25) - (1 : Int32))])) (st := []) (C := C) (hM := c_X12_needsNumber (Gl G) hR hw) (hlk := wm_26_21) (hini := wm_1_5) (hins := wm_26_22) (hsel := wm_26_23) (hcode := wm_27_0) (ho := kM_0) (hci := rfl) (hc13 := by decide) (n := 2) (hd := by decide +kernel) (hr0 := ⟨rfl, rfl⟩) (hroom := ⟨by first | decide | (dsimp only; omega), by first | decide | (dsimp only; omega)⟩) (hlen := rfl) (hst := rfl) (hW := Nat.le_of_ble_eq_true rfl) (hdg := dX12_readsStep_100) (q := 103) (hq := rfl) (fun r100_15 S100_14 hw hR => ?_)
      refine Go_if_ne (t := 108) (q := 106) C hw dX12_readsStep_103 rfl rfl (fun hw => ?_) (fun hw => ?_)
      · refine Go_iconst (q := 107) (v := (0 : Int32)) C dX12_readsStep_106 rfl rfl ?_
        exact Go_zret C hQ hR rfl hw dX12_readsStep_107
      · refine Go_aload_n (q := 109) C 1 rfl dX12_readsStep_108 rfl ?_
        refine Go_getI (q := 112) (k := 8) C ci12 iw_12 kM_0 rfl wm_25_13 rfl dX12_readsStep_109 rfl ?_
        refine Go_topi (fun x112_16 e_x112_16 => ?_)
        have hw := hw x112_16 e_x112_16
        refine Go_istore (q := 114) (lv' := [(4, .int x112_16), (3, .int x87_12), (0, .ref (Gad G (0))), (1, .int v1), (2, .int v2)]) C dX12_readsStep_112 (by decide) rfl rfl ?_
        refine Go_iload_n (q := 115) C 1 rfl dX12_readsStep_114 rfl ?_
        refine Go_iload (q := 117) C 0 rfl dX12_readsStep_115 rfl ?_
        refine Go_icmp_ne (t := 126) (q := 120) C hw dX12_readsStep_117 rfl rfl (fun hw => ?_) (fun hw => ?_)
        · refine Go_aload_n (q := 121) C 2 rfl dX12_readsStep_120 rfl ?_
          refine Go_iconst (q := 122) (v := (3 : Int32)) C dX12_readsStep_121 rfl rfl ?_
          refine Go_callV_I (av := (fun ad => [.int (3 : Int32)])) (st := []) (C := C) (hM := c_X12_fails (Gl G) hR hw) (hlk := wm_26_17) (hini := wm_1_5) (hins := wm_26_18) (hsel := wm_26_19) (hcode := wm_26_20) (ho := kM_0) (hci := rfl) (hc13 := by decide) (n := 1) (hd := by decide +kernel) (hr0 := ⟨rfl, rfl⟩) (hroom := ⟨by first | decide | (dsimp only; omega), by first | decide | (dsimp only; omega)⟩) (hlen := rfl) (hst := rfl) (hW := Nat.le_of_ble_eq_true rfl) (hdg := dX12_readsStep_122) (q := 125) (hq := rfl) (fun r122_18 S122_17 hw hR => ?_)
          exact Go_zret C hQ hR (zb hw.1) hw.2 dX12_readsStep_125
        · refine Go_aload_n (q := 127) C 2 rfl dX12_readsStep_126 rfl ?_
          refine Go_callV_V (av := (fun ad => [])) (st := []) (C := C) (hM := c_X12_nextToken (Gl G) hR hw) (hlk := wm_25_21) (hini := wm_1_5) (hins := wm_25_22) (hsel := wm_25_23) (hcode := wm_26_0) (ho := kM_0) (hci := rfl) (hc13 := by decide) (n := 0) (hd := by decide +kernel) (hr0 := ⟨rfl, rfl⟩) (hroom := ⟨by first | decide | (dsimp only; omega), by first | decide | (dsimp only; omega)⟩) (hlen := rfl) (hst := rfl) (hW := Nat.le_of_ble_eq_true rfl) (hdg := dX12_readsStep_127) (q := 130) (hq := rfl) (fun S127_19 hw hR => ?_)
          refine Go_iconst (q := 131) (v := (0 : Int32)) C dX12_readsStep_130 rfl rfl ?_
          refine Go_istore (q := 133) (lv' := [(5, .int (0 : Int32)), (4, .int x112_16), (3, .int x87_12), (0, .ref (Gad G (0))), (1, .int v1), (2, .int v2)]) C dX12_readsStep_131 (by decide) rfl rfl ?_
          refine Go_lvp [3, 2, 1, 0] rfl ?_
          exact g_X12_readsStep_133 C hQ _ _ _ hR hw
  · refine Go_aload_n (q := 183) C 0 rfl dX12_readsStep_182 rfl ?_
    refine Go_iload_n (q := 184) C 1 rfl dX12_readsStep_183 rfl ?_
    refine Go_iload_n (q := 185) C 2 rfl dX12_readsStep_184 rfl ?_
    refine Go_callV_V (av := (fun ad => [.int v1, .int v2])) (st := []) (C := C) (hM := c_X12_lays (Gl G) hR hw) (hlk := wm_28_6) (hini := wm_1_5) (hins := wm_28_7) (hsel := wm_28_8) (hcode := wm_28_9) (ho := kM_0) (hci := rfl) (hc13 := by decide) (n := 2) (hd := by decide +kernel) (hr0 := ⟨rfl, rfl⟩) (hroom := ⟨by first | decide | (dsimp only; omega), by first | decide | (dsimp only; omega)⟩) (hlen := rfl) (hst := rfl) (hW := Nat.le_of_ble_eq_true rfl) (hdg := dX12_readsStep_185) (q := 188) (hq := rfl) (fun S185_24 hw hR => ?_)
    refine Go_lvp [0] rfl ?_
    exact g_X12_readsStep_188 C hQ hR hw
set_option maxRecDepth 100000 in
set_option maxHeartbeats 4000000 in
theorem c_X12_readsStep (l : Launch) {S : St} {Q : Int32 → St → Prop} (hR : RCM S) (hw : w_X12_readsStep S Q) : MetI l yX12_readsStep (wB yX12_readsStep cX12_readsStep 6 (some .boolean)) rm_X12_readsStep shM NM RCM (fun ad => [.ref (ad (0))]) S Q := by
  refine MetI_of (cc := cX12_readsStep) (maxL := 6) (ret := (some .boolean)) (plainFor_of_name (by decide)) (fun _ => Nat.le_of_ble_eq_true rfl) (fun G C hl hQ => ?_)
  subst hl
  have C : Cx G cX12_readsStep BIG RX12 6 (some .boolean) rm_X12_readsStep shM NM := C
  show Go G 6 0 [] [(0, .ref (Gad G (0)))] S
  unfold w_X12_readsStep at hw
  refine Go_aload_n (q := 1) C 0 rfl dX12_readsStep_0 rfl ?_
  refine Go_callV_I (av := (fun ad => [])) (st := []) (C := C) (hM := c_X12_stepKind (Gl G)  hR hw) (hlk := wm_27_20) (hini := wm_1_5) (hins := wm_27_21) (hsel := wm_27_22) (hcode := wm_27_23) (ho := kM_0) (hci := rfl) (hc13 := by decide) (n := 0) (hd := by decide +kernel) (hr0 := ⟨rfl, rfl⟩) (hroom := ⟨by first | decide | (dsimp only; omega), by first | decide | (dsimp only; omega)⟩) (hlen := rfl) (hst := rfl) (hW := Nat.le_of_ble_eq_true rfl) (hdg := dX12_readsStep_1) (q := 4) (hq := rfl) (fun r1_2 S1_1 hw hR => ?_)
  refine Go_istore_n (q := 5) (lv' := [(1, .int r1_2), (0, .ref (Gad G (0)))]) C rfl dX12_readsStep_4 (by decide) rfl rfl ?_
  refine Go_iload_n (q := 6) C 0 rfl dX12_readsStep_5 rfl ?_
  refine Go_if_ge (t := 15) (q := 9) C hw dX12_readsStep_6 rfl rfl (fun hw => ?_) (fun hw => ?_)
  · refine Go_aload_n (q := 16) C 1 rfl dX12_readsStep_15 rfl ?_
    refine Go_getI (q := 19) (k := 26) C ci12 iw_12 kM_0 rfl wm_24_16 rfl dX12_readsStep_16 rfl ?_
    refine Go_bipush (q := 21) (v := (8 : Int32)) C dX12_readsStep_19 rfl rfl ?_
    refine Go_icmp_ne (t := 30) (q := 24) C hw dX12_readsStep_21 rfl rfl (fun hw => ?_) (fun hw => ?_)
    · refine Go_aload_n (q := 25) C 1 rfl dX12_readsStep_24 rfl ?_
      refine Go_iconst (q := 26) (v := (5 : Int32)) C dX12_readsStep_25 rfl rfl ?_
      refine Go_callV_I (av := (fun ad => [.int (5 : Int32)])) (st := []) (C := C) (hM := c_X12_fails (Gl G)  hR hw) (hlk := wm_26_17) (hini := wm_1_5) (hins := wm_26_18) (hsel := wm_26_19) (hcode := wm_26_20) (ho := kM_0) (hci := rfl) (hc13 := by decide) (n := 1) (hd := by decide +kernel) (hr0 := ⟨rfl, rfl⟩) (hroom := ⟨by first | decide | (dsimp only; omega), by first | decide | (dsimp only; omega)⟩) (hlen := rfl) (hst := rfl) (hW := Nat.le_of_ble_eq_true rfl) (hdg := dX12_readsStep_26) (q := 29) (hq := rfl) (fun r26_4 S26_3 hw hR => ?_)
      exact Go_zret C hQ hR (zb hw.1) hw.2 dX12_readsStep_29
    · refine Go_aload_n (q := 31) C 1 rfl dX12_readsStep_30 rfl ?_
      refine Go_callV_V (av := (fun ad => [])) (st := []) (C := C) (hM := c_X12_nextToken (Gl G)  hR hw) (hlk := wm_25_21) (hini := wm_1_5) (hins := wm_25_22) (hsel := wm_25_23) (hcode := wm_26_0) (ho := kM_0) (hci := rfl) (hc13 := by decide) (n := 0) (hd := by decide +kernel) (hr0 := ⟨rfl, rfl⟩) (hroom := ⟨by first | decide | (dsimp only; omega), by first | decide | (dsimp only; omega)⟩) (hlen := rfl) (hst := rfl) (hW := Nat.le_of_ble_eq_true rfl) (hdg := dX12_readsStep_31) (q := 34) (hq := rfl) (fun S31_5 hw hR => ?_)
      refine Go_iconst (q := 35) (v := (0 : Int32)) C dX12_readsStep_34 rfl rfl ?_
      refine Go_istore_n (q := 36) (lv' := [(2, .int (0 : Int32)), (1, .int r1_2), (0, .ref (Gad G (0)))]) C rfl dX12_readsStep_35 (by decide) rfl rfl ?_
      refine Go_iload_n (q := 37) C 1 rfl dX12_readsStep_36 rfl ?_
      refine Go_iconst (q := 38) (v := (4 : Int32)) C dX12_readsStep_37 rfl rfl ?_
      refine Go_icmp_ne (t := 62) (q := 41) C hw dX12_readsStep_38 rfl rfl (fun hw => ?_) (fun hw => ?_)
      · refine Go_aload_n (q := 42) C 2 rfl dX12_readsStep_41 rfl ?_
        refine Go_iconst (q := 43) (v := (0 : Int32)) C dX12_readsStep_42 rfl rfl ?_
        refine Go_bipush (q := 45) (v := (11 : Int32)) C dX12_readsStep_43 rfl rfl ?_
        refine Go_callV_I (av := (fun ad => [.int (0 : Int32), .int (11 : Int32)])) (st := []) (C := C) (hM := c_X12_needsNumber (Gl G)  hR hw) (hlk := wm_26_21) (hini := wm_1_5) (hins := wm_26_22) (hsel := wm_26_23) (hcode := wm_27_0) (ho := kM_0) (hci := rfl) (hc13 := by decide) (n := 2) (hd := by decide +kernel) (hr0 := ⟨rfl, rfl⟩) (hroom := ⟨by first | decide | (dsimp only; omega), by first | decide | (dsimp only; omega)⟩) (hlen := rfl) (hst := rfl) (hW := Nat.le_of_ble_eq_true rfl) (hdg := dX12_readsStep_45) (q := 48) (hq := rfl) (fun r45_7 S45_6 hw hR => ?_)
        refine Go_if_ne (t := 53) (q := 51) C hw dX12_readsStep_48 rfl rfl (fun hw => ?_) (fun hw => ?_)
        · refine Go_iconst (q := 52) (v := (0 : Int32)) C dX12_readsStep_51 rfl rfl ?_
          exact Go_zret C hQ hR rfl hw dX12_readsStep_52
        · refine Go_aload_n (q := 54) C 2 rfl dX12_readsStep_53 rfl ?_
          refine Go_getI (q := 57) (k := 8) C ci12 iw_12 kM_0 rfl wm_25_13 rfl dX12_readsStep_54 rfl ?_
          refine Go_topi (fun x57_8 e_x57_8 => ?_)
          have hw := hw x57_8 e_x57_8
          refine Go_istore_n (q := 58) (lv' := [(2, .int x57_8), (1, .int r1_2), (0, .ref (Gad G (0)))]) C rfl dX12_readsStep_57 (by decide) rfl rfl ?_
          refine Go_aload_n (q := 59) C 2 rfl dX12_readsStep_58 rfl ?_
          refine Go_callV_V (av := (fun ad => [])) (st := []) (C := C) (hM := c_X12_nextToken (Gl G)  hR hw) (hlk := wm_25_21) (hini := wm_1_5) (hins := wm_25_22) (hsel := wm_25_23) (hcode := wm_26_0) (ho := kM_0) (hci := rfl) (hc13 := by decide) (n := 0) (hd := by decide +kernel) (hr0 := ⟨rfl, rfl⟩) (hroom := ⟨by first | decide | (dsimp only; omega), by first | decide | (dsimp only; omega)⟩) (hlen := rfl) (hst := rfl) (hW := Nat.le_of_ble_eq_true rfl) (hdg := dX12_readsStep_59) (q := 62) (hq := rfl) (fun S59_9 hw hR => ?_)
          refine Go_lvp [2, 1, 0] rfl ?_
          exact g_X12_readsStep_62 C hQ _ _ hR hw
      · refine Go_lvp [2, 1, 0] rfl ?_
        exact g_X12_readsStep_62 C hQ _ _ hR hw
  · refine Go_aload_n (q := 10) C 1 rfl dX12_readsStep_9 rfl ?_
    refine Go_iconst (q := 11) (v := (1 : Int32)) C dX12_readsStep_10 rfl rfl ?_
    refine Go_callV_I (av := (fun ad => [.int (1 : Int32)])) (st := []) (C := C) (hM := c_X12_fails (Gl G)  hR hw) (hlk := wm_26_17) (hini := wm_1_5) (hins := wm_26_18) (hsel := wm_26_19) (hcode := wm_26_20) (ho := kM_0) (hci := rfl) (hc13 := by decide) (n := 1) (hd := by decide +kernel) (hr0 := ⟨rfl, rfl⟩) (hroom := ⟨by first | decide | (dsimp only; omega), by first | decide | (dsimp only; omega)⟩) (hlen := rfl) (hst := rfl) (hW := Nat.le_of_ble_eq_true rfl) (hdg := dX12_readsStep_11) (q := 14) (hq := rfl) (fun r11_26 S11_25 hw hR => ?_)
    exact Go_zret C hQ hR (zb hw.1) hw.2 dX12_readsStep_14
-- X12_readsTurn
abbrev rm_X12_readsTurn : Room := { frames := 3, cells := 0, slots := 0, locals := 69 }
set_option maxRecDepth 100000 in
set_option maxHeartbeats 4000000 in
theorem g_X12_readsTurn_37 {G : GC} (C : Cx G cX12_readsTurn BIG RX12 1 (some .boolean) rm_X12_readsTurn shM NM) {Q : Int32 → St → Prop} (hQ : QI G RCM Q) {S : St} (hR : RCM S) (hw : w_X12_readsTurn_37 Q S) : Go G 1 37 [] [(0, .ref (Gad G (0)))] S := by
  unfold w_X12_readsTurn_37 at hw
  refine Go_aload_n (q := 38) C 0 rfl dX12_readsTurn_37 rfl ?_
  refine Go_callV_I (av := (fun ad => [])) (st := []) (C := C) (hM := c_X12_ends (Gl G) hR hw) (hlk := wm_27_4) (hini := wm_1_5) (hins := wm_27_5) (hsel := wm_27_6) (hcode := wm_27_7) (ho := kM_0) (hci := rfl) (hc13 := by decide) (n := 0) (hd := by decide +kernel) (hr0 := ⟨rfl, rfl⟩) (hroom := ⟨by first | decide | (dsimp only; omega), by first | decide | (dsimp only; omega)⟩) (hlen := rfl) (hst := rfl) (hW := Nat.le_of_ble_eq_true rfl) (hdg := dX12_readsTurn_38) (q := 41) (hq := rfl) (fun r38_7 S38_6 hw hR => ?_)
  exact Go_zret C hQ hR (zb hw.1) hw.2 dX12_readsTurn_41
set_option maxRecDepth 100000 in
set_option maxHeartbeats 4000000 in
theorem g_X12_readsTurn_13 {G : GC} (C : Cx G cX12_readsTurn BIG RX12 1 (some .boolean) rm_X12_readsTurn shM NM) {Q : Int32 → St → Prop} (hQ : QI G RCM Q) {S : St} (hR : RCM S) (hw : w_X12_readsTurn_13 Q S) : Go G 1 13 [] [(0, .ref (Gad G (0)))] S := by
  obtain ⟨n, hw⟩ := hw
  induction n generalizing S with
  | zero => exact hw.elim
  | succ n ih =>
    have hw : b_X12_readsTurn_13 Q (lpn (fun _ => False) (b_X12_readsTurn_13 Q) n) S := hw
    generalize lpn (fun _ => False) (b_X12_readsTurn_13 Q) n = kf at hw ih
    have hk13 := fun (S : St) (hR : RCM S) hw => ih hR hw
    unfold b_X12_readsTurn_13 at hw
    refine Go_aload_n (q := 14) C 0 rfl dX12_readsTurn_13 rfl ?_
    refine Go_getI (q := 17) (k := 6) C ci12 iw_12 kM_0 rfl wm_25_14 rfl dX12_readsTurn_14 rfl ?_
    refine Go_iconst (q := 18) (v := (1 : Int32)) C dX12_readsTurn_17 rfl rfl ?_
    refine Go_icmp_ne (t := 37) (q := 21) C hw dX12_readsTurn_18 rfl rfl (fun hw => ?_) (fun hw => ?_)
    · refine Go_aload_n (q := 22) C 0 rfl dX12_readsTurn_21 rfl ?_
      refine Go_callV_I (av := (fun ad => [])) (st := []) (C := C) (hM := c_X12_stepKind (Gl G) hR hw) (hlk := wm_27_20) (hini := wm_1_5) (hins := wm_27_21) (hsel := wm_27_22) (hcode := wm_27_23) (ho := kM_0) (hci := rfl) (hc13 := by decide) (n := 0) (hd := by decide +kernel) (hr0 := ⟨rfl, rfl⟩) (hroom := ⟨by first | decide | (dsimp only; omega), by first | decide | (dsimp only; omega)⟩) (hlen := rfl) (hst := rfl) (hW := Nat.le_of_ble_eq_true rfl) (hdg := dX12_readsTurn_22) (q := 25) (hq := rfl) (fun r22_5 S22_4 hw hR => ?_)
      refine Go_if_lt (t := 37) (q := 28) C hw dX12_readsTurn_25 rfl rfl (fun hw => ?_) (fun hw => ?_)
      · refine Go_lvp [0] rfl ?_
        exact g_X12_readsTurn_37 C hQ hR hw
      · refine Go_aload_n (q := 29) C 0 rfl dX12_readsTurn_28 rfl ?_
        refine Go_callV_I (av := (fun ad => [])) (st := []) (C := C) (hM := c_X12_readsStep (Gl G) hR hw) (hlk := wm_27_16) (hini := wm_1_5) (hins := wm_27_17) (hsel := wm_27_18) (hcode := wm_27_19) (ho := kM_0) (hci := rfl) (hc13 := by decide) (n := 0) (hd := by decide +kernel) (hr0 := ⟨rfl, rfl⟩) (hroom := ⟨by first | decide | (dsimp only; omega), by first | decide | (dsimp only; omega)⟩) (hlen := rfl) (hst := rfl) (hW := Nat.le_of_ble_eq_true rfl) (hdg := dX12_readsTurn_29) (q := 32) (hq := rfl) (fun r29_9 S29_8 hw hR => ?_)
        refine Go_if_ne (t := 13) (q := 35) C hw dX12_readsTurn_32 rfl rfl (fun hw => ?_) (fun hw => ?_)
        · refine Go_iconst (q := 36) (v := (0 : Int32)) C dX12_readsTurn_35 rfl rfl ?_
          exact Go_zret C hQ hR rfl hw dX12_readsTurn_36
        · refine Go_lvp [0] rfl ?_
          exact hk13 _ hR hw
    · refine Go_lvp [0] rfl ?_
      exact g_X12_readsTurn_37 C hQ hR hw
set_option maxRecDepth 100000 in
set_option maxHeartbeats 4000000 in
theorem c_X12_readsTurn (l : Launch) {S : St} {Q : Int32 → St → Prop} (hR : RCM S) (hw : w_X12_readsTurn S Q) : MetI l yX12_readsTurn (wB yX12_readsTurn cX12_readsTurn 1 (some .boolean)) rm_X12_readsTurn shM NM RCM (fun ad => [.ref (ad (0))]) S Q := by
  refine MetI_of (cc := cX12_readsTurn) (maxL := 1) (ret := (some .boolean)) (plainFor_of_name (by decide)) (fun _ => Nat.le_of_ble_eq_true rfl) (fun G C hl hQ => ?_)
  subst hl
  have C : Cx G cX12_readsTurn BIG RX12 1 (some .boolean) rm_X12_readsTurn shM NM := C
  show Go G 1 0 [] [(0, .ref (Gad G (0)))] S
  unfold w_X12_readsTurn at hw
  refine Go_aload_n (q := 1) C 0 rfl dX12_readsTurn_0 rfl ?_
  refine Go_callV_V (av := (fun ad => [])) (st := []) (C := C) (hM := c_X12_nextToken (Gl G)  hR hw) (hlk := wm_25_21) (hini := wm_1_5) (hins := wm_25_22) (hsel := wm_25_23) (hcode := wm_26_0) (ho := kM_0) (hci := rfl) (hc13 := by decide) (n := 0) (hd := by decide +kernel) (hr0 := ⟨rfl, rfl⟩) (hroom := ⟨by first | decide | (dsimp only; omega), by first | decide | (dsimp only; omega)⟩) (hlen := rfl) (hst := rfl) (hW := Nat.le_of_ble_eq_true rfl) (hdg := dX12_readsTurn_1) (q := 4) (hq := rfl) (fun S1_1 hw hR => ?_)
  refine Go_aload_n (q := 5) C 0 rfl dX12_readsTurn_4 rfl ?_
  refine Go_callV_I (av := (fun ad => [])) (st := []) (C := C) (hM := c_X12_readsStep (Gl G)  hR hw) (hlk := wm_27_16) (hini := wm_1_5) (hins := wm_27_17) (hsel := wm_27_18) (hcode := wm_27_19) (ho := kM_0) (hci := rfl) (hc13 := by decide) (n := 0) (hd := by decide +kernel) (hr0 := ⟨rfl, rfl⟩) (hroom := ⟨by first | decide | (dsimp only; omega), by first | decide | (dsimp only; omega)⟩) (hlen := rfl) (hst := rfl) (hW := Nat.le_of_ble_eq_true rfl) (hdg := dX12_readsTurn_5) (q := 8) (hq := rfl) (fun r5_3 S5_2 hw hR => ?_)
  refine Go_if_ne (t := 13) (q := 11) C hw dX12_readsTurn_8 rfl rfl (fun hw => ?_) (fun hw => ?_)
  · refine Go_iconst (q := 12) (v := (0 : Int32)) C dX12_readsTurn_11 rfl rfl ?_
    exact Go_zret C hQ hR rfl hw dX12_readsTurn_12
  · refine Go_lvp [0] rfl ?_
    exact g_X12_readsTurn_13 C hQ hR hw
-- X12_readsRhyme
abbrev rm_X12_readsRhyme : Room := { frames := 3, cells := 0, slots := 0, locals := 62 }
set_option maxRecDepth 100000 in
set_option maxHeartbeats 4000000 in
theorem c_X12_readsRhyme (l : Launch) {S : St} {Q : Int32 → St → Prop} (hR : RCM S) (hw : w_X12_readsRhyme S Q) : MetI l yX12_readsRhyme (wB yX12_readsRhyme cX12_readsRhyme 1 (some .boolean)) rm_X12_readsRhyme shM NM RCM (fun ad => [.ref (ad (0))]) S Q := by
  refine MetI_of (cc := cX12_readsRhyme) (maxL := 1) (ret := (some .boolean)) (plainFor_of_name (by decide)) (fun _ => Nat.le_of_ble_eq_true rfl) (fun G C hl hQ => ?_)
  subst hl
  have C : Cx G cX12_readsRhyme BIG RX12 1 (some .boolean) rm_X12_readsRhyme shM NM := C
  show Go G 1 0 [] [(0, .ref (Gad G (0)))] S
  unfold w_X12_readsRhyme at hw
  refine Go_aload_n (q := 1) C 0 rfl dX12_readsRhyme_0 rfl ?_
  refine Go_getI (q := 4) (k := 27) C ci12 iw_12 kM_0 rfl wm_24_18 rfl dX12_readsRhyme_1 rfl ?_
  refine Go_bipush (q := 6) (v := (8 : Int32)) C dX12_readsRhyme_4 rfl rfl ?_
  refine Go_icmp_ne (t := 15) (q := 9) C hw dX12_readsRhyme_6 rfl rfl (fun hw => ?_) (fun hw => ?_)
  · refine Go_aload_n (q := 10) C 0 rfl dX12_readsRhyme_9 rfl ?_
    refine Go_iconst (q := 11) (v := (5 : Int32)) C dX12_readsRhyme_10 rfl rfl ?_
    refine Go_callV_I (av := (fun ad => [.int (5 : Int32)])) (st := []) (C := C) (hM := c_X12_fails (Gl G)  hR hw) (hlk := wm_26_17) (hini := wm_1_5) (hins := wm_26_18) (hsel := wm_26_19) (hcode := wm_26_20) (ho := kM_0) (hci := rfl) (hc13 := by decide) (n := 1) (hd := by decide +kernel) (hr0 := ⟨rfl, rfl⟩) (hroom := ⟨by first | decide | (dsimp only; omega), by first | decide | (dsimp only; omega)⟩) (hlen := rfl) (hst := rfl) (hW := Nat.le_of_ble_eq_true rfl) (hdg := dX12_readsRhyme_11) (q := 14) (hq := rfl) (fun r11_2 S11_1 hw hR => ?_)
    exact Go_zret C hQ hR (zb hw.1) hw.2 dX12_readsRhyme_14
  · refine Go_aload_n (q := 16) C 0 rfl dX12_readsRhyme_15 rfl ?_
    refine Go_callV_V (av := (fun ad => [])) (st := []) (C := C) (hM := c_X12_nextToken (Gl G)  hR hw) (hlk := wm_25_21) (hini := wm_1_5) (hins := wm_25_22) (hsel := wm_25_23) (hcode := wm_26_0) (ho := kM_0) (hci := rfl) (hc13 := by decide) (n := 0) (hd := by decide +kernel) (hr0 := ⟨rfl, rfl⟩) (hroom := ⟨by first | decide | (dsimp only; omega), by first | decide | (dsimp only; omega)⟩) (hlen := rfl) (hst := rfl) (hW := Nat.le_of_ble_eq_true rfl) (hdg := dX12_readsRhyme_16) (q := 19) (hq := rfl) (fun S16_3 hw hR => ?_)
    refine Go_aload_n (q := 20) C 0 rfl dX12_readsRhyme_19 rfl ?_
    refine Go_iconst (q := 21) (v := (0 : Int32)) C dX12_readsRhyme_20 rfl rfl ?_
    refine Go_aload_n (q := 22) C 0 rfl dX12_readsRhyme_21 rfl ?_
    refine Go_getI (q := 25) (k := 25) C ci12 iw_12 kM_0 rfl wm_24_15 rfl dX12_readsRhyme_22 rfl ?_
    refine Go_iconst (q := 26) (v := (1 : Int32)) C dX12_readsRhyme_25 rfl rfl ?_
    refine Go_isub (q := 27) C dX12_readsRhyme_26 rfl ?_
    refine Go_callV_I (av := (fun ad => [.int (0 : Int32), .int ((gI S16_3 0 25) - (1 : Int32))])) (st := []) (C := C) (hM := c_X12_needsNumber (Gl G)  hR hw) (hlk := wm_26_21) (hini := wm_1_5) (hins := wm_26_22) (hsel := wm_26_23) (hcode := wm_27_0) (ho := kM_0) (hci := rfl) (hc13 := by decide) (n := 2) (hd := by decide +kernel) (hr0 := ⟨rfl, rfl⟩) (hroom := ⟨by first | decide | (dsimp only; omega), by first | decide | (dsimp only; omega)⟩) (hlen := rfl) (hst := rfl) (hW := Nat.le_of_ble_eq_true rfl) (hdg := dX12_readsRhyme_27) (q := 30) (hq := rfl) (fun r27_5 S27_4 hw hR => ?_)
    refine Go_if_ne (t := 35) (q := 33) C hw dX12_readsRhyme_30 rfl rfl (fun hw => ?_) (fun hw => ?_)
    · refine Go_iconst (q := 34) (v := (0 : Int32)) C dX12_readsRhyme_33 rfl rfl ?_
      exact Go_zret C hQ hR rfl hw dX12_readsRhyme_34
    · refine Go_aload_n (q := 36) C 0 rfl dX12_readsRhyme_35 rfl ?_
      refine Go_getA (q := 39) (k := 33) C ci12 iw_12 kM_0 (rM_0_33 hR) rfl wm_13_7 rfl dX12_readsRhyme_36 rfl ?_
      refine Go_aload_n (q := 40) C 0 rfl dX12_readsRhyme_39 rfl ?_
      refine Go_getI (q := 43) (k := 27) C ci12 iw_12 kM_0 rfl wm_24_18 rfl dX12_readsRhyme_40 rfl ?_
      refine Go_aload_n (q := 44) C 0 rfl dX12_readsRhyme_43 rfl ?_
      refine Go_getI (q := 47) (k := 8) C ci12 iw_12 kM_0 rfl wm_25_13 rfl dX12_readsRhyme_44 rfl ?_
      obtain ⟨hin, hw⟩ := hw
      refine Go_iastore (q := 48) C kM_11 hin dX12_readsRhyme_47 rfl ?_
      refine Go_S (fun S47_6 e_S47_6 => ?_)
      have hw := hw S47_6 e_S47_6
      have hR := rcM e_S47_6 hR
      refine Go_aload_n (q := 49) C 0 rfl dX12_readsRhyme_48 rfl ?_
      refine Go_callV_V (av := (fun ad => [])) (st := []) (C := C) (hM := c_X12_nextToken (Gl G)  hR hw) (hlk := wm_25_21) (hini := wm_1_5) (hins := wm_25_22) (hsel := wm_25_23) (hcode := wm_26_0) (ho := kM_0) (hci := rfl) (hc13 := by decide) (n := 0) (hd := by decide +kernel) (hr0 := ⟨rfl, rfl⟩) (hroom := ⟨by first | decide | (dsimp only; omega), by first | decide | (dsimp only; omega)⟩) (hlen := rfl) (hst := rfl) (hW := Nat.le_of_ble_eq_true rfl) (hdg := dX12_readsRhyme_49) (q := 52) (hq := rfl) (fun S49_7 hw hR => ?_)
      refine Go_aload_n (q := 53) C 0 rfl dX12_readsRhyme_52 rfl ?_
      refine Go_iconst (q := 54) (v := (0 : Int32)) C dX12_readsRhyme_53 rfl rfl ?_
      refine Go_aload_n (q := 55) C 0 rfl dX12_readsRhyme_54 rfl ?_
      refine Go_getI (q := 58) (k := 25) C ci12 iw_12 kM_0 rfl wm_24_15 rfl dX12_readsRhyme_55 rfl ?_
      refine Go_iconst (q := 59) (v := (1 : Int32)) C dX12_readsRhyme_58 rfl rfl ?_
      refine Go_isub (q := 60) C dX12_readsRhyme_59 rfl ?_
      refine Go_callV_I (av := (fun ad => [.int (0 : Int32), .int ((gI S49_7 0 25) - (1 : Int32))])) (st := []) (C := C) (hM := c_X12_needsNumber (Gl G)  hR hw) (hlk := wm_26_21) (hini := wm_1_5) (hins := wm_26_22) (hsel := wm_26_23) (hcode := wm_27_0) (ho := kM_0) (hci := rfl) (hc13 := by decide) (n := 2) (hd := by decide +kernel) (hr0 := ⟨rfl, rfl⟩) (hroom := ⟨by first | decide | (dsimp only; omega), by first | decide | (dsimp only; omega)⟩) (hlen := rfl) (hst := rfl) (hW := Nat.le_of_ble_eq_true rfl) (hdg := dX12_readsRhyme_60) (q := 63) (hq := rfl) (fun r60_9 S60_8 hw hR => ?_)
      refine Go_if_ne (t := 68) (q := 66) C hw dX12_readsRhyme_63 rfl rfl (fun hw => ?_) (fun hw => ?_)
      · refine Go_iconst (q := 67) (v := (0 : Int32)) C dX12_readsRhyme_66 rfl rfl ?_
        exact Go_zret C hQ hR rfl hw dX12_readsRhyme_67
      · refine Go_aload_n (q := 69) C 0 rfl dX12_readsRhyme_68 rfl ?_
        refine Go_getA (q := 72) (k := 34) C ci12 iw_12 kM_0 (rM_0_34 hR) rfl wm_13_8 rfl dX12_readsRhyme_69 rfl ?_
        refine Go_aload_n (q := 73) C 0 rfl dX12_readsRhyme_72 rfl ?_
        refine Go_getI (q := 76) (k := 27) C ci12 iw_12 kM_0 rfl wm_24_18 rfl dX12_readsRhyme_73 rfl ?_
        refine Go_aload_n (q := 77) C 0 rfl dX12_readsRhyme_76 rfl ?_
        refine Go_getI (q := 80) (k := 8) C ci12 iw_12 kM_0 rfl wm_25_13 rfl dX12_readsRhyme_77 rfl ?_
        obtain ⟨hin, hw⟩ := hw
        refine Go_iastore (q := 81) C kM_12 hin dX12_readsRhyme_80 rfl ?_
        refine Go_S (fun S80_10 e_S80_10 => ?_)
        have hw := hw S80_10 e_S80_10
        have hR := rcM e_S80_10 hR
        refine Go_aload_n (q := 82) C 0 rfl dX12_readsRhyme_81 rfl ?_
        refine Go_getA (q := 85) (k := 33) C ci12 iw_12 kM_0 (rM_0_33 hR) rfl wm_13_7 rfl dX12_readsRhyme_82 rfl ?_
        refine Go_aload_n (q := 86) C 0 rfl dX12_readsRhyme_85 rfl ?_
        refine Go_getI (q := 89) (k := 27) C ci12 iw_12 kM_0 rfl wm_24_18 rfl dX12_readsRhyme_86 rfl ?_
        obtain ⟨hin, hw⟩ := hw
        refine Go_iaload (q := 90) C kM_11 hin dX12_readsRhyme_89 rfl ?_
        refine Go_aload_n (q := 91) C 0 rfl dX12_readsRhyme_90 rfl ?_
        refine Go_getI (q := 94) (k := 8) C ci12 iw_12 kM_0 rfl wm_25_13 rfl dX12_readsRhyme_91 rfl ?_
        refine Go_icmp_ne (t := 103) (q := 97) C hw dX12_readsRhyme_94 rfl rfl (fun hw => ?_) (fun hw => ?_)
        · refine Go_aload_n (q := 98) C 0 rfl dX12_readsRhyme_97 rfl ?_
          refine Go_iconst (q := 99) (v := (3 : Int32)) C dX12_readsRhyme_98 rfl rfl ?_
          refine Go_callV_I (av := (fun ad => [.int (3 : Int32)])) (st := []) (C := C) (hM := c_X12_fails (Gl G)  hR hw) (hlk := wm_26_17) (hini := wm_1_5) (hins := wm_26_18) (hsel := wm_26_19) (hcode := wm_26_20) (ho := kM_0) (hci := rfl) (hc13 := by decide) (n := 1) (hd := by decide +kernel) (hr0 := ⟨rfl, rfl⟩) (hroom := ⟨by first | decide | (dsimp only; omega), by first | decide | (dsimp only; omega)⟩) (hlen := rfl) (hst := rfl) (hW := Nat.le_of_ble_eq_true rfl) (hdg := dX12_readsRhyme_99) (q := 102) (hq := rfl) (fun r99_12 S99_11 hw hR => ?_)
          exact Go_zret C hQ hR (zb hw.1) hw.2 dX12_readsRhyme_102
        · refine Go_aload_n (q := 104) C 0 rfl dX12_readsRhyme_103 rfl ?_
          refine Go_dup (q := 105) C rfl dX12_readsRhyme_104 rfl ?_
          refine Go_getI (q := 108) (k := 27) C ci12 iw_12 kM_0 rfl wm_24_18 rfl dX12_readsRhyme_105 rfl ?_
          refine Go_iconst (q := 109) (v := (1 : Int32)) C dX12_readsRhyme_108 rfl rfl ?_
          refine Go_iadd (q := 110) C dX12_readsRhyme_109 rfl ?_
          refine Go_putI (q := 113) (k := 27) C ci12 iw_12 kM_0 rfl wm_24_18 rfl rfl (ci12.2.2.2.1 27 (by decide)) rfl rfl dX12_readsRhyme_110 rfl ?_
          refine Go_S (fun S110_13 e_S110_13 => ?_)
          have hw := hw S110_13 e_S110_13
          have hR := rcM e_S110_13 hR
          refine Go_aload_n (q := 114) C 0 rfl dX12_readsRhyme_113 rfl ?_
          refine Go_callV_V (av := (fun ad => [])) (st := []) (C := C) (hM := c_X12_nextToken (Gl G)  hR hw) (hlk := wm_25_21) (hini := wm_1_5) (hins := wm_25_22) (hsel := wm_25_23) (hcode := wm_26_0) (ho := kM_0) (hci := rfl) (hc13 := by decide) (n := 0) (hd := by decide +kernel) (hr0 := ⟨rfl, rfl⟩) (hroom := ⟨by first | decide | (dsimp only; omega), by first | decide | (dsimp only; omega)⟩) (hlen := rfl) (hst := rfl) (hW := Nat.le_of_ble_eq_true rfl) (hdg := dX12_readsRhyme_114) (q := 117) (hq := rfl) (fun S114_14 hw hR => ?_)
          refine Go_aload_n (q := 118) C 0 rfl dX12_readsRhyme_117 rfl ?_
          refine Go_callV_I (av := (fun ad => [])) (st := []) (C := C) (hM := c_X12_ends (Gl G)  hR hw) (hlk := wm_27_4) (hini := wm_1_5) (hins := wm_27_5) (hsel := wm_27_6) (hcode := wm_27_7) (ho := kM_0) (hci := rfl) (hc13 := by decide) (n := 0) (hd := by decide +kernel) (hr0 := ⟨rfl, rfl⟩) (hroom := ⟨by first | decide | (dsimp only; omega), by first | decide | (dsimp only; omega)⟩) (hlen := rfl) (hst := rfl) (hW := Nat.le_of_ble_eq_true rfl) (hdg := dX12_readsRhyme_118) (q := 121) (hq := rfl) (fun r118_16 S118_15 hw hR => ?_)
          exact Go_zret C hQ hR (zb hw.1) hw.2 dX12_readsRhyme_121
-- X12_readsWhole
abbrev rm_X12_readsWhole : Room := { frames := 3, cells := 0, slots := 0, locals := 64 }
set_option maxRecDepth 100000 in
set_option maxHeartbeats 4000000 in
theorem c_X12_readsWhole (l : Launch) {S : St} {Q : Int32 → St → Prop} (hR : RCM S) (hw : w_X12_readsWhole S Q) : MetI l yX12_readsWhole (wB yX12_readsWhole cX12_readsWhole 2 (some .boolean)) rm_X12_readsWhole shM NM RCM (fun ad => [.ref (ad (0))]) S Q := by
  refine MetI_of (cc := cX12_readsWhole) (maxL := 2) (ret := (some .boolean)) (plainFor_of_name (by decide)) (fun _ => Nat.le_of_ble_eq_true rfl) (fun G C hl hQ => ?_)
  subst hl
  have C : Cx G cX12_readsWhole BIG RX12 2 (some .boolean) rm_X12_readsWhole shM NM := C
  show Go G 2 0 [] [(0, .ref (Gad G (0)))] S
  unfold w_X12_readsWhole at hw
  refine Go_aload_n (q := 1) C 0 rfl dX12_readsWhole_0 rfl ?_
  refine Go_callV_V (av := (fun ad => [])) (st := []) (C := C) (hM := c_X12_nextToken (Gl G)  hR hw) (hlk := wm_25_21) (hini := wm_1_5) (hins := wm_25_22) (hsel := wm_25_23) (hcode := wm_26_0) (ho := kM_0) (hci := rfl) (hc13 := by decide) (n := 0) (hd := by decide +kernel) (hr0 := ⟨rfl, rfl⟩) (hroom := ⟨by first | decide | (dsimp only; omega), by first | decide | (dsimp only; omega)⟩) (hlen := rfl) (hst := rfl) (hW := Nat.le_of_ble_eq_true rfl) (hdg := dX12_readsWhole_1) (q := 4) (hq := rfl) (fun S1_1 hw hR => ?_)
  refine Go_aload_n (q := 5) C 0 rfl dX12_readsWhole_4 rfl ?_
  refine Go_iconst (q := 6) (v := (0 : Int32)) C dX12_readsWhole_5 rfl rfl ?_
  refine Go_aload_n (q := 7) C 0 rfl dX12_readsWhole_6 rfl ?_
  refine Go_getI (q := 10) (k := 25) C ci12 iw_12 kM_0 rfl wm_24_15 rfl dX12_readsWhole_7 rfl ?_
  refine Go_iconst (q := 11) (v := (1 : Int32)) C dX12_readsWhole_10 rfl rfl ?_
  refine Go_isub (q := 12) C dX12_readsWhole_11 rfl ?_
  refine Go_callV_I (av := (fun ad => [.int (0 : Int32), .int ((gI S1_1 0 25) - (1 : Int32))])) (st := []) (C := C) (hM := c_X12_needsNumber (Gl G)  hR hw) (hlk := wm_26_21) (hini := wm_1_5) (hins := wm_26_22) (hsel := wm_26_23) (hcode := wm_27_0) (ho := kM_0) (hci := rfl) (hc13 := by decide) (n := 2) (hd := by decide +kernel) (hr0 := ⟨rfl, rfl⟩) (hroom := ⟨by first | decide | (dsimp only; omega), by first | decide | (dsimp only; omega)⟩) (hlen := rfl) (hst := rfl) (hW := Nat.le_of_ble_eq_true rfl) (hdg := dX12_readsWhole_12) (q := 15) (hq := rfl) (fun r12_3 S12_2 hw hR => ?_)
  refine Go_if_ne (t := 20) (q := 18) C hw dX12_readsWhole_15 rfl rfl (fun hw => ?_) (fun hw => ?_)
  · refine Go_iconst (q := 19) (v := (0 : Int32)) C dX12_readsWhole_18 rfl rfl ?_
    exact Go_zret C hQ hR rfl hw dX12_readsWhole_19
  · refine Go_aload_n (q := 21) C 0 rfl dX12_readsWhole_20 rfl ?_
    refine Go_getI (q := 24) (k := 8) C ci12 iw_12 kM_0 rfl wm_25_13 rfl dX12_readsWhole_21 rfl ?_
    refine Go_topi (fun x24_4 e_x24_4 => ?_)
    have hw := hw x24_4 e_x24_4
    refine Go_istore_n (q := 25) (lv' := [(1, .int x24_4), (0, .ref (Gad G (0)))]) C rfl dX12_readsWhole_24 (by decide) rfl rfl ?_
    refine Go_aload_n (q := 26) C 1 rfl dX12_readsWhole_25 rfl ?_
    refine Go_getA (q := 29) (k := 35) C ci12 iw_12 kM_0 (rM_0_35 hR) rfl wm_13_9 rfl dX12_readsWhole_26 rfl ?_
    refine Go_iload_n (q := 30) C 0 rfl dX12_readsWhole_29 rfl ?_
    obtain ⟨hin, hw⟩ := hw
    refine Go_iaload (q := 31) C kM_13 hin dX12_readsWhole_30 rfl ?_
    refine Go_if_le (t := 40) (q := 34) C hw dX12_readsWhole_31 rfl rfl (fun hw => ?_) (fun hw => ?_)
    · refine Go_aload_n (q := 41) C 1 rfl dX12_readsWhole_40 rfl ?_
      refine Go_callV_V (av := (fun ad => [])) (st := []) (C := C) (hM := c_X12_nextToken (Gl G)  hR hw) (hlk := wm_25_21) (hini := wm_1_5) (hins := wm_25_22) (hsel := wm_25_23) (hcode := wm_26_0) (ho := kM_0) (hci := rfl) (hc13 := by decide) (n := 0) (hd := by decide +kernel) (hr0 := ⟨rfl, rfl⟩) (hroom := ⟨by first | decide | (dsimp only; omega), by first | decide | (dsimp only; omega)⟩) (hlen := rfl) (hst := rfl) (hW := Nat.le_of_ble_eq_true rfl) (hdg := dX12_readsWhole_41) (q := 44) (hq := rfl) (fun S41_5 hw hR => ?_)
      refine Go_aload_n (q := 45) C 1 rfl dX12_readsWhole_44 rfl ?_
      refine Go_ldc2 (q := 48) (v := (3094387 : Int64)) C wm_28_22 dX12_readsWhole_45 rfl ?_
      refine Go_callV_I (av := (fun ad => [.long (3094387 : Int64)])) (st := []) (C := C) (hM := c_X12_needsWord (Gl G)  hR hw) (hlk := wm_26_9) (hini := wm_1_5) (hins := wm_26_10) (hsel := wm_26_11) (hcode := wm_26_12) (ho := kM_0) (hci := rfl) (hc13 := by decide) (n := 1) (hd := by decide +kernel) (hr0 := ⟨rfl, rfl⟩) (hroom := ⟨by first | decide | (dsimp only; omega), by first | decide | (dsimp only; omega)⟩) (hlen := rfl) (hst := rfl) (hW := Nat.le_of_ble_eq_true rfl) (hdg := dX12_readsWhole_48) (q := 51) (hq := rfl) (fun r48_7 S48_6 hw hR => ?_)
      refine Go_if_eq (t := 64) (q := 54) C hw dX12_readsWhole_51 rfl rfl (fun hw => ?_) (fun hw => ?_)
      · refine Go_iconst (q := 65) (v := (0 : Int32)) C dX12_readsWhole_64 rfl rfl ?_
        exact Go_zret C hQ hR rfl hw dX12_readsWhole_65
      · refine Go_aload_n (q := 55) C 1 rfl dX12_readsWhole_54 rfl ?_
        refine Go_iconst (q := 56) (v := (1 : Int32)) C dX12_readsWhole_55 rfl rfl ?_
        refine Go_bipush (q := 58) (v := (99 : Int32)) C dX12_readsWhole_56 rfl rfl ?_
        refine Go_callV_I (av := (fun ad => [.int (1 : Int32), .int (99 : Int32)])) (st := []) (C := C) (hM := c_X12_needsNumber (Gl G)  hR hw) (hlk := wm_26_21) (hini := wm_1_5) (hins := wm_26_22) (hsel := wm_26_23) (hcode := wm_27_0) (ho := kM_0) (hci := rfl) (hc13 := by decide) (n := 2) (hd := by decide +kernel) (hr0 := ⟨rfl, rfl⟩) (hroom := ⟨by first | decide | (dsimp only; omega), by first | decide | (dsimp only; omega)⟩) (hlen := rfl) (hst := rfl) (hW := Nat.le_of_ble_eq_true rfl) (hdg := dX12_readsWhole_58) (q := 61) (hq := rfl) (fun r58_9 S58_8 hw hR => ?_)
        refine Go_if_ne (t := 66) (q := 64) C hw dX12_readsWhole_61 rfl rfl (fun hw => ?_) (fun hw => ?_)
        · refine Go_iconst (q := 65) (v := (0 : Int32)) C dX12_readsWhole_64 rfl rfl ?_
          exact Go_zret C hQ hR rfl hw dX12_readsWhole_65
        · refine Go_aload_n (q := 67) C 1 rfl dX12_readsWhole_66 rfl ?_
          refine Go_getA (q := 70) (k := 35) C ci12 iw_12 kM_0 (rM_0_35 hR) rfl wm_13_9 rfl dX12_readsWhole_67 rfl ?_
          refine Go_iload_n (q := 71) C 0 rfl dX12_readsWhole_70 rfl ?_
          refine Go_aload_n (q := 72) C 1 rfl dX12_readsWhole_71 rfl ?_
          refine Go_getI (q := 75) (k := 8) C ci12 iw_12 kM_0 rfl wm_25_13 rfl dX12_readsWhole_72 rfl ?_
          obtain ⟨hin, hw⟩ := hw
          refine Go_iastore (q := 76) C kM_13 hin dX12_readsWhole_75 rfl ?_
          refine Go_S (fun S75_10 e_S75_10 => ?_)
          have hw := hw S75_10 e_S75_10
          have hR := rcM e_S75_10 hR
          refine Go_aload_n (q := 77) C 1 rfl dX12_readsWhole_76 rfl ?_
          refine Go_dup (q := 78) C rfl dX12_readsWhole_77 rfl ?_
          refine Go_getI (q := 81) (k := 28) C ci12 iw_12 kM_0 rfl wm_24_20 rfl dX12_readsWhole_78 rfl ?_
          refine Go_iconst (q := 82) (v := (1 : Int32)) C dX12_readsWhole_81 rfl rfl ?_
          refine Go_iadd (q := 83) C dX12_readsWhole_82 rfl ?_
          refine Go_putI (q := 86) (k := 28) C ci12 iw_12 kM_0 rfl wm_24_20 rfl rfl (ci12.2.2.2.1 28 (by decide)) rfl rfl dX12_readsWhole_83 rfl ?_
          refine Go_S (fun S83_11 e_S83_11 => ?_)
          have hw := hw S83_11 e_S83_11
          have hR := rcM e_S83_11 hR
          refine Go_aload_n (q := 87) C 1 rfl dX12_readsWhole_86 rfl ?_
          refine Go_callV_V (av := (fun ad => [])) (st := []) (C := C) (hM := c_X12_nextToken (Gl G)  hR hw) (hlk := wm_25_21) (hini := wm_1_5) (hins := wm_25_22) (hsel := wm_25_23) (hcode := wm_26_0) (ho := kM_0) (hci := rfl) (hc13 := by decide) (n := 0) (hd := by decide +kernel) (hr0 := ⟨rfl, rfl⟩) (hroom := ⟨by first | decide | (dsimp only; omega), by first | decide | (dsimp only; omega)⟩) (hlen := rfl) (hst := rfl) (hW := Nat.le_of_ble_eq_true rfl) (hdg := dX12_readsWhole_87) (q := 90) (hq := rfl) (fun S87_12 hw hR => ?_)
          refine Go_aload_n (q := 91) C 1 rfl dX12_readsWhole_90 rfl ?_
          refine Go_callV_I (av := (fun ad => [])) (st := []) (C := C) (hM := c_X12_ends (Gl G)  hR hw) (hlk := wm_27_4) (hini := wm_1_5) (hins := wm_27_5) (hsel := wm_27_6) (hcode := wm_27_7) (ho := kM_0) (hci := rfl) (hc13 := by decide) (n := 0) (hd := by decide +kernel) (hr0 := ⟨rfl, rfl⟩) (hroom := ⟨by first | decide | (dsimp only; omega), by first | decide | (dsimp only; omega)⟩) (hlen := rfl) (hst := rfl) (hW := Nat.le_of_ble_eq_true rfl) (hdg := dX12_readsWhole_91) (q := 94) (hq := rfl) (fun r91_14 S91_13 hw hR => ?_)
          exact Go_zret C hQ hR (zb hw.1) hw.2 dX12_readsWhole_94
    · refine Go_aload_n (q := 35) C 1 rfl dX12_readsWhole_34 rfl ?_
      refine Go_iconst (q := 36) (v := (3 : Int32)) C dX12_readsWhole_35 rfl rfl ?_
      refine Go_callV_I (av := (fun ad => [.int (3 : Int32)])) (st := []) (C := C) (hM := c_X12_fails (Gl G)  hR hw) (hlk := wm_26_17) (hini := wm_1_5) (hins := wm_26_18) (hsel := wm_26_19) (hcode := wm_26_20) (ho := kM_0) (hci := rfl) (hc13 := by decide) (n := 1) (hd := by decide +kernel) (hr0 := ⟨rfl, rfl⟩) (hroom := ⟨by first | decide | (dsimp only; omega), by first | decide | (dsimp only; omega)⟩) (hlen := rfl) (hst := rfl) (hW := Nat.le_of_ble_eq_true rfl) (hdg := dX12_readsWhole_36) (q := 39) (hq := rfl) (fun r36_16 S36_15 hw hR => ?_)
      exact Go_zret C hQ hR (zb hw.1) hw.2 dX12_readsWhole_39
-- X12_readsFeet
abbrev rm_X12_readsFeet : Room := { frames := 3, cells := 0, slots := 0, locals := 62 }
set_option maxRecDepth 100000 in
set_option maxHeartbeats 4000000 in
theorem c_X12_readsFeet (l : Launch) {S : St} {Q : Int32 → St → Prop} (hR : RCM S) (hw : w_X12_readsFeet S Q) : MetI l yX12_readsFeet (wB yX12_readsFeet cX12_readsFeet 1 (some .boolean)) rm_X12_readsFeet shM NM RCM (fun ad => [.ref (ad (0))]) S Q := by
  refine MetI_of (cc := cX12_readsFeet) (maxL := 1) (ret := (some .boolean)) (plainFor_of_name (by decide)) (fun _ => Nat.le_of_ble_eq_true rfl) (fun G C hl hQ => ?_)
  subst hl
  have C : Cx G cX12_readsFeet BIG RX12 1 (some .boolean) rm_X12_readsFeet shM NM := C
  show Go G 1 0 [] [(0, .ref (Gad G (0)))] S
  unfold w_X12_readsFeet at hw
  refine Go_aload_n (q := 1) C 0 rfl dX12_readsFeet_0 rfl ?_
  refine Go_getI (q := 4) (k := 29) C ci12 iw_12 kM_0 rfl wm_24_22 rfl dX12_readsFeet_1 rfl ?_
  refine Go_if_le (t := 13) (q := 7) C hw dX12_readsFeet_4 rfl rfl (fun hw => ?_) (fun hw => ?_)
  · refine Go_aload_n (q := 14) C 0 rfl dX12_readsFeet_13 rfl ?_
    refine Go_callV_V (av := (fun ad => [])) (st := []) (C := C) (hM := c_X12_nextToken (Gl G)  hR hw) (hlk := wm_25_21) (hini := wm_1_5) (hins := wm_25_22) (hsel := wm_25_23) (hcode := wm_26_0) (ho := kM_0) (hci := rfl) (hc13 := by decide) (n := 0) (hd := by decide +kernel) (hr0 := ⟨rfl, rfl⟩) (hroom := ⟨by first | decide | (dsimp only; omega), by first | decide | (dsimp only; omega)⟩) (hlen := rfl) (hst := rfl) (hW := Nat.le_of_ble_eq_true rfl) (hdg := dX12_readsFeet_14) (q := 17) (hq := rfl) (fun S14_1 hw hR => ?_)
    refine Go_aload_n (q := 18) C 0 rfl dX12_readsFeet_17 rfl ?_
    refine Go_iconst (q := 19) (v := (1 : Int32)) C dX12_readsFeet_18 rfl rfl ?_
    refine Go_bipush (q := 21) (v := (99 : Int32)) C dX12_readsFeet_19 rfl rfl ?_
    refine Go_callV_I (av := (fun ad => [.int (1 : Int32), .int (99 : Int32)])) (st := []) (C := C) (hM := c_X12_needsNumber (Gl G)  hR hw) (hlk := wm_26_21) (hini := wm_1_5) (hins := wm_26_22) (hsel := wm_26_23) (hcode := wm_27_0) (ho := kM_0) (hci := rfl) (hc13 := by decide) (n := 2) (hd := by decide +kernel) (hr0 := ⟨rfl, rfl⟩) (hroom := ⟨by first | decide | (dsimp only; omega), by first | decide | (dsimp only; omega)⟩) (hlen := rfl) (hst := rfl) (hW := Nat.le_of_ble_eq_true rfl) (hdg := dX12_readsFeet_21) (q := 24) (hq := rfl) (fun r21_3 S21_2 hw hR => ?_)
    refine Go_if_ne (t := 29) (q := 27) C hw dX12_readsFeet_24 rfl rfl (fun hw => ?_) (fun hw => ?_)
    · refine Go_iconst (q := 28) (v := (0 : Int32)) C dX12_readsFeet_27 rfl rfl ?_
      exact Go_zret C hQ hR rfl hw dX12_readsFeet_28
    · refine Go_aload_n (q := 30) C 0 rfl dX12_readsFeet_29 rfl ?_
      refine Go_aload_n (q := 31) C 0 rfl dX12_readsFeet_30 rfl ?_
      refine Go_getI (q := 34) (k := 8) C ci12 iw_12 kM_0 rfl wm_25_13 rfl dX12_readsFeet_31 rfl ?_
      refine Go_putI (q := 37) (k := 29) C ci12 iw_12 kM_0 rfl wm_24_22 rfl rfl (ci12.2.2.2.1 29 (by decide)) rfl rfl dX12_readsFeet_34 rfl ?_
      refine Go_S (fun S34_4 e_S34_4 => ?_)
      have hw := hw S34_4 e_S34_4
      have hR := rcM e_S34_4 hR
      refine Go_aload_n (q := 38) C 0 rfl dX12_readsFeet_37 rfl ?_
      refine Go_callV_V (av := (fun ad => [])) (st := []) (C := C) (hM := c_X12_nextToken (Gl G)  hR hw) (hlk := wm_25_21) (hini := wm_1_5) (hins := wm_25_22) (hsel := wm_25_23) (hcode := wm_26_0) (ho := kM_0) (hci := rfl) (hc13 := by decide) (n := 0) (hd := by decide +kernel) (hr0 := ⟨rfl, rfl⟩) (hroom := ⟨by first | decide | (dsimp only; omega), by first | decide | (dsimp only; omega)⟩) (hlen := rfl) (hst := rfl) (hW := Nat.le_of_ble_eq_true rfl) (hdg := dX12_readsFeet_38) (q := 41) (hq := rfl) (fun S38_5 hw hR => ?_)
      refine Go_aload_n (q := 42) C 0 rfl dX12_readsFeet_41 rfl ?_
      refine Go_callV_I (av := (fun ad => [])) (st := []) (C := C) (hM := c_X12_ends (Gl G)  hR hw) (hlk := wm_27_4) (hini := wm_1_5) (hins := wm_27_5) (hsel := wm_27_6) (hcode := wm_27_7) (ho := kM_0) (hci := rfl) (hc13 := by decide) (n := 0) (hd := by decide +kernel) (hr0 := ⟨rfl, rfl⟩) (hroom := ⟨by first | decide | (dsimp only; omega), by first | decide | (dsimp only; omega)⟩) (hlen := rfl) (hst := rfl) (hW := Nat.le_of_ble_eq_true rfl) (hdg := dX12_readsFeet_42) (q := 45) (hq := rfl) (fun r42_7 S42_6 hw hR => ?_)
      exact Go_zret C hQ hR (zb hw.1) hw.2 dX12_readsFeet_45
  · refine Go_aload_n (q := 8) C 0 rfl dX12_readsFeet_7 rfl ?_
    refine Go_iconst (q := 9) (v := (3 : Int32)) C dX12_readsFeet_8 rfl rfl ?_
    refine Go_callV_I (av := (fun ad => [.int (3 : Int32)])) (st := []) (C := C) (hM := c_X12_fails (Gl G)  hR hw) (hlk := wm_26_17) (hini := wm_1_5) (hins := wm_26_18) (hsel := wm_26_19) (hcode := wm_26_20) (ho := kM_0) (hci := rfl) (hc13 := by decide) (n := 1) (hd := by decide +kernel) (hr0 := ⟨rfl, rfl⟩) (hroom := ⟨by first | decide | (dsimp only; omega), by first | decide | (dsimp only; omega)⟩) (hlen := rfl) (hst := rfl) (hW := Nat.le_of_ble_eq_true rfl) (hdg := dX12_readsFeet_9) (q := 12) (hq := rfl) (fun r9_9 S9_8 hw hR => ?_)
    exact Go_zret C hQ hR (zb hw.1) hw.2 dX12_readsFeet_12
-- X12_readsEntry
abbrev rm_X12_readsEntry : Room := { frames := 3, cells := 0, slots := 0, locals := 64 }
set_option maxRecDepth 100000 in
set_option maxHeartbeats 4000000 in
theorem g_X12_readsEntry_34 {G : GC} (C : Cx G cX12_readsEntry BIG RX12 2 (some .boolean) rm_X12_readsEntry shM NM) {Q : Int32 → St → Prop} (hQ : QI G RCM Q) (v1 : Int32) {S : St} (hR : RCM S) (hw : w_X12_readsEntry_34 Q v1 S) : Go G 2 34 [] [(0, .ref (Gad G (0))), (1, .int v1)] S := by
  obtain ⟨n, hw⟩ := hw
  induction n generalizing v1 S with
  | zero => exact hw.elim
  | succ n ih =>
    have hw : b_X12_readsEntry_34 Q (lpn (fun _ _ => False) (b_X12_readsEntry_34 Q) n) v1 S := hw
    generalize lpn (fun _ _ => False) (b_X12_readsEntry_34 Q) n = kf at hw ih
    have hk34 := fun (v1 : Int32) (S : St) (hR : RCM S) hw => ih v1 hR hw
    unfold b_X12_readsEntry_34 at hw
    refine Go_iload_n (q := 35) C 1 rfl dX12_readsEntry_34 rfl ?_
    refine Go_aload_n (q := 36) C 0 rfl dX12_readsEntry_35 rfl ?_
    refine Go_getI (q := 39) (k := 30) C ci12 iw_12 kM_0 rfl wm_25_0 rfl dX12_readsEntry_36 rfl ?_
    refine Go_icmp_ge (t := 68) (q := 42) C hw dX12_readsEntry_39 rfl rfl (fun hw => ?_) (fun hw => ?_)
    · refine Go_aload_n (q := 69) C 0 rfl dX12_readsEntry_68 rfl ?_
      refine Go_getA (q := 72) (k := 36) C ci12 iw_12 kM_0 (rM_0_36 hR) rfl wm_13_10 rfl dX12_readsEntry_69 rfl ?_
      refine Go_aload_n (q := 73) C 0 rfl dX12_readsEntry_72 rfl ?_
      refine Go_getI (q := 76) (k := 30) C ci12 iw_12 kM_0 rfl wm_25_0 rfl dX12_readsEntry_73 rfl ?_
      refine Go_aload_n (q := 77) C 0 rfl dX12_readsEntry_76 rfl ?_
      refine Go_getJ (q := 80) (k := 7) C ci12 iw_12 kM_0 rfl wm_26_2 rfl dX12_readsEntry_77 rfl ?_
      obtain ⟨hin, hw⟩ := hw
      refine Go_lastore (q := 81) C kM_14 hin dX12_readsEntry_80 rfl ?_
      refine Go_S (fun S80_6 e_S80_6 => ?_)
      have hw := hw S80_6 e_S80_6
      have hR := rcMJ e_S80_6 hR
      refine Go_aload_n (q := 82) C 0 rfl dX12_readsEntry_81 rfl ?_
      refine Go_callV_V (av := (fun ad => [])) (st := []) (C := C) (hM := c_X12_nextToken (Gl G) hR hw) (hlk := wm_25_21) (hini := wm_1_5) (hins := wm_25_22) (hsel := wm_25_23) (hcode := wm_26_0) (ho := kM_0) (hci := rfl) (hc13 := by decide) (n := 0) (hd := by decide +kernel) (hr0 := ⟨rfl, rfl⟩) (hroom := ⟨by first | decide | (dsimp only; omega), by first | decide | (dsimp only; omega)⟩) (hlen := rfl) (hst := rfl) (hW := Nat.le_of_ble_eq_true rfl) (hdg := dX12_readsEntry_82) (q := 85) (hq := rfl) (fun S82_7 hw hR => ?_)
      refine Go_aload_n (q := 86) C 0 rfl dX12_readsEntry_85 rfl ?_
      refine Go_ldc2 (q := 89) (v := (9741983 : Int64)) C wm_25_16 dX12_readsEntry_86 rfl ?_
      refine Go_callV_I (av := (fun ad => [.long (9741983 : Int64)])) (st := []) (C := C) (hM := c_X12_needsWord (Gl G) hR hw) (hlk := wm_26_9) (hini := wm_1_5) (hins := wm_26_10) (hsel := wm_26_11) (hcode := wm_26_12) (ho := kM_0) (hci := rfl) (hc13 := by decide) (n := 1) (hd := by decide +kernel) (hr0 := ⟨rfl, rfl⟩) (hroom := ⟨by first | decide | (dsimp only; omega), by first | decide | (dsimp only; omega)⟩) (hlen := rfl) (hst := rfl) (hW := Nat.le_of_ble_eq_true rfl) (hdg := dX12_readsEntry_89) (q := 92) (hq := rfl) (fun r89_9 S89_8 hw hR => ?_)
      refine Go_if_eq (t := 105) (q := 95) C hw dX12_readsEntry_92 rfl rfl (fun hw => ?_) (fun hw => ?_)
      · refine Go_iconst (q := 106) (v := (0 : Int32)) C dX12_readsEntry_105 rfl rfl ?_
        exact Go_zret C hQ hR rfl hw dX12_readsEntry_106
      · refine Go_aload_n (q := 96) C 0 rfl dX12_readsEntry_95 rfl ?_
        refine Go_iconst (q := 97) (v := (0 : Int32)) C dX12_readsEntry_96 rfl rfl ?_
        refine Go_bipush (q := 99) (v := (99 : Int32)) C dX12_readsEntry_97 rfl rfl ?_
        refine Go_callV_I (av := (fun ad => [.int (0 : Int32), .int (99 : Int32)])) (st := []) (C := C) (hM := c_X12_needsNumber (Gl G) hR hw) (hlk := wm_26_21) (hini := wm_1_5) (hins := wm_26_22) (hsel := wm_26_23) (hcode := wm_27_0) (ho := kM_0) (hci := rfl) (hc13 := by decide) (n := 2) (hd := by decide +kernel) (hr0 := ⟨rfl, rfl⟩) (hroom := ⟨by first | decide | (dsimp only; omega), by first | decide | (dsimp only; omega)⟩) (hlen := rfl) (hst := rfl) (hW := Nat.le_of_ble_eq_true rfl) (hdg := dX12_readsEntry_99) (q := 102) (hq := rfl) (fun r99_11 S99_10 hw hR => ?_)
        refine Go_if_ne (t := 107) (q := 105) C hw dX12_readsEntry_102 rfl rfl (fun hw => ?_) (fun hw => ?_)
        · refine Go_iconst (q := 106) (v := (0 : Int32)) C dX12_readsEntry_105 rfl rfl ?_
          exact Go_zret C hQ hR rfl hw dX12_readsEntry_106
        · refine Go_aload_n (q := 108) C 0 rfl dX12_readsEntry_107 rfl ?_
          refine Go_getA (q := 111) (k := 37) C ci12 iw_12 kM_0 (rM_0_37 hR) rfl wm_13_11 rfl dX12_readsEntry_108 rfl ?_
          refine Go_aload_n (q := 112) C 0 rfl dX12_readsEntry_111 rfl ?_
          refine Go_getI (q := 115) (k := 30) C ci12 iw_12 kM_0 rfl wm_25_0 rfl dX12_readsEntry_112 rfl ?_
          refine Go_aload_n (q := 116) C 0 rfl dX12_readsEntry_115 rfl ?_
          refine Go_getI (q := 119) (k := 8) C ci12 iw_12 kM_0 rfl wm_25_13 rfl dX12_readsEntry_116 rfl ?_
          obtain ⟨hin, hw⟩ := hw
          refine Go_iastore (q := 120) C kM_15 hin dX12_readsEntry_119 rfl ?_
          refine Go_S (fun S119_12 e_S119_12 => ?_)
          have hw := hw S119_12 e_S119_12
          have hR := rcM e_S119_12 hR
          refine Go_aload_n (q := 121) C 0 rfl dX12_readsEntry_120 rfl ?_
          refine Go_callV_V (av := (fun ad => [])) (st := []) (C := C) (hM := c_X12_nextToken (Gl G) hR hw) (hlk := wm_25_21) (hini := wm_1_5) (hins := wm_25_22) (hsel := wm_25_23) (hcode := wm_26_0) (ho := kM_0) (hci := rfl) (hc13 := by decide) (n := 0) (hd := by decide +kernel) (hr0 := ⟨rfl, rfl⟩) (hroom := ⟨by first | decide | (dsimp only; omega), by first | decide | (dsimp only; omega)⟩) (hlen := rfl) (hst := rfl) (hW := Nat.le_of_ble_eq_true rfl) (hdg := dX12_readsEntry_121) (q := 124) (hq := rfl) (fun S121_13 hw hR => ?_)
          refine Go_aload_n (q := 125) C 0 rfl dX12_readsEntry_124 rfl ?_
          refine Go_ldc2 (q := 128) (v := (1162585 : Int64)) C wm_29_7 dX12_readsEntry_125 rfl ?_
          refine Go_callV_I (av := (fun ad => [.long (1162585 : Int64)])) (st := []) (C := C) (hM := c_X12_needsWord (Gl G) hR hw) (hlk := wm_26_9) (hini := wm_1_5) (hins := wm_26_10) (hsel := wm_26_11) (hcode := wm_26_12) (ho := kM_0) (hci := rfl) (hc13 := by decide) (n := 1) (hd := by decide +kernel) (hr0 := ⟨rfl, rfl⟩) (hroom := ⟨by first | decide | (dsimp only; omega), by first | decide | (dsimp only; omega)⟩) (hlen := rfl) (hst := rfl) (hW := Nat.le_of_ble_eq_true rfl) (hdg := dX12_readsEntry_128) (q := 131) (hq := rfl) (fun r128_15 S128_14 hw hR => ?_)
          refine Go_if_eq (t := 144) (q := 134) C hw dX12_readsEntry_131 rfl rfl (fun hw => ?_) (fun hw => ?_)
          · refine Go_iconst (q := 145) (v := (0 : Int32)) C dX12_readsEntry_144 rfl rfl ?_
            exact Go_zret C hQ hR rfl hw dX12_readsEntry_145
          · refine Go_aload_n (q := 135) C 0 rfl dX12_readsEntry_134 rfl ?_
            refine Go_iconst (q := 136) (v := (1 : Int32)) C dX12_readsEntry_135 rfl rfl ?_
            refine Go_bipush (q := 138) (v := (9 : Int32)) C dX12_readsEntry_136 rfl rfl ?_
            refine Go_callV_I (av := (fun ad => [.int (1 : Int32), .int (9 : Int32)])) (st := []) (C := C) (hM := c_X12_needsNumber (Gl G) hR hw) (hlk := wm_26_21) (hini := wm_1_5) (hins := wm_26_22) (hsel := wm_26_23) (hcode := wm_27_0) (ho := kM_0) (hci := rfl) (hc13 := by decide) (n := 2) (hd := by decide +kernel) (hr0 := ⟨rfl, rfl⟩) (hroom := ⟨by first | decide | (dsimp only; omega), by first | decide | (dsimp only; omega)⟩) (hlen := rfl) (hst := rfl) (hW := Nat.le_of_ble_eq_true rfl) (hdg := dX12_readsEntry_138) (q := 141) (hq := rfl) (fun r138_17 S138_16 hw hR => ?_)
            refine Go_if_ne (t := 146) (q := 144) C hw dX12_readsEntry_141 rfl rfl (fun hw => ?_) (fun hw => ?_)
            · refine Go_iconst (q := 145) (v := (0 : Int32)) C dX12_readsEntry_144 rfl rfl ?_
              exact Go_zret C hQ hR rfl hw dX12_readsEntry_145
            · refine Go_aload_n (q := 147) C 0 rfl dX12_readsEntry_146 rfl ?_
              refine Go_getA (q := 150) (k := 38) C ci12 iw_12 kM_0 (rM_0_38 hR) rfl wm_13_12 rfl dX12_readsEntry_147 rfl ?_
              refine Go_aload_n (q := 151) C 0 rfl dX12_readsEntry_150 rfl ?_
              refine Go_getI (q := 154) (k := 30) C ci12 iw_12 kM_0 rfl wm_25_0 rfl dX12_readsEntry_151 rfl ?_
              refine Go_aload_n (q := 155) C 0 rfl dX12_readsEntry_154 rfl ?_
              refine Go_getI (q := 158) (k := 8) C ci12 iw_12 kM_0 rfl wm_25_13 rfl dX12_readsEntry_155 rfl ?_
              obtain ⟨hin, hw⟩ := hw
              refine Go_iastore (q := 159) C kM_16 hin dX12_readsEntry_158 rfl ?_
              refine Go_S (fun S158_18 e_S158_18 => ?_)
              have hw := hw S158_18 e_S158_18
              have hR := rcM e_S158_18 hR
              refine Go_aload_n (q := 160) C 0 rfl dX12_readsEntry_159 rfl ?_
              refine Go_callV_V (av := (fun ad => [])) (st := []) (C := C) (hM := c_X12_nextToken (Gl G) hR hw) (hlk := wm_25_21) (hini := wm_1_5) (hins := wm_25_22) (hsel := wm_25_23) (hcode := wm_26_0) (ho := kM_0) (hci := rfl) (hc13 := by decide) (n := 0) (hd := by decide +kernel) (hr0 := ⟨rfl, rfl⟩) (hroom := ⟨by first | decide | (dsimp only; omega), by first | decide | (dsimp only; omega)⟩) (hlen := rfl) (hst := rfl) (hW := Nat.le_of_ble_eq_true rfl) (hdg := dX12_readsEntry_160) (q := 163) (hq := rfl) (fun S160_19 hw hR => ?_)
              refine Go_aload_n (q := 164) C 0 rfl dX12_readsEntry_163 rfl ?_
              refine Go_ldc2 (q := 167) (v := (223456 : Int64)) C wm_29_8 dX12_readsEntry_164 rfl ?_
              refine Go_callV_I (av := (fun ad => [.long (223456 : Int64)])) (st := []) (C := C) (hM := c_X12_needsWord (Gl G) hR hw) (hlk := wm_26_9) (hini := wm_1_5) (hins := wm_26_10) (hsel := wm_26_11) (hcode := wm_26_12) (ho := kM_0) (hci := rfl) (hc13 := by decide) (n := 1) (hd := by decide +kernel) (hr0 := ⟨rfl, rfl⟩) (hroom := ⟨by first | decide | (dsimp only; omega), by first | decide | (dsimp only; omega)⟩) (hlen := rfl) (hst := rfl) (hW := Nat.le_of_ble_eq_true rfl) (hdg := dX12_readsEntry_167) (q := 170) (hq := rfl) (fun r167_21 S167_20 hw hR => ?_)
              refine Go_if_eq (t := 183) (q := 173) C hw dX12_readsEntry_170 rfl rfl (fun hw => ?_) (fun hw => ?_)
              · refine Go_iconst (q := 184) (v := (0 : Int32)) C dX12_readsEntry_183 rfl rfl ?_
                exact Go_zret C hQ hR rfl hw dX12_readsEntry_184
              · refine Go_aload_n (q := 174) C 0 rfl dX12_readsEntry_173 rfl ?_
                refine Go_iconst (q := 175) (v := (0 : Int32)) C dX12_readsEntry_174 rfl rfl ?_
                refine Go_bipush (q := 177) (v := (99 : Int32)) C dX12_readsEntry_175 rfl rfl ?_
                refine Go_callV_I (av := (fun ad => [.int (0 : Int32), .int (99 : Int32)])) (st := []) (C := C) (hM := c_X12_needsNumber (Gl G) hR hw) (hlk := wm_26_21) (hini := wm_1_5) (hins := wm_26_22) (hsel := wm_26_23) (hcode := wm_27_0) (ho := kM_0) (hci := rfl) (hc13 := by decide) (n := 2) (hd := by decide +kernel) (hr0 := ⟨rfl, rfl⟩) (hroom := ⟨by first | decide | (dsimp only; omega), by first | decide | (dsimp only; omega)⟩) (hlen := rfl) (hst := rfl) (hW := Nat.le_of_ble_eq_true rfl) (hdg := dX12_readsEntry_177) (q := 180) (hq := rfl) (fun r177_23 S177_22 hw hR => ?_)
                refine Go_if_ne (t := 185) (q := 183) C hw dX12_readsEntry_180 rfl rfl (fun hw => ?_) (fun hw => ?_)
                · refine Go_iconst (q := 184) (v := (0 : Int32)) C dX12_readsEntry_183 rfl rfl ?_
                  exact Go_zret C hQ hR rfl hw dX12_readsEntry_184
                · refine Go_aload_n (q := 186) C 0 rfl dX12_readsEntry_185 rfl ?_
                  refine Go_getA (q := 189) (k := 39) C ci12 iw_12 kM_0 (rM_0_39 hR) rfl wm_13_13 rfl dX12_readsEntry_186 rfl ?_
                  refine Go_aload_n (q := 190) C 0 rfl dX12_readsEntry_189 rfl ?_
                  refine Go_getI (q := 193) (k := 30) C ci12 iw_12 kM_0 rfl wm_25_0 rfl dX12_readsEntry_190 rfl ?_
                  refine Go_aload_n (q := 194) C 0 rfl dX12_readsEntry_193 rfl ?_
                  refine Go_getI (q := 197) (k := 8) C ci12 iw_12 kM_0 rfl wm_25_13 rfl dX12_readsEntry_194 rfl ?_
                  obtain ⟨hin, hw⟩ := hw
                  refine Go_iastore (q := 198) C kM_17 hin dX12_readsEntry_197 rfl ?_
                  refine Go_S (fun S197_24 e_S197_24 => ?_)
                  have hw := hw S197_24 e_S197_24
                  have hR := rcM e_S197_24 hR
                  refine Go_aload_n (q := 199) C 0 rfl dX12_readsEntry_198 rfl ?_
                  refine Go_dup (q := 200) C rfl dX12_readsEntry_199 rfl ?_
                  refine Go_getI (q := 203) (k := 30) C ci12 iw_12 kM_0 rfl wm_25_0 rfl dX12_readsEntry_200 rfl ?_
                  refine Go_iconst (q := 204) (v := (1 : Int32)) C dX12_readsEntry_203 rfl rfl ?_
                  refine Go_iadd (q := 205) C dX12_readsEntry_204 rfl ?_
                  refine Go_putI (q := 208) (k := 30) C ci12 iw_12 kM_0 rfl wm_25_0 rfl rfl (ci12.2.2.2.1 30 (by decide)) rfl rfl dX12_readsEntry_205 rfl ?_
                  refine Go_S (fun S205_25 e_S205_25 => ?_)
                  have hw := hw S205_25 e_S205_25
                  have hR := rcM e_S205_25 hR
                  refine Go_aload_n (q := 209) C 0 rfl dX12_readsEntry_208 rfl ?_
                  refine Go_callV_V (av := (fun ad => [])) (st := []) (C := C) (hM := c_X12_nextToken (Gl G) hR hw) (hlk := wm_25_21) (hini := wm_1_5) (hins := wm_25_22) (hsel := wm_25_23) (hcode := wm_26_0) (ho := kM_0) (hci := rfl) (hc13 := by decide) (n := 0) (hd := by decide +kernel) (hr0 := ⟨rfl, rfl⟩) (hroom := ⟨by first | decide | (dsimp only; omega), by first | decide | (dsimp only; omega)⟩) (hlen := rfl) (hst := rfl) (hW := Nat.le_of_ble_eq_true rfl) (hdg := dX12_readsEntry_209) (q := 212) (hq := rfl) (fun S209_26 hw hR => ?_)
                  refine Go_aload_n (q := 213) C 0 rfl dX12_readsEntry_212 rfl ?_
                  refine Go_callV_I (av := (fun ad => [])) (st := []) (C := C) (hM := c_X12_ends (Gl G) hR hw) (hlk := wm_27_4) (hini := wm_1_5) (hins := wm_27_5) (hsel := wm_27_6) (hcode := wm_27_7) (ho := kM_0) (hci := rfl) (hc13 := by decide) (n := 0) (hd := by decide +kernel) (hr0 := ⟨rfl, rfl⟩) (hroom := ⟨by first | decide | (dsimp only; omega), by first | decide | (dsimp only; omega)⟩) (hlen := rfl) (hst := rfl) (hW := Nat.le_of_ble_eq_true rfl) (hdg := dX12_readsEntry_213) (q := 216) (hq := rfl) (fun r213_28 S213_27 hw hR => ?_)
                  exact Go_zret C hQ hR (zb hw.1) hw.2 dX12_readsEntry_216
    · refine Go_aload_n (q := 43) C 0 rfl dX12_readsEntry_42 rfl ?_
      refine Go_getA (q := 46) (k := 36) C ci12 iw_12 kM_0 (rM_0_36 hR) rfl wm_13_10 rfl dX12_readsEntry_43 rfl ?_
      refine Go_iload_n (q := 47) C 1 rfl dX12_readsEntry_46 rfl ?_
      obtain ⟨hin, hw⟩ := hw
      refine Go_laload (q := 48) C kM_14 hin dX12_readsEntry_47 rfl ?_
      refine Go_aload_n (q := 49) C 0 rfl dX12_readsEntry_48 rfl ?_
      refine Go_getJ (q := 52) (k := 7) C ci12 iw_12 kM_0 rfl wm_26_2 rfl dX12_readsEntry_49 rfl ?_
      refine Go_lcmp_ne (t := 62) (q := 53) (q2 := 56) C hw dX12_readsEntry_52 rfl dX12_readsEntry_53 rfl rfl (fun hw => ?_) (fun hw => ?_)
      · refine Go_aload_n (q := 57) C 0 rfl dX12_readsEntry_56 rfl ?_
        refine Go_iconst (q := 58) (v := (3 : Int32)) C dX12_readsEntry_57 rfl rfl ?_
        refine Go_callV_I (av := (fun ad => [.int (3 : Int32)])) (st := []) (C := C) (hM := c_X12_fails (Gl G) hR hw) (hlk := wm_26_17) (hini := wm_1_5) (hins := wm_26_18) (hsel := wm_26_19) (hcode := wm_26_20) (ho := kM_0) (hci := rfl) (hc13 := by decide) (n := 1) (hd := by decide +kernel) (hr0 := ⟨rfl, rfl⟩) (hroom := ⟨by first | decide | (dsimp only; omega), by first | decide | (dsimp only; omega)⟩) (hlen := rfl) (hst := rfl) (hW := Nat.le_of_ble_eq_true rfl) (hdg := dX12_readsEntry_58) (q := 61) (hq := rfl) (fun r58_30 S58_29 hw hR => ?_)
        exact Go_zret C hQ hR (zb hw.1) hw.2 dX12_readsEntry_61
      · refine Go_iinc2 (q := 65) (kp := 1) (cst := (1 : Int32)) C dX12_readsEntry_62 rfl rfl (by decide) rfl (fun x62_31 e_x62_31 => ?_)
        have hw := hw x62_31 e_x62_31
        refine Go_lve (lv' := [(1, .int x62_31), (0, .ref (Gad G (0)))]) rfl ?_
        refine Go_goto (q := 34) C dX12_readsEntry_65 rfl ?_
        refine Go_lvp [1, 0] rfl ?_
        exact hk34 _ _ hR hw
set_option maxRecDepth 100000 in
set_option maxHeartbeats 4000000 in
theorem c_X12_readsEntry (l : Launch) {S : St} {Q : Int32 → St → Prop} (hR : RCM S) (hw : w_X12_readsEntry S Q) : MetI l yX12_readsEntry (wB yX12_readsEntry cX12_readsEntry 2 (some .boolean)) rm_X12_readsEntry shM NM RCM (fun ad => [.ref (ad (0))]) S Q := by
  refine MetI_of (cc := cX12_readsEntry) (maxL := 2) (ret := (some .boolean)) (plainFor_of_name (by decide)) (fun _ => Nat.le_of_ble_eq_true rfl) (fun G C hl hQ => ?_)
  subst hl
  have C : Cx G cX12_readsEntry BIG RX12 2 (some .boolean) rm_X12_readsEntry shM NM := C
  show Go G 2 0 [] [(0, .ref (Gad G (0)))] S
  unfold w_X12_readsEntry at hw
  refine Go_aload_n (q := 1) C 0 rfl dX12_readsEntry_0 rfl ?_
  refine Go_getI (q := 4) (k := 30) C ci12 iw_12 kM_0 rfl wm_25_0 rfl dX12_readsEntry_1 rfl ?_
  refine Go_bipush (q := 6) (v := (12 : Int32)) C dX12_readsEntry_4 rfl rfl ?_
  refine Go_icmp_ne (t := 15) (q := 9) C hw dX12_readsEntry_6 rfl rfl (fun hw => ?_) (fun hw => ?_)
  · refine Go_aload_n (q := 10) C 0 rfl dX12_readsEntry_9 rfl ?_
    refine Go_iconst (q := 11) (v := (5 : Int32)) C dX12_readsEntry_10 rfl rfl ?_
    refine Go_callV_I (av := (fun ad => [.int (5 : Int32)])) (st := []) (C := C) (hM := c_X12_fails (Gl G)  hR hw) (hlk := wm_26_17) (hini := wm_1_5) (hins := wm_26_18) (hsel := wm_26_19) (hcode := wm_26_20) (ho := kM_0) (hci := rfl) (hc13 := by decide) (n := 1) (hd := by decide +kernel) (hr0 := ⟨rfl, rfl⟩) (hroom := ⟨by first | decide | (dsimp only; omega), by first | decide | (dsimp only; omega)⟩) (hlen := rfl) (hst := rfl) (hW := Nat.le_of_ble_eq_true rfl) (hdg := dX12_readsEntry_11) (q := 14) (hq := rfl) (fun r11_2 S11_1 hw hR => ?_)
    exact Go_zret C hQ hR (zb hw.1) hw.2 dX12_readsEntry_14
  · refine Go_aload_n (q := 16) C 0 rfl dX12_readsEntry_15 rfl ?_
    refine Go_callV_V (av := (fun ad => [])) (st := []) (C := C) (hM := c_X12_nextToken (Gl G)  hR hw) (hlk := wm_25_21) (hini := wm_1_5) (hins := wm_25_22) (hsel := wm_25_23) (hcode := wm_26_0) (ho := kM_0) (hci := rfl) (hc13 := by decide) (n := 0) (hd := by decide +kernel) (hr0 := ⟨rfl, rfl⟩) (hroom := ⟨by first | decide | (dsimp only; omega), by first | decide | (dsimp only; omega)⟩) (hlen := rfl) (hst := rfl) (hW := Nat.le_of_ble_eq_true rfl) (hdg := dX12_readsEntry_16) (q := 19) (hq := rfl) (fun S16_3 hw hR => ?_)
    refine Go_aload_n (q := 20) C 0 rfl dX12_readsEntry_19 rfl ?_
    refine Go_callV_I (av := (fun ad => [])) (st := []) (C := C) (hM := c_X12_isKept (Gl G)  hR hw) (hlk := wm_29_9) (hini := wm_1_5) (hins := wm_29_10) (hsel := wm_29_11) (hcode := wm_29_12) (ho := kM_0) (hci := rfl) (hc13 := by decide) (n := 0) (hd := by decide +kernel) (hr0 := ⟨rfl, rfl⟩) (hroom := ⟨by first | decide | (dsimp only; omega), by first | decide | (dsimp only; omega)⟩) (hlen := rfl) (hst := rfl) (hW := Nat.le_of_ble_eq_true rfl) (hdg := dX12_readsEntry_20) (q := 23) (hq := rfl) (fun r20_5 S20_4 hw hR => ?_)
    refine Go_if_eq (t := 32) (q := 26) C hw dX12_readsEntry_23 rfl rfl (fun hw => ?_) (fun hw => ?_)
    · refine Go_iconst (q := 33) (v := (0 : Int32)) C dX12_readsEntry_32 rfl rfl ?_
      refine Go_istore_n (q := 34) (lv' := [(1, .int (0 : Int32)), (0, .ref (Gad G (0)))]) C rfl dX12_readsEntry_33 (by decide) rfl rfl ?_
      refine Go_lvp [1, 0] rfl ?_
      exact g_X12_readsEntry_34 C hQ _ hR hw
    · refine Go_aload_n (q := 27) C 0 rfl dX12_readsEntry_26 rfl ?_
      refine Go_iconst (q := 28) (v := (1 : Int32)) C dX12_readsEntry_27 rfl rfl ?_
      refine Go_callV_I (av := (fun ad => [.int (1 : Int32)])) (st := []) (C := C) (hM := c_X12_fails (Gl G)  hR hw) (hlk := wm_26_17) (hini := wm_1_5) (hins := wm_26_18) (hsel := wm_26_19) (hcode := wm_26_20) (ho := kM_0) (hci := rfl) (hc13 := by decide) (n := 1) (hd := by decide +kernel) (hr0 := ⟨rfl, rfl⟩) (hroom := ⟨by first | decide | (dsimp only; omega), by first | decide | (dsimp only; omega)⟩) (hlen := rfl) (hst := rfl) (hW := Nat.le_of_ble_eq_true rfl) (hdg := dX12_readsEntry_28) (q := 31) (hq := rfl) (fun r28_33 S28_32 hw hR => ?_)
      exact Go_zret C hQ hR (zb hw.1) hw.2 dX12_readsEntry_31
-- X12_readsBar
abbrev rm_X12_readsBar : Room := { frames := 3, cells := 0, slots := 0, locals := 67 }
set_option maxRecDepth 100000 in
set_option maxHeartbeats 4000000 in
theorem c_X12_readsBar (l : Launch) {S : St} {Q : Int32 → St → Prop} (hR : RCM S) (hw : w_X12_readsBar S Q) : MetI l yX12_readsBar (wB yX12_readsBar cX12_readsBar 1 (some .boolean)) rm_X12_readsBar shM NM RCM (fun ad => [.ref (ad (0))]) S Q := by
  refine MetI_of (cc := cX12_readsBar) (maxL := 1) (ret := (some .boolean)) (plainFor_of_name (by decide)) (fun _ => Nat.le_of_ble_eq_true rfl) (fun G C hl hQ => ?_)
  subst hl
  have C : Cx G cX12_readsBar BIG RX12 1 (some .boolean) rm_X12_readsBar shM NM := C
  show Go G 1 0 [] [(0, .ref (Gad G (0)))] S
  unfold w_X12_readsBar at hw
  refine Go_aload_n (q := 1) C 0 rfl dX12_readsBar_0 rfl ?_
  refine Go_getI (q := 4) (k := 31) C ci12 iw_12 kM_0 rfl wm_25_2 rfl dX12_readsBar_1 rfl ?_
  refine Go_iconst (q := 5) (v := (4 : Int32)) C dX12_readsBar_4 rfl rfl ?_
  refine Go_icmp_ne (t := 14) (q := 8) C hw dX12_readsBar_5 rfl rfl (fun hw => ?_) (fun hw => ?_)
  · refine Go_aload_n (q := 9) C 0 rfl dX12_readsBar_8 rfl ?_
    refine Go_iconst (q := 10) (v := (5 : Int32)) C dX12_readsBar_9 rfl rfl ?_
    refine Go_callV_I (av := (fun ad => [.int (5 : Int32)])) (st := []) (C := C) (hM := c_X12_fails (Gl G)  hR hw) (hlk := wm_26_17) (hini := wm_1_5) (hins := wm_26_18) (hsel := wm_26_19) (hcode := wm_26_20) (ho := kM_0) (hci := rfl) (hc13 := by decide) (n := 1) (hd := by decide +kernel) (hr0 := ⟨rfl, rfl⟩) (hroom := ⟨by first | decide | (dsimp only; omega), by first | decide | (dsimp only; omega)⟩) (hlen := rfl) (hst := rfl) (hW := Nat.le_of_ble_eq_true rfl) (hdg := dX12_readsBar_10) (q := 13) (hq := rfl) (fun r10_2 S10_1 hw hR => ?_)
    exact Go_zret C hQ hR (zb hw.1) hw.2 dX12_readsBar_13
  · refine Go_aload_n (q := 15) C 0 rfl dX12_readsBar_14 rfl ?_
    refine Go_callV_V (av := (fun ad => [])) (st := []) (C := C) (hM := c_X12_nextToken (Gl G)  hR hw) (hlk := wm_25_21) (hini := wm_1_5) (hins := wm_25_22) (hsel := wm_25_23) (hcode := wm_26_0) (ho := kM_0) (hci := rfl) (hc13 := by decide) (n := 0) (hd := by decide +kernel) (hr0 := ⟨rfl, rfl⟩) (hroom := ⟨by first | decide | (dsimp only; omega), by first | decide | (dsimp only; omega)⟩) (hlen := rfl) (hst := rfl) (hW := Nat.le_of_ble_eq_true rfl) (hdg := dX12_readsBar_15) (q := 18) (hq := rfl) (fun S15_3 hw hR => ?_)
    refine Go_aload_n (q := 19) C 0 rfl dX12_readsBar_18 rfl ?_
    refine Go_getA (q := 22) (k := 40) C ci12 iw_12 kM_0 (rM_0_40 hR) rfl wm_13_14 rfl dX12_readsBar_19 rfl ?_
    refine Go_aload_n (q := 23) C 0 rfl dX12_readsBar_22 rfl ?_
    refine Go_getI (q := 26) (k := 31) C ci12 iw_12 kM_0 rfl wm_25_2 rfl dX12_readsBar_23 rfl ?_
    refine Go_aload_n (q := 27) C 0 rfl dX12_readsBar_26 rfl ?_
    refine Go_getI (q := 30) (k := 43) C ci12 iw_12 kM_0 rfl wm_25_9 rfl dX12_readsBar_27 rfl ?_
    obtain ⟨hin, hw⟩ := hw
    refine Go_iastore (q := 31) C kM_18 hin dX12_readsBar_30 rfl ?_
    refine Go_S (fun S30_4 e_S30_4 => ?_)
    have hw := hw S30_4 e_S30_4
    have hR := rcM e_S30_4 hR
    refine Go_aload_n (q := 32) C 0 rfl dX12_readsBar_31 rfl ?_
    refine Go_callV_I (av := (fun ad => [])) (st := []) (C := C) (hM := c_X12_reads (Gl G)  hR hw) (hlk := wm_29_20) (hini := wm_1_5) (hins := wm_29_21) (hsel := wm_29_22) (hcode := wm_29_23) (ho := kM_0) (hci := rfl) (hc13 := by decide) (n := 0) (hd := by decide +kernel) (hr0 := ⟨rfl, rfl⟩) (hroom := ⟨by first | decide | (dsimp only; omega), by first | decide | (dsimp only; omega)⟩) (hlen := rfl) (hst := rfl) (hW := Nat.le_of_ble_eq_true rfl) (hdg := dX12_readsBar_32) (q := 35) (hq := rfl) (fun r32_6 S32_5 hw hR => ?_)
    refine Go_if_ne (t := 40) (q := 38) C hw dX12_readsBar_35 rfl rfl (fun hw => ?_) (fun hw => ?_)
    · refine Go_iconst (q := 39) (v := (0 : Int32)) C dX12_readsBar_38 rfl rfl ?_
      exact Go_zret C hQ hR rfl hw dX12_readsBar_39
    · refine Go_aload_n (q := 41) C 0 rfl dX12_readsBar_40 rfl ?_
      refine Go_getA (q := 44) (k := 41) C ci12 iw_12 kM_0 (rM_0_41 hR) rfl wm_13_15 rfl dX12_readsBar_41 rfl ?_
      refine Go_aload_n (q := 45) C 0 rfl dX12_readsBar_44 rfl ?_
      refine Go_getI (q := 48) (k := 31) C ci12 iw_12 kM_0 rfl wm_25_2 rfl dX12_readsBar_45 rfl ?_
      refine Go_aload_n (q := 49) C 0 rfl dX12_readsBar_48 rfl ?_
      refine Go_getI (q := 52) (k := 43) C ci12 iw_12 kM_0 rfl wm_25_9 rfl dX12_readsBar_49 rfl ?_
      obtain ⟨hin, hw⟩ := hw
      refine Go_iastore (q := 53) C kM_19 hin dX12_readsBar_52 rfl ?_
      refine Go_S (fun S52_7 e_S52_7 => ?_)
      have hw := hw S52_7 e_S52_7
      have hR := rcM e_S52_7 hR
      refine Go_aload_n (q := 54) C 0 rfl dX12_readsBar_53 rfl ?_
      refine Go_dup (q := 55) C rfl dX12_readsBar_54 rfl ?_
      refine Go_getI (q := 58) (k := 31) C ci12 iw_12 kM_0 rfl wm_25_2 rfl dX12_readsBar_55 rfl ?_
      refine Go_iconst (q := 59) (v := (1 : Int32)) C dX12_readsBar_58 rfl rfl ?_
      refine Go_iadd (q := 60) C dX12_readsBar_59 rfl ?_
      refine Go_putI (q := 63) (k := 31) C ci12 iw_12 kM_0 rfl wm_25_2 rfl rfl (ci12.2.2.2.1 31 (by decide)) rfl rfl dX12_readsBar_60 rfl ?_
      refine Go_S (fun S60_8 e_S60_8 => ?_)
      have hw := hw S60_8 e_S60_8
      have hR := rcM e_S60_8 hR
      refine Go_iconst (q := 64) (v := (1 : Int32)) C dX12_readsBar_63 rfl rfl ?_
      exact Go_zret C hQ hR rfl hw dX12_readsBar_64
-- X12_readsAll
abbrev rm_X12_readsAll : Room := { frames := 4, cells := 0, slots := 0, locals := 89 }
set_option maxRecDepth 100000 in
set_option maxHeartbeats 4000000 in
theorem g_X12_readsAll_242 {G : GC} (C : Cx G cX12_readsAll BIG RX12 2 (some .boolean) rm_X12_readsAll shM NM) {Q : Int32 → St → Prop} (hQ : QI G RCM Q) (t0 : Int32) {k128 : St → Prop} (hk128 : ∀ (S : St), RCM S → k128 S → Go G 2 128 [] [(0, .ref (Gad G (0)))] S) {S : St} (hR : RCM S) (hw : w_X12_readsAll_242 Q k128 t0 S) : Go G 2 242 [.int t0] [(0, .ref (Gad G (0)))] S := by
  unfold w_X12_readsAll_242 at hw
  refine Go_istore_n (q := 243) (lv' := [(1, .int t0), (0, .ref (Gad G (0)))]) C rfl dX12_readsAll_242 (by decide) rfl rfl ?_
  refine Go_iload_n (q := 244) C 0 rfl dX12_readsAll_243 rfl ?_
  refine Go_if_ne (t := 249) (q := 247) C hw dX12_readsAll_244 rfl rfl (fun hw => ?_) (fun hw => ?_)
  · refine Go_iconst (q := 248) (v := (0 : Int32)) C dX12_readsAll_247 rfl rfl ?_
    exact Go_zret C hQ hR rfl hw dX12_readsAll_248
  · refine Go_goto (q := 128) C dX12_readsAll_249 rfl ?_
    refine Go_lvp [1] rfl ?_
    exact hk128 _ hR hw
set_option maxRecDepth 100000 in
set_option maxHeartbeats 4000000 in
theorem g_X12_readsAll_128 {G : GC} (C : Cx G cX12_readsAll BIG RX12 2 (some .boolean) rm_X12_readsAll shM NM) {Q : Int32 → St → Prop} (hQ : QI G RCM Q) {S : St} (hR : RCM S) (hw : w_X12_readsAll_128 Q S) : Go G 2 128 [] [(0, .ref (Gad G (0)))] S := by
  obtain ⟨n, hw⟩ := hw
  induction n generalizing S with
  | zero => exact hw.elim
  | succ n ih =>
    have hw : b_X12_readsAll_128 Q (lpn (fun _ => False) (b_X12_readsAll_128 Q) n) S := hw
    generalize lpn (fun _ => False) (b_X12_readsAll_128 Q) n = kf at hw ih
    have hk128 := fun (S : St) (hR : RCM S) hw => ih hR hw
    unfold b_X12_readsAll_128 at hw
    refine Go_aload_n (q := 129) C 0 rfl dX12_readsAll_128 rfl ?_
    refine Go_getI (q := 132) (k := 6) C ci12 iw_12 kM_0 rfl wm_25_14 rfl dX12_readsAll_129 rfl ?_
    refine Go_if_eq (t := 252) (q := 135) C hw dX12_readsAll_132 rfl rfl (fun hw => ?_) (fun hw => ?_)
    · refine Go_iconst (q := 253) (v := (1 : Int32)) C dX12_readsAll_252 rfl rfl ?_
      exact Go_zret C hQ hR rfl hw dX12_readsAll_253
    · refine Go_aload_n (q := 136) C 0 rfl dX12_readsAll_135 rfl ?_
      refine Go_ldc2 (q := 139) (v := (409469 : Int64)) C wm_25_15 dX12_readsAll_136 rfl ?_
      refine Go_callV_I (av := (fun ad => [.long (409469 : Int64)])) (st := []) (C := C) (hM := c_X12_isWord (Gl G) hR hw) (hlk := wm_26_13) (hini := wm_1_5) (hins := wm_26_14) (hsel := wm_26_15) (hcode := wm_26_16) (ho := kM_0) (hci := rfl) (hc13 := by decide) (n := 1) (hd := by decide +kernel) (hr0 := ⟨rfl, rfl⟩) (hroom := ⟨by first | decide | (dsimp only; omega), by first | decide | (dsimp only; omega)⟩) (hlen := rfl) (hst := rfl) (hW := Nat.le_of_ble_eq_true rfl) (hdg := dX12_readsAll_139) (q := 142) (hq := rfl) (fun r139_21 S139_20 hw hR => ?_)
      refine Go_if_eq (t := 152) (q := 145) C hw dX12_readsAll_142 rfl rfl (fun hw => ?_) (fun hw => ?_)
      · refine Go_aload_n (q := 153) C 0 rfl dX12_readsAll_152 rfl ?_
        refine Go_ldc2 (q := 156) (v := (9741983 : Int64)) C wm_25_16 dX12_readsAll_153 rfl ?_
        refine Go_callV_I (av := (fun ad => [.long (9741983 : Int64)])) (st := []) (C := C) (hM := c_X12_isWord (Gl G) hR hw) (hlk := wm_26_13) (hini := wm_1_5) (hins := wm_26_14) (hsel := wm_26_15) (hcode := wm_26_16) (ho := kM_0) (hci := rfl) (hc13 := by decide) (n := 1) (hd := by decide +kernel) (hr0 := ⟨rfl, rfl⟩) (hroom := ⟨by first | decide | (dsimp only; omega), by first | decide | (dsimp only; omega)⟩) (hlen := rfl) (hst := rfl) (hW := Nat.le_of_ble_eq_true rfl) (hdg := dX12_readsAll_156) (q := 159) (hq := rfl) (fun r156_23 S156_22 hw hR => ?_)
        refine Go_if_eq (t := 169) (q := 162) C hw dX12_readsAll_159 rfl rfl (fun hw => ?_) (fun hw => ?_)
        · refine Go_aload_n (q := 170) C 0 rfl dX12_readsAll_169 rfl ?_
          refine Go_ldc2 (q := 173) (v := (12391871 : Int64)) C wm_25_17 dX12_readsAll_170 rfl ?_
          refine Go_callV_I (av := (fun ad => [.long (12391871 : Int64)])) (st := []) (C := C) (hM := c_X12_isWord (Gl G) hR hw) (hlk := wm_26_13) (hini := wm_1_5) (hins := wm_26_14) (hsel := wm_26_15) (hcode := wm_26_16) (ho := kM_0) (hci := rfl) (hc13 := by decide) (n := 1) (hd := by decide +kernel) (hr0 := ⟨rfl, rfl⟩) (hroom := ⟨by first | decide | (dsimp only; omega), by first | decide | (dsimp only; omega)⟩) (hlen := rfl) (hst := rfl) (hW := Nat.le_of_ble_eq_true rfl) (hdg := dX12_readsAll_173) (q := 176) (hq := rfl) (fun r173_25 S173_24 hw hR => ?_)
          refine Go_if_eq (t := 186) (q := 179) C hw dX12_readsAll_176 rfl rfl (fun hw => ?_) (fun hw => ?_)
          · refine Go_aload_n (q := 187) C 0 rfl dX12_readsAll_186 rfl ?_
            refine Go_ldc2 (q := 190) (v := (121898 : Int64)) C wm_25_18 dX12_readsAll_187 rfl ?_
            refine Go_callV_I (av := (fun ad => [.long (121898 : Int64)])) (st := []) (C := C) (hM := c_X12_isWord (Gl G) hR hw) (hlk := wm_26_13) (hini := wm_1_5) (hins := wm_26_14) (hsel := wm_26_15) (hcode := wm_26_16) (ho := kM_0) (hci := rfl) (hc13 := by decide) (n := 1) (hd := by decide +kernel) (hr0 := ⟨rfl, rfl⟩) (hroom := ⟨by first | decide | (dsimp only; omega), by first | decide | (dsimp only; omega)⟩) (hlen := rfl) (hst := rfl) (hW := Nat.le_of_ble_eq_true rfl) (hdg := dX12_readsAll_190) (q := 193) (hq := rfl) (fun r190_27 S190_26 hw hR => ?_)
            refine Go_if_eq (t := 203) (q := 196) C hw dX12_readsAll_193 rfl rfl (fun hw => ?_) (fun hw => ?_)
            · refine Go_aload_n (q := 204) C 0 rfl dX12_readsAll_203 rfl ?_
              refine Go_ldc2 (q := 207) (v := (464134 : Int64)) C wm_25_19 dX12_readsAll_204 rfl ?_
              refine Go_callV_I (av := (fun ad => [.long (464134 : Int64)])) (st := []) (C := C) (hM := c_X12_isWord (Gl G) hR hw) (hlk := wm_26_13) (hini := wm_1_5) (hins := wm_26_14) (hsel := wm_26_15) (hcode := wm_26_16) (ho := kM_0) (hci := rfl) (hc13 := by decide) (n := 1) (hd := by decide +kernel) (hr0 := ⟨rfl, rfl⟩) (hroom := ⟨by first | decide | (dsimp only; omega), by first | decide | (dsimp only; omega)⟩) (hlen := rfl) (hst := rfl) (hW := Nat.le_of_ble_eq_true rfl) (hdg := dX12_readsAll_207) (q := 210) (hq := rfl) (fun r207_29 S207_28 hw hR => ?_)
              refine Go_if_eq (t := 220) (q := 213) C hw dX12_readsAll_210 rfl rfl (fun hw => ?_) (fun hw => ?_)
              · refine Go_aload_n (q := 221) C 0 rfl dX12_readsAll_220 rfl ?_
                refine Go_ldc2 (q := 224) (v := (1503 : Int64)) C wm_25_20 dX12_readsAll_221 rfl ?_
                refine Go_callV_I (av := (fun ad => [.long (1503 : Int64)])) (st := []) (C := C) (hM := c_X12_isWord (Gl G) hR hw) (hlk := wm_26_13) (hini := wm_1_5) (hins := wm_26_14) (hsel := wm_26_15) (hcode := wm_26_16) (ho := kM_0) (hci := rfl) (hc13 := by decide) (n := 1) (hd := by decide +kernel) (hr0 := ⟨rfl, rfl⟩) (hroom := ⟨by first | decide | (dsimp only; omega), by first | decide | (dsimp only; omega)⟩) (hlen := rfl) (hst := rfl) (hW := Nat.le_of_ble_eq_true rfl) (hdg := dX12_readsAll_224) (q := 227) (hq := rfl) (fun r224_31 S224_30 hw hR => ?_)
                refine Go_if_eq (t := 237) (q := 230) C hw dX12_readsAll_227 rfl rfl (fun hw => ?_) (fun hw => ?_)
                · refine Go_aload_n (q := 238) C 0 rfl dX12_readsAll_237 rfl ?_
                  refine Go_iconst (q := 239) (v := (1 : Int32)) C dX12_readsAll_238 rfl rfl ?_
                  refine Go_callV_I (av := (fun ad => [.int (1 : Int32)])) (st := []) (C := C) (hM := c_X12_fails (Gl G) hR hw) (hlk := wm_26_17) (hini := wm_1_5) (hins := wm_26_18) (hsel := wm_26_19) (hcode := wm_26_20) (ho := kM_0) (hci := rfl) (hc13 := by decide) (n := 1) (hd := by decide +kernel) (hr0 := ⟨rfl, rfl⟩) (hroom := ⟨by first | decide | (dsimp only; omega), by first | decide | (dsimp only; omega)⟩) (hlen := rfl) (hst := rfl) (hW := Nat.le_of_ble_eq_true rfl) (hdg := dX12_readsAll_239) (q := 242) (hq := rfl) (fun r239_33 S239_32 hw hR => ?_)
                  refine Go_lvp [0] rfl ?_
                  exact g_X12_readsAll_242 C hQ _ hk128 hR hw
                · refine Go_aload_n (q := 231) C 0 rfl dX12_readsAll_230 rfl ?_
                  refine Go_callV_I (av := (fun ad => [])) (st := []) (C := C) (hM := c_X12_readsBar (Gl G) hR hw) (hlk := wm_29_16) (hini := wm_1_5) (hins := wm_29_17) (hsel := wm_29_18) (hcode := wm_29_19) (ho := kM_0) (hci := rfl) (hc13 := by decide) (n := 0) (hd := by decide +kernel) (hr0 := ⟨rfl, rfl⟩) (hroom := ⟨by first | decide | (dsimp only; omega), by first | decide | (dsimp only; omega)⟩) (hlen := rfl) (hst := rfl) (hW := Nat.le_of_ble_eq_true rfl) (hdg := dX12_readsAll_231) (q := 234) (hq := rfl) (fun r231_35 S231_34 hw hR => ?_)
                  refine Go_goto (q := 242) C dX12_readsAll_234 rfl ?_
                  refine Go_lvp [0] rfl ?_
                  exact g_X12_readsAll_242 C hQ _ hk128 hR hw
              · refine Go_aload_n (q := 214) C 0 rfl dX12_readsAll_213 rfl ?_
                refine Go_callV_I (av := (fun ad => [])) (st := []) (C := C) (hM := c_X12_readsEntry (Gl G) hR hw) (hlk := wm_29_3) (hini := wm_1_5) (hins := wm_29_4) (hsel := wm_29_5) (hcode := wm_29_6) (ho := kM_0) (hci := rfl) (hc13 := by decide) (n := 0) (hd := by decide +kernel) (hr0 := ⟨rfl, rfl⟩) (hroom := ⟨by first | decide | (dsimp only; omega), by first | decide | (dsimp only; omega)⟩) (hlen := rfl) (hst := rfl) (hW := Nat.le_of_ble_eq_true rfl) (hdg := dX12_readsAll_214) (q := 217) (hq := rfl) (fun r214_37 S214_36 hw hR => ?_)
                refine Go_goto (q := 242) C dX12_readsAll_217 rfl ?_
                refine Go_lvp [0] rfl ?_
                exact g_X12_readsAll_242 C hQ _ hk128 hR hw
            · refine Go_aload_n (q := 197) C 0 rfl dX12_readsAll_196 rfl ?_
              refine Go_callV_I (av := (fun ad => [])) (st := []) (C := C) (hM := c_X12_readsFeet (Gl G) hR hw) (hlk := wm_28_23) (hini := wm_1_5) (hins := wm_29_0) (hsel := wm_29_1) (hcode := wm_29_2) (ho := kM_0) (hci := rfl) (hc13 := by decide) (n := 0) (hd := by decide +kernel) (hr0 := ⟨rfl, rfl⟩) (hroom := ⟨by first | decide | (dsimp only; omega), by first | decide | (dsimp only; omega)⟩) (hlen := rfl) (hst := rfl) (hW := Nat.le_of_ble_eq_true rfl) (hdg := dX12_readsAll_197) (q := 200) (hq := rfl) (fun r197_39 S197_38 hw hR => ?_)
              refine Go_goto (q := 242) C dX12_readsAll_200 rfl ?_
              refine Go_lvp [0] rfl ?_
              exact g_X12_readsAll_242 C hQ _ hk128 hR hw
          · refine Go_aload_n (q := 180) C 0 rfl dX12_readsAll_179 rfl ?_
            refine Go_callV_I (av := (fun ad => [])) (st := []) (C := C) (hM := c_X12_readsWhole (Gl G) hR hw) (hlk := wm_28_18) (hini := wm_1_5) (hins := wm_28_19) (hsel := wm_28_20) (hcode := wm_28_21) (ho := kM_0) (hci := rfl) (hc13 := by decide) (n := 0) (hd := by decide +kernel) (hr0 := ⟨rfl, rfl⟩) (hroom := ⟨by first | decide | (dsimp only; omega), by first | decide | (dsimp only; omega)⟩) (hlen := rfl) (hst := rfl) (hW := Nat.le_of_ble_eq_true rfl) (hdg := dX12_readsAll_180) (q := 183) (hq := rfl) (fun r180_41 S180_40 hw hR => ?_)
            refine Go_goto (q := 242) C dX12_readsAll_183 rfl ?_
            refine Go_lvp [0] rfl ?_
            exact g_X12_readsAll_242 C hQ _ hk128 hR hw
        · refine Go_aload_n (q := 163) C 0 rfl dX12_readsAll_162 rfl ?_
          refine Go_callV_I (av := (fun ad => [])) (st := []) (C := C) (hM := c_X12_readsRhyme (Gl G) hR hw) (hlk := wm_28_14) (hini := wm_1_5) (hins := wm_28_15) (hsel := wm_28_16) (hcode := wm_28_17) (ho := kM_0) (hci := rfl) (hc13 := by decide) (n := 0) (hd := by decide +kernel) (hr0 := ⟨rfl, rfl⟩) (hroom := ⟨by first | decide | (dsimp only; omega), by first | decide | (dsimp only; omega)⟩) (hlen := rfl) (hst := rfl) (hW := Nat.le_of_ble_eq_true rfl) (hdg := dX12_readsAll_163) (q := 166) (hq := rfl) (fun r163_43 S163_42 hw hR => ?_)
          refine Go_goto (q := 242) C dX12_readsAll_166 rfl ?_
          refine Go_lvp [0] rfl ?_
          exact g_X12_readsAll_242 C hQ _ hk128 hR hw
      · refine Go_aload_n (q := 146) C 0 rfl dX12_readsAll_145 rfl ?_
        refine Go_callV_I (av := (fun ad => [])) (st := []) (C := C) (hM := c_X12_readsTurn (Gl G) hR hw) (hlk := wm_27_12) (hini := wm_1_5) (hins := wm_27_13) (hsel := wm_27_14) (hcode := wm_27_15) (ho := kM_0) (hci := rfl) (hc13 := by decide) (n := 0) (hd := by decide +kernel) (hr0 := ⟨rfl, rfl⟩) (hroom := ⟨by first | decide | (dsimp only; omega), by first | decide | (dsimp only; omega)⟩) (hlen := rfl) (hst := rfl) (hW := Nat.le_of_ble_eq_true rfl) (hdg := dX12_readsAll_146) (q := 149) (hq := rfl) (fun r146_45 S146_44 hw hR => ?_)
        refine Go_goto (q := 242) C dX12_readsAll_149 rfl ?_
        refine Go_lvp [0] rfl ?_
        exact g_X12_readsAll_242 C hQ _ hk128 hR hw
set_option maxRecDepth 100000 in
set_option maxHeartbeats 4000000 in
theorem g_X12_readsAll_89 {G : GC} (C : Cx G cX12_readsAll BIG RX12 2 (some .boolean) rm_X12_readsAll shM NM) {Q : Int32 → St → Prop} (hQ : QI G RCM Q) (v1 : Int32) {S : St} (hR : RCM S) (hw : w_X12_readsAll_89 Q v1 S) : Go G 2 89 [] [(0, .ref (Gad G (0))), (1, .int v1)] S := by
  obtain ⟨n, hw⟩ := hw
  induction n generalizing v1 S with
  | zero => exact hw.elim
  | succ n ih =>
    have hw : b_X12_readsAll_89 Q (lpn (fun _ _ => False) (b_X12_readsAll_89 Q) n) v1 S := hw
    generalize lpn (fun _ _ => False) (b_X12_readsAll_89 Q) n = kf at hw ih
    have hk89 := fun (v1 : Int32) (S : St) (hR : RCM S) hw => ih v1 hR hw
    unfold b_X12_readsAll_89 at hw
    refine Go_iload_n (q := 90) C 1 rfl dX12_readsAll_89 rfl ?_
    refine Go_bipush (q := 92) (v := (12 : Int32)) C dX12_readsAll_90 rfl rfl ?_
    refine Go_icmp_ge (t := 115) (q := 95) C hw dX12_readsAll_92 rfl rfl (fun hw => ?_) (fun hw => ?_)
    · refine Go_aload_n (q := 116) C 0 rfl dX12_readsAll_115 rfl ?_
      refine Go_callV_V (av := (fun ad => [])) (st := []) (C := C) (hM := c_X12_nextToken (Gl G) hR hw) (hlk := wm_25_21) (hini := wm_1_5) (hins := wm_25_22) (hsel := wm_25_23) (hcode := wm_26_0) (ho := kM_0) (hci := rfl) (hc13 := by decide) (n := 0) (hd := by decide +kernel) (hr0 := ⟨rfl, rfl⟩) (hroom := ⟨by first | decide | (dsimp only; omega), by first | decide | (dsimp only; omega)⟩) (hlen := rfl) (hst := rfl) (hW := Nat.le_of_ble_eq_true rfl) (hdg := dX12_readsAll_116) (q := 119) (hq := rfl) (fun S116_17 hw hR => ?_)
      refine Go_aload_n (q := 120) C 0 rfl dX12_readsAll_119 rfl ?_
      refine Go_callV_I (av := (fun ad => [])) (st := []) (C := C) (hM := c_X12_ends (Gl G) hR hw) (hlk := wm_27_4) (hini := wm_1_5) (hins := wm_27_5) (hsel := wm_27_6) (hcode := wm_27_7) (ho := kM_0) (hci := rfl) (hc13 := by decide) (n := 0) (hd := by decide +kernel) (hr0 := ⟨rfl, rfl⟩) (hroom := ⟨by first | decide | (dsimp only; omega), by first | decide | (dsimp only; omega)⟩) (hlen := rfl) (hst := rfl) (hW := Nat.le_of_ble_eq_true rfl) (hdg := dX12_readsAll_120) (q := 123) (hq := rfl) (fun r120_19 S120_18 hw hR => ?_)
      refine Go_if_ne (t := 128) (q := 126) C hw dX12_readsAll_123 rfl rfl (fun hw => ?_) (fun hw => ?_)
      · refine Go_iconst (q := 127) (v := (0 : Int32)) C dX12_readsAll_126 rfl rfl ?_
        exact Go_zret C hQ hR rfl hw dX12_readsAll_127
      · refine Go_lvp [0] rfl ?_
        exact g_X12_readsAll_128 C hQ hR hw
    · refine Go_aload_n (q := 96) C 0 rfl dX12_readsAll_95 rfl ?_
      refine Go_getA (q := 99) (k := 32) C ci12 iw_12 kM_0 (rM_0_32 hR) rfl wm_13_6 rfl dX12_readsAll_96 rfl ?_
      refine Go_iload_n (q := 100) C 1 rfl dX12_readsAll_99 rfl ?_
      refine Go_iload_n (q := 101) C 1 rfl dX12_readsAll_100 rfl ?_
      obtain ⟨hin, hw⟩ := hw
      refine Go_iastore (q := 102) C kM_10 hin dX12_readsAll_101 rfl ?_
      refine Go_S (fun S101_46 e_S101_46 => ?_)
      have hw := hw S101_46 e_S101_46
      have hR := rcM e_S101_46 hR
      refine Go_aload_n (q := 103) C 0 rfl dX12_readsAll_102 rfl ?_
      refine Go_getA (q := 106) (k := 35) C ci12 iw_12 kM_0 (rM_0_35 hR) rfl wm_13_9 rfl dX12_readsAll_103 rfl ?_
      refine Go_iload_n (q := 107) C 1 rfl dX12_readsAll_106 rfl ?_
      refine Go_iconst (q := 108) (v := (0 : Int32)) C dX12_readsAll_107 rfl rfl ?_
      obtain ⟨hin, hw⟩ := hw
      refine Go_iastore (q := 109) C kM_13 hin dX12_readsAll_108 rfl ?_
      refine Go_S (fun S108_47 e_S108_47 => ?_)
      have hw := hw S108_47 e_S108_47
      have hR := rcM e_S108_47 hR
      refine Go_iinc2 (q := 112) (kp := 1) (cst := (1 : Int32)) C dX12_readsAll_109 rfl rfl (by decide) rfl (fun x109_48 e_x109_48 => ?_)
      have hw := hw x109_48 e_x109_48
      refine Go_lve (lv' := [(1, .int x109_48), (0, .ref (Gad G (0)))]) rfl ?_
      refine Go_goto (q := 89) C dX12_readsAll_112 rfl ?_
      refine Go_lvp [1, 0] rfl ?_
      exact hk89 _ _ hR hw
set_option maxRecDepth 100000 in
set_option maxHeartbeats 4000000 in
theorem c_X12_readsAll (l : Launch) {S : St} {Q : Int32 → St → Prop} (hR : RCM S) (hw : w_X12_readsAll S Q) : MetI l yX12_readsAll (wB yX12_readsAll cX12_readsAll 2 (some .boolean)) rm_X12_readsAll shM NM RCM (fun ad => [.ref (ad (0))]) S Q := by
  refine MetI_of (cc := cX12_readsAll) (maxL := 2) (ret := (some .boolean)) (plainFor_of_name (by decide)) (fun _ => Nat.le_of_ble_eq_true rfl) (fun G C hl hQ => ?_)
  subst hl
  have C : Cx G cX12_readsAll BIG RX12 2 (some .boolean) rm_X12_readsAll shM NM := C
  show Go G 2 0 [] [(0, .ref (Gad G (0)))] S
  unfold w_X12_readsAll at hw
  refine Go_aload_n (q := 1) C 0 rfl dX12_readsAll_0 rfl ?_
  refine Go_iconst (q := 2) (v := (0 : Int32)) C dX12_readsAll_1 rfl rfl ?_
  refine Go_putI (q := 5) (k := 26) C ci12 iw_12 kM_0 rfl wm_24_16 rfl rfl (ci12.2.2.2.1 26 (by decide)) rfl rfl dX12_readsAll_2 rfl ?_
  refine Go_S (fun S2_1 e_S2_1 => ?_)
  have hw := hw S2_1 e_S2_1
  have hR := rcM e_S2_1 hR
  refine Go_aload_n (q := 6) C 0 rfl dX12_readsAll_5 rfl ?_
  refine Go_iconst (q := 7) (v := (0 : Int32)) C dX12_readsAll_6 rfl rfl ?_
  refine Go_putI (q := 10) (k := 27) C ci12 iw_12 kM_0 rfl wm_24_18 rfl rfl (ci12.2.2.2.1 27 (by decide)) rfl rfl dX12_readsAll_7 rfl ?_
  refine Go_S (fun S7_2 e_S7_2 => ?_)
  have hw := hw S7_2 e_S7_2
  have hR := rcM e_S7_2 hR
  refine Go_aload_n (q := 11) C 0 rfl dX12_readsAll_10 rfl ?_
  refine Go_iconst (q := 12) (v := (0 : Int32)) C dX12_readsAll_11 rfl rfl ?_
  refine Go_putI (q := 15) (k := 28) C ci12 iw_12 kM_0 rfl wm_24_20 rfl rfl (ci12.2.2.2.1 28 (by decide)) rfl rfl dX12_readsAll_12 rfl ?_
  refine Go_S (fun S12_3 e_S12_3 => ?_)
  have hw := hw S12_3 e_S12_3
  have hR := rcM e_S12_3 hR
  refine Go_aload_n (q := 16) C 0 rfl dX12_readsAll_15 rfl ?_
  refine Go_iconst (q := 17) (v := (0 : Int32)) C dX12_readsAll_16 rfl rfl ?_
  refine Go_putI (q := 20) (k := 29) C ci12 iw_12 kM_0 rfl wm_24_22 rfl rfl (ci12.2.2.2.1 29 (by decide)) rfl rfl dX12_readsAll_17 rfl ?_
  refine Go_S (fun S17_4 e_S17_4 => ?_)
  have hw := hw S17_4 e_S17_4
  have hR := rcM e_S17_4 hR
  refine Go_aload_n (q := 21) C 0 rfl dX12_readsAll_20 rfl ?_
  refine Go_iconst (q := 22) (v := (0 : Int32)) C dX12_readsAll_21 rfl rfl ?_
  refine Go_putI (q := 25) (k := 30) C ci12 iw_12 kM_0 rfl wm_25_0 rfl rfl (ci12.2.2.2.1 30 (by decide)) rfl rfl dX12_readsAll_22 rfl ?_
  refine Go_S (fun S22_5 e_S22_5 => ?_)
  have hw := hw S22_5 e_S22_5
  have hR := rcM e_S22_5 hR
  refine Go_aload_n (q := 26) C 0 rfl dX12_readsAll_25 rfl ?_
  refine Go_iconst (q := 27) (v := (0 : Int32)) C dX12_readsAll_26 rfl rfl ?_
  refine Go_putI (q := 30) (k := 31) C ci12 iw_12 kM_0 rfl wm_25_2 rfl rfl (ci12.2.2.2.1 31 (by decide)) rfl rfl dX12_readsAll_27 rfl ?_
  refine Go_S (fun S27_6 e_S27_6 => ?_)
  have hw := hw S27_6 e_S27_6
  have hR := rcM e_S27_6 hR
  refine Go_aload_n (q := 31) C 0 rfl dX12_readsAll_30 rfl ?_
  refine Go_iconst (q := 32) (v := (0 : Int32)) C dX12_readsAll_31 rfl rfl ?_
  refine Go_putI (q := 35) (k := 43) C ci12 iw_12 kM_0 rfl wm_25_9 rfl rfl (ci12.2.2.2.1 43 (by decide)) rfl rfl dX12_readsAll_32 rfl ?_
  refine Go_S (fun S32_7 e_S32_7 => ?_)
  have hw := hw S32_7 e_S32_7
  have hR := rcM e_S32_7 hR
  refine Go_aload_n (q := 36) C 0 rfl dX12_readsAll_35 rfl ?_
  refine Go_aload_n (q := 37) C 0 rfl dX12_readsAll_36 rfl ?_
  refine Go_getI (q := 40) (k := 1) C ci12 iw_12 kM_0 rfl wm_15_16 rfl dX12_readsAll_37 rfl ?_
  refine Go_putI (q := 43) (k := 3) C ci12 iw_12 kM_0 rfl wm_25_10 rfl rfl (ci12.2.2.2.1 3 (by decide)) rfl rfl dX12_readsAll_40 rfl ?_
  refine Go_S (fun S40_8 e_S40_8 => ?_)
  have hw := hw S40_8 e_S40_8
  have hR := rcM e_S40_8 hR
  refine Go_aload_n (q := 44) C 0 rfl dX12_readsAll_43 rfl ?_
  refine Go_iconst (q := 45) (v := (0 : Int32)) C dX12_readsAll_44 rfl rfl ?_
  refine Go_putI (q := 48) (k := 1) C ci12 iw_12 kM_0 rfl wm_15_16 rfl rfl (ci12.2.2.2.1 1 (by decide)) rfl rfl dX12_readsAll_45 rfl ?_
  refine Go_S (fun S45_9 e_S45_9 => ?_)
  have hw := hw S45_9 e_S45_9
  have hR := rcM e_S45_9 hR
  refine Go_aload_n (q := 49) C 0 rfl dX12_readsAll_48 rfl ?_
  refine Go_iconst (q := 50) (v := (0 : Int32)) C dX12_readsAll_49 rfl rfl ?_
  refine Go_putI (q := 53) (k := 4) C ci12 iw_12 kM_0 rfl wm_25_11 rfl rfl (ci12.2.2.2.1 4 (by decide)) rfl rfl dX12_readsAll_50 rfl ?_
  refine Go_S (fun S50_10 e_S50_10 => ?_)
  have hw := hw S50_10 e_S50_10
  have hR := rcM e_S50_10 hR
  refine Go_aload_n (q := 54) C 0 rfl dX12_readsAll_53 rfl ?_
  refine Go_callV_V (av := (fun ad => [])) (st := []) (C := C) (hM := c_X12_nextToken (Gl G)  hR hw) (hlk := wm_25_21) (hini := wm_1_5) (hins := wm_25_22) (hsel := wm_25_23) (hcode := wm_26_0) (ho := kM_0) (hci := rfl) (hc13 := by decide) (n := 0) (hd := by decide +kernel) (hr0 := ⟨rfl, rfl⟩) (hroom := ⟨by first | decide | (dsimp only; omega), by first | decide | (dsimp only; omega)⟩) (hlen := rfl) (hst := rfl) (hW := Nat.le_of_ble_eq_true rfl) (hdg := dX12_readsAll_54) (q := 57) (hq := rfl) (fun S54_11 hw hR => ?_)
  refine Go_aload_n (q := 58) C 0 rfl dX12_readsAll_57 rfl ?_
  refine Go_ldc2 (q := 61) (v := (108748 : Int64)) C wm_25_12 dX12_readsAll_58 rfl ?_
  refine Go_callV_I (av := (fun ad => [.long (108748 : Int64)])) (st := []) (C := C) (hM := c_X12_needsWord (Gl G)  hR hw) (hlk := wm_26_9) (hini := wm_1_5) (hins := wm_26_10) (hsel := wm_26_11) (hcode := wm_26_12) (ho := kM_0) (hci := rfl) (hc13 := by decide) (n := 1) (hd := by decide +kernel) (hr0 := ⟨rfl, rfl⟩) (hroom := ⟨by first | decide | (dsimp only; omega), by first | decide | (dsimp only; omega)⟩) (hlen := rfl) (hst := rfl) (hW := Nat.le_of_ble_eq_true rfl) (hdg := dX12_readsAll_61) (q := 64) (hq := rfl) (fun r61_13 S61_12 hw hR => ?_)
  refine Go_if_eq (t := 77) (q := 67) C hw dX12_readsAll_64 rfl rfl (fun hw => ?_) (fun hw => ?_)
  · refine Go_iconst (q := 78) (v := (0 : Int32)) C dX12_readsAll_77 rfl rfl ?_
    exact Go_zret C hQ hR rfl hw dX12_readsAll_78
  · refine Go_aload_n (q := 68) C 0 rfl dX12_readsAll_67 rfl ?_
    refine Go_iconst (q := 69) (v := (1 : Int32)) C dX12_readsAll_68 rfl rfl ?_
    refine Go_bipush (q := 71) (v := (12 : Int32)) C dX12_readsAll_69 rfl rfl ?_
    refine Go_callV_I (av := (fun ad => [.int (1 : Int32), .int (12 : Int32)])) (st := []) (C := C) (hM := c_X12_needsNumber (Gl G)  hR hw) (hlk := wm_26_21) (hini := wm_1_5) (hins := wm_26_22) (hsel := wm_26_23) (hcode := wm_27_0) (ho := kM_0) (hci := rfl) (hc13 := by decide) (n := 2) (hd := by decide +kernel) (hr0 := ⟨rfl, rfl⟩) (hroom := ⟨by first | decide | (dsimp only; omega), by first | decide | (dsimp only; omega)⟩) (hlen := rfl) (hst := rfl) (hW := Nat.le_of_ble_eq_true rfl) (hdg := dX12_readsAll_71) (q := 74) (hq := rfl) (fun r71_15 S71_14 hw hR => ?_)
    refine Go_if_ne (t := 79) (q := 77) C hw dX12_readsAll_74 rfl rfl (fun hw => ?_) (fun hw => ?_)
    · refine Go_iconst (q := 78) (v := (0 : Int32)) C dX12_readsAll_77 rfl rfl ?_
      exact Go_zret C hQ hR rfl hw dX12_readsAll_78
    · refine Go_aload_n (q := 80) C 0 rfl dX12_readsAll_79 rfl ?_
      refine Go_aload_n (q := 81) C 0 rfl dX12_readsAll_80 rfl ?_
      refine Go_getI (q := 84) (k := 8) C ci12 iw_12 kM_0 rfl wm_25_13 rfl dX12_readsAll_81 rfl ?_
      refine Go_putI (q := 87) (k := 25) C ci12 iw_12 kM_0 rfl wm_24_15 rfl rfl (ci12.2.2.2.1 25 (by decide)) rfl rfl dX12_readsAll_84 rfl ?_
      refine Go_S (fun S84_16 e_S84_16 => ?_)
      have hw := hw S84_16 e_S84_16
      have hR := rcM e_S84_16 hR
      refine Go_iconst (q := 88) (v := (0 : Int32)) C dX12_readsAll_87 rfl rfl ?_
      refine Go_istore_n (q := 89) (lv' := [(1, .int (0 : Int32)), (0, .ref (Gad G (0)))]) C rfl dX12_readsAll_88 (by decide) rfl rfl ?_
      refine Go_lvp [1, 0] rfl ?_
      exact g_X12_readsAll_89 C hQ _ hR hw
-- X12_bars
abbrev rm_X12_bars : Room := { frames := 3, cells := 0, slots := 0, locals := 68 }
set_option maxRecDepth 100000 in
set_option maxHeartbeats 4000000 in
theorem g_X12_bars_76 {G : GC} (C : Cx G cX12_bars BIG RX12 4 (some .boolean) rm_X12_bars shM NM) {Q : Int32 → St → Prop} (hQ : QI G RCM Q) (v3 : Int32) {S : St} (hR : RCM S) (hw : w_X12_bars_76 Q v3 S) : Go G 4 76 [] [(0, .ref (Gad G (0))), (3, .int v3)] S := by
  obtain ⟨n, hw⟩ := hw
  induction n generalizing v3 S with
  | zero => exact hw.elim
  | succ n ih =>
    have hw : b_X12_bars_76 Q (lpn (fun _ _ => False) (b_X12_bars_76 Q) n) v3 S := hw
    generalize lpn (fun _ _ => False) (b_X12_bars_76 Q) n = kf at hw ih
    have hk76 := fun (v3 : Int32) (S : St) (hR : RCM S) hw => ih v3 hR hw
    unfold b_X12_bars_76 at hw
    refine Go_iload_n (q := 77) C 1 rfl dX12_bars_76 rfl ?_
    refine Go_aload_n (q := 78) C 0 rfl dX12_bars_77 rfl ?_
    refine Go_getI (q := 81) (k := 16) C ci12 iw_12 kM_0 rfl wm_25_3 rfl dX12_bars_78 rfl ?_
    refine Go_icmp_ge (t := 100) (q := 84) C hw dX12_bars_81 rfl rfl (fun hw => ?_) (fun hw => ?_)
    · refine Go_iconst (q := 101) (v := (0 : Int32)) C dX12_bars_100 rfl rfl ?_
      exact Go_zret C hQ hR rfl hw dX12_bars_101
    · refine Go_aload_n (q := 85) C 0 rfl dX12_bars_84 rfl ?_
      refine Go_iload_n (q := 86) C 1 rfl dX12_bars_85 rfl ?_
      refine Go_callV_I (av := (fun ad => [.int v3])) (st := []) (C := C) (hM := c_X12_worked (Gl G) hR hw) (hlk := wm_30_17) (hini := wm_1_5) (hins := wm_30_18) (hsel := wm_30_19) (hcode := wm_30_20) (ho := kM_0) (hci := rfl) (hc13 := by decide) (n := 1) (hd := by decide +kernel) (hr0 := ⟨rfl, rfl⟩) (hroom := ⟨by first | decide | (dsimp only; omega), by first | decide | (dsimp only; omega)⟩) (hlen := rfl) (hst := rfl) (hW := Nat.le_of_ble_eq_true rfl) (hdg := dX12_bars_86) (q := 89) (hq := rfl) (fun r86_7 S86_6 hw hR => ?_)
      refine Go_if_eq (t := 94) (q := 92) C hw dX12_bars_89 rfl rfl (fun hw => ?_) (fun hw => ?_)
      · refine Go_iinc2 (q := 97) (kp := 1) (cst := (1 : Int32)) C dX12_bars_94 rfl rfl (by decide) rfl (fun x94_8 e_x94_8 => ?_)
        have hw := hw x94_8 e_x94_8
        refine Go_lve (lv' := [(3, .int x94_8), (0, .ref (Gad G (0)))]) rfl ?_
        refine Go_goto (q := 76) C dX12_bars_97 rfl ?_
        refine Go_lvp [1, 0] rfl ?_
        exact hk76 _ _ hR hw
      · refine Go_iconst (q := 93) (v := (1 : Int32)) C dX12_bars_92 rfl rfl ?_
        exact Go_zret C hQ hR rfl hw dX12_bars_93
set_option maxRecDepth 100000 in
set_option maxHeartbeats 4000000 in
theorem g_X12_bars_73 {G : GC} (C : Cx G cX12_bars BIG RX12 4 (some .boolean) rm_X12_bars shM NM) {Q : Int32 → St → Prop} (hQ : QI G RCM Q) (t0 : Int32) (t1 : Int32) {S : St} (hR : RCM S) (hw : w_X12_bars_73 Q t0 t1 S) : Go G 4 73 [.int t0, .int t1, .ref (Gad G (32))] [(0, .ref (Gad G (0)))] S := by
  unfold w_X12_bars_73 at hw
  obtain ⟨hin, hw⟩ := hw
  refine Go_iastore (q := 74) C kM_32 hin dX12_bars_73 rfl ?_
  refine Go_S (fun S73_5 e_S73_5 => ?_)
  have hw := hw S73_5 e_S73_5
  have hR := rcM e_S73_5 hR
  refine Go_iconst (q := 75) (v := (0 : Int32)) C dX12_bars_74 rfl rfl ?_
  refine Go_istore_n (q := 76) (lv' := [(3, .int (0 : Int32)), (0, .ref (Gad G (0)))]) C rfl dX12_bars_75 (by decide) rfl rfl ?_
  refine Go_lvp [1, 0] rfl ?_
  exact g_X12_bars_76 C hQ _ hR hw
set_option maxRecDepth 100000 in
set_option maxHeartbeats 4000000 in
theorem c_X12_bars (l : Launch) {p0 : Int32} {p1 : Int32} {S : St} {Q : Int32 → St → Prop} (hR : RCM S) (hw : w_X12_bars p0 p1 S Q) : MetI l yX12_bars (wB yX12_bars cX12_bars 4 (some .boolean)) rm_X12_bars shM NM RCM (fun ad => [.ref (ad (0)), .int p0, .int p1]) S Q := by
  refine MetI_of (cc := cX12_bars) (maxL := 4) (ret := (some .boolean)) (plainFor_of_name (by decide)) (fun _ => Nat.le_of_ble_eq_true rfl) (fun G C hl hQ => ?_)
  subst hl
  have C : Cx G cX12_bars BIG RX12 4 (some .boolean) rm_X12_bars shM NM := C
  show Go G 4 0 [] [(0, .ref (Gad G (0))), (1, .int p0), (2, .int p1)] S
  unfold w_X12_bars at hw
  refine Go_aload_n (q := 1) C 0 rfl dX12_bars_0 rfl ?_
  refine Go_getA (q := 4) (k := 55) C ci12 iw_12 kM_0 (rM_0_55 hR) rfl wm_14_4 rfl dX12_bars_1 rfl ?_
  refine Go_iconst (q := 5) (v := (1 : Int32)) C dX12_bars_4 rfl rfl ?_
  refine Go_aload_n (q := 6) C 0 rfl dX12_bars_5 rfl ?_
  refine Go_getA (q := 9) (k := 23) C ci12 iw_12 kM_0 (rM_0_23 hR) rfl wm_13_3 rfl dX12_bars_6 rfl ?_
  refine Go_iload_n (q := 10) C 1 rfl dX12_bars_9 rfl ?_
  obtain ⟨hin, hw⟩ := hw
  refine Go_iaload (q := 11) C kM_8 hin dX12_bars_10 rfl ?_
  refine Go_iastore (q := 12) C kM_32 (by unfold vp_in; decide) dX12_bars_11 rfl ?_
  refine Go_S (fun S11_1 e_S11_1 => ?_)
  have hw := hw S11_1 e_S11_1
  have hR := rcM e_S11_1 hR
  refine Go_aload_n (q := 13) C 0 rfl dX12_bars_12 rfl ?_
  refine Go_getA (q := 16) (k := 55) C ci12 iw_12 kM_0 (rM_0_55 hR) rfl wm_14_4 rfl dX12_bars_13 rfl ?_
  refine Go_iconst (q := 17) (v := (2 : Int32)) C dX12_bars_16 rfl rfl ?_
  refine Go_aload_n (q := 18) C 0 rfl dX12_bars_17 rfl ?_
  refine Go_getA (q := 21) (k := 23) C ci12 iw_12 kM_0 (rM_0_23 hR) rfl wm_13_3 rfl dX12_bars_18 rfl ?_
  refine Go_iload_n (q := 22) C 2 rfl dX12_bars_21 rfl ?_
  obtain ⟨hin, hw⟩ := hw
  refine Go_iaload (q := 23) C kM_8 hin dX12_bars_22 rfl ?_
  refine Go_iastore (q := 24) C kM_32 (by unfold vp_in; decide) dX12_bars_23 rfl ?_
  refine Go_S (fun S23_2 e_S23_2 => ?_)
  have hw := hw S23_2 e_S23_2
  have hR := rcM e_S23_2 hR
  refine Go_aload_n (q := 25) C 0 rfl dX12_bars_24 rfl ?_
  refine Go_getA (q := 28) (k := 55) C ci12 iw_12 kM_0 (rM_0_55 hR) rfl wm_14_4 rfl dX12_bars_25 rfl ?_
  refine Go_iconst (q := 29) (v := (3 : Int32)) C dX12_bars_28 rfl rfl ?_
  refine Go_aload_n (q := 30) C 0 rfl dX12_bars_29 rfl ?_
  refine Go_getA (q := 33) (k := 22) C ci12 iw_12 kM_0 (rM_0_22 hR) rfl wm_13_2 rfl dX12_bars_30 rfl ?_
  refine Go_iload_n (q := 34) C 1 rfl dX12_bars_33 rfl ?_
  obtain ⟨hin, hw⟩ := hw
  refine Go_iaload (q := 35) C kM_7 hin dX12_bars_34 rfl ?_
  refine Go_iastore (q := 36) C kM_32 (by unfold vp_in; decide) dX12_bars_35 rfl ?_
  refine Go_S (fun S35_3 e_S35_3 => ?_)
  have hw := hw S35_3 e_S35_3
  have hR := rcM e_S35_3 hR
  refine Go_aload_n (q := 37) C 0 rfl dX12_bars_36 rfl ?_
  refine Go_getA (q := 40) (k := 55) C ci12 iw_12 kM_0 (rM_0_55 hR) rfl wm_14_4 rfl dX12_bars_37 rfl ?_
  refine Go_iconst (q := 41) (v := (4 : Int32)) C dX12_bars_40 rfl rfl ?_
  refine Go_aload_n (q := 42) C 0 rfl dX12_bars_41 rfl ?_
  refine Go_getA (q := 45) (k := 22) C ci12 iw_12 kM_0 (rM_0_22 hR) rfl wm_13_2 rfl dX12_bars_42 rfl ?_
  refine Go_iload_n (q := 46) C 2 rfl dX12_bars_45 rfl ?_
  obtain ⟨hin, hw⟩ := hw
  refine Go_iaload (q := 47) C kM_7 hin dX12_bars_46 rfl ?_
  refine Go_iastore (q := 48) C kM_32 (by unfold vp_in; decide) dX12_bars_47 rfl ?_
  refine Go_S (fun S47_4 e_S47_4 => ?_)
  have hw := hw S47_4 e_S47_4
  have hR := rcM e_S47_4 hR
  refine Go_aload_n (q := 49) C 0 rfl dX12_bars_48 rfl ?_
  refine Go_getA (q := 52) (k := 55) C ci12 iw_12 kM_0 (rM_0_55 hR) rfl wm_14_4 rfl dX12_bars_49 rfl ?_
  refine Go_iconst (q := 53) (v := (5 : Int32)) C dX12_bars_52 rfl rfl ?_
  refine Go_aload_n (q := 54) C 0 rfl dX12_bars_53 rfl ?_
  refine Go_getA (q := 57) (k := 21) C ci12 iw_12 kM_0 (rM_0_21 hR) rfl wm_13_1 rfl dX12_bars_54 rfl ?_
  refine Go_iload_n (q := 58) C 1 rfl dX12_bars_57 rfl ?_
  obtain ⟨hin, hw⟩ := hw
  refine Go_iaload (q := 59) C kM_6 hin dX12_bars_58 rfl ?_
  refine Go_aload_n (q := 60) C 0 rfl dX12_bars_59 rfl ?_
  refine Go_getA (q := 63) (k := 21) C ci12 iw_12 kM_0 (rM_0_21 hR) rfl wm_13_1 rfl dX12_bars_60 rfl ?_
  refine Go_iload_n (q := 64) C 2 rfl dX12_bars_63 rfl ?_
  obtain ⟨hin, hw⟩ := hw
  refine Go_iaload (q := 65) C kM_6 hin dX12_bars_64 rfl ?_
  refine Go_icmp_ne (t := 72) (q := 68) C hw dX12_bars_65 rfl rfl (fun hw => ?_) (fun hw => ?_)
  · refine Go_iconst (q := 69) (v := (1 : Int32)) C dX12_bars_68 rfl rfl ?_
    refine Go_goto (q := 73) C dX12_bars_69 rfl ?_
    refine Go_lvp [0] rfl ?_
    exact g_X12_bars_73 C hQ _ _ hR hw
  · refine Go_iconst (q := 73) (v := (0 : Int32)) C dX12_bars_72 rfl rfl ?_
    refine Go_lvp [0] rfl ?_
    exact g_X12_bars_73 C hQ _ _ hR hw
-- X12_form
abbrev rm_X12_form : Room := { frames := 5, cells := 0, slots := 0, locals := 110 }
set_option maxRecDepth 100000 in
set_option maxHeartbeats 4000000 in
theorem g_X12_form_197 {G : GC} (C : Cx G cX12_form BIG RX12 3 (some .int) rm_X12_form shM NM) {Q : Int32 → St → Prop} (hQ : QI G RCM Q) (v1 : Int32) {k187 : Int32 → St → Prop} (hk187 : ∀ (v1 : Int32) (S : St), RCM S → k187 v1 S → Go G 3 187 [] [(0, .ref (Gad G (0))), (1, .int v1)] S) (v2 : Int32) {S : St} (hR : RCM S) (hw : w_X12_form_197 k187 v1 v2 S) : Go G 3 197 [] [(0, .ref (Gad G (0))), (1, .int v1), (2, .int v2)] S := by
  obtain ⟨n, hw⟩ := hw
  induction n generalizing v2 S with
  | zero => exact hw.elim
  | succ n ih =>
    have hw : b_X12_form_197 k187 v1 (lpn (fun _ _ => False) (b_X12_form_197 k187 v1) n) v2 S := hw
    generalize lpn (fun _ _ => False) (b_X12_form_197 k187 v1) n = kf at hw ih
    have hk197 := fun (v2 : Int32) (S : St) (hR : RCM S) hw => ih v2 hR hw
    unfold b_X12_form_197 at hw
    refine Go_iload_n (q := 198) C 2 rfl dX12_form_197 rfl ?_
    refine Go_aload_n (q := 199) C 0 rfl dX12_form_198 rfl ?_
    refine Go_getI (q := 202) (k := 15) C ci12 iw_12 kM_0 rfl wm_25_1 rfl dX12_form_199 rfl ?_
    refine Go_icmp_ge (t := 228) (q := 205) C hw dX12_form_202 rfl rfl (fun hw => ?_) (fun hw => ?_)
    · refine Go_iinc2 (q := 231) (kp := 1) (cst := (1 : Int32)) C dX12_form_228 rfl rfl (by decide) rfl (fun x228_12 e_x228_12 => ?_)
      have hw := hw x228_12 e_x228_12
      refine Go_lve (lv' := [(1, .int x228_12), (0, .ref (Gad G (0))), (2, .int v2)]) rfl ?_
      refine Go_goto (q := 187) C dX12_form_231 rfl ?_
      refine Go_lvp [1, 0] rfl ?_
      exact hk187 _ _ hR hw
    · refine Go_aload_n (q := 206) C 0 rfl dX12_form_205 rfl ?_
      refine Go_getA (q := 209) (k := 24) C ci12 iw_12 kM_0 (rM_0_24 hR) rfl wm_13_5 rfl dX12_form_206 rfl ?_
      refine Go_bipush (q := 211) (v := (12 : Int32)) C dX12_form_209 rfl rfl ?_
      refine Go_iload_n (q := 212) C 1 rfl dX12_form_211 rfl ?_
      refine Go_imul (q := 213) C dX12_form_212 rfl ?_
      refine Go_iload_n (q := 214) C 2 rfl dX12_form_213 rfl ?_
      refine Go_iadd (q := 215) C dX12_form_214 rfl ?_
      refine Go_aload_n (q := 216) C 0 rfl dX12_form_215 rfl ?_
      refine Go_iload_n (q := 217) C 1 rfl dX12_form_216 rfl ?_
      refine Go_iload_n (q := 218) C 2 rfl dX12_form_217 rfl ?_
      refine Go_callV_I (av := (fun ad => [.int v1, .int v2])) (st := [.int (((12 : Int32) * v1) + v2), .ref (Gad G (9))]) (C := C) (hM := c_X12_bars (Gl G) hR hw) (hlk := wm_30_13) (hini := wm_1_5) (hins := wm_30_14) (hsel := wm_30_15) (hcode := wm_30_16) (ho := kM_0) (hci := rfl) (hc13 := by decide) (n := 2) (hd := by decide +kernel) (hr0 := ⟨rfl, rfl⟩) (hroom := ⟨by first | decide | (dsimp only; omega), by first | decide | (dsimp only; omega)⟩) (hlen := rfl) (hst := rfl) (hW := Nat.le_of_ble_eq_true rfl) (hdg := dX12_form_218) (q := 221) (hq := rfl) (fun r218_14 S218_13 hw hR => ?_)
      obtain ⟨hin, hw⟩ := hw
      obtain ⟨hz, hw⟩ := hw
      refine Go_zastore2 (q := 222) C kM_9 hin hz dX12_form_221 rfl ?_
      refine Go_S (fun S221_15 e_S221_15 => ?_)
      have hw := hw S221_15 e_S221_15
      have hR := rcM e_S221_15 hR
      refine Go_iinc2 (q := 225) (kp := 2) (cst := (1 : Int32)) C dX12_form_222 rfl rfl (by decide) rfl (fun x222_16 e_x222_16 => ?_)
      have hw := hw x222_16 e_x222_16
      refine Go_lve (lv' := [(2, .int x222_16), (0, .ref (Gad G (0))), (1, .int v1)]) rfl ?_
      refine Go_goto (q := 197) C dX12_form_225 rfl ?_
      refine Go_lvp [1, 2, 0] rfl ?_
      exact hk197 _ _ hR hw
set_option maxRecDepth 100000 in
set_option maxHeartbeats 4000000 in
theorem g_X12_form_187 {G : GC} (C : Cx G cX12_form BIG RX12 3 (some .int) rm_X12_form shM NM) {Q : Int32 → St → Prop} (hQ : QI G RCM Q) (v1 : Int32) {S : St} (hR : RCM S) (hw : w_X12_form_187 Q v1 S) : Go G 3 187 [] [(0, .ref (Gad G (0))), (1, .int v1)] S := by
  obtain ⟨n, hw⟩ := hw
  induction n generalizing v1 S with
  | zero => exact hw.elim
  | succ n ih =>
    have hw : b_X12_form_187 Q (lpn (fun _ _ => False) (b_X12_form_187 Q) n) v1 S := hw
    generalize lpn (fun _ _ => False) (b_X12_form_187 Q) n = kf at hw ih
    have hk187 := fun (v1 : Int32) (S : St) (hR : RCM S) hw => ih v1 hR hw
    unfold b_X12_form_187 at hw
    refine Go_iload_n (q := 188) C 1 rfl dX12_form_187 rfl ?_
    refine Go_aload_n (q := 189) C 0 rfl dX12_form_188 rfl ?_
    refine Go_getI (q := 192) (k := 15) C ci12 iw_12 kM_0 rfl wm_25_1 rfl dX12_form_189 rfl ?_
    refine Go_icmp_ge (t := 234) (q := 195) C hw dX12_form_192 rfl rfl (fun hw => ?_) (fun hw => ?_)
    · refine Go_aload_n (q := 235) C 0 rfl dX12_form_234 rfl ?_
      refine Go_iconst (q := 236) (v := (0 : Int32)) C dX12_form_235 rfl rfl ?_
      refine Go_putI (q := 239) (k := 65) C ci12 iw_12 kM_0 rfl wm_25_4 rfl rfl (ci12.2.2.2.1 65 (by decide)) rfl rfl dX12_form_236 rfl ?_
      refine Go_S (fun S236_11 e_S236_11 => ?_)
      have hw := hw S236_11 e_S236_11
      have hR := rcM e_S236_11 hR
      refine Go_iconst (q := 240) (v := (0 : Int32)) C dX12_form_239 rfl rfl ?_
      exact Go_iret C hQ hR hw dX12_form_240
    · refine Go_iconst (q := 196) (v := (0 : Int32)) C dX12_form_195 rfl rfl ?_
      refine Go_istore_n (q := 197) (lv' := [(2, .int (0 : Int32)), (0, .ref (Gad G (0))), (1, .int v1)]) C rfl dX12_form_196 (by decide) rfl rfl ?_
      refine Go_lvp [1, 2, 0] rfl ?_
      exact g_X12_form_197 C hQ _ hk187 _ hR hw
set_option maxRecDepth 100000 in
set_option maxHeartbeats 4000000 in
theorem g_X12_form_149 {G : GC} (C : Cx G cX12_form BIG RX12 3 (some .int) rm_X12_form shM NM) {Q : Int32 → St → Prop} (hQ : QI G RCM Q) (v1 : Int32) {S : St} (hR : RCM S) (hw : w_X12_form_149 Q v1 S) : Go G 3 149 [] [(0, .ref (Gad G (0))), (1, .int v1)] S := by
  obtain ⟨n, hw⟩ := hw
  induction n generalizing v1 S with
  | zero => exact hw.elim
  | succ n ih =>
    have hw : b_X12_form_149 Q (lpn (fun _ _ => False) (b_X12_form_149 Q) n) v1 S := hw
    generalize lpn (fun _ _ => False) (b_X12_form_149 Q) n = kf at hw ih
    have hk149 := fun (v1 : Int32) (S : St) (hR : RCM S) hw => ih v1 hR hw
    unfold b_X12_form_149 at hw
    refine Go_iload_n (q := 150) C 1 rfl dX12_form_149 rfl ?_
    refine Go_bipush (q := 152) (v := (8 : Int32)) C dX12_form_150 rfl rfl ?_
    refine Go_icmp_ge (t := 185) (q := 155) C hw dX12_form_152 rfl rfl (fun hw => ?_) (fun hw => ?_)
    · refine Go_iconst (q := 186) (v := (0 : Int32)) C dX12_form_185 rfl rfl ?_
      refine Go_istore_n (q := 187) (lv' := [(1, .int (0 : Int32)), (0, .ref (Gad G (0)))]) C rfl dX12_form_186 (by decide) rfl rfl ?_
      refine Go_lvp [1, 0] rfl ?_
      exact g_X12_form_187 C hQ _ hR hw
    · refine Go_aload_n (q := 156) C 0 rfl dX12_form_155 rfl ?_
      refine Go_getA (q := 159) (k := 18) C ci12 iw_12 kM_0 (rM_0_18 hR) rfl wm_12_22 rfl dX12_form_156 rfl ?_
      refine Go_iload_n (q := 160) C 1 rfl dX12_form_159 rfl ?_
      refine Go_aload_n (q := 161) C 0 rfl dX12_form_160 rfl ?_
      refine Go_getA (q := 164) (k := 33) C ci12 iw_12 kM_0 (rM_0_33 hR) rfl wm_13_7 rfl dX12_form_161 rfl ?_
      refine Go_iload_n (q := 165) C 1 rfl dX12_form_164 rfl ?_
      obtain ⟨hin, hw⟩ := hw
      refine Go_iaload (q := 166) C kM_11 hin dX12_form_165 rfl ?_
      obtain ⟨hin, hw⟩ := hw
      refine Go_iastore (q := 167) C kM_3 hin dX12_form_166 rfl ?_
      refine Go_S (fun S166_17 e_S166_17 => ?_)
      have hw := hw S166_17 e_S166_17
      have hR := rcM e_S166_17 hR
      refine Go_aload_n (q := 168) C 0 rfl dX12_form_167 rfl ?_
      refine Go_getA (q := 171) (k := 19) C ci12 iw_12 kM_0 (rM_0_19 hR) rfl wm_12_23 rfl dX12_form_168 rfl ?_
      refine Go_iload_n (q := 172) C 1 rfl dX12_form_171 rfl ?_
      refine Go_aload_n (q := 173) C 0 rfl dX12_form_172 rfl ?_
      refine Go_getA (q := 176) (k := 34) C ci12 iw_12 kM_0 (rM_0_34 hR) rfl wm_13_8 rfl dX12_form_173 rfl ?_
      refine Go_iload_n (q := 177) C 1 rfl dX12_form_176 rfl ?_
      obtain ⟨hin, hw⟩ := hw
      refine Go_iaload (q := 178) C kM_12 hin dX12_form_177 rfl ?_
      obtain ⟨hin, hw⟩ := hw
      refine Go_iastore (q := 179) C kM_4 hin dX12_form_178 rfl ?_
      refine Go_S (fun S178_18 e_S178_18 => ?_)
      have hw := hw S178_18 e_S178_18
      have hR := rcM e_S178_18 hR
      refine Go_iinc2 (q := 182) (kp := 1) (cst := (1 : Int32)) C dX12_form_179 rfl rfl (by decide) rfl (fun x179_19 e_x179_19 => ?_)
      have hw := hw x179_19 e_x179_19
      refine Go_lve (lv' := [(1, .int x179_19), (0, .ref (Gad G (0)))]) rfl ?_
      refine Go_goto (q := 149) C dX12_form_182 rfl ?_
      refine Go_lvp [1, 0] rfl ?_
      exact hk149 _ _ hR hw
set_option maxRecDepth 100000 in
set_option maxHeartbeats 4000000 in
theorem g_X12_form_75 {G : GC} (C : Cx G cX12_form BIG RX12 3 (some .int) rm_X12_form shM NM) {Q : Int32 → St → Prop} (hQ : QI G RCM Q) (v1 : Int32) {S : St} (hR : RCM S) (hw : w_X12_form_75 Q v1 S) : Go G 3 75 [] [(0, .ref (Gad G (0))), (1, .int v1)] S := by
  obtain ⟨n, hw⟩ := hw
  induction n generalizing v1 S with
  | zero => exact hw.elim
  | succ n ih =>
    have hw : b_X12_form_75 Q (lpn (fun _ _ => False) (b_X12_form_75 Q) n) v1 S := hw
    generalize lpn (fun _ _ => False) (b_X12_form_75 Q) n = kf at hw ih
    have hk75 := fun (v1 : Int32) (S : St) (hR : RCM S) hw => ih v1 hR hw
    unfold b_X12_form_75 at hw
    refine Go_iload_n (q := 76) C 1 rfl dX12_form_75 rfl ?_
    refine Go_bipush (q := 78) (v := (12 : Int32)) C dX12_form_76 rfl rfl ?_
    refine Go_icmp_ge (t := 147) (q := 81) C hw dX12_form_78 rfl rfl (fun hw => ?_) (fun hw => ?_)
    · refine Go_iconst (q := 148) (v := (0 : Int32)) C dX12_form_147 rfl rfl ?_
      refine Go_istore_n (q := 149) (lv' := [(1, .int (0 : Int32)), (0, .ref (Gad G (0)))]) C rfl dX12_form_148 (by decide) rfl rfl ?_
      refine Go_lvp [1, 0] rfl ?_
      exact g_X12_form_149 C hQ _ hR hw
    · refine Go_aload_n (q := 82) C 0 rfl dX12_form_81 rfl ?_
      refine Go_getA (q := 85) (k := 17) C ci12 iw_12 kM_0 (rM_0_17 hR) rfl wm_12_21 rfl dX12_form_82 rfl ?_
      refine Go_iload_n (q := 86) C 1 rfl dX12_form_85 rfl ?_
      refine Go_aload_n (q := 87) C 0 rfl dX12_form_86 rfl ?_
      refine Go_getA (q := 90) (k := 32) C ci12 iw_12 kM_0 (rM_0_32 hR) rfl wm_13_6 rfl dX12_form_87 rfl ?_
      refine Go_iload_n (q := 91) C 1 rfl dX12_form_90 rfl ?_
      obtain ⟨hin, hw⟩ := hw
      refine Go_iaload (q := 92) C kM_10 hin dX12_form_91 rfl ?_
      obtain ⟨hin, hw⟩ := hw
      refine Go_iastore (q := 93) C kM_2 hin dX12_form_92 rfl ?_
      refine Go_S (fun S92_20 e_S92_20 => ?_)
      have hw := hw S92_20 e_S92_20
      have hR := rcM e_S92_20 hR
      refine Go_aload_n (q := 94) C 0 rfl dX12_form_93 rfl ?_
      refine Go_getA (q := 97) (k := 20) C ci12 iw_12 kM_0 (rM_0_20 hR) rfl wm_13_0 rfl dX12_form_94 rfl ?_
      refine Go_iload_n (q := 98) C 1 rfl dX12_form_97 rfl ?_
      refine Go_aload_n (q := 99) C 0 rfl dX12_form_98 rfl ?_
      refine Go_getA (q := 102) (k := 35) C ci12 iw_12 kM_0 (rM_0_35 hR) rfl wm_13_9 rfl dX12_form_99 rfl ?_
      refine Go_iload_n (q := 103) C 1 rfl dX12_form_102 rfl ?_
      obtain ⟨hin, hw⟩ := hw
      refine Go_iaload (q := 104) C kM_13 hin dX12_form_103 rfl ?_
      obtain ⟨hin, hw⟩ := hw
      refine Go_iastore (q := 105) C kM_5 hin dX12_form_104 rfl ?_
      refine Go_S (fun S104_21 e_S104_21 => ?_)
      have hw := hw S104_21 e_S104_21
      have hR := rcM e_S104_21 hR
      refine Go_aload_n (q := 106) C 0 rfl dX12_form_105 rfl ?_
      refine Go_getA (q := 109) (k := 21) C ci12 iw_12 kM_0 (rM_0_21 hR) rfl wm_13_1 rfl dX12_form_106 rfl ?_
      refine Go_iload_n (q := 110) C 1 rfl dX12_form_109 rfl ?_
      refine Go_aload_n (q := 111) C 0 rfl dX12_form_110 rfl ?_
      refine Go_getA (q := 114) (k := 37) C ci12 iw_12 kM_0 (rM_0_37 hR) rfl wm_13_11 rfl dX12_form_111 rfl ?_
      refine Go_iload_n (q := 115) C 1 rfl dX12_form_114 rfl ?_
      obtain ⟨hin, hw⟩ := hw
      refine Go_iaload (q := 116) C kM_15 hin dX12_form_115 rfl ?_
      obtain ⟨hin, hw⟩ := hw
      refine Go_iastore (q := 117) C kM_6 hin dX12_form_116 rfl ?_
      refine Go_S (fun S116_22 e_S116_22 => ?_)
      have hw := hw S116_22 e_S116_22
      have hR := rcM e_S116_22 hR
      refine Go_aload_n (q := 118) C 0 rfl dX12_form_117 rfl ?_
      refine Go_getA (q := 121) (k := 22) C ci12 iw_12 kM_0 (rM_0_22 hR) rfl wm_13_2 rfl dX12_form_118 rfl ?_
      refine Go_iload_n (q := 122) C 1 rfl dX12_form_121 rfl ?_
      refine Go_aload_n (q := 123) C 0 rfl dX12_form_122 rfl ?_
      refine Go_getA (q := 126) (k := 38) C ci12 iw_12 kM_0 (rM_0_38 hR) rfl wm_13_12 rfl dX12_form_123 rfl ?_
      refine Go_iload_n (q := 127) C 1 rfl dX12_form_126 rfl ?_
      obtain ⟨hin, hw⟩ := hw
      refine Go_iaload (q := 128) C kM_16 hin dX12_form_127 rfl ?_
      obtain ⟨hin, hw⟩ := hw
      refine Go_iastore (q := 129) C kM_7 hin dX12_form_128 rfl ?_
      refine Go_S (fun S128_23 e_S128_23 => ?_)
      have hw := hw S128_23 e_S128_23
      have hR := rcM e_S128_23 hR
      refine Go_aload_n (q := 130) C 0 rfl dX12_form_129 rfl ?_
      refine Go_getA (q := 133) (k := 23) C ci12 iw_12 kM_0 (rM_0_23 hR) rfl wm_13_3 rfl dX12_form_130 rfl ?_
      refine Go_iload_n (q := 134) C 1 rfl dX12_form_133 rfl ?_
      refine Go_aload_n (q := 135) C 0 rfl dX12_form_134 rfl ?_
      refine Go_getA (q := 138) (k := 39) C ci12 iw_12 kM_0 (rM_0_39 hR) rfl wm_13_13 rfl dX12_form_135 rfl ?_
      refine Go_iload_n (q := 139) C 1 rfl dX12_form_138 rfl ?_
      obtain ⟨hin, hw⟩ := hw
      refine Go_iaload (q := 140) C kM_17 hin dX12_form_139 rfl ?_
      obtain ⟨hin, hw⟩ := hw
      refine Go_iastore (q := 141) C kM_8 hin dX12_form_140 rfl ?_
      refine Go_S (fun S140_24 e_S140_24 => ?_)
      have hw := hw S140_24 e_S140_24
      have hR := rcM e_S140_24 hR
      refine Go_iinc2 (q := 144) (kp := 1) (cst := (1 : Int32)) C dX12_form_141 rfl rfl (by decide) rfl (fun x141_25 e_x141_25 => ?_)
      have hw := hw x141_25 e_x141_25
      refine Go_lve (lv' := [(1, .int x141_25), (0, .ref (Gad G (0)))]) rfl ?_
      refine Go_goto (q := 75) C dX12_form_144 rfl ?_
      refine Go_lvp [1, 0] rfl ?_
      exact hk75 _ _ hR hw
set_option maxRecDepth 100000 in
set_option maxHeartbeats 4000000 in
theorem c_X12_form (l : Launch) {S : St} {Q : Int32 → St → Prop} (hR : RCM S) (hw : w_X12_form S Q) : MetI l yX12_form (wB yX12_form cX12_form 3 (some .int)) rm_X12_form shM NM RCM (fun ad => [.ref (ad (0))]) S Q := by
  refine MetI_of (cc := cX12_form) (maxL := 3) (ret := (some .int)) (plainFor_of_name (by decide)) (fun _ => Nat.le_of_ble_eq_true rfl) (fun G C hl hQ => ?_)
  subst hl
  have C : Cx G cX12_form BIG RX12 3 (some .int) rm_X12_form shM NM := C
  show Go G 3 0 [] [(0, .ref (Gad G (0)))] S
  unfold w_X12_form at hw
  refine Go_aload_n (q := 1) C 0 rfl dX12_form_0 rfl ?_
  refine Go_iconst (q := 2) (v := (0 : Int32)) C dX12_form_1 rfl rfl ?_
  refine Go_putI (q := 5) (k := 0) C ci12 iw_12 kM_0 rfl wm_15_14 rfl rfl (ci12.2.2.2.1 0 (by decide)) rfl rfl dX12_form_2 rfl ?_
  refine Go_S (fun S2_1 e_S2_1 => ?_)
  have hw := hw S2_1 e_S2_1
  have hR := rcM e_S2_1 hR
  refine Go_aload_n (q := 6) C 0 rfl dX12_form_5 rfl ?_
  refine Go_callV_I (av := (fun ad => [])) (st := []) (C := C) (hM := c_X12_readsAll (Gl G)  hR hw) (hlk := wm_25_5) (hini := wm_1_5) (hins := wm_25_6) (hsel := wm_25_7) (hcode := wm_25_8) (ho := kM_0) (hci := rfl) (hc13 := by decide) (n := 0) (hd := by decide +kernel) (hr0 := ⟨rfl, rfl⟩) (hroom := ⟨by first | decide | (dsimp only; omega), by first | decide | (dsimp only; omega)⟩) (hlen := rfl) (hst := rfl) (hW := Nat.le_of_ble_eq_true rfl) (hdg := dX12_form_6) (q := 9) (hq := rfl) (fun r6_3 S6_2 hw hR => ?_)
  refine Go_if_ne (t := 17) (q := 12) C hw dX12_form_9 rfl rfl (fun hw => ?_) (fun hw => ?_)
  · refine Go_aload_n (q := 13) C 0 rfl dX12_form_12 rfl ?_
    refine Go_getI (q := 16) (k := 9) C ci12 iw_12 kM_0 rfl wm_24_14 rfl dX12_form_13 rfl ?_
    exact Go_iret C hQ hR hw dX12_form_16
  · refine Go_aload_n (q := 18) C 0 rfl dX12_form_17 rfl ?_
    refine Go_aload_n (q := 19) C 0 rfl dX12_form_18 rfl ?_
    refine Go_getI (q := 22) (k := 25) C ci12 iw_12 kM_0 rfl wm_24_15 rfl dX12_form_19 rfl ?_
    refine Go_putI (q := 25) (k := 10) C ci12 iw_12 kM_0 rfl wm_14_20 rfl rfl (ci12.2.2.2.1 10 (by decide)) rfl rfl dX12_form_22 rfl ?_
    refine Go_S (fun S22_4 e_S22_4 => ?_)
    have hw := hw S22_4 e_S22_4
    have hR := rcM e_S22_4 hR
    refine Go_aload_n (q := 26) C 0 rfl dX12_form_25 rfl ?_
    refine Go_aload_n (q := 27) C 0 rfl dX12_form_26 rfl ?_
    refine Go_getI (q := 30) (k := 26) C ci12 iw_12 kM_0 rfl wm_24_16 rfl dX12_form_27 rfl ?_
    refine Go_putI (q := 33) (k := 11) C ci12 iw_12 kM_0 rfl wm_24_17 rfl rfl (ci12.2.2.2.1 11 (by decide)) rfl rfl dX12_form_30 rfl ?_
    refine Go_S (fun S30_5 e_S30_5 => ?_)
    have hw := hw S30_5 e_S30_5
    have hR := rcM e_S30_5 hR
    refine Go_aload_n (q := 34) C 0 rfl dX12_form_33 rfl ?_
    refine Go_aload_n (q := 35) C 0 rfl dX12_form_34 rfl ?_
    refine Go_getI (q := 38) (k := 27) C ci12 iw_12 kM_0 rfl wm_24_18 rfl dX12_form_35 rfl ?_
    refine Go_putI (q := 41) (k := 12) C ci12 iw_12 kM_0 rfl wm_24_19 rfl rfl (ci12.2.2.2.1 12 (by decide)) rfl rfl dX12_form_38 rfl ?_
    refine Go_S (fun S38_6 e_S38_6 => ?_)
    have hw := hw S38_6 e_S38_6
    have hR := rcM e_S38_6 hR
    refine Go_aload_n (q := 42) C 0 rfl dX12_form_41 rfl ?_
    refine Go_aload_n (q := 43) C 0 rfl dX12_form_42 rfl ?_
    refine Go_getI (q := 46) (k := 28) C ci12 iw_12 kM_0 rfl wm_24_20 rfl dX12_form_43 rfl ?_
    refine Go_putI (q := 49) (k := 13) C ci12 iw_12 kM_0 rfl wm_24_21 rfl rfl (ci12.2.2.2.1 13 (by decide)) rfl rfl dX12_form_46 rfl ?_
    refine Go_S (fun S46_7 e_S46_7 => ?_)
    have hw := hw S46_7 e_S46_7
    have hR := rcM e_S46_7 hR
    refine Go_aload_n (q := 50) C 0 rfl dX12_form_49 rfl ?_
    refine Go_aload_n (q := 51) C 0 rfl dX12_form_50 rfl ?_
    refine Go_getI (q := 54) (k := 29) C ci12 iw_12 kM_0 rfl wm_24_22 rfl dX12_form_51 rfl ?_
    refine Go_putI (q := 57) (k := 14) C ci12 iw_12 kM_0 rfl wm_24_23 rfl rfl (ci12.2.2.2.1 14 (by decide)) rfl rfl dX12_form_54 rfl ?_
    refine Go_S (fun S54_8 e_S54_8 => ?_)
    have hw := hw S54_8 e_S54_8
    have hR := rcM e_S54_8 hR
    refine Go_aload_n (q := 58) C 0 rfl dX12_form_57 rfl ?_
    refine Go_aload_n (q := 59) C 0 rfl dX12_form_58 rfl ?_
    refine Go_getI (q := 62) (k := 30) C ci12 iw_12 kM_0 rfl wm_25_0 rfl dX12_form_59 rfl ?_
    refine Go_putI (q := 65) (k := 15) C ci12 iw_12 kM_0 rfl wm_25_1 rfl rfl (ci12.2.2.2.1 15 (by decide)) rfl rfl dX12_form_62 rfl ?_
    refine Go_S (fun S62_9 e_S62_9 => ?_)
    have hw := hw S62_9 e_S62_9
    have hR := rcM e_S62_9 hR
    refine Go_aload_n (q := 66) C 0 rfl dX12_form_65 rfl ?_
    refine Go_aload_n (q := 67) C 0 rfl dX12_form_66 rfl ?_
    refine Go_getI (q := 70) (k := 31) C ci12 iw_12 kM_0 rfl wm_25_2 rfl dX12_form_67 rfl ?_
    refine Go_putI (q := 73) (k := 16) C ci12 iw_12 kM_0 rfl wm_25_3 rfl rfl (ci12.2.2.2.1 16 (by decide)) rfl rfl dX12_form_70 rfl ?_
    refine Go_S (fun S70_10 e_S70_10 => ?_)
    have hw := hw S70_10 e_S70_10
    have hR := rcM e_S70_10 hR
    refine Go_iconst (q := 74) (v := (0 : Int32)) C dX12_form_73 rfl rfl ?_
    refine Go_istore_n (q := 75) (lv' := [(1, .int (0 : Int32)), (0, .ref (Gad G (0)))]) C rfl dX12_form_74 (by decide) rfl rfl ?_
    refine Go_lvp [1, 0] rfl ?_
    exact g_X12_form_75 C hQ _ hR hw
-- X12_isPlace
abbrev rm_X12_isPlace : Room := { frames := 0, cells := 0, slots := 0, locals := 0 }
set_option maxRecDepth 100000 in
set_option maxHeartbeats 4000000 in
theorem c_X12_isPlace (l : Launch) {p0 : Int32} {S : St} {Q : Int32 → St → Prop} (hR : RCM S) (hw : w_X12_isPlace p0 S Q) : MetI l yX12_isPlace (wB yX12_isPlace cX12_isPlace 2 (some .boolean)) rm_X12_isPlace shM NM RCM (fun ad => [.ref (ad (0)), .int p0]) S Q := by
  refine MetI_of (cc := cX12_isPlace) (maxL := 2) (ret := (some .boolean)) (plainFor_of_name (by decide)) (fun _ => Nat.le_of_ble_eq_true rfl) (fun G C hl hQ => ?_)
  subst hl
  have C : Cx G cX12_isPlace BIG RX12 2 (some .boolean) rm_X12_isPlace shM NM := C
  show Go G 2 0 [] [(0, .ref (Gad G (0))), (1, .int p0)] S
  unfold w_X12_isPlace at hw
  refine Go_iload_n (q := 1) C 1 rfl dX12_isPlace_0 rfl ?_
  refine Go_if_lt (t := 16) (q := 4) C hw dX12_isPlace_1 rfl rfl (fun hw => ?_) (fun hw => ?_)
  · refine Go_iconst (q := 17) (v := (0 : Int32)) C dX12_isPlace_16 rfl rfl ?_
    exact Go_zret C hQ hR rfl hw dX12_isPlace_17
  · refine Go_iload_n (q := 5) C 1 rfl dX12_isPlace_4 rfl ?_
    refine Go_aload_n (q := 6) C 0 rfl dX12_isPlace_5 rfl ?_
    refine Go_getI (q := 9) (k := 10) C ci12 iw_12 kM_0 rfl wm_14_20 rfl dX12_isPlace_6 rfl ?_
    refine Go_icmp_ge (t := 16) (q := 12) C hw dX12_isPlace_9 rfl rfl (fun hw => ?_) (fun hw => ?_)
    · refine Go_iconst (q := 17) (v := (0 : Int32)) C dX12_isPlace_16 rfl rfl ?_
      exact Go_zret C hQ hR rfl hw dX12_isPlace_17
    · refine Go_iconst (q := 13) (v := (1 : Int32)) C dX12_isPlace_12 rfl rfl ?_
      refine Go_goto (q := 17) C dX12_isPlace_13 rfl ?_
      exact Go_zret C hQ hR rfl hw dX12_isPlace_17
-- X12_isWordAt
abbrev rm_X12_isWordAt : Room := { frames := 0, cells := 0, slots := 0, locals := 0 }
set_option maxRecDepth 100000 in
set_option maxHeartbeats 4000000 in
theorem c_X12_isWordAt (l : Launch) {p0 : Int32} {S : St} {Q : Int32 → St → Prop} (hR : RCM S) (hw : w_X12_isWordAt p0 S Q) : MetI l yX12_isWordAt (wB yX12_isWordAt cX12_isWordAt 2 (some .boolean)) rm_X12_isWordAt shM NM RCM (fun ad => [.ref (ad (0)), .int p0]) S Q := by
  refine MetI_of (cc := cX12_isWordAt) (maxL := 2) (ret := (some .boolean)) (plainFor_of_name (by decide)) (fun _ => Nat.le_of_ble_eq_true rfl) (fun G C hl hQ => ?_)
  subst hl
  have C : Cx G cX12_isWordAt BIG RX12 2 (some .boolean) rm_X12_isWordAt shM NM := C
  show Go G 2 0 [] [(0, .ref (Gad G (0))), (1, .int p0)] S
  unfold w_X12_isWordAt at hw
  refine Go_iload_n (q := 1) C 1 rfl dX12_isWordAt_0 rfl ?_
  refine Go_if_lt (t := 16) (q := 4) C hw dX12_isWordAt_1 rfl rfl (fun hw => ?_) (fun hw => ?_)
  · refine Go_iconst (q := 17) (v := (0 : Int32)) C dX12_isWordAt_16 rfl rfl ?_
    exact Go_zret C hQ hR rfl hw dX12_isWordAt_17
  · refine Go_iload_n (q := 5) C 1 rfl dX12_isWordAt_4 rfl ?_
    refine Go_aload_n (q := 6) C 0 rfl dX12_isWordAt_5 rfl ?_
    refine Go_getI (q := 9) (k := 15) C ci12 iw_12 kM_0 rfl wm_25_1 rfl dX12_isWordAt_6 rfl ?_
    refine Go_icmp_ge (t := 16) (q := 12) C hw dX12_isWordAt_9 rfl rfl (fun hw => ?_) (fun hw => ?_)
    · refine Go_iconst (q := 17) (v := (0 : Int32)) C dX12_isWordAt_16 rfl rfl ?_
      exact Go_zret C hQ hR rfl hw dX12_isWordAt_17
    · refine Go_iconst (q := 13) (v := (1 : Int32)) C dX12_isWordAt_12 rfl rfl ?_
      refine Go_goto (q := 17) C dX12_isWordAt_13 rfl ?_
      exact Go_zret C hQ hR rfl hw dX12_isWordAt_17
-- X12_goesTo
abbrev rm_X12_goesTo : Room := { frames := 0, cells := 0, slots := 0, locals := 0 }
set_option maxRecDepth 100000 in
set_option maxHeartbeats 4000000 in
theorem g_X12_goesTo_2 {G : GC} (C : Cx G cX12_goesTo BIG RX12 3 (some .int) rm_X12_goesTo shM NM) {Q : Int32 → St → Prop} (hQ : QI G RCM Q) (p0 : Int32) (v2 : Int32) {S : St} (hR : RCM S) (hw : w_X12_goesTo_2 p0 Q v2 S) : Go G 3 2 [] [(0, .ref (Gad G (0))), (1, .int p0), (2, .int v2)] S := by
  obtain ⟨n, hw⟩ := hw
  induction n generalizing v2 S with
  | zero => exact hw.elim
  | succ n ih =>
    have hw : b_X12_goesTo_2 p0 Q (lpn (fun _ _ => False) (b_X12_goesTo_2 p0 Q) n) v2 S := hw
    generalize lpn (fun _ _ => False) (b_X12_goesTo_2 p0 Q) n = kf at hw ih
    have hk2 := fun (v2 : Int32) (S : St) (hR : RCM S) hw => ih v2 hR hw
    unfold b_X12_goesTo_2 at hw
    refine Go_aload_n (q := 3) C 0 rfl dX12_goesTo_2 rfl ?_
    refine Go_getA (q := 6) (k := 17) C ci12 iw_12 kM_0 (rM_0_17 hR) rfl wm_12_21 rfl dX12_goesTo_3 rfl ?_
    refine Go_iload_n (q := 7) C 2 rfl dX12_goesTo_6 rfl ?_
    obtain ⟨hin, hw⟩ := hw
    refine Go_iaload (q := 8) C kM_2 hin dX12_goesTo_7 rfl ?_
    refine Go_iload_n (q := 9) C 1 rfl dX12_goesTo_8 rfl ?_
    refine Go_icmp_eq (t := 18) (q := 12) C hw dX12_goesTo_9 rfl rfl (fun hw => ?_) (fun hw => ?_)
    · refine Go_iload_n (q := 19) C 2 rfl dX12_goesTo_18 rfl ?_
      exact Go_iret C hQ hR hw dX12_goesTo_19
    · refine Go_iinc2 (q := 15) (kp := 2) (cst := (1 : Int32)) C dX12_goesTo_12 rfl rfl (by decide) rfl (fun x12_1 e_x12_1 => ?_)
      have hw := hw x12_1 e_x12_1
      refine Go_lve (lv' := [(2, .int x12_1), (0, .ref (Gad G (0))), (1, .int p0)]) rfl ?_
      refine Go_goto (q := 2) C dX12_goesTo_15 rfl ?_
      refine Go_lvp [1, 2, 0] rfl ?_
      exact hk2 _ _ hR hw
set_option maxRecDepth 100000 in
set_option maxHeartbeats 4000000 in
theorem c_X12_goesTo (l : Launch) {p0 : Int32} {S : St} {Q : Int32 → St → Prop} (hR : RCM S) (hw : w_X12_goesTo p0 S Q) : MetI l yX12_goesTo (wB yX12_goesTo cX12_goesTo 3 (some .int)) rm_X12_goesTo shM NM RCM (fun ad => [.ref (ad (0)), .int p0]) S Q := by
  refine MetI_of (cc := cX12_goesTo) (maxL := 3) (ret := (some .int)) (plainFor_of_name (by decide)) (fun _ => Nat.le_of_ble_eq_true rfl) (fun G C hl hQ => ?_)
  subst hl
  have C : Cx G cX12_goesTo BIG RX12 3 (some .int) rm_X12_goesTo shM NM := C
  show Go G 3 0 [] [(0, .ref (Gad G (0))), (1, .int p0)] S
  unfold w_X12_goesTo at hw
  refine Go_iconst (q := 1) (v := (0 : Int32)) C dX12_goesTo_0 rfl rfl ?_
  refine Go_istore_n (q := 2) (lv' := [(2, .int (0 : Int32)), (0, .ref (Gad G (0))), (1, .int p0)]) C rfl dX12_goesTo_1 (by decide) rfl rfl ?_
  refine Go_lvp [1, 2, 0] rfl ?_
  exact g_X12_goesTo_2 C hQ p0 _ hR hw
-- X12_cycleOf
abbrev rm_X12_cycleOf : Room := { frames := 0, cells := 0, slots := 0, locals := 0 }
set_option maxRecDepth 100000 in
set_option maxHeartbeats 4000000 in
theorem g_X12_cycleOf_9 {G : GC} (C : Cx G cX12_cycleOf BIG RX12 4 (some .int) rm_X12_cycleOf shM NM) {Q : Int32 → St → Prop} (hQ : QI G RCM Q) (p0 : Int32) (v2 : Int32) (v3 : Int32) {S : St} (hR : RCM S) (hw : w_X12_cycleOf_9 p0 Q v2 v3 S) : Go G 4 9 [] [(0, .ref (Gad G (0))), (1, .int p0), (2, .int v2), (3, .int v3)] S := by
  obtain ⟨n, hw⟩ := hw
  induction n generalizing v2 v3 S with
  | zero => exact hw.elim
  | succ n ih =>
    have hw : b_X12_cycleOf_9 p0 Q (lpn (fun _ _ _ => False) (b_X12_cycleOf_9 p0 Q) n) v2 v3 S := hw
    generalize lpn (fun _ _ _ => False) (b_X12_cycleOf_9 p0 Q) n = kf at hw ih
    have hk9 := fun (v2 : Int32) (v3 : Int32) (S : St) (hR : RCM S) hw => ih v2 v3 hR hw
    unfold b_X12_cycleOf_9 at hw
    refine Go_iload_n (q := 10) C 3 rfl dX12_cycleOf_9 rfl ?_
    refine Go_iload_n (q := 11) C 1 rfl dX12_cycleOf_10 rfl ?_
    refine Go_icmp_eq (t := 27) (q := 14) C hw dX12_cycleOf_11 rfl rfl (fun hw => ?_) (fun hw => ?_)
    · refine Go_iload_n (q := 28) C 2 rfl dX12_cycleOf_27 rfl ?_
      exact Go_iret C hQ hR hw dX12_cycleOf_28
    · refine Go_iinc2 (q := 17) (kp := 2) (cst := (1 : Int32)) C dX12_cycleOf_14 rfl rfl (by decide) rfl (fun x14_2 e_x14_2 => ?_)
      have hw := hw x14_2 e_x14_2
      refine Go_lve (lv' := [(2, .int x14_2), (0, .ref (Gad G (0))), (1, .int p0), (3, .int v3)]) rfl ?_
      refine Go_aload_n (q := 18) C 1 rfl dX12_cycleOf_17 rfl ?_
      refine Go_getA (q := 21) (k := 17) C ci12 iw_12 kM_0 (rM_0_17 hR) rfl wm_12_21 rfl dX12_cycleOf_18 rfl ?_
      refine Go_iload_n (q := 22) C 3 rfl dX12_cycleOf_21 rfl ?_
      obtain ⟨hin, hw⟩ := hw
      refine Go_iaload (q := 23) C kM_2 hin dX12_cycleOf_22 rfl ?_
      refine Go_topi (fun x23_3 e_x23_3 => ?_)
      have hw := hw x23_3 e_x23_3
      refine Go_istore_n (q := 24) (lv' := [(3, .int x23_3), (2, .int x14_2), (0, .ref (Gad G (0))), (1, .int p0)]) C rfl dX12_cycleOf_23 (by decide) rfl rfl ?_
      refine Go_goto (q := 9) C dX12_cycleOf_24 rfl ?_
      refine Go_lvp [2, 3, 1, 0] rfl ?_
      exact hk9 _ _ _ hR hw
set_option maxRecDepth 100000 in
set_option maxHeartbeats 4000000 in
theorem c_X12_cycleOf (l : Launch) {p0 : Int32} {S : St} {Q : Int32 → St → Prop} (hR : RCM S) (hw : w_X12_cycleOf p0 S Q) : MetI l yX12_cycleOf (wB yX12_cycleOf cX12_cycleOf 4 (some .int)) rm_X12_cycleOf shM NM RCM (fun ad => [.ref (ad (0)), .int p0]) S Q := by
  refine MetI_of (cc := cX12_cycleOf) (maxL := 4) (ret := (some .int)) (plainFor_of_name (by decide)) (fun _ => Nat.le_of_ble_eq_true rfl) (fun G C hl hQ => ?_)
  subst hl
  have C : Cx G cX12_cycleOf BIG RX12 4 (some .int) rm_X12_cycleOf shM NM := C
  show Go G 4 0 [] [(0, .ref (Gad G (0))), (1, .int p0)] S
  unfold w_X12_cycleOf at hw
  refine Go_iconst (q := 1) (v := (1 : Int32)) C dX12_cycleOf_0 rfl rfl ?_
  refine Go_istore_n (q := 2) (lv' := [(2, .int (1 : Int32)), (0, .ref (Gad G (0))), (1, .int p0)]) C rfl dX12_cycleOf_1 (by decide) rfl rfl ?_
  refine Go_aload_n (q := 3) C 1 rfl dX12_cycleOf_2 rfl ?_
  refine Go_getA (q := 6) (k := 17) C ci12 iw_12 kM_0 (rM_0_17 hR) rfl wm_12_21 rfl dX12_cycleOf_3 rfl ?_
  refine Go_iload_n (q := 7) C 2 rfl dX12_cycleOf_6 rfl ?_
  obtain ⟨hin, hw⟩ := hw
  refine Go_iaload (q := 8) C kM_2 hin dX12_cycleOf_7 rfl ?_
  refine Go_topi (fun x8_1 e_x8_1 => ?_)
  have hw := hw x8_1 e_x8_1
  refine Go_istore_n (q := 9) (lv' := [(3, .int x8_1), (2, .int (1 : Int32)), (0, .ref (Gad G (0))), (1, .int p0)]) C rfl dX12_cycleOf_8 (by decide) rfl rfl ?_
  refine Go_lvp [2, 3, 1, 0] rfl ?_
  exact g_X12_cycleOf_9 C hQ p0 _ _ hR hw
-- X12_turning
abbrev rm_X12_turning : Room := { frames := 1, cells := 0, slots := 0, locals := 23 }
set_option maxRecDepth 100000 in
set_option maxHeartbeats 4000000 in
theorem c_X12_turning (l : Launch) {p0 : Int32} {p1 : Int32} {S : St} {Q : Int32 → St → Prop} (hR : RCM S) (hw : w_X12_turning p0 p1 S Q) : MetI l yX12_turning (wB yX12_turning cX12_turning 3 (some .int)) rm_X12_turning shM NM RCM (fun ad => [.ref (ad (0)), .int p0, .int p1]) S Q := by
  refine MetI_of (cc := cX12_turning) (maxL := 3) (ret := (some .int)) (plainFor_of_name (by decide)) (fun _ => Nat.le_of_ble_eq_true rfl) (fun G C hl hQ => ?_)
  subst hl
  have C : Cx G cX12_turning BIG RX12 3 (some .int) rm_X12_turning shM NM := C
  show Go G 3 0 [] [(0, .ref (Gad G (0))), (1, .int p0), (2, .int p1)] S
  unfold w_X12_turning at hw
  refine Go_aload_n (q := 1) C 0 rfl dX12_turning_0 rfl ?_
  refine Go_iconst (q := 2) (v := (0 : Int32)) C dX12_turning_1 rfl rfl ?_
  refine Go_putI (q := 5) (k := 0) C ci12 iw_12 kM_0 rfl wm_15_14 rfl rfl (ci12.2.2.2.1 0 (by decide)) rfl rfl dX12_turning_2 rfl ?_
  refine Go_S (fun S2_1 e_S2_1 => ?_)
  have hw := hw S2_1 e_S2_1
  have hR := rcM e_S2_1 hR
  refine Go_aload_n (q := 6) C 0 rfl dX12_turning_5 rfl ?_
  refine Go_iload_n (q := 7) C 1 rfl dX12_turning_6 rfl ?_
  refine Go_callV_I (av := (fun ad => [.int p0])) (st := []) (C := C) (hM := c_X12_isPlace (Gl G)  hR hw) (hlk := wm_31_22) (hini := wm_1_5) (hins := wm_31_23) (hsel := wm_32_0) (hcode := wm_32_1) (ho := kM_0) (hci := rfl) (hc13 := by decide) (n := 1) (hd := by decide +kernel) (hr0 := ⟨rfl, rfl⟩) (hroom := ⟨by first | decide | (dsimp only; omega), by first | decide | (dsimp only; omega)⟩) (hlen := rfl) (hst := rfl) (hW := Nat.le_of_ble_eq_true rfl) (hdg := dX12_turning_7) (q := 10) (hq := rfl) (fun r7_3 S7_2 hw hR => ?_)
  refine Go_if_eq (t := 22) (q := 13) C hw dX12_turning_10 rfl rfl (fun hw => ?_) (fun hw => ?_)
  · refine Go_iconst (q := 23) (v := (-1 : Int32)) C dX12_turning_22 rfl rfl ?_
    refine Go_goto (q := 57) C dX12_turning_23 rfl ?_
    exact Go_iret C hQ hR hw dX12_turning_57
  · refine Go_iload_n (q := 14) C 2 rfl dX12_turning_13 rfl ?_
    refine Go_iconst (q := 15) (v := (0 : Int32)) C dX12_turning_14 rfl rfl ?_
    refine Go_iconst (q := 16) (v := (2 : Int32)) C dX12_turning_15 rfl rfl ?_
    refine Go_callS_I (av := (fun ad => [.int p1, .int (0 : Int32), .int (2 : Int32)])) (st := []) (C := C) (hM := c_X12_within (Gl G)  hR hw) (hlk := wm_27_1) (hini := wm_1_5) (hst2 := wm_27_2) (hcode := wm_27_3) (n := 3) (hd := by decide +kernel) (hr0 := ⟨rfl, rfl⟩) (hroom := ⟨by first | decide | (dsimp only; omega), by first | decide | (dsimp only; omega)⟩) (hlen := rfl) (hst := rfl) (hW := Nat.le_of_ble_eq_true rfl) (hdg := dX12_turning_16) (q := 19) (hq := rfl) (fun r16_5 S16_4 hw hR => ?_)
    refine Go_if_ne (t := 26) (q := 22) C hw dX12_turning_19 rfl rfl (fun hw => ?_) (fun hw => ?_)
    · refine Go_iconst (q := 23) (v := (-1 : Int32)) C dX12_turning_22 rfl rfl ?_
      refine Go_goto (q := 57) C dX12_turning_23 rfl ?_
      exact Go_iret C hQ hR hw dX12_turning_57
    · refine Go_iload_n (q := 27) C 2 rfl dX12_turning_26 rfl ?_
      refine Go_if_ne (t := 38) (q := 30) C hw dX12_turning_27 rfl rfl (fun hw => ?_) (fun hw => ?_)
      · refine Go_aload_n (q := 31) C 0 rfl dX12_turning_30 rfl ?_
        refine Go_iload_n (q := 32) C 1 rfl dX12_turning_31 rfl ?_
        refine Go_callV_I (av := (fun ad => [.int p0])) (st := []) (C := C) (hM := c_X12_goesTo (Gl G)  hR hw) (hlk := wm_32_2) (hini := wm_1_5) (hins := wm_32_3) (hsel := wm_32_4) (hcode := wm_32_5) (ho := kM_0) (hci := rfl) (hc13 := by decide) (n := 1) (hd := by decide +kernel) (hr0 := ⟨rfl, rfl⟩) (hroom := ⟨by first | decide | (dsimp only; omega), by first | decide | (dsimp only; omega)⟩) (hlen := rfl) (hst := rfl) (hW := Nat.le_of_ble_eq_true rfl) (hdg := dX12_turning_32) (q := 35) (hq := rfl) (fun r32_7 S32_6 hw hR => ?_)
        refine Go_goto (q := 57) C dX12_turning_35 rfl ?_
        exact Go_iret C hQ hR hw dX12_turning_57
      · refine Go_iload_n (q := 39) C 2 rfl dX12_turning_38 rfl ?_
        refine Go_iconst (q := 40) (v := (1 : Int32)) C dX12_turning_39 rfl rfl ?_
        refine Go_icmp_ne (t := 52) (q := 43) C hw dX12_turning_40 rfl rfl (fun hw => ?_) (fun hw => ?_)
        · refine Go_aload_n (q := 44) C 0 rfl dX12_turning_43 rfl ?_
          refine Go_getA (q := 47) (k := 17) C ci12 iw_12 kM_0 (rM_0_17 hR) rfl wm_12_21 rfl dX12_turning_44 rfl ?_
          refine Go_iload_n (q := 48) C 1 rfl dX12_turning_47 rfl ?_
          obtain ⟨hin, hw⟩ := hw
          refine Go_iaload (q := 49) C kM_2 hin dX12_turning_48 rfl ?_
          refine Go_goto (q := 57) C dX12_turning_49 rfl ?_
          exact Go_iret C hQ hR hw dX12_turning_57
        · refine Go_aload_n (q := 53) C 0 rfl dX12_turning_52 rfl ?_
          refine Go_iload_n (q := 54) C 1 rfl dX12_turning_53 rfl ?_
          refine Go_callV_I (av := (fun ad => [.int p0])) (st := []) (C := C) (hM := c_X12_cycleOf (Gl G)  hR hw) (hlk := wm_32_6) (hini := wm_1_5) (hins := wm_32_7) (hsel := wm_32_8) (hcode := wm_32_9) (ho := kM_0) (hci := rfl) (hc13 := by decide) (n := 1) (hd := by decide +kernel) (hr0 := ⟨rfl, rfl⟩) (hroom := ⟨by first | decide | (dsimp only; omega), by first | decide | (dsimp only; omega)⟩) (hlen := rfl) (hst := rfl) (hW := Nat.le_of_ble_eq_true rfl) (hdg := dX12_turning_54) (q := 57) (hq := rfl) (fun r54_9 S54_8 hw hR => ?_)
          exact Go_iret C hQ hR hw dX12_turning_57
-- X12_isStanza
abbrev rm_X12_isStanza : Room := { frames := 0, cells := 0, slots := 0, locals := 0 }
set_option maxRecDepth 100000 in
set_option maxHeartbeats 4000000 in
theorem c_X12_isStanza (l : Launch) {p0 : Int64} {S : St} {Q : Int32 → St → Prop} (hR : RCM S) (hw : w_X12_isStanza p0 S Q) : MetI l yX12_isStanza (wB yX12_isStanza cX12_isStanza 2 (some .boolean)) rm_X12_isStanza shM NM RCM (fun ad => [.long p0]) S Q := by
  refine MetI_of (cc := cX12_isStanza) (maxL := 2) (ret := (some .boolean)) (plainFor_of_name (by decide)) (fun _ => Nat.le_of_ble_eq_true rfl) (fun G C hl hQ => ?_)
  subst hl
  have C : Cx G cX12_isStanza BIG RX12 2 (some .boolean) rm_X12_isStanza shM NM := C
  show Go G 2 0 [] [(0, .long p0)] S
  unfold w_X12_isStanza at hw
  refine Go_lload_n (q := 1) C 0 rfl dX12_isStanza_0 rfl ?_
  refine Go_lconst (q := 2) (v := (0 : Int64)) C dX12_isStanza_1 rfl rfl ?_
  refine Go_lcmp_lt (t := 18) (q := 3) (q2 := 6) C hw dX12_isStanza_2 rfl dX12_isStanza_3 rfl rfl (fun hw => ?_) (fun hw => ?_)
  · refine Go_iconst (q := 19) (v := (0 : Int32)) C dX12_isStanza_18 rfl rfl ?_
    exact Go_zret C hQ hR rfl hw dX12_isStanza_19
  · refine Go_lload_n (q := 7) C 0 rfl dX12_isStanza_6 rfl ?_
    refine Go_ldc2 (q := 10) (v := (1000000000000000 : Int64)) C wm_33_9 dX12_isStanza_7 rfl ?_
    refine Go_lcmp_gt (t := 18) (q := 11) (q2 := 14) C hw dX12_isStanza_10 rfl dX12_isStanza_11 rfl rfl (fun hw => ?_) (fun hw => ?_)
    · refine Go_iconst (q := 19) (v := (0 : Int32)) C dX12_isStanza_18 rfl rfl ?_
      exact Go_zret C hQ hR rfl hw dX12_isStanza_19
    · refine Go_iconst (q := 15) (v := (1 : Int32)) C dX12_isStanza_14 rfl rfl ?_
      refine Go_goto (q := 19) C dX12_isStanza_15 rfl ?_
      exact Go_zret C hQ hR rfl hw dX12_isStanza_19
-- X12_endAt
abbrev rm_X12_endAt : Room := { frames := 1, cells := 0, slots := 0, locals := 23 }
set_option maxRecDepth 100000 in
set_option maxHeartbeats 4000000 in
theorem g_X12_endAt_14 {G : GC} (C : Cx G cX12_endAt BIG RX12 6 (some .int) rm_X12_endAt shM NM) {Q : Int32 → St → Prop} (hQ : QI G RCM Q) (v4 : Int32) (v5 : Int32) {S : St} (hR : RCM S) (hw : w_X12_endAt_14 Q v4 v5 S) : Go G 6 14 [] [(0, .ref (Gad G (0))), (4, .int v4), (5, .int v5)] S := by
  obtain ⟨n, hw⟩ := hw
  induction n generalizing v4 v5 S with
  | zero => exact hw.elim
  | succ n ih =>
    have hw : b_X12_endAt_14 Q (lpn (fun _ _ _ => False) (b_X12_endAt_14 Q) n) v4 v5 S := hw
    generalize lpn (fun _ _ _ => False) (b_X12_endAt_14 Q) n = kf at hw ih
    have hk14 := fun (v4 : Int32) (v5 : Int32) (S : St) (hR : RCM S) hw => ih v4 v5 hR hw
    unfold b_X12_endAt_14 at hw
    refine Go_iload (q := 16) C 2 rfl dX12_endAt_14 rfl ?_
    refine Go_if_le (t := 34) (q := 19) C hw dX12_endAt_16 rfl rfl (fun hw => ?_) (fun hw => ?_)
    · refine Go_iload (q := 36) C 1 rfl dX12_endAt_34 rfl ?_
      exact Go_iret C hQ hR hw dX12_endAt_36
    · refine Go_aload_n (q := 20) C 0 rfl dX12_endAt_19 rfl ?_
      refine Go_getA (q := 23) (k := 17) C ci12 iw_12 kM_0 (rM_0_17 hR) rfl wm_12_21 rfl dX12_endAt_20 rfl ?_
      refine Go_iload (q := 25) C 1 rfl dX12_endAt_23 rfl ?_
      obtain ⟨hin, hw⟩ := hw
      refine Go_iaload (q := 26) C kM_2 hin dX12_endAt_25 rfl ?_
      refine Go_topi (fun x26_4 e_x26_4 => ?_)
      have hw := hw x26_4 e_x26_4
      refine Go_istore (q := 28) (lv' := [(4, .int x26_4), (0, .ref (Gad G (0))), (5, .int v5)]) C dX12_endAt_26 (by decide) rfl rfl ?_
      refine Go_iinc2 (q := 31) (kp := 2) (cst := (-1 : Int32)) C dX12_endAt_28 rfl rfl (by decide) rfl (fun x28_5 e_x28_5 => ?_)
      have hw := hw x28_5 e_x28_5
      refine Go_lve (lv' := [(5, .int x28_5), (4, .int x26_4), (0, .ref (Gad G (0)))]) rfl ?_
      refine Go_goto (q := 14) C dX12_endAt_31 rfl ?_
      refine Go_lvp [2, 1, 0] rfl ?_
      exact hk14 _ _ _ hR hw
set_option maxRecDepth 100000 in
set_option maxHeartbeats 4000000 in
theorem c_X12_endAt (l : Launch) {p0 : Int64} {p1 : Int32} {S : St} {Q : Int32 → St → Prop} (hR : RCM S) (hw : w_X12_endAt p0 p1 S Q) : MetI l yX12_endAt (wB yX12_endAt cX12_endAt 6 (some .int)) rm_X12_endAt shM NM RCM (fun ad => [.ref (ad (0)), .long p0, .int p1]) S Q := by
  refine MetI_of (cc := cX12_endAt) (maxL := 6) (ret := (some .int)) (plainFor_of_name (by decide)) (fun _ => Nat.le_of_ble_eq_true rfl) (fun G C hl hQ => ?_)
  subst hl
  have C : Cx G cX12_endAt BIG RX12 6 (some .int) rm_X12_endAt shM NM := C
  show Go G 6 0 [] [(0, .ref (Gad G (0))), (1, .long p0), (3, .int p1)] S
  unfold w_X12_endAt at hw
  refine Go_iload_n (q := 1) C 2 rfl dX12_endAt_0 rfl ?_
  refine Go_istore (q := 3) (lv' := [(4, .int p1), (0, .ref (Gad G (0))), (1, .long p0), (3, .int p1)]) C dX12_endAt_1 (by decide) rfl rfl ?_
  refine Go_lload_n (q := 4) C 2 rfl dX12_endAt_3 rfl ?_
  refine Go_aload_n (q := 5) C 1 rfl dX12_endAt_4 rfl ?_
  refine Go_iload_n (q := 6) C 3 rfl dX12_endAt_5 rfl ?_
  refine Go_callV_I (av := (fun ad => [.int p1])) (st := [.long p0]) (C := C) (hM := c_X12_cycleOf (Gl G)  hR hw) (hlk := wm_32_6) (hini := wm_1_5) (hins := wm_32_7) (hsel := wm_32_8) (hcode := wm_32_9) (ho := kM_0) (hci := rfl) (hc13 := by decide) (n := 1) (hd := by decide +kernel) (hr0 := ⟨rfl, rfl⟩) (hroom := ⟨by first | decide | (dsimp only; omega), by first | decide | (dsimp only; omega)⟩) (hlen := rfl) (hst := rfl) (hW := Nat.le_of_ble_eq_true rfl) (hdg := dX12_endAt_6) (q := 9) (hq := rfl) (fun r6_2 S6_1 hw hR => ?_)
  refine Go_i2l (q := 10) C dX12_endAt_9 rfl ?_
  obtain ⟨hne, hw⟩ := hw
  refine Go_lrem (q := 11) C hne dX12_endAt_10 rfl ?_
  refine Go_l2i (q := 12) C dX12_endAt_11 rfl ?_
  refine Go_topi (fun x12_3 e_x12_3 => ?_)
  have hw := hw x12_3 e_x12_3
  refine Go_istore (q := 14) (lv' := [(5, .int x12_3), (4, .int p1), (0, .ref (Gad G (0))), (1, .long p0), (3, .int p1)]) C dX12_endAt_12 (by decide) rfl rfl ?_
  refine Go_lvp [2, 1, 0] rfl ?_
  exact g_X12_endAt_14 C hQ _ _ hR hw
-- X12_whereIs
abbrev rm_X12_whereIs : Room := { frames := 2, cells := 0, slots := 0, locals := 48 }
set_option maxRecDepth 100000 in
set_option maxHeartbeats 4000000 in
theorem g_X12_whereIs_3 {G : GC} (C : Cx G cX12_whereIs BIG RX12 5 (some .int) rm_X12_whereIs shM NM) {Q : Int32 → St → Prop} (hQ : QI G RCM Q) (p0 : Int64) (p1 : Int32) (v4 : Int32) {S : St} (hR : RCM S) (hw : w_X12_whereIs_3 p0 p1 Q v4 S) : Go G 5 3 [] [(0, .ref (Gad G (0))), (1, .long p0), (3, .int p1), (4, .int v4)] S := by
  obtain ⟨n, hw⟩ := hw
  induction n generalizing v4 S with
  | zero => exact hw.elim
  | succ n ih =>
    have hw : b_X12_whereIs_3 p0 p1 Q (lpn (fun _ _ => False) (b_X12_whereIs_3 p0 p1 Q) n) v4 S := hw
    generalize lpn (fun _ _ => False) (b_X12_whereIs_3 p0 p1 Q) n = kf at hw ih
    have hk3 := fun (v4 : Int32) (S : St) (hR : RCM S) hw => ih v4 hR hw
    unfold b_X12_whereIs_3 at hw
    refine Go_aload_n (q := 4) C 0 rfl dX12_whereIs_3 rfl ?_
    refine Go_lload_n (q := 5) C 1 rfl dX12_whereIs_4 rfl ?_
    refine Go_iload (q := 7) C 3 rfl dX12_whereIs_5 rfl ?_
    refine Go_callV_I (av := (fun ad => [.long p0, .int v4])) (st := []) (C := C) (hM := c_X12_endAt (Gl G) hR hw) (hlk := wm_33_10) (hini := wm_1_5) (hins := wm_33_11) (hsel := wm_33_12) (hcode := wm_33_13) (ho := kM_0) (hci := rfl) (hc13 := by decide) (n := 2) (hd := by decide +kernel) (hr0 := ⟨rfl, rfl⟩) (hroom := ⟨by first | decide | (dsimp only; omega), by first | decide | (dsimp only; omega)⟩) (hlen := rfl) (hst := rfl) (hW := Nat.le_of_ble_eq_true rfl) (hdg := dX12_whereIs_7) (q := 10) (hq := rfl) (fun r7_2 S7_1 hw hR => ?_)
    refine Go_iload_n (q := 11) C 2 rfl dX12_whereIs_10 rfl ?_
    refine Go_icmp_eq (t := 20) (q := 14) C hw dX12_whereIs_11 rfl rfl (fun hw => ?_) (fun hw => ?_)
    · refine Go_iload (q := 22) C 3 rfl dX12_whereIs_20 rfl ?_
      exact Go_iret C hQ hR hw dX12_whereIs_22
    · refine Go_iinc2 (q := 17) (kp := 3) (cst := (1 : Int32)) C dX12_whereIs_14 rfl rfl (by decide) rfl (fun x14_3 e_x14_3 => ?_)
      have hw := hw x14_3 e_x14_3
      refine Go_lve (lv' := [(4, .int x14_3), (0, .ref (Gad G (0))), (1, .long p0), (3, .int p1)]) rfl ?_
      refine Go_goto (q := 3) C dX12_whereIs_17 rfl ?_
      refine Go_lvp [1, 2, 3, 0] rfl ?_
      exact hk3 _ _ hR hw
set_option maxRecDepth 100000 in
set_option maxHeartbeats 4000000 in
theorem c_X12_whereIs (l : Launch) {p0 : Int64} {p1 : Int32} {S : St} {Q : Int32 → St → Prop} (hR : RCM S) (hw : w_X12_whereIs p0 p1 S Q) : MetI l yX12_whereIs (wB yX12_whereIs cX12_whereIs 5 (some .int)) rm_X12_whereIs shM NM RCM (fun ad => [.ref (ad (0)), .long p0, .int p1]) S Q := by
  refine MetI_of (cc := cX12_whereIs) (maxL := 5) (ret := (some .int)) (plainFor_of_name (by decide)) (fun _ => Nat.le_of_ble_eq_true rfl) (fun G C hl hQ => ?_)
  subst hl
  have C : Cx G cX12_whereIs BIG RX12 5 (some .int) rm_X12_whereIs shM NM := C
  show Go G 5 0 [] [(0, .ref (Gad G (0))), (1, .long p0), (3, .int p1)] S
  unfold w_X12_whereIs at hw
  refine Go_iconst (q := 1) (v := (0 : Int32)) C dX12_whereIs_0 rfl rfl ?_
  refine Go_istore (q := 3) (lv' := [(4, .int (0 : Int32)), (0, .ref (Gad G (0))), (1, .long p0), (3, .int p1)]) C dX12_whereIs_1 (by decide) rfl rfl ?_
  refine Go_lvp [1, 2, 3, 0] rfl ?_
  exact g_X12_whereIs_3 C hQ p0 p1 _ hR hw
-- X12_end
abbrev rm_X12_end : Room := { frames := 2, cells := 0, slots := 0, locals := 48 }
set_option maxRecDepth 100000 in
set_option maxHeartbeats 4000000 in
theorem c_X12_end (l : Launch) {p0 : Int64} {p1 : Int32} {S : St} {Q : Int32 → St → Prop} (hR : RCM S) (hw : w_X12_end p0 p1 S Q) : MetI l yX12_end (wB yX12_end cX12_end 4 (some .int)) rm_X12_end shM NM RCM (fun ad => [.ref (ad (0)), .long p0, .int p1]) S Q := by
  refine MetI_of (cc := cX12_end) (maxL := 4) (ret := (some .int)) (plainFor_of_name (by decide)) (fun _ => Nat.le_of_ble_eq_true rfl) (fun G C hl hQ => ?_)
  subst hl
  have C : Cx G cX12_end BIG RX12 4 (some .int) rm_X12_end shM NM := C
  show Go G 4 0 [] [(0, .ref (Gad G (0))), (1, .long p0), (3, .int p1)] S
  unfold w_X12_end at hw
  refine Go_aload_n (q := 1) C 0 rfl dX12_end_0 rfl ?_
  refine Go_iconst (q := 2) (v := (0 : Int32)) C dX12_end_1 rfl rfl ?_
  refine Go_putI (q := 5) (k := 0) C ci12 iw_12 kM_0 rfl wm_15_14 rfl rfl (ci12.2.2.2.1 0 (by decide)) rfl rfl dX12_end_2 rfl ?_
  refine Go_S (fun S2_1 e_S2_1 => ?_)
  have hw := hw S2_1 e_S2_1
  have hR := rcM e_S2_1 hR
  refine Go_lload_n (q := 6) C 1 rfl dX12_end_5 rfl ?_
  refine Go_callS_I (av := (fun ad => [.long p0])) (st := []) (C := C) (hM := c_X12_isStanza (Gl G)  hR hw) (hlk := wm_33_6) (hini := wm_1_5) (hst2 := wm_33_7) (hcode := wm_33_8) (n := 1) (hd := by decide +kernel) (hr0 := ⟨rfl, rfl⟩) (hroom := ⟨by first | decide | (dsimp only; omega), by first | decide | (dsimp only; omega)⟩) (hlen := rfl) (hst := rfl) (hW := Nat.le_of_ble_eq_true rfl) (hdg := dX12_end_6) (q := 9) (hq := rfl) (fun r6_3 S6_2 hw hR => ?_)
  refine Go_if_eq (t := 29) (q := 12) C hw dX12_end_9 rfl rfl (fun hw => ?_) (fun hw => ?_)
  · refine Go_iconst (q := 30) (v := (-1 : Int32)) C dX12_end_29 rfl rfl ?_
    exact Go_iret C hQ hR hw dX12_end_30
  · refine Go_aload_n (q := 13) C 0 rfl dX12_end_12 rfl ?_
    refine Go_iload_n (q := 14) C 2 rfl dX12_end_13 rfl ?_
    refine Go_callV_I (av := (fun ad => [.int p1])) (st := []) (C := C) (hM := c_X12_isPlace (Gl G)  hR hw) (hlk := wm_31_22) (hini := wm_1_5) (hins := wm_31_23) (hsel := wm_32_0) (hcode := wm_32_1) (ho := kM_0) (hci := rfl) (hc13 := by decide) (n := 1) (hd := by decide +kernel) (hr0 := ⟨rfl, rfl⟩) (hroom := ⟨by first | decide | (dsimp only; omega), by first | decide | (dsimp only; omega)⟩) (hlen := rfl) (hst := rfl) (hW := Nat.le_of_ble_eq_true rfl) (hdg := dX12_end_14) (q := 17) (hq := rfl) (fun r14_5 S14_4 hw hR => ?_)
    refine Go_if_eq (t := 29) (q := 20) C hw dX12_end_17 rfl rfl (fun hw => ?_) (fun hw => ?_)
    · refine Go_iconst (q := 30) (v := (-1 : Int32)) C dX12_end_29 rfl rfl ?_
      exact Go_iret C hQ hR hw dX12_end_30
    · refine Go_aload_n (q := 21) C 0 rfl dX12_end_20 rfl ?_
      refine Go_lload_n (q := 22) C 1 rfl dX12_end_21 rfl ?_
      refine Go_iload_n (q := 23) C 2 rfl dX12_end_22 rfl ?_
      refine Go_callV_I (av := (fun ad => [.long p0, .int p1])) (st := []) (C := C) (hM := c_X12_endAt (Gl G)  hR hw) (hlk := wm_33_10) (hini := wm_1_5) (hins := wm_33_11) (hsel := wm_33_12) (hcode := wm_33_13) (ho := kM_0) (hci := rfl) (hc13 := by decide) (n := 2) (hd := by decide +kernel) (hr0 := ⟨rfl, rfl⟩) (hroom := ⟨by first | decide | (dsimp only; omega), by first | decide | (dsimp only; omega)⟩) (hlen := rfl) (hst := rfl) (hW := Nat.le_of_ble_eq_true rfl) (hdg := dX12_end_23) (q := 26) (hq := rfl) (fun r23_7 S23_6 hw hR => ?_)
      refine Go_goto (q := 30) C dX12_end_26 rfl ?_
      exact Go_iret C hQ hR hw dX12_end_30
-- X12_where
abbrev rm_X12_where : Room := { frames := 3, cells := 0, slots := 0, locals := 72 }
set_option maxRecDepth 100000 in
set_option maxHeartbeats 4000000 in
theorem c_X12_where (l : Launch) {p0 : Int64} {p1 : Int32} {S : St} {Q : Int32 → St → Prop} (hR : RCM S) (hw : w_X12_where p0 p1 S Q) : MetI l yX12_where (wB yX12_where cX12_where 4 (some .int)) rm_X12_where shM NM RCM (fun ad => [.ref (ad (0)), .long p0, .int p1]) S Q := by
  refine MetI_of (cc := cX12_where) (maxL := 4) (ret := (some .int)) (plainFor_of_name (by decide)) (fun _ => Nat.le_of_ble_eq_true rfl) (fun G C hl hQ => ?_)
  subst hl
  have C : Cx G cX12_where BIG RX12 4 (some .int) rm_X12_where shM NM := C
  show Go G 4 0 [] [(0, .ref (Gad G (0))), (1, .long p0), (3, .int p1)] S
  unfold w_X12_where at hw
  refine Go_aload_n (q := 1) C 0 rfl dX12_where_0 rfl ?_
  refine Go_iconst (q := 2) (v := (0 : Int32)) C dX12_where_1 rfl rfl ?_
  refine Go_putI (q := 5) (k := 0) C ci12 iw_12 kM_0 rfl wm_15_14 rfl rfl (ci12.2.2.2.1 0 (by decide)) rfl rfl dX12_where_2 rfl ?_
  refine Go_S (fun S2_1 e_S2_1 => ?_)
  have hw := hw S2_1 e_S2_1
  have hR := rcM e_S2_1 hR
  refine Go_lload_n (q := 6) C 1 rfl dX12_where_5 rfl ?_
  refine Go_callS_I (av := (fun ad => [.long p0])) (st := []) (C := C) (hM := c_X12_isStanza (Gl G)  hR hw) (hlk := wm_33_6) (hini := wm_1_5) (hst2 := wm_33_7) (hcode := wm_33_8) (n := 1) (hd := by decide +kernel) (hr0 := ⟨rfl, rfl⟩) (hroom := ⟨by first | decide | (dsimp only; omega), by first | decide | (dsimp only; omega)⟩) (hlen := rfl) (hst := rfl) (hW := Nat.le_of_ble_eq_true rfl) (hdg := dX12_where_6) (q := 9) (hq := rfl) (fun r6_3 S6_2 hw hR => ?_)
  refine Go_if_eq (t := 29) (q := 12) C hw dX12_where_9 rfl rfl (fun hw => ?_) (fun hw => ?_)
  · refine Go_iconst (q := 30) (v := (-1 : Int32)) C dX12_where_29 rfl rfl ?_
    exact Go_iret C hQ hR hw dX12_where_30
  · refine Go_aload_n (q := 13) C 0 rfl dX12_where_12 rfl ?_
    refine Go_iload_n (q := 14) C 2 rfl dX12_where_13 rfl ?_
    refine Go_callV_I (av := (fun ad => [.int p1])) (st := []) (C := C) (hM := c_X12_isPlace (Gl G)  hR hw) (hlk := wm_31_22) (hini := wm_1_5) (hins := wm_31_23) (hsel := wm_32_0) (hcode := wm_32_1) (ho := kM_0) (hci := rfl) (hc13 := by decide) (n := 1) (hd := by decide +kernel) (hr0 := ⟨rfl, rfl⟩) (hroom := ⟨by first | decide | (dsimp only; omega), by first | decide | (dsimp only; omega)⟩) (hlen := rfl) (hst := rfl) (hW := Nat.le_of_ble_eq_true rfl) (hdg := dX12_where_14) (q := 17) (hq := rfl) (fun r14_5 S14_4 hw hR => ?_)
    refine Go_if_eq (t := 29) (q := 20) C hw dX12_where_17 rfl rfl (fun hw => ?_) (fun hw => ?_)
    · refine Go_iconst (q := 30) (v := (-1 : Int32)) C dX12_where_29 rfl rfl ?_
      exact Go_iret C hQ hR hw dX12_where_30
    · refine Go_aload_n (q := 21) C 0 rfl dX12_where_20 rfl ?_
      refine Go_lload_n (q := 22) C 1 rfl dX12_where_21 rfl ?_
      refine Go_iload_n (q := 23) C 2 rfl dX12_where_22 rfl ?_
      refine Go_callV_I (av := (fun ad => [.long p0, .int p1])) (st := []) (C := C) (hM := c_X12_whereIs (Gl G)  hR hw) (hlk := wm_34_2) (hini := wm_1_5) (hins := wm_34_3) (hsel := wm_34_4) (hcode := wm_34_5) (ho := kM_0) (hci := rfl) (hc13 := by decide) (n := 2) (hd := by decide +kernel) (hr0 := ⟨rfl, rfl⟩) (hroom := ⟨by first | decide | (dsimp only; omega), by first | decide | (dsimp only; omega)⟩) (hlen := rfl) (hst := rfl) (hW := Nat.le_of_ble_eq_true rfl) (hdg := dX12_where_23) (q := 26) (hq := rfl) (fun r23_7 S23_6 hw hR => ?_)
      refine Go_goto (q := 30) C dX12_where_26 rfl ?_
      exact Go_iret C hQ hR hw dX12_where_30
-- X12_meets
abbrev rm_X12_meets : Room := { frames := 2, cells := 0, slots := 0, locals := 48 }
set_option maxRecDepth 100000 in
set_option maxHeartbeats 4000000 in
theorem g_X12_meets_25 {G : GC} (C : Cx G cX12_meets BIG RX12 4 (some .int) rm_X12_meets shM NM) {Q : Int32 → St → Prop} (hQ : QI G RCM Q) (p0 : Int32) (p1 : Int32) (v3 : Int32) {S : St} (hR : RCM S) (hw : w_X12_meets_25 p0 p1 Q v3 S) : Go G 4 25 [] [(0, .ref (Gad G (0))), (1, .int p0), (2, .int p1), (3, .int v3)] S := by
  obtain ⟨n, hw⟩ := hw
  induction n generalizing v3 S with
  | zero => exact hw.elim
  | succ n ih =>
    have hw : b_X12_meets_25 p0 p1 Q (lpn (fun _ _ => False) (b_X12_meets_25 p0 p1 Q) n) v3 S := hw
    generalize lpn (fun _ _ => False) (b_X12_meets_25 p0 p1 Q) n = kf at hw ih
    have hk25 := fun (v3 : Int32) (S : St) (hR : RCM S) hw => ih v3 hR hw
    unfold b_X12_meets_25 at hw
    refine Go_iload_n (q := 26) C 3 rfl dX12_meets_25 rfl ?_
    refine Go_aload_n (q := 27) C 0 rfl dX12_meets_26 rfl ?_
    refine Go_iload_n (q := 28) C 2 rfl dX12_meets_27 rfl ?_
    refine Go_callV_I (av := (fun ad => [.int p1])) (st := [.int v3]) (C := C) (hM := c_X12_cycleOf (Gl G) hR hw) (hlk := wm_32_6) (hini := wm_1_5) (hins := wm_32_7) (hsel := wm_32_8) (hcode := wm_32_9) (ho := kM_0) (hci := rfl) (hc13 := by decide) (n := 1) (hd := by decide +kernel) (hr0 := ⟨rfl, rfl⟩) (hroom := ⟨by first | decide | (dsimp only; omega), by first | decide | (dsimp only; omega)⟩) (hlen := rfl) (hst := rfl) (hW := Nat.le_of_ble_eq_true rfl) (hdg := dX12_meets_28) (q := 31) (hq := rfl) (fun r28_7 S28_6 hw hR => ?_)
    refine Go_icmp_ge (t := 53) (q := 34) C hw dX12_meets_31 rfl rfl (fun hw => ?_) (fun hw => ?_)
    · refine Go_iconst (q := 54) (v := (-1 : Int32)) C dX12_meets_53 rfl rfl ?_
      exact Go_iret C hQ hR hw dX12_meets_54
    · refine Go_aload_n (q := 35) C 0 rfl dX12_meets_34 rfl ?_
      refine Go_iload_n (q := 36) C 3 rfl dX12_meets_35 rfl ?_
      refine Go_i2l (q := 37) C dX12_meets_36 rfl ?_
      refine Go_iload_n (q := 38) C 2 rfl dX12_meets_37 rfl ?_
      refine Go_callV_I (av := (fun ad => [.long ((v3).toInt64), .int p1])) (st := []) (C := C) (hM := c_X12_endAt (Gl G) hR hw) (hlk := wm_33_10) (hini := wm_1_5) (hins := wm_33_11) (hsel := wm_33_12) (hcode := wm_33_13) (ho := kM_0) (hci := rfl) (hc13 := by decide) (n := 2) (hd := by decide +kernel) (hr0 := ⟨rfl, rfl⟩) (hroom := ⟨by first | decide | (dsimp only; omega), by first | decide | (dsimp only; omega)⟩) (hlen := rfl) (hst := rfl) (hW := Nat.le_of_ble_eq_true rfl) (hdg := dX12_meets_38) (q := 41) (hq := rfl) (fun r38_9 S38_8 hw hR => ?_)
      refine Go_iload_n (q := 42) C 1 rfl dX12_meets_41 rfl ?_
      refine Go_icmp_ne (t := 47) (q := 45) C hw dX12_meets_42 rfl rfl (fun hw => ?_) (fun hw => ?_)
      · refine Go_iload_n (q := 46) C 3 rfl dX12_meets_45 rfl ?_
        exact Go_iret C hQ hR hw dX12_meets_46
      · refine Go_iinc2 (q := 50) (kp := 3) (cst := (1 : Int32)) C dX12_meets_47 rfl rfl (by decide) rfl (fun x47_10 e_x47_10 => ?_)
        have hw := hw x47_10 e_x47_10
        refine Go_lve (lv' := [(3, .int x47_10), (0, .ref (Gad G (0))), (1, .int p0), (2, .int p1)]) rfl ?_
        refine Go_goto (q := 25) C dX12_meets_50 rfl ?_
        refine Go_lvp [1, 2, 3, 0] rfl ?_
        exact hk25 _ _ hR hw
set_option maxRecDepth 100000 in
set_option maxHeartbeats 4000000 in
theorem c_X12_meets (l : Launch) {p0 : Int32} {p1 : Int32} {S : St} {Q : Int32 → St → Prop} (hR : RCM S) (hw : w_X12_meets p0 p1 S Q) : MetI l yX12_meets (wB yX12_meets cX12_meets 4 (some .int)) rm_X12_meets shM NM RCM (fun ad => [.ref (ad (0)), .int p0, .int p1]) S Q := by
  refine MetI_of (cc := cX12_meets) (maxL := 4) (ret := (some .int)) (plainFor_of_name (by decide)) (fun _ => Nat.le_of_ble_eq_true rfl) (fun G C hl hQ => ?_)
  subst hl
  have C : Cx G cX12_meets BIG RX12 4 (some .int) rm_X12_meets shM NM := C
  show Go G 4 0 [] [(0, .ref (Gad G (0))), (1, .int p0), (2, .int p1)] S
  unfold w_X12_meets at hw
  refine Go_aload_n (q := 1) C 0 rfl dX12_meets_0 rfl ?_
  refine Go_iconst (q := 2) (v := (0 : Int32)) C dX12_meets_1 rfl rfl ?_
  refine Go_putI (q := 5) (k := 0) C ci12 iw_12 kM_0 rfl wm_15_14 rfl rfl (ci12.2.2.2.1 0 (by decide)) rfl rfl dX12_meets_2 rfl ?_
  refine Go_S (fun S2_1 e_S2_1 => ?_)
  have hw := hw S2_1 e_S2_1
  have hR := rcM e_S2_1 hR
  refine Go_aload_n (q := 6) C 0 rfl dX12_meets_5 rfl ?_
  refine Go_iload_n (q := 7) C 1 rfl dX12_meets_6 rfl ?_
  refine Go_callV_I (av := (fun ad => [.int p0])) (st := []) (C := C) (hM := c_X12_isPlace (Gl G)  hR hw) (hlk := wm_31_22) (hini := wm_1_5) (hins := wm_31_23) (hsel := wm_32_0) (hcode := wm_32_1) (ho := kM_0) (hci := rfl) (hc13 := by decide) (n := 1) (hd := by decide +kernel) (hr0 := ⟨rfl, rfl⟩) (hroom := ⟨by first | decide | (dsimp only; omega), by first | decide | (dsimp only; omega)⟩) (hlen := rfl) (hst := rfl) (hW := Nat.le_of_ble_eq_true rfl) (hdg := dX12_meets_7) (q := 10) (hq := rfl) (fun r7_3 S7_2 hw hR => ?_)
  refine Go_if_eq (t := 21) (q := 13) C hw dX12_meets_10 rfl rfl (fun hw => ?_) (fun hw => ?_)
  · refine Go_iconst (q := 22) (v := (-1 : Int32)) C dX12_meets_21 rfl rfl ?_
    exact Go_iret C hQ hR hw dX12_meets_22
  · refine Go_aload_n (q := 14) C 0 rfl dX12_meets_13 rfl ?_
    refine Go_iload_n (q := 15) C 2 rfl dX12_meets_14 rfl ?_
    refine Go_callV_I (av := (fun ad => [.int p1])) (st := []) (C := C) (hM := c_X12_isPlace (Gl G)  hR hw) (hlk := wm_31_22) (hini := wm_1_5) (hins := wm_31_23) (hsel := wm_32_0) (hcode := wm_32_1) (ho := kM_0) (hci := rfl) (hc13 := by decide) (n := 1) (hd := by decide +kernel) (hr0 := ⟨rfl, rfl⟩) (hroom := ⟨by first | decide | (dsimp only; omega), by first | decide | (dsimp only; omega)⟩) (hlen := rfl) (hst := rfl) (hW := Nat.le_of_ble_eq_true rfl) (hdg := dX12_meets_15) (q := 18) (hq := rfl) (fun r15_5 S15_4 hw hR => ?_)
    refine Go_if_ne (t := 23) (q := 21) C hw dX12_meets_18 rfl rfl (fun hw => ?_) (fun hw => ?_)
    · refine Go_iconst (q := 22) (v := (-1 : Int32)) C dX12_meets_21 rfl rfl ?_
      exact Go_iret C hQ hR hw dX12_meets_22
    · refine Go_iconst (q := 24) (v := (0 : Int32)) C dX12_meets_23 rfl rfl ?_
      refine Go_istore_n (q := 25) (lv' := [(3, .int (0 : Int32)), (0, .ref (Gad G (0))), (1, .int p0), (2, .int p1)]) C rfl dX12_meets_24 (by decide) rfl rfl ?_
      refine Go_lvp [1, 2, 3, 0] rfl ?_
      exact g_X12_meets_25 C hQ p0 p1 _ hR hw
-- X12_gcd
abbrev rm_X12_gcd : Room := { frames := 0, cells := 0, slots := 0, locals := 0 }
set_option maxRecDepth 100000 in
set_option maxHeartbeats 4000000 in
theorem g_X12_gcd_4 {G : GC} (C : Cx G cX12_gcd BIG RX12 5 (some .int) rm_X12_gcd shM NM) {Q : Int32 → St → Prop} (hQ : QI G RCM Q) (v2 : Int32) (v3 : Int32) {S : St} (hR : RCM S) (hw : w_X12_gcd_4 Q v2 v3 S) : Go G 5 4 [] [(2, .int v2), (3, .int v3)] S := by
  obtain ⟨n, hw⟩ := hw
  induction n generalizing v2 v3 S with
  | zero => exact hw.elim
  | succ n ih =>
    have hw : b_X12_gcd_4 Q (lpn (fun _ _ _ => False) (b_X12_gcd_4 Q) n) v2 v3 S := hw
    generalize lpn (fun _ _ _ => False) (b_X12_gcd_4 Q) n = kf at hw ih
    have hk4 := fun (v2 : Int32) (v3 : Int32) (S : St) (hR : RCM S) hw => ih v2 v3 hR hw
    unfold b_X12_gcd_4 at hw
    refine Go_iload_n (q := 5) C 1 rfl dX12_gcd_4 rfl ?_
    refine Go_if_eq (t := 21) (q := 8) C hw dX12_gcd_5 rfl rfl (fun hw => ?_) (fun hw => ?_)
    · refine Go_iload_n (q := 22) C 0 rfl dX12_gcd_21 rfl ?_
      exact Go_iret C hQ hR hw dX12_gcd_22
    · refine Go_iload_n (q := 9) C 0 rfl dX12_gcd_8 rfl ?_
      refine Go_iload_n (q := 10) C 1 rfl dX12_gcd_9 rfl ?_
      obtain ⟨hne, hw⟩ := hw
      refine Go_irem (q := 11) C hne dX12_gcd_10 rfl ?_
      refine Go_topi (fun x11_1 e_x11_1 => ?_)
      have hw := hw x11_1 e_x11_1
      refine Go_istore (q := 13) (lv' := [(4, .int x11_1), (2, .int v2), (3, .int v3)]) C dX12_gcd_11 (by decide) rfl rfl ?_
      refine Go_iload_n (q := 14) C 2 rfl dX12_gcd_13 rfl ?_
      refine Go_istore_n (q := 15) (lv' := [(2, .int v3), (4, .int x11_1), (3, .int v3)]) C rfl dX12_gcd_14 (by decide) rfl rfl ?_
      refine Go_iload (q := 17) C 1 rfl dX12_gcd_15 rfl ?_
      refine Go_istore_n (q := 18) (lv' := [(3, .int x11_1), (2, .int v3), (4, .int x11_1)]) C rfl dX12_gcd_17 (by decide) rfl rfl ?_
      refine Go_goto (q := 4) C dX12_gcd_18 rfl ?_
      refine Go_lvp [1, 0] rfl ?_
      exact hk4 _ _ _ hR hw
set_option maxRecDepth 100000 in
set_option maxHeartbeats 4000000 in
theorem c_X12_gcd (l : Launch) {p0 : Int32} {p1 : Int32} {S : St} {Q : Int32 → St → Prop} (hR : RCM S) (hw : w_X12_gcd p0 p1 S Q) : MetI l yX12_gcd (wB yX12_gcd cX12_gcd 5 (some .int)) rm_X12_gcd shM NM RCM (fun ad => [.int p0, .int p1]) S Q := by
  refine MetI_of (cc := cX12_gcd) (maxL := 5) (ret := (some .int)) (plainFor_of_name (by decide)) (fun _ => Nat.le_of_ble_eq_true rfl) (fun G C hl hQ => ?_)
  subst hl
  have C : Cx G cX12_gcd BIG RX12 5 (some .int) rm_X12_gcd shM NM := C
  show Go G 5 0 [] [(0, .int p0), (1, .int p1)] S
  unfold w_X12_gcd at hw
  refine Go_iload_n (q := 1) C 0 rfl dX12_gcd_0 rfl ?_
  refine Go_istore_n (q := 2) (lv' := [(2, .int p0), (0, .int p0), (1, .int p1)]) C rfl dX12_gcd_1 (by decide) rfl rfl ?_
  refine Go_iload_n (q := 3) C 2 rfl dX12_gcd_2 rfl ?_
  refine Go_istore_n (q := 4) (lv' := [(3, .int p1), (2, .int p0), (0, .int p0), (1, .int p1)]) C rfl dX12_gcd_3 (by decide) rfl rfl ?_
  refine Go_lvp [1, 0] rfl ?_
  exact g_X12_gcd_4 C hQ _ _ hR hw
-- X12_roundIs
abbrev rm_X12_roundIs : Room := { frames := 1, cells := 0, slots := 0, locals := 24 }
set_option maxRecDepth 100000 in
set_option maxHeartbeats 4000000 in
theorem g_X12_roundIs_4 {G : GC} (C : Cx G cX12_roundIs BIG RX12 3 (some .int) rm_X12_roundIs shM NM) {Q : Int32 → St → Prop} (hQ : QI G RCM Q) (v1 : Int32) (v2 : Int32) {S : St} (hR : RCM S) (hw : w_X12_roundIs_4 Q v1 v2 S) : Go G 3 4 [] [(0, .ref (Gad G (0))), (1, .int v1), (2, .int v2)] S := by
  obtain ⟨n, hw⟩ := hw
  induction n generalizing v1 v2 S with
  | zero => exact hw.elim
  | succ n ih =>
    have hw : b_X12_roundIs_4 Q (lpn (fun _ _ _ => False) (b_X12_roundIs_4 Q) n) v1 v2 S := hw
    generalize lpn (fun _ _ _ => False) (b_X12_roundIs_4 Q) n = kf at hw ih
    have hk4 := fun (v1 : Int32) (v2 : Int32) (S : St) (hR : RCM S) hw => ih v1 v2 hR hw
    unfold b_X12_roundIs_4 at hw
    refine Go_iload_n (q := 5) C 2 rfl dX12_roundIs_4 rfl ?_
    refine Go_aload_n (q := 6) C 0 rfl dX12_roundIs_5 rfl ?_
    refine Go_getI (q := 9) (k := 10) C ci12 iw_12 kM_0 rfl wm_14_20 rfl dX12_roundIs_6 rfl ?_
    refine Go_icmp_ge (t := 36) (q := 12) C hw dX12_roundIs_9 rfl rfl (fun hw => ?_) (fun hw => ?_)
    · refine Go_iload_n (q := 37) C 1 rfl dX12_roundIs_36 rfl ?_
      exact Go_iret C hQ hR hw dX12_roundIs_37
    · refine Go_iload_n (q := 13) C 1 rfl dX12_roundIs_12 rfl ?_
      refine Go_iload_n (q := 14) C 1 rfl dX12_roundIs_13 rfl ?_
      refine Go_aload_n (q := 15) C 0 rfl dX12_roundIs_14 rfl ?_
      refine Go_iload_n (q := 16) C 2 rfl dX12_roundIs_15 rfl ?_
      refine Go_callV_I (av := (fun ad => [.int v2])) (st := [.int v1, .int v1]) (C := C) (hM := c_X12_cycleOf (Gl G) hR hw) (hlk := wm_32_6) (hini := wm_1_5) (hins := wm_32_7) (hsel := wm_32_8) (hcode := wm_32_9) (ho := kM_0) (hci := rfl) (hc13 := by decide) (n := 1) (hd := by decide +kernel) (hr0 := ⟨rfl, rfl⟩) (hroom := ⟨by first | decide | (dsimp only; omega), by first | decide | (dsimp only; omega)⟩) (hlen := rfl) (hst := rfl) (hW := Nat.le_of_ble_eq_true rfl) (hdg := dX12_roundIs_16) (q := 19) (hq := rfl) (fun r16_2 S16_1 hw hR => ?_)
      refine Go_callS_I (av := (fun ad => [.int v1, .int r16_2])) (st := [.int v1]) (C := C) (hM := c_X12_gcd (Gl G) hR hw) (hlk := wm_35_11) (hini := wm_1_5) (hst2 := wm_35_12) (hcode := wm_35_13) (n := 2) (hd := by decide +kernel) (hr0 := ⟨rfl, rfl⟩) (hroom := ⟨by first | decide | (dsimp only; omega), by first | decide | (dsimp only; omega)⟩) (hlen := rfl) (hst := rfl) (hW := Nat.le_of_ble_eq_true rfl) (hdg := dX12_roundIs_19) (q := 22) (hq := rfl) (fun r19_4 S19_3 hw hR => ?_)
      obtain ⟨hne, hw⟩ := hw
      refine Go_idiv (q := 23) C hne dX12_roundIs_22 rfl ?_
      refine Go_aload_n (q := 24) C 0 rfl dX12_roundIs_23 rfl ?_
      refine Go_iload_n (q := 25) C 2 rfl dX12_roundIs_24 rfl ?_
      refine Go_callV_I (av := (fun ad => [.int v2])) (st := [.int (v1 / r19_4)]) (C := C) (hM := c_X12_cycleOf (Gl G) hR hw) (hlk := wm_32_6) (hini := wm_1_5) (hins := wm_32_7) (hsel := wm_32_8) (hcode := wm_32_9) (ho := kM_0) (hci := rfl) (hc13 := by decide) (n := 1) (hd := by decide +kernel) (hr0 := ⟨rfl, rfl⟩) (hroom := ⟨by first | decide | (dsimp only; omega), by first | decide | (dsimp only; omega)⟩) (hlen := rfl) (hst := rfl) (hW := Nat.le_of_ble_eq_true rfl) (hdg := dX12_roundIs_25) (q := 28) (hq := rfl) (fun r25_6 S25_5 hw hR => ?_)
      refine Go_imul (q := 29) C dX12_roundIs_28 rfl ?_
      refine Go_topi (fun x29_7 e_x29_7 => ?_)
      have hw := hw x29_7 e_x29_7
      refine Go_istore_n (q := 30) (lv' := [(1, .int x29_7), (0, .ref (Gad G (0))), (2, .int v2)]) C rfl dX12_roundIs_29 (by decide) rfl rfl ?_
      refine Go_iinc2 (q := 33) (kp := 2) (cst := (1 : Int32)) C dX12_roundIs_30 rfl rfl (by decide) rfl (fun x30_8 e_x30_8 => ?_)
      have hw := hw x30_8 e_x30_8
      refine Go_lve (lv' := [(2, .int x30_8), (1, .int x29_7), (0, .ref (Gad G (0)))]) rfl ?_
      refine Go_goto (q := 4) C dX12_roundIs_33 rfl ?_
      refine Go_lvp [2, 1, 0] rfl ?_
      exact hk4 _ _ _ hR hw
set_option maxRecDepth 100000 in
set_option maxHeartbeats 4000000 in
theorem c_X12_roundIs (l : Launch) {S : St} {Q : Int32 → St → Prop} (hR : RCM S) (hw : w_X12_roundIs S Q) : MetI l yX12_roundIs (wB yX12_roundIs cX12_roundIs 3 (some .int)) rm_X12_roundIs shM NM RCM (fun ad => [.ref (ad (0))]) S Q := by
  refine MetI_of (cc := cX12_roundIs) (maxL := 3) (ret := (some .int)) (plainFor_of_name (by decide)) (fun _ => Nat.le_of_ble_eq_true rfl) (fun G C hl hQ => ?_)
  subst hl
  have C : Cx G cX12_roundIs BIG RX12 3 (some .int) rm_X12_roundIs shM NM := C
  show Go G 3 0 [] [(0, .ref (Gad G (0)))] S
  unfold w_X12_roundIs at hw
  refine Go_iconst (q := 1) (v := (1 : Int32)) C dX12_roundIs_0 rfl rfl ?_
  refine Go_istore_n (q := 2) (lv' := [(1, .int (1 : Int32)), (0, .ref (Gad G (0)))]) C rfl dX12_roundIs_1 (by decide) rfl rfl ?_
  refine Go_iconst (q := 3) (v := (0 : Int32)) C dX12_roundIs_2 rfl rfl ?_
  refine Go_istore_n (q := 4) (lv' := [(2, .int (0 : Int32)), (1, .int (1 : Int32)), (0, .ref (Gad G (0)))]) C rfl dX12_roundIs_3 (by decide) rfl rfl ?_
  refine Go_lvp [2, 1, 0] rfl ?_
  exact g_X12_roundIs_4 C hQ _ _ hR hw
-- X12_isLeast
abbrev rm_X12_isLeast : Room := { frames := 0, cells := 0, slots := 0, locals := 0 }
set_option maxRecDepth 100000 in
set_option maxHeartbeats 4000000 in
theorem g_X12_isLeast_7 {G : GC} (C : Cx G cX12_isLeast BIG RX12 3 (some .boolean) rm_X12_isLeast shM NM) {Q : Int32 → St → Prop} (hQ : QI G RCM Q) (p0 : Int32) (v2 : Int32) {S : St} (hR : RCM S) (hw : w_X12_isLeast_7 p0 Q v2 S) : Go G 3 7 [] [(0, .ref (Gad G (0))), (1, .int p0), (2, .int v2)] S := by
  obtain ⟨n, hw⟩ := hw
  induction n generalizing v2 S with
  | zero => exact hw.elim
  | succ n ih =>
    have hw : b_X12_isLeast_7 p0 Q (lpn (fun _ _ => False) (b_X12_isLeast_7 p0 Q) n) v2 S := hw
    generalize lpn (fun _ _ => False) (b_X12_isLeast_7 p0 Q) n = kf at hw ih
    have hk7 := fun (v2 : Int32) (S : St) (hR : RCM S) hw => ih v2 hR hw
    unfold b_X12_isLeast_7 at hw
    refine Go_iload_n (q := 8) C 2 rfl dX12_isLeast_7 rfl ?_
    refine Go_iload_n (q := 9) C 1 rfl dX12_isLeast_8 rfl ?_
    refine Go_icmp_eq (t := 29) (q := 12) C hw dX12_isLeast_9 rfl rfl (fun hw => ?_) (fun hw => ?_)
    · refine Go_iconst (q := 30) (v := (1 : Int32)) C dX12_isLeast_29 rfl rfl ?_
      exact Go_zret C hQ hR rfl hw dX12_isLeast_30
    · refine Go_iload_n (q := 13) C 2 rfl dX12_isLeast_12 rfl ?_
      refine Go_iload_n (q := 14) C 1 rfl dX12_isLeast_13 rfl ?_
      refine Go_icmp_ge (t := 19) (q := 17) C hw dX12_isLeast_14 rfl rfl (fun hw => ?_) (fun hw => ?_)
      · refine Go_aload_n (q := 20) C 0 rfl dX12_isLeast_19 rfl ?_
        refine Go_getA (q := 23) (k := 17) C ci12 iw_12 kM_0 (rM_0_17 hR) rfl wm_12_21 rfl dX12_isLeast_20 rfl ?_
        refine Go_iload_n (q := 24) C 2 rfl dX12_isLeast_23 rfl ?_
        obtain ⟨hin, hw⟩ := hw
        refine Go_iaload (q := 25) C kM_2 hin dX12_isLeast_24 rfl ?_
        refine Go_topi (fun x25_2 e_x25_2 => ?_)
        have hw := hw x25_2 e_x25_2
        refine Go_istore_n (q := 26) (lv' := [(2, .int x25_2), (0, .ref (Gad G (0))), (1, .int p0)]) C rfl dX12_isLeast_25 (by decide) rfl rfl ?_
        refine Go_goto (q := 7) C dX12_isLeast_26 rfl ?_
        refine Go_lvp [1, 2, 0] rfl ?_
        exact hk7 _ _ hR hw
      · refine Go_iconst (q := 18) (v := (0 : Int32)) C dX12_isLeast_17 rfl rfl ?_
        exact Go_zret C hQ hR rfl hw dX12_isLeast_18
set_option maxRecDepth 100000 in
set_option maxHeartbeats 4000000 in
theorem c_X12_isLeast (l : Launch) {p0 : Int32} {S : St} {Q : Int32 → St → Prop} (hR : RCM S) (hw : w_X12_isLeast p0 S Q) : MetI l yX12_isLeast (wB yX12_isLeast cX12_isLeast 3 (some .boolean)) rm_X12_isLeast shM NM RCM (fun ad => [.ref (ad (0)), .int p0]) S Q := by
  refine MetI_of (cc := cX12_isLeast) (maxL := 3) (ret := (some .boolean)) (plainFor_of_name (by decide)) (fun _ => Nat.le_of_ble_eq_true rfl) (fun G C hl hQ => ?_)
  subst hl
  have C : Cx G cX12_isLeast BIG RX12 3 (some .boolean) rm_X12_isLeast shM NM := C
  show Go G 3 0 [] [(0, .ref (Gad G (0))), (1, .int p0)] S
  unfold w_X12_isLeast at hw
  refine Go_aload_n (q := 1) C 0 rfl dX12_isLeast_0 rfl ?_
  refine Go_getA (q := 4) (k := 17) C ci12 iw_12 kM_0 (rM_0_17 hR) rfl wm_12_21 rfl dX12_isLeast_1 rfl ?_
  refine Go_iload_n (q := 5) C 1 rfl dX12_isLeast_4 rfl ?_
  obtain ⟨hin, hw⟩ := hw
  refine Go_iaload (q := 6) C kM_2 hin dX12_isLeast_5 rfl ?_
  refine Go_topi (fun x6_1 e_x6_1 => ?_)
  have hw := hw x6_1 e_x6_1
  refine Go_istore_n (q := 7) (lv' := [(2, .int x6_1), (0, .ref (Gad G (0))), (1, .int p0)]) C rfl dX12_isLeast_6 (by decide) rfl rfl ?_
  refine Go_lvp [1, 2, 0] rfl ?_
  exact g_X12_isLeast_7 C hQ p0 _ hR hw
-- X12_round
abbrev rm_X12_round : Room := { frames := 2, cells := 0, slots := 0, locals := 46 }
set_option maxRecDepth 100000 in
set_option maxHeartbeats 4000000 in
theorem g_X12_round_82 {G : GC} (C : Cx G cX12_round BIG RX12 6 (some .int) rm_X12_round shM NM) {Q : Int32 → St → Prop} (hQ : QI G RCM Q) (p0 : Int32) (v2 : Int32) (v3 : Int32) (v5 : Int32) (t0 : Int32) (t1 : Int32) {k26 : Int32 → Int32 → Int32 → Int32 → St → Prop} (hk26 : ∀ (v2 : Int32) (v3 : Int32) (v4 : Int32) (v5 : Int32) (S : St), RCM S → k26 v2 v3 v4 v5 S → Go G 6 26 [] [(0, .ref (Gad G (0))), (1, .int p0), (2, .int v2), (3, .int v3), (4, .int v4), (5, .int v5)] S) {S : St} (hR : RCM S) (hw : w_X12_round_82 p0 k26 v2 v3 v5 t0 t1 S) : Go G 6 82 [.int t0, .int t1] [(0, .ref (Gad G (0))), (1, .int p0), (2, .int v2), (3, .int v3), (5, .int v5)] S := by
  unfold w_X12_round_82 at hw
  refine Go_iadd (q := 83) C dX12_round_82 rfl ?_
  refine Go_topi (fun x83_12 e_x83_12 => ?_)
  have hw := hw x83_12 e_x83_12
  refine Go_istore (q := 85) (lv' := [(4, .int x83_12), (0, .ref (Gad G (0))), (1, .int p0), (2, .int v2), (3, .int v3), (5, .int v5)]) C dX12_round_83 (by decide) rfl rfl ?_
  refine Go_iinc2 (q := 88) (kp := 5) (cst := (1 : Int32)) C dX12_round_85 rfl rfl (by decide) rfl (fun x85_13 e_x85_13 => ?_)
  have hw := hw x85_13 e_x85_13
  refine Go_lve (lv' := [(5, .int x85_13), (4, .int x83_12), (0, .ref (Gad G (0))), (1, .int p0), (2, .int v2), (3, .int v3)]) rfl ?_
  refine Go_goto (q := 26) C dX12_round_88 rfl ?_
  refine Go_lvp [2, 3, 4, 5, 1, 0] rfl ?_
  exact hk26 _ _ _ _ _ hR hw
set_option maxRecDepth 100000 in
set_option maxHeartbeats 4000000 in
theorem g_X12_round_50 {G : GC} (C : Cx G cX12_round BIG RX12 6 (some .int) rm_X12_round shM NM) {Q : Int32 → St → Prop} (hQ : QI G RCM Q) (p0 : Int32) (v3 : Int32) (v4 : Int32) (v5 : Int32) (t0 : Int32) (t1 : Int32) {k26 : Int32 → Int32 → Int32 → Int32 → St → Prop} (hk26 : ∀ (v2 : Int32) (v3 : Int32) (v4 : Int32) (v5 : Int32) (S : St), RCM S → k26 v2 v3 v4 v5 S → Go G 6 26 [] [(0, .ref (Gad G (0))), (1, .int p0), (2, .int v2), (3, .int v3), (4, .int v4), (5, .int v5)] S) {S : St} (hR : RCM S) (hw : w_X12_round_50 p0 k26 v3 v4 v5 t0 t1 S) : Go G 6 50 [.int t0, .int t1] [(0, .ref (Gad G (0))), (1, .int p0), (3, .int v3), (4, .int v4), (5, .int v5)] S := by
  unfold w_X12_round_50 at hw
  refine Go_iadd (q := 51) C dX12_round_50 rfl ?_
  refine Go_topi (fun x51_8 e_x51_8 => ?_)
  have hw := hw x51_8 e_x51_8
  refine Go_istore_n (q := 52) (lv' := [(2, .int x51_8), (0, .ref (Gad G (0))), (1, .int p0), (3, .int v3), (4, .int v4), (5, .int v5)]) C rfl dX12_round_51 (by decide) rfl rfl ?_
  refine Go_iload_n (q := 53) C 3 rfl dX12_round_52 rfl ?_
  refine Go_aload_n (q := 54) C 1 rfl dX12_round_53 rfl ?_
  refine Go_iload (q := 56) C 5 rfl dX12_round_54 rfl ?_
  refine Go_callV_I (av := (fun ad => [.int v5])) (st := [.int v3]) (C := C) (hM := c_X12_cycleOf (Gl G) hR hw) (hlk := wm_32_6) (hini := wm_1_5) (hins := wm_32_7) (hsel := wm_32_8) (hcode := wm_32_9) (ho := kM_0) (hci := rfl) (hc13 := by decide) (n := 1) (hd := by decide +kernel) (hr0 := ⟨rfl, rfl⟩) (hroom := ⟨by first | decide | (dsimp only; omega), by first | decide | (dsimp only; omega)⟩) (hlen := rfl) (hst := rfl) (hW := Nat.le_of_ble_eq_true rfl) (hdg := dX12_round_56) (q := 59) (hq := rfl) (fun r56_10 S56_9 hw hR => ?_)
  refine Go_mmax (q := 62) C wm_35_2 wm_11_14 wm_11_15 wm_11_16 (by first | decide | (dsimp only; omega)) (Nat.le_of_ble_eq_true rfl) dX12_round_59 rfl ?_
  refine Go_topi (fun x62_11 e_x62_11 => ?_)
  have hw := hw x62_11 e_x62_11
  refine Go_istore_n (q := 63) (lv' := [(3, .int x62_11), (2, .int x51_8), (0, .ref (Gad G (0))), (1, .int p0), (4, .int v4), (5, .int v5)]) C rfl dX12_round_62 (by decide) rfl rfl ?_
  refine Go_iload (q := 65) C 4 rfl dX12_round_63 rfl ?_
  refine Go_aload_n (q := 66) C 2 rfl dX12_round_65 rfl ?_
  refine Go_getA (q := 69) (k := 17) C ci12 iw_12 kM_0 (rM_0_17 hR) rfl wm_12_21 rfl dX12_round_66 rfl ?_
  refine Go_iload (q := 71) C 5 rfl dX12_round_69 rfl ?_
  obtain ⟨hin, hw⟩ := hw
  refine Go_iaload (q := 72) C kM_2 hin dX12_round_71 rfl ?_
  refine Go_iload (q := 74) C 5 rfl dX12_round_72 rfl ?_
  refine Go_icmp_ne (t := 81) (q := 77) C hw dX12_round_74 rfl rfl (fun hw => ?_) (fun hw => ?_)
  · refine Go_iconst (q := 78) (v := (1 : Int32)) C dX12_round_77 rfl rfl ?_
    refine Go_goto (q := 82) C dX12_round_78 rfl ?_
    refine Go_lvp [2, 3, 1, 0, 5] rfl ?_
    exact g_X12_round_82 C hQ p0 _ _ _ _ _ hk26 hR hw
  · refine Go_iconst (q := 82) (v := (0 : Int32)) C dX12_round_81 rfl rfl ?_
    refine Go_lvp [2, 3, 1, 0, 5] rfl ?_
    exact g_X12_round_82 C hQ p0 _ _ _ _ _ hk26 hR hw
set_option maxRecDepth 100000 in
set_option maxHeartbeats 4000000 in
theorem g_X12_round_26 {G : GC} (C : Cx G cX12_round BIG RX12 6 (some .int) rm_X12_round shM NM) {Q : Int32 → St → Prop} (hQ : QI G RCM Q) (p0 : Int32) (v2 : Int32) (v3 : Int32) (v4 : Int32) (v5 : Int32) {S : St} (hR : RCM S) (hw : w_X12_round_26 p0 Q v2 v3 v4 v5 S) : Go G 6 26 [] [(0, .ref (Gad G (0))), (1, .int p0), (2, .int v2), (3, .int v3), (4, .int v4), (5, .int v5)] S := by
  obtain ⟨n, hw⟩ := hw
  induction n generalizing v2 v3 v4 v5 S with
  | zero => exact hw.elim
  | succ n ih =>
    have hw : b_X12_round_26 p0 Q (lpn (fun _ _ _ _ _ => False) (b_X12_round_26 p0 Q) n) v2 v3 v4 v5 S := hw
    generalize lpn (fun _ _ _ _ _ => False) (b_X12_round_26 p0 Q) n = kf at hw ih
    have hk26 := fun (v2 : Int32) (v3 : Int32) (v4 : Int32) (v5 : Int32) (S : St) (hR : RCM S) hw => ih v2 v3 v4 v5 hR hw
    unfold b_X12_round_26 at hw
    refine Go_iload (q := 28) C 5 rfl dX12_round_26 rfl ?_
    refine Go_aload_n (q := 29) C 0 rfl dX12_round_28 rfl ?_
    refine Go_getI (q := 32) (k := 10) C ci12 iw_12 kM_0 rfl wm_14_20 rfl dX12_round_29 rfl ?_
    refine Go_icmp_ge (t := 91) (q := 35) C hw dX12_round_32 rfl rfl (fun hw => ?_) (fun hw => ?_)
    · refine Go_iload_n (q := 92) C 1 rfl dX12_round_91 rfl ?_
      refine Go_if_ne (t := 102) (q := 95) C hw dX12_round_92 rfl rfl (fun hw => ?_) (fun hw => ?_)
      · refine Go_aload_n (q := 96) C 0 rfl dX12_round_95 rfl ?_
        refine Go_callV_I (av := (fun ad => [])) (st := []) (C := C) (hM := c_X12_roundIs (Gl G) hR hw) (hlk := wm_35_7) (hini := wm_1_5) (hins := wm_35_8) (hsel := wm_35_9) (hcode := wm_35_10) (ho := kM_0) (hci := rfl) (hc13 := by decide) (n := 0) (hd := by decide +kernel) (hr0 := ⟨rfl, rfl⟩) (hroom := ⟨by first | decide | (dsimp only; omega), by first | decide | (dsimp only; omega)⟩) (hlen := rfl) (hst := rfl) (hW := Nat.le_of_ble_eq_true rfl) (hdg := dX12_round_96) (q := 99) (hq := rfl) (fun r96_5 S96_4 hw hR => ?_)
        refine Go_goto (q := 138) C dX12_round_99 rfl ?_
        exact Go_iret C hQ hR hw dX12_round_138
      · refine Go_iload_n (q := 103) C 1 rfl dX12_round_102 rfl ?_
        refine Go_iconst (q := 104) (v := (1 : Int32)) C dX12_round_103 rfl rfl ?_
        refine Go_icmp_ne (t := 111) (q := 107) C hw dX12_round_104 rfl rfl (fun hw => ?_) (fun hw => ?_)
        · refine Go_iload_n (q := 108) C 2 rfl dX12_round_107 rfl ?_
          refine Go_goto (q := 138) C dX12_round_108 rfl ?_
          exact Go_iret C hQ hR hw dX12_round_138
        · refine Go_iload_n (q := 112) C 1 rfl dX12_round_111 rfl ?_
          refine Go_iconst (q := 113) (v := (2 : Int32)) C dX12_round_112 rfl rfl ?_
          refine Go_icmp_ne (t := 120) (q := 116) C hw dX12_round_113 rfl rfl (fun hw => ?_) (fun hw => ?_)
          · refine Go_iload_n (q := 117) C 3 rfl dX12_round_116 rfl ?_
            refine Go_goto (q := 138) C dX12_round_117 rfl ?_
            exact Go_iret C hQ hR hw dX12_round_138
          · refine Go_iload_n (q := 121) C 1 rfl dX12_round_120 rfl ?_
            refine Go_iconst (q := 122) (v := (3 : Int32)) C dX12_round_121 rfl rfl ?_
            refine Go_icmp_ne (t := 130) (q := 125) C hw dX12_round_122 rfl rfl (fun hw => ?_) (fun hw => ?_)
            · refine Go_iload (q := 127) C 4 rfl dX12_round_125 rfl ?_
              refine Go_goto (q := 138) C dX12_round_127 rfl ?_
              exact Go_iret C hQ hR hw dX12_round_138
            · refine Go_aload_n (q := 131) C 0 rfl dX12_round_130 rfl ?_
              refine Go_getI (q := 134) (k := 10) C ci12 iw_12 kM_0 rfl wm_14_20 rfl dX12_round_131 rfl ?_
              refine Go_iload_n (q := 135) C 2 rfl dX12_round_134 rfl ?_
              refine Go_isub (q := 136) C dX12_round_135 rfl ?_
              refine Go_iconst (q := 137) (v := (2 : Int32)) C dX12_round_136 rfl rfl ?_
              refine Go_irem (q := 138) C (by decide) dX12_round_137 rfl ?_
              exact Go_iret C hQ hR hw dX12_round_138
    · refine Go_iload_n (q := 36) C 2 rfl dX12_round_35 rfl ?_
      refine Go_aload_n (q := 37) C 0 rfl dX12_round_36 rfl ?_
      refine Go_iload (q := 39) C 5 rfl dX12_round_37 rfl ?_
      refine Go_callV_I (av := (fun ad => [.int v5])) (st := [.int v2]) (C := C) (hM := c_X12_isLeast (Gl G) hR hw) (hlk := wm_35_3) (hini := wm_1_5) (hins := wm_35_4) (hsel := wm_35_5) (hcode := wm_35_6) (ho := kM_0) (hci := rfl) (hc13 := by decide) (n := 1) (hd := by decide +kernel) (hr0 := ⟨rfl, rfl⟩) (hroom := ⟨by first | decide | (dsimp only; omega), by first | decide | (dsimp only; omega)⟩) (hlen := rfl) (hst := rfl) (hW := Nat.le_of_ble_eq_true rfl) (hdg := dX12_round_39) (q := 42) (hq := rfl) (fun r39_7 S39_6 hw hR => ?_)
      refine Go_if_eq (t := 49) (q := 45) C hw dX12_round_42 rfl rfl (fun hw => ?_) (fun hw => ?_)
      · refine Go_iconst (q := 50) (v := (0 : Int32)) C dX12_round_49 rfl rfl ?_
        refine Go_lvp [0, 1, 3, 4, 5] rfl ?_
        exact g_X12_round_50 C hQ p0 _ _ _ _ _ hk26 hR hw
      · refine Go_iconst (q := 46) (v := (1 : Int32)) C dX12_round_45 rfl rfl ?_
        refine Go_goto (q := 50) C dX12_round_46 rfl ?_
        refine Go_lvp [0, 1, 3, 4, 5] rfl ?_
        exact g_X12_round_50 C hQ p0 _ _ _ _ _ hk26 hR hw
set_option maxRecDepth 100000 in
set_option maxHeartbeats 4000000 in
theorem c_X12_round (l : Launch) {p0 : Int32} {S : St} {Q : Int32 → St → Prop} (hR : RCM S) (hw : w_X12_round p0 S Q) : MetI l yX12_round (wB yX12_round cX12_round 6 (some .int)) rm_X12_round shM NM RCM (fun ad => [.ref (ad (0)), .int p0]) S Q := by
  refine MetI_of (cc := cX12_round) (maxL := 6) (ret := (some .int)) (plainFor_of_name (by decide)) (fun _ => Nat.le_of_ble_eq_true rfl) (fun G C hl hQ => ?_)
  subst hl
  have C : Cx G cX12_round BIG RX12 6 (some .int) rm_X12_round shM NM := C
  show Go G 6 0 [] [(0, .ref (Gad G (0))), (1, .int p0)] S
  unfold w_X12_round at hw
  refine Go_aload_n (q := 1) C 0 rfl dX12_round_0 rfl ?_
  refine Go_iconst (q := 2) (v := (0 : Int32)) C dX12_round_1 rfl rfl ?_
  refine Go_putI (q := 5) (k := 0) C ci12 iw_12 kM_0 rfl wm_15_14 rfl rfl (ci12.2.2.2.1 0 (by decide)) rfl rfl dX12_round_2 rfl ?_
  refine Go_S (fun S2_1 e_S2_1 => ?_)
  have hw := hw S2_1 e_S2_1
  have hR := rcM e_S2_1 hR
  refine Go_iload_n (q := 6) C 1 rfl dX12_round_5 rfl ?_
  refine Go_iconst (q := 7) (v := (0 : Int32)) C dX12_round_6 rfl rfl ?_
  refine Go_iconst (q := 8) (v := (4 : Int32)) C dX12_round_7 rfl rfl ?_
  refine Go_callS_I (av := (fun ad => [.int p0, .int (0 : Int32), .int (4 : Int32)])) (st := []) (C := C) (hM := c_X12_within (Gl G)  hR hw) (hlk := wm_27_1) (hini := wm_1_5) (hst2 := wm_27_2) (hcode := wm_27_3) (n := 3) (hd := by decide +kernel) (hr0 := ⟨rfl, rfl⟩) (hroom := ⟨by first | decide | (dsimp only; omega), by first | decide | (dsimp only; omega)⟩) (hlen := rfl) (hst := rfl) (hW := Nat.le_of_ble_eq_true rfl) (hdg := dX12_round_8) (q := 11) (hq := rfl) (fun r8_3 S8_2 hw hR => ?_)
  refine Go_if_ne (t := 16) (q := 14) C hw dX12_round_11 rfl rfl (fun hw => ?_) (fun hw => ?_)
  · refine Go_iconst (q := 15) (v := (-1 : Int32)) C dX12_round_14 rfl rfl ?_
    exact Go_iret C hQ hR hw dX12_round_15
  · refine Go_iconst (q := 17) (v := (0 : Int32)) C dX12_round_16 rfl rfl ?_
    refine Go_istore_n (q := 18) (lv' := [(2, .int (0 : Int32)), (0, .ref (Gad G (0))), (1, .int p0)]) C rfl dX12_round_17 (by decide) rfl rfl ?_
    refine Go_iconst (q := 19) (v := (0 : Int32)) C dX12_round_18 rfl rfl ?_
    refine Go_istore_n (q := 20) (lv' := [(3, .int (0 : Int32)), (2, .int (0 : Int32)), (0, .ref (Gad G (0))), (1, .int p0)]) C rfl dX12_round_19 (by decide) rfl rfl ?_
    refine Go_iconst (q := 21) (v := (0 : Int32)) C dX12_round_20 rfl rfl ?_
    refine Go_istore (q := 23) (lv' := [(4, .int (0 : Int32)), (3, .int (0 : Int32)), (2, .int (0 : Int32)), (0, .ref (Gad G (0))), (1, .int p0)]) C dX12_round_21 (by decide) rfl rfl ?_
    refine Go_iconst (q := 24) (v := (0 : Int32)) C dX12_round_23 rfl rfl ?_
    refine Go_istore (q := 26) (lv' := [(5, .int (0 : Int32)), (4, .int (0 : Int32)), (3, .int (0 : Int32)), (2, .int (0 : Int32)), (0, .ref (Gad G (0))), (1, .int p0)]) C dX12_round_24 (by decide) rfl rfl ?_
    refine Go_lvp [4, 5, 3, 2, 1, 0] rfl ?_
    exact g_X12_round_26 C hQ p0 _ _ _ _ hR hw
-- X12_rootsOf
abbrev rm_X12_rootsOf (d : Nat) : Room := { frames := d * 16, cells := 0, slots := 0, locals := d * 700 }

set_option maxRecDepth 100000 in
set_option maxHeartbeats 4000000 in
theorem g_X12_rootsOf_24 {G : GC} {d : Nat} (C : Cx G cX12_rootsOf BIG RX12 4 (some .long) (rm_X12_rootsOf (d + 1)) shM NM) {Q : Int64 → St → Prop} (hQ : QL G RCM Q) {rec : Int32 → Int32 → St → (Int64 → St → Prop) → Prop} (hrec : ∀ {p0 : Int32} {p1 : Int32} {S : St} {Q : Int64 → St → Prop}, RCM S → rec p0 p1 S Q → MetL (Gl G) yX12_rootsOf (wB yX12_rootsOf cX12_rootsOf 4 (some .long)) (rm_X12_rootsOf d) shM NM RCM (fun ad => [.int p0, .int p1]) S Q) (p0 : Int32) (p1 : Int32) (t0 : Int64) {S : St} (hR : RCM S) (hw : w_X12_rootsOf_24 p0 p1 rec Q t0 S) : Go G 4 24 [.long t0] [(0, .int p0), (1, .int p1)] S := by
  unfold w_X12_rootsOf_24 at hw
  refine Go_lstore_n (q := 25) (lv' := [(2, .long t0), (0, .int p0), (1, .int p1)]) C rfl dX12_rootsOf_24 (by decide) rfl rfl ?_
  refine Go_iload_n (q := 26) C 2 rfl dX12_rootsOf_25 rfl ?_
  refine Go_iconst (q := 27) (v := (2 : Int32)) C dX12_rootsOf_26 rfl rfl ?_
  refine Go_icmp_ge (t := 34) (q := 30) C hw dX12_rootsOf_27 rfl rfl (fun hw => ?_) (fun hw => ?_)
  · refine Go_lload_n (q := 35) C 0 rfl dX12_rootsOf_34 rfl ?_
    refine Go_iload_n (q := 36) C 2 rfl dX12_rootsOf_35 rfl ?_
    refine Go_iconst (q := 37) (v := (1 : Int32)) C dX12_rootsOf_36 rfl rfl ?_
    refine Go_isub (q := 38) C dX12_rootsOf_37 rfl ?_
    refine Go_i2l (q := 39) C dX12_rootsOf_38 rfl ?_
    refine Go_iload_n (q := 40) C 1 rfl dX12_rootsOf_39 rfl ?_
    refine Go_i2l (q := 41) C dX12_rootsOf_40 rfl ?_
    refine Go_lmul (q := 42) C dX12_rootsOf_41 rfl ?_
    refine Go_iload_n (q := 43) C 1 rfl dX12_rootsOf_42 rfl ?_
    refine Go_iload_n (q := 44) C 2 rfl dX12_rootsOf_43 rfl ?_
    refine Go_iconst (q := 45) (v := (2 : Int32)) C dX12_rootsOf_44 rfl rfl ?_
    refine Go_isub (q := 46) C dX12_rootsOf_45 rfl ?_
    refine Go_callS_L (av := (fun ad => [.int p0, .int (p1 - (2 : Int32))])) (st := [.long (((p1 - (1 : Int32)).toInt64) * ((p0).toInt64)), .long t0]) (C := C) (hM := hrec hR hw) (hlk := wm_36_5) (hini := wm_1_5) (hst2 := wm_36_6) (hcode := wm_36_7) (n := 2) (hd := by decide +kernel) (hr0 := ⟨rfl, rfl⟩) (hroom := ⟨by first | decide | (dsimp only; omega), by first | decide | (dsimp only; omega)⟩) (hlen := rfl) (hst := rfl) (hW := Nat.le_of_ble_eq_true rfl) (hdg := dX12_rootsOf_46) (q := 49) (hq := rfl) (fun r46_4 S46_3 hw hR => ?_)
    refine Go_lmul (q := 50) C dX12_rootsOf_49 rfl ?_
    refine Go_ladd (q := 51) C dX12_rootsOf_50 rfl ?_
    exact Go_lret C hQ hR hw dX12_rootsOf_51
  · refine Go_lload_n (q := 31) C 0 rfl dX12_rootsOf_30 rfl ?_
    refine Go_goto (q := 51) C dX12_rootsOf_31 rfl ?_
    exact Go_lret C hQ hR hw dX12_rootsOf_51
set_option maxRecDepth 100000 in
set_option maxHeartbeats 4000000 in
theorem h_X12_rootsOf (l : Launch) {d : Nat} {rec : Int32 → Int32 → St → (Int64 → St → Prop) → Prop} (hrec : ∀ {p0 : Int32} {p1 : Int32} {S : St} {Q : Int64 → St → Prop}, RCM S → rec p0 p1 S Q → MetL l yX12_rootsOf (wB yX12_rootsOf cX12_rootsOf 4 (some .long)) (rm_X12_rootsOf d) shM NM RCM (fun ad => [.int p0, .int p1]) S Q) {p0 : Int32} {p1 : Int32} {S : St} {Q : Int64 → St → Prop} (hR : RCM S) (hw : u_X12_rootsOf rec p0 p1 S Q) : MetL l yX12_rootsOf (wB yX12_rootsOf cX12_rootsOf 4 (some .long)) (rm_X12_rootsOf (d + 1)) shM NM RCM (fun ad => [.int p0, .int p1]) S Q := by
  refine MetL_of (cc := cX12_rootsOf) (maxL := 4) (ret := (some .long)) (plainFor_of_name (by decide)) (fun _ => Nat.le_of_ble_eq_true rfl) (fun G C hl hQ => ?_)
  subst hl
  have C : Cx G cX12_rootsOf BIG RX12 4 (some .long) (rm_X12_rootsOf (d + 1)) shM NM := C
  show Go G 4 0 [] [(0, .int p0), (1, .int p1)] S
  unfold u_X12_rootsOf at hw
  refine Go_iload_n (q := 1) C 1 rfl dX12_rootsOf_0 rfl ?_
  refine Go_if_ne (t := 6) (q := 4) C hw dX12_rootsOf_1 rfl rfl (fun hw => ?_) (fun hw => ?_)
  · refine Go_lconst (q := 5) (v := (1 : Int64)) C dX12_rootsOf_4 rfl rfl ?_
    exact Go_lret C hQ hR hw dX12_rootsOf_5
  · refine Go_iload_n (q := 7) C 0 rfl dX12_rootsOf_6 rfl ?_
    refine Go_iconst (q := 8) (v := (2 : Int32)) C dX12_rootsOf_7 rfl rfl ?_
    refine Go_irem (q := 9) C (by decide) dX12_rootsOf_8 rfl ?_
    refine Go_iconst (q := 10) (v := (1 : Int32)) C dX12_rootsOf_9 rfl rfl ?_
    refine Go_icmp_ne (t := 23) (q := 13) C hw dX12_rootsOf_10 rfl rfl (fun hw => ?_) (fun hw => ?_)
    · refine Go_iload_n (q := 14) C 0 rfl dX12_rootsOf_13 rfl ?_
      refine Go_iload_n (q := 15) C 1 rfl dX12_rootsOf_14 rfl ?_
      refine Go_iconst (q := 16) (v := (1 : Int32)) C dX12_rootsOf_15 rfl rfl ?_
      refine Go_isub (q := 17) C dX12_rootsOf_16 rfl ?_
      refine Go_callS_L (av := (fun ad => [.int p0, .int (p1 - (1 : Int32))])) (st := []) (C := C) (hM := hrec  hR hw) (hlk := wm_36_5) (hini := wm_1_5) (hst2 := wm_36_6) (hcode := wm_36_7) (n := 2) (hd := by decide +kernel) (hr0 := ⟨rfl, rfl⟩) (hroom := ⟨by first | decide | (dsimp only; omega), by first | decide | (dsimp only; omega)⟩) (hlen := rfl) (hst := rfl) (hW := Nat.le_of_ble_eq_true rfl) (hdg := dX12_rootsOf_17) (q := 20) (hq := rfl) (fun r17_2 S17_1 hw hR => ?_)
      refine Go_goto (q := 24) C dX12_rootsOf_20 rfl ?_
      refine Go_lvp [0, 1] rfl ?_
      exact g_X12_rootsOf_24 C hQ @hrec p0 p1 _ hR hw
    · refine Go_lconst (q := 24) (v := (0 : Int64)) C dX12_rootsOf_23 rfl rfl ?_
      refine Go_lvp [0, 1] rfl ?_
      exact g_X12_rootsOf_24 C hQ @hrec p0 p1 _ hR hw
theorem c_X12_rootsOf (l : Launch) : ∀ (d : Nat) {p0 : Int32} {p1 : Int32} {S : St} {Q : Int64 → St → Prop}, RCM S → w_X12_rootsOf d p0 p1 S Q → MetL l yX12_rootsOf (wB yX12_rootsOf cX12_rootsOf 4 (some .long)) (rm_X12_rootsOf d) shM NM RCM (fun ad => [.int p0, .int p1]) S Q := by
  intro d
  induction d with
  | zero => intro _ _ _ _ _ hw; exact hw.elim
  | succ d ih => intro p0 p1 S Q hR hw; exact h_X12_rootsOf l (d := d) (rec := w_X12_rootsOf d) @ih  hR hw
-- X12_roots
abbrev rm_X12_roots : Room := { frames := 513, cells := 0, slots := 0, locals := 22423 }
set_option maxRecDepth 100000 in
set_option maxHeartbeats 4000000 in
theorem g_X12_roots_58 {G : GC} (C : Cx G cX12_roots BIG RX12 6 (some .long) rm_X12_roots shM NM) {Q : Int64 → St → Prop} (hQ : QL G RCM Q) (v1 : Int64) (v3 : Int32) (v5 : Int32) (t0 : Int32) (t1 : Int32) {k23 : Int32 → Int32 → St → Prop} (hk23 : ∀ (v4 : Int32) (v5 : Int32) (S : St), RCM S → k23 v4 v5 S → Go G 6 23 [] [(0, .ref (Gad G (0))), (1, .long v1), (3, .int v3), (4, .int v4), (5, .int v5)] S) {S : St} (hR : RCM S) (hw : w_X12_roots_58 k23 v1 v3 v5 t0 t1 S) : Go G 6 58 [.int t0, .int t1] [(0, .ref (Gad G (0))), (1, .long v1), (3, .int v3), (5, .int v5)] S := by
  unfold w_X12_roots_58 at hw
  refine Go_iadd (q := 59) C dX12_roots_58 rfl ?_
  refine Go_topi (fun x59_9 e_x59_9 => ?_)
  have hw := hw x59_9 e_x59_9
  refine Go_istore (q := 61) (lv' := [(4, .int x59_9), (0, .ref (Gad G (0))), (1, .long v1), (3, .int v3), (5, .int v5)]) C dX12_roots_59 (by decide) rfl rfl ?_
  refine Go_iinc2 (q := 64) (kp := 4) (cst := (1 : Int32)) C dX12_roots_61 rfl rfl (by decide) rfl (fun x61_10 e_x61_10 => ?_)
  have hw := hw x61_10 e_x61_10
  refine Go_lve (lv' := [(5, .int x61_10), (4, .int x59_9), (0, .ref (Gad G (0))), (1, .long v1), (3, .int v3)]) rfl ?_
  refine Go_goto (q := 23) C dX12_roots_64 rfl ?_
  refine Go_lvp [2, 3, 4, 1, 0] rfl ?_
  exact hk23 _ _ _ hR hw
set_option maxRecDepth 100000 in
set_option maxHeartbeats 4000000 in
theorem g_X12_roots_57 {G : GC} (C : Cx G cX12_roots BIG RX12 6 (some .long) rm_X12_roots shM NM) {Q : Int64 → St → Prop} (hQ : QL G RCM Q) (v1 : Int64) (v3 : Int32) (v5 : Int32) (t0 : Int32) {k23 : Int32 → Int32 → St → Prop} (hk23 : ∀ (v4 : Int32) (v5 : Int32) (S : St), RCM S → k23 v4 v5 S → Go G 6 23 [] [(0, .ref (Gad G (0))), (1, .long v1), (3, .int v3), (4, .int v4), (5, .int v5)] S) {S : St} (hR : RCM S) (hw : w_X12_roots_57 k23 v1 v3 v5 t0 S) : Go G 6 57 [.int t0] [(0, .ref (Gad G (0))), (1, .long v1), (3, .int v3), (5, .int v5)] S := by
  unfold w_X12_roots_57 at hw
  refine Go_iconst (q := 58) (v := (0 : Int32)) C dX12_roots_57 rfl rfl ?_
  refine Go_lvp [0, 1, 2, 3] rfl ?_
  exact g_X12_roots_58 C hQ _ _ _ _ _ hk23 hR hw
set_option maxRecDepth 100000 in
set_option maxHeartbeats 4000000 in
theorem g_X12_roots_23 {G : GC} (C : Cx G cX12_roots BIG RX12 6 (some .long) rm_X12_roots shM NM) {Q : Int64 → St → Prop} (hQ : QL G RCM Q) (v1 : Int64) (v3 : Int32) {k9 : Int64 → Int32 → St → Prop} (hk9 : ∀ (v1 : Int64) (v3 : Int32) (S : St), RCM S → k9 v1 v3 S → Go G 6 9 [] [(0, .ref (Gad G (0))), (1, .long v1), (3, .int v3)] S) (v4 : Int32) (v5 : Int32) {S : St} (hR : RCM S) (hw : w_X12_roots_23 k9 v1 v3 v4 v5 S) : Go G 6 23 [] [(0, .ref (Gad G (0))), (1, .long v1), (3, .int v3), (4, .int v4), (5, .int v5)] S := by
  obtain ⟨n, hw⟩ := hw
  induction n generalizing v4 v5 S with
  | zero => exact hw.elim
  | succ n ih =>
    have hw : b_X12_roots_23 k9 v1 v3 (lpn (fun _ _ _ => False) (b_X12_roots_23 k9 v1 v3) n) v4 v5 S := hw
    generalize lpn (fun _ _ _ => False) (b_X12_roots_23 k9 v1 v3) n = kf at hw ih
    have hk23 := fun (v4 : Int32) (v5 : Int32) (S : St) (hR : RCM S) hw => ih v4 v5 hR hw
    unfold b_X12_roots_23 at hw
    refine Go_iload (q := 25) C 4 rfl dX12_roots_23 rfl ?_
    refine Go_aload_n (q := 26) C 0 rfl dX12_roots_25 rfl ?_
    refine Go_getI (q := 29) (k := 10) C ci12 iw_12 kM_0 rfl wm_14_20 rfl dX12_roots_26 rfl ?_
    refine Go_icmp_ge (t := 67) (q := 32) C hw dX12_roots_29 rfl rfl (fun hw => ?_) (fun hw => ?_)
    · refine Go_lload_n (q := 68) C 1 rfl dX12_roots_67 rfl ?_
      refine Go_iload_n (q := 69) C 2 rfl dX12_roots_68 rfl ?_
      refine Go_iload (q := 71) C 3 rfl dX12_roots_69 rfl ?_
      obtain ⟨d71_4, hle_d71_4, hw⟩ := hw
      refine Go_callS_L (av := (fun ad => [.int v3, .int v4])) (st := [.long v1]) (C := C) (hM := c_X12_rootsOf (Gl G) d71_4 hR hw) (hlk := wm_36_5) (hini := wm_1_5) (hst2 := wm_36_6) (hcode := wm_36_7) (n := 2) (hd := by decide +kernel) (hr0 := ⟨rfl, rfl⟩) (hroom := ⟨by first | decide | (dsimp only; omega), by first | decide | (dsimp only; omega)⟩) (hlen := rfl) (hst := rfl) (hW := Nat.le_of_ble_eq_true rfl) (hdg := dX12_roots_71) (q := 74) (hq := rfl) (fun r71_3 S71_2 hw hR => ?_)
      refine Go_lmul (q := 75) C dX12_roots_74 rfl ?_
      refine Go_topl (fun x75_5 e_x75_5 => ?_)
      have hw := hw x75_5 e_x75_5
      refine Go_lstore_n (q := 76) (lv' := [(1, .long x75_5), (0, .ref (Gad G (0))), (3, .int v3), (4, .int v4), (5, .int v5)]) C rfl dX12_roots_75 (by decide) rfl rfl ?_
      refine Go_iinc2 (q := 79) (kp := 2) (cst := (1 : Int32)) C dX12_roots_76 rfl rfl (by decide) rfl (fun x76_6 e_x76_6 => ?_)
      have hw := hw x76_6 e_x76_6
      refine Go_lve (lv' := [(3, .int x76_6), (1, .long x75_5), (0, .ref (Gad G (0))), (4, .int v4), (5, .int v5)]) rfl ?_
      refine Go_goto (q := 9) C dX12_roots_79 rfl ?_
      refine Go_lvp [2, 1, 0] rfl ?_
      exact hk9 _ _ _ hR hw
    · refine Go_iload (q := 34) C 3 rfl dX12_roots_32 rfl ?_
      refine Go_aload_n (q := 35) C 0 rfl dX12_roots_34 rfl ?_
      refine Go_iload (q := 37) C 4 rfl dX12_roots_35 rfl ?_
      refine Go_callV_I (av := (fun ad => [.int v5])) (st := [.int v4]) (C := C) (hM := c_X12_isLeast (Gl G) hR hw) (hlk := wm_35_3) (hini := wm_1_5) (hins := wm_35_4) (hsel := wm_35_5) (hcode := wm_35_6) (ho := kM_0) (hci := rfl) (hc13 := by decide) (n := 1) (hd := by decide +kernel) (hr0 := ⟨rfl, rfl⟩) (hroom := ⟨by first | decide | (dsimp only; omega), by first | decide | (dsimp only; omega)⟩) (hlen := rfl) (hst := rfl) (hW := Nat.le_of_ble_eq_true rfl) (hdg := dX12_roots_37) (q := 40) (hq := rfl) (fun r37_8 S37_7 hw hR => ?_)
      refine Go_if_eq (t := 57) (q := 43) C hw dX12_roots_40 rfl rfl (fun hw => ?_) (fun hw => ?_)
      · refine Go_lvp [0, 1, 2, 4] rfl ?_
        exact g_X12_roots_57 C hQ _ _ _ _ hk23 hR hw
      · refine Go_aload_n (q := 44) C 0 rfl dX12_roots_43 rfl ?_
        refine Go_iload (q := 46) C 4 rfl dX12_roots_44 rfl ?_
        refine Go_callV_I (av := (fun ad => [.int v5])) (st := [.int v4]) (C := C) (hM := c_X12_cycleOf (Gl G) hR hw) (hlk := wm_32_6) (hini := wm_1_5) (hins := wm_32_7) (hsel := wm_32_8) (hcode := wm_32_9) (ho := kM_0) (hci := rfl) (hc13 := by decide) (n := 1) (hd := by decide +kernel) (hr0 := ⟨rfl, rfl⟩) (hroom := ⟨by first | decide | (dsimp only; omega), by first | decide | (dsimp only; omega)⟩) (hlen := rfl) (hst := rfl) (hW := Nat.le_of_ble_eq_true rfl) (hdg := dX12_roots_46) (q := 49) (hq := rfl) (fun r46_12 S46_11 hw hR => ?_)
        refine Go_iload_n (q := 50) C 2 rfl dX12_roots_49 rfl ?_
        refine Go_icmp_ne (t := 57) (q := 53) C hw dX12_roots_50 rfl rfl (fun hw => ?_) (fun hw => ?_)
        · refine Go_iconst (q := 54) (v := (1 : Int32)) C dX12_roots_53 rfl rfl ?_
          refine Go_goto (q := 58) C dX12_roots_54 rfl ?_
          refine Go_lvp [0, 1, 2, 4] rfl ?_
          exact g_X12_roots_58 C hQ _ _ _ _ _ hk23 hR hw
        · refine Go_lvp [0, 1, 2, 4] rfl ?_
          exact g_X12_roots_57 C hQ _ _ _ _ hk23 hR hw
set_option maxRecDepth 100000 in
set_option maxHeartbeats 4000000 in
theorem g_X12_roots_9 {G : GC} (C : Cx G cX12_roots BIG RX12 6 (some .long) rm_X12_roots shM NM) {Q : Int64 → St → Prop} (hQ : QL G RCM Q) (v1 : Int64) (v3 : Int32) {S : St} (hR : RCM S) (hw : w_X12_roots_9 Q v1 v3 S) : Go G 6 9 [] [(0, .ref (Gad G (0))), (1, .long v1), (3, .int v3)] S := by
  obtain ⟨n, hw⟩ := hw
  induction n generalizing v1 v3 S with
  | zero => exact hw.elim
  | succ n ih =>
    have hw : b_X12_roots_9 Q (lpn (fun _ _ _ => False) (b_X12_roots_9 Q) n) v1 v3 S := hw
    generalize lpn (fun _ _ _ => False) (b_X12_roots_9 Q) n = kf at hw ih
    have hk9 := fun (v1 : Int64) (v3 : Int32) (S : St) (hR : RCM S) hw => ih v1 v3 hR hw
    unfold b_X12_roots_9 at hw
    refine Go_iload_n (q := 10) C 2 rfl dX12_roots_9 rfl ?_
    refine Go_aload_n (q := 11) C 0 rfl dX12_roots_10 rfl ?_
    refine Go_getI (q := 14) (k := 10) C ci12 iw_12 kM_0 rfl wm_14_20 rfl dX12_roots_11 rfl ?_
    refine Go_icmp_gt (t := 82) (q := 17) C hw dX12_roots_14 rfl rfl (fun hw => ?_) (fun hw => ?_)
    · refine Go_lload_n (q := 83) C 1 rfl dX12_roots_82 rfl ?_
      exact Go_lret C hQ hR hw dX12_roots_83
    · refine Go_iconst (q := 18) (v := (0 : Int32)) C dX12_roots_17 rfl rfl ?_
      refine Go_istore (q := 20) (lv' := [(4, .int (0 : Int32)), (0, .ref (Gad G (0))), (1, .long v1), (3, .int v3)]) C dX12_roots_18 (by decide) rfl rfl ?_
      refine Go_iconst (q := 21) (v := (0 : Int32)) C dX12_roots_20 rfl rfl ?_
      refine Go_istore (q := 23) (lv' := [(5, .int (0 : Int32)), (4, .int (0 : Int32)), (0, .ref (Gad G (0))), (1, .long v1), (3, .int v3)]) C dX12_roots_21 (by decide) rfl rfl ?_
      refine Go_lvp [2, 3, 4, 1, 0] rfl ?_
      exact g_X12_roots_23 C hQ _ _ hk9 _ _ hR hw
set_option maxRecDepth 100000 in
set_option maxHeartbeats 4000000 in
theorem c_X12_roots (l : Launch) {S : St} {Q : Int64 → St → Prop} (hR : RCM S) (hw : w_X12_roots S Q) : MetL l yX12_roots (wB yX12_roots cX12_roots 6 (some .long)) rm_X12_roots shM NM RCM (fun ad => [.ref (ad (0))]) S Q := by
  refine MetL_of (cc := cX12_roots) (maxL := 6) (ret := (some .long)) (plainFor_of_name (by decide)) (fun _ => Nat.le_of_ble_eq_true rfl) (fun G C hl hQ => ?_)
  subst hl
  have C : Cx G cX12_roots BIG RX12 6 (some .long) rm_X12_roots shM NM := C
  show Go G 6 0 [] [(0, .ref (Gad G (0)))] S
  unfold w_X12_roots at hw
  refine Go_aload_n (q := 1) C 0 rfl dX12_roots_0 rfl ?_
  refine Go_iconst (q := 2) (v := (0 : Int32)) C dX12_roots_1 rfl rfl ?_
  refine Go_putI (q := 5) (k := 0) C ci12 iw_12 kM_0 rfl wm_15_14 rfl rfl (ci12.2.2.2.1 0 (by decide)) rfl rfl dX12_roots_2 rfl ?_
  refine Go_S (fun S2_1 e_S2_1 => ?_)
  have hw := hw S2_1 e_S2_1
  have hR := rcM e_S2_1 hR
  refine Go_lconst (q := 6) (v := (1 : Int64)) C dX12_roots_5 rfl rfl ?_
  refine Go_lstore_n (q := 7) (lv' := [(1, .long (1 : Int64)), (0, .ref (Gad G (0)))]) C rfl dX12_roots_6 (by decide) rfl rfl ?_
  refine Go_iconst (q := 8) (v := (1 : Int32)) C dX12_roots_7 rfl rfl ?_
  refine Go_istore_n (q := 9) (lv' := [(3, .int (1 : Int32)), (1, .long (1 : Int64)), (0, .ref (Gad G (0)))]) C rfl dX12_roots_8 (by decide) rfl rfl ?_
  refine Go_lvp [2, 1, 0] rfl ?_
  exact g_X12_roots_9 C hQ _ _ hR hw
-- X12_spiral
abbrev rm_X12_spiral : Room := { frames := 1, cells := 0, slots := 0, locals := 22 }
set_option maxRecDepth 100000 in
set_option maxHeartbeats 4000000 in
theorem g_X12_spiral_256 {G : GC} (C : Cx G cX12_spiral BIG RX12 9 (some .int) rm_X12_spiral shM NM) {Q : Int32 → St → Prop} (hQ : QI G RCM Q) (v5 : Int64) (v7 : Int32) {S : St} (hR : RCM S) (hw : w_X12_spiral_256 Q v5 v7 S) : Go G 9 256 [] [(0, .ref (Gad G (0))), (5, .long v5), (7, .int v7)] S := by
  obtain ⟨n, hw⟩ := hw
  induction n generalizing v5 v7 S with
  | zero => exact hw.elim
  | succ n ih =>
    have hw : b_X12_spiral_256 Q (lpn (fun _ _ _ => False) (b_X12_spiral_256 Q) n) v5 v7 S := hw
    generalize lpn (fun _ _ _ => False) (b_X12_spiral_256 Q) n = kf at hw ih
    have hk256 := fun (v5 : Int64) (v7 : Int32) (S : St) (hR : RCM S) hw => ih v5 v7 hR hw
    unfold b_X12_spiral_256 at hw
    refine Go_iload (q := 258) C 2 rfl dX12_spiral_256 rfl ?_
    refine Go_sipush (q := 261) (v := (200 : Int32)) C dX12_spiral_258 rfl rfl ?_
    refine Go_icmp_gt (t := 287) (q := 264) C hw dX12_spiral_261 rfl rfl (fun hw => ?_) (fun hw => ?_)
    · refine Go_lload (q := 289) C 1 rfl dX12_spiral_287 rfl ?_
      refine Go_l2i (q := 290) C dX12_spiral_289 rfl ?_
      exact Go_iret C hQ hR hw dX12_spiral_290
    · refine Go_lload (q := 266) C 1 rfl dX12_spiral_264 rfl ?_
      refine Go_aload_n (q := 267) C 0 rfl dX12_spiral_266 rfl ?_
      refine Go_getA (q := 270) (k := 59) C ci12 iw_12 kM_0 (rM_0_59 hR) rfl wm_14_8 rfl dX12_spiral_267 rfl ?_
      refine Go_iload (q := 272) C 2 rfl dX12_spiral_270 rfl ?_
      obtain ⟨hin, hw⟩ := hw
      refine Go_iaload (q := 273) C kM_36 hin dX12_spiral_272 rfl ?_
      refine Go_i2l (q := 274) C dX12_spiral_273 rfl ?_
      refine Go_lmul (q := 275) C dX12_spiral_274 rfl ?_
      refine Go_ldc2 (q := 278) (v := (1000000007 : Int64)) C wm_36_20 dX12_spiral_275 rfl ?_
      refine Go_lrem (q := 279) C (by decide) dX12_spiral_278 rfl ?_
      refine Go_topl (fun x279_6 e_x279_6 => ?_)
      have hw := hw x279_6 e_x279_6
      refine Go_lstore (q := 281) (lv' := [(5, .long x279_6), (0, .ref (Gad G (0))), (7, .int v7)]) C dX12_spiral_279 (by decide) rfl rfl ?_
      refine Go_iinc2 (q := 284) (kp := 2) (cst := (1 : Int32)) C dX12_spiral_281 rfl rfl (by decide) rfl (fun x281_7 e_x281_7 => ?_)
      have hw := hw x281_7 e_x281_7
      refine Go_lve (lv' := [(7, .int x281_7), (5, .long x279_6), (0, .ref (Gad G (0)))]) rfl ?_
      refine Go_goto (q := 256) C dX12_spiral_284 rfl ?_
      refine Go_lvp [2, 1, 0] rfl ?_
      exact hk256 _ _ _ hR hw
set_option maxRecDepth 100000 in
set_option maxHeartbeats 4000000 in
theorem g_X12_spiral_178 {G : GC} (C : Cx G cX12_spiral BIG RX12 9 (some .int) rm_X12_spiral shM NM) {Q : Int32 → St → Prop} (hQ : QI G RCM Q) (p0 : Int32) (p1 : Int32) (v3 : Int32) (v4 : Int32) (v5 : Int32) (v7 : Int32) {k169 : Int32 → Int32 → St → Prop} (hk169 : ∀ (v6 : Int32) (v7 : Int32) (S : St), RCM S → k169 v6 v7 S → Go G 9 169 [] [(0, .ref (Gad G (0))), (1, .int p0), (2, .int p1), (3, .int v3), (4, .int v4), (5, .int v5), (6, .int v6), (7, .int v7)] S) (v6 : Int32) (v8 : Int32) {S : St} (hR : RCM S) (hw : w_X12_spiral_178 p0 p1 k169 v3 v4 v5 v7 v6 v8 S) : Go G 9 178 [] [(0, .ref (Gad G (0))), (1, .int p0), (2, .int p1), (3, .int v3), (4, .int v4), (5, .int v5), (6, .int v6), (7, .int v7), (8, .int v8)] S := by
  obtain ⟨n, hw⟩ := hw
  induction n generalizing v6 v8 S with
  | zero => exact hw.elim
  | succ n ih =>
    have hw : b_X12_spiral_178 p0 p1 k169 v3 v4 v5 v7 (lpn (fun _ _ _ => False) (b_X12_spiral_178 p0 p1 k169 v3 v4 v5 v7) n) v6 v8 S := hw
    generalize lpn (fun _ _ _ => False) (b_X12_spiral_178 p0 p1 k169 v3 v4 v5 v7) n = kf at hw ih
    have hk178 := fun (v6 : Int32) (v8 : Int32) (S : St) (hR : RCM S) hw => ih v6 v8 hR hw
    unfold b_X12_spiral_178 at hw
    refine Go_iload (q := 180) C 6 rfl dX12_spiral_178 rfl ?_
    refine Go_iload (q := 182) C 7 rfl dX12_spiral_180 rfl ?_
    obtain ⟨hne, hw⟩ := hw
    refine Go_irem (q := 183) C hne dX12_spiral_182 rfl ?_
    refine Go_if_ne (t := 203) (q := 186) C hw dX12_spiral_183 rfl rfl (fun hw => ?_) (fun hw => ?_)
    · refine Go_iload (q := 188) C 6 rfl dX12_spiral_186 rfl ?_
      refine Go_iload (q := 190) C 7 rfl dX12_spiral_188 rfl ?_
      obtain ⟨hne, hw⟩ := hw
      refine Go_idiv (q := 191) C hne dX12_spiral_190 rfl ?_
      refine Go_topi (fun x191_16 e_x191_16 => ?_)
      have hw := hw x191_16 e_x191_16
      refine Go_istore (q := 193) (lv' := [(6, .int x191_16), (0, .ref (Gad G (0))), (1, .int p0), (2, .int p1), (3, .int v3), (4, .int v4), (5, .int v5), (7, .int v7), (8, .int v8)]) C dX12_spiral_191 (by decide) rfl rfl ?_
      refine Go_iload (q := 195) C 8 rfl dX12_spiral_193 rfl ?_
      refine Go_iload (q := 197) C 7 rfl dX12_spiral_195 rfl ?_
      refine Go_imul (q := 198) C dX12_spiral_197 rfl ?_
      refine Go_topi (fun x198_17 e_x198_17 => ?_)
      have hw := hw x198_17 e_x198_17
      refine Go_istore (q := 200) (lv' := [(8, .int x198_17), (6, .int x191_16), (0, .ref (Gad G (0))), (1, .int p0), (2, .int p1), (3, .int v3), (4, .int v4), (5, .int v5), (7, .int v7)]) C dX12_spiral_198 (by decide) rfl rfl ?_
      refine Go_goto (q := 178) C dX12_spiral_200 rfl ?_
      refine Go_lvp [2, 3, 4, 5, 6, 7, 1, 8, 0] rfl ?_
      exact hk178 _ _ _ hR hw
    · refine Go_aload_n (q := 204) C 0 rfl dX12_spiral_203 rfl ?_
      refine Go_getA (q := 207) (k := 59) C ci12 iw_12 kM_0 (rM_0_59 hR) rfl wm_14_8 rfl dX12_spiral_204 rfl ?_
      refine Go_iload (q := 209) C 7 rfl dX12_spiral_207 rfl ?_
      refine Go_aload_n (q := 210) C 0 rfl dX12_spiral_209 rfl ?_
      refine Go_getA (q := 213) (k := 59) C ci12 iw_12 kM_0 (rM_0_59 hR) rfl wm_14_8 rfl dX12_spiral_210 rfl ?_
      refine Go_iload (q := 215) C 7 rfl dX12_spiral_213 rfl ?_
      obtain ⟨hin, hw⟩ := hw
      refine Go_iaload (q := 216) C kM_36 hin dX12_spiral_215 rfl ?_
      refine Go_iload (q := 218) C 8 rfl dX12_spiral_216 rfl ?_
      refine Go_mmax (q := 221) C wm_35_2 wm_11_14 wm_11_15 wm_11_16 (by first | decide | (dsimp only; omega)) (Nat.le_of_ble_eq_true rfl) dX12_spiral_218 rfl ?_
      obtain ⟨hin, hw⟩ := hw
      refine Go_iastore (q := 222) C kM_36 hin dX12_spiral_221 rfl ?_
      refine Go_S (fun S221_18 e_S221_18 => ?_)
      have hw := hw S221_18 e_S221_18
      have hR := rcM e_S221_18 hR
      refine Go_iinc2 (q := 225) (kp := 7) (cst := (1 : Int32)) C dX12_spiral_222 rfl rfl (by decide) rfl (fun x222_19 e_x222_19 => ?_)
      have hw := hw x222_19 e_x222_19
      refine Go_lve (lv' := [(7, .int x222_19), (0, .ref (Gad G (0))), (1, .int p0), (2, .int p1), (3, .int v3), (4, .int v4), (5, .int v5), (6, .int v6), (8, .int v8)]) rfl ?_
      refine Go_goto (q := 169) C dX12_spiral_225 rfl ?_
      refine Go_lvp [1, 2, 3, 4, 5, 6, 7, 0] rfl ?_
      exact hk169 _ _ _ hR hw
set_option maxRecDepth 100000 in
set_option maxHeartbeats 4000000 in
theorem g_X12_spiral_169 {G : GC} (C : Cx G cX12_spiral BIG RX12 9 (some .int) rm_X12_spiral shM NM) {Q : Int32 → St → Prop} (hQ : QI G RCM Q) (p0 : Int32) (p1 : Int32) (v3 : Int32) (v4 : Int32) (v5 : Int32) {k85 : Int32 → Int32 → Int32 → St → Prop} (hk85 : ∀ (v3 : Int32) (v4 : Int32) (v5 : Int32) (S : St), RCM S → k85 v3 v4 v5 S → Go G 9 85 [] [(0, .ref (Gad G (0))), (1, .int p0), (2, .int p1), (3, .int v3), (4, .int v4), (5, .int v5)] S) (v6 : Int32) (v7 : Int32) {S : St} (hR : RCM S) (hw : w_X12_spiral_169 p0 p1 k85 v3 v4 v5 v6 v7 S) : Go G 9 169 [] [(0, .ref (Gad G (0))), (1, .int p0), (2, .int p1), (3, .int v3), (4, .int v4), (5, .int v5), (6, .int v6), (7, .int v7)] S := by
  obtain ⟨n, hw⟩ := hw
  induction n generalizing v6 v7 S with
  | zero => exact hw.elim
  | succ n ih =>
    have hw : b_X12_spiral_169 p0 p1 k85 v3 v4 v5 (lpn (fun _ _ _ => False) (b_X12_spiral_169 p0 p1 k85 v3 v4 v5) n) v6 v7 S := hw
    generalize lpn (fun _ _ _ => False) (b_X12_spiral_169 p0 p1 k85 v3 v4 v5) n = kf at hw ih
    have hk169 := fun (v6 : Int32) (v7 : Int32) (S : St) (hR : RCM S) hw => ih v6 v7 hR hw
    unfold b_X12_spiral_169 at hw
    refine Go_iload (q := 171) C 6 rfl dX12_spiral_169 rfl ?_
    refine Go_iconst (q := 172) (v := (1 : Int32)) C dX12_spiral_171 rfl rfl ?_
    refine Go_icmp_le (t := 228) (q := 175) C hw dX12_spiral_172 rfl rfl (fun hw => ?_) (fun hw => ?_)
    · refine Go_iinc2 (q := 231) (kp := 5) (cst := (1 : Int32)) C dX12_spiral_228 rfl rfl (by decide) rfl (fun x228_15 e_x228_15 => ?_)
      have hw := hw x228_15 e_x228_15
      refine Go_lve (lv' := [(5, .int x228_15), (0, .ref (Gad G (0))), (1, .int p0), (2, .int p1), (3, .int v3), (4, .int v4), (6, .int v6), (7, .int v7)]) rfl ?_
      refine Go_goto (q := 85) C dX12_spiral_231 rfl ?_
      refine Go_lvp [1, 2, 3, 4, 5, 0] rfl ?_
      exact hk85 _ _ _ _ hR hw
    · refine Go_iconst (q := 176) (v := (1 : Int32)) C dX12_spiral_175 rfl rfl ?_
      refine Go_istore (q := 178) (lv' := [(8, .int (1 : Int32)), (0, .ref (Gad G (0))), (1, .int p0), (2, .int p1), (3, .int v3), (4, .int v4), (5, .int v5), (6, .int v6), (7, .int v7)]) C dX12_spiral_176 (by decide) rfl rfl ?_
      refine Go_lvp [1, 2, 3, 4, 5, 6, 7, 8, 0] rfl ?_
      exact g_X12_spiral_178 C hQ p0 p1 _ _ _ _ hk169 _ _ hR hw
set_option maxRecDepth 100000 in
set_option maxHeartbeats 4000000 in
theorem g_X12_spiral_98 {G : GC} (C : Cx G cX12_spiral BIG RX12 9 (some .int) rm_X12_spiral shM NM) {Q : Int32 → St → Prop} (hQ : QI G RCM Q) (p0 : Int32) (p1 : Int32) (v3 : Int32) (v4 : Int32) (v5 : Int32) {k85 : Int32 → Int32 → Int32 → St → Prop} (hk85 : ∀ (v3 : Int32) (v4 : Int32) (v5 : Int32) (S : St), RCM S → k85 v3 v4 v5 S → Go G 9 85 [] [(0, .ref (Gad G (0))), (1, .int p0), (2, .int p1), (3, .int v3), (4, .int v4), (5, .int v5)] S) (v6 : Int32) (v7 : Int32) {S : St} (hR : RCM S) (hw : w_X12_spiral_98 p0 p1 k85 v3 v4 v5 v6 v7 S) : Go G 9 98 [] [(0, .ref (Gad G (0))), (1, .int p0), (2, .int p1), (3, .int v3), (4, .int v4), (5, .int v5), (6, .int v6), (7, .int v7)] S := by
  obtain ⟨n, hw⟩ := hw
  induction n generalizing v6 v7 S with
  | zero => exact hw.elim
  | succ n ih =>
    have hw : b_X12_spiral_98 p0 p1 k85 v3 v4 v5 (lpn (fun _ _ _ => False) (b_X12_spiral_98 p0 p1 k85 v3 v4 v5) n) v6 v7 S := hw
    generalize lpn (fun _ _ _ => False) (b_X12_spiral_98 p0 p1 k85 v3 v4 v5) n = kf at hw ih
    have hk98 := fun (v6 : Int32) (v7 : Int32) (S : St) (hR : RCM S) hw => ih v6 v7 hR hw
    unfold b_X12_spiral_98 at hw
    refine Go_aload_n (q := 99) C 0 rfl dX12_spiral_98 rfl ?_
    refine Go_getA (q := 102) (k := 58) C ci12 iw_12 kM_0 (rM_0_58 hR) rfl wm_14_7 rfl dX12_spiral_99 rfl ?_
    refine Go_iload (q := 104) C 7 rfl dX12_spiral_102 rfl ?_
    obtain ⟨hin, hw⟩ := hw
    refine Go_zaload (q := 105) C kM_35 hin dX12_spiral_104 rfl ?_
    refine Go_if_ne (t := 146) (q := 108) C hw dX12_spiral_105 rfl rfl (fun hw => ?_) (fun hw => ?_)
    · refine Go_aload_n (q := 109) C 0 rfl dX12_spiral_108 rfl ?_
      refine Go_getA (q := 112) (k := 58) C ci12 iw_12 kM_0 (rM_0_58 hR) rfl wm_14_7 rfl dX12_spiral_109 rfl ?_
      refine Go_iload (q := 114) C 7 rfl dX12_spiral_112 rfl ?_
      refine Go_iconst (q := 115) (v := (1 : Int32)) C dX12_spiral_114 rfl rfl ?_
      obtain ⟨hin, hw⟩ := hw
      refine Go_zastore2 (q := 116) C kM_35 hin (by decide) dX12_spiral_115 rfl ?_
      refine Go_S (fun S115_8 e_S115_8 => ?_)
      have hw := hw S115_8 e_S115_8
      have hR := rcM e_S115_8 hR
      refine Go_iinc2 (q := 119) (kp := 6) (cst := (1 : Int32)) C dX12_spiral_116 rfl rfl (by decide) rfl (fun x116_9 e_x116_9 => ?_)
      have hw := hw x116_9 e_x116_9
      refine Go_lve (lv' := [(6, .int x116_9), (0, .ref (Gad G (0))), (1, .int p0), (2, .int p1), (3, .int v3), (4, .int v4), (5, .int v5), (7, .int v7)]) rfl ?_
      refine Go_iload (q := 121) C 7 rfl dX12_spiral_119 rfl ?_
      refine Go_iconst (q := 122) (v := (2 : Int32)) C dX12_spiral_121 rfl rfl ?_
      refine Go_irem (q := 123) C (by decide) dX12_spiral_122 rfl ?_
      refine Go_if_ne (t := 137) (q := 126) C hw dX12_spiral_123 rfl rfl (fun hw => ?_) (fun hw => ?_)
      · refine Go_iload_n (q := 127) C 2 rfl dX12_spiral_126 rfl ?_
        refine Go_iconst (q := 128) (v := (1 : Int32)) C dX12_spiral_127 rfl rfl ?_
        refine Go_isub (q := 129) C dX12_spiral_128 rfl ?_
        refine Go_iload (q := 131) C 7 rfl dX12_spiral_129 rfl ?_
        refine Go_iconst (q := 132) (v := (2 : Int32)) C dX12_spiral_131 rfl rfl ?_
        refine Go_idiv (q := 133) C (by decide) dX12_spiral_132 rfl ?_
        refine Go_isub (q := 134) C dX12_spiral_133 rfl ?_
        refine Go_goto (q := 141) C dX12_spiral_134 rfl ?_
        refine Go_topi (fun x141_10 e_x141_10 => ?_)
        have hw := hw x141_10 e_x141_10
        refine Go_istore (q := 143) (lv' := [(7, .int x141_10), (6, .int x116_9), (0, .ref (Gad G (0))), (1, .int p0), (2, .int p1), (3, .int v3), (4, .int v4), (5, .int v5)]) C dX12_spiral_141 (by decide) rfl rfl ?_
        refine Go_goto (q := 98) C dX12_spiral_143 rfl ?_
        refine Go_lvp [2, 3, 4, 5, 6, 7, 1, 0] rfl ?_
        exact hk98 _ _ _ hR hw
      · refine Go_iload (q := 139) C 7 rfl dX12_spiral_137 rfl ?_
        refine Go_iconst (q := 140) (v := (2 : Int32)) C dX12_spiral_139 rfl rfl ?_
        refine Go_idiv (q := 141) C (by decide) dX12_spiral_140 rfl ?_
        refine Go_topi (fun x141_11 e_x141_11 => ?_)
        have hw := hw x141_11 e_x141_11
        refine Go_istore (q := 143) (lv' := [(7, .int x141_11), (6, .int x116_9), (0, .ref (Gad G (0))), (1, .int p0), (2, .int p1), (3, .int v3), (4, .int v4), (5, .int v5)]) C dX12_spiral_141 (by decide) rfl rfl ?_
        refine Go_goto (q := 98) C dX12_spiral_143 rfl ?_
        refine Go_lvp [2, 3, 4, 5, 6, 7, 1, 0] rfl ?_
        exact hk98 _ _ _ hR hw
    · refine Go_iload (q := 148) C 6 rfl dX12_spiral_146 rfl ?_
      refine Go_if_ne (t := 154) (q := 151) C hw dX12_spiral_148 rfl rfl (fun hw => ?_) (fun hw => ?_)
      · refine Go_goto (q := 228) C dX12_spiral_151 rfl ?_
        refine Go_iinc2 (q := 231) (kp := 5) (cst := (1 : Int32)) C dX12_spiral_228 rfl rfl (by decide) rfl (fun x228_12 e_x228_12 => ?_)
        have hw := hw x228_12 e_x228_12
        refine Go_lve (lv' := [(5, .int x228_12), (0, .ref (Gad G (0))), (1, .int p0), (2, .int p1), (3, .int v3), (4, .int v4), (6, .int v6), (7, .int v7)]) rfl ?_
        refine Go_goto (q := 85) C dX12_spiral_231 rfl ?_
        refine Go_lvp [1, 2, 3, 4, 5, 0] rfl ?_
        exact hk85 _ _ _ _ hR hw
      · refine Go_iinc2 (q := 157) (kp := 3) (cst := (1 : Int32)) C dX12_spiral_154 rfl rfl (by decide) rfl (fun x154_13 e_x154_13 => ?_)
        have hw := hw x154_13 e_x154_13
        refine Go_lve (lv' := [(3, .int x154_13), (0, .ref (Gad G (0))), (1, .int p0), (2, .int p1), (4, .int v4), (5, .int v5), (6, .int v6), (7, .int v7)]) rfl ?_
        refine Go_iload (q := 159) C 4 rfl dX12_spiral_157 rfl ?_
        refine Go_iload (q := 161) C 6 rfl dX12_spiral_159 rfl ?_
        refine Go_mmax (q := 164) C wm_35_2 wm_11_14 wm_11_15 wm_11_16 (by first | decide | (dsimp only; omega)) (Nat.le_of_ble_eq_true rfl) dX12_spiral_161 rfl ?_
        refine Go_topi (fun x164_14 e_x164_14 => ?_)
        have hw := hw x164_14 e_x164_14
        refine Go_istore (q := 166) (lv' := [(4, .int x164_14), (3, .int x154_13), (0, .ref (Gad G (0))), (1, .int p0), (2, .int p1), (5, .int v5), (6, .int v6), (7, .int v7)]) C dX12_spiral_164 (by decide) rfl rfl ?_
        refine Go_iconst (q := 167) (v := (2 : Int32)) C dX12_spiral_166 rfl rfl ?_
        refine Go_istore (q := 169) (lv' := [(7, .int (2 : Int32)), (4, .int x164_14), (3, .int x154_13), (0, .ref (Gad G (0))), (1, .int p0), (2, .int p1), (5, .int v5), (6, .int v6)]) C dX12_spiral_167 (by decide) rfl rfl ?_
        refine Go_lvp [3, 4, 5, 2, 1, 6, 7, 0] rfl ?_
        exact g_X12_spiral_169 C hQ p0 p1 _ _ _ hk85 _ _ hR hw
set_option maxRecDepth 100000 in
set_option maxHeartbeats 4000000 in
theorem g_X12_spiral_85 {G : GC} (C : Cx G cX12_spiral BIG RX12 9 (some .int) rm_X12_spiral shM NM) {Q : Int32 → St → Prop} (hQ : QI G RCM Q) (p0 : Int32) (p1 : Int32) (v3 : Int32) (v4 : Int32) (v5 : Int32) {S : St} (hR : RCM S) (hw : w_X12_spiral_85 p0 p1 Q v3 v4 v5 S) : Go G 9 85 [] [(0, .ref (Gad G (0))), (1, .int p0), (2, .int p1), (3, .int v3), (4, .int v4), (5, .int v5)] S := by
  obtain ⟨n, hw⟩ := hw
  induction n generalizing v3 v4 v5 S with
  | zero => exact hw.elim
  | succ n ih =>
    have hw : b_X12_spiral_85 p0 p1 Q (lpn (fun _ _ _ _ => False) (b_X12_spiral_85 p0 p1 Q) n) v3 v4 v5 S := hw
    generalize lpn (fun _ _ _ _ => False) (b_X12_spiral_85 p0 p1 Q) n = kf at hw ih
    have hk85 := fun (v3 : Int32) (v4 : Int32) (v5 : Int32) (S : St) (hR : RCM S) hw => ih v3 v4 v5 hR hw
    unfold b_X12_spiral_85 at hw
    refine Go_iload (q := 87) C 5 rfl dX12_spiral_85 rfl ?_
    refine Go_iload_n (q := 88) C 1 rfl dX12_spiral_87 rfl ?_
    refine Go_icmp_ge (t := 234) (q := 91) C hw dX12_spiral_88 rfl rfl (fun hw => ?_) (fun hw => ?_)
    · refine Go_iload_n (q := 235) C 2 rfl dX12_spiral_234 rfl ?_
      refine Go_iconst (q := 236) (v := (2 : Int32)) C dX12_spiral_235 rfl rfl ?_
      refine Go_icmp_ge (t := 250) (q := 239) C hw dX12_spiral_236 rfl rfl (fun hw => ?_) (fun hw => ?_)
      · refine Go_lconst (q := 251) (v := (1 : Int64)) C dX12_spiral_250 rfl rfl ?_
        refine Go_lstore (q := 253) (lv' := [(5, .long (1 : Int64)), (0, .ref (Gad G (0))), (1, .int p0), (2, .int p1), (3, .int v3), (4, .int v4)]) C dX12_spiral_251 (by decide) rfl rfl ?_
        refine Go_iconst (q := 254) (v := (2 : Int32)) C dX12_spiral_253 rfl rfl ?_
        refine Go_istore (q := 256) (lv' := [(7, .int (2 : Int32)), (5, .long (1 : Int64)), (0, .ref (Gad G (0))), (1, .int p0), (2, .int p1), (3, .int v3), (4, .int v4)]) C dX12_spiral_254 (by decide) rfl rfl ?_
        refine Go_lvp [2, 1, 0] rfl ?_
        exact g_X12_spiral_256 C hQ _ _ hR hw
      · refine Go_iload_n (q := 240) C 2 rfl dX12_spiral_239 rfl ?_
        refine Go_if_ne (t := 247) (q := 243) C hw dX12_spiral_240 rfl rfl (fun hw => ?_) (fun hw => ?_)
        · refine Go_iload_n (q := 244) C 3 rfl dX12_spiral_243 rfl ?_
          refine Go_goto (q := 249) C dX12_spiral_244 rfl ?_
          exact Go_iret C hQ hR hw dX12_spiral_249
        · refine Go_iload (q := 249) C 4 rfl dX12_spiral_247 rfl ?_
          exact Go_iret C hQ hR hw dX12_spiral_249
    · refine Go_iconst (q := 92) (v := (0 : Int32)) C dX12_spiral_91 rfl rfl ?_
      refine Go_istore (q := 94) (lv' := [(6, .int (0 : Int32)), (0, .ref (Gad G (0))), (1, .int p0), (2, .int p1), (3, .int v3), (4, .int v4), (5, .int v5)]) C dX12_spiral_92 (by decide) rfl rfl ?_
      refine Go_iload (q := 96) C 6 rfl dX12_spiral_94 rfl ?_
      refine Go_istore (q := 98) (lv' := [(7, .int v5), (6, .int (0 : Int32)), (0, .ref (Gad G (0))), (1, .int p0), (2, .int p1), (3, .int v3), (4, .int v4), (5, .int v5)]) C dX12_spiral_96 (by decide) rfl rfl ?_
      refine Go_lvp [2, 3, 4, 5, 6, 7, 1, 0] rfl ?_
      exact g_X12_spiral_98 C hQ p0 p1 _ _ _ hk85 _ _ hR hw
set_option maxRecDepth 100000 in
set_option maxHeartbeats 4000000 in
theorem g_X12_spiral_60 {G : GC} (C : Cx G cX12_spiral BIG RX12 9 (some .int) rm_X12_spiral shM NM) {Q : Int32 → St → Prop} (hQ : QI G RCM Q) (p0 : Int32) (p1 : Int32) (v3 : Int32) (v4 : Int32) (v5 : Int32) {S : St} (hR : RCM S) (hw : w_X12_spiral_60 p0 p1 Q v3 v4 v5 S) : Go G 9 60 [] [(0, .ref (Gad G (0))), (1, .int p0), (2, .int p1), (3, .int v3), (4, .int v4), (5, .int v5)] S := by
  obtain ⟨n, hw⟩ := hw
  induction n generalizing v5 S with
  | zero => exact hw.elim
  | succ n ih =>
    have hw : b_X12_spiral_60 p0 p1 Q v3 v4 (lpn (fun _ _ => False) (b_X12_spiral_60 p0 p1 Q v3 v4) n) v5 S := hw
    generalize lpn (fun _ _ => False) (b_X12_spiral_60 p0 p1 Q v3 v4) n = kf at hw ih
    have hk60 := fun (v5 : Int32) (S : St) (hR : RCM S) hw => ih v5 hR hw
    unfold b_X12_spiral_60 at hw
    refine Go_iload (q := 62) C 5 rfl dX12_spiral_60 rfl ?_
    refine Go_sipush (q := 65) (v := (200 : Int32)) C dX12_spiral_62 rfl rfl ?_
    refine Go_icmp_ge (t := 82) (q := 68) C hw dX12_spiral_65 rfl rfl (fun hw => ?_) (fun hw => ?_)
    · refine Go_iconst (q := 83) (v := (0 : Int32)) C dX12_spiral_82 rfl rfl ?_
      refine Go_istore (q := 85) (lv' := [(5, .int (0 : Int32)), (0, .ref (Gad G (0))), (1, .int p0), (2, .int p1), (3, .int v3), (4, .int v4)]) C dX12_spiral_83 (by decide) rfl rfl ?_
      refine Go_lvp [1, 2, 3, 4, 5, 0] rfl ?_
      exact g_X12_spiral_85 C hQ p0 p1 _ _ _ hR hw
    · refine Go_aload_n (q := 69) C 0 rfl dX12_spiral_68 rfl ?_
      refine Go_getA (q := 72) (k := 58) C ci12 iw_12 kM_0 (rM_0_58 hR) rfl wm_14_7 rfl dX12_spiral_69 rfl ?_
      refine Go_iload (q := 74) C 5 rfl dX12_spiral_72 rfl ?_
      refine Go_iconst (q := 75) (v := (0 : Int32)) C dX12_spiral_74 rfl rfl ?_
      obtain ⟨hin, hw⟩ := hw
      refine Go_zastore2 (q := 76) C kM_35 hin (by decide) dX12_spiral_75 rfl ?_
      refine Go_S (fun S75_20 e_S75_20 => ?_)
      have hw := hw S75_20 e_S75_20
      have hR := rcM e_S75_20 hR
      refine Go_iinc2 (q := 79) (kp := 5) (cst := (1 : Int32)) C dX12_spiral_76 rfl rfl (by decide) rfl (fun x76_21 e_x76_21 => ?_)
      have hw := hw x76_21 e_x76_21
      refine Go_lve (lv' := [(5, .int x76_21), (0, .ref (Gad G (0))), (1, .int p0), (2, .int p1), (3, .int v3), (4, .int v4)]) rfl ?_
      refine Go_goto (q := 60) C dX12_spiral_79 rfl ?_
      refine Go_lvp [1, 2, 3, 4, 5, 0] rfl ?_
      exact hk60 _ _ hR hw
set_option maxRecDepth 100000 in
set_option maxHeartbeats 4000000 in
theorem g_X12_spiral_35 {G : GC} (C : Cx G cX12_spiral BIG RX12 9 (some .int) rm_X12_spiral shM NM) {Q : Int32 → St → Prop} (hQ : QI G RCM Q) (p0 : Int32) (p1 : Int32) (v3 : Int32) (v4 : Int32) (v5 : Int32) {S : St} (hR : RCM S) (hw : w_X12_spiral_35 p0 p1 Q v3 v4 v5 S) : Go G 9 35 [] [(0, .ref (Gad G (0))), (1, .int p0), (2, .int p1), (3, .int v3), (4, .int v4), (5, .int v5)] S := by
  obtain ⟨n, hw⟩ := hw
  induction n generalizing v5 S with
  | zero => exact hw.elim
  | succ n ih =>
    have hw : b_X12_spiral_35 p0 p1 Q v3 v4 (lpn (fun _ _ => False) (b_X12_spiral_35 p0 p1 Q v3 v4) n) v5 S := hw
    generalize lpn (fun _ _ => False) (b_X12_spiral_35 p0 p1 Q v3 v4) n = kf at hw ih
    have hk35 := fun (v5 : Int32) (S : St) (hR : RCM S) hw => ih v5 hR hw
    unfold b_X12_spiral_35 at hw
    refine Go_iload (q := 37) C 5 rfl dX12_spiral_35 rfl ?_
    refine Go_sipush (q := 40) (v := (200 : Int32)) C dX12_spiral_37 rfl rfl ?_
    refine Go_icmp_gt (t := 57) (q := 43) C hw dX12_spiral_40 rfl rfl (fun hw => ?_) (fun hw => ?_)
    · refine Go_iconst (q := 58) (v := (0 : Int32)) C dX12_spiral_57 rfl rfl ?_
      refine Go_istore (q := 60) (lv' := [(5, .int (0 : Int32)), (0, .ref (Gad G (0))), (1, .int p0), (2, .int p1), (3, .int v3), (4, .int v4)]) C dX12_spiral_58 (by decide) rfl rfl ?_
      refine Go_lvp [1, 2, 3, 4, 5, 0] rfl ?_
      exact g_X12_spiral_60 C hQ p0 p1 _ _ _ hR hw
    · refine Go_aload_n (q := 44) C 0 rfl dX12_spiral_43 rfl ?_
      refine Go_getA (q := 47) (k := 59) C ci12 iw_12 kM_0 (rM_0_59 hR) rfl wm_14_8 rfl dX12_spiral_44 rfl ?_
      refine Go_iload (q := 49) C 5 rfl dX12_spiral_47 rfl ?_
      refine Go_iconst (q := 50) (v := (1 : Int32)) C dX12_spiral_49 rfl rfl ?_
      obtain ⟨hin, hw⟩ := hw
      refine Go_iastore (q := 51) C kM_36 hin dX12_spiral_50 rfl ?_
      refine Go_S (fun S50_22 e_S50_22 => ?_)
      have hw := hw S50_22 e_S50_22
      have hR := rcM e_S50_22 hR
      refine Go_iinc2 (q := 54) (kp := 5) (cst := (1 : Int32)) C dX12_spiral_51 rfl rfl (by decide) rfl (fun x51_23 e_x51_23 => ?_)
      have hw := hw x51_23 e_x51_23
      refine Go_lve (lv' := [(5, .int x51_23), (0, .ref (Gad G (0))), (1, .int p0), (2, .int p1), (3, .int v3), (4, .int v4)]) rfl ?_
      refine Go_goto (q := 35) C dX12_spiral_54 rfl ?_
      refine Go_lvp [1, 2, 3, 4, 5, 0] rfl ?_
      exact hk35 _ _ hR hw
set_option maxRecDepth 100000 in
set_option maxHeartbeats 4000000 in
theorem c_X12_spiral (l : Launch) {p0 : Int32} {p1 : Int32} {S : St} {Q : Int32 → St → Prop} (hR : RCM S) (hw : w_X12_spiral p0 p1 S Q) : MetI l yX12_spiral (wB yX12_spiral cX12_spiral 9 (some .int)) rm_X12_spiral shM NM RCM (fun ad => [.ref (ad (0)), .int p0, .int p1]) S Q := by
  refine MetI_of (cc := cX12_spiral) (maxL := 9) (ret := (some .int)) (plainFor_of_name (by decide)) (fun _ => Nat.le_of_ble_eq_true rfl) (fun G C hl hQ => ?_)
  subst hl
  have C : Cx G cX12_spiral BIG RX12 9 (some .int) rm_X12_spiral shM NM := C
  show Go G 9 0 [] [(0, .ref (Gad G (0))), (1, .int p0), (2, .int p1)] S
  unfold w_X12_spiral at hw
  refine Go_aload_n (q := 1) C 0 rfl dX12_spiral_0 rfl ?_
  refine Go_iconst (q := 2) (v := (0 : Int32)) C dX12_spiral_1 rfl rfl ?_
  refine Go_putI (q := 5) (k := 0) C ci12 iw_12 kM_0 rfl wm_15_14 rfl rfl (ci12.2.2.2.1 0 (by decide)) rfl rfl dX12_spiral_2 rfl ?_
  refine Go_S (fun S2_1 e_S2_1 => ?_)
  have hw := hw S2_1 e_S2_1
  have hR := rcM e_S2_1 hR
  refine Go_iload_n (q := 6) C 1 rfl dX12_spiral_5 rfl ?_
  refine Go_iconst (q := 7) (v := (1 : Int32)) C dX12_spiral_6 rfl rfl ?_
  refine Go_sipush (q := 10) (v := (200 : Int32)) C dX12_spiral_7 rfl rfl ?_
  refine Go_callS_I (av := (fun ad => [.int p0, .int (1 : Int32), .int (200 : Int32)])) (st := []) (C := C) (hM := c_X12_within (Gl G)  hR hw) (hlk := wm_27_1) (hini := wm_1_5) (hst2 := wm_27_2) (hcode := wm_27_3) (n := 3) (hd := by decide +kernel) (hr0 := ⟨rfl, rfl⟩) (hroom := ⟨by first | decide | (dsimp only; omega), by first | decide | (dsimp only; omega)⟩) (hlen := rfl) (hst := rfl) (hW := Nat.le_of_ble_eq_true rfl) (hdg := dX12_spiral_10) (q := 13) (hq := rfl) (fun r10_3 S10_2 hw hR => ?_)
  refine Go_if_eq (t := 25) (q := 16) C hw dX12_spiral_13 rfl rfl (fun hw => ?_) (fun hw => ?_)
  · refine Go_iconst (q := 26) (v := (-1 : Int32)) C dX12_spiral_25 rfl rfl ?_
    exact Go_iret C hQ hR hw dX12_spiral_26
  · refine Go_iload_n (q := 17) C 2 rfl dX12_spiral_16 rfl ?_
    refine Go_iconst (q := 18) (v := (0 : Int32)) C dX12_spiral_17 rfl rfl ?_
    refine Go_iconst (q := 19) (v := (2 : Int32)) C dX12_spiral_18 rfl rfl ?_
    refine Go_callS_I (av := (fun ad => [.int p1, .int (0 : Int32), .int (2 : Int32)])) (st := []) (C := C) (hM := c_X12_within (Gl G)  hR hw) (hlk := wm_27_1) (hini := wm_1_5) (hst2 := wm_27_2) (hcode := wm_27_3) (n := 3) (hd := by decide +kernel) (hr0 := ⟨rfl, rfl⟩) (hroom := ⟨by first | decide | (dsimp only; omega), by first | decide | (dsimp only; omega)⟩) (hlen := rfl) (hst := rfl) (hW := Nat.le_of_ble_eq_true rfl) (hdg := dX12_spiral_19) (q := 22) (hq := rfl) (fun r19_5 S19_4 hw hR => ?_)
    refine Go_if_ne (t := 27) (q := 25) C hw dX12_spiral_22 rfl rfl (fun hw => ?_) (fun hw => ?_)
    · refine Go_iconst (q := 26) (v := (-1 : Int32)) C dX12_spiral_25 rfl rfl ?_
      exact Go_iret C hQ hR hw dX12_spiral_26
    · refine Go_iconst (q := 28) (v := (0 : Int32)) C dX12_spiral_27 rfl rfl ?_
      refine Go_istore_n (q := 29) (lv' := [(3, .int (0 : Int32)), (0, .ref (Gad G (0))), (1, .int p0), (2, .int p1)]) C rfl dX12_spiral_28 (by decide) rfl rfl ?_
      refine Go_iconst (q := 30) (v := (0 : Int32)) C dX12_spiral_29 rfl rfl ?_
      refine Go_istore (q := 32) (lv' := [(4, .int (0 : Int32)), (3, .int (0 : Int32)), (0, .ref (Gad G (0))), (1, .int p0), (2, .int p1)]) C dX12_spiral_30 (by decide) rfl rfl ?_
      refine Go_iconst (q := 33) (v := (0 : Int32)) C dX12_spiral_32 rfl rfl ?_
      refine Go_istore (q := 35) (lv' := [(5, .int (0 : Int32)), (4, .int (0 : Int32)), (3, .int (0 : Int32)), (0, .ref (Gad G (0))), (1, .int p0), (2, .int p1)]) C dX12_spiral_33 (by decide) rfl rfl ?_
      refine Go_lvp [3, 4, 5, 2, 1, 0] rfl ?_
      exact g_X12_spiral_35 C hQ p0 p1 _ _ _ hR hw
