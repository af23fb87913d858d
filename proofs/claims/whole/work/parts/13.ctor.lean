/-! ===== constructors: meanings and contracts ===== -/
theorem lnX1 {o : Nat} (h : isE1 o) : lnE (o + 1) ≤ 200 := by rcases h with rfl | rfl | rfl <;> decide
-- X0_init
def w_X0_init (S : St) (Q : St → Prop) : Prop :=
 ∀ S10_2, S10_2 = sR S 8 0 (some 9) → ∀ S18_4, S18_4 = sR S10_2 8 2 (some 10) → Q S18_4
abbrev rm_X0_init : Room := { frames := 1, cells := 2, slots := 1032, locals := 20 }
set_option maxRecDepth 100000 in
set_option maxHeartbeats 8000000 in
theorem c_X0_init (l : Launch) {S : St} {Q : St → Prop} (hI : IR (9) S) (hw : w_X0_init S Q) : MetA l yX0_init (wB yX0_init cX0_init 1 none) rm_X0_init shE (9) (11) 2 1032 (fun ad => [.ref (ad (8))]) S Q := by
  refine MetA_of (cc := cX0_init) (maxL := 1) (ret := none) (plainFor_of_name (by decide)) rfl (fun _ => Nat.le_of_ble_eq_true rfl) (fun G C hl hQ => ?_)
  subst hl
  have C : Cx (gset G (Gad G) (9) 0 0) cX0_init BIG RX0 1 none rm_X0_init shE (9) := C
  show Go (gset G (Gad G) (9) 0 0) 1 0 [] [(0, .ref (Gad G (8)))] S
  unfold w_X0_init at hw
  refine Go_aload_n (q := 1) C 0 rfl dX0_init_0 rfl ?_
  refine Go_objinit (q := 4) C wm_6_15 wm_1_12 wm_1_13 (by decide) (Nat.le_of_ble_eq_true rfl) dX0_init_1 rfl ?_
  refine Go_aload_n (q := 5) C 0 rfl dX0_init_4 rfl ?_
  refine Go_sipush (q := 8) (v := (1000 : Int32)) C dX0_init_5 rfl rfl ?_
  refine Go_newa_i (n := 9) (len := 1000) (q := 10) (stF := fun ad => [.ref (ad (8))]) (lvF := fun ad => [(0, .ref (ad (8)))]) C wm_3_6 (by decide) rfl (by decide) kE_9.2 hI rfl rfl (fun adz hz => by have g0 : adz (8) = (Gad G) (8) := hz (8) (by omega); simp only [g0]) (fun adz hz => by have g0 : adz (8) = (Gad G) (8) := hz (8) (by omega); simp only [g0]) (by exact Nat.le_of_ble_eq_true rfl) (by exact Nat.le_of_ble_eq_true rfl) dX0_init_8 rfl (fun ad8 hag8 hI => ?_)
  have hag : ∀ i, i < 9 → ad8 i = Gad G i := fun i hi => (hag8 i (by omega)).trans (rfl)
  have C1 : Cx (gset G ad8 (10) (1) (1000)) cX0_init BIG RX0 1 none rm_X0_init shE (10) := Cx_gset C (by exact Nat.le_of_ble_eq_true rfl) (by exact Nat.le_of_ble_eq_true rfl)
  show Go (gset G ad8 (10) (1) (1000)) 1 _ [.ref (ad8 (9)), .ref (ad8 (8))] [(0, .ref (ad8 (8)))] S
  refine Go_putF (k := 0) (q := 13) C1 hQ.2 ci0 iw_0 (okn kE_8 (by omega)) rfl wm_6_16 rfl rfl rfl (ci0.2.2.2.1 0 (by decide)) rfl rfl dX0_init_10 rfl (fun S10_2 e_S10_2 => ?_)
  have hw := hw S10_2 e_S10_2
  have hI := irR e_S10_2 (by omega) (by omega) hI
  refine Go_aload_n (q := 14) C1 0 rfl dX0_init_13 rfl ?_
  refine Go_bipush (q := 16) (v := (32 : Int32)) C1 dX0_init_14 rfl rfl ?_
  refine Go_newa_i (n := 10) (len := 32) (q := 18) (stF := fun ad => [.ref (ad (8))]) (lvF := fun ad => [(0, .ref (ad (8)))]) C1 wm_3_6 (by decide) rfl (by decide) kE_10.2 hI rfl rfl (fun adz hz => by have g0 : adz (8) = ad8 (8) := hz (8) (by omega); simp only [g0]) (fun adz hz => by have g0 : adz (8) = ad8 (8) := hz (8) (by omega); simp only [g0]) (by exact Nat.le_of_ble_eq_true rfl) (by exact Nat.le_of_ble_eq_true rfl) dX0_init_16 rfl (fun ad16 hag16 hI => ?_)
  have hag : ∀ i, i < 9 → ad16 i = Gad G i := fun i hi => (hag16 i (by omega)).trans (hag i hi)
  have C3 : Cx (gset G ad16 (11) (2) (1032)) cX0_init BIG RX0 1 none rm_X0_init shE (11) := Cx_gset C (by exact Nat.le_of_ble_eq_true rfl) (by exact Nat.le_of_ble_eq_true rfl)
  show Go (gset G ad16 (11) (2) (1032)) 1 _ [.ref (ad16 (10)), .ref (ad16 (8))] [(0, .ref (ad16 (8)))] S10_2
  refine Go_putF (k := 2) (q := 21) C3 hQ.2 ci0 iw_0 (okn kE_8 (by omega)) rfl wm_6_17 rfl rfl rfl (ci0.2.2.2.1 2 (by decide)) rfl rfl dX0_init_18 rfl (fun S18_4 e_S18_4 => ?_)
  have hw := hw S18_4 e_S18_4
  have hI := irR e_S18_4 (by omega) (by omega) hI
  exact Go_retA C3 hQ hag hI hw (by exact Nat.le_of_ble_eq_true rfl) (by exact Nat.le_of_ble_eq_true rfl) dX0_init_21
-- X1_init
def w_X1_init (o : Nat) (p0 : Int32) (S : St) (Q : St → Prop) : Prop :=
 (if (1 : Int32) ≤ p0 then ((¬ p0 < 0 ∧ p0.toNatClampNeg = lnE (o + 1) ∧ (∀ S17_2, S17_2 = sR S o 0 (some (o + 1)) → Q S17_2))) else ((¬ (1 : Int32) < 0 ∧ (1 : Int32).toNatClampNeg = lnE (o + 1) ∧ (∀ S17_4, S17_4 = sR S o 0 (some (o + 1)) → Q S17_4))))
abbrev rm_X1_init : Room := { frames := 1, cells := 1, slots := 200, locals := 20 }
set_option maxRecDepth 100000 in
set_option maxHeartbeats 8000000 in
theorem c_X1_init (l : Launch) {o : Nat} (ho : isE1 o) {p0 : Int32} {S : St} {Q : St → Prop} (hI : IR (o + 1) S) (hw : w_X1_init o p0 S Q) : MetA l yX1_init (wB yX1_init cX1_init 2 none) rm_X1_init shE (o + 1) (o + 2) 1 200 (fun ad => [.ref (ad (o)), .int p0]) S Q := by
  refine MetA_of (cc := cX1_init) (maxL := 2) (ret := none) (plainFor_of_name (by decide)) rfl (fun _ => Nat.le_of_ble_eq_true rfl) (fun G C hl hQ => ?_)
  subst hl
  have C : Cx (gset G (Gad G) (o + 1) 0 0) cX1_init BIG RX1 2 none rm_X1_init shE (o + 1) := C
  show Go (gset G (Gad G) (o + 1) 0 0) 2 0 [] [(0, .ref (Gad G (o))), (1, .int p0)] S
  unfold w_X1_init at hw
  refine Go_aload_n (q := 1) C 0 rfl dX1_init_0 rfl ?_
  refine Go_objinit (q := 4) C wm_8_1 wm_1_12 wm_1_13 (by decide) (Nat.le_of_ble_eq_true rfl) dX1_init_1 rfl ?_
  refine Go_aload_n (q := 5) C 0 rfl dX1_init_4 rfl ?_
  refine Go_iload_n (q := 6) C 1 rfl dX1_init_5 rfl ?_
  refine Go_iconst (q := 7) (v := (1 : Int32)) C dX1_init_6 rfl rfl ?_
  refine Go_icmp_ge (t := 14) (q := 10) C hw dX1_init_7 rfl rfl (fun hw => ?_) (fun hw => ?_)
  · refine Go_iload_n (q := 15) C 1 rfl dX1_init_14 rfl ?_
    obtain ⟨hx, hlen, hw⟩ := hw
    refine Go_newa_i (n := o + 1) (len := lnE (o + 1)) (q := 17) (stF := fun ad => [.ref (ad (o))]) (lvF := fun ad => [(0, .ref (ad (o))), (1, .int p0)]) C wm_3_6 hx hlen (Nat.le_trans (Nat.mul_le_mul_right 8 (lnX1 ho)) (by decide)) (oE1_0 ho).2 hI rfl rfl (fun adz hz => by have g0 : adz (o) = (Gad G) (o) := hz (o) (by omega); simp only [g0]) (fun adz hz => by have g0 : adz (o) = (Gad G) (o) := hz (o) (by omega); simp only [g0]) (by exact Nat.le_of_ble_eq_true rfl) (by have h8 := lnX1 ho; show 0 + lnE (o + 1) ≤ 200; omega) dX1_init_15 rfl (fun ad15 hag15 hI => ?_)
    have hag : ∀ i, i < o + 1 → ad15 i = Gad G i := fun i hi => (hag15 i (by omega)).trans (rfl)
    have C1 : Cx (gset G ad15 (o + 2) (1) (0 + lnE (o + 1))) cX1_init BIG RX1 2 none rm_X1_init shE (o + 2) := Cx_gset C (by exact Nat.le_of_ble_eq_true rfl) (by have h8 := lnX1 ho; show 0 + lnE (o + 1) ≤ 200; omega)
    show Go (gset G ad15 (o + 2) (1) (0 + lnE (o + 1))) 2 _ [.ref (ad15 (o + 1)), .ref (ad15 (o))] [(0, .ref (ad15 (o))), (1, .int p0)] S
    refine Go_putF (k := 0) (q := 20) C1 hQ.2 ci1 iw_1 (okn (oE1 ho) (by omega)) rfl wm_8_2 rfl rfl rfl (ci1.2.2.2.1 0 (by decide)) rfl rfl dX1_init_17 rfl (fun S17_2 e_S17_2 => ?_)
    have hw := hw S17_2 e_S17_2
    have hI := irR e_S17_2 (by omega) (by omega) hI
    exact Go_retA C1 hQ hag hI hw (by exact Nat.le_of_ble_eq_true rfl) (by have h8 := lnX1 ho; show 0 + lnE (o + 1) ≤ 200; omega) dX1_init_20
  · refine Go_iconst (q := 11) (v := (1 : Int32)) C dX1_init_10 rfl rfl ?_
    refine Go_goto (q := 15) C dX1_init_11 rfl ?_
    obtain ⟨hx, hlen, hw⟩ := hw
    refine Go_newa_i (n := o + 1) (len := lnE (o + 1)) (q := 17) (stF := fun ad => [.ref (ad (o))]) (lvF := fun ad => [(0, .ref (ad (o))), (1, .int p0)]) C wm_3_6 hx hlen (Nat.le_trans (Nat.mul_le_mul_right 8 (lnX1 ho)) (by decide)) (oE1_0 ho).2 hI rfl rfl (fun adz hz => by have g0 : adz (o) = (Gad G) (o) := hz (o) (by omega); simp only [g0]) (fun adz hz => by have g0 : adz (o) = (Gad G) (o) := hz (o) (by omega); simp only [g0]) (by exact Nat.le_of_ble_eq_true rfl) (by have h8 := lnX1 ho; show 0 + lnE (o + 1) ≤ 200; omega) dX1_init_15 rfl (fun ad15 hag15 hI => ?_)
    have hag : ∀ i, i < o + 1 → ad15 i = Gad G i := fun i hi => (hag15 i (by omega)).trans (rfl)
    have C3 : Cx (gset G ad15 (o + 2) (1) (0 + lnE (o + 1))) cX1_init BIG RX1 2 none rm_X1_init shE (o + 2) := Cx_gset C (by exact Nat.le_of_ble_eq_true rfl) (by have h8 := lnX1 ho; show 0 + lnE (o + 1) ≤ 200; omega)
    show Go (gset G ad15 (o + 2) (1) (0 + lnE (o + 1))) 2 _ [.ref (ad15 (o + 1)), .ref (ad15 (o))] [(0, .ref (ad15 (o))), (1, .int p0)] S
    refine Go_putF (k := 0) (q := 20) C3 hQ.2 ci1 iw_1 (okn (oE1 ho) (by omega)) rfl wm_8_2 rfl rfl rfl (ci1.2.2.2.1 0 (by decide)) rfl rfl dX1_init_17 rfl (fun S17_4 e_S17_4 => ?_)
    have hw := hw S17_4 e_S17_4
    have hI := irR e_S17_4 (by omega) (by omega) hI
    exact Go_retA C3 hQ hag hI hw (by exact Nat.le_of_ble_eq_true rfl) (by have h8 := lnX1 ho; show 0 + lnE (o + 1) ≤ 200; omega) dX1_init_20
-- X2_init
def w_X2_init (o : Nat) (S : St) (Q : St → Prop) : Prop :=
 ∀ S9_2, S9_2 = sR S o 0 (some (o + 1)) → ∀ S17_4, S17_4 = sR S9_2 o 1 (some (o + 2)) → ∀ S25_6, S25_6 = sR S17_4 o 2 (some (o + 3)) → Q S25_6
abbrev rm_X2_init : Room := { frames := 1, cells := 3, slots := 180, locals := 20 }
set_option maxRecDepth 100000 in
set_option maxHeartbeats 8000000 in
theorem c_X2_init (l : Launch) {o : Nat} (ho : isE2 o) {S : St} {Q : St → Prop} (hI : IR (o + 1) S) (hw : w_X2_init o S Q) : MetA l yX2_init (wB yX2_init cX2_init 1 none) rm_X2_init shE (o + 1) (o + 4) 3 180 (fun ad => [.ref (ad (o))]) S Q := by
  refine MetA_of (cc := cX2_init) (maxL := 1) (ret := none) (plainFor_of_name (by decide)) rfl (fun _ => Nat.le_of_ble_eq_true rfl) (fun G C hl hQ => ?_)
  subst hl
  have C : Cx (gset G (Gad G) (o + 1) 0 0) cX2_init BIG RX2 1 none rm_X2_init shE (o + 1) := C
  show Go (gset G (Gad G) (o + 1) 0 0) 1 0 [] [(0, .ref (Gad G (o)))] S
  unfold w_X2_init at hw
  refine Go_aload_n (q := 1) C 0 rfl dX2_init_0 rfl ?_
  refine Go_objinit (q := 4) C wm_7_7 wm_1_12 wm_1_13 (by decide) (Nat.le_of_ble_eq_true rfl) dX2_init_1 rfl ?_
  refine Go_aload_n (q := 5) C 0 rfl dX2_init_4 rfl ?_
  refine Go_bipush (q := 7) (v := (60 : Int32)) C dX2_init_5 rfl rfl ?_
  refine Go_newa_i (n := o + 1) (len := 60) (q := 9) (stF := fun ad => [.ref (ad (o))]) (lvF := fun ad => [(0, .ref (ad (o)))]) C wm_3_6 (by decide) rfl (by decide) (oE2_0 ho).2 hI rfl rfl (fun adz hz => by have g0 : adz (o) = (Gad G) (o) := hz (o) (by omega); simp only [g0]) (fun adz hz => by have g0 : adz (o) = (Gad G) (o) := hz (o) (by omega); simp only [g0]) (by exact Nat.le_of_ble_eq_true rfl) (by exact Nat.le_of_ble_eq_true rfl) dX2_init_7 rfl (fun ad7 hag7 hI => ?_)
  have hag : ∀ i, i < o + 1 → ad7 i = Gad G i := fun i hi => (hag7 i (by omega)).trans (rfl)
  have C1 : Cx (gset G ad7 (o + 2) (1) (60)) cX2_init BIG RX2 1 none rm_X2_init shE (o + 2) := Cx_gset C (by exact Nat.le_of_ble_eq_true rfl) (by exact Nat.le_of_ble_eq_true rfl)
  show Go (gset G ad7 (o + 2) (1) (60)) 1 _ [.ref (ad7 (o + 1)), .ref (ad7 (o))] [(0, .ref (ad7 (o)))] S
  refine Go_putF (k := 0) (q := 12) C1 hQ.2 ci2 iw_2 (okn (oE2 ho) (by omega)) rfl wm_7_8 rfl rfl rfl (ci2.2.2.2.1 0 (by decide)) rfl rfl dX2_init_9 rfl (fun S9_2 e_S9_2 => ?_)
  have hw := hw S9_2 e_S9_2
  have hI := irR e_S9_2 (by omega) (by omega) hI
  refine Go_aload_n (q := 13) C1 0 rfl dX2_init_12 rfl ?_
  refine Go_bipush (q := 15) (v := (60 : Int32)) C1 dX2_init_13 rfl rfl ?_
  refine Go_newa_i (n := o + 2) (len := 60) (q := 17) (stF := fun ad => [.ref (ad (o))]) (lvF := fun ad => [(0, .ref (ad (o)))]) C1 wm_3_6 (by decide) rfl (by decide) (oE2_1 ho).2 hI rfl rfl (fun adz hz => by have g0 : adz (o) = ad7 (o) := hz (o) (by omega); simp only [g0]) (fun adz hz => by have g0 : adz (o) = ad7 (o) := hz (o) (by omega); simp only [g0]) (by exact Nat.le_of_ble_eq_true rfl) (by exact Nat.le_of_ble_eq_true rfl) dX2_init_15 rfl (fun ad15 hag15 hI => ?_)
  have hag : ∀ i, i < o + 1 → ad15 i = Gad G i := fun i hi => (hag15 i (by omega)).trans (hag i hi)
  have C3 : Cx (gset G ad15 (o + 3) (2) (120)) cX2_init BIG RX2 1 none rm_X2_init shE (o + 3) := Cx_gset C (by exact Nat.le_of_ble_eq_true rfl) (by exact Nat.le_of_ble_eq_true rfl)
  show Go (gset G ad15 (o + 3) (2) (120)) 1 _ [.ref (ad15 (o + 2)), .ref (ad15 (o))] [(0, .ref (ad15 (o)))] S9_2
  refine Go_putF (k := 1) (q := 20) C3 hQ.2 ci2 iw_2 (okn (oE2 ho) (by omega)) rfl wm_7_9 rfl rfl rfl (ci2.2.2.2.1 1 (by decide)) rfl rfl dX2_init_17 rfl (fun S17_4 e_S17_4 => ?_)
  have hw := hw S17_4 e_S17_4
  have hI := irR e_S17_4 (by omega) (by omega) hI
  refine Go_aload_n (q := 21) C3 0 rfl dX2_init_20 rfl ?_
  refine Go_bipush (q := 23) (v := (60 : Int32)) C3 dX2_init_21 rfl rfl ?_
  refine Go_newa_i (n := o + 3) (len := 60) (q := 25) (stF := fun ad => [.ref (ad (o))]) (lvF := fun ad => [(0, .ref (ad (o)))]) C3 wm_3_6 (by decide) rfl (by decide) (oE2_2 ho).2 hI rfl rfl (fun adz hz => by have g0 : adz (o) = ad15 (o) := hz (o) (by omega); simp only [g0]) (fun adz hz => by have g0 : adz (o) = ad15 (o) := hz (o) (by omega); simp only [g0]) (by exact Nat.le_of_ble_eq_true rfl) (by exact Nat.le_of_ble_eq_true rfl) dX2_init_23 rfl (fun ad23 hag23 hI => ?_)
  have hag : ∀ i, i < o + 1 → ad23 i = Gad G i := fun i hi => (hag23 i (by omega)).trans (hag i hi)
  have C5 : Cx (gset G ad23 (o + 4) (3) (180)) cX2_init BIG RX2 1 none rm_X2_init shE (o + 4) := Cx_gset C (by exact Nat.le_of_ble_eq_true rfl) (by exact Nat.le_of_ble_eq_true rfl)
  show Go (gset G ad23 (o + 4) (3) (180)) 1 _ [.ref (ad23 (o + 3)), .ref (ad23 (o))] [(0, .ref (ad23 (o)))] S17_4
  refine Go_putF (k := 2) (q := 28) C5 hQ.2 ci2 iw_2 (okn (oE2 ho) (by omega)) rfl wm_7_10 rfl rfl rfl (ci2.2.2.2.1 2 (by decide)) rfl rfl dX2_init_25 rfl (fun S25_6 e_S25_6 => ?_)
  have hw := hw S25_6 e_S25_6
  have hI := irR e_S25_6 (by omega) (by omega) hI
  exact Go_retA C5 hQ hag hI hw (by exact Nat.le_of_ble_eq_true rfl) (by exact Nat.le_of_ble_eq_true rfl) dX2_init_28
-- X4_init
def w_X4_init (o : Nat) (S : St) (Q : St → Prop) : Prop :=
 ∀ S9_2, S9_2 = sR S o 7 (some (o + 1)) → ∀ S17_4, S17_4 = sR S9_2 o 8 (some (o + 2)) → ∀ S25_6, S25_6 = sR S17_4 o 9 (some (o + 3)) → ∀ S33_8, S33_8 = sR S25_6 o 10 (some (o + 4)) → ∀ S41_10, S41_10 = sR S33_8 o 11 (some (o + 5)) → ∀ S49_12, S49_12 = sR S41_10 o 12 (some (o + 6)) → ∀ S57_14, S57_14 = sR S49_12 o 13 (some (o + 7)) → ∀ S65_16, S65_16 = sR S57_14 o 14 (some (o + 8)) → Q S65_16
abbrev rm_X4_init : Room := { frames := 1, cells := 8, slots := 96, locals := 20 }
set_option maxRecDepth 100000 in
set_option maxHeartbeats 8000000 in
theorem c_X4_init (l : Launch) {o : Nat} (ho : isE4 o) {S : St} {Q : St → Prop} (hI : IR (o + 1) S) (hw : w_X4_init o S Q) : MetA l yX4_init (wB yX4_init cX4_init 1 none) rm_X4_init shE (o + 1) (o + 9) 8 96 (fun ad => [.ref (ad (o))]) S Q := by
  refine MetA_of (cc := cX4_init) (maxL := 1) (ret := none) (plainFor_of_name (by decide)) rfl (fun _ => Nat.le_of_ble_eq_true rfl) (fun G C hl hQ => ?_)
  subst hl
  have C : Cx (gset G (Gad G) (o + 1) 0 0) cX4_init BIG RX4 1 none rm_X4_init shE (o + 1) := C
  show Go (gset G (Gad G) (o + 1) 0 0) 1 0 [] [(0, .ref (Gad G (o)))] S
  unfold w_X4_init at hw
  refine Go_aload_n (q := 1) C 0 rfl dX4_init_0 rfl ?_
  refine Go_objinit (q := 4) C wm_6_20 wm_1_12 wm_1_13 (by decide) (Nat.le_of_ble_eq_true rfl) dX4_init_1 rfl ?_
  refine Go_aload_n (q := 5) C 0 rfl dX4_init_4 rfl ?_
  refine Go_bipush (q := 7) (v := (12 : Int32)) C dX4_init_5 rfl rfl ?_
  refine Go_newa_i (n := o + 1) (len := 12) (q := 9) (stF := fun ad => [.ref (ad (o))]) (lvF := fun ad => [(0, .ref (ad (o)))]) C wm_3_6 (by decide) rfl (by decide) (oE4_7 ho).2 hI rfl rfl (fun adz hz => by have g0 : adz (o) = (Gad G) (o) := hz (o) (by omega); simp only [g0]) (fun adz hz => by have g0 : adz (o) = (Gad G) (o) := hz (o) (by omega); simp only [g0]) (by exact Nat.le_of_ble_eq_true rfl) (by exact Nat.le_of_ble_eq_true rfl) dX4_init_7 rfl (fun ad7 hag7 hI => ?_)
  have hag : ∀ i, i < o + 1 → ad7 i = Gad G i := fun i hi => (hag7 i (by omega)).trans (rfl)
  have C1 : Cx (gset G ad7 (o + 2) (1) (12)) cX4_init BIG RX4 1 none rm_X4_init shE (o + 2) := Cx_gset C (by exact Nat.le_of_ble_eq_true rfl) (by exact Nat.le_of_ble_eq_true rfl)
  show Go (gset G ad7 (o + 2) (1) (12)) 1 _ [.ref (ad7 (o + 1)), .ref (ad7 (o))] [(0, .ref (ad7 (o)))] S
  refine Go_putF (k := 7) (q := 12) C1 hQ.2 ci4 iw_4 (okn (oE4 ho) (by omega)) rfl wm_6_21 rfl rfl rfl (ci4.2.2.2.1 7 (by decide)) rfl rfl dX4_init_9 rfl (fun S9_2 e_S9_2 => ?_)
  have hw := hw S9_2 e_S9_2
  have hI := irR e_S9_2 (by omega) (by omega) hI
  refine Go_aload_n (q := 13) C1 0 rfl dX4_init_12 rfl ?_
  refine Go_bipush (q := 15) (v := (12 : Int32)) C1 dX4_init_13 rfl rfl ?_
  refine Go_newa_i (n := o + 2) (len := 12) (q := 17) (stF := fun ad => [.ref (ad (o))]) (lvF := fun ad => [(0, .ref (ad (o)))]) C1 wm_3_6 (by decide) rfl (by decide) (oE4_8 ho).2 hI rfl rfl (fun adz hz => by have g0 : adz (o) = ad7 (o) := hz (o) (by omega); simp only [g0]) (fun adz hz => by have g0 : adz (o) = ad7 (o) := hz (o) (by omega); simp only [g0]) (by exact Nat.le_of_ble_eq_true rfl) (by exact Nat.le_of_ble_eq_true rfl) dX4_init_15 rfl (fun ad15 hag15 hI => ?_)
  have hag : ∀ i, i < o + 1 → ad15 i = Gad G i := fun i hi => (hag15 i (by omega)).trans (hag i hi)
  have C3 : Cx (gset G ad15 (o + 3) (2) (24)) cX4_init BIG RX4 1 none rm_X4_init shE (o + 3) := Cx_gset C (by exact Nat.le_of_ble_eq_true rfl) (by exact Nat.le_of_ble_eq_true rfl)
  show Go (gset G ad15 (o + 3) (2) (24)) 1 _ [.ref (ad15 (o + 2)), .ref (ad15 (o))] [(0, .ref (ad15 (o)))] S9_2
  refine Go_putF (k := 8) (q := 20) C3 hQ.2 ci4 iw_4 (okn (oE4 ho) (by omega)) rfl wm_6_22 rfl rfl rfl (ci4.2.2.2.1 8 (by decide)) rfl rfl dX4_init_17 rfl (fun S17_4 e_S17_4 => ?_)
  have hw := hw S17_4 e_S17_4
  have hI := irR e_S17_4 (by omega) (by omega) hI
  refine Go_aload_n (q := 21) C3 0 rfl dX4_init_20 rfl ?_
  refine Go_bipush (q := 23) (v := (12 : Int32)) C3 dX4_init_21 rfl rfl ?_
  refine Go_newa_i (n := o + 3) (len := 12) (q := 25) (stF := fun ad => [.ref (ad (o))]) (lvF := fun ad => [(0, .ref (ad (o)))]) C3 wm_3_6 (by decide) rfl (by decide) (oE4_9 ho).2 hI rfl rfl (fun adz hz => by have g0 : adz (o) = ad15 (o) := hz (o) (by omega); simp only [g0]) (fun adz hz => by have g0 : adz (o) = ad15 (o) := hz (o) (by omega); simp only [g0]) (by exact Nat.le_of_ble_eq_true rfl) (by exact Nat.le_of_ble_eq_true rfl) dX4_init_23 rfl (fun ad23 hag23 hI => ?_)
  have hag : ∀ i, i < o + 1 → ad23 i = Gad G i := fun i hi => (hag23 i (by omega)).trans (hag i hi)
  have C5 : Cx (gset G ad23 (o + 4) (3) (36)) cX4_init BIG RX4 1 none rm_X4_init shE (o + 4) := Cx_gset C (by exact Nat.le_of_ble_eq_true rfl) (by exact Nat.le_of_ble_eq_true rfl)
  show Go (gset G ad23 (o + 4) (3) (36)) 1 _ [.ref (ad23 (o + 3)), .ref (ad23 (o))] [(0, .ref (ad23 (o)))] S17_4
  refine Go_putF (k := 9) (q := 28) C5 hQ.2 ci4 iw_4 (okn (oE4 ho) (by omega)) rfl wm_6_23 rfl rfl rfl (ci4.2.2.2.1 9 (by decide)) rfl rfl dX4_init_25 rfl (fun S25_6 e_S25_6 => ?_)
  have hw := hw S25_6 e_S25_6
  have hI := irR e_S25_6 (by omega) (by omega) hI
  refine Go_aload_n (q := 29) C5 0 rfl dX4_init_28 rfl ?_
  refine Go_bipush (q := 31) (v := (12 : Int32)) C5 dX4_init_29 rfl rfl ?_
  refine Go_newa_i (n := o + 4) (len := 12) (q := 33) (stF := fun ad => [.ref (ad (o))]) (lvF := fun ad => [(0, .ref (ad (o)))]) C5 wm_3_6 (by decide) rfl (by decide) (oE4_10 ho).2 hI rfl rfl (fun adz hz => by have g0 : adz (o) = ad23 (o) := hz (o) (by omega); simp only [g0]) (fun adz hz => by have g0 : adz (o) = ad23 (o) := hz (o) (by omega); simp only [g0]) (by exact Nat.le_of_ble_eq_true rfl) (by exact Nat.le_of_ble_eq_true rfl) dX4_init_31 rfl (fun ad31 hag31 hI => ?_)
  have hag : ∀ i, i < o + 1 → ad31 i = Gad G i := fun i hi => (hag31 i (by omega)).trans (hag i hi)
  have C7 : Cx (gset G ad31 (o + 5) (4) (48)) cX4_init BIG RX4 1 none rm_X4_init shE (o + 5) := Cx_gset C (by exact Nat.le_of_ble_eq_true rfl) (by exact Nat.le_of_ble_eq_true rfl)
  show Go (gset G ad31 (o + 5) (4) (48)) 1 _ [.ref (ad31 (o + 4)), .ref (ad31 (o))] [(0, .ref (ad31 (o)))] S25_6
  refine Go_putF (k := 10) (q := 36) C7 hQ.2 ci4 iw_4 (okn (oE4 ho) (by omega)) rfl wm_7_0 rfl rfl rfl (ci4.2.2.2.1 10 (by decide)) rfl rfl dX4_init_33 rfl (fun S33_8 e_S33_8 => ?_)
  have hw := hw S33_8 e_S33_8
  have hI := irR e_S33_8 (by omega) (by omega) hI
  refine Go_aload_n (q := 37) C7 0 rfl dX4_init_36 rfl ?_
  refine Go_bipush (q := 39) (v := (12 : Int32)) C7 dX4_init_37 rfl rfl ?_
  refine Go_newa_i (n := o + 5) (len := 12) (q := 41) (stF := fun ad => [.ref (ad (o))]) (lvF := fun ad => [(0, .ref (ad (o)))]) C7 wm_3_6 (by decide) rfl (by decide) (oE4_11 ho).2 hI rfl rfl (fun adz hz => by have g0 : adz (o) = ad31 (o) := hz (o) (by omega); simp only [g0]) (fun adz hz => by have g0 : adz (o) = ad31 (o) := hz (o) (by omega); simp only [g0]) (by exact Nat.le_of_ble_eq_true rfl) (by exact Nat.le_of_ble_eq_true rfl) dX4_init_39 rfl (fun ad39 hag39 hI => ?_)
  have hag : ∀ i, i < o + 1 → ad39 i = Gad G i := fun i hi => (hag39 i (by omega)).trans (hag i hi)
  have C9 : Cx (gset G ad39 (o + 6) (5) (60)) cX4_init BIG RX4 1 none rm_X4_init shE (o + 6) := Cx_gset C (by exact Nat.le_of_ble_eq_true rfl) (by exact Nat.le_of_ble_eq_true rfl)
  show Go (gset G ad39 (o + 6) (5) (60)) 1 _ [.ref (ad39 (o + 5)), .ref (ad39 (o))] [(0, .ref (ad39 (o)))] S33_8
  refine Go_putF (k := 11) (q := 44) C9 hQ.2 ci4 iw_4 (okn (oE4 ho) (by omega)) rfl wm_7_1 rfl rfl rfl (ci4.2.2.2.1 11 (by decide)) rfl rfl dX4_init_41 rfl (fun S41_10 e_S41_10 => ?_)
  have hw := hw S41_10 e_S41_10
  have hI := irR e_S41_10 (by omega) (by omega) hI
  refine Go_aload_n (q := 45) C9 0 rfl dX4_init_44 rfl ?_
  refine Go_bipush (q := 47) (v := (12 : Int32)) C9 dX4_init_45 rfl rfl ?_
  refine Go_newa_i (n := o + 6) (len := 12) (q := 49) (stF := fun ad => [.ref (ad (o))]) (lvF := fun ad => [(0, .ref (ad (o)))]) C9 wm_3_6 (by decide) rfl (by decide) (oE4_12 ho).2 hI rfl rfl (fun adz hz => by have g0 : adz (o) = ad39 (o) := hz (o) (by omega); simp only [g0]) (fun adz hz => by have g0 : adz (o) = ad39 (o) := hz (o) (by omega); simp only [g0]) (by exact Nat.le_of_ble_eq_true rfl) (by exact Nat.le_of_ble_eq_true rfl) dX4_init_47 rfl (fun ad47 hag47 hI => ?_)
  have hag : ∀ i, i < o + 1 → ad47 i = Gad G i := fun i hi => (hag47 i (by omega)).trans (hag i hi)
  have C11 : Cx (gset G ad47 (o + 7) (6) (72)) cX4_init BIG RX4 1 none rm_X4_init shE (o + 7) := Cx_gset C (by exact Nat.le_of_ble_eq_true rfl) (by exact Nat.le_of_ble_eq_true rfl)
  show Go (gset G ad47 (o + 7) (6) (72)) 1 _ [.ref (ad47 (o + 6)), .ref (ad47 (o))] [(0, .ref (ad47 (o)))] S41_10
  refine Go_putF (k := 12) (q := 52) C11 hQ.2 ci4 iw_4 (okn (oE4 ho) (by omega)) rfl wm_7_2 rfl rfl rfl (ci4.2.2.2.1 12 (by decide)) rfl rfl dX4_init_49 rfl (fun S49_12 e_S49_12 => ?_)
  have hw := hw S49_12 e_S49_12
  have hI := irR e_S49_12 (by omega) (by omega) hI
  refine Go_aload_n (q := 53) C11 0 rfl dX4_init_52 rfl ?_
  refine Go_bipush (q := 55) (v := (12 : Int32)) C11 dX4_init_53 rfl rfl ?_
  refine Go_newa_i (n := o + 7) (len := 12) (q := 57) (stF := fun ad => [.ref (ad (o))]) (lvF := fun ad => [(0, .ref (ad (o)))]) C11 wm_3_6 (by decide) rfl (by decide) (oE4_13 ho).2 hI rfl rfl (fun adz hz => by have g0 : adz (o) = ad47 (o) := hz (o) (by omega); simp only [g0]) (fun adz hz => by have g0 : adz (o) = ad47 (o) := hz (o) (by omega); simp only [g0]) (by exact Nat.le_of_ble_eq_true rfl) (by exact Nat.le_of_ble_eq_true rfl) dX4_init_55 rfl (fun ad55 hag55 hI => ?_)
  have hag : ∀ i, i < o + 1 → ad55 i = Gad G i := fun i hi => (hag55 i (by omega)).trans (hag i hi)
  have C13 : Cx (gset G ad55 (o + 8) (7) (84)) cX4_init BIG RX4 1 none rm_X4_init shE (o + 8) := Cx_gset C (by exact Nat.le_of_ble_eq_true rfl) (by exact Nat.le_of_ble_eq_true rfl)
  show Go (gset G ad55 (o + 8) (7) (84)) 1 _ [.ref (ad55 (o + 7)), .ref (ad55 (o))] [(0, .ref (ad55 (o)))] S49_12
  refine Go_putF (k := 13) (q := 60) C13 hQ.2 ci4 iw_4 (okn (oE4 ho) (by omega)) rfl wm_7_3 rfl rfl rfl (ci4.2.2.2.1 13 (by decide)) rfl rfl dX4_init_57 rfl (fun S57_14 e_S57_14 => ?_)
  have hw := hw S57_14 e_S57_14
  have hI := irR e_S57_14 (by omega) (by omega) hI
  refine Go_aload_n (q := 61) C13 0 rfl dX4_init_60 rfl ?_
  refine Go_bipush (q := 63) (v := (12 : Int32)) C13 dX4_init_61 rfl rfl ?_
  refine Go_newa_i (n := o + 8) (len := 12) (q := 65) (stF := fun ad => [.ref (ad (o))]) (lvF := fun ad => [(0, .ref (ad (o)))]) C13 wm_3_6 (by decide) rfl (by decide) (oE4_14 ho).2 hI rfl rfl (fun adz hz => by have g0 : adz (o) = ad55 (o) := hz (o) (by omega); simp only [g0]) (fun adz hz => by have g0 : adz (o) = ad55 (o) := hz (o) (by omega); simp only [g0]) (by exact Nat.le_of_ble_eq_true rfl) (by exact Nat.le_of_ble_eq_true rfl) dX4_init_63 rfl (fun ad63 hag63 hI => ?_)
  have hag : ∀ i, i < o + 1 → ad63 i = Gad G i := fun i hi => (hag63 i (by omega)).trans (hag i hi)
  have C15 : Cx (gset G ad63 (o + 9) (8) (96)) cX4_init BIG RX4 1 none rm_X4_init shE (o + 9) := Cx_gset C (by exact Nat.le_of_ble_eq_true rfl) (by exact Nat.le_of_ble_eq_true rfl)
  show Go (gset G ad63 (o + 9) (8) (96)) 1 _ [.ref (ad63 (o + 8)), .ref (ad63 (o))] [(0, .ref (ad63 (o)))] S57_14
  refine Go_putF (k := 14) (q := 68) C15 hQ.2 ci4 iw_4 (okn (oE4 ho) (by omega)) rfl wm_7_4 rfl rfl rfl (ci4.2.2.2.1 14 (by decide)) rfl rfl dX4_init_65 rfl (fun S65_16 e_S65_16 => ?_)
  have hw := hw S65_16 e_S65_16
  have hI := irR e_S65_16 (by omega) (by omega) hI
  exact Go_retA C15 hQ hag hI hw (by exact Nat.le_of_ble_eq_true rfl) (by exact Nat.le_of_ble_eq_true rfl) dX4_init_68
-- X5_init
def w_X5_init (o : Nat) (S : St) (Q : St → Prop) : Prop :=
 w_X4_init (o + 1) S (fun S9_2 => ∀ S12_4, S12_4 = sR S9_2 o 0 (some (o + 1)) → w_X2_init (o + 10) S12_4 (fun S20_6 => ∀ S23_8, S23_8 = sR S20_6 o 1 (some (o + 10)) → Q S23_8))
abbrev rm_X5_init : Room := { frames := 2, cells := 13, slots := 295, locals := 40 }
set_option maxRecDepth 100000 in
set_option maxHeartbeats 8000000 in
theorem c_X5_init (l : Launch) {o : Nat} (ho : isE5 o) {S : St} {Q : St → Prop} (hI : IR (o + 1) S) (hw : w_X5_init o S Q) : MetA l yX5_init (wB yX5_init cX5_init 1 none) rm_X5_init shE (o + 1) (o + 14) 13 295 (fun ad => [.ref (ad (o))]) S Q := by
  refine MetA_of (cc := cX5_init) (maxL := 1) (ret := none) (plainFor_of_name (by decide)) rfl (fun _ => Nat.le_of_ble_eq_true rfl) (fun G C hl hQ => ?_)
  subst hl
  have C : Cx (gset G (Gad G) (o + 1) 0 0) cX5_init BIG RX5 1 none rm_X5_init shE (o + 1) := C
  show Go (gset G (Gad G) (o + 1) 0 0) 1 0 [] [(0, .ref (Gad G (o)))] S
  unfold w_X5_init at hw
  refine Go_aload_n (q := 1) C 0 rfl dX5_init_0 rfl ?_
  refine Go_objinit (q := 4) C wm_9_18 wm_1_12 wm_1_13 (by decide) (Nat.le_of_ble_eq_true rfl) dX5_init_1 rfl ?_
  refine Go_aload_n (q := 5) C 0 rfl dX5_init_4 rfl ?_
  refine Go_new (n := o + 1) (q := 8) (stF := fun ad => [.ref (ad (o))]) (lvF := fun ad => [(0, .ref (ad (o)))]) C ci4 iw_4 (by decide +kernel) wm_9_19 wm_1_23 wm_2_0 (oE5_0 ho).2 hI rfl rfl (fun adz hz => by have g0 : adz (o) = (Gad G) (o) := hz (o) (by omega); simp only [g0]) (fun adz hz => by have g0 : adz (o) = (Gad G) (o) := hz (o) (by omega); simp only [g0]) (by exact Nat.le_of_ble_eq_true rfl) (by exact Nat.le_of_ble_eq_true rfl) dX5_init_5 rfl (fun ad5 hag5 hI => ?_)
  have hag : ∀ i, i < o + 1 → ad5 i = Gad G i := fun i hi => (hag5 i (by omega)).trans (rfl)
  have C1 : Cx (gset G ad5 (o + 2) (1) (15)) cX5_init BIG RX5 1 none rm_X5_init shE (o + 2) := Cx_gset C (by exact Nat.le_of_ble_eq_true rfl) (by exact Nat.le_of_ble_eq_true rfl)
  show Go (gset G ad5 (o + 2) (1) (15)) 1 _ [.ref (ad5 (o + 1)), .ref (ad5 (o))] [(0, .ref (ad5 (o)))] S
  refine Go_dup (q := 9) C1 rfl dX5_init_8 rfl ?_
  refine Go_callIN_A (n := o + 2) (n' := o + 10) (o := o + 1) (av := fun ad => []) (st := [.ref (ad5 (o + 1)), .ref (ad5 (o))]) (stF := fun ad => [.ref (ad (o + 1)), .ref (ad (o))]) (lvF := fun ad => [(0, .ref (ad (o)))]) (C := C1) (hM := c_X4_init (Gl G) (iE5_0 ho) hI hw) (host := "EndsRound") (hnw := nw_72) (hini := wm_2_0) (hins := wm_6_18) (hcode := wm_6_19) (hnm := rfl) (n9 := 0) (hd := by decide +kernel) (hr0 := ⟨rfl, rfl⟩) (hroom := ⟨by decide, by decide⟩) (hlen := rfl) (hst := rfl) (hW := Nat.le_of_ble_eq_true rfl) (hstF := rfl) (hs1 := (fun adz hz => by have g0 : adz (o + 1) = ad5 (o + 1) := hz (o + 1) (by omega); have g1 : adz (o) = ad5 (o) := hz (o) (by omega); simp only [g0, g1])) (hl1 := (fun adz hz => by have g0 : adz (o) = ad5 (o) := hz (o) (by omega); simp only [g0])) (hk := by exact Nat.le_of_ble_eq_true rfl) (hw := by exact Nat.le_of_ble_eq_true rfl) (hdg := dX5_init_9) (q := 12) (hq := rfl) (fun ad9 S9_2 hag9 hw hI => ?_)
  have hag : ∀ i, i < o + 1 → ad9 i = Gad G i := fun i hi => (hag9 i (by omega)).trans (hag i hi)
  have C3 : Cx (gset G ad9 (o + 10) (9) (111)) cX5_init BIG RX5 1 none rm_X5_init shE (o + 10) := Cx_gset C (by exact Nat.le_of_ble_eq_true rfl) (by exact Nat.le_of_ble_eq_true rfl)
  show Go (gset G ad9 (o + 10) (9) (111)) 1 _ [.ref (ad9 (o + 1)), .ref (ad9 (o))] [(0, .ref (ad9 (o)))] S9_2
  refine Go_putF (k := 0) (q := 15) C3 hQ.2 ci5 iw_5 (okn (oE5 ho) (by omega)) rfl wm_9_20 rfl rfl rfl (ci5.2.2.2.1 0 (by decide)) rfl rfl dX5_init_12 rfl (fun S12_4 e_S12_4 => ?_)
  have hw := hw S12_4 e_S12_4
  have hI := irR e_S12_4 (by omega) (by omega) hI
  refine Go_aload_n (q := 16) C3 0 rfl dX5_init_15 rfl ?_
  refine Go_new (n := o + 10) (q := 19) (stF := fun ad => [.ref (ad (o))]) (lvF := fun ad => [(0, .ref (ad (o)))]) C3 ci2 iw_2 (by decide +kernel) wm_9_21 wm_2_3 wm_2_4 (oE5_1 ho).2 hI rfl rfl (fun adz hz => by have g0 : adz (o) = ad9 (o) := hz (o) (by omega); simp only [g0]) (fun adz hz => by have g0 : adz (o) = ad9 (o) := hz (o) (by omega); simp only [g0]) (by exact Nat.le_of_ble_eq_true rfl) (by exact Nat.le_of_ble_eq_true rfl) dX5_init_16 rfl (fun ad16 hag16 hI => ?_)
  have hag : ∀ i, i < o + 1 → ad16 i = Gad G i := fun i hi => (hag16 i (by omega)).trans (hag i hi)
  have C5 : Cx (gset G ad16 (o + 11) (10) (115)) cX5_init BIG RX5 1 none rm_X5_init shE (o + 11) := Cx_gset C (by exact Nat.le_of_ble_eq_true rfl) (by exact Nat.le_of_ble_eq_true rfl)
  show Go (gset G ad16 (o + 11) (10) (115)) 1 _ [.ref (ad16 (o + 10)), .ref (ad16 (o))] [(0, .ref (ad16 (o)))] S12_4
  refine Go_dup (q := 20) C5 rfl dX5_init_19 rfl ?_
  refine Go_callIN_A (n := o + 11) (n' := o + 14) (o := o + 10) (av := fun ad => []) (st := [.ref (ad16 (o + 10)), .ref (ad16 (o))]) (stF := fun ad => [.ref (ad (o + 10)), .ref (ad (o))]) (lvF := fun ad => [(0, .ref (ad (o)))]) (C := C5) (hM := c_X2_init (Gl G) (iE5_1 ho) hI hw) (host := "EndsRound") (hnw := nw_73) (hini := wm_2_4) (hins := wm_7_5) (hcode := wm_7_6) (hnm := rfl) (n9 := 0) (hd := by decide +kernel) (hr0 := ⟨rfl, rfl⟩) (hroom := ⟨by decide, by decide⟩) (hlen := rfl) (hst := rfl) (hW := Nat.le_of_ble_eq_true rfl) (hstF := rfl) (hs1 := (fun adz hz => by have g0 : adz (o + 10) = ad16 (o + 10) := hz (o + 10) (by omega); have g1 : adz (o) = ad16 (o) := hz (o) (by omega); simp only [g0, g1])) (hl1 := (fun adz hz => by have g0 : adz (o) = ad16 (o) := hz (o) (by omega); simp only [g0])) (hk := by exact Nat.le_of_ble_eq_true rfl) (hw := by exact Nat.le_of_ble_eq_true rfl) (hdg := dX5_init_20) (q := 23) (hq := rfl) (fun ad20 S20_6 hag20 hw hI => ?_)
  have hag : ∀ i, i < o + 1 → ad20 i = Gad G i := fun i hi => (hag20 i (by omega)).trans (hag i hi)
  have C7 : Cx (gset G ad20 (o + 14) (13) (295)) cX5_init BIG RX5 1 none rm_X5_init shE (o + 14) := Cx_gset C (by exact Nat.le_of_ble_eq_true rfl) (by exact Nat.le_of_ble_eq_true rfl)
  show Go (gset G ad20 (o + 14) (13) (295)) 1 _ [.ref (ad20 (o + 10)), .ref (ad20 (o))] [(0, .ref (ad20 (o)))] S20_6
  refine Go_putF (k := 1) (q := 26) C7 hQ.2 ci5 iw_5 (okn (oE5 ho) (by omega)) rfl wm_9_22 rfl rfl rfl (ci5.2.2.2.1 1 (by decide)) rfl rfl dX5_init_23 rfl (fun S23_8 e_S23_8 => ?_)
  have hw := hw S23_8 e_S23_8
  have hI := irR e_S23_8 (by omega) (by omega) hI
  exact Go_retA C7 hQ hag hI hw (by exact Nat.le_of_ble_eq_true rfl) (by exact Nat.le_of_ble_eq_true rfl) dX5_init_26
-- X3_init
def w_X3_init (S : St) (Q : St → Prop) : Prop :=
 ∀ S9_2, S9_2 = sR S 43 2 (some 44) → ∀ S17_4, S17_4 = sR S9_2 43 3 (some 45) → ∀ S25_6, S25_6 = sR S17_4 43 4 (some 46) → ∀ S33_8, S33_8 = sR S25_6 43 5 (some 47) → ∀ S41_10, S41_10 = sR S33_8 43 6 (some 48) → ∀ S49_12, S49_12 = sR S41_10 43 7 (some 49) → ∀ S54_13, S54_13 = sR S49_12 43 0 (some 21) → ∀ S59_14, S59_14 = sR S54_13 43 1 (some 34) → Q S59_14
abbrev rm_X3_init : Room := { frames := 1, cells := 6, slots := 215, locals := 20 }
set_option maxRecDepth 100000 in
set_option maxHeartbeats 8000000 in
theorem c_X3_init (l : Launch) {S : St} {Q : St → Prop} (hI : IR (44) S) (hw : w_X3_init S Q) : MetA l yX3_init (wB yX3_init cX3_init 3 none) rm_X3_init shE (44) (50) 6 215 (fun ad => [.ref (ad (43)), .ref (ad (21)), .ref (ad (34))]) S Q := by
  refine MetA_of (cc := cX3_init) (maxL := 3) (ret := none) (plainFor_of_name (by decide)) rfl (fun _ => Nat.le_of_ble_eq_true rfl) (fun G C hl hQ => ?_)
  subst hl
  have C : Cx (gset G (Gad G) (44) 0 0) cX3_init BIG RX3 3 none rm_X3_init shE (44) := C
  show Go (gset G (Gad G) (44) 0 0) 3 0 [] [(0, .ref (Gad G (43))), (1, .ref (Gad G (21))), (2, .ref (Gad G (34)))] S
  unfold w_X3_init at hw
  refine Go_aload_n (q := 1) C 0 rfl dX3_init_0 rfl ?_
  refine Go_objinit (q := 4) C wm_8_6 wm_1_12 wm_1_13 (by decide) (Nat.le_of_ble_eq_true rfl) dX3_init_1 rfl ?_
  refine Go_aload_n (q := 5) C 0 rfl dX3_init_4 rfl ?_
  refine Go_bipush (q := 7) (v := (7 : Int32)) C dX3_init_5 rfl rfl ?_
  refine Go_newa_i (n := 44) (len := 7) (q := 9) (stF := fun ad => [.ref (ad (43))]) (lvF := fun ad => [(0, .ref (ad (43))), (1, .ref (ad (21))), (2, .ref (ad (34)))]) C wm_3_6 (by decide) rfl (by decide) kE_44.2 hI rfl rfl (fun adz hz => by have g0 : adz (43) = (Gad G) (43) := hz (43) (by omega); simp only [g0]) (fun adz hz => by have g0 : adz (43) = (Gad G) (43) := hz (43) (by omega); have g1 : adz (21) = (Gad G) (21) := hz (21) (by omega); have g2 : adz (34) = (Gad G) (34) := hz (34) (by omega); simp only [g0, g1, g2]) (by exact Nat.le_of_ble_eq_true rfl) (by exact Nat.le_of_ble_eq_true rfl) dX3_init_7 rfl (fun ad7 hag7 hI => ?_)
  have hag : ∀ i, i < 44 → ad7 i = Gad G i := fun i hi => (hag7 i (by omega)).trans (rfl)
  have C1 : Cx (gset G ad7 (45) (1) (7)) cX3_init BIG RX3 3 none rm_X3_init shE (45) := Cx_gset C (by exact Nat.le_of_ble_eq_true rfl) (by exact Nat.le_of_ble_eq_true rfl)
  show Go (gset G ad7 (45) (1) (7)) 3 _ [.ref (ad7 (44)), .ref (ad7 (43))] [(0, .ref (ad7 (43))), (1, .ref (ad7 (21))), (2, .ref (ad7 (34)))] S
  refine Go_putF (k := 2) (q := 12) C1 hQ.2 ci3 iw_3 (okn kE_43 (by omega)) rfl wm_8_7 rfl rfl rfl (ci3.2.2.2.1 2 (by decide)) rfl rfl dX3_init_9 rfl (fun S9_2 e_S9_2 => ?_)
  have hw := hw S9_2 e_S9_2
  have hI := irR e_S9_2 (by omega) (by omega) hI
  refine Go_aload_n (q := 13) C1 0 rfl dX3_init_12 rfl ?_
  refine Go_bipush (q := 15) (v := (96 : Int32)) C1 dX3_init_13 rfl rfl ?_
  refine Go_newa_i (n := 45) (len := 96) (q := 17) (stF := fun ad => [.ref (ad (43))]) (lvF := fun ad => [(0, .ref (ad (43))), (1, .ref (ad (21))), (2, .ref (ad (34)))]) C1 wm_3_6 (by decide) rfl (by decide) kE_45.2 hI rfl rfl (fun adz hz => by have g0 : adz (43) = ad7 (43) := hz (43) (by omega); simp only [g0]) (fun adz hz => by have g0 : adz (43) = ad7 (43) := hz (43) (by omega); have g1 : adz (21) = ad7 (21) := hz (21) (by omega); have g2 : adz (34) = ad7 (34) := hz (34) (by omega); simp only [g0, g1, g2]) (by exact Nat.le_of_ble_eq_true rfl) (by exact Nat.le_of_ble_eq_true rfl) dX3_init_15 rfl (fun ad15 hag15 hI => ?_)
  have hag : ∀ i, i < 44 → ad15 i = Gad G i := fun i hi => (hag15 i (by omega)).trans (hag i hi)
  have C3 : Cx (gset G ad15 (46) (2) (103)) cX3_init BIG RX3 3 none rm_X3_init shE (46) := Cx_gset C (by exact Nat.le_of_ble_eq_true rfl) (by exact Nat.le_of_ble_eq_true rfl)
  show Go (gset G ad15 (46) (2) (103)) 3 _ [.ref (ad15 (45)), .ref (ad15 (43))] [(0, .ref (ad15 (43))), (1, .ref (ad15 (21))), (2, .ref (ad15 (34)))] S9_2
  refine Go_putF (k := 3) (q := 20) C3 hQ.2 ci3 iw_3 (okn kE_43 (by omega)) rfl wm_8_8 rfl rfl rfl (ci3.2.2.2.1 3 (by decide)) rfl rfl dX3_init_17 rfl (fun S17_4 e_S17_4 => ?_)
  have hw := hw S17_4 e_S17_4
  have hI := irR e_S17_4 (by omega) (by omega) hI
  refine Go_aload_n (q := 21) C3 0 rfl dX3_init_20 rfl ?_
  refine Go_bipush (q := 23) (v := (49 : Int32)) C3 dX3_init_21 rfl rfl ?_
  refine Go_newa_i (n := 46) (len := 49) (q := 25) (stF := fun ad => [.ref (ad (43))]) (lvF := fun ad => [(0, .ref (ad (43))), (1, .ref (ad (21))), (2, .ref (ad (34)))]) C3 wm_3_6 (by decide) rfl (by decide) kE_46.2 hI rfl rfl (fun adz hz => by have g0 : adz (43) = ad15 (43) := hz (43) (by omega); simp only [g0]) (fun adz hz => by have g0 : adz (43) = ad15 (43) := hz (43) (by omega); have g1 : adz (21) = ad15 (21) := hz (21) (by omega); have g2 : adz (34) = ad15 (34) := hz (34) (by omega); simp only [g0, g1, g2]) (by exact Nat.le_of_ble_eq_true rfl) (by exact Nat.le_of_ble_eq_true rfl) dX3_init_23 rfl (fun ad23 hag23 hI => ?_)
  have hag : ∀ i, i < 44 → ad23 i = Gad G i := fun i hi => (hag23 i (by omega)).trans (hag i hi)
  have C5 : Cx (gset G ad23 (47) (3) (152)) cX3_init BIG RX3 3 none rm_X3_init shE (47) := Cx_gset C (by exact Nat.le_of_ble_eq_true rfl) (by exact Nat.le_of_ble_eq_true rfl)
  show Go (gset G ad23 (47) (3) (152)) 3 _ [.ref (ad23 (46)), .ref (ad23 (43))] [(0, .ref (ad23 (43))), (1, .ref (ad23 (21))), (2, .ref (ad23 (34)))] S17_4
  refine Go_putF (k := 4) (q := 28) C5 hQ.2 ci3 iw_3 (okn kE_43 (by omega)) rfl wm_8_9 rfl rfl rfl (ci3.2.2.2.1 4 (by decide)) rfl rfl dX3_init_25 rfl (fun S25_6 e_S25_6 => ?_)
  have hw := hw S25_6 e_S25_6
  have hI := irR e_S25_6 (by omega) (by omega) hI
  refine Go_aload_n (q := 29) C5 0 rfl dX3_init_28 rfl ?_
  refine Go_bipush (q := 31) (v := (7 : Int32)) C5 dX3_init_29 rfl rfl ?_
  refine Go_newa_i (n := 47) (len := 7) (q := 33) (stF := fun ad => [.ref (ad (43))]) (lvF := fun ad => [(0, .ref (ad (43))), (1, .ref (ad (21))), (2, .ref (ad (34)))]) C5 wm_3_6 (by decide) rfl (by decide) kE_47.2 hI rfl rfl (fun adz hz => by have g0 : adz (43) = ad23 (43) := hz (43) (by omega); simp only [g0]) (fun adz hz => by have g0 : adz (43) = ad23 (43) := hz (43) (by omega); have g1 : adz (21) = ad23 (21) := hz (21) (by omega); have g2 : adz (34) = ad23 (34) := hz (34) (by omega); simp only [g0, g1, g2]) (by exact Nat.le_of_ble_eq_true rfl) (by exact Nat.le_of_ble_eq_true rfl) dX3_init_31 rfl (fun ad31 hag31 hI => ?_)
  have hag : ∀ i, i < 44 → ad31 i = Gad G i := fun i hi => (hag31 i (by omega)).trans (hag i hi)
  have C7 : Cx (gset G ad31 (48) (4) (159)) cX3_init BIG RX3 3 none rm_X3_init shE (48) := Cx_gset C (by exact Nat.le_of_ble_eq_true rfl) (by exact Nat.le_of_ble_eq_true rfl)
  show Go (gset G ad31 (48) (4) (159)) 3 _ [.ref (ad31 (47)), .ref (ad31 (43))] [(0, .ref (ad31 (43))), (1, .ref (ad31 (21))), (2, .ref (ad31 (34)))] S25_6
  refine Go_putF (k := 5) (q := 36) C7 hQ.2 ci3 iw_3 (okn kE_43 (by omega)) rfl wm_8_10 rfl rfl rfl (ci3.2.2.2.1 5 (by decide)) rfl rfl dX3_init_33 rfl (fun S33_8 e_S33_8 => ?_)
  have hw := hw S33_8 e_S33_8
  have hI := irR e_S33_8 (by omega) (by omega) hI
  refine Go_aload_n (q := 37) C7 0 rfl dX3_init_36 rfl ?_
  refine Go_bipush (q := 39) (v := (7 : Int32)) C7 dX3_init_37 rfl rfl ?_
  refine Go_newa_i (n := 48) (len := 7) (q := 41) (stF := fun ad => [.ref (ad (43))]) (lvF := fun ad => [(0, .ref (ad (43))), (1, .ref (ad (21))), (2, .ref (ad (34)))]) C7 wm_3_6 (by decide) rfl (by decide) kE_48.2 hI rfl rfl (fun adz hz => by have g0 : adz (43) = ad31 (43) := hz (43) (by omega); simp only [g0]) (fun adz hz => by have g0 : adz (43) = ad31 (43) := hz (43) (by omega); have g1 : adz (21) = ad31 (21) := hz (21) (by omega); have g2 : adz (34) = ad31 (34) := hz (34) (by omega); simp only [g0, g1, g2]) (by exact Nat.le_of_ble_eq_true rfl) (by exact Nat.le_of_ble_eq_true rfl) dX3_init_39 rfl (fun ad39 hag39 hI => ?_)
  have hag : ∀ i, i < 44 → ad39 i = Gad G i := fun i hi => (hag39 i (by omega)).trans (hag i hi)
  have C9 : Cx (gset G ad39 (49) (5) (166)) cX3_init BIG RX3 3 none rm_X3_init shE (49) := Cx_gset C (by exact Nat.le_of_ble_eq_true rfl) (by exact Nat.le_of_ble_eq_true rfl)
  show Go (gset G ad39 (49) (5) (166)) 3 _ [.ref (ad39 (48)), .ref (ad39 (43))] [(0, .ref (ad39 (43))), (1, .ref (ad39 (21))), (2, .ref (ad39 (34)))] S33_8
  refine Go_putF (k := 6) (q := 44) C9 hQ.2 ci3 iw_3 (okn kE_43 (by omega)) rfl wm_8_11 rfl rfl rfl (ci3.2.2.2.1 6 (by decide)) rfl rfl dX3_init_41 rfl (fun S41_10 e_S41_10 => ?_)
  have hw := hw S41_10 e_S41_10
  have hI := irR e_S41_10 (by omega) (by omega) hI
  refine Go_aload_n (q := 45) C9 0 rfl dX3_init_44 rfl ?_
  refine Go_bipush (q := 47) (v := (49 : Int32)) C9 dX3_init_45 rfl rfl ?_
  refine Go_newa_i (n := 49) (len := 49) (q := 49) (stF := fun ad => [.ref (ad (43))]) (lvF := fun ad => [(0, .ref (ad (43))), (1, .ref (ad (21))), (2, .ref (ad (34)))]) C9 wm_3_6 (by decide) rfl (by decide) kE_49.2 hI rfl rfl (fun adz hz => by have g0 : adz (43) = ad39 (43) := hz (43) (by omega); simp only [g0]) (fun adz hz => by have g0 : adz (43) = ad39 (43) := hz (43) (by omega); have g1 : adz (21) = ad39 (21) := hz (21) (by omega); have g2 : adz (34) = ad39 (34) := hz (34) (by omega); simp only [g0, g1, g2]) (by exact Nat.le_of_ble_eq_true rfl) (by exact Nat.le_of_ble_eq_true rfl) dX3_init_47 rfl (fun ad47 hag47 hI => ?_)
  have hag : ∀ i, i < 44 → ad47 i = Gad G i := fun i hi => (hag47 i (by omega)).trans (hag i hi)
  have C11 : Cx (gset G ad47 (50) (6) (215)) cX3_init BIG RX3 3 none rm_X3_init shE (50) := Cx_gset C (by exact Nat.le_of_ble_eq_true rfl) (by exact Nat.le_of_ble_eq_true rfl)
  show Go (gset G ad47 (50) (6) (215)) 3 _ [.ref (ad47 (49)), .ref (ad47 (43))] [(0, .ref (ad47 (43))), (1, .ref (ad47 (21))), (2, .ref (ad47 (34)))] S41_10
  refine Go_putF (k := 7) (q := 52) C11 hQ.2 ci3 iw_3 (okn kE_43 (by omega)) rfl wm_8_12 rfl rfl rfl (ci3.2.2.2.1 7 (by decide)) rfl rfl dX3_init_49 rfl (fun S49_12 e_S49_12 => ?_)
  have hw := hw S49_12 e_S49_12
  have hI := irR e_S49_12 (by omega) (by omega) hI
  refine Go_aload_n (q := 53) C11 0 rfl dX3_init_52 rfl ?_
  refine Go_aload_n (q := 54) C11 1 rfl dX3_init_53 rfl ?_
  refine Go_putF (k := 0) (q := 57) C11 hQ.2 ci3 iw_3 (okn kE_43 (by omega)) rfl wm_8_13 rfl rfl rfl (ci3.2.2.2.1 0 (by decide)) rfl rfl dX3_init_54 rfl (fun S54_13 e_S54_13 => ?_)
  have hw := hw S54_13 e_S54_13
  have hI := irR e_S54_13 (by omega) (by omega) hI
  refine Go_aload_n (q := 58) C11 0 rfl dX3_init_57 rfl ?_
  refine Go_aload_n (q := 59) C11 2 rfl dX3_init_58 rfl ?_
  refine Go_putF (k := 1) (q := 62) C11 hQ.2 ci3 iw_3 (okn kE_43 (by omega)) rfl wm_8_14 rfl rfl rfl (ci3.2.2.2.1 1 (by decide)) rfl rfl dX3_init_59 rfl (fun S59_14 e_S59_14 => ?_)
  have hw := hw S59_14 e_S59_14
  have hI := irR e_S59_14 (by omega) (by omega) hI
  exact Go_retA C11 hQ hag hI hw (by exact Nat.le_of_ble_eq_true rfl) (by exact Nat.le_of_ble_eq_true rfl) dX3_init_62
-- X6_init
def w_X6_init (S : St) (Q : St → Prop) : Prop :=
 ∀ S9_2, S9_2 = sR S 50 3 (some 51) → ∀ S17_4, S17_4 = sR S9_2 50 4 (some 52) → ∀ S25_6, S25_6 = sR S17_4 50 5 (some 53) → ∀ S34_8, S34_8 = sR S25_6 50 6 (some 54) → ∀ S43_10, S43_10 = sR S34_8 50 7 (some 55) → ∀ S48_11, S48_11 = sR S43_10 50 0 (some 21) → ∀ S53_12, S53_12 = sR S48_11 50 1 (some 34) → ∀ S58_13, S58_13 = sR S53_12 50 2 (some 30) → Q S58_13
abbrev rm_X6_init : Room := { frames := 1, cells := 5, slots := 359, locals := 20 }
set_option maxRecDepth 100000 in
set_option maxHeartbeats 8000000 in
theorem c_X6_init (l : Launch) {S : St} {Q : St → Prop} (hI : IR (51) S) (hw : w_X6_init S Q) : MetA l yX6_init (wB yX6_init cX6_init 4 none) rm_X6_init shE (51) (56) 5 359 (fun ad => [.ref (ad (50)), .ref (ad (21)), .ref (ad (34)), .ref (ad (30))]) S Q := by
  refine MetA_of (cc := cX6_init) (maxL := 4) (ret := none) (plainFor_of_name (by decide)) rfl (fun _ => Nat.le_of_ble_eq_true rfl) (fun G C hl hQ => ?_)
  subst hl
  have C : Cx (gset G (Gad G) (51) 0 0) cX6_init BIG RX6 4 none rm_X6_init shE (51) := C
  show Go (gset G (Gad G) (51) 0 0) 4 0 [] [(0, .ref (Gad G (50))), (1, .ref (Gad G (21))), (2, .ref (Gad G (34))), (3, .ref (Gad G (30)))] S
  unfold w_X6_init at hw
  refine Go_aload_n (q := 1) C 0 rfl dX6_init_0 rfl ?_
  refine Go_objinit (q := 4) C wm_8_18 wm_1_12 wm_1_13 (by decide) (Nat.le_of_ble_eq_true rfl) dX6_init_1 rfl ?_
  refine Go_aload_n (q := 5) C 0 rfl dX6_init_4 rfl ?_
  refine Go_bipush (q := 7) (v := (7 : Int32)) C dX6_init_5 rfl rfl ?_
  refine Go_newa_i (n := 51) (len := 7) (q := 9) (stF := fun ad => [.ref (ad (50))]) (lvF := fun ad => [(0, .ref (ad (50))), (1, .ref (ad (21))), (2, .ref (ad (34))), (3, .ref (ad (30)))]) C wm_3_6 (by decide) rfl (by decide) kE_51.2 hI rfl rfl (fun adz hz => by have g0 : adz (50) = (Gad G) (50) := hz (50) (by omega); simp only [g0]) (fun adz hz => by have g0 : adz (50) = (Gad G) (50) := hz (50) (by omega); have g1 : adz (21) = (Gad G) (21) := hz (21) (by omega); have g2 : adz (34) = (Gad G) (34) := hz (34) (by omega); have g3 : adz (30) = (Gad G) (30) := hz (30) (by omega); simp only [g0, g1, g2, g3]) (by exact Nat.le_of_ble_eq_true rfl) (by exact Nat.le_of_ble_eq_true rfl) dX6_init_7 rfl (fun ad7 hag7 hI => ?_)
  have hag : ∀ i, i < 51 → ad7 i = Gad G i := fun i hi => (hag7 i (by omega)).trans (rfl)
  have C1 : Cx (gset G ad7 (52) (1) (7)) cX6_init BIG RX6 4 none rm_X6_init shE (52) := Cx_gset C (by exact Nat.le_of_ble_eq_true rfl) (by exact Nat.le_of_ble_eq_true rfl)
  show Go (gset G ad7 (52) (1) (7)) 4 _ [.ref (ad7 (51)), .ref (ad7 (50))] [(0, .ref (ad7 (50))), (1, .ref (ad7 (21))), (2, .ref (ad7 (34))), (3, .ref (ad7 (30)))] S
  refine Go_putF (k := 3) (q := 12) C1 hQ.2 ci6 iw_6 (okn kE_50 (by omega)) rfl wm_8_19 rfl rfl rfl (ci6.2.2.2.1 3 (by decide)) rfl rfl dX6_init_9 rfl (fun S9_2 e_S9_2 => ?_)
  have hw := hw S9_2 e_S9_2
  have hI := irR e_S9_2 (by omega) (by omega) hI
  refine Go_aload_n (q := 13) C1 0 rfl dX6_init_12 rfl ?_
  refine Go_bipush (q := 15) (v := (84 : Int32)) C1 dX6_init_13 rfl rfl ?_
  refine Go_newa_i (n := 52) (len := 84) (q := 17) (stF := fun ad => [.ref (ad (50))]) (lvF := fun ad => [(0, .ref (ad (50))), (1, .ref (ad (21))), (2, .ref (ad (34))), (3, .ref (ad (30)))]) C1 wm_3_6 (by decide) rfl (by decide) kE_52.2 hI rfl rfl (fun adz hz => by have g0 : adz (50) = ad7 (50) := hz (50) (by omega); simp only [g0]) (fun adz hz => by have g0 : adz (50) = ad7 (50) := hz (50) (by omega); have g1 : adz (21) = ad7 (21) := hz (21) (by omega); have g2 : adz (34) = ad7 (34) := hz (34) (by omega); have g3 : adz (30) = ad7 (30) := hz (30) (by omega); simp only [g0, g1, g2, g3]) (by exact Nat.le_of_ble_eq_true rfl) (by exact Nat.le_of_ble_eq_true rfl) dX6_init_15 rfl (fun ad15 hag15 hI => ?_)
  have hag : ∀ i, i < 51 → ad15 i = Gad G i := fun i hi => (hag15 i (by omega)).trans (hag i hi)
  have C3 : Cx (gset G ad15 (53) (2) (91)) cX6_init BIG RX6 4 none rm_X6_init shE (53) := Cx_gset C (by exact Nat.le_of_ble_eq_true rfl) (by exact Nat.le_of_ble_eq_true rfl)
  show Go (gset G ad15 (53) (2) (91)) 4 _ [.ref (ad15 (52)), .ref (ad15 (50))] [(0, .ref (ad15 (50))), (1, .ref (ad15 (21))), (2, .ref (ad15 (34))), (3, .ref (ad15 (30)))] S9_2
  refine Go_putF (k := 4) (q := 20) C3 hQ.2 ci6 iw_6 (okn kE_50 (by omega)) rfl wm_8_20 rfl rfl rfl (ci6.2.2.2.1 4 (by decide)) rfl rfl dX6_init_17 rfl (fun S17_4 e_S17_4 => ?_)
  have hw := hw S17_4 e_S17_4
  have hI := irR e_S17_4 (by omega) (by omega) hI
  refine Go_aload_n (q := 21) C3 0 rfl dX6_init_20 rfl ?_
  refine Go_bipush (q := 23) (v := (12 : Int32)) C3 dX6_init_21 rfl rfl ?_
  refine Go_newa_i (n := 53) (len := 12) (q := 25) (stF := fun ad => [.ref (ad (50))]) (lvF := fun ad => [(0, .ref (ad (50))), (1, .ref (ad (21))), (2, .ref (ad (34))), (3, .ref (ad (30)))]) C3 wm_3_6 (by decide) rfl (by decide) kE_53.2 hI rfl rfl (fun adz hz => by have g0 : adz (50) = ad15 (50) := hz (50) (by omega); simp only [g0]) (fun adz hz => by have g0 : adz (50) = ad15 (50) := hz (50) (by omega); have g1 : adz (21) = ad15 (21) := hz (21) (by omega); have g2 : adz (34) = ad15 (34) := hz (34) (by omega); have g3 : adz (30) = ad15 (30) := hz (30) (by omega); simp only [g0, g1, g2, g3]) (by exact Nat.le_of_ble_eq_true rfl) (by exact Nat.le_of_ble_eq_true rfl) dX6_init_23 rfl (fun ad23 hag23 hI => ?_)
  have hag : ∀ i, i < 51 → ad23 i = Gad G i := fun i hi => (hag23 i (by omega)).trans (hag i hi)
  have C5 : Cx (gset G ad23 (54) (3) (103)) cX6_init BIG RX6 4 none rm_X6_init shE (54) := Cx_gset C (by exact Nat.le_of_ble_eq_true rfl) (by exact Nat.le_of_ble_eq_true rfl)
  show Go (gset G ad23 (54) (3) (103)) 4 _ [.ref (ad23 (53)), .ref (ad23 (50))] [(0, .ref (ad23 (50))), (1, .ref (ad23 (21))), (2, .ref (ad23 (34))), (3, .ref (ad23 (30)))] S17_4
  refine Go_putF (k := 5) (q := 28) C5 hQ.2 ci6 iw_6 (okn kE_50 (by omega)) rfl wm_8_21 rfl rfl rfl (ci6.2.2.2.1 5 (by decide)) rfl rfl dX6_init_25 rfl (fun S25_6 e_S25_6 => ?_)
  have hw := hw S25_6 e_S25_6
  have hI := irR e_S25_6 (by omega) (by omega) hI
  refine Go_aload_n (q := 29) C5 0 rfl dX6_init_28 rfl ?_
  refine Go_sipush (q := 32) (v := (128 : Int32)) C5 dX6_init_29 rfl rfl ?_
  refine Go_newa_i (n := 54) (len := 128) (q := 34) (stF := fun ad => [.ref (ad (50))]) (lvF := fun ad => [(0, .ref (ad (50))), (1, .ref (ad (21))), (2, .ref (ad (34))), (3, .ref (ad (30)))]) C5 wm_3_6 (by decide) rfl (by decide) kE_54.2 hI rfl rfl (fun adz hz => by have g0 : adz (50) = ad23 (50) := hz (50) (by omega); simp only [g0]) (fun adz hz => by have g0 : adz (50) = ad23 (50) := hz (50) (by omega); have g1 : adz (21) = ad23 (21) := hz (21) (by omega); have g2 : adz (34) = ad23 (34) := hz (34) (by omega); have g3 : adz (30) = ad23 (30) := hz (30) (by omega); simp only [g0, g1, g2, g3]) (by exact Nat.le_of_ble_eq_true rfl) (by exact Nat.le_of_ble_eq_true rfl) dX6_init_32 rfl (fun ad32 hag32 hI => ?_)
  have hag : ∀ i, i < 51 → ad32 i = Gad G i := fun i hi => (hag32 i (by omega)).trans (hag i hi)
  have C7 : Cx (gset G ad32 (55) (4) (231)) cX6_init BIG RX6 4 none rm_X6_init shE (55) := Cx_gset C (by exact Nat.le_of_ble_eq_true rfl) (by exact Nat.le_of_ble_eq_true rfl)
  show Go (gset G ad32 (55) (4) (231)) 4 _ [.ref (ad32 (54)), .ref (ad32 (50))] [(0, .ref (ad32 (50))), (1, .ref (ad32 (21))), (2, .ref (ad32 (34))), (3, .ref (ad32 (30)))] S25_6
  refine Go_putF (k := 6) (q := 37) C7 hQ.2 ci6 iw_6 (okn kE_50 (by omega)) rfl wm_8_22 rfl rfl rfl (ci6.2.2.2.1 6 (by decide)) rfl rfl dX6_init_34 rfl (fun S34_8 e_S34_8 => ?_)
  have hw := hw S34_8 e_S34_8
  have hI := irR e_S34_8 (by omega) (by omega) hI
  refine Go_aload_n (q := 38) C7 0 rfl dX6_init_37 rfl ?_
  refine Go_sipush (q := 41) (v := (128 : Int32)) C7 dX6_init_38 rfl rfl ?_
  refine Go_newa_i (n := 55) (len := 128) (q := 43) (stF := fun ad => [.ref (ad (50))]) (lvF := fun ad => [(0, .ref (ad (50))), (1, .ref (ad (21))), (2, .ref (ad (34))), (3, .ref (ad (30)))]) C7 wm_3_6 (by decide) rfl (by decide) kE_55.2 hI rfl rfl (fun adz hz => by have g0 : adz (50) = ad32 (50) := hz (50) (by omega); simp only [g0]) (fun adz hz => by have g0 : adz (50) = ad32 (50) := hz (50) (by omega); have g1 : adz (21) = ad32 (21) := hz (21) (by omega); have g2 : adz (34) = ad32 (34) := hz (34) (by omega); have g3 : adz (30) = ad32 (30) := hz (30) (by omega); simp only [g0, g1, g2, g3]) (by exact Nat.le_of_ble_eq_true rfl) (by exact Nat.le_of_ble_eq_true rfl) dX6_init_41 rfl (fun ad41 hag41 hI => ?_)
  have hag : ∀ i, i < 51 → ad41 i = Gad G i := fun i hi => (hag41 i (by omega)).trans (hag i hi)
  have C9 : Cx (gset G ad41 (56) (5) (359)) cX6_init BIG RX6 4 none rm_X6_init shE (56) := Cx_gset C (by exact Nat.le_of_ble_eq_true rfl) (by exact Nat.le_of_ble_eq_true rfl)
  show Go (gset G ad41 (56) (5) (359)) 4 _ [.ref (ad41 (55)), .ref (ad41 (50))] [(0, .ref (ad41 (50))), (1, .ref (ad41 (21))), (2, .ref (ad41 (34))), (3, .ref (ad41 (30)))] S34_8
  refine Go_putF (k := 7) (q := 46) C9 hQ.2 ci6 iw_6 (okn kE_50 (by omega)) rfl wm_8_23 rfl rfl rfl (ci6.2.2.2.1 7 (by decide)) rfl rfl dX6_init_43 rfl (fun S43_10 e_S43_10 => ?_)
  have hw := hw S43_10 e_S43_10
  have hI := irR e_S43_10 (by omega) (by omega) hI
  refine Go_aload_n (q := 47) C9 0 rfl dX6_init_46 rfl ?_
  refine Go_aload_n (q := 48) C9 1 rfl dX6_init_47 rfl ?_
  refine Go_putF (k := 0) (q := 51) C9 hQ.2 ci6 iw_6 (okn kE_50 (by omega)) rfl wm_9_0 rfl rfl rfl (ci6.2.2.2.1 0 (by decide)) rfl rfl dX6_init_48 rfl (fun S48_11 e_S48_11 => ?_)
  have hw := hw S48_11 e_S48_11
  have hI := irR e_S48_11 (by omega) (by omega) hI
  refine Go_aload_n (q := 52) C9 0 rfl dX6_init_51 rfl ?_
  refine Go_aload_n (q := 53) C9 2 rfl dX6_init_52 rfl ?_
  refine Go_putF (k := 1) (q := 56) C9 hQ.2 ci6 iw_6 (okn kE_50 (by omega)) rfl wm_9_1 rfl rfl rfl (ci6.2.2.2.1 1 (by decide)) rfl rfl dX6_init_53 rfl (fun S53_12 e_S53_12 => ?_)
  have hw := hw S53_12 e_S53_12
  have hI := irR e_S53_12 (by omega) (by omega) hI
  refine Go_aload_n (q := 57) C9 0 rfl dX6_init_56 rfl ?_
  refine Go_aload_n (q := 58) C9 3 rfl dX6_init_57 rfl ?_
  refine Go_putF (k := 2) (q := 61) C9 hQ.2 ci6 iw_6 (okn kE_50 (by omega)) rfl wm_9_2 rfl rfl rfl (ci6.2.2.2.1 2 (by decide)) rfl rfl dX6_init_58 rfl (fun S58_13 e_S58_13 => ?_)
  have hw := hw S58_13 e_S58_13
  have hI := irR e_S58_13 (by omega) (by omega) hI
  exact Go_retA C9 hQ hag hI hw (by exact Nat.le_of_ble_eq_true rfl) (by exact Nat.le_of_ble_eq_true rfl) dX6_init_61
-- X7_init
def w_X7_init (S : St) (Q : St → Prop) : Prop :=
 ∀ S9_2, S9_2 = sR S 56 0 (some 57) → ∀ S17_4, S17_4 = sR S9_2 56 1 (some 58) → ∀ S25_6, S25_6 = sR S17_4 56 2 (some 59) → ∀ S33_8, S33_8 = sR S25_6 56 3 (some 60) → w_X1_init 61 (12 : Int32) S33_8 (fun S43_10 => ∀ S46_12, S46_12 = sR S43_10 56 4 (some 61) → ∀ S51_13, S51_13 = sR S46_12 56 5 (some 21) → ∀ S56_14, S56_14 = sR S51_13 56 6 (some 21) → Q S56_14)
abbrev rm_X7_init : Room := { frames := 2, cells := 6, slots := 254, locals := 41 }
set_option maxRecDepth 100000 in
set_option maxHeartbeats 8000000 in
theorem c_X7_init (l : Launch) {S : St} {Q : St → Prop} (hI : IR (57) S) (hw : w_X7_init S Q) : MetA l yX7_init (wB yX7_init cX7_init 2 none) rm_X7_init shE (57) (63) 6 254 (fun ad => [.ref (ad (56)), .ref (ad (21))]) S Q := by
  refine MetA_of (cc := cX7_init) (maxL := 2) (ret := none) (plainFor_of_name (by decide)) rfl (fun _ => Nat.le_of_ble_eq_true rfl) (fun G C hl hQ => ?_)
  subst hl
  have C : Cx (gset G (Gad G) (57) 0 0) cX7_init BIG RX7 2 none rm_X7_init shE (57) := C
  show Go (gset G (Gad G) (57) 0 0) 2 0 [] [(0, .ref (Gad G (56))), (1, .ref (Gad G (21)))] S
  unfold w_X7_init at hw
  refine Go_aload_n (q := 1) C 0 rfl dX7_init_0 rfl ?_
  refine Go_objinit (q := 4) C wm_9_6 wm_1_12 wm_1_13 (by decide) (Nat.le_of_ble_eq_true rfl) dX7_init_1 rfl ?_
  refine Go_aload_n (q := 5) C 0 rfl dX7_init_4 rfl ?_
  refine Go_bipush (q := 7) (v := (12 : Int32)) C dX7_init_5 rfl rfl ?_
  refine Go_newa_i (n := 57) (len := 12) (q := 9) (stF := fun ad => [.ref (ad (56))]) (lvF := fun ad => [(0, .ref (ad (56))), (1, .ref (ad (21)))]) C wm_3_6 (by decide) rfl (by decide) kE_57.2 hI rfl rfl (fun adz hz => by have g0 : adz (56) = (Gad G) (56) := hz (56) (by omega); simp only [g0]) (fun adz hz => by have g0 : adz (56) = (Gad G) (56) := hz (56) (by omega); have g1 : adz (21) = (Gad G) (21) := hz (21) (by omega); simp only [g0, g1]) (by exact Nat.le_of_ble_eq_true rfl) (by exact Nat.le_of_ble_eq_true rfl) dX7_init_7 rfl (fun ad7 hag7 hI => ?_)
  have hag : ∀ i, i < 57 → ad7 i = Gad G i := fun i hi => (hag7 i (by omega)).trans (rfl)
  have C1 : Cx (gset G ad7 (58) (1) (12)) cX7_init BIG RX7 2 none rm_X7_init shE (58) := Cx_gset C (by exact Nat.le_of_ble_eq_true rfl) (by exact Nat.le_of_ble_eq_true rfl)
  show Go (gset G ad7 (58) (1) (12)) 2 _ [.ref (ad7 (57)), .ref (ad7 (56))] [(0, .ref (ad7 (56))), (1, .ref (ad7 (21)))] S
  refine Go_putF (k := 0) (q := 12) C1 hQ.2 ci7 iw_7 (okn kE_56 (by omega)) rfl wm_9_7 rfl rfl rfl (ci7.2.2.2.1 0 (by decide)) rfl rfl dX7_init_9 rfl (fun S9_2 e_S9_2 => ?_)
  have hw := hw S9_2 e_S9_2
  have hI := irR e_S9_2 (by omega) (by omega) hI
  refine Go_aload_n (q := 13) C1 0 rfl dX7_init_12 rfl ?_
  refine Go_bipush (q := 15) (v := (12 : Int32)) C1 dX7_init_13 rfl rfl ?_
  refine Go_newa_i (n := 58) (len := 12) (q := 17) (stF := fun ad => [.ref (ad (56))]) (lvF := fun ad => [(0, .ref (ad (56))), (1, .ref (ad (21)))]) C1 wm_3_6 (by decide) rfl (by decide) kE_58.2 hI rfl rfl (fun adz hz => by have g0 : adz (56) = ad7 (56) := hz (56) (by omega); simp only [g0]) (fun adz hz => by have g0 : adz (56) = ad7 (56) := hz (56) (by omega); have g1 : adz (21) = ad7 (21) := hz (21) (by omega); simp only [g0, g1]) (by exact Nat.le_of_ble_eq_true rfl) (by exact Nat.le_of_ble_eq_true rfl) dX7_init_15 rfl (fun ad15 hag15 hI => ?_)
  have hag : ∀ i, i < 57 → ad15 i = Gad G i := fun i hi => (hag15 i (by omega)).trans (hag i hi)
  have C3 : Cx (gset G ad15 (59) (2) (24)) cX7_init BIG RX7 2 none rm_X7_init shE (59) := Cx_gset C (by exact Nat.le_of_ble_eq_true rfl) (by exact Nat.le_of_ble_eq_true rfl)
  show Go (gset G ad15 (59) (2) (24)) 2 _ [.ref (ad15 (58)), .ref (ad15 (56))] [(0, .ref (ad15 (56))), (1, .ref (ad15 (21)))] S9_2
  refine Go_putF (k := 1) (q := 20) C3 hQ.2 ci7 iw_7 (okn kE_56 (by omega)) rfl wm_9_8 rfl rfl rfl (ci7.2.2.2.1 1 (by decide)) rfl rfl dX7_init_17 rfl (fun S17_4 e_S17_4 => ?_)
  have hw := hw S17_4 e_S17_4
  have hI := irR e_S17_4 (by omega) (by omega) hI
  refine Go_aload_n (q := 21) C3 0 rfl dX7_init_20 rfl ?_
  refine Go_bipush (q := 23) (v := (12 : Int32)) C3 dX7_init_21 rfl rfl ?_
  refine Go_newa_i (n := 59) (len := 12) (q := 25) (stF := fun ad => [.ref (ad (56))]) (lvF := fun ad => [(0, .ref (ad (56))), (1, .ref (ad (21)))]) C3 wm_3_6 (by decide) rfl (by decide) kE_59.2 hI rfl rfl (fun adz hz => by have g0 : adz (56) = ad15 (56) := hz (56) (by omega); simp only [g0]) (fun adz hz => by have g0 : adz (56) = ad15 (56) := hz (56) (by omega); have g1 : adz (21) = ad15 (21) := hz (21) (by omega); simp only [g0, g1]) (by exact Nat.le_of_ble_eq_true rfl) (by exact Nat.le_of_ble_eq_true rfl) dX7_init_23 rfl (fun ad23 hag23 hI => ?_)
  have hag : ∀ i, i < 57 → ad23 i = Gad G i := fun i hi => (hag23 i (by omega)).trans (hag i hi)
  have C5 : Cx (gset G ad23 (60) (3) (36)) cX7_init BIG RX7 2 none rm_X7_init shE (60) := Cx_gset C (by exact Nat.le_of_ble_eq_true rfl) (by exact Nat.le_of_ble_eq_true rfl)
  show Go (gset G ad23 (60) (3) (36)) 2 _ [.ref (ad23 (59)), .ref (ad23 (56))] [(0, .ref (ad23 (56))), (1, .ref (ad23 (21)))] S17_4
  refine Go_putF (k := 2) (q := 28) C5 hQ.2 ci7 iw_7 (okn kE_56 (by omega)) rfl wm_9_9 rfl rfl rfl (ci7.2.2.2.1 2 (by decide)) rfl rfl dX7_init_25 rfl (fun S25_6 e_S25_6 => ?_)
  have hw := hw S25_6 e_S25_6
  have hI := irR e_S25_6 (by omega) (by omega) hI
  refine Go_aload_n (q := 29) C5 0 rfl dX7_init_28 rfl ?_
  refine Go_bipush (q := 31) (v := (12 : Int32)) C5 dX7_init_29 rfl rfl ?_
  refine Go_newa_i (n := 60) (len := 12) (q := 33) (stF := fun ad => [.ref (ad (56))]) (lvF := fun ad => [(0, .ref (ad (56))), (1, .ref (ad (21)))]) C5 wm_3_6 (by decide) rfl (by decide) kE_60.2 hI rfl rfl (fun adz hz => by have g0 : adz (56) = ad23 (56) := hz (56) (by omega); simp only [g0]) (fun adz hz => by have g0 : adz (56) = ad23 (56) := hz (56) (by omega); have g1 : adz (21) = ad23 (21) := hz (21) (by omega); simp only [g0, g1]) (by exact Nat.le_of_ble_eq_true rfl) (by exact Nat.le_of_ble_eq_true rfl) dX7_init_31 rfl (fun ad31 hag31 hI => ?_)
  have hag : ∀ i, i < 57 → ad31 i = Gad G i := fun i hi => (hag31 i (by omega)).trans (hag i hi)
  have C7 : Cx (gset G ad31 (61) (4) (48)) cX7_init BIG RX7 2 none rm_X7_init shE (61) := Cx_gset C (by exact Nat.le_of_ble_eq_true rfl) (by exact Nat.le_of_ble_eq_true rfl)
  show Go (gset G ad31 (61) (4) (48)) 2 _ [.ref (ad31 (60)), .ref (ad31 (56))] [(0, .ref (ad31 (56))), (1, .ref (ad31 (21)))] S25_6
  refine Go_putF (k := 3) (q := 36) C7 hQ.2 ci7 iw_7 (okn kE_56 (by omega)) rfl wm_9_10 rfl rfl rfl (ci7.2.2.2.1 3 (by decide)) rfl rfl dX7_init_33 rfl (fun S33_8 e_S33_8 => ?_)
  have hw := hw S33_8 e_S33_8
  have hI := irR e_S33_8 (by omega) (by omega) hI
  refine Go_aload_n (q := 37) C7 0 rfl dX7_init_36 rfl ?_
  refine Go_new (n := 61) (q := 40) (stF := fun ad => [.ref (ad (56))]) (lvF := fun ad => [(0, .ref (ad (56))), (1, .ref (ad (21)))]) C7 ci1 iw_1 (by decide +kernel) wm_9_11 wm_3_3 wm_3_4 kE_61.2 hI rfl rfl (fun adz hz => by have g0 : adz (56) = ad31 (56) := hz (56) (by omega); simp only [g0]) (fun adz hz => by have g0 : adz (56) = ad31 (56) := hz (56) (by omega); have g1 : adz (21) = ad31 (21) := hz (21) (by omega); simp only [g0, g1]) (by exact Nat.le_of_ble_eq_true rfl) (by exact Nat.le_of_ble_eq_true rfl) dX7_init_37 rfl (fun ad37 hag37 hI => ?_)
  have hag : ∀ i, i < 57 → ad37 i = Gad G i := fun i hi => (hag37 i (by omega)).trans (hag i hi)
  have C9 : Cx (gset G ad37 (62) (5) (54)) cX7_init BIG RX7 2 none rm_X7_init shE (62) := Cx_gset C (by exact Nat.le_of_ble_eq_true rfl) (by exact Nat.le_of_ble_eq_true rfl)
  show Go (gset G ad37 (62) (5) (54)) 2 _ [.ref (ad37 (61)), .ref (ad37 (56))] [(0, .ref (ad37 (56))), (1, .ref (ad37 (21)))] S33_8
  refine Go_dup (q := 41) C9 rfl dX7_init_40 rfl ?_
  refine Go_bipush (q := 43) (v := (12 : Int32)) C9 dX7_init_41 rfl rfl ?_
  refine Go_callI_A (n := 62) (n' := 63) (o := 61) (av := fun ad => [.int (12 : Int32)]) (st := [.ref (ad37 (61)), .ref (ad37 (56))]) (stF := fun ad => [.ref (ad (61)), .ref (ad (56))]) (lvF := fun ad => [(0, .ref (ad (56))), (1, .ref (ad (21)))]) (C := C9) (hM := c_X1_init (Gl G) isE1_61 hI hw) (hlk := wm_9_15) (hini := wm_3_4) (hins := wm_7_23) (hcode := wm_8_0) (hnm := rfl) (n9 := 1) (hd := by decide +kernel) (hr0 := ⟨rfl, rfl⟩) (hroom := ⟨by decide, by decide⟩) (hlen := rfl) (hst := rfl) (hW := Nat.le_of_ble_eq_true rfl) (hstF := rfl) (hs1 := (fun adz hz => by have g0 : adz (61) = ad37 (61) := hz (61) (by omega); have g1 : adz (56) = ad37 (56) := hz (56) (by omega); simp only [g0, g1])) (hl1 := (fun adz hz => by have g0 : adz (56) = ad37 (56) := hz (56) (by omega); have g1 : adz (21) = ad37 (21) := hz (21) (by omega); simp only [g0, g1])) (hk := by exact Nat.le_of_ble_eq_true rfl) (hw := by exact Nat.le_of_ble_eq_true rfl) (hdg := dX7_init_43) (q := 46) (hq := rfl) (fun ad43 S43_10 hag43 hw hI => ?_)
  have hag : ∀ i, i < 57 → ad43 i = Gad G i := fun i hi => (hag43 i (by omega)).trans (hag i hi)
  have C11 : Cx (gset G ad43 (63) (6) (254)) cX7_init BIG RX7 2 none rm_X7_init shE (63) := Cx_gset C (by exact Nat.le_of_ble_eq_true rfl) (by exact Nat.le_of_ble_eq_true rfl)
  show Go (gset G ad43 (63) (6) (254)) 2 _ [.ref (ad43 (61)), .ref (ad43 (56))] [(0, .ref (ad43 (56))), (1, .ref (ad43 (21)))] S43_10
  refine Go_putF (k := 4) (q := 49) C11 hQ.2 ci7 iw_7 (okn kE_56 (by omega)) rfl wm_9_12 rfl rfl rfl (ci7.2.2.2.1 4 (by decide)) rfl rfl dX7_init_46 rfl (fun S46_12 e_S46_12 => ?_)
  have hw := hw S46_12 e_S46_12
  have hI := irR e_S46_12 (by omega) (by omega) hI
  refine Go_aload_n (q := 50) C11 0 rfl dX7_init_49 rfl ?_
  refine Go_aload_n (q := 51) C11 1 rfl dX7_init_50 rfl ?_
  refine Go_putF (k := 5) (q := 54) C11 hQ.2 ci7 iw_7 (okn kE_56 (by omega)) rfl wm_9_13 rfl rfl rfl (ci7.2.2.2.1 5 (by decide)) rfl rfl dX7_init_51 rfl (fun S51_13 e_S51_13 => ?_)
  have hw := hw S51_13 e_S51_13
  have hI := irR e_S51_13 (by omega) (by omega) hI
  refine Go_aload_n (q := 55) C11 0 rfl dX7_init_54 rfl ?_
  refine Go_aload_n (q := 56) C11 1 rfl dX7_init_55 rfl ?_
  refine Go_putA (k := 6) (q := 59) C11 ci7 iw_7 (okn kE_56 (by omega)) rfl wm_9_14 rfl rfl (ci7.2.2.2.1 6 (by decide)) rfl rfl dX7_init_56 rfl ?_
  refine Go_S (fun S56_14 e_S56_14 => ?_)
  have hw := hw S56_14 e_S56_14
  have hI := irR e_S56_14 (by omega) (by omega) hI
  exact Go_retA C11 hQ hag hI hw (by exact Nat.le_of_ble_eq_true rfl) (by exact Nat.le_of_ble_eq_true rfl) dX7_init_59
-- X8_init
def w_X8_init (S : St) (Q : St → Prop) : Prop :=
 w_X0_init S (fun S9_2 => ∀ S12_4, S12_4 = sR S9_2 7 1 (some 8) → w_X4_init 11 S12_4 (fun S20_6 => ∀ S23_8, S23_8 = sR S20_6 7 2 (some 11) → ∀ S31_10, S31_10 = sR S23_8 7 3 (some 20) → ∀ S36_11, S36_11 = sR S31_10 7 0 (some 1) → Q S36_11))
abbrev rm_X8_init : Room := { frames := 2, cells := 13, slots := 1159, locals := 40 }
set_option maxRecDepth 100000 in
set_option maxHeartbeats 8000000 in
theorem c_X8_init (l : Launch) {S : St} {Q : St → Prop} (hI : IR (8) S) (hw : w_X8_init S Q) : MetA l yX8_init (wB yX8_init cX8_init 2 none) rm_X8_init shE (8) (21) 13 1159 (fun ad => [.ref (ad (7)), .ref (ad (1))]) S Q := by
  refine MetA_of (cc := cX8_init) (maxL := 2) (ret := none) (plainFor_of_name (by decide)) rfl (fun _ => Nat.le_of_ble_eq_true rfl) (fun G C hl hQ => ?_)
  subst hl
  have C : Cx (gset G (Gad G) (8) 0 0) cX8_init BIG RX8 2 none rm_X8_init shE (8) := C
  show Go (gset G (Gad G) (8) 0 0) 2 0 [] [(0, .ref (Gad G (7))), (1, .ref (Gad G (1)))] S
  unfold w_X8_init at hw
  refine Go_aload_n (q := 1) C 0 rfl dX8_init_0 rfl ?_
  refine Go_objinit (q := 4) C wm_6_4 wm_1_12 wm_1_13 (by decide) (Nat.le_of_ble_eq_true rfl) dX8_init_1 rfl ?_
  refine Go_aload_n (q := 5) C 0 rfl dX8_init_4 rfl ?_
  refine Go_new (n := 8) (q := 8) (stF := fun ad => [.ref (ad (7))]) (lvF := fun ad => [(0, .ref (ad (7))), (1, .ref (ad (1)))]) C ci0 iw_0 (by decide +kernel) wm_6_5 wm_6_6 wm_6_7 kE_8.2 hI rfl rfl (fun adz hz => by have g0 : adz (7) = (Gad G) (7) := hz (7) (by omega); simp only [g0]) (fun adz hz => by have g0 : adz (7) = (Gad G) (7) := hz (7) (by omega); have g1 : adz (1) = (Gad G) (1) := hz (1) (by omega); simp only [g0, g1]) (by exact Nat.le_of_ble_eq_true rfl) (by exact Nat.le_of_ble_eq_true rfl) dX8_init_5 rfl (fun ad5 hag5 hI => ?_)
  have hag : ∀ i, i < 8 → ad5 i = Gad G i := fun i hi => (hag5 i (by omega)).trans (rfl)
  have C1 : Cx (gset G ad5 (9) (1) (4)) cX8_init BIG RX8 2 none rm_X8_init shE (9) := Cx_gset C (by exact Nat.le_of_ble_eq_true rfl) (by exact Nat.le_of_ble_eq_true rfl)
  show Go (gset G ad5 (9) (1) (4)) 2 _ [.ref (ad5 (8)), .ref (ad5 (7))] [(0, .ref (ad5 (7))), (1, .ref (ad5 (1)))] S
  refine Go_dup (q := 9) C1 rfl dX8_init_8 rfl ?_
  refine Go_callIN_A (n := 9) (n' := 11) (o := 8) (av := fun ad => []) (st := [.ref (ad5 (8)), .ref (ad5 (7))]) (stF := fun ad => [.ref (ad (8)), .ref (ad (7))]) (lvF := fun ad => [(0, .ref (ad (7))), (1, .ref (ad (1)))]) (C := C1) (hM := c_X0_init (Gl G)  hI hw) (host := "EndsRound") (hnw := nw_66) (hini := wm_6_7) (hins := wm_6_13) (hcode := wm_6_14) (hnm := rfl) (n9 := 0) (hd := by decide +kernel) (hr0 := ⟨rfl, rfl⟩) (hroom := ⟨by decide, by decide⟩) (hlen := rfl) (hst := rfl) (hW := Nat.le_of_ble_eq_true rfl) (hstF := rfl) (hs1 := (fun adz hz => by have g0 : adz (8) = ad5 (8) := hz (8) (by omega); have g1 : adz (7) = ad5 (7) := hz (7) (by omega); simp only [g0, g1])) (hl1 := (fun adz hz => by have g0 : adz (7) = ad5 (7) := hz (7) (by omega); have g1 : adz (1) = ad5 (1) := hz (1) (by omega); simp only [g0, g1])) (hk := by exact Nat.le_of_ble_eq_true rfl) (hw := by exact Nat.le_of_ble_eq_true rfl) (hdg := dX8_init_9) (q := 12) (hq := rfl) (fun ad9 S9_2 hag9 hw hI => ?_)
  have hag : ∀ i, i < 8 → ad9 i = Gad G i := fun i hi => (hag9 i (by omega)).trans (hag i hi)
  have C3 : Cx (gset G ad9 (11) (3) (1036)) cX8_init BIG RX8 2 none rm_X8_init shE (11) := Cx_gset C (by exact Nat.le_of_ble_eq_true rfl) (by exact Nat.le_of_ble_eq_true rfl)
  show Go (gset G ad9 (11) (3) (1036)) 2 _ [.ref (ad9 (8)), .ref (ad9 (7))] [(0, .ref (ad9 (7))), (1, .ref (ad9 (1)))] S9_2
  refine Go_putF (k := 1) (q := 15) C3 hQ.2 ci8 iw_8 (okn kE_7 (by omega)) rfl wm_6_8 rfl rfl rfl (ci8.2.2.2.1 1 (by decide)) rfl rfl dX8_init_12 rfl (fun S12_4 e_S12_4 => ?_)
  have hw := hw S12_4 e_S12_4
  have hI := irR e_S12_4 (by omega) (by omega) hI
  refine Go_aload_n (q := 16) C3 0 rfl dX8_init_15 rfl ?_
  refine Go_new (n := 11) (q := 19) (stF := fun ad => [.ref (ad (7))]) (lvF := fun ad => [(0, .ref (ad (7))), (1, .ref (ad (1)))]) C3 ci4 iw_4 (by decide +kernel) wm_6_9 wm_1_23 wm_2_0 kE_11.2 hI rfl rfl (fun adz hz => by have g0 : adz (7) = ad9 (7) := hz (7) (by omega); simp only [g0]) (fun adz hz => by have g0 : adz (7) = ad9 (7) := hz (7) (by omega); have g1 : adz (1) = ad9 (1) := hz (1) (by omega); simp only [g0, g1]) (by exact Nat.le_of_ble_eq_true rfl) (by exact Nat.le_of_ble_eq_true rfl) dX8_init_16 rfl (fun ad16 hag16 hI => ?_)
  have hag : ∀ i, i < 8 → ad16 i = Gad G i := fun i hi => (hag16 i (by omega)).trans (hag i hi)
  have C5 : Cx (gset G ad16 (12) (4) (1051)) cX8_init BIG RX8 2 none rm_X8_init shE (12) := Cx_gset C (by exact Nat.le_of_ble_eq_true rfl) (by exact Nat.le_of_ble_eq_true rfl)
  show Go (gset G ad16 (12) (4) (1051)) 2 _ [.ref (ad16 (11)), .ref (ad16 (7))] [(0, .ref (ad16 (7))), (1, .ref (ad16 (1)))] S12_4
  refine Go_dup (q := 20) C5 rfl dX8_init_19 rfl ?_
  refine Go_callIN_A (n := 12) (n' := 20) (o := 11) (av := fun ad => []) (st := [.ref (ad16 (11)), .ref (ad16 (7))]) (stF := fun ad => [.ref (ad (11)), .ref (ad (7))]) (lvF := fun ad => [(0, .ref (ad (7))), (1, .ref (ad (1)))]) (C := C5) (hM := c_X4_init (Gl G) isE4_11 hI hw) (host := "EndsRound") (hnw := nw_67) (hini := wm_2_0) (hins := wm_6_18) (hcode := wm_6_19) (hnm := rfl) (n9 := 0) (hd := by decide +kernel) (hr0 := ⟨rfl, rfl⟩) (hroom := ⟨by decide, by decide⟩) (hlen := rfl) (hst := rfl) (hW := Nat.le_of_ble_eq_true rfl) (hstF := rfl) (hs1 := (fun adz hz => by have g0 : adz (11) = ad16 (11) := hz (11) (by omega); have g1 : adz (7) = ad16 (7) := hz (7) (by omega); simp only [g0, g1])) (hl1 := (fun adz hz => by have g0 : adz (7) = ad16 (7) := hz (7) (by omega); have g1 : adz (1) = ad16 (1) := hz (1) (by omega); simp only [g0, g1])) (hk := by exact Nat.le_of_ble_eq_true rfl) (hw := by exact Nat.le_of_ble_eq_true rfl) (hdg := dX8_init_20) (q := 23) (hq := rfl) (fun ad20 S20_6 hag20 hw hI => ?_)
  have hag : ∀ i, i < 8 → ad20 i = Gad G i := fun i hi => (hag20 i (by omega)).trans (hag i hi)
  have C7 : Cx (gset G ad20 (20) (12) (1147)) cX8_init BIG RX8 2 none rm_X8_init shE (20) := Cx_gset C (by exact Nat.le_of_ble_eq_true rfl) (by exact Nat.le_of_ble_eq_true rfl)
  show Go (gset G ad20 (20) (12) (1147)) 2 _ [.ref (ad20 (11)), .ref (ad20 (7))] [(0, .ref (ad20 (7))), (1, .ref (ad20 (1)))] S20_6
  refine Go_putF (k := 2) (q := 26) C7 hQ.2 ci8 iw_8 (okn kE_7 (by omega)) rfl wm_6_10 rfl rfl rfl (ci8.2.2.2.1 2 (by decide)) rfl rfl dX8_init_23 rfl (fun S23_8 e_S23_8 => ?_)
  have hw := hw S23_8 e_S23_8
  have hI := irR e_S23_8 (by omega) (by omega) hI
  refine Go_aload_n (q := 27) C7 0 rfl dX8_init_26 rfl ?_
  refine Go_bipush (q := 29) (v := (12 : Int32)) C7 dX8_init_27 rfl rfl ?_
  refine Go_newa_j (n := 20) (len := 12) (q := 31) (stF := fun ad => [.ref (ad (7))]) (lvF := fun ad => [(0, .ref (ad (7))), (1, .ref (ad (1)))]) C7 wm_1_6 (by decide) rfl (by decide) kE_20.2 hI rfl rfl (fun adz hz => by have g0 : adz (7) = ad20 (7) := hz (7) (by omega); simp only [g0]) (fun adz hz => by have g0 : adz (7) = ad20 (7) := hz (7) (by omega); have g1 : adz (1) = ad20 (1) := hz (1) (by omega); simp only [g0, g1]) (by exact Nat.le_of_ble_eq_true rfl) (by exact Nat.le_of_ble_eq_true rfl) dX8_init_29 rfl (fun ad29 hag29 hI => ?_)
  have hag : ∀ i, i < 8 → ad29 i = Gad G i := fun i hi => (hag29 i (by omega)).trans (hag i hi)
  have C9 : Cx (gset G ad29 (21) (13) (1159)) cX8_init BIG RX8 2 none rm_X8_init shE (21) := Cx_gset C (by exact Nat.le_of_ble_eq_true rfl) (by exact Nat.le_of_ble_eq_true rfl)
  show Go (gset G ad29 (21) (13) (1159)) 2 _ [.ref (ad29 (20)), .ref (ad29 (7))] [(0, .ref (ad29 (7))), (1, .ref (ad29 (1)))] S23_8
  refine Go_putF (k := 3) (q := 34) C9 hQ.2 ci8 iw_8 (okn kE_7 (by omega)) rfl wm_6_11 rfl rfl rfl (ci8.2.2.2.1 3 (by decide)) rfl rfl dX8_init_31 rfl (fun S31_10 e_S31_10 => ?_)
  have hw := hw S31_10 e_S31_10
  have hI := irR e_S31_10 (by omega) (by omega) hI
  refine Go_aload_n (q := 35) C9 0 rfl dX8_init_34 rfl ?_
  refine Go_aload_n (q := 36) C9 1 rfl dX8_init_35 rfl ?_
  refine Go_putF (k := 0) (q := 39) C9 hQ.2 ci8 iw_8 (okn kE_7 (by omega)) rfl wm_6_12 rfl rfl rfl (ci8.2.2.2.1 0 (by decide)) rfl rfl dX8_init_36 rfl (fun S36_11 e_S36_11 => ?_)
  have hw := hw S36_11 e_S36_11
  have hI := irR e_S36_11 (by omega) (by omega) hI
  exact Go_retA C9 hQ hag hI hw (by exact Nat.le_of_ble_eq_true rfl) (by exact Nat.le_of_ble_eq_true rfl) dX8_init_39
-- X9_init
def w_X9_init (S : St) (Q : St → Prop) : Prop :=
 w_X1_init 35 (12 : Int32) S (fun S11_2 => ∀ S14_4, S14_4 = sR S11_2 34 0 (some 35) → ∀ S22_6, S22_6 = sR S14_4 34 1 (some 37) → ∀ S30_8, S30_8 = sR S22_6 34 2 (some 38) → ∀ S38_10, S38_10 = sR S30_8 34 3 (some 39) → ∀ S47_12, S47_12 = sR S38_10 34 4 (some 40) → ∀ S55_14, S55_14 = sR S47_12 34 5 (some 41) → ∀ S63_16, S63_16 = sR S55_14 34 6 (some 42) → Q S63_16)
abbrev rm_X9_init : Room := { frames := 2, cells := 8, slots := 410, locals := 41 }
set_option maxRecDepth 100000 in
set_option maxHeartbeats 8000000 in
theorem c_X9_init (l : Launch) {S : St} {Q : St → Prop} (hI : IR (35) S) (hw : w_X9_init S Q) : MetA l yX9_init (wB yX9_init cX9_init 1 none) rm_X9_init shE (35) (43) 8 410 (fun ad => [.ref (ad (34))]) S Q := by
  refine MetA_of (cc := cX9_init) (maxL := 1) (ret := none) (plainFor_of_name (by decide)) rfl (fun _ => Nat.le_of_ble_eq_true rfl) (fun G C hl hQ => ?_)
  subst hl
  have C : Cx (gset G (Gad G) (35) 0 0) cX9_init BIG RX9 1 none rm_X9_init shE (35) := C
  show Go (gset G (Gad G) (35) 0 0) 1 0 [] [(0, .ref (Gad G (34)))] S
  unfold w_X9_init at hw
  refine Go_aload_n (q := 1) C 0 rfl dX9_init_0 rfl ?_
  refine Go_objinit (q := 4) C wm_7_13 wm_1_12 wm_1_13 (by decide) (Nat.le_of_ble_eq_true rfl) dX9_init_1 rfl ?_
  refine Go_aload_n (q := 5) C 0 rfl dX9_init_4 rfl ?_
  refine Go_new (n := 35) (q := 8) (stF := fun ad => [.ref (ad (34))]) (lvF := fun ad => [(0, .ref (ad (34)))]) C ci1 iw_1 (by decide +kernel) wm_7_14 wm_3_3 wm_3_4 kE_35.2 hI rfl rfl (fun adz hz => by have g0 : adz (34) = (Gad G) (34) := hz (34) (by omega); simp only [g0]) (fun adz hz => by have g0 : adz (34) = (Gad G) (34) := hz (34) (by omega); simp only [g0]) (by exact Nat.le_of_ble_eq_true rfl) (by exact Nat.le_of_ble_eq_true rfl) dX9_init_5 rfl (fun ad5 hag5 hI => ?_)
  have hag : ∀ i, i < 35 → ad5 i = Gad G i := fun i hi => (hag5 i (by omega)).trans (rfl)
  have C1 : Cx (gset G ad5 (36) (1) (6)) cX9_init BIG RX9 1 none rm_X9_init shE (36) := Cx_gset C (by exact Nat.le_of_ble_eq_true rfl) (by exact Nat.le_of_ble_eq_true rfl)
  show Go (gset G ad5 (36) (1) (6)) 1 _ [.ref (ad5 (35)), .ref (ad5 (34))] [(0, .ref (ad5 (34)))] S
  refine Go_dup (q := 9) C1 rfl dX9_init_8 rfl ?_
  refine Go_bipush (q := 11) (v := (12 : Int32)) C1 dX9_init_9 rfl rfl ?_
  refine Go_callI_A (n := 36) (n' := 37) (o := 35) (av := fun ad => [.int (12 : Int32)]) (st := [.ref (ad5 (35)), .ref (ad5 (34))]) (stF := fun ad => [.ref (ad (35)), .ref (ad (34))]) (lvF := fun ad => [(0, .ref (ad (34)))]) (C := C1) (hM := c_X1_init (Gl G) isE1_35 hI hw) (hlk := wm_7_22) (hini := wm_3_4) (hins := wm_7_23) (hcode := wm_8_0) (hnm := rfl) (n9 := 1) (hd := by decide +kernel) (hr0 := ⟨rfl, rfl⟩) (hroom := ⟨by decide, by decide⟩) (hlen := rfl) (hst := rfl) (hW := Nat.le_of_ble_eq_true rfl) (hstF := rfl) (hs1 := (fun adz hz => by have g0 : adz (35) = ad5 (35) := hz (35) (by omega); have g1 : adz (34) = ad5 (34) := hz (34) (by omega); simp only [g0, g1])) (hl1 := (fun adz hz => by have g0 : adz (34) = ad5 (34) := hz (34) (by omega); simp only [g0])) (hk := by exact Nat.le_of_ble_eq_true rfl) (hw := by exact Nat.le_of_ble_eq_true rfl) (hdg := dX9_init_11) (q := 14) (hq := rfl) (fun ad11 S11_2 hag11 hw hI => ?_)
  have hag : ∀ i, i < 35 → ad11 i = Gad G i := fun i hi => (hag11 i (by omega)).trans (hag i hi)
  have C3 : Cx (gset G ad11 (37) (2) (206)) cX9_init BIG RX9 1 none rm_X9_init shE (37) := Cx_gset C (by exact Nat.le_of_ble_eq_true rfl) (by exact Nat.le_of_ble_eq_true rfl)
  show Go (gset G ad11 (37) (2) (206)) 1 _ [.ref (ad11 (35)), .ref (ad11 (34))] [(0, .ref (ad11 (34)))] S11_2
  refine Go_putF (k := 0) (q := 17) C3 hQ.2 ci9 iw_9 (okn kE_34 (by omega)) rfl wm_7_15 rfl rfl rfl (ci9.2.2.2.1 0 (by decide)) rfl rfl dX9_init_14 rfl (fun S14_4 e_S14_4 => ?_)
  have hw := hw S14_4 e_S14_4
  have hI := irR e_S14_4 (by omega) (by omega) hI
  refine Go_aload_n (q := 18) C3 0 rfl dX9_init_17 rfl ?_
  refine Go_bipush (q := 20) (v := (12 : Int32)) C3 dX9_init_18 rfl rfl ?_
  refine Go_newa_i (n := 37) (len := 12) (q := 22) (stF := fun ad => [.ref (ad (34))]) (lvF := fun ad => [(0, .ref (ad (34)))]) C3 wm_3_6 (by decide) rfl (by decide) kE_37.2 hI rfl rfl (fun adz hz => by have g0 : adz (34) = ad11 (34) := hz (34) (by omega); simp only [g0]) (fun adz hz => by have g0 : adz (34) = ad11 (34) := hz (34) (by omega); simp only [g0]) (by exact Nat.le_of_ble_eq_true rfl) (by exact Nat.le_of_ble_eq_true rfl) dX9_init_20 rfl (fun ad20 hag20 hI => ?_)
  have hag : ∀ i, i < 35 → ad20 i = Gad G i := fun i hi => (hag20 i (by omega)).trans (hag i hi)
  have C5 : Cx (gset G ad20 (38) (3) (218)) cX9_init BIG RX9 1 none rm_X9_init shE (38) := Cx_gset C (by exact Nat.le_of_ble_eq_true rfl) (by exact Nat.le_of_ble_eq_true rfl)
  show Go (gset G ad20 (38) (3) (218)) 1 _ [.ref (ad20 (37)), .ref (ad20 (34))] [(0, .ref (ad20 (34)))] S14_4
  refine Go_putF (k := 1) (q := 25) C5 hQ.2 ci9 iw_9 (okn kE_34 (by omega)) rfl wm_7_16 rfl rfl rfl (ci9.2.2.2.1 1 (by decide)) rfl rfl dX9_init_22 rfl (fun S22_6 e_S22_6 => ?_)
  have hw := hw S22_6 e_S22_6
  have hI := irR e_S22_6 (by omega) (by omega) hI
  refine Go_aload_n (q := 26) C5 0 rfl dX9_init_25 rfl ?_
  refine Go_bipush (q := 28) (v := (12 : Int32)) C5 dX9_init_26 rfl rfl ?_
  refine Go_newa_i (n := 38) (len := 12) (q := 30) (stF := fun ad => [.ref (ad (34))]) (lvF := fun ad => [(0, .ref (ad (34)))]) C5 wm_3_6 (by decide) rfl (by decide) kE_38.2 hI rfl rfl (fun adz hz => by have g0 : adz (34) = ad20 (34) := hz (34) (by omega); simp only [g0]) (fun adz hz => by have g0 : adz (34) = ad20 (34) := hz (34) (by omega); simp only [g0]) (by exact Nat.le_of_ble_eq_true rfl) (by exact Nat.le_of_ble_eq_true rfl) dX9_init_28 rfl (fun ad28 hag28 hI => ?_)
  have hag : ∀ i, i < 35 → ad28 i = Gad G i := fun i hi => (hag28 i (by omega)).trans (hag i hi)
  have C7 : Cx (gset G ad28 (39) (4) (230)) cX9_init BIG RX9 1 none rm_X9_init shE (39) := Cx_gset C (by exact Nat.le_of_ble_eq_true rfl) (by exact Nat.le_of_ble_eq_true rfl)
  show Go (gset G ad28 (39) (4) (230)) 1 _ [.ref (ad28 (38)), .ref (ad28 (34))] [(0, .ref (ad28 (34)))] S22_6
  refine Go_putF (k := 2) (q := 33) C7 hQ.2 ci9 iw_9 (okn kE_34 (by omega)) rfl wm_7_17 rfl rfl rfl (ci9.2.2.2.1 2 (by decide)) rfl rfl dX9_init_30 rfl (fun S30_8 e_S30_8 => ?_)
  have hw := hw S30_8 e_S30_8
  have hI := irR e_S30_8 (by omega) (by omega) hI
  refine Go_aload_n (q := 34) C7 0 rfl dX9_init_33 rfl ?_
  refine Go_bipush (q := 36) (v := (12 : Int32)) C7 dX9_init_34 rfl rfl ?_
  refine Go_newa_i (n := 39) (len := 12) (q := 38) (stF := fun ad => [.ref (ad (34))]) (lvF := fun ad => [(0, .ref (ad (34)))]) C7 wm_3_6 (by decide) rfl (by decide) kE_39.2 hI rfl rfl (fun adz hz => by have g0 : adz (34) = ad28 (34) := hz (34) (by omega); simp only [g0]) (fun adz hz => by have g0 : adz (34) = ad28 (34) := hz (34) (by omega); simp only [g0]) (by exact Nat.le_of_ble_eq_true rfl) (by exact Nat.le_of_ble_eq_true rfl) dX9_init_36 rfl (fun ad36 hag36 hI => ?_)
  have hag : ∀ i, i < 35 → ad36 i = Gad G i := fun i hi => (hag36 i (by omega)).trans (hag i hi)
  have C9 : Cx (gset G ad36 (40) (5) (242)) cX9_init BIG RX9 1 none rm_X9_init shE (40) := Cx_gset C (by exact Nat.le_of_ble_eq_true rfl) (by exact Nat.le_of_ble_eq_true rfl)
  show Go (gset G ad36 (40) (5) (242)) 1 _ [.ref (ad36 (39)), .ref (ad36 (34))] [(0, .ref (ad36 (34)))] S30_8
  refine Go_putF (k := 3) (q := 41) C9 hQ.2 ci9 iw_9 (okn kE_34 (by omega)) rfl wm_7_18 rfl rfl rfl (ci9.2.2.2.1 3 (by decide)) rfl rfl dX9_init_38 rfl (fun S38_10 e_S38_10 => ?_)
  have hw := hw S38_10 e_S38_10
  have hI := irR e_S38_10 (by omega) (by omega) hI
  refine Go_aload_n (q := 42) C9 0 rfl dX9_init_41 rfl ?_
  refine Go_sipush (q := 45) (v := (144 : Int32)) C9 dX9_init_42 rfl rfl ?_
  refine Go_newa_i (n := 40) (len := 144) (q := 47) (stF := fun ad => [.ref (ad (34))]) (lvF := fun ad => [(0, .ref (ad (34)))]) C9 wm_3_6 (by decide) rfl (by decide) kE_40.2 hI rfl rfl (fun adz hz => by have g0 : adz (34) = ad36 (34) := hz (34) (by omega); simp only [g0]) (fun adz hz => by have g0 : adz (34) = ad36 (34) := hz (34) (by omega); simp only [g0]) (by exact Nat.le_of_ble_eq_true rfl) (by exact Nat.le_of_ble_eq_true rfl) dX9_init_45 rfl (fun ad45 hag45 hI => ?_)
  have hag : ∀ i, i < 35 → ad45 i = Gad G i := fun i hi => (hag45 i (by omega)).trans (hag i hi)
  have C11 : Cx (gset G ad45 (41) (6) (386)) cX9_init BIG RX9 1 none rm_X9_init shE (41) := Cx_gset C (by exact Nat.le_of_ble_eq_true rfl) (by exact Nat.le_of_ble_eq_true rfl)
  show Go (gset G ad45 (41) (6) (386)) 1 _ [.ref (ad45 (40)), .ref (ad45 (34))] [(0, .ref (ad45 (34)))] S38_10
  refine Go_putF (k := 4) (q := 50) C11 hQ.2 ci9 iw_9 (okn kE_34 (by omega)) rfl wm_7_19 rfl rfl rfl (ci9.2.2.2.1 4 (by decide)) rfl rfl dX9_init_47 rfl (fun S47_12 e_S47_12 => ?_)
  have hw := hw S47_12 e_S47_12
  have hI := irR e_S47_12 (by omega) (by omega) hI
  refine Go_aload_n (q := 51) C11 0 rfl dX9_init_50 rfl ?_
  refine Go_bipush (q := 53) (v := (12 : Int32)) C11 dX9_init_51 rfl rfl ?_
  refine Go_newa_i (n := 41) (len := 12) (q := 55) (stF := fun ad => [.ref (ad (34))]) (lvF := fun ad => [(0, .ref (ad (34)))]) C11 wm_3_6 (by decide) rfl (by decide) kE_41.2 hI rfl rfl (fun adz hz => by have g0 : adz (34) = ad45 (34) := hz (34) (by omega); simp only [g0]) (fun adz hz => by have g0 : adz (34) = ad45 (34) := hz (34) (by omega); simp only [g0]) (by exact Nat.le_of_ble_eq_true rfl) (by exact Nat.le_of_ble_eq_true rfl) dX9_init_53 rfl (fun ad53 hag53 hI => ?_)
  have hag : ∀ i, i < 35 → ad53 i = Gad G i := fun i hi => (hag53 i (by omega)).trans (hag i hi)
  have C13 : Cx (gset G ad53 (42) (7) (398)) cX9_init BIG RX9 1 none rm_X9_init shE (42) := Cx_gset C (by exact Nat.le_of_ble_eq_true rfl) (by exact Nat.le_of_ble_eq_true rfl)
  show Go (gset G ad53 (42) (7) (398)) 1 _ [.ref (ad53 (41)), .ref (ad53 (34))] [(0, .ref (ad53 (34)))] S47_12
  refine Go_putF (k := 5) (q := 58) C13 hQ.2 ci9 iw_9 (okn kE_34 (by omega)) rfl wm_7_20 rfl rfl rfl (ci9.2.2.2.1 5 (by decide)) rfl rfl dX9_init_55 rfl (fun S55_14 e_S55_14 => ?_)
  have hw := hw S55_14 e_S55_14
  have hI := irR e_S55_14 (by omega) (by omega) hI
  refine Go_aload_n (q := 59) C13 0 rfl dX9_init_58 rfl ?_
  refine Go_bipush (q := 61) (v := (12 : Int32)) C13 dX9_init_59 rfl rfl ?_
  refine Go_newa_i (n := 42) (len := 12) (q := 63) (stF := fun ad => [.ref (ad (34))]) (lvF := fun ad => [(0, .ref (ad (34)))]) C13 wm_3_6 (by decide) rfl (by decide) kE_42.2 hI rfl rfl (fun adz hz => by have g0 : adz (34) = ad53 (34) := hz (34) (by omega); simp only [g0]) (fun adz hz => by have g0 : adz (34) = ad53 (34) := hz (34) (by omega); simp only [g0]) (by exact Nat.le_of_ble_eq_true rfl) (by exact Nat.le_of_ble_eq_true rfl) dX9_init_61 rfl (fun ad61 hag61 hI => ?_)
  have hag : ∀ i, i < 35 → ad61 i = Gad G i := fun i hi => (hag61 i (by omega)).trans (hag i hi)
  have C15 : Cx (gset G ad61 (43) (8) (410)) cX9_init BIG RX9 1 none rm_X9_init shE (43) := Cx_gset C (by exact Nat.le_of_ble_eq_true rfl) (by exact Nat.le_of_ble_eq_true rfl)
  show Go (gset G ad61 (43) (8) (410)) 1 _ [.ref (ad61 (42)), .ref (ad61 (34))] [(0, .ref (ad61 (34)))] S55_14
  refine Go_putF (k := 6) (q := 66) C15 hQ.2 ci9 iw_9 (okn kE_34 (by omega)) rfl wm_7_21 rfl rfl rfl (ci9.2.2.2.1 6 (by decide)) rfl rfl dX9_init_63 rfl (fun S63_16 e_S63_16 => ?_)
  have hw := hw S63_16 e_S63_16
  have hI := irR e_S63_16 (by omega) (by omega) hI
  exact Go_retA C15 hQ hag hI hw (by exact Nat.le_of_ble_eq_true rfl) (by exact Nat.le_of_ble_eq_true rfl) dX9_init_66
-- X12_init
def w_X12_init (S : St) (Q : St → Prop) : Prop :=
 ∀ S10_2, S10_2 = sR S 0 2 (some 1) → ∀ S18_4, S18_4 = sR S10_2 0 17 (some 2) → ∀ S26_6, S26_6 = sR S18_4 0 18 (some 3) → ∀ S34_8, S34_8 = sR S26_6 0 19 (some 4) → ∀ S42_10, S42_10 = sR S34_8 0 20 (some 5) → ∀ S50_12, S50_12 = sR S42_10 0 21 (some 6) → ∀ S58_14, S58_14 = sR S50_12 0 22 (some 7) → ∀ S66_16, S66_16 = sR S58_14 0 23 (some 8) → ∀ S75_18, S75_18 = sR S66_16 0 24 (some 9) → ∀ S83_20, S83_20 = sR S75_18 0 32 (some 10) → ∀ S91_22, S91_22 = sR S83_20 0 33 (some 11) → ∀ S99_24, S99_24 = sR S91_22 0 34 (some 12) → ∀ S107_26, S107_26 = sR S99_24 0 35 (some 13) → ∀ S115_28, S115_28 = sR S107_26 0 36 (some 14) → ∀ S123_30, S123_30 = sR S115_28 0 37 (some 15) → ∀ S131_32, S131_32 = sR S123_30 0 38 (some 16) → ∀ S139_34, S139_34 = sR S131_32 0 39 (some 17) → ∀ S146_36, S146_36 = sR S139_34 0 40 (some 18) → ∀ S153_38, S153_38 = sR S146_36 0 41 (some 19) → ∀ S162_40, S162_40 = sR S153_38 0 42 (some 20) → ∀ S170_42, S170_42 = sR S162_40 0 44 (some 21) → ∀ S178_44, S178_44 = sR S170_42 0 45 (some 22) → ∀ S186_46, S186_46 = sR S178_44 0 46 (some 23) → ∀ S194_48, S194_48 = sR S186_46 0 47 (some 24) → ∀ S202_50, S202_50 = sR S194_48 0 48 (some 25) → ∀ S210_52, S210_52 = sR S202_50 0 49 (some 26) → ∀ S218_54, S218_54 = sR S210_52 0 50 (some 27) → ∀ S226_56, S226_56 = sR S218_54 0 51 (some 28) → ∀ S234_58, S234_58 = sR S226_56 0 52 (some 29) → ∀ S242_60, S242_60 = sR S234_58 0 53 (some 30) → ∀ S250_62, S250_62 = sR S242_60 0 54 (some 31) → ∀ S258_64, S258_64 = sR S250_62 0 55 (some 32) → ∀ S266_66, S266_66 = sR S258_64 0 56 (some 33) → ∀ S274_68, S274_68 = sR S266_66 0 57 (some 34) → ∀ S283_70, S283_70 = sR S274_68 0 58 (some 35) → ∀ S292_72, S292_72 = sR S283_70 0 59 (some 36) → ∀ S300_74, S300_74 = sR S292_72 0 60 (some 37) → ∀ S309_76, S309_76 = sR S300_74 0 61 (some 38) → ∀ S317_78, S317_78 = sR S309_76 0 62 (some 39) → ∀ S325_80, S325_80 = sR S317_78 0 63 (some 40) → ∀ S333_82, S333_82 = sR S325_80 0 66 (some 41) → ∀ S341_84, S341_84 = sR S333_82 0 67 (some 42) → ∀ S349_86, S349_86 = sR S341_84 0 68 (some 43) → ∀ S358_88, S358_88 = sR S349_86 0 69 (some 44) → ∀ S365_90, S365_90 = sR S358_88 0 71 (some 45) → ∀ S374_92, S374_92 = sR S365_90 0 72 (some 46) → ∀ S382_94, S382_94 = sR S374_92 0 74 (some 47) → ∀ S387_95, S387_95 = sI S382_94 0 10 (1 : Int32) → Q S387_95
abbrev rm_X12_init : Room := { frames := 1, cells := 47, slots := 5358, locals := 20 }
set_option maxRecDepth 100000 in
set_option maxHeartbeats 8000000 in
theorem c_X12_init (l : Launch) {S : St} {Q : St → Prop} (hI : IR (1) S) (hw : w_X12_init S Q) : MetA l yX12_init (wB yX12_init cX12_init 1 none) rm_X12_init shM (1) (48) 47 5358 (fun ad => [.ref (ad (0))]) S Q := by
  refine MetA_of (cc := cX12_init) (maxL := 1) (ret := none) (plainFor_of_name (by decide)) rfl (fun _ => Nat.le_of_ble_eq_true rfl) (fun G C hl hQ => ?_)
  subst hl
  have C : Cx (gset G (Gad G) (1) 0 0) cX12_init BIG RX12 1 none rm_X12_init shM (1) := C
  show Go (gset G (Gad G) (1) 0 0) 1 0 [] [(0, .ref (Gad G (0)))] S
  unfold w_X12_init at hw
  refine Go_aload_n (q := 1) C 0 rfl dX12_init_0 rfl ?_
  refine Go_objinit (q := 4) C wm_12_19 wm_1_12 wm_1_13 (by decide) (Nat.le_of_ble_eq_true rfl) dX12_init_1 rfl ?_
  refine Go_aload_n (q := 5) C 0 rfl dX12_init_4 rfl ?_
  refine Go_sipush (q := 8) (v := (1000 : Int32)) C dX12_init_5 rfl rfl ?_
  refine Go_newa_i (n := 1) (len := 1000) (q := 10) (stF := fun ad => [.ref (ad (0))]) (lvF := fun ad => [(0, .ref (ad (0)))]) C wm_3_6 (by decide) rfl (by decide) kM_1.2 hI rfl rfl (fun adz hz => by have g0 : adz (0) = (Gad G) (0) := hz (0) (by omega); simp only [g0]) (fun adz hz => by have g0 : adz (0) = (Gad G) (0) := hz (0) (by omega); simp only [g0]) (by exact Nat.le_of_ble_eq_true rfl) (by exact Nat.le_of_ble_eq_true rfl) dX12_init_8 rfl (fun ad8 hag8 hI => ?_)
  have hag : ∀ i, i < 1 → ad8 i = Gad G i := fun i hi => (hag8 i (by omega)).trans (rfl)
  have C1 : Cx (gset G ad8 (2) (1) (1000)) cX12_init BIG RX12 1 none rm_X12_init shM (2) := Cx_gset C (by exact Nat.le_of_ble_eq_true rfl) (by exact Nat.le_of_ble_eq_true rfl)
  show Go (gset G ad8 (2) (1) (1000)) 1 _ [.ref (ad8 (1)), .ref (ad8 (0))] [(0, .ref (ad8 (0)))] S
  refine Go_putF (k := 2) (q := 13) C1 hQ.2 ci12 iw_12 (okn kM_0 (by omega)) rfl wm_12_20 rfl rfl rfl (ci12.2.2.2.1 2 (by decide)) rfl rfl dX12_init_10 rfl (fun S10_2 e_S10_2 => ?_)
  have hw := hw S10_2 e_S10_2
  have hI := irR e_S10_2 (by omega) (by omega) hI
  refine Go_aload_n (q := 14) C1 0 rfl dX12_init_13 rfl ?_
  refine Go_bipush (q := 16) (v := (12 : Int32)) C1 dX12_init_14 rfl rfl ?_
  refine Go_newa_i (n := 2) (len := 12) (q := 18) (stF := fun ad => [.ref (ad (0))]) (lvF := fun ad => [(0, .ref (ad (0)))]) C1 wm_3_6 (by decide) rfl (by decide) kM_2.2 hI rfl rfl (fun adz hz => by have g0 : adz (0) = ad8 (0) := hz (0) (by omega); simp only [g0]) (fun adz hz => by have g0 : adz (0) = ad8 (0) := hz (0) (by omega); simp only [g0]) (by exact Nat.le_of_ble_eq_true rfl) (by exact Nat.le_of_ble_eq_true rfl) dX12_init_16 rfl (fun ad16 hag16 hI => ?_)
  have hag : ∀ i, i < 1 → ad16 i = Gad G i := fun i hi => (hag16 i (by omega)).trans (hag i hi)
  have C3 : Cx (gset G ad16 (3) (2) (1012)) cX12_init BIG RX12 1 none rm_X12_init shM (3) := Cx_gset C (by exact Nat.le_of_ble_eq_true rfl) (by exact Nat.le_of_ble_eq_true rfl)
  show Go (gset G ad16 (3) (2) (1012)) 1 _ [.ref (ad16 (2)), .ref (ad16 (0))] [(0, .ref (ad16 (0)))] S10_2
  refine Go_putF (k := 17) (q := 21) C3 hQ.2 ci12 iw_12 (okn kM_0 (by omega)) rfl wm_12_21 rfl rfl rfl (ci12.2.2.2.1 17 (by decide)) rfl rfl dX12_init_18 rfl (fun S18_4 e_S18_4 => ?_)
  have hw := hw S18_4 e_S18_4
  have hI := irR e_S18_4 (by omega) (by omega) hI
  refine Go_aload_n (q := 22) C3 0 rfl dX12_init_21 rfl ?_
  refine Go_bipush (q := 24) (v := (8 : Int32)) C3 dX12_init_22 rfl rfl ?_
  refine Go_newa_i (n := 3) (len := 8) (q := 26) (stF := fun ad => [.ref (ad (0))]) (lvF := fun ad => [(0, .ref (ad (0)))]) C3 wm_3_6 (by decide) rfl (by decide) kM_3.2 hI rfl rfl (fun adz hz => by have g0 : adz (0) = ad16 (0) := hz (0) (by omega); simp only [g0]) (fun adz hz => by have g0 : adz (0) = ad16 (0) := hz (0) (by omega); simp only [g0]) (by exact Nat.le_of_ble_eq_true rfl) (by exact Nat.le_of_ble_eq_true rfl) dX12_init_24 rfl (fun ad24 hag24 hI => ?_)
  have hag : ∀ i, i < 1 → ad24 i = Gad G i := fun i hi => (hag24 i (by omega)).trans (hag i hi)
  have C5 : Cx (gset G ad24 (4) (3) (1020)) cX12_init BIG RX12 1 none rm_X12_init shM (4) := Cx_gset C (by exact Nat.le_of_ble_eq_true rfl) (by exact Nat.le_of_ble_eq_true rfl)
  show Go (gset G ad24 (4) (3) (1020)) 1 _ [.ref (ad24 (3)), .ref (ad24 (0))] [(0, .ref (ad24 (0)))] S18_4
  refine Go_putF (k := 18) (q := 29) C5 hQ.2 ci12 iw_12 (okn kM_0 (by omega)) rfl wm_12_22 rfl rfl rfl (ci12.2.2.2.1 18 (by decide)) rfl rfl dX12_init_26 rfl (fun S26_6 e_S26_6 => ?_)
  have hw := hw S26_6 e_S26_6
  have hI := irR e_S26_6 (by omega) (by omega) hI
  refine Go_aload_n (q := 30) C5 0 rfl dX12_init_29 rfl ?_
  refine Go_bipush (q := 32) (v := (8 : Int32)) C5 dX12_init_30 rfl rfl ?_
  refine Go_newa_i (n := 4) (len := 8) (q := 34) (stF := fun ad => [.ref (ad (0))]) (lvF := fun ad => [(0, .ref (ad (0)))]) C5 wm_3_6 (by decide) rfl (by decide) kM_4.2 hI rfl rfl (fun adz hz => by have g0 : adz (0) = ad24 (0) := hz (0) (by omega); simp only [g0]) (fun adz hz => by have g0 : adz (0) = ad24 (0) := hz (0) (by omega); simp only [g0]) (by exact Nat.le_of_ble_eq_true rfl) (by exact Nat.le_of_ble_eq_true rfl) dX12_init_32 rfl (fun ad32 hag32 hI => ?_)
  have hag : ∀ i, i < 1 → ad32 i = Gad G i := fun i hi => (hag32 i (by omega)).trans (hag i hi)
  have C7 : Cx (gset G ad32 (5) (4) (1028)) cX12_init BIG RX12 1 none rm_X12_init shM (5) := Cx_gset C (by exact Nat.le_of_ble_eq_true rfl) (by exact Nat.le_of_ble_eq_true rfl)
  show Go (gset G ad32 (5) (4) (1028)) 1 _ [.ref (ad32 (4)), .ref (ad32 (0))] [(0, .ref (ad32 (0)))] S26_6
  refine Go_putF (k := 19) (q := 37) C7 hQ.2 ci12 iw_12 (okn kM_0 (by omega)) rfl wm_12_23 rfl rfl rfl (ci12.2.2.2.1 19 (by decide)) rfl rfl dX12_init_34 rfl (fun S34_8 e_S34_8 => ?_)
  have hw := hw S34_8 e_S34_8
  have hI := irR e_S34_8 (by omega) (by omega) hI
  refine Go_aload_n (q := 38) C7 0 rfl dX12_init_37 rfl ?_
  refine Go_bipush (q := 40) (v := (12 : Int32)) C7 dX12_init_38 rfl rfl ?_
  refine Go_newa_i (n := 5) (len := 12) (q := 42) (stF := fun ad => [.ref (ad (0))]) (lvF := fun ad => [(0, .ref (ad (0)))]) C7 wm_3_6 (by decide) rfl (by decide) kM_5.2 hI rfl rfl (fun adz hz => by have g0 : adz (0) = ad32 (0) := hz (0) (by omega); simp only [g0]) (fun adz hz => by have g0 : adz (0) = ad32 (0) := hz (0) (by omega); simp only [g0]) (by exact Nat.le_of_ble_eq_true rfl) (by exact Nat.le_of_ble_eq_true rfl) dX12_init_40 rfl (fun ad40 hag40 hI => ?_)
  have hag : ∀ i, i < 1 → ad40 i = Gad G i := fun i hi => (hag40 i (by omega)).trans (hag i hi)
  have C9 : Cx (gset G ad40 (6) (5) (1040)) cX12_init BIG RX12 1 none rm_X12_init shM (6) := Cx_gset C (by exact Nat.le_of_ble_eq_true rfl) (by exact Nat.le_of_ble_eq_true rfl)
  show Go (gset G ad40 (6) (5) (1040)) 1 _ [.ref (ad40 (5)), .ref (ad40 (0))] [(0, .ref (ad40 (0)))] S34_8
  refine Go_putF (k := 20) (q := 45) C9 hQ.2 ci12 iw_12 (okn kM_0 (by omega)) rfl wm_13_0 rfl rfl rfl (ci12.2.2.2.1 20 (by decide)) rfl rfl dX12_init_42 rfl (fun S42_10 e_S42_10 => ?_)
  have hw := hw S42_10 e_S42_10
  have hI := irR e_S42_10 (by omega) (by omega) hI
  refine Go_aload_n (q := 46) C9 0 rfl dX12_init_45 rfl ?_
  refine Go_bipush (q := 48) (v := (12 : Int32)) C9 dX12_init_46 rfl rfl ?_
  refine Go_newa_i (n := 6) (len := 12) (q := 50) (stF := fun ad => [.ref (ad (0))]) (lvF := fun ad => [(0, .ref (ad (0)))]) C9 wm_3_6 (by decide) rfl (by decide) kM_6.2 hI rfl rfl (fun adz hz => by have g0 : adz (0) = ad40 (0) := hz (0) (by omega); simp only [g0]) (fun adz hz => by have g0 : adz (0) = ad40 (0) := hz (0) (by omega); simp only [g0]) (by exact Nat.le_of_ble_eq_true rfl) (by exact Nat.le_of_ble_eq_true rfl) dX12_init_48 rfl (fun ad48 hag48 hI => ?_)
  have hag : ∀ i, i < 1 → ad48 i = Gad G i := fun i hi => (hag48 i (by omega)).trans (hag i hi)
  have C11 : Cx (gset G ad48 (7) (6) (1052)) cX12_init BIG RX12 1 none rm_X12_init shM (7) := Cx_gset C (by exact Nat.le_of_ble_eq_true rfl) (by exact Nat.le_of_ble_eq_true rfl)
  show Go (gset G ad48 (7) (6) (1052)) 1 _ [.ref (ad48 (6)), .ref (ad48 (0))] [(0, .ref (ad48 (0)))] S42_10
  refine Go_putF (k := 21) (q := 53) C11 hQ.2 ci12 iw_12 (okn kM_0 (by omega)) rfl wm_13_1 rfl rfl rfl (ci12.2.2.2.1 21 (by decide)) rfl rfl dX12_init_50 rfl (fun S50_12 e_S50_12 => ?_)
  have hw := hw S50_12 e_S50_12
  have hI := irR e_S50_12 (by omega) (by omega) hI
  refine Go_aload_n (q := 54) C11 0 rfl dX12_init_53 rfl ?_
  refine Go_bipush (q := 56) (v := (12 : Int32)) C11 dX12_init_54 rfl rfl ?_
  refine Go_newa_i (n := 7) (len := 12) (q := 58) (stF := fun ad => [.ref (ad (0))]) (lvF := fun ad => [(0, .ref (ad (0)))]) C11 wm_3_6 (by decide) rfl (by decide) kM_7.2 hI rfl rfl (fun adz hz => by have g0 : adz (0) = ad48 (0) := hz (0) (by omega); simp only [g0]) (fun adz hz => by have g0 : adz (0) = ad48 (0) := hz (0) (by omega); simp only [g0]) (by exact Nat.le_of_ble_eq_true rfl) (by exact Nat.le_of_ble_eq_true rfl) dX12_init_56 rfl (fun ad56 hag56 hI => ?_)
  have hag : ∀ i, i < 1 → ad56 i = Gad G i := fun i hi => (hag56 i (by omega)).trans (hag i hi)
  have C13 : Cx (gset G ad56 (8) (7) (1064)) cX12_init BIG RX12 1 none rm_X12_init shM (8) := Cx_gset C (by exact Nat.le_of_ble_eq_true rfl) (by exact Nat.le_of_ble_eq_true rfl)
  show Go (gset G ad56 (8) (7) (1064)) 1 _ [.ref (ad56 (7)), .ref (ad56 (0))] [(0, .ref (ad56 (0)))] S50_12
  refine Go_putF (k := 22) (q := 61) C13 hQ.2 ci12 iw_12 (okn kM_0 (by omega)) rfl wm_13_2 rfl rfl rfl (ci12.2.2.2.1 22 (by decide)) rfl rfl dX12_init_58 rfl (fun S58_14 e_S58_14 => ?_)
  have hw := hw S58_14 e_S58_14
  have hI := irR e_S58_14 (by omega) (by omega) hI
  refine Go_aload_n (q := 62) C13 0 rfl dX12_init_61 rfl ?_
  refine Go_bipush (q := 64) (v := (12 : Int32)) C13 dX12_init_62 rfl rfl ?_
  refine Go_newa_i (n := 8) (len := 12) (q := 66) (stF := fun ad => [.ref (ad (0))]) (lvF := fun ad => [(0, .ref (ad (0)))]) C13 wm_3_6 (by decide) rfl (by decide) kM_8.2 hI rfl rfl (fun adz hz => by have g0 : adz (0) = ad56 (0) := hz (0) (by omega); simp only [g0]) (fun adz hz => by have g0 : adz (0) = ad56 (0) := hz (0) (by omega); simp only [g0]) (by exact Nat.le_of_ble_eq_true rfl) (by exact Nat.le_of_ble_eq_true rfl) dX12_init_64 rfl (fun ad64 hag64 hI => ?_)
  have hag : ∀ i, i < 1 → ad64 i = Gad G i := fun i hi => (hag64 i (by omega)).trans (hag i hi)
  have C15 : Cx (gset G ad64 (9) (8) (1076)) cX12_init BIG RX12 1 none rm_X12_init shM (9) := Cx_gset C (by exact Nat.le_of_ble_eq_true rfl) (by exact Nat.le_of_ble_eq_true rfl)
  show Go (gset G ad64 (9) (8) (1076)) 1 _ [.ref (ad64 (8)), .ref (ad64 (0))] [(0, .ref (ad64 (0)))] S58_14
  refine Go_putF (k := 23) (q := 69) C15 hQ.2 ci12 iw_12 (okn kM_0 (by omega)) rfl wm_13_3 rfl rfl rfl (ci12.2.2.2.1 23 (by decide)) rfl rfl dX12_init_66 rfl (fun S66_16 e_S66_16 => ?_)
  have hw := hw S66_16 e_S66_16
  have hI := irR e_S66_16 (by omega) (by omega) hI
  refine Go_aload_n (q := 70) C15 0 rfl dX12_init_69 rfl ?_
  refine Go_sipush (q := 73) (v := (144 : Int32)) C15 dX12_init_70 rfl rfl ?_
  refine Go_newa_z (n := 9) (len := 144) (q := 75) (stF := fun ad => [.ref (ad (0))]) (lvF := fun ad => [(0, .ref (ad (0)))]) C15 wm_13_4 (by decide) rfl (by decide) kM_9.2 hI rfl rfl (fun adz hz => by have g0 : adz (0) = ad64 (0) := hz (0) (by omega); simp only [g0]) (fun adz hz => by have g0 : adz (0) = ad64 (0) := hz (0) (by omega); simp only [g0]) (by exact Nat.le_of_ble_eq_true rfl) (by exact Nat.le_of_ble_eq_true rfl) dX12_init_73 rfl (fun ad73 hag73 hI => ?_)
  have hag : ∀ i, i < 1 → ad73 i = Gad G i := fun i hi => (hag73 i (by omega)).trans (hag i hi)
  have C17 : Cx (gset G ad73 (10) (9) (1220)) cX12_init BIG RX12 1 none rm_X12_init shM (10) := Cx_gset C (by exact Nat.le_of_ble_eq_true rfl) (by exact Nat.le_of_ble_eq_true rfl)
  show Go (gset G ad73 (10) (9) (1220)) 1 _ [.ref (ad73 (9)), .ref (ad73 (0))] [(0, .ref (ad73 (0)))] S66_16
  refine Go_putF (k := 24) (q := 78) C17 hQ.2 ci12 iw_12 (okn kM_0 (by omega)) rfl wm_13_5 rfl rfl rfl (ci12.2.2.2.1 24 (by decide)) rfl rfl dX12_init_75 rfl (fun S75_18 e_S75_18 => ?_)
  have hw := hw S75_18 e_S75_18
  have hI := irR e_S75_18 (by omega) (by omega) hI
  refine Go_aload_n (q := 79) C17 0 rfl dX12_init_78 rfl ?_
  refine Go_bipush (q := 81) (v := (12 : Int32)) C17 dX12_init_79 rfl rfl ?_
  refine Go_newa_i (n := 10) (len := 12) (q := 83) (stF := fun ad => [.ref (ad (0))]) (lvF := fun ad => [(0, .ref (ad (0)))]) C17 wm_3_6 (by decide) rfl (by decide) kM_10.2 hI rfl rfl (fun adz hz => by have g0 : adz (0) = ad73 (0) := hz (0) (by omega); simp only [g0]) (fun adz hz => by have g0 : adz (0) = ad73 (0) := hz (0) (by omega); simp only [g0]) (by exact Nat.le_of_ble_eq_true rfl) (by exact Nat.le_of_ble_eq_true rfl) dX12_init_81 rfl (fun ad81 hag81 hI => ?_)
  have hag : ∀ i, i < 1 → ad81 i = Gad G i := fun i hi => (hag81 i (by omega)).trans (hag i hi)
  have C19 : Cx (gset G ad81 (11) (10) (1232)) cX12_init BIG RX12 1 none rm_X12_init shM (11) := Cx_gset C (by exact Nat.le_of_ble_eq_true rfl) (by exact Nat.le_of_ble_eq_true rfl)
  show Go (gset G ad81 (11) (10) (1232)) 1 _ [.ref (ad81 (10)), .ref (ad81 (0))] [(0, .ref (ad81 (0)))] S75_18
  refine Go_putF (k := 32) (q := 86) C19 hQ.2 ci12 iw_12 (okn kM_0 (by omega)) rfl wm_13_6 rfl rfl rfl (ci12.2.2.2.1 32 (by decide)) rfl rfl dX12_init_83 rfl (fun S83_20 e_S83_20 => ?_)
  have hw := hw S83_20 e_S83_20
  have hI := irR e_S83_20 (by omega) (by omega) hI
  refine Go_aload_n (q := 87) C19 0 rfl dX12_init_86 rfl ?_
  refine Go_bipush (q := 89) (v := (8 : Int32)) C19 dX12_init_87 rfl rfl ?_
  refine Go_newa_i (n := 11) (len := 8) (q := 91) (stF := fun ad => [.ref (ad (0))]) (lvF := fun ad => [(0, .ref (ad (0)))]) C19 wm_3_6 (by decide) rfl (by decide) kM_11.2 hI rfl rfl (fun adz hz => by have g0 : adz (0) = ad81 (0) := hz (0) (by omega); simp only [g0]) (fun adz hz => by have g0 : adz (0) = ad81 (0) := hz (0) (by omega); simp only [g0]) (by exact Nat.le_of_ble_eq_true rfl) (by exact Nat.le_of_ble_eq_true rfl) dX12_init_89 rfl (fun ad89 hag89 hI => ?_)
  have hag : ∀ i, i < 1 → ad89 i = Gad G i := fun i hi => (hag89 i (by omega)).trans (hag i hi)
  have C21 : Cx (gset G ad89 (12) (11) (1240)) cX12_init BIG RX12 1 none rm_X12_init shM (12) := Cx_gset C (by exact Nat.le_of_ble_eq_true rfl) (by exact Nat.le_of_ble_eq_true rfl)
  show Go (gset G ad89 (12) (11) (1240)) 1 _ [.ref (ad89 (11)), .ref (ad89 (0))] [(0, .ref (ad89 (0)))] S83_20
  refine Go_putF (k := 33) (q := 94) C21 hQ.2 ci12 iw_12 (okn kM_0 (by omega)) rfl wm_13_7 rfl rfl rfl (ci12.2.2.2.1 33 (by decide)) rfl rfl dX12_init_91 rfl (fun S91_22 e_S91_22 => ?_)
  have hw := hw S91_22 e_S91_22
  have hI := irR e_S91_22 (by omega) (by omega) hI
  refine Go_aload_n (q := 95) C21 0 rfl dX12_init_94 rfl ?_
  refine Go_bipush (q := 97) (v := (8 : Int32)) C21 dX12_init_95 rfl rfl ?_
  refine Go_newa_i (n := 12) (len := 8) (q := 99) (stF := fun ad => [.ref (ad (0))]) (lvF := fun ad => [(0, .ref (ad (0)))]) C21 wm_3_6 (by decide) rfl (by decide) kM_12.2 hI rfl rfl (fun adz hz => by have g0 : adz (0) = ad89 (0) := hz (0) (by omega); simp only [g0]) (fun adz hz => by have g0 : adz (0) = ad89 (0) := hz (0) (by omega); simp only [g0]) (by exact Nat.le_of_ble_eq_true rfl) (by exact Nat.le_of_ble_eq_true rfl) dX12_init_97 rfl (fun ad97 hag97 hI => ?_)
  have hag : ∀ i, i < 1 → ad97 i = Gad G i := fun i hi => (hag97 i (by omega)).trans (hag i hi)
  have C23 : Cx (gset G ad97 (13) (12) (1248)) cX12_init BIG RX12 1 none rm_X12_init shM (13) := Cx_gset C (by exact Nat.le_of_ble_eq_true rfl) (by exact Nat.le_of_ble_eq_true rfl)
  show Go (gset G ad97 (13) (12) (1248)) 1 _ [.ref (ad97 (12)), .ref (ad97 (0))] [(0, .ref (ad97 (0)))] S91_22
  refine Go_putF (k := 34) (q := 102) C23 hQ.2 ci12 iw_12 (okn kM_0 (by omega)) rfl wm_13_8 rfl rfl rfl (ci12.2.2.2.1 34 (by decide)) rfl rfl dX12_init_99 rfl (fun S99_24 e_S99_24 => ?_)
  have hw := hw S99_24 e_S99_24
  have hI := irR e_S99_24 (by omega) (by omega) hI
  refine Go_aload_n (q := 103) C23 0 rfl dX12_init_102 rfl ?_
  refine Go_bipush (q := 105) (v := (12 : Int32)) C23 dX12_init_103 rfl rfl ?_
  refine Go_newa_i (n := 13) (len := 12) (q := 107) (stF := fun ad => [.ref (ad (0))]) (lvF := fun ad => [(0, .ref (ad (0)))]) C23 wm_3_6 (by decide) rfl (by decide) kM_13.2 hI rfl rfl (fun adz hz => by have g0 : adz (0) = ad97 (0) := hz (0) (by omega); simp only [g0]) (fun adz hz => by have g0 : adz (0) = ad97 (0) := hz (0) (by omega); simp only [g0]) (by exact Nat.le_of_ble_eq_true rfl) (by exact Nat.le_of_ble_eq_true rfl) dX12_init_105 rfl (fun ad105 hag105 hI => ?_)
  have hag : ∀ i, i < 1 → ad105 i = Gad G i := fun i hi => (hag105 i (by omega)).trans (hag i hi)
  have C25 : Cx (gset G ad105 (14) (13) (1260)) cX12_init BIG RX12 1 none rm_X12_init shM (14) := Cx_gset C (by exact Nat.le_of_ble_eq_true rfl) (by exact Nat.le_of_ble_eq_true rfl)
  show Go (gset G ad105 (14) (13) (1260)) 1 _ [.ref (ad105 (13)), .ref (ad105 (0))] [(0, .ref (ad105 (0)))] S99_24
  refine Go_putF (k := 35) (q := 110) C25 hQ.2 ci12 iw_12 (okn kM_0 (by omega)) rfl wm_13_9 rfl rfl rfl (ci12.2.2.2.1 35 (by decide)) rfl rfl dX12_init_107 rfl (fun S107_26 e_S107_26 => ?_)
  have hw := hw S107_26 e_S107_26
  have hI := irR e_S107_26 (by omega) (by omega) hI
  refine Go_aload_n (q := 111) C25 0 rfl dX12_init_110 rfl ?_
  refine Go_bipush (q := 113) (v := (12 : Int32)) C25 dX12_init_111 rfl rfl ?_
  refine Go_newa_j (n := 14) (len := 12) (q := 115) (stF := fun ad => [.ref (ad (0))]) (lvF := fun ad => [(0, .ref (ad (0)))]) C25 wm_1_6 (by decide) rfl (by decide) kM_14.2 hI rfl rfl (fun adz hz => by have g0 : adz (0) = ad105 (0) := hz (0) (by omega); simp only [g0]) (fun adz hz => by have g0 : adz (0) = ad105 (0) := hz (0) (by omega); simp only [g0]) (by exact Nat.le_of_ble_eq_true rfl) (by exact Nat.le_of_ble_eq_true rfl) dX12_init_113 rfl (fun ad113 hag113 hI => ?_)
  have hag : ∀ i, i < 1 → ad113 i = Gad G i := fun i hi => (hag113 i (by omega)).trans (hag i hi)
  have C27 : Cx (gset G ad113 (15) (14) (1272)) cX12_init BIG RX12 1 none rm_X12_init shM (15) := Cx_gset C (by exact Nat.le_of_ble_eq_true rfl) (by exact Nat.le_of_ble_eq_true rfl)
  show Go (gset G ad113 (15) (14) (1272)) 1 _ [.ref (ad113 (14)), .ref (ad113 (0))] [(0, .ref (ad113 (0)))] S107_26
  refine Go_putF (k := 36) (q := 118) C27 hQ.2 ci12 iw_12 (okn kM_0 (by omega)) rfl wm_13_10 rfl rfl rfl (ci12.2.2.2.1 36 (by decide)) rfl rfl dX12_init_115 rfl (fun S115_28 e_S115_28 => ?_)
  have hw := hw S115_28 e_S115_28
  have hI := irR e_S115_28 (by omega) (by omega) hI
  refine Go_aload_n (q := 119) C27 0 rfl dX12_init_118 rfl ?_
  refine Go_bipush (q := 121) (v := (12 : Int32)) C27 dX12_init_119 rfl rfl ?_
  refine Go_newa_i (n := 15) (len := 12) (q := 123) (stF := fun ad => [.ref (ad (0))]) (lvF := fun ad => [(0, .ref (ad (0)))]) C27 wm_3_6 (by decide) rfl (by decide) kM_15.2 hI rfl rfl (fun adz hz => by have g0 : adz (0) = ad113 (0) := hz (0) (by omega); simp only [g0]) (fun adz hz => by have g0 : adz (0) = ad113 (0) := hz (0) (by omega); simp only [g0]) (by exact Nat.le_of_ble_eq_true rfl) (by exact Nat.le_of_ble_eq_true rfl) dX12_init_121 rfl (fun ad121 hag121 hI => ?_)
  have hag : ∀ i, i < 1 → ad121 i = Gad G i := fun i hi => (hag121 i (by omega)).trans (hag i hi)
  have C29 : Cx (gset G ad121 (16) (15) (1284)) cX12_init BIG RX12 1 none rm_X12_init shM (16) := Cx_gset C (by exact Nat.le_of_ble_eq_true rfl) (by exact Nat.le_of_ble_eq_true rfl)
  show Go (gset G ad121 (16) (15) (1284)) 1 _ [.ref (ad121 (15)), .ref (ad121 (0))] [(0, .ref (ad121 (0)))] S115_28
  refine Go_putF (k := 37) (q := 126) C29 hQ.2 ci12 iw_12 (okn kM_0 (by omega)) rfl wm_13_11 rfl rfl rfl (ci12.2.2.2.1 37 (by decide)) rfl rfl dX12_init_123 rfl (fun S123_30 e_S123_30 => ?_)
  have hw := hw S123_30 e_S123_30
  have hI := irR e_S123_30 (by omega) (by omega) hI
  refine Go_aload_n (q := 127) C29 0 rfl dX12_init_126 rfl ?_
  refine Go_bipush (q := 129) (v := (12 : Int32)) C29 dX12_init_127 rfl rfl ?_
  refine Go_newa_i (n := 16) (len := 12) (q := 131) (stF := fun ad => [.ref (ad (0))]) (lvF := fun ad => [(0, .ref (ad (0)))]) C29 wm_3_6 (by decide) rfl (by decide) kM_16.2 hI rfl rfl (fun adz hz => by have g0 : adz (0) = ad121 (0) := hz (0) (by omega); simp only [g0]) (fun adz hz => by have g0 : adz (0) = ad121 (0) := hz (0) (by omega); simp only [g0]) (by exact Nat.le_of_ble_eq_true rfl) (by exact Nat.le_of_ble_eq_true rfl) dX12_init_129 rfl (fun ad129 hag129 hI => ?_)
  have hag : ∀ i, i < 1 → ad129 i = Gad G i := fun i hi => (hag129 i (by omega)).trans (hag i hi)
  have C31 : Cx (gset G ad129 (17) (16) (1296)) cX12_init BIG RX12 1 none rm_X12_init shM (17) := Cx_gset C (by exact Nat.le_of_ble_eq_true rfl) (by exact Nat.le_of_ble_eq_true rfl)
  show Go (gset G ad129 (17) (16) (1296)) 1 _ [.ref (ad129 (16)), .ref (ad129 (0))] [(0, .ref (ad129 (0)))] S123_30
  refine Go_putF (k := 38) (q := 134) C31 hQ.2 ci12 iw_12 (okn kM_0 (by omega)) rfl wm_13_12 rfl rfl rfl (ci12.2.2.2.1 38 (by decide)) rfl rfl dX12_init_131 rfl (fun S131_32 e_S131_32 => ?_)
  have hw := hw S131_32 e_S131_32
  have hI := irR e_S131_32 (by omega) (by omega) hI
  refine Go_aload_n (q := 135) C31 0 rfl dX12_init_134 rfl ?_
  refine Go_bipush (q := 137) (v := (12 : Int32)) C31 dX12_init_135 rfl rfl ?_
  refine Go_newa_i (n := 17) (len := 12) (q := 139) (stF := fun ad => [.ref (ad (0))]) (lvF := fun ad => [(0, .ref (ad (0)))]) C31 wm_3_6 (by decide) rfl (by decide) kM_17.2 hI rfl rfl (fun adz hz => by have g0 : adz (0) = ad129 (0) := hz (0) (by omega); simp only [g0]) (fun adz hz => by have g0 : adz (0) = ad129 (0) := hz (0) (by omega); simp only [g0]) (by exact Nat.le_of_ble_eq_true rfl) (by exact Nat.le_of_ble_eq_true rfl) dX12_init_137 rfl (fun ad137 hag137 hI => ?_)
  have hag : ∀ i, i < 1 → ad137 i = Gad G i := fun i hi => (hag137 i (by omega)).trans (hag i hi)
  have C33 : Cx (gset G ad137 (18) (17) (1308)) cX12_init BIG RX12 1 none rm_X12_init shM (18) := Cx_gset C (by exact Nat.le_of_ble_eq_true rfl) (by exact Nat.le_of_ble_eq_true rfl)
  show Go (gset G ad137 (18) (17) (1308)) 1 _ [.ref (ad137 (17)), .ref (ad137 (0))] [(0, .ref (ad137 (0)))] S131_32
  refine Go_putF (k := 39) (q := 142) C33 hQ.2 ci12 iw_12 (okn kM_0 (by omega)) rfl wm_13_13 rfl rfl rfl (ci12.2.2.2.1 39 (by decide)) rfl rfl dX12_init_139 rfl (fun S139_34 e_S139_34 => ?_)
  have hw := hw S139_34 e_S139_34
  have hI := irR e_S139_34 (by omega) (by omega) hI
  refine Go_aload_n (q := 143) C33 0 rfl dX12_init_142 rfl ?_
  refine Go_iconst (q := 144) (v := (4 : Int32)) C33 dX12_init_143 rfl rfl ?_
  refine Go_newa_i (n := 18) (len := 4) (q := 146) (stF := fun ad => [.ref (ad (0))]) (lvF := fun ad => [(0, .ref (ad (0)))]) C33 wm_3_6 (by decide) rfl (by decide) kM_18.2 hI rfl rfl (fun adz hz => by have g0 : adz (0) = ad137 (0) := hz (0) (by omega); simp only [g0]) (fun adz hz => by have g0 : adz (0) = ad137 (0) := hz (0) (by omega); simp only [g0]) (by exact Nat.le_of_ble_eq_true rfl) (by exact Nat.le_of_ble_eq_true rfl) dX12_init_144 rfl (fun ad144 hag144 hI => ?_)
  have hag : ∀ i, i < 1 → ad144 i = Gad G i := fun i hi => (hag144 i (by omega)).trans (hag i hi)
  have C35 : Cx (gset G ad144 (19) (18) (1312)) cX12_init BIG RX12 1 none rm_X12_init shM (19) := Cx_gset C (by exact Nat.le_of_ble_eq_true rfl) (by exact Nat.le_of_ble_eq_true rfl)
  show Go (gset G ad144 (19) (18) (1312)) 1 _ [.ref (ad144 (18)), .ref (ad144 (0))] [(0, .ref (ad144 (0)))] S139_34
  refine Go_putF (k := 40) (q := 149) C35 hQ.2 ci12 iw_12 (okn kM_0 (by omega)) rfl wm_13_14 rfl rfl rfl (ci12.2.2.2.1 40 (by decide)) rfl rfl dX12_init_146 rfl (fun S146_36 e_S146_36 => ?_)
  have hw := hw S146_36 e_S146_36
  have hI := irR e_S146_36 (by omega) (by omega) hI
  refine Go_aload_n (q := 150) C35 0 rfl dX12_init_149 rfl ?_
  refine Go_iconst (q := 151) (v := (4 : Int32)) C35 dX12_init_150 rfl rfl ?_
  refine Go_newa_i (n := 19) (len := 4) (q := 153) (stF := fun ad => [.ref (ad (0))]) (lvF := fun ad => [(0, .ref (ad (0)))]) C35 wm_3_6 (by decide) rfl (by decide) kM_19.2 hI rfl rfl (fun adz hz => by have g0 : adz (0) = ad144 (0) := hz (0) (by omega); simp only [g0]) (fun adz hz => by have g0 : adz (0) = ad144 (0) := hz (0) (by omega); simp only [g0]) (by exact Nat.le_of_ble_eq_true rfl) (by exact Nat.le_of_ble_eq_true rfl) dX12_init_151 rfl (fun ad151 hag151 hI => ?_)
  have hag : ∀ i, i < 1 → ad151 i = Gad G i := fun i hi => (hag151 i (by omega)).trans (hag i hi)
  have C37 : Cx (gset G ad151 (20) (19) (1316)) cX12_init BIG RX12 1 none rm_X12_init shM (20) := Cx_gset C (by exact Nat.le_of_ble_eq_true rfl) (by exact Nat.le_of_ble_eq_true rfl)
  show Go (gset G ad151 (20) (19) (1316)) 1 _ [.ref (ad151 (19)), .ref (ad151 (0))] [(0, .ref (ad151 (0)))] S146_36
  refine Go_putF (k := 41) (q := 156) C37 hQ.2 ci12 iw_12 (okn kM_0 (by omega)) rfl wm_13_15 rfl rfl rfl (ci12.2.2.2.1 41 (by decide)) rfl rfl dX12_init_153 rfl (fun S153_38 e_S153_38 => ?_)
  have hw := hw S153_38 e_S153_38
  have hI := irR e_S153_38 (by omega) (by omega) hI
  refine Go_aload_n (q := 157) C37 0 rfl dX12_init_156 rfl ?_
  refine Go_sipush (q := 160) (v := (1000 : Int32)) C37 dX12_init_157 rfl rfl ?_
  refine Go_newa_i (n := 20) (len := 1000) (q := 162) (stF := fun ad => [.ref (ad (0))]) (lvF := fun ad => [(0, .ref (ad (0)))]) C37 wm_3_6 (by decide) rfl (by decide) kM_20.2 hI rfl rfl (fun adz hz => by have g0 : adz (0) = ad151 (0) := hz (0) (by omega); simp only [g0]) (fun adz hz => by have g0 : adz (0) = ad151 (0) := hz (0) (by omega); simp only [g0]) (by exact Nat.le_of_ble_eq_true rfl) (by exact Nat.le_of_ble_eq_true rfl) dX12_init_160 rfl (fun ad160 hag160 hI => ?_)
  have hag : ∀ i, i < 1 → ad160 i = Gad G i := fun i hi => (hag160 i (by omega)).trans (hag i hi)
  have C39 : Cx (gset G ad160 (21) (20) (2316)) cX12_init BIG RX12 1 none rm_X12_init shM (21) := Cx_gset C (by exact Nat.le_of_ble_eq_true rfl) (by exact Nat.le_of_ble_eq_true rfl)
  show Go (gset G ad160 (21) (20) (2316)) 1 _ [.ref (ad160 (20)), .ref (ad160 (0))] [(0, .ref (ad160 (0)))] S153_38
  refine Go_putF (k := 42) (q := 165) C39 hQ.2 ci12 iw_12 (okn kM_0 (by omega)) rfl wm_13_16 rfl rfl rfl (ci12.2.2.2.1 42 (by decide)) rfl rfl dX12_init_162 rfl (fun S162_40 e_S162_40 => ?_)
  have hw := hw S162_40 e_S162_40
  have hI := irR e_S162_40 (by omega) (by omega) hI
  refine Go_aload_n (q := 166) C39 0 rfl dX12_init_165 rfl ?_
  refine Go_bipush (q := 168) (v := (7 : Int32)) C39 dX12_init_166 rfl rfl ?_
  refine Go_newa_i (n := 21) (len := 7) (q := 170) (stF := fun ad => [.ref (ad (0))]) (lvF := fun ad => [(0, .ref (ad (0)))]) C39 wm_3_6 (by decide) rfl (by decide) kM_21.2 hI rfl rfl (fun adz hz => by have g0 : adz (0) = ad160 (0) := hz (0) (by omega); simp only [g0]) (fun adz hz => by have g0 : adz (0) = ad160 (0) := hz (0) (by omega); simp only [g0]) (by exact Nat.le_of_ble_eq_true rfl) (by exact Nat.le_of_ble_eq_true rfl) dX12_init_168 rfl (fun ad168 hag168 hI => ?_)
  have hag : ∀ i, i < 1 → ad168 i = Gad G i := fun i hi => (hag168 i (by omega)).trans (hag i hi)
  have C41 : Cx (gset G ad168 (22) (21) (2323)) cX12_init BIG RX12 1 none rm_X12_init shM (22) := Cx_gset C (by exact Nat.le_of_ble_eq_true rfl) (by exact Nat.le_of_ble_eq_true rfl)
  show Go (gset G ad168 (22) (21) (2323)) 1 _ [.ref (ad168 (21)), .ref (ad168 (0))] [(0, .ref (ad168 (0)))] S162_40
  refine Go_putF (k := 44) (q := 173) C41 hQ.2 ci12 iw_12 (okn kM_0 (by omega)) rfl wm_13_17 rfl rfl rfl (ci12.2.2.2.1 44 (by decide)) rfl rfl dX12_init_170 rfl (fun S170_42 e_S170_42 => ?_)
  have hw := hw S170_42 e_S170_42
  have hI := irR e_S170_42 (by omega) (by omega) hI
  refine Go_aload_n (q := 174) C41 0 rfl dX12_init_173 rfl ?_
  refine Go_bipush (q := 176) (v := (7 : Int32)) C41 dX12_init_174 rfl rfl ?_
  refine Go_newa_z (n := 22) (len := 7) (q := 178) (stF := fun ad => [.ref (ad (0))]) (lvF := fun ad => [(0, .ref (ad (0)))]) C41 wm_13_4 (by decide) rfl (by decide) kM_22.2 hI rfl rfl (fun adz hz => by have g0 : adz (0) = ad168 (0) := hz (0) (by omega); simp only [g0]) (fun adz hz => by have g0 : adz (0) = ad168 (0) := hz (0) (by omega); simp only [g0]) (by exact Nat.le_of_ble_eq_true rfl) (by exact Nat.le_of_ble_eq_true rfl) dX12_init_176 rfl (fun ad176 hag176 hI => ?_)
  have hag : ∀ i, i < 1 → ad176 i = Gad G i := fun i hi => (hag176 i (by omega)).trans (hag i hi)
  have C43 : Cx (gset G ad176 (23) (22) (2330)) cX12_init BIG RX12 1 none rm_X12_init shM (23) := Cx_gset C (by exact Nat.le_of_ble_eq_true rfl) (by exact Nat.le_of_ble_eq_true rfl)
  show Go (gset G ad176 (23) (22) (2330)) 1 _ [.ref (ad176 (22)), .ref (ad176 (0))] [(0, .ref (ad176 (0)))] S170_42
  refine Go_putF (k := 45) (q := 181) C43 hQ.2 ci12 iw_12 (okn kM_0 (by omega)) rfl wm_13_18 rfl rfl rfl (ci12.2.2.2.1 45 (by decide)) rfl rfl dX12_init_178 rfl (fun S178_44 e_S178_44 => ?_)
  have hw := hw S178_44 e_S178_44
  have hI := irR e_S178_44 (by omega) (by omega) hI
  refine Go_aload_n (q := 182) C43 0 rfl dX12_init_181 rfl ?_
  refine Go_bipush (q := 184) (v := (7 : Int32)) C43 dX12_init_182 rfl rfl ?_
  refine Go_newa_i (n := 23) (len := 7) (q := 186) (stF := fun ad => [.ref (ad (0))]) (lvF := fun ad => [(0, .ref (ad (0)))]) C43 wm_3_6 (by decide) rfl (by decide) kM_23.2 hI rfl rfl (fun adz hz => by have g0 : adz (0) = ad176 (0) := hz (0) (by omega); simp only [g0]) (fun adz hz => by have g0 : adz (0) = ad176 (0) := hz (0) (by omega); simp only [g0]) (by exact Nat.le_of_ble_eq_true rfl) (by exact Nat.le_of_ble_eq_true rfl) dX12_init_184 rfl (fun ad184 hag184 hI => ?_)
  have hag : ∀ i, i < 1 → ad184 i = Gad G i := fun i hi => (hag184 i (by omega)).trans (hag i hi)
  have C45 : Cx (gset G ad184 (24) (23) (2337)) cX12_init BIG RX12 1 none rm_X12_init shM (24) := Cx_gset C (by exact Nat.le_of_ble_eq_true rfl) (by exact Nat.le_of_ble_eq_true rfl)
  show Go (gset G ad184 (24) (23) (2337)) 1 _ [.ref (ad184 (23)), .ref (ad184 (0))] [(0, .ref (ad184 (0)))] S178_44
  refine Go_putF (k := 46) (q := 189) C45 hQ.2 ci12 iw_12 (okn kM_0 (by omega)) rfl wm_13_19 rfl rfl rfl (ci12.2.2.2.1 46 (by decide)) rfl rfl dX12_init_186 rfl (fun S186_46 e_S186_46 => ?_)
  have hw := hw S186_46 e_S186_46
  have hI := irR e_S186_46 (by omega) (by omega) hI
  refine Go_aload_n (q := 190) C45 0 rfl dX12_init_189 rfl ?_
  refine Go_bipush (q := 192) (v := (7 : Int32)) C45 dX12_init_190 rfl rfl ?_
  refine Go_newa_i (n := 24) (len := 7) (q := 194) (stF := fun ad => [.ref (ad (0))]) (lvF := fun ad => [(0, .ref (ad (0)))]) C45 wm_3_6 (by decide) rfl (by decide) kM_24.2 hI rfl rfl (fun adz hz => by have g0 : adz (0) = ad184 (0) := hz (0) (by omega); simp only [g0]) (fun adz hz => by have g0 : adz (0) = ad184 (0) := hz (0) (by omega); simp only [g0]) (by exact Nat.le_of_ble_eq_true rfl) (by exact Nat.le_of_ble_eq_true rfl) dX12_init_192 rfl (fun ad192 hag192 hI => ?_)
  have hag : ∀ i, i < 1 → ad192 i = Gad G i := fun i hi => (hag192 i (by omega)).trans (hag i hi)
  have C47 : Cx (gset G ad192 (25) (24) (2344)) cX12_init BIG RX12 1 none rm_X12_init shM (25) := Cx_gset C (by exact Nat.le_of_ble_eq_true rfl) (by exact Nat.le_of_ble_eq_true rfl)
  show Go (gset G ad192 (25) (24) (2344)) 1 _ [.ref (ad192 (24)), .ref (ad192 (0))] [(0, .ref (ad192 (0)))] S186_46
  refine Go_putF (k := 47) (q := 197) C47 hQ.2 ci12 iw_12 (okn kM_0 (by omega)) rfl wm_13_20 rfl rfl rfl (ci12.2.2.2.1 47 (by decide)) rfl rfl dX12_init_194 rfl (fun S194_48 e_S194_48 => ?_)
  have hw := hw S194_48 e_S194_48
  have hI := irR e_S194_48 (by omega) (by omega) hI
  refine Go_aload_n (q := 198) C47 0 rfl dX12_init_197 rfl ?_
  refine Go_bipush (q := 200) (v := (7 : Int32)) C47 dX12_init_198 rfl rfl ?_
  refine Go_newa_i (n := 25) (len := 7) (q := 202) (stF := fun ad => [.ref (ad (0))]) (lvF := fun ad => [(0, .ref (ad (0)))]) C47 wm_3_6 (by decide) rfl (by decide) kM_25.2 hI rfl rfl (fun adz hz => by have g0 : adz (0) = ad192 (0) := hz (0) (by omega); simp only [g0]) (fun adz hz => by have g0 : adz (0) = ad192 (0) := hz (0) (by omega); simp only [g0]) (by exact Nat.le_of_ble_eq_true rfl) (by exact Nat.le_of_ble_eq_true rfl) dX12_init_200 rfl (fun ad200 hag200 hI => ?_)
  have hag : ∀ i, i < 1 → ad200 i = Gad G i := fun i hi => (hag200 i (by omega)).trans (hag i hi)
  have C49 : Cx (gset G ad200 (26) (25) (2351)) cX12_init BIG RX12 1 none rm_X12_init shM (26) := Cx_gset C (by exact Nat.le_of_ble_eq_true rfl) (by exact Nat.le_of_ble_eq_true rfl)
  show Go (gset G ad200 (26) (25) (2351)) 1 _ [.ref (ad200 (25)), .ref (ad200 (0))] [(0, .ref (ad200 (0)))] S194_48
  refine Go_putF (k := 48) (q := 205) C49 hQ.2 ci12 iw_12 (okn kM_0 (by omega)) rfl wm_13_21 rfl rfl rfl (ci12.2.2.2.1 48 (by decide)) rfl rfl dX12_init_202 rfl (fun S202_50 e_S202_50 => ?_)
  have hw := hw S202_50 e_S202_50
  have hI := irR e_S202_50 (by omega) (by omega) hI
  refine Go_aload_n (q := 206) C49 0 rfl dX12_init_205 rfl ?_
  refine Go_bipush (q := 208) (v := (7 : Int32)) C49 dX12_init_206 rfl rfl ?_
  refine Go_newa_i (n := 26) (len := 7) (q := 210) (stF := fun ad => [.ref (ad (0))]) (lvF := fun ad => [(0, .ref (ad (0)))]) C49 wm_3_6 (by decide) rfl (by decide) kM_26.2 hI rfl rfl (fun adz hz => by have g0 : adz (0) = ad200 (0) := hz (0) (by omega); simp only [g0]) (fun adz hz => by have g0 : adz (0) = ad200 (0) := hz (0) (by omega); simp only [g0]) (by exact Nat.le_of_ble_eq_true rfl) (by exact Nat.le_of_ble_eq_true rfl) dX12_init_208 rfl (fun ad208 hag208 hI => ?_)
  have hag : ∀ i, i < 1 → ad208 i = Gad G i := fun i hi => (hag208 i (by omega)).trans (hag i hi)
  have C51 : Cx (gset G ad208 (27) (26) (2358)) cX12_init BIG RX12 1 none rm_X12_init shM (27) := Cx_gset C (by exact Nat.le_of_ble_eq_true rfl) (by exact Nat.le_of_ble_eq_true rfl)
  show Go (gset G ad208 (27) (26) (2358)) 1 _ [.ref (ad208 (26)), .ref (ad208 (0))] [(0, .ref (ad208 (0)))] S202_50
  refine Go_putF (k := 49) (q := 213) C51 hQ.2 ci12 iw_12 (okn kM_0 (by omega)) rfl wm_13_22 rfl rfl rfl (ci12.2.2.2.1 49 (by decide)) rfl rfl dX12_init_210 rfl (fun S210_52 e_S210_52 => ?_)
  have hw := hw S210_52 e_S210_52
  have hI := irR e_S210_52 (by omega) (by omega) hI
  refine Go_aload_n (q := 214) C51 0 rfl dX12_init_213 rfl ?_
  refine Go_bipush (q := 216) (v := (7 : Int32)) C51 dX12_init_214 rfl rfl ?_
  refine Go_newa_i (n := 27) (len := 7) (q := 218) (stF := fun ad => [.ref (ad (0))]) (lvF := fun ad => [(0, .ref (ad (0)))]) C51 wm_3_6 (by decide) rfl (by decide) kM_27.2 hI rfl rfl (fun adz hz => by have g0 : adz (0) = ad208 (0) := hz (0) (by omega); simp only [g0]) (fun adz hz => by have g0 : adz (0) = ad208 (0) := hz (0) (by omega); simp only [g0]) (by exact Nat.le_of_ble_eq_true rfl) (by exact Nat.le_of_ble_eq_true rfl) dX12_init_216 rfl (fun ad216 hag216 hI => ?_)
  have hag : ∀ i, i < 1 → ad216 i = Gad G i := fun i hi => (hag216 i (by omega)).trans (hag i hi)
  have C53 : Cx (gset G ad216 (28) (27) (2365)) cX12_init BIG RX12 1 none rm_X12_init shM (28) := Cx_gset C (by exact Nat.le_of_ble_eq_true rfl) (by exact Nat.le_of_ble_eq_true rfl)
  show Go (gset G ad216 (28) (27) (2365)) 1 _ [.ref (ad216 (27)), .ref (ad216 (0))] [(0, .ref (ad216 (0)))] S210_52
  refine Go_putF (k := 50) (q := 221) C53 hQ.2 ci12 iw_12 (okn kM_0 (by omega)) rfl wm_13_23 rfl rfl rfl (ci12.2.2.2.1 50 (by decide)) rfl rfl dX12_init_218 rfl (fun S218_54 e_S218_54 => ?_)
  have hw := hw S218_54 e_S218_54
  have hI := irR e_S218_54 (by omega) (by omega) hI
  refine Go_aload_n (q := 222) C53 0 rfl dX12_init_221 rfl ?_
  refine Go_bipush (q := 224) (v := (7 : Int32)) C53 dX12_init_222 rfl rfl ?_
  refine Go_newa_i (n := 28) (len := 7) (q := 226) (stF := fun ad => [.ref (ad (0))]) (lvF := fun ad => [(0, .ref (ad (0)))]) C53 wm_3_6 (by decide) rfl (by decide) kM_28.2 hI rfl rfl (fun adz hz => by have g0 : adz (0) = ad216 (0) := hz (0) (by omega); simp only [g0]) (fun adz hz => by have g0 : adz (0) = ad216 (0) := hz (0) (by omega); simp only [g0]) (by exact Nat.le_of_ble_eq_true rfl) (by exact Nat.le_of_ble_eq_true rfl) dX12_init_224 rfl (fun ad224 hag224 hI => ?_)
  have hag : ∀ i, i < 1 → ad224 i = Gad G i := fun i hi => (hag224 i (by omega)).trans (hag i hi)
  have C55 : Cx (gset G ad224 (29) (28) (2372)) cX12_init BIG RX12 1 none rm_X12_init shM (29) := Cx_gset C (by exact Nat.le_of_ble_eq_true rfl) (by exact Nat.le_of_ble_eq_true rfl)
  show Go (gset G ad224 (29) (28) (2372)) 1 _ [.ref (ad224 (28)), .ref (ad224 (0))] [(0, .ref (ad224 (0)))] S218_54
  refine Go_putF (k := 51) (q := 229) C55 hQ.2 ci12 iw_12 (okn kM_0 (by omega)) rfl wm_14_0 rfl rfl rfl (ci12.2.2.2.1 51 (by decide)) rfl rfl dX12_init_226 rfl (fun S226_56 e_S226_56 => ?_)
  have hw := hw S226_56 e_S226_56
  have hI := irR e_S226_56 (by omega) (by omega) hI
  refine Go_aload_n (q := 230) C55 0 rfl dX12_init_229 rfl ?_
  refine Go_bipush (q := 232) (v := (7 : Int32)) C55 dX12_init_230 rfl rfl ?_
  refine Go_newa_i (n := 29) (len := 7) (q := 234) (stF := fun ad => [.ref (ad (0))]) (lvF := fun ad => [(0, .ref (ad (0)))]) C55 wm_3_6 (by decide) rfl (by decide) kM_29.2 hI rfl rfl (fun adz hz => by have g0 : adz (0) = ad224 (0) := hz (0) (by omega); simp only [g0]) (fun adz hz => by have g0 : adz (0) = ad224 (0) := hz (0) (by omega); simp only [g0]) (by exact Nat.le_of_ble_eq_true rfl) (by exact Nat.le_of_ble_eq_true rfl) dX12_init_232 rfl (fun ad232 hag232 hI => ?_)
  have hag : ∀ i, i < 1 → ad232 i = Gad G i := fun i hi => (hag232 i (by omega)).trans (hag i hi)
  have C57 : Cx (gset G ad232 (30) (29) (2379)) cX12_init BIG RX12 1 none rm_X12_init shM (30) := Cx_gset C (by exact Nat.le_of_ble_eq_true rfl) (by exact Nat.le_of_ble_eq_true rfl)
  show Go (gset G ad232 (30) (29) (2379)) 1 _ [.ref (ad232 (29)), .ref (ad232 (0))] [(0, .ref (ad232 (0)))] S226_56
  refine Go_putF (k := 52) (q := 237) C57 hQ.2 ci12 iw_12 (okn kM_0 (by omega)) rfl wm_14_1 rfl rfl rfl (ci12.2.2.2.1 52 (by decide)) rfl rfl dX12_init_234 rfl (fun S234_58 e_S234_58 => ?_)
  have hw := hw S234_58 e_S234_58
  have hI := irR e_S234_58 (by omega) (by omega) hI
  refine Go_aload_n (q := 238) C57 0 rfl dX12_init_237 rfl ?_
  refine Go_bipush (q := 240) (v := (7 : Int32)) C57 dX12_init_238 rfl rfl ?_
  refine Go_newa_i (n := 30) (len := 7) (q := 242) (stF := fun ad => [.ref (ad (0))]) (lvF := fun ad => [(0, .ref (ad (0)))]) C57 wm_3_6 (by decide) rfl (by decide) kM_30.2 hI rfl rfl (fun adz hz => by have g0 : adz (0) = ad232 (0) := hz (0) (by omega); simp only [g0]) (fun adz hz => by have g0 : adz (0) = ad232 (0) := hz (0) (by omega); simp only [g0]) (by exact Nat.le_of_ble_eq_true rfl) (by exact Nat.le_of_ble_eq_true rfl) dX12_init_240 rfl (fun ad240 hag240 hI => ?_)
  have hag : ∀ i, i < 1 → ad240 i = Gad G i := fun i hi => (hag240 i (by omega)).trans (hag i hi)
  have C59 : Cx (gset G ad240 (31) (30) (2386)) cX12_init BIG RX12 1 none rm_X12_init shM (31) := Cx_gset C (by exact Nat.le_of_ble_eq_true rfl) (by exact Nat.le_of_ble_eq_true rfl)
  show Go (gset G ad240 (31) (30) (2386)) 1 _ [.ref (ad240 (30)), .ref (ad240 (0))] [(0, .ref (ad240 (0)))] S234_58
  refine Go_putF (k := 53) (q := 245) C59 hQ.2 ci12 iw_12 (okn kM_0 (by omega)) rfl wm_14_2 rfl rfl rfl (ci12.2.2.2.1 53 (by decide)) rfl rfl dX12_init_242 rfl (fun S242_60 e_S242_60 => ?_)
  have hw := hw S242_60 e_S242_60
  have hI := irR e_S242_60 (by omega) (by omega) hI
  refine Go_aload_n (q := 246) C59 0 rfl dX12_init_245 rfl ?_
  refine Go_bipush (q := 248) (v := (7 : Int32)) C59 dX12_init_246 rfl rfl ?_
  refine Go_newa_i (n := 31) (len := 7) (q := 250) (stF := fun ad => [.ref (ad (0))]) (lvF := fun ad => [(0, .ref (ad (0)))]) C59 wm_3_6 (by decide) rfl (by decide) kM_31.2 hI rfl rfl (fun adz hz => by have g0 : adz (0) = ad240 (0) := hz (0) (by omega); simp only [g0]) (fun adz hz => by have g0 : adz (0) = ad240 (0) := hz (0) (by omega); simp only [g0]) (by exact Nat.le_of_ble_eq_true rfl) (by exact Nat.le_of_ble_eq_true rfl) dX12_init_248 rfl (fun ad248 hag248 hI => ?_)
  have hag : ∀ i, i < 1 → ad248 i = Gad G i := fun i hi => (hag248 i (by omega)).trans (hag i hi)
  have C61 : Cx (gset G ad248 (32) (31) (2393)) cX12_init BIG RX12 1 none rm_X12_init shM (32) := Cx_gset C (by exact Nat.le_of_ble_eq_true rfl) (by exact Nat.le_of_ble_eq_true rfl)
  show Go (gset G ad248 (32) (31) (2393)) 1 _ [.ref (ad248 (31)), .ref (ad248 (0))] [(0, .ref (ad248 (0)))] S242_60
  refine Go_putF (k := 54) (q := 253) C61 hQ.2 ci12 iw_12 (okn kM_0 (by omega)) rfl wm_14_3 rfl rfl rfl (ci12.2.2.2.1 54 (by decide)) rfl rfl dX12_init_250 rfl (fun S250_62 e_S250_62 => ?_)
  have hw := hw S250_62 e_S250_62
  have hI := irR e_S250_62 (by omega) (by omega) hI
  refine Go_aload_n (q := 254) C61 0 rfl dX12_init_253 rfl ?_
  refine Go_bipush (q := 256) (v := (20 : Int32)) C61 dX12_init_254 rfl rfl ?_
  refine Go_newa_i (n := 32) (len := 20) (q := 258) (stF := fun ad => [.ref (ad (0))]) (lvF := fun ad => [(0, .ref (ad (0)))]) C61 wm_3_6 (by decide) rfl (by decide) kM_32.2 hI rfl rfl (fun adz hz => by have g0 : adz (0) = ad248 (0) := hz (0) (by omega); simp only [g0]) (fun adz hz => by have g0 : adz (0) = ad248 (0) := hz (0) (by omega); simp only [g0]) (by exact Nat.le_of_ble_eq_true rfl) (by exact Nat.le_of_ble_eq_true rfl) dX12_init_256 rfl (fun ad256 hag256 hI => ?_)
  have hag : ∀ i, i < 1 → ad256 i = Gad G i := fun i hi => (hag256 i (by omega)).trans (hag i hi)
  have C63 : Cx (gset G ad256 (33) (32) (2413)) cX12_init BIG RX12 1 none rm_X12_init shM (33) := Cx_gset C (by exact Nat.le_of_ble_eq_true rfl) (by exact Nat.le_of_ble_eq_true rfl)
  show Go (gset G ad256 (33) (32) (2413)) 1 _ [.ref (ad256 (32)), .ref (ad256 (0))] [(0, .ref (ad256 (0)))] S250_62
  refine Go_putF (k := 55) (q := 261) C63 hQ.2 ci12 iw_12 (okn kM_0 (by omega)) rfl wm_14_4 rfl rfl rfl (ci12.2.2.2.1 55 (by decide)) rfl rfl dX12_init_258 rfl (fun S258_64 e_S258_64 => ?_)
  have hw := hw S258_64 e_S258_64
  have hI := irR e_S258_64 (by omega) (by omega) hI
  refine Go_aload_n (q := 262) C63 0 rfl dX12_init_261 rfl ?_
  refine Go_bipush (q := 264) (v := (12 : Int32)) C63 dX12_init_262 rfl rfl ?_
  refine Go_newa_i (n := 33) (len := 12) (q := 266) (stF := fun ad => [.ref (ad (0))]) (lvF := fun ad => [(0, .ref (ad (0)))]) C63 wm_3_6 (by decide) rfl (by decide) kM_33.2 hI rfl rfl (fun adz hz => by have g0 : adz (0) = ad256 (0) := hz (0) (by omega); simp only [g0]) (fun adz hz => by have g0 : adz (0) = ad256 (0) := hz (0) (by omega); simp only [g0]) (by exact Nat.le_of_ble_eq_true rfl) (by exact Nat.le_of_ble_eq_true rfl) dX12_init_264 rfl (fun ad264 hag264 hI => ?_)
  have hag : ∀ i, i < 1 → ad264 i = Gad G i := fun i hi => (hag264 i (by omega)).trans (hag i hi)
  have C65 : Cx (gset G ad264 (34) (33) (2425)) cX12_init BIG RX12 1 none rm_X12_init shM (34) := Cx_gset C (by exact Nat.le_of_ble_eq_true rfl) (by exact Nat.le_of_ble_eq_true rfl)
  show Go (gset G ad264 (34) (33) (2425)) 1 _ [.ref (ad264 (33)), .ref (ad264 (0))] [(0, .ref (ad264 (0)))] S258_64
  refine Go_putF (k := 56) (q := 269) C65 hQ.2 ci12 iw_12 (okn kM_0 (by omega)) rfl wm_14_5 rfl rfl rfl (ci12.2.2.2.1 56 (by decide)) rfl rfl dX12_init_266 rfl (fun S266_66 e_S266_66 => ?_)
  have hw := hw S266_66 e_S266_66
  have hI := irR e_S266_66 (by omega) (by omega) hI
  refine Go_aload_n (q := 270) C65 0 rfl dX12_init_269 rfl ?_
  refine Go_bipush (q := 272) (v := (12 : Int32)) C65 dX12_init_270 rfl rfl ?_
  refine Go_newa_i (n := 34) (len := 12) (q := 274) (stF := fun ad => [.ref (ad (0))]) (lvF := fun ad => [(0, .ref (ad (0)))]) C65 wm_3_6 (by decide) rfl (by decide) kM_34.2 hI rfl rfl (fun adz hz => by have g0 : adz (0) = ad264 (0) := hz (0) (by omega); simp only [g0]) (fun adz hz => by have g0 : adz (0) = ad264 (0) := hz (0) (by omega); simp only [g0]) (by exact Nat.le_of_ble_eq_true rfl) (by exact Nat.le_of_ble_eq_true rfl) dX12_init_272 rfl (fun ad272 hag272 hI => ?_)
  have hag : ∀ i, i < 1 → ad272 i = Gad G i := fun i hi => (hag272 i (by omega)).trans (hag i hi)
  have C67 : Cx (gset G ad272 (35) (34) (2437)) cX12_init BIG RX12 1 none rm_X12_init shM (35) := Cx_gset C (by exact Nat.le_of_ble_eq_true rfl) (by exact Nat.le_of_ble_eq_true rfl)
  show Go (gset G ad272 (35) (34) (2437)) 1 _ [.ref (ad272 (34)), .ref (ad272 (0))] [(0, .ref (ad272 (0)))] S266_66
  refine Go_putF (k := 57) (q := 277) C67 hQ.2 ci12 iw_12 (okn kM_0 (by omega)) rfl wm_14_6 rfl rfl rfl (ci12.2.2.2.1 57 (by decide)) rfl rfl dX12_init_274 rfl (fun S274_68 e_S274_68 => ?_)
  have hw := hw S274_68 e_S274_68
  have hI := irR e_S274_68 (by omega) (by omega) hI
  refine Go_aload_n (q := 278) C67 0 rfl dX12_init_277 rfl ?_
  refine Go_sipush (q := 281) (v := (200 : Int32)) C67 dX12_init_278 rfl rfl ?_
  refine Go_newa_z (n := 35) (len := 200) (q := 283) (stF := fun ad => [.ref (ad (0))]) (lvF := fun ad => [(0, .ref (ad (0)))]) C67 wm_13_4 (by decide) rfl (by decide) kM_35.2 hI rfl rfl (fun adz hz => by have g0 : adz (0) = ad272 (0) := hz (0) (by omega); simp only [g0]) (fun adz hz => by have g0 : adz (0) = ad272 (0) := hz (0) (by omega); simp only [g0]) (by exact Nat.le_of_ble_eq_true rfl) (by exact Nat.le_of_ble_eq_true rfl) dX12_init_281 rfl (fun ad281 hag281 hI => ?_)
  have hag : ∀ i, i < 1 → ad281 i = Gad G i := fun i hi => (hag281 i (by omega)).trans (hag i hi)
  have C69 : Cx (gset G ad281 (36) (35) (2637)) cX12_init BIG RX12 1 none rm_X12_init shM (36) := Cx_gset C (by exact Nat.le_of_ble_eq_true rfl) (by exact Nat.le_of_ble_eq_true rfl)
  show Go (gset G ad281 (36) (35) (2637)) 1 _ [.ref (ad281 (35)), .ref (ad281 (0))] [(0, .ref (ad281 (0)))] S274_68
  refine Go_putF (k := 58) (q := 286) C69 hQ.2 ci12 iw_12 (okn kM_0 (by omega)) rfl wm_14_7 rfl rfl rfl (ci12.2.2.2.1 58 (by decide)) rfl rfl dX12_init_283 rfl (fun S283_70 e_S283_70 => ?_)
  have hw := hw S283_70 e_S283_70
  have hI := irR e_S283_70 (by omega) (by omega) hI
  refine Go_aload_n (q := 287) C69 0 rfl dX12_init_286 rfl ?_
  refine Go_sipush (q := 290) (v := (201 : Int32)) C69 dX12_init_287 rfl rfl ?_
  refine Go_newa_i (n := 36) (len := 201) (q := 292) (stF := fun ad => [.ref (ad (0))]) (lvF := fun ad => [(0, .ref (ad (0)))]) C69 wm_3_6 (by decide) rfl (by decide) kM_36.2 hI rfl rfl (fun adz hz => by have g0 : adz (0) = ad281 (0) := hz (0) (by omega); simp only [g0]) (fun adz hz => by have g0 : adz (0) = ad281 (0) := hz (0) (by omega); simp only [g0]) (by exact Nat.le_of_ble_eq_true rfl) (by exact Nat.le_of_ble_eq_true rfl) dX12_init_290 rfl (fun ad290 hag290 hI => ?_)
  have hag : ∀ i, i < 1 → ad290 i = Gad G i := fun i hi => (hag290 i (by omega)).trans (hag i hi)
  have C71 : Cx (gset G ad290 (37) (36) (2838)) cX12_init BIG RX12 1 none rm_X12_init shM (37) := Cx_gset C (by exact Nat.le_of_ble_eq_true rfl) (by exact Nat.le_of_ble_eq_true rfl)
  show Go (gset G ad290 (37) (36) (2838)) 1 _ [.ref (ad290 (36)), .ref (ad290 (0))] [(0, .ref (ad290 (0)))] S283_70
  refine Go_putF (k := 59) (q := 295) C71 hQ.2 ci12 iw_12 (okn kM_0 (by omega)) rfl wm_14_8 rfl rfl rfl (ci12.2.2.2.1 59 (by decide)) rfl rfl dX12_init_292 rfl (fun S292_72 e_S292_72 => ?_)
  have hw := hw S292_72 e_S292_72
  have hI := irR e_S292_72 (by omega) (by omega) hI
  refine Go_aload_n (q := 296) C71 0 rfl dX12_init_295 rfl ?_
  refine Go_bipush (q := 298) (v := (12 : Int32)) C71 dX12_init_296 rfl rfl ?_
  refine Go_newa_i (n := 37) (len := 12) (q := 300) (stF := fun ad => [.ref (ad (0))]) (lvF := fun ad => [(0, .ref (ad (0)))]) C71 wm_3_6 (by decide) rfl (by decide) kM_37.2 hI rfl rfl (fun adz hz => by have g0 : adz (0) = ad290 (0) := hz (0) (by omega); simp only [g0]) (fun adz hz => by have g0 : adz (0) = ad290 (0) := hz (0) (by omega); simp only [g0]) (by exact Nat.le_of_ble_eq_true rfl) (by exact Nat.le_of_ble_eq_true rfl) dX12_init_298 rfl (fun ad298 hag298 hI => ?_)
  have hag : ∀ i, i < 1 → ad298 i = Gad G i := fun i hi => (hag298 i (by omega)).trans (hag i hi)
  have C73 : Cx (gset G ad298 (38) (37) (2850)) cX12_init BIG RX12 1 none rm_X12_init shM (38) := Cx_gset C (by exact Nat.le_of_ble_eq_true rfl) (by exact Nat.le_of_ble_eq_true rfl)
  show Go (gset G ad298 (38) (37) (2850)) 1 _ [.ref (ad298 (37)), .ref (ad298 (0))] [(0, .ref (ad298 (0)))] S292_72
  refine Go_putF (k := 60) (q := 303) C73 hQ.2 ci12 iw_12 (okn kM_0 (by omega)) rfl wm_14_9 rfl rfl rfl (ci12.2.2.2.1 60 (by decide)) rfl rfl dX12_init_300 rfl (fun S300_74 e_S300_74 => ?_)
  have hw := hw S300_74 e_S300_74
  have hI := irR e_S300_74 (by omega) (by omega) hI
  refine Go_aload_n (q := 304) C73 0 rfl dX12_init_303 rfl ?_
  refine Go_sipush (q := 307) (v := (144 : Int32)) C73 dX12_init_304 rfl rfl ?_
  refine Go_newa_z (n := 38) (len := 144) (q := 309) (stF := fun ad => [.ref (ad (0))]) (lvF := fun ad => [(0, .ref (ad (0)))]) C73 wm_13_4 (by decide) rfl (by decide) kM_38.2 hI rfl rfl (fun adz hz => by have g0 : adz (0) = ad298 (0) := hz (0) (by omega); simp only [g0]) (fun adz hz => by have g0 : adz (0) = ad298 (0) := hz (0) (by omega); simp only [g0]) (by exact Nat.le_of_ble_eq_true rfl) (by exact Nat.le_of_ble_eq_true rfl) dX12_init_307 rfl (fun ad307 hag307 hI => ?_)
  have hag : ∀ i, i < 1 → ad307 i = Gad G i := fun i hi => (hag307 i (by omega)).trans (hag i hi)
  have C75 : Cx (gset G ad307 (39) (38) (2994)) cX12_init BIG RX12 1 none rm_X12_init shM (39) := Cx_gset C (by exact Nat.le_of_ble_eq_true rfl) (by exact Nat.le_of_ble_eq_true rfl)
  show Go (gset G ad307 (39) (38) (2994)) 1 _ [.ref (ad307 (38)), .ref (ad307 (0))] [(0, .ref (ad307 (0)))] S300_74
  refine Go_putF (k := 61) (q := 312) C75 hQ.2 ci12 iw_12 (okn kM_0 (by omega)) rfl wm_14_10 rfl rfl rfl (ci12.2.2.2.1 61 (by decide)) rfl rfl dX12_init_309 rfl (fun S309_76 e_S309_76 => ?_)
  have hw := hw S309_76 e_S309_76
  have hI := irR e_S309_76 (by omega) (by omega) hI
  refine Go_aload_n (q := 313) C75 0 rfl dX12_init_312 rfl ?_
  refine Go_bipush (q := 315) (v := (12 : Int32)) C75 dX12_init_313 rfl rfl ?_
  refine Go_newa_i (n := 39) (len := 12) (q := 317) (stF := fun ad => [.ref (ad (0))]) (lvF := fun ad => [(0, .ref (ad (0)))]) C75 wm_3_6 (by decide) rfl (by decide) kM_39.2 hI rfl rfl (fun adz hz => by have g0 : adz (0) = ad307 (0) := hz (0) (by omega); simp only [g0]) (fun adz hz => by have g0 : adz (0) = ad307 (0) := hz (0) (by omega); simp only [g0]) (by exact Nat.le_of_ble_eq_true rfl) (by exact Nat.le_of_ble_eq_true rfl) dX12_init_315 rfl (fun ad315 hag315 hI => ?_)
  have hag : ∀ i, i < 1 → ad315 i = Gad G i := fun i hi => (hag315 i (by omega)).trans (hag i hi)
  have C77 : Cx (gset G ad315 (40) (39) (3006)) cX12_init BIG RX12 1 none rm_X12_init shM (40) := Cx_gset C (by exact Nat.le_of_ble_eq_true rfl) (by exact Nat.le_of_ble_eq_true rfl)
  show Go (gset G ad315 (40) (39) (3006)) 1 _ [.ref (ad315 (39)), .ref (ad315 (0))] [(0, .ref (ad315 (0)))] S309_76
  refine Go_putF (k := 62) (q := 320) C77 hQ.2 ci12 iw_12 (okn kM_0 (by omega)) rfl wm_14_11 rfl rfl rfl (ci12.2.2.2.1 62 (by decide)) rfl rfl dX12_init_317 rfl (fun S317_78 e_S317_78 => ?_)
  have hw := hw S317_78 e_S317_78
  have hI := irR e_S317_78 (by omega) (by omega) hI
  refine Go_aload_n (q := 321) C77 0 rfl dX12_init_320 rfl ?_
  refine Go_bipush (q := 323) (v := (12 : Int32)) C77 dX12_init_321 rfl rfl ?_
  refine Go_newa_i (n := 40) (len := 12) (q := 325) (stF := fun ad => [.ref (ad (0))]) (lvF := fun ad => [(0, .ref (ad (0)))]) C77 wm_3_6 (by decide) rfl (by decide) kM_40.2 hI rfl rfl (fun adz hz => by have g0 : adz (0) = ad315 (0) := hz (0) (by omega); simp only [g0]) (fun adz hz => by have g0 : adz (0) = ad315 (0) := hz (0) (by omega); simp only [g0]) (by exact Nat.le_of_ble_eq_true rfl) (by exact Nat.le_of_ble_eq_true rfl) dX12_init_323 rfl (fun ad323 hag323 hI => ?_)
  have hag : ∀ i, i < 1 → ad323 i = Gad G i := fun i hi => (hag323 i (by omega)).trans (hag i hi)
  have C79 : Cx (gset G ad323 (41) (40) (3018)) cX12_init BIG RX12 1 none rm_X12_init shM (41) := Cx_gset C (by exact Nat.le_of_ble_eq_true rfl) (by exact Nat.le_of_ble_eq_true rfl)
  show Go (gset G ad323 (41) (40) (3018)) 1 _ [.ref (ad323 (40)), .ref (ad323 (0))] [(0, .ref (ad323 (0)))] S317_78
  refine Go_putF (k := 63) (q := 328) C79 hQ.2 ci12 iw_12 (okn kM_0 (by omega)) rfl wm_14_12 rfl rfl rfl (ci12.2.2.2.1 63 (by decide)) rfl rfl dX12_init_325 rfl (fun S325_80 e_S325_80 => ?_)
  have hw := hw S325_80 e_S325_80
  have hI := irR e_S325_80 (by omega) (by omega) hI
  refine Go_aload_n (q := 329) C79 0 rfl dX12_init_328 rfl ?_
  refine Go_bipush (q := 331) (v := (60 : Int32)) C79 dX12_init_329 rfl rfl ?_
  refine Go_newa_i (n := 41) (len := 60) (q := 333) (stF := fun ad => [.ref (ad (0))]) (lvF := fun ad => [(0, .ref (ad (0)))]) C79 wm_3_6 (by decide) rfl (by decide) kM_41.2 hI rfl rfl (fun adz hz => by have g0 : adz (0) = ad323 (0) := hz (0) (by omega); simp only [g0]) (fun adz hz => by have g0 : adz (0) = ad323 (0) := hz (0) (by omega); simp only [g0]) (by exact Nat.le_of_ble_eq_true rfl) (by exact Nat.le_of_ble_eq_true rfl) dX12_init_331 rfl (fun ad331 hag331 hI => ?_)
  have hag : ∀ i, i < 1 → ad331 i = Gad G i := fun i hi => (hag331 i (by omega)).trans (hag i hi)
  have C81 : Cx (gset G ad331 (42) (41) (3078)) cX12_init BIG RX12 1 none rm_X12_init shM (42) := Cx_gset C (by exact Nat.le_of_ble_eq_true rfl) (by exact Nat.le_of_ble_eq_true rfl)
  show Go (gset G ad331 (42) (41) (3078)) 1 _ [.ref (ad331 (41)), .ref (ad331 (0))] [(0, .ref (ad331 (0)))] S325_80
  refine Go_putF (k := 66) (q := 336) C81 hQ.2 ci12 iw_12 (okn kM_0 (by omega)) rfl wm_14_13 rfl rfl rfl (ci12.2.2.2.1 66 (by decide)) rfl rfl dX12_init_333 rfl (fun S333_82 e_S333_82 => ?_)
  have hw := hw S333_82 e_S333_82
  have hI := irR e_S333_82 (by omega) (by omega) hI
  refine Go_aload_n (q := 337) C81 0 rfl dX12_init_336 rfl ?_
  refine Go_bipush (q := 339) (v := (60 : Int32)) C81 dX12_init_337 rfl rfl ?_
  refine Go_newa_i (n := 42) (len := 60) (q := 341) (stF := fun ad => [.ref (ad (0))]) (lvF := fun ad => [(0, .ref (ad (0)))]) C81 wm_3_6 (by decide) rfl (by decide) kM_42.2 hI rfl rfl (fun adz hz => by have g0 : adz (0) = ad331 (0) := hz (0) (by omega); simp only [g0]) (fun adz hz => by have g0 : adz (0) = ad331 (0) := hz (0) (by omega); simp only [g0]) (by exact Nat.le_of_ble_eq_true rfl) (by exact Nat.le_of_ble_eq_true rfl) dX12_init_339 rfl (fun ad339 hag339 hI => ?_)
  have hag : ∀ i, i < 1 → ad339 i = Gad G i := fun i hi => (hag339 i (by omega)).trans (hag i hi)
  have C83 : Cx (gset G ad339 (43) (42) (3138)) cX12_init BIG RX12 1 none rm_X12_init shM (43) := Cx_gset C (by exact Nat.le_of_ble_eq_true rfl) (by exact Nat.le_of_ble_eq_true rfl)
  show Go (gset G ad339 (43) (42) (3138)) 1 _ [.ref (ad339 (42)), .ref (ad339 (0))] [(0, .ref (ad339 (0)))] S333_82
  refine Go_putF (k := 67) (q := 344) C83 hQ.2 ci12 iw_12 (okn kM_0 (by omega)) rfl wm_14_14 rfl rfl rfl (ci12.2.2.2.1 67 (by decide)) rfl rfl dX12_init_341 rfl (fun S341_84 e_S341_84 => ?_)
  have hw := hw S341_84 e_S341_84
  have hI := irR e_S341_84 (by omega) (by omega) hI
  refine Go_aload_n (q := 345) C83 0 rfl dX12_init_344 rfl ?_
  refine Go_bipush (q := 347) (v := (60 : Int32)) C83 dX12_init_345 rfl rfl ?_
  refine Go_newa_i (n := 43) (len := 60) (q := 349) (stF := fun ad => [.ref (ad (0))]) (lvF := fun ad => [(0, .ref (ad (0)))]) C83 wm_3_6 (by decide) rfl (by decide) kM_43.2 hI rfl rfl (fun adz hz => by have g0 : adz (0) = ad339 (0) := hz (0) (by omega); simp only [g0]) (fun adz hz => by have g0 : adz (0) = ad339 (0) := hz (0) (by omega); simp only [g0]) (by exact Nat.le_of_ble_eq_true rfl) (by exact Nat.le_of_ble_eq_true rfl) dX12_init_347 rfl (fun ad347 hag347 hI => ?_)
  have hag : ∀ i, i < 1 → ad347 i = Gad G i := fun i hi => (hag347 i (by omega)).trans (hag i hi)
  have C85 : Cx (gset G ad347 (44) (43) (3198)) cX12_init BIG RX12 1 none rm_X12_init shM (44) := Cx_gset C (by exact Nat.le_of_ble_eq_true rfl) (by exact Nat.le_of_ble_eq_true rfl)
  show Go (gset G ad347 (44) (43) (3198)) 1 _ [.ref (ad347 (43)), .ref (ad347 (0))] [(0, .ref (ad347 (0)))] S341_84
  refine Go_putF (k := 68) (q := 352) C85 hQ.2 ci12 iw_12 (okn kM_0 (by omega)) rfl wm_14_15 rfl rfl rfl (ci12.2.2.2.1 68 (by decide)) rfl rfl dX12_init_349 rfl (fun S349_86 e_S349_86 => ?_)
  have hw := hw S349_86 e_S349_86
  have hI := irR e_S349_86 (by omega) (by omega) hI
  refine Go_aload_n (q := 353) C85 0 rfl dX12_init_352 rfl ?_
  refine Go_sipush (q := 356) (v := (144 : Int32)) C85 dX12_init_353 rfl rfl ?_
  refine Go_newa_i (n := 44) (len := 144) (q := 358) (stF := fun ad => [.ref (ad (0))]) (lvF := fun ad => [(0, .ref (ad (0)))]) C85 wm_3_6 (by decide) rfl (by decide) kM_44.2 hI rfl rfl (fun adz hz => by have g0 : adz (0) = ad347 (0) := hz (0) (by omega); simp only [g0]) (fun adz hz => by have g0 : adz (0) = ad347 (0) := hz (0) (by omega); simp only [g0]) (by exact Nat.le_of_ble_eq_true rfl) (by exact Nat.le_of_ble_eq_true rfl) dX12_init_356 rfl (fun ad356 hag356 hI => ?_)
  have hag : ∀ i, i < 1 → ad356 i = Gad G i := fun i hi => (hag356 i (by omega)).trans (hag i hi)
  have C87 : Cx (gset G ad356 (45) (44) (3342)) cX12_init BIG RX12 1 none rm_X12_init shM (45) := Cx_gset C (by exact Nat.le_of_ble_eq_true rfl) (by exact Nat.le_of_ble_eq_true rfl)
  show Go (gset G ad356 (45) (44) (3342)) 1 _ [.ref (ad356 (44)), .ref (ad356 (0))] [(0, .ref (ad356 (0)))] S349_86
  refine Go_putF (k := 69) (q := 361) C87 hQ.2 ci12 iw_12 (okn kM_0 (by omega)) rfl wm_14_16 rfl rfl rfl (ci12.2.2.2.1 69 (by decide)) rfl rfl dX12_init_358 rfl (fun S358_88 e_S358_88 => ?_)
  have hw := hw S358_88 e_S358_88
  have hI := irR e_S358_88 (by omega) (by omega) hI
  refine Go_aload_n (q := 362) C87 0 rfl dX12_init_361 rfl ?_
  refine Go_iconst (q := 363) (v := (4 : Int32)) C87 dX12_init_362 rfl rfl ?_
  refine Go_newa_z (n := 45) (len := 4) (q := 365) (stF := fun ad => [.ref (ad (0))]) (lvF := fun ad => [(0, .ref (ad (0)))]) C87 wm_13_4 (by decide) rfl (by decide) kM_45.2 hI rfl rfl (fun adz hz => by have g0 : adz (0) = ad356 (0) := hz (0) (by omega); simp only [g0]) (fun adz hz => by have g0 : adz (0) = ad356 (0) := hz (0) (by omega); simp only [g0]) (by exact Nat.le_of_ble_eq_true rfl) (by exact Nat.le_of_ble_eq_true rfl) dX12_init_363 rfl (fun ad363 hag363 hI => ?_)
  have hag : ∀ i, i < 1 → ad363 i = Gad G i := fun i hi => (hag363 i (by omega)).trans (hag i hi)
  have C89 : Cx (gset G ad363 (46) (45) (3346)) cX12_init BIG RX12 1 none rm_X12_init shM (46) := Cx_gset C (by exact Nat.le_of_ble_eq_true rfl) (by exact Nat.le_of_ble_eq_true rfl)
  show Go (gset G ad363 (46) (45) (3346)) 1 _ [.ref (ad363 (45)), .ref (ad363 (0))] [(0, .ref (ad363 (0)))] S358_88
  refine Go_putF (k := 71) (q := 368) C89 hQ.2 ci12 iw_12 (okn kM_0 (by omega)) rfl wm_14_17 rfl rfl rfl (ci12.2.2.2.1 71 (by decide)) rfl rfl dX12_init_365 rfl (fun S365_90 e_S365_90 => ?_)
  have hw := hw S365_90 e_S365_90
  have hI := irR e_S365_90 (by omega) (by omega) hI
  refine Go_aload_n (q := 369) C89 0 rfl dX12_init_368 rfl ?_
  refine Go_sipush (q := 372) (v := (2000 : Int32)) C89 dX12_init_369 rfl rfl ?_
  refine Go_newa_i (n := 46) (len := 2000) (q := 374) (stF := fun ad => [.ref (ad (0))]) (lvF := fun ad => [(0, .ref (ad (0)))]) C89 wm_3_6 (by decide) rfl (by decide) kM_46.2 hI rfl rfl (fun adz hz => by have g0 : adz (0) = ad363 (0) := hz (0) (by omega); simp only [g0]) (fun adz hz => by have g0 : adz (0) = ad363 (0) := hz (0) (by omega); simp only [g0]) (by exact Nat.le_of_ble_eq_true rfl) (by exact Nat.le_of_ble_eq_true rfl) dX12_init_372 rfl (fun ad372 hag372 hI => ?_)
  have hag : ∀ i, i < 1 → ad372 i = Gad G i := fun i hi => (hag372 i (by omega)).trans (hag i hi)
  have C91 : Cx (gset G ad372 (47) (46) (5346)) cX12_init BIG RX12 1 none rm_X12_init shM (47) := Cx_gset C (by exact Nat.le_of_ble_eq_true rfl) (by exact Nat.le_of_ble_eq_true rfl)
  show Go (gset G ad372 (47) (46) (5346)) 1 _ [.ref (ad372 (46)), .ref (ad372 (0))] [(0, .ref (ad372 (0)))] S365_90
  refine Go_putF (k := 72) (q := 377) C91 hQ.2 ci12 iw_12 (okn kM_0 (by omega)) rfl wm_14_18 rfl rfl rfl (ci12.2.2.2.1 72 (by decide)) rfl rfl dX12_init_374 rfl (fun S374_92 e_S374_92 => ?_)
  have hw := hw S374_92 e_S374_92
  have hI := irR e_S374_92 (by omega) (by omega) hI
  refine Go_aload_n (q := 378) C91 0 rfl dX12_init_377 rfl ?_
  refine Go_bipush (q := 380) (v := (12 : Int32)) C91 dX12_init_378 rfl rfl ?_
  refine Go_newa_i (n := 47) (len := 12) (q := 382) (stF := fun ad => [.ref (ad (0))]) (lvF := fun ad => [(0, .ref (ad (0)))]) C91 wm_3_6 (by decide) rfl (by decide) kM_47.2 hI rfl rfl (fun adz hz => by have g0 : adz (0) = ad372 (0) := hz (0) (by omega); simp only [g0]) (fun adz hz => by have g0 : adz (0) = ad372 (0) := hz (0) (by omega); simp only [g0]) (by exact Nat.le_of_ble_eq_true rfl) (by exact Nat.le_of_ble_eq_true rfl) dX12_init_380 rfl (fun ad380 hag380 hI => ?_)
  have hag : ∀ i, i < 1 → ad380 i = Gad G i := fun i hi => (hag380 i (by omega)).trans (hag i hi)
  have C93 : Cx (gset G ad380 (48) (47) (5358)) cX12_init BIG RX12 1 none rm_X12_init shM (48) := Cx_gset C (by exact Nat.le_of_ble_eq_true rfl) (by exact Nat.le_of_ble_eq_true rfl)
  show Go (gset G ad380 (48) (47) (5358)) 1 _ [.ref (ad380 (47)), .ref (ad380 (0))] [(0, .ref (ad380 (0)))] S374_92
  refine Go_putF (k := 74) (q := 385) C93 hQ.2 ci12 iw_12 (okn kM_0 (by omega)) rfl wm_14_19 rfl rfl rfl (ci12.2.2.2.1 74 (by decide)) rfl rfl dX12_init_382 rfl (fun S382_94 e_S382_94 => ?_)
  have hw := hw S382_94 e_S382_94
  have hI := irR e_S382_94 (by omega) (by omega) hI
  refine Go_aload_n (q := 386) C93 0 rfl dX12_init_385 rfl ?_
  refine Go_iconst (q := 387) (v := (1 : Int32)) C93 dX12_init_386 rfl rfl ?_
  refine Go_putI (k := 10) (q := 390) C93 ci12 iw_12 (okn kM_0 (by omega)) rfl wm_14_20 rfl rfl (ci12.2.2.2.1 10 (by decide)) rfl rfl dX12_init_387 rfl ?_
  refine Go_S (fun S387_95 e_S387_95 => ?_)
  have hw := hw S387_95 e_S387_95
  have hI := irI e_S387_95 (by omega) hI
  exact Go_retA C93 hQ hag hI hw (by exact Nat.le_of_ble_eq_true rfl) (by exact Nat.le_of_ble_eq_true rfl) dX12_init_390
