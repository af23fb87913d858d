/-! ===== the law's loop: judged; the loop ===== -/
set_option maxHeartbeats 1000000 in
theorem lc_18t {G0 : GC} {adE adM : Nat → Nat} {aO b L : Nat} {xs : Nat → Int32} {f : Nat → Int64} {S1 SM : St} {j k w : Nat} {kk : Int32} {Q : Int32 → St → Prop} (h : LC G0 b L xs j k w) (hkk : kk = 0 ∨ kk = 1) (hE : RCE S1) (hM : RCM SM) (hw : w_X12_judged (xs (7 * j + 1)) SM Q) (hQ : ∀ r S2, Q r S2 → gI S2 0 0 = kk ∧ (kk = 0 → f 0 = r.toInt64) ∧ RR S1 S2) (T : Tail G0 adE adM aO b (nI (7 * j)) k w) : Go (GE G0 adE adM aO f SM k w) 7 879 [] ((5, .int kk) :: lvL adE adM aO b (nI (7 * j))) S1 := by
  obtain ⟨⟨sh0, N0, CJ⟩, hX, hb, hA, hL, hj, hk, hws⟩ := h
  have CB := Cx_big CJ
  have CE : Cx (GE G0 adE adM aO f SM k w) code BIG RL 7 (some .boolean) room_1 shE NE := Cx_gw CB hk hws
  refine Go_toM (Nat.le_refl _) (Nat.le_refl _) ?_
  have CM : Cx (GM G0 adE adM aO f S1 k w) code BIG RL 7 (some .boolean) room_1 shM NM := Cx_gw CB hk hws
  refine Go_aload_n (q := 880) CM 3 rfl dL_law_879 rfl ?_
  refine Go_aload_n (q := 881) CM 1 rfl dL_law_880 rfl ?_
  refine Go_iload (q := 883) CM 5 rfl dL_law_881 rfl ?_
  refine Go_iconst (q := 884) (v := (1 : Int32)) CM dL_law_883 rfl rfl ?_
  refine Go_iadd (q := 885) CM dL_law_884 rfl ?_
  refine Go_sld (q := 886) CM hX hb hA (sx1 (7 * j)) (by omega) hL dL_law_885 rfl ?_
  refine Go_callV_I (av := fun ad => [.int (xs (7 * j + 1))]) (st := []) (C := CM) (hM := c_X12_judged (Gl G0) hM hw) (hlk := wm_45_6) (hini := wm_1_5) (hins := wm_45_7) (hsel := wm_45_8) (hcode := wm_45_9) (ho := kM_0) (hci := rfl) (hc13 := by decide) (n := 1) (hd := by decide +kernel) (hr0 := ⟨rfl, rfl⟩) (hroom := ⟨by decide +kernel, by decide +kernel⟩) (hlen := rfl) (hst := rfl) (hW := Nat.le_of_ble_eq_true rfl) (hdg := dL_law_886) (q := 889) (hq := rfl) (fun r S2 hq2 hM => ?_)
  obtain ⟨t1, t2, t3⟩ := hQ r S2 hq2
  refine Go_istore (q := 891) (lv' := (6, .int r) :: (5, .int kk) :: lvL adE adM aO b (nI (7 * j))) CM dL_law_889 (by decide) rfl rfl ?_
  refine Go_aload_n (q := 892) CM 4 rfl dL_law_891 rfl ?_
  refine Go_callV_I (Q1 := fun r9 S9 => r9 = kk ∧ S9 = S2) (av := fun ad => []) (st := []) (C := CM) (hM := c_X12_thrown (Gl G0) hM ⟨t1, rfl⟩) (hlk := wm_45_14) (hini := wm_1_5) (hins := wm_45_15) (hsel := wm_45_16) (hcode := wm_45_17) (ho := kM_0) (hci := rfl) (hc13 := by decide) (n := 0) (hd := by decide +kernel) (hr0 := ⟨rfl, rfl⟩) (hroom := ⟨by decide +kernel, by decide +kernel⟩) (hlen := rfl) (hst := rfl) (hW := Nat.le_of_ble_eq_true rfl) (hdg := dL_law_892) (q := 895) (hq := rfl) (fun r9 S9 h9 hM9 => ?_)
  obtain ⟨rfl, rfl⟩ := h9
  refine Go_iload (q := 897) CM 1 rfl dL_law_895 rfl ?_
  refine Go_icmp_eq (t := 902) (q := 900) CM dec_if dL_law_897 rfl rfl (fun _ => ?_) (fun hn => absurd rfl hn)
  refine Go_iload (q := 904) CM 1 rfl dL_law_902 rfl ?_
  have fin : Go (GM G0 adE adM aO f S1 k w) 7 919 [] ((6, .int r) :: (5, .int r9) :: lvL adE adM aO b (nI (7 * j))) S9 := by
    refine Go_goto (q := 1100) CM dL_law_919 rfl ?_
    refine Go_lvp [2, 3, 4, 5, 6] rfl ?_
    exact Go_toE (Nat.le_refl _) (Nat.le_refl _) (T _ _ _ t3 hE hM)
  refine Go_if_ne (t := 919) (q := 907) CM dec_if dL_law_904 rfl rfl ?_ ?_
  all_goals first
    | exact fun _ => fin
    | exact (fun z => by
        have z0 : r9 = 0 := by
          rcases hkk with z1 | z1
          · exact z1
          · exact (by first | exact z | exact absurd (by rw [z1]; decide) z | exact Classical.byContradiction (fun q => z q))
        refine Go_aload_n (q := 908) CM 5 rfl dL_law_907 rfl ?_
        refine Go_iconst (q := 909) (v := (0 : Int32)) CM dL_law_908 rfl rfl ?_
        refine Go_oload (q := 910) CM rfl dL_law_909 rfl ?_
        refine Go_iload (q := 912) CM 0 rfl dL_law_910 rfl ?_
        refine Go_i2l (q := 913) CM dL_law_912 rfl ?_
        exact Go_lcmp_eq (t := 919) (q := 914) (q2 := 917) CM dec_if dL_law_913 rfl dL_law_914 rfl rfl (fun _ => fin) (fun hn => absurd (t2 z0) hn))
set_option maxHeartbeats 1000000 in
theorem lc_18 {G0 : GC} {adE adM : Nat → Nat} {aO b L : Nat} {xs : Nat → Int32} {f : Nat → Int64} {SE SM : St} {j k w : Nat} (h : LC G0 b L xs j (k + 1) (w + 6)) (hfl : (Gl G0).stackTraces = false) (hJ : JX (GA G0) (Gs G0)) (hr : RR SE SM) (hE : RCE SE) (hM : RCM SM) (T : Tail G0 adE adM aO b (nI (7 * j)) (k + 1) (w + 6)) : Go (GE G0 adE adM aO f SM k w) 7 866 [] (lvL adE adM aO b (nI (7 * j))) SE := by
  have h9 := h
  obtain ⟨⟨sh0, N0, CJ⟩, hX, hb, hA, hL, hj, hk, hws⟩ := h
  have CB := Cx_big CJ
  have CE : Cx (GE G0 adE adM aO f SM k w) code BIG RL 7 (some .boolean) room_1 shE NE := Cx_gw CB (by show k ≤ 600128; omega) (by show w ≤ 7301098; omega)
  have CJE : Cx (GE G0 adE adM aO f SM k w) code wsJX RL 7 (some .boolean) room_1 shE NE := Cx_gw CJ (by show k ≤ 600128; omega) (by show w ≤ 7301098; omega)
  refine Go_aload_n (q := 867) CE 1 rfl dL_law_866 rfl ?_
  refine Go_aload_n (q := 868) CE 0 rfl dL_law_867 rfl ?_
  refine Go_iload (q := 870) CE 4 rfl dL_law_868 rfl ?_
  refine Go_iconst (q := 871) (v := (1 : Int32)) CE dL_law_870 rfl rfl ?_
  refine Go_iadd (q := 872) CE dL_law_871 rfl ?_
  refine Go_sld (q := 873) CE hX hb hA (sx1 (7 * j)) (by omega) hL dL_law_872 rfl ?_
  refine Go_aload_n (q := 874) CE 3 rfl dL_law_873 rfl ?_
  by_cases hz : xs (7 * j + 1) < 0 ∨ 1 < xs (7 * j + 1)
  · refine Go_LJX (q := 877) (st := []) CJE hfl rfl hz hE hJ (by decide +kernel) (by show k + 1 ≤ 600128; omega) (by show w + 6 ≤ 7301098; omega) (Nat.le_of_ble_eq_true rfl) dL_law_874 rfl ?_
    have CE' : Cx (GE G0 adE adM aO f SM (k + 1) (w + 6)) code BIG RL 7 (some .boolean) room_1 shE NE := Cx_gw CB hk hws
    show Go (GE G0 adE adM aO f SM (k + 1) (w + 6)) 7 877 [.int 1] _ _
    refine Go_istore (q := 879) (lv' := (5, .int 1) :: lvL adE adM aO b (nI (7 * j))) CE' dL_law_877 (by decide) rfl rfl ?_
    exact lc_18t h9 (Or.inr rfl) hE hM (c_judged1 hr hz) (fun r S2 q => ⟨q.1, fun z => absurd z (by decide), q.2⟩) T
  · have h0 : ¬ xs (7 * j + 1) < 0 := fun q => hz (Or.inl q)
    have h1 : xs (7 * j + 1) ≤ 1 := Int32.not_lt.mp (fun q => hz (Or.inr q))
    refine Go_LJ (q := 877) (st := []) CJE rfl h0 h1 hE (c_judged0 hr h0 h1) (by decide +kernel) (Nat.le_of_ble_eq_true rfl) dL_law_874 rfl (fun v S1 f' hv hE1 hf => ?_)
    show Go (GE G0 adE adM aO f' SM k w) 7 877 [.int 0] _ _
    refine Go_wide (Nat.le_succ k) (Nat.le_add_right w 6) ?_
    have CE' : Cx (GE G0 adE adM aO f' SM (k + 1) (w + 6)) code BIG RL 7 (some .boolean) room_1 shE NE := Cx_gw CB hk hws
    refine Go_istore (q := 879) (lv' := (5, .int 0) :: lvL adE adM aO b (nI (7 * j))) CE' dL_law_877 (by decide) rfl rfl ?_
    exact lc_18t h9 (Or.inl rfl) hE1 hM hv (fun r S2 q => ⟨q.1, fun _ => by rw [hf, q.2.1], q.2.2⟩) T
