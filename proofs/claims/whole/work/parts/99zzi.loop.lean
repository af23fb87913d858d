/-! ===== the law's loop and the law ===== -/
def tab15 (j : Nat) : List Cond := if j = 1 then tables_1_1 else tables_1_5
theorem tab15_in (j n : Nat) (w : Cond) (h : (tab15 j)[n]? = some w) : w ∈ lw_tbl := by
  unfold tab15 at h
  split at h
  · exact tt_1 _ (List.mem_of_getElem? h)
  · exact tt_5 _ (List.mem_of_getElem? h)
theorem zjW_eq : zjW = ([(1, 20), (5, 186), (5, 195), (5, 197), (5, 200), (5, 202), (5, 187), (5, 188), (1, 30), (1, 31), (5, 189), (5, 194), (5, 198), (5, 218), (5, 176), (5, 219), (5, 178), (5, 220), (5, 180), (5, 190), (5, 192), (5, 182), (5, 214), (5, 215), (5, 217), (5, 182), (5, 205), (5, 206), (5, 207), (5, 208), (5, 208), (5, 209), (5, 210), (5, 211), (5, 211), (5, 212), (5, 213), (5, 214), (5, 204), (5, 165), (5, 173), (5, 174), (5, 175), (5, 177), (5, 179), (5, 181), (5, 185), (5, 184), (5, 183)] : List (Nat × Nat)).filterMap (fun q => (tab15 q.1)[q.2]?) := by decide +kernel
theorem zj_tbl : ∀ w ∈ zjW, w ∈ lw_tbl := by
  intro w hw
  rw [zjW_eq] at hw
  obtain ⟨q, -, hq⟩ := List.mem_filterMap.mp hw
  exact tab15_in _ _ _ hq
theorem wsJX_tbl : ∀ w ∈ wsJX, w ∈ lw_tbl := fun w h => (List.mem_append.mp h).elim (BIG_tbl w) (zj_tbl w)
theorem nI_int {a : Nat} (h : a < 2 ^ 31) : (nI a).toInt = (a : Int) := Int32.toInt_ofNat_of_lt h
theorem loop_cond {L a : Nat} (hL : L ≤ 448) (ha : a ≤ 1000) : nI L - (7 : Int32) < nI a ↔ L < a + 7 := by
  rw [Int32.lt_iff_toInt_lt, Int32.toInt_sub, nI_int (by omega), nI_int (by omega), tz7, Int.bmod_eq_of_le (by omega) (by omega)]
  omega
theorem and31 (x : Int32) : ∃ m, m < 32 ∧ x &&& (31 : Int32) = nI m := by
  refine ⟨(x &&& (31 : Int32)).toBitVec.toNat, ?_, ?_⟩
  · have h : (x &&& (31 : Int32)).toBitVec.toNat = x.toBitVec.toNat &&& 31 := by
      rw [Int32.toBitVec_and, BitVec.toNat_and]; rfl
    rw [h]
    exact Nat.lt_of_le_of_lt Nat.and_le_right (by decide)
  · apply Int32.toBitVec_inj.mp
    apply BitVec.eq_of_toNat_eq
    show _ = (BitVec.ofNat 32 _).toNat
    rw [BitVec.toNat_ofNat, Nat.mod_eq_of_lt (x &&& (31 : Int32)).toBitVec.isLt]
set_option maxHeartbeats 2000000 in
theorem law_loop {G0 : GC} {sh0 : Nat → Nat × Nat} {N0 : Nat} (CJ : Cx G0 code wsJX RL 7 (some .boolean) room_1 sh0 N0) {adE adM : Nat → Nat} {aO b L : Nat} {xs : Nat → Int32} (hX : va_X b L xs (Gs G0) (Gs G0).heap) (hb : b < (Gs G0).heap.size) (hA : ¬ GA G0 b) (hL : L ≤ 448) (hfl : (Gl G0).stackTraces = false) (hJ : JX (GA G0) (Gs G0))
    (hEnd : ∀ SE SM f k w v, k ≤ 600128 → w ≤ 7301098 → Go (GE G0 adE adM aO f SM k w) 7 1106 [] (lvL adE adM aO b v) SE) :
    ∀ (n j : Nat) (SE SM : St) (f : Nat → Int64), j + n = 65 → RR SE SM → RCE SE → RCM SM → Go (GE G0 adE adM aO f SM (172 + j) (13823 + 6 * j)) 7 23 [] (lvL adE adM aO b (nI (7 * j))) SE := by
  intro n
  induction n with
  | zero =>
    intro j SE SM f hn hr hE hM
    have CE : Cx (GE G0 adE adM aO f SM (172 + j) (13823 + 6 * j)) code BIG RL 7 (some .boolean) room_1 shE NE := Cx_gw (Cx_big CJ) (by show 172 + j ≤ 600128; omega) (by show 13823 + 6 * j ≤ 7301098; omega)
    refine Go_iload (q := 25) CE 4 rfl dL_law_23 rfl ?_
    refine Go_aload_n (q := 26) CE 0 rfl dL_law_25 rfl ?_
    refine Go_slen (q := 27) CE hX hb hA dL_law_26 rfl ?_
    refine Go_bipush (q := 29) (v := (7 : Int32)) CE dL_law_27 rfl rfl ?_
    refine Go_isub (q := 30) CE dL_law_29 rfl ?_
    refine Go_icmp_gt (t := 1106) (q := 33) CE dec_if dL_law_30 rfl rfl (fun _ => hEnd _ _ _ _ _ _ (by omega) (by omega)) (fun hn2 => absurd ((loop_cond hL (by omega)).mpr (by omega)) hn2)
  | succ n ih =>
    intro j SE SM f hn hr hE hM
    have CE : Cx (GE G0 adE adM aO f SM (172 + j) (13823 + 6 * j)) code BIG RL 7 (some .boolean) room_1 shE NE := Cx_gw (Cx_big CJ) (by show 172 + j ≤ 600128; omega) (by show 13823 + 6 * j ≤ 7301098; omega)
    have CE1 : Cx (GE G0 adE adM aO f SM (172 + j + 1) (13823 + 6 * j + 6)) code BIG RL 7 (some .boolean) room_1 shE NE := Cx_gw (Cx_big CJ) (by show 172 + j + 1 ≤ 600128; omega) (by show 13823 + 6 * j + 6 ≤ 7301098; omega)
    refine Go_iload (q := 25) CE 4 rfl dL_law_23 rfl ?_
    refine Go_aload_n (q := 26) CE 0 rfl dL_law_25 rfl ?_
    refine Go_slen (q := 27) CE hX hb hA dL_law_26 rfl ?_
    refine Go_bipush (q := 29) (v := (7 : Int32)) CE dL_law_27 rfl rfl ?_
    refine Go_isub (q := 30) CE dL_law_29 rfl ?_
    refine Go_icmp_gt (t := 1106) (q := 33) CE dec_if dL_law_30 rfl rfl (fun _ => hEnd _ _ _ _ _ _ (by omega) (by omega)) (fun hlt => ?_)
    have hj : 7 * j + 7 ≤ L := by
      rcases Nat.lt_or_ge L (7 * j + 7) with q | q
      · exact absurd ((loop_cond hL (by omega)).mpr q) hlt
      · exact q
    have h9 : LC G0 b L xs j (172 + j + 1) (13823 + 6 * j + 6) := ⟨⟨sh0, N0, CJ⟩, hX, hb, hA, hL, hj, by omega, by omega⟩
    have T : Tail G0 adE adM aO b (nI (7 * j)) (172 + j + 1) (13823 + 6 * j + 6) := by
      intro SE1 SM1 f1 hr1 hE1 hM1
      have C9 : Cx (GE G0 adE adM aO f1 SM1 (172 + j + 1) (13823 + 6 * j + 6)) code BIG RL 7 (some .boolean) room_1 shE NE := Cx_gw (Cx_big CJ) (by show 172 + j + 1 ≤ 600128; omega) (by show 13823 + 6 * j + 6 ≤ 7301098; omega)
      refine Go_iinc2 (q := 1103) (kp := 4) (cst := (7 : Int32)) C9 dL_law_1100 rfl rfl (by decide) rfl (fun v e_v => ?_)
      refine Go_lve (lv' := [(4, .int v), (0, .ref b), (1, .ref (adE 0)), (2, .ref (adM 0)), (3, .ref aO)]) rfl ?_
      refine Go_goto (q := 23) C9 dL_law_1103 rfl ?_
      refine Go_lvp [1, 2, 3, 4, 0] rfl ?_
      have e2 : v = nI (7 * (j + 1)) := by rw [e_v]; exact nIa (7 * j) 7
      subst e2
      exact ih (j + 1) SE1 SM1 f1 (by omega) hr1 hE1 hM1
    refine Go_aload_n (q := 34) CE 0 rfl dL_law_33 rfl ?_
    refine Go_iload (q := 36) CE 4 rfl dL_law_34 rfl ?_
    refine Go_sld (q := 37) CE hX hb hA rfl (by omega) hL dL_law_36 rfl ?_
    refine Go_bipush (q := 39) (v := (31 : Int32)) CE dL_law_37 rfl rfl ?_
    refine Go_iand (q := 40) CE dL_law_39 rfl ?_
    obtain ⟨m, hm, em⟩ := and31 (xs (7 * j))
    rw [em]
    match m, hm with
    | 0, _ => exact Go_tableIn (t := 156) CE dL_law_40 (by decide) (by decide) rfl rfl (Go_wide (Nat.le_succ _) (Nat.le_add_right _ 6) (lc_0 h9 hr hE hM T))
    | 1, _ => exact Go_tableIn (t := 303) CE dL_law_40 (by decide) (by decide) rfl rfl (Go_wide (Nat.le_succ _) (Nat.le_add_right _ 6) (lc_1 h9 hr hE hM T))
    | 2, _ => exact Go_tableIn (t := 316) CE dL_law_40 (by decide) (by decide) rfl rfl (Go_wide (Nat.le_succ _) (Nat.le_add_right _ 6) (lc_2 h9 hr hE hM T))
    | 3, _ => exact Go_tableIn (t := 353) CE dL_law_40 (by decide) (by decide) rfl rfl (Go_wide (Nat.le_succ _) (Nat.le_add_right _ 6) (lc_3 h9 hr hE hM T))
    | 4, _ => exact Go_tableIn (t := 422) CE dL_law_40 (by decide) (by decide) rfl rfl (Go_wide (Nat.le_succ _) (Nat.le_add_right _ 6) (lc_4 h9 hr hE hM T))
    | 5, _ => exact Go_tableIn (t := 491) CE dL_law_40 (by decide) (by decide) rfl rfl (Go_wide (Nat.le_succ _) (Nat.le_add_right _ 6) (lc_5 h9 hr hE hM T))
    | 6, _ => exact Go_tableIn (t := 528) CE dL_law_40 (by decide) (by decide) rfl rfl (Go_wide (Nat.le_succ _) (Nat.le_add_right _ 6) (lc_6 h9 hr hE hM T))
    | 7, _ => exact Go_tableIn (t := 553) CE dL_law_40 (by decide) (by decide) rfl rfl (Go_wide (Nat.le_succ _) (Nat.le_add_right _ 6) (lc_7 h9 hr hE hM T))
    | 8, _ => exact Go_tableIn (t := 567) CE dL_law_40 (by decide) (by decide) rfl rfl (Go_wide (Nat.le_succ _) (Nat.le_add_right _ 6) (lc_8 h9 hr hE hM T))
    | 9, _ => exact Go_tableIn (t := 604) CE dL_law_40 (by decide) (by decide) rfl rfl (Go_wide (Nat.le_succ _) (Nat.le_add_right _ 6) (lc_9 h9 hr hE hM T))
    | 10, _ => exact Go_tableIn (t := 629) CE dL_law_40 (by decide) (by decide) rfl rfl (Go_wide (Nat.le_succ _) (Nat.le_add_right _ 6) (lc_10 h9 hr hE hM T))
    | 11, _ => exact Go_tableIn (t := 666) CE dL_law_40 (by decide) (by decide) rfl rfl (Go_wide (Nat.le_succ _) (Nat.le_add_right _ 6) (lc_11 h9 hr hE hM T))
    | 12, _ => exact Go_tableIn (t := 703) CE dL_law_40 (by decide) (by decide) rfl rfl (Go_wide (Nat.le_succ _) (Nat.le_add_right _ 6) (lc_12 h9 hr hE hM T))
    | 13, _ => exact Go_tableIn (t := 740) CE dL_law_40 (by decide) (by decide) rfl rfl (Go_wide (Nat.le_succ _) (Nat.le_add_right _ 6) (lc_13 h9 hr hE hM T))
    | 14, _ => exact Go_tableIn (t := 754) CE dL_law_40 (by decide) (by decide) rfl rfl (Go_wide (Nat.le_succ _) (Nat.le_add_right _ 6) (lc_14 h9 hr hE hM T))
    | 15, _ => exact Go_tableIn (t := 779) CE dL_law_40 (by decide) (by decide) rfl rfl (Go_wide (Nat.le_succ _) (Nat.le_add_right _ 6) (lc_15 h9 hr hE hM T))
    | 16, _ => exact Go_tableIn (t := 804) CE dL_law_40 (by decide) (by decide) rfl rfl (Go_wide (Nat.le_succ _) (Nat.le_add_right _ 6) (lc_16 h9 hr hE hM T))
    | 17, _ => exact Go_tableIn (t := 853) CE dL_law_40 (by decide) (by decide) rfl rfl (Go_wide (Nat.le_succ _) (Nat.le_add_right _ 6) (lc_17 h9 hr hE hM T))
    | 18, _ => exact Go_tableIn (t := 866) CE dL_law_40 (by decide) (by decide) rfl rfl (lc_18 h9 hfl hJ hr hE hM T)
    | 19, _ => exact Go_tableIn (t := 922) CE dL_law_40 (by decide) (by decide) rfl rfl (Go_wide (Nat.le_succ _) (Nat.le_add_right _ 6) (lc_19 h9 hr hE hM T))
    | 20, _ => exact Go_tableIn (t := 935) CE dL_law_40 (by decide) (by decide) rfl rfl (Go_wide (Nat.le_succ _) (Nat.le_add_right _ 6) (lc_20 h9 hr hE hM T))
    | 21, _ => exact Go_tableIn (t := 960) CE dL_law_40 (by decide) (by decide) rfl rfl (Go_wide (Nat.le_succ _) (Nat.le_add_right _ 6) (lc_21 h9 hr hE hM T))
    | 22, _ => exact Go_tableIn (t := 985) CE dL_law_40 (by decide) (by decide) rfl rfl (Go_wide (Nat.le_succ _) (Nat.le_add_right _ 6) (lc_22 h9 hr hE hM T))
    | 23, _ => exact Go_tableIn (t := 1022) CE dL_law_40 (by decide) (by decide) rfl rfl (Go_wide (Nat.le_succ _) (Nat.le_add_right _ 6) (lc_23 h9 hr hE hM T))
    | 24, _ => exact Go_tableIn (t := 1075) CE dL_law_40 (by decide) (by decide) rfl rfl (Go_wide (Nat.le_succ _) (Nat.le_add_right _ 6) (lc_24 h9 hr hE hM T))
    | m9 + 25, hm9 => exact Go_tableOut (t := 1100) CE dL_law_40 (Or.inr (by rw [nI_int (by omega)]; omega)) rfl (Go_wide (Nat.le_succ _) (Nat.le_add_right _ 6) (T _ _ _ hr hE hM))
