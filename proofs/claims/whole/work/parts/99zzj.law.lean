theorem wl_sh {cy : Nat → ClassId} {ad : Nat → Nat} {sh sh' : Nat → Nat × Nat} {N : Nat} {S : St} (h : ∀ i, i < N → sh' i = sh i) : wl cy ad sh' N S = wl cy ad sh N S := by
  refine List.map_congr_left fun i hi => ?_
  have hi2 : i < N := List.mem_range.mp hi
  simp only [cellOf, h i hi2]
def shO (i : Nat) : Nat × Nat := if i = 48 then (15, 1) else shM i
theorem wl_out {cy : Nat → ClassId} {ad : Nat → Nat} {S : St} : wl cy ad shO 49 S = wl cy ad shM NM S ++ [(ad 48, oc cy (gJ S 48))] := by
  show (List.range (48 + 1)).map _ = _
  rw [List.range_succ, List.map_append]
  have e1 : (List.range 48).map (fun i => (ad i, cellOf cy ad shO S i)) = wl cy ad shM NM S := wl_sh (N := 48) (fun i hi => if_neg (by omega))
  rw [e1]
  show _ ++ [(ad 48, cellOf cy ad shO S 48)] = _
  rw [cell_j (sh := shO) (N := 49) (n := 1) ⟨by omega, rfl⟩]
theorem ir0 (n : Nat) : IR n zS0 := ⟨fun _ _ _ => ⟨rfl, rfl, rfl⟩, fun _ _ r h => by cases h⟩
set_option maxHeartbeats 4000000 in
/-- from the entry, for every script of at most 448 ints, the law comes to its end with true -/
theorem whole_start {p : Program} {e : Env} {s : State} {m : MethodId} {below : List Frame} {meth : Method} {c : Code} (l : Launch) (hflags : l.flags = flags0) {b L : Nat} {xs : Nat → Int32} (hL : L ≤ 448) (C0 : lw_At p s m meth c b L xs) : W p l e room_1 s m #[Value.ref b] below meth c s.heap [] 0 0 (lw_Z below #[Value.ref b] s) (entryFrame m ([Value.ref b] : List Value).toArray 7) := by
  obtain ⟨hx, hbc, hret, hml, hown, hts, hX, hbl, hlocks, hgv⟩ := C0
  have hfl : l.stackTraces = false := by unfold Launch.stackTraces; rw [hflags]; decide
  obtain ⟨D, cy, hK⟩ := start_K hts
  have hN : NW s := start_NW hts
  obtain ⟨aK, aV, hSP, hTX⟩ := start_SP hts hgv
  have hJ := start_J hts hgv
  have hAO : va_AO "EndsRound$Mark" s := va_AO.of (hts _ (tt_3 _ (List.mem_of_getElem? (i := 7) rfl)))
  rw [lg_entry_eq]
  have G1 : ∀ G0 : GC, G0 = (p, l, e, room_1, s, m, (#[Value.ref b] : Array Value), below, meth, c, lw_Z below #[Value.ref b] s, D, cy, (fun _ => 0), [], (fun q => s.heap.size ≤ q), shE, 0, 0, 0) → Go G0 7 0 [] [(0, .ref b)] zS0 := by
    intro G0 hG
    have e1 : Gs G0 = s := by rw [hG]
    have e2 : Gl G0 = l := by rw [hG]
    have e3 : GA G0 = fun q => s.heap.size ≤ q := by rw [hG]
    have e4 : Gk G0 = 0 := by rw [hG]
    have e5 : Gw G0 = 0 := by rw [hG]
    have e6 : GX G0 = [] := by rw [hG]
    have CJ : Cx G0 code wsJX RL 7 (some .boolean) room_1 shE 0 := by
      subst hG
      exact ⟨hx, hbc, hml, hown, fun w h => hts w (wsJX_tbl w h), hlocks, hret, hK, fun _ h => h, hN, rfl, rfl, rfl, Nat.zero_le _, Nat.zero_le _⟩
    have C := Cx_big CJ
    have hEnd : ∀ (adE adM : Nat → Nat) (aO : Nat) (SE SM : St) (f : Nat → Int64) (k w : Nat) (v : Int32), k ≤ 600128 → w ≤ 7301098 → Go (GE G0 adE adM aO f SM k w) 7 1106 [] (lvL adE adM aO b v) SE := by
      intro adE adM aO SE SM f k w v hk hw
      have CE : Cx (GE G0 adE adM aO f SM k w) code BIG RL 7 (some .boolean) room_1 shE NE := Cx_gw C hk hw
      refine Go_iconst (q := 1107) (v := (1 : Int32)) CE dL_law_1106 rfl rfl ?_
      intro H locs ls hP hD hS hl
      subst hG
      exact W.widen hk hw (va_forget (fun q hq => hS.2.2 q hq) (lw_ret hx hbc hret hlocks dL_law_1107))
    refine Go_new (q := 3) (stF := fun _ => []) (lvF := fun _ => [(0, .ref b)]) C ci11 iw_11 (by decide +kernel) wm_1_0 wm_1_1 wm_1_2 kE_0.2 (ir0 0) rfl rfl (fun _ _ => rfl) (fun _ _ => rfl) (by rw [e4]; decide +kernel) (by rw [e5]; decide +kernel) dL_law_0 rfl (fun ad0 _ hI => ?_)
    have C1 : Cx (gset G0 ad0 1 (Gk G0 + 1) (Gw G0 + 11)) code BIG RL 7 (some .boolean) room_1 shE 1 := Cx_gset C (by rw [e4]; decide +kernel) (by rw [e5]; decide +kernel)
    refine Go_dup (q := 4) C1 rfl dL_law_3 rfl ?_
    refine Go_callAE (q := 7) (st := [.ref (ad0 0)]) (stF := fun ad => [.ref (ad 0)]) (lvF := fun _ => [(0, .ref b)]) C1 (c_X11_init (Gl G0) (aK := aK) (aV := aV)) (by show SPre aK aV (GA G0) (Gs G0); rw [e1, e3]; exact hSP) (by show vk_R RX10 29 TX aK (Gs G0); rw [e1]; exact hTX) (by show va_AO _ (Gs G0); rw [e1]; exact hAO) wm_1_8 ⟨rfl, rfl⟩ ⟨by decide +kernel, by decide +kernel⟩ (Nat.le_of_ble_eq_true rfl) (fun ad h => by show [Value.ref (ad 0)] = [Value.ref (ad0 0)]; rw [h 0 (by omega)]) (fun _ _ => rfl) (by show Gk G0 + 1 + 122 ≤ 600128; rw [e4]; decide) (by show Gw G0 + 11 + 8378 ≤ 7301098; rw [e5]; decide) dL_law_4 rfl (fun adE SE _ hQ hRE => ?_)
    show Go (gset G0 adE 123 (Gk G0 + 1 + 122) (Gw G0 + 11 + 8378)) 7 7 [.ref (adE 0)] [(0, .ref b)] SE
    have C2 : Cx (gset G0 adE 123 (Gk G0 + 1 + 122) (Gw G0 + 11 + 8378)) code BIG RL 7 (some .boolean) room_1 shE 123 := Cx_gset C1 (by show Gk G0 + 1 + 122 ≤ 600128; rw [e4]; decide) (by show Gw G0 + 11 + 8378 ≤ 7301098; rw [e5]; decide)
    refine Go_astore_n (q := 8) (lv' := [(1, .ref (adE 0)), (0, .ref b)]) C2 rfl dL_law_7 (by decide) rfl rfl ?_
    refine Go_perm (ad := fun _ => 0) (X := wl (Gcy G0) adE shE 123 SE) (sh' := shM) (N' := 0) (S' := zS0) (k := 123) (w := 8389) ?_ (by show Gk G0 + 1 + 122 ≤ 123; rw [e4]; decide) (by show Gw G0 + 11 + 8378 ≤ 8389; rw [e5]; decide) ?_
    · have e7 : Gsh G0 = shE := by rw [hG]
      show (GX G0 ++ wl (Gcy G0) adE (Gsh G0) 123 SE).Perm (wl (Gcy G0) adE shE 123 SE ++ [])
      rw [e6, e7, List.append_nil]
      exact List.Perm.refl _
    show Go (gw G0 (fun _ => 0) (wl (Gcy G0) adE shE 123 SE) shM 0 123 8389) 7 8 [] [(1, .ref (adE 0)), (0, .ref b)] zS0
    have C3 : Cx (gw G0 (fun _ => 0) (wl (Gcy G0) adE shE 123 SE) shM 0 123 8389) code BIG RL 7 (some .boolean) room_1 shM 0 := Cx_gw C (by decide +kernel) (by decide +kernel)
    refine Go_new (q := 11) (stF := fun _ => []) (lvF := fun _ => [(1, .ref (adE 0)), (0, .ref b)]) C3 ci12 iw_12 (by decide +kernel) wm_1_3 wm_1_4 wm_1_5 kM_0.2 (ir0 0) rfl rfl (fun _ _ => rfl) (fun _ _ => rfl) (by show 123 + 1 ≤ 600128; decide) (by show 8389 + 75 ≤ 7301098; decide) dL_law_8 rfl (fun ad1 _ hI => ?_)
    show Go (gw G0 ad1 (wl (Gcy G0) adE shE 123 SE) shM 1 124 8464) 7 11 [.ref (ad1 0)] [(1, .ref (adE 0)), (0, .ref b)] zS0
    have C4 : Cx (gw G0 ad1 (wl (Gcy G0) adE shE 123 SE) shM 1 124 8464) code BIG RL 7 (some .boolean) room_1 shM 1 := Cx_gw C (by decide +kernel) (by decide +kernel)
    refine Go_dup (q := 12) C4 rfl dL_law_11 rfl ?_
    refine Go_callI_A (q := 15) (n := 1) (n' := 48) (o := 0) (av := fun ad => []) (st := [.ref (ad1 0)]) (stF := fun ad => [.ref (ad 0)]) (lvF := fun _ => [(1, .ref (adE 0)), (0, .ref b)]) (C := C4) (hM := c_X12_init (Gl G0) (Q := fun S9 => S9 = zM) (ir0 1) (m_init rfl)) (hlk := wm_12_16) (hini := wm_1_5) (hins := wm_12_17) (hcode := wm_12_18) (hnm := rfl) (n9 := 0) (hd := by decide +kernel) (hr0 := ⟨rfl, rfl⟩) (hroom := ⟨by decide +kernel, by decide +kernel⟩) (hlen := rfl) (hst := rfl) (hW := Nat.le_of_ble_eq_true rfl) (hstF := rfl) (hs1 := fun ad h => by show [Value.ref (ad 0)] = [Value.ref (ad1 0)]; rw [h 0 (by omega)]) (hl1 := fun _ _ => rfl) (hk := by show 124 + 47 ≤ 600128; decide) (hw := by show 8464 + 5358 ≤ 7301098; decide) (hdg := dL_law_12) (hq := rfl) (fun adM S9 _ hS9 hI9 => ?_)
    subst hS9
    show Go (gw G0 adM (wl (Gcy G0) adE shE 123 SE) shM 48 171 13822) 7 15 [.ref (adM 0)] [(1, .ref (adE 0)), (0, .ref b)] zM
    have C5 : Cx (gw G0 adM (wl (Gcy G0) adE shE 123 SE) shM 48 171 13822) code BIG RL 7 (some .boolean) room_1 shM 48 := Cx_gw C (by decide +kernel) (by decide +kernel)
    refine Go_astore_n (q := 16) (lv' := [(2, .ref (adM 0)), (1, .ref (adE 0)), (0, .ref b)]) C5 rfl dL_law_15 (by decide) rfl rfl ?_
    refine Go_perm (ad := adM) (X := wl (Gcy G0) adE shE 123 SE) (sh' := shO) (N' := 48) (S' := zM) (k := 171) (w := 13822) ?_ (Nat.le_refl _) (Nat.le_refl _) ?_
    · show (wl (Gcy G0) adE shE 123 SE ++ wl (Gcy G0) adM shM 48 zM).Perm (wl (Gcy G0) adE shE 123 SE ++ wl (Gcy G0) adM shO 48 zM)
      rw [wl_sh (sh := shM) (sh' := shO) (N := 48) (fun i hi => if_neg (by omega))]
    show Go (gw G0 adM (wl (Gcy G0) adE shE 123 SE) shO 48 171 13822) 7 16 [] [(2, .ref (adM 0)), (1, .ref (adE 0)), (0, .ref b)] zM
    have C6 : Cx (gw G0 adM (wl (Gcy G0) adE shE 123 SE) shO 48 171 13822) code BIG RL 7 (some .boolean) room_1 shO 48 := Cx_gw C (by decide +kernel) (by decide +kernel)
    refine Go_iconst (q := 17) (v := (1 : Int32)) C6 dL_law_16 rfl rfl ?_
    refine Go_newa_j (n := 48) (len := 1) (q := 19) (stF := fun _ => []) (lvF := fun ad => [(2, .ref (ad 0)), (1, .ref (adE 0)), (0, .ref b)]) C6 wm_1_6 (by decide) rfl (by decide) rfl hI9 rfl rfl (fun _ _ => rfl) (fun ad h => by show [(2, Value.ref (ad 0)), (1, Value.ref (adE 0)), (0, Value.ref b)] = [(2, Value.ref (adM 0)), (1, Value.ref (adE 0)), (0, Value.ref b)]; rw [h 0 (by omega)]) (by show 171 + 1 ≤ 600128; decide) (by show 13822 + 1 ≤ 7301098; decide) dL_law_17 rfl (fun ad2 _ hI2 => ?_)
    show Go (gw G0 ad2 (wl (Gcy G0) adE shE 123 SE) shO 49 172 13823) 7 19 [.ref (ad2 48)] [(2, .ref (ad2 0)), (1, .ref (adE 0)), (0, .ref b)] zM
    have C7 : Cx (gw G0 ad2 (wl (Gcy G0) adE shE 123 SE) shO 49 172 13823) code BIG RL 7 (some .boolean) room_1 shO 49 := Cx_gw C (by decide +kernel) (by decide +kernel)
    refine Go_astore_n (q := 20) (lv' := [(3, .ref (ad2 48)), (2, .ref (ad2 0)), (1, .ref (adE 0)), (0, .ref b)]) C7 rfl dL_law_19 (by decide) rfl rfl ?_
    refine Go_iconst (q := 21) (v := (0 : Int32)) C7 dL_law_20 rfl rfl ?_
    refine Go_istore (q := 23) (lv' := [(4, .int 0), (3, .ref (ad2 48)), (2, .ref (ad2 0)), (1, .ref (adE 0)), (0, .ref b)]) C7 dL_law_21 (by decide) rfl rfl ?_
    refine Go_lvp [4, 3, 2, 1, 0] rfl ?_
    refine Go_perm (ad := adE) (X := (ad2 48, oc (Gcy G0) (gJ zM 48)) :: wl (Gcy G0) ad2 shM NM zM) (sh' := shE) (N' := NE) (S' := SE) (k := 172) (w := 13823) ?_ (Nat.le_refl _) (Nat.le_refl _) ?_
    · show (wl (Gcy G0) adE shE 123 SE ++ wl (Gcy G0) ad2 shO 49 zM).Perm (((ad2 48, oc (Gcy G0) (gJ zM 48)) :: wl (Gcy G0) ad2 shM NM zM) ++ wl (Gcy G0) adE shE 123 SE)
      rw [wl_out]
      exact List.perm_append_comm.trans ((List.perm_append_singleton _ _).append_right _)
    exact law_loop CJ (adE := adE) (adM := ad2) (aO := ad2 48) (xs := xs) (by rw [e1]; exact hX) (by rw [e1]; exact hbl) (by rw [e3]; exact Nat.not_le.mpr hbl) hL (by rw [e2]; exact hfl) (by rw [e3, e1]; exact hJ) (hEnd adE ad2 (ad2 48)) 65 0 SE zM (gJ zM 48) rfl (start_RR hQ) hRE zM_R
  exact (G1 _ rfl) s.heap [] _ (fun k q h => (by cases h)) ⟨fun i j p q h => (by cases h), fun k q h => (by cases h)⟩ va_S.rf (lv_entry [Value.ref b] (n := 7) (Nat.le_of_ble_eq_true rfl))
