/-! ===== EndsRound.judged where it answers ===== -/
def b_X11_judged_21 (p0 : Int32) (Q : Int32 → St → Prop) (k21 : Int32 → St → Prop) (v2 : Int32) (S : St) : Prop :=
 if gI S 30 3 ≤ v2 then (if p0 = 0 then Q (-1 : Int32) S else Q (0 : Int32) S) else w_X11_whyWrong v2 S (fun r S1 => if r = 0 then (∀ x, x = v2 + (1 : Int32) → k21 x S1) else (if p0 = 0 then Q v2 S1 else Q r S1))
def w_X11_judged_21 (p0 : Int32) (Q : Int32 → St → Prop) (v2 : Int32) (S : St) : Prop := ∃ n, lpn (fun _ _ => False) (b_X11_judged_21 p0 Q) n v2 S
def w_X11_judged (p0 : Int32) (S : St) (Q : Int32 → St → Prop) : Prop := w_X11_judged_21 p0 Q (0 : Int32) S
abbrev rm_X11_judged : Room := { frames := 8, cells := 0, slots := 0, locals := 110 }
set_option maxRecDepth 100000 in
set_option maxHeartbeats 4000000 in
theorem g_X11_judged_21 {G : GC} (C : Cx G cX11_judged BIG RX11 4 (some .int) rm_X11_judged shE NE) {Q : Int32 → St → Prop} (hQ : QI G RCE Q) (p0 : Int32) (v2 : Int32) {S : St} (hR : RCE S) (hw : w_X11_judged_21 p0 Q v2 S) : Go G 4 21 [] [(0, .ref (Gad G (0))), (1, .int p0), (2, .int v2)] S := by
  obtain ⟨n, hw⟩ := hw
  induction n generalizing v2 S with
  | zero => exact hw.elim
  | succ n ih =>
    have hw : b_X11_judged_21 p0 Q (lpn (fun _ _ => False) (b_X11_judged_21 p0 Q) n) v2 S := hw
    generalize lpn (fun _ _ => False) (b_X11_judged_21 p0 Q) n = kf at hw ih
    unfold b_X11_judged_21 at hw
    refine Go_iload_n (q := 22) C 2 rfl dX11_judged_21 rfl ?_
    refine Go_aload_n (q := 23) C 0 rfl dX11_judged_22 rfl ?_
    refine Go_getA (q := 26) (k := 3) C ci11 iw_11 kE_0 (rE_0_3 hR) rfl wm_2_5 rfl dX11_judged_23 rfl ?_
    refine Go_getIN (q := 29) (k := 3) (host := "EndsRound") C ci2 iw_2 kE_30 rfl nw_46 rfl dX11_judged_26 rfl ?_
    refine Go_icmp_ge (t := 58) (q := 32) C hw dX11_judged_29 rfl rfl (fun hw => ?_) (fun hw => ?_)
    · refine Go_iload_n (q := 59) C 1 rfl dX11_judged_58 rfl ?_
      refine Go_if_ne (t := 66) (q := 62) C hw dX11_judged_59 rfl rfl (fun hw => ?_) (fun hw => ?_)
      all_goals first
        | (refine Go_iconst (q := 67) (v := (0 : Int32)) C dX11_judged_66 rfl rfl ?_
           exact Go_iret C hQ hR hw dX11_judged_67)
        | (refine Go_iconst (q := 63) (v := (-1 : Int32)) C dX11_judged_62 rfl rfl ?_
           refine Go_goto (q := 67) C dX11_judged_63 rfl ?_
           exact Go_iret C hQ hR hw dX11_judged_67)
    · refine Go_aload_n (q := 33) C 0 rfl dX11_judged_32 rfl ?_
      refine Go_iload_n (q := 34) C 2 rfl dX11_judged_33 rfl ?_
      refine Go_callV_I (av := (fun ad => [.int v2])) (st := []) (C := C) (hM := c_X11_whyWrong (Gl G) hR hw) (hlk := wm_44_17) (hini := wm_1_2) (hins := wm_44_18) (hsel := wm_44_19) (hcode := wm_44_20) (ho := kE_0) (hci := rfl) (hc13 := by decide) (n := 1) (hd := by decide +kernel) (hr0 := ⟨rfl, rfl⟩) (hroom := ⟨by decide, by decide⟩) (hlen := rfl) (hst := rfl) (hW := Nat.le_of_ble_eq_true rfl) (hdg := dX11_judged_34) (q := 37) (hq := rfl) (fun r S1 hw hR => ?_)
      refine Go_istore_n (q := 38) (lv' := [(3, .int r), (0, .ref (Gad G (0))), (1, .int p0), (2, .int v2)]) C rfl dX11_judged_37 (by decide) rfl rfl ?_
      refine Go_iload_n (q := 39) C 0 rfl dX11_judged_38 rfl ?_
      refine Go_if_eq (t := 52) (q := 42) C hw dX11_judged_39 rfl rfl (fun hw => ?_) (fun hw => ?_)
      · refine Go_iinc2 (q := 55) (kp := 3) (cst := (1 : Int32)) C dX11_judged_52 rfl rfl (by decide) rfl (fun x e_x => ?_)
        have hw := hw x e_x
        refine Go_lve (lv' := [(2, .int x), (3, .int r), (0, .ref (Gad G (0))), (1, .int p0)]) rfl ?_
        refine Go_goto (q := 21) C dX11_judged_55 rfl ?_
        refine Go_lvp [2, 3, 0] rfl ?_
        exact ih _ hR hw
      · refine Go_iload_n (q := 43) C 2 rfl dX11_judged_42 rfl ?_
        refine Go_if_ne (t := 50) (q := 46) C hw dX11_judged_43 rfl rfl (fun hw => ?_) (fun hw => ?_)
        all_goals first
          | (refine Go_iload_n (q := 51) C 0 rfl dX11_judged_50 rfl ?_
             exact Go_iret C hQ hR hw dX11_judged_51)
          | (refine Go_iload_n (q := 47) C 3 rfl dX11_judged_46 rfl ?_
             refine Go_goto (q := 51) C dX11_judged_47 rfl ?_
             exact Go_iret C hQ hR hw dX11_judged_51)
set_option maxRecDepth 100000 in
set_option maxHeartbeats 4000000 in
theorem c_X11_judged (l : Launch) {p0 : Int32} {S : St} {Q : Int32 → St → Prop} (h0 : ¬ p0 < 0) (h1 : p0 ≤ 1) (hR : RCE S) (hw : w_X11_judged p0 S Q) : MetI l yX11_judged (wB yX11_judged cX11_judged 4 (some .int)) rm_X11_judged shE NE RCE (fun ad => [.ref (ad (0)), .int p0]) S Q := by
  refine MetI_of (cc := cX11_judged) (maxL := 4) (ret := (some .int)) (plainFor_of_name (by decide)) (fun _ => Nat.le_of_ble_eq_true rfl) (fun G C hl hQ => ?_)
  subst hl
  have C : Cx G cX11_judged BIG RX11 4 (some .int) rm_X11_judged shE NE := C
  show Go G 4 0 [] [(0, .ref (Gad G (0))), (1, .int p0)] S
  unfold w_X11_judged at hw
  refine Go_iload_n (q := 1) C 1 rfl dX11_judged_0 rfl ?_
  refine Go_if_lt (t := 9) (q := 4) C dec_if dX11_judged_1 rfl rfl (fun h => absurd h h0) (fun _ => ?_)
  refine Go_iload_n (q := 5) C 1 rfl dX11_judged_4 rfl ?_
  refine Go_iconst (q := 6) (v := (1 : Int32)) C dX11_judged_5 rfl rfl ?_
  refine Go_icmp_le (t := 19) (q := 9) C dec_if dX11_judged_6 rfl rfl (fun _ => ?_) (fun h => absurd h1 h)
  refine Go_iconst (q := 20) (v := (0 : Int32)) C dX11_judged_19 rfl rfl ?_
  refine Go_istore_n (q := 21) (lv' := [(2, .int (0 : Int32)), (0, .ref (Gad G (0))), (1, .int p0)]) C rfl dX11_judged_20 (by decide) rfl rfl ?_
  refine Go_lvp [1, 2, 0] rfl ?_
  exact g_X11_judged_21 C hQ p0 _ hR hw
/-- where it answers: the same as the reference, and the two states stay in step -/
theorem e_judged {F : Fm} {L : Nat → Nat} {D : Dr} {p0 : Int32} {S : St} {Q : Int32 → St → Prop} (hF : FW F) (hD : DW F D) (hE : FE 21 F S) (hZ : EZ F L S) (hDE : DE 30 D S) (hQ : Q (judR F L D p0) S) : w_X11_judged p0 S Q := by
  have hd60 := hD.1
  have d3 : gI S 30 3 = nI (D 0 0) := hDE.1
  refine up1 (B := b_X11_judged_21 p0 Q) (D 0 0) (by omega) (fun l S' => S' = S ∧ ∀ j, j < l → why F L D j = 0) ?_ ?_ 0 (by omega) ⟨rfl, fun j hj => absurd hj (Nat.not_lt_zero _)⟩
  · rintro kk l S' hl ⟨rfl, hno⟩ hkk
    unfold b_X11_judged_21
    rw [d3, if_neg (nI_ge hl (by omega))]
    refine e_whyWrong hF hD hE hZ hDE hl ?_
    have h5 := why_le F L D l
    by_cases c : why F L D l = 0
    · rw [c, if_pos (by decide)]
      intro x hx
      refine hkk _ _ hx ⟨rfl, fun j hj => ?_⟩
      by_cases e : j = l
      · subst e; exact c
      · exact hno j (by omega)
    · have c9 : ¬ nI (why F L D l) = 0 := fun e => c (nI_inj (by omega) (by decide) e)
      rw [if_neg c9]
      unfold judR at hQ
      rw [fwr_at hl (by omega) hno, if_pos hl] at hQ
      by_cases e : p0 = 0
      · rw [if_pos e] at hQ ⊢; exact hQ
      · rw [if_neg e] at hQ ⊢; exact hQ
  · rintro kk S' ⟨rfl, hno⟩
    unfold b_X11_judged_21
    rw [d3, if_pos (nI_le (Nat.le_refl _) (by omega))]
    unfold judR at hQ
    rw [fwr_no hno, if_neg (by omega)] at hQ
    by_cases e : p0 = 0
    · rw [if_pos e] at hQ ⊢; exact hQ
    · rw [if_neg e] at hQ ⊢; exact hQ
theorem c_judged0 {p0 : Int32} {SE SM : St} (h : RR SE SM) (h0 : ¬ p0 < 0) (h1 : p0 ≤ 1) : w_X11_judged p0 SE (fun r S1 => w_X12_judged p0 SM (fun r' S2 => gI S2 0 0 = 0 ∧ r = r' ∧ RR S1 S2)) := by
  obtain ⟨F, D, pa, pb, L, t, sg, ll, mF, mD, ma, mb, ⟨r1, r2, r3, r4, r5, r6, r7, r8, r9⟩, h2, h3, h4, h5⟩ := id h
  refine e_judged r1 r2 r4 r6 r5 ?_
  exact m_judged r1 r2 r3 r9 r6.2.1 (fun q => absurd q (fun q => q.elim h0 (fun q => absurd h1 (Int32.not_le.mpr q)))) (fun _ S' hf hg => ⟨hg, rfl, RR_fr h (frX_refl _ _) (fun x hx => absurd hx List.not_mem_nil) hf⟩)
theorem c_judged1 {p0 : Int32} {SE SM : St} (h : RR SE SM) (h0 : p0 < 0 ∨ 1 < p0) : w_X12_judged p0 SM (fun _ S2 => gI S2 0 0 = 1 ∧ RR SE S2) := by
  obtain ⟨F, D, pa, pb, L, t, sg, ll, mF, mD, ma, mb, ⟨r1, r2, r3, r4, r5, r6, r7, r8, r9⟩, h2, h3, h4, h5⟩ := id h
  exact m_judged r1 r2 r3 r9 r6.2.1 (fun _ S' hf hg => ⟨hg, RR_fr h (frX_refl _ _) (fun x hx => absurd hx List.not_mem_nil) hf⟩) (fun q => absurd h0 q)
