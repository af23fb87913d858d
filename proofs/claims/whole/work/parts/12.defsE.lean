/-! ===== what each method means (by program out of the listing): a weakest precondition over states of numbered cells ===== -/
-- X10_addSign
def w_X10_addSign_23 (p0 : Int32) (Q : St → Prop) (t0 : Int32) (S : St) : Prop :=
 (if t0 = 0 then (Q S) else ((if gI S 1 5 < 0 then (Q S) else ((if (1000 : Int32) ≤ gI S 1 5 then (Q S) else (vp_in (gI S 1 5) 1000 ∧ (∀ S57_1, S57_1 = sI S 2 (gI S 1 5).toNatClampNeg (vp_nar .char (((p0).toUInt32 % 65536).toInt32)) → ∀ S65_2, S65_2 = sI S57_1 1 5 ((gI S57_1 1 5) + (1 : Int32)) → Q S65_2)))))))
def w_X10_addSign_18 (p0 : Int32) (Q : St → Prop) (S : St) : Prop :=
 w_X10_addSign_23 p0 Q (1 : Int32) S
def w_X10_addSign_22 (p0 : Int32) (Q : St → Prop) (S : St) : Prop :=
 w_X10_addSign_23 p0 Q (0 : Int32) S
def w_X10_addSign (p0 : Int32) (S : St) (Q : St → Prop) : Prop :=
 (if p0 = (10 : Int32) then (w_X10_addSign_18 p0 Q S) else ((if p0 < (32 : Int32) then (w_X10_addSign_22 p0 Q S) else ((if (126 : Int32) < p0 then (w_X10_addSign_22 p0 Q S) else (w_X10_addSign_18 p0 Q S))))))
-- X10_addBytes
def b_X10_addBytes_3 (p0 : Int64) (Q : St → Prop) (k3 : Int32 → St → Prop) (v3 : Int32) (S : St) : Prop :=
 (if v3 < 0 then (Q S) else (w_X10_addSign (((((p0).toUInt64 >>> ((v3).toInt64.toUInt64 &&& Int64.toUInt64 63)).toInt64).toInt32) &&& (255 : Int32)) S (fun S16_1 => ∀ x19_2, x19_2 = v3 + (-8 : Int32) → k3 x19_2 S16_1)))
def w_X10_addBytes_3 (p0 : Int64) (Q : St → Prop) (v3 : Int32) (S : St) : Prop := ∃ n, lpn (fun _ _ => False) (b_X10_addBytes_3 p0 Q) n v3 S
def w_X10_addBytes (p0 : Int64) (S : St) (Q : St → Prop) : Prop :=
 w_X10_addBytes_3 p0 Q (56 : Int32) S
-- X11_feed
def w_X11_feed (p0 : Int64) (p1 : Int64) (p2 : Int64) (S : St) (Q : Int32 → St → Prop) : Prop :=
 w_X10_addBytes p0 S (fun S5_1 => w_X10_addBytes p1 S5_1 (fun S13_2 => w_X10_addBytes p2 S13_2 (fun S22_3 => Q (gI S22_3 1 5) S22_3)))
-- X10_signAt
def w_X10_signAt (p0 : Int32) (S : St) (Q : Int32 → St → Prop) : Prop :=
 (if p0 < 0 then (Q (-1 : Int32) S) else ((if gI S 1 5 ≤ p0 then (Q (-1 : Int32) S) else ((if (1000 : Int32) ≤ p0 then (Q (-1 : Int32) S) else (vp_in p0 1000 ∧ (Q (gI S 2 p0.toNatClampNeg) S)))))))
-- X10_isLetter
def w_X10_isLetter (p0 : Int32) (S : St) (Q : Int32 → St → Prop) : Prop :=
 (if p0 < (97 : Int32) then (Q (0 : Int32) S) else ((if (122 : Int32) < p0 then (Q (0 : Int32) S) else (Q (1 : Int32) S))))
-- X10_withLetter
def w_X10_withLetter (p0 : Int64) (p1 : Int32) (S : St) (Q : Int64 → St → Prop) : Prop :=
 Q ((p0 <<< (((5 : Int32)).toInt64 &&& 63)) ||| (((p1 - (97 : Int32)) + (1 : Int32)).toInt64)) S
-- X10_keyOf
def b_X10_keyOf_2 (p0 : Int64) (Q : Int32 → St → Prop) (k2 : Int32 → St → Prop) (v3 : Int32) (S : St) : Prop :=
 (if (24 : Int32) ≤ v3 then (Q (3 : Int32) S) else (vp_in v3 24 ∧ ((if gJ S 6 v3.toNatClampNeg = p0 then (Q ((128 : Int32) + v3) S) else (∀ x28_1, x28_1 = v3 + (1 : Int32) → k2 x28_1 S)))))
def w_X10_keyOf_2 (p0 : Int64) (Q : Int32 → St → Prop) (v3 : Int32) (S : St) : Prop := ∃ n, lpn (fun _ _ => False) (b_X10_keyOf_2 p0 Q) n v3 S
def w_X10_keyOf (p0 : Int64) (S : St) (Q : Int32 → St → Prop) : Prop :=
 w_X10_keyOf_2 p0 Q (0 : Int32) S
-- X11_put
def w_X11_put (p0 : Nat) (p1 : Int32) (p2 : Int32) (S : St) (Q : St → Prop) : Prop :=
 (if p1 < 0 then (Q S) else ((if nI (lnE p0) ≤ p1 then (Q S) else (vp_in p1 (lnE p0) ∧ (∀ S13_1, S13_1 = sI S p0 p1.toNatClampNeg p2 → Q S13_1)))))
-- X10_addToken
def w_X10_addToken (p0 : Int32) (p1 : Int32) (p2 : Int64) (S : St) (Q : St → Prop) : Prop :=
 (if gI S 1 6 < 0 then (Q S) else ((if (1001 : Int32) ≤ gI S 1 6 then (Q S) else (vp_in (gI S 1 6) 1001 ∧ (∀ S28_1, S28_1 = sJ S 5 (gI S 1 6).toNatClampNeg p2 → w_X11_put 3 (gI S28_1 1 6) p1 S28_1 (fun S38_2 => w_X11_put 4 (gI S38_2 1 6) p0 S38_2 (fun S50_3 => ∀ S60_4, S60_4 = sI S50_3 1 6 ((gI S50_3 1 6) + (1 : Int32)) → Q S60_4)))))))
-- X10_cutWord
def w_X10_cutWord_63 (Q : Int32 → St → Prop) (v2 : Int64) (v4 : Int32) (t0 : Int32) (t1 : Int32) (S : St) : Prop :=
 w_X10_addToken t1 t0 v2 S (fun S64_3 => Q v4 S64_3)
def w_X10_cutWord_43 (p0 : Int32) (Q : Int32 → St → Prop) (v2 : Int64) (v4 : Int32) (S : St) : Prop :=
 (if v4 - p0 ≤ (8 : Int32) then (w_X10_keyOf v2 S (fun r60_2 S60_1 => w_X10_cutWord_63 Q v2 v4 r60_2 p0 S60_1)) else (w_X10_cutWord_63 Q v2 v4 (1 : Int32) p0 S))
def b_X10_cutWord_5 (p0 : Int32) (Q : Int32 → St → Prop) (k5 : Int64 → Int32 → St → Prop) (v2 : Int64) (v4 : Int32) (S : St) : Prop :=
 (if gI S 1 5 ≤ v4 then (w_X10_cutWord_43 p0 Q v2 v4 S) else (w_X10_signAt v4 S (fun r17_5 S17_4 => w_X10_isLetter r17_5 S17_4 (fun r20_7 S20_6 => (if r20_7 = 0 then (w_X10_cutWord_43 p0 Q v2 v4 S20_6) else (w_X10_signAt v4 S20_6 (fun r30_9 S30_8 => w_X10_withLetter v2 r30_9 S30_8 (fun r33_11 S33_10 => ∀ x37_12, x37_12 = v4 + (1 : Int32) → k5 r33_11 x37_12 S33_10))))))))
def w_X10_cutWord_5 (p0 : Int32) (Q : Int32 → St → Prop) (v2 : Int64) (v4 : Int32) (S : St) : Prop := ∃ n, lpn (fun _ _ _ => False) (b_X10_cutWord_5 p0 Q) n v2 v4 S
def w_X10_cutWord (p0 : Int32) (S : St) (Q : Int32 → St → Prop) : Prop :=
 w_X10_cutWord_5 p0 Q (0 : Int64) p0 S
-- X10_isDigit
def w_X10_isDigit (p0 : Int32) (S : St) (Q : Int32 → St → Prop) : Prop :=
 (if p0 < (48 : Int32) then (Q (0 : Int32) S) else ((if (57 : Int32) < p0 then (Q (0 : Int32) S) else (Q (1 : Int32) S))))
-- X10_cutNumber
def w_X10_cutNumber_65 (Q : Int32 → St → Prop) (v2 : Int64) (v4 : Int32) (t0 : Int32) (t1 : Int32) (S : St) : Prop :=
 w_X10_addToken t1 t0 v2 S (fun S66_1 => Q v4 S66_1)
def w_X10_cutNumber_50 (p0 : Int32) (Q : Int32 → St → Prop) (v2 : Int64) (v4 : Int32) (S : St) : Prop :=
 (if v4 - p0 ≤ (4 : Int32) then (w_X10_cutNumber_65 Q v2 v4 (2 : Int32) p0 S) else (w_X10_cutNumber_65 Q v2 v4 (1 : Int32) p0 S))
def b_X10_cutNumber_5 (p0 : Int32) (Q : Int32 → St → Prop) (k5 : Int64 → Int32 → St → Prop) (v2 : Int64) (v4 : Int32) (S : St) : Prop :=
 (if gI S 1 5 ≤ v4 then (w_X10_cutNumber_50 p0 Q v2 v4 S) else (w_X10_signAt v4 S (fun r17_3 S17_2 => w_X10_isDigit r17_3 S17_2 (fun r20_5 S20_4 => (if r20_5 = 0 then (w_X10_cutNumber_50 p0 Q v2 v4 S20_4) else (w_X10_signAt v4 S20_4 (fun r34_7 S34_6 => ∀ x43_8, x43_8 = ((v2 * (10 : Int64)) + ((r34_7).toInt64)) - (48 : Int64) → ∀ x44_9, x44_9 = v4 + (1 : Int32) → k5 x43_8 x44_9 S34_6)))))))
def w_X10_cutNumber_5 (p0 : Int32) (Q : Int32 → St → Prop) (v2 : Int64) (v4 : Int32) (S : St) : Prop := ∃ n, lpn (fun _ _ _ => False) (b_X10_cutNumber_5 p0 Q) n v2 v4 S
def w_X10_cutNumber (p0 : Int32) (S : St) (Q : Int32 → St → Prop) : Prop :=
 w_X10_cutNumber_5 p0 Q (0 : Int64) p0 S
-- X10_isBlank
def w_X10_isBlank (p0 : Int32) (S : St) (Q : Int32 → St → Prop) : Prop :=
 (if p0 = (10 : Int32) then (Q (1 : Int32) S) else ((if p0 = (32 : Int32) then (Q (1 : Int32) S) else (Q (0 : Int32) S))))
-- X10_isSign
def w_X10_isSign_18 (p0 : Int32) (Q : Int32 → St → Prop) (S : St) : Prop :=
 (if p0 < (59 : Int32) then (Q (0 : Int32) S) else ((if (61 : Int32) < p0 then (Q (0 : Int32) S) else (Q (1 : Int32) S))))
def w_X10_isSign (p0 : Int32) (S : St) (Q : Int32 → St → Prop) : Prop :=
 (if p0 < (40 : Int32) then (w_X10_isSign_18 p0 Q S) else ((if (45 : Int32) < p0 then (w_X10_isSign_18 p0 Q S) else ((if p0 = (44 : Int32) then (w_X10_isSign_18 p0 Q S) else (Q (1 : Int32) S))))))
-- X10_cutToken
def w_X10_cutToken_53 (p0 : Int32) (Q : Int32 → St → Prop) (t0 : Int32) (t1 : Int32) (S : St) : Prop :=
 w_X10_addToken t1 t0 (0 : Int64) S (fun S54_11 => Q (p0 + (1 : Int32)) S54_11)
def w_X10_cutToken (p0 : Int32) (S : St) (Q : Int32 → St → Prop) : Prop :=
 w_X10_signAt p0 S (fun r2_2 S2_1 => w_X10_isLetter r2_2 S2_1 (fun r7_4 S7_3 => (if r7_4 = 0 then (w_X10_isDigit r2_2 S7_3 (fun r20_6 S20_5 => (if r20_6 = 0 then (w_X10_isBlank r2_2 S20_5 (fun r33_8 S33_7 => (if r33_8 = 0 then (w_X10_isSign r2_2 S33_7 (fun r42_10 S42_9 => (if r42_10 = 0 then (w_X10_cutToken_53 p0 Q (1 : Int32) p0 S42_9) else (w_X10_cutToken_53 p0 Q r2_2 p0 S42_9)))) else (Q (p0 + (1 : Int32)) S33_7)))) else (w_X10_cutNumber p0 S20_5 (fun r28_13 S28_12 => Q r28_13 S28_12))))) else (w_X10_cutWord p0 S7_3 (fun r15_15 S15_14 => Q r15_15 S15_14)))))
-- X10_cut
def w_X10_cut_36 (Q : St → Prop) (S : St) : Prop :=
 w_X10_addToken (gI S 1 5) (0 : Int32) (0 : Int64) S (fun S43_2 => ∀ S48_3, S48_3 = sI S43_2 1 5 (0 : Int32) → Q S48_3)
def b_X10_cut_9 (Q : St → Prop) (k9 : Int32 → Int32 → St → Prop) (v1 : Int32) (v2 : Int32) (S : St) : Prop :=
 (if (1000 : Int32) ≤ v2 then (w_X10_cut_36 Q S) else ((if gI S 1 5 ≤ v1 then (w_X10_cut_36 Q S) else (w_X10_cutToken v1 S (fun r26_5 S26_4 => ∀ x30_6, x30_6 = v2 + (1 : Int32) → k9 r26_5 x30_6 S26_4)))))
def w_X10_cut_9 (Q : St → Prop) (v1 : Int32) (v2 : Int32) (S : St) : Prop := ∃ n, lpn (fun _ _ _ => False) (b_X10_cut_9 Q) n v1 v2 S
def w_X10_cut (S : St) (Q : St → Prop) : Prop :=
 ∀ S2_1, S2_1 = sI S 1 6 (0 : Int32) → w_X10_cut_9 Q (0 : Int32) (0 : Int32) S2_1
-- X11_cell
def w_X11_cell (p0 : Nat) (p1 : Int32) (S : St) (Q : Int32 → St → Prop) : Prop :=
 (if p1 < 0 then (Q (-1 : Int32) S) else ((if nI (lnE p0) ≤ p1 then (Q (-1 : Int32) S) else (vp_in p1 (lnE p0) ∧ (Q (gI S p0 p1.toNatClampNeg) S)))))
-- X8_holdToken
def w_X8_holdToken (p0 : Int32) (S : St) (Q : St → Prop) : Prop :=
 (if p0 < 0 then (Q S) else ((if gI S 1 6 ≤ p0 then (Q S) else ((if (1001 : Int32) ≤ p0 then (Q S) else (∀ S29_1, S29_1 = sI S 7 4 p0 → w_X11_cell 3 p0 S29_1 (fun r41_3 S41_2 => ∀ S44_4, S44_4 = sI S41_2 7 5 r41_3 → vp_in p0 1001 ∧ (∀ S57_5, S57_5 = sJ S44_4 7 6 (gJ S44_4 5 p0.toNatClampNeg) → Q S57_5))))))))
-- X8_isWrong
def w_X8_isWrong (p0 : Int32) (S : St) (Q : Int32 → St → Prop) : Prop :=
 w_X11_cell 4 (gI S 7 4) S (fun r15_2 S15_1 => ∀ S20_3, S20_3 = sI S15_1 7 8 (p0 + ((16 : Int32) * r15_2)) → Q (0 : Int32) S20_3)
-- X8_takeKey
def w_X8_takeKey (p0 : Int32) (S : St) (Q : Int32 → St → Prop) : Prop :=
 (if gI S 7 5 = p0 then (w_X8_holdToken ((gI S 7 4) + (1 : Int32)) S (fun S21_1 => Q (1 : Int32) S21_1)) else (w_X8_isWrong (1 : Int32) S (fun r10_3 S10_2 => (r10_3 = 0 ∨ r10_3 = 1) ∧ Q r10_3 S10_2)))
-- X8_takeNumber
def w_X8_takeNumber_50 (Q : Int32 → St → Prop) (S : St) : Prop :=
 w_X8_isWrong (4 : Int32) S (fun r52_4 S52_3 => (r52_4 = 0 ∨ r52_4 = 1) ∧ Q r52_4 S52_3)
def w_X8_takeNumber (p0 : Int32) (p1 : Int32) (p2 : Int32) (S : St) (Q : Int32 → St → Prop) : Prop :=
 (if gI S 7 5 = (2 : Int32) then ((if gJ S 7 6 = (p2).toInt64 then (w_X8_isWrong (3 : Int32) S (fun r26_2 S26_1 => (r26_2 = 0 ∨ r26_2 = 1) ∧ Q r26_2 S26_1)) else ((if gJ S 7 6 < (p0).toInt64 then (w_X8_takeNumber_50 Q S) else ((if (p1).toInt64 < gJ S 7 6 then (w_X8_takeNumber_50 Q S) else (∀ S62_5, S62_5 = sI S 7 7 ((gJ S 7 6).toInt32) → w_X8_holdToken ((gI S62_5 7 4) + (1 : Int32)) S62_5 (fun S72_6 => Q (1 : Int32) S72_6)))))))) else (w_X8_isWrong (1 : Int32) S (fun r10_8 S10_7 => (r10_8 = 0 ∨ r10_8 = 1) ∧ Q r10_8 S10_7)))
-- X11_blank
def b_X11_blank_2 (p0 : Nat) (p1 : Int32) (Q : St → Prop) (k2 : Int32 → St → Prop) (v2 : Int32) (S : St) : Prop :=
 (if nI (lnE p0) ≤ v2 then (Q S) else (vp_in v2 (lnE p0) ∧ (∀ S11_1, S11_1 = sI S p0 v2.toNatClampNeg p1 → ∀ x12_2, x12_2 = v2 + (1 : Int32) → k2 x12_2 S11_1)))
def w_X11_blank_2 (p0 : Nat) (p1 : Int32) (Q : St → Prop) (v2 : Int32) (S : St) : Prop := ∃ n, lpn (fun _ _ => False) (b_X11_blank_2 p0 p1 Q) n v2 S
def w_X11_blank (p0 : Nat) (p1 : Int32) (S : St) (Q : St → Prop) : Prop :=
 w_X11_blank_2 p0 p1 Q (0 : Int32) S
-- X4_begin
def b_X4_begin_37 (o : Nat) (Q : St → Prop) (k37 : Int32 → St → Prop) (v2 : Int32) (S : St) : Prop :=
 (if (12 : Int32) ≤ v2 then (w_X11_blank (o + 2) (0 : Int32) S (fun S63_8 => w_X11_blank (o + 3) (0 : Int32) S63_8 (fun S71_9 => Q S71_9))) else (w_X11_put (o + 1) v2 v2 S (fun S49_10 => ∀ x52_11, x52_11 = v2 + (1 : Int32) → k37 x52_11 S49_10)))
def w_X4_begin_37 (o : Nat) (Q : St → Prop) (v2 : Int32) (S : St) : Prop := ∃ n, lpn (fun _ _ => False) (b_X4_begin_37 o Q) n v2 S
def w_X4_begin (o : Nat) (p0 : Int32) (S : St) (Q : St → Prop) : Prop :=
 ∀ S2_1, S2_1 = sI S o 0 p0 → ∀ S7_2, S7_2 = sI S2_1 o 1 (0 : Int32) → ∀ S12_3, S12_3 = sI S7_2 o 2 (0 : Int32) → ∀ S17_4, S17_4 = sI S12_3 o 3 (0 : Int32) → ∀ S22_5, S22_5 = sI S17_4 o 4 (0 : Int32) → ∀ S27_6, S27_6 = sI S22_5 o 5 (0 : Int32) → ∀ S32_7, S32_7 = sI S27_6 o 6 (0 : Int32) → w_X4_begin_37 o Q (0 : Int32) S32_7
-- X11_spiralSource
def w_X11_spiralSource (p0 : Int32) (p1 : Int32) (S : St) (Q : Int32 → St → Prop) : Prop :=
 (if p1 &&& (1 : Int32) = 0 then (Q ((p0 - (1 : Int32)) - (p1 / (2 : Int32))) S) else (Q (p1 / (2 : Int32)) S))
-- X4_thirdsSource
def w_X4_thirdsSource (o : Nat) (p0 : Int32) (S : St) (Q : Int32 → St → Prop) : Prop :=
 ∀ x8_1, x8_1 = ((gI S o 0) + (2 : Int32)) / (3 : Int32) → ∀ x19_2, x19_2 = x8_1 + (((gI S o 0) + (1 : Int32)) / (3 : Int32)) → (if x8_1 ≤ p0 then ((if x19_2 ≤ p0 then (Q (((3 : Int32) * (p0 - x19_2)) + (2 : Int32)) S) else (Q (((3 : Int32) * (p0 - x8_1)) + (1 : Int32)) S))) else (Q ((3 : Int32) * p0) S))
-- J9_floorMod_7cf53
def w_J9_floorMod_7cf53 (p0 : Int32) (p1 : Int32) (S : St) (Q : Int32 → St → Prop) : Prop :=
 ¬ p1 = 0 ∧ (∀ x3_1, x3_1 = p0 - p0 / p1 * p1 → (if 0 ≤ p0 ^^^ p1 then (Q x3_1 S) else ((if x3_1 = 0 then (Q x3_1 S) else (Q (x3_1 + p1) S)))))
-- X4_sourceOf
def w_X4_sourceOf (o : Nat) (p0 : Int32) (p1 : Int32) (p2 : Int32) (p3 : Int32) (S : St) (Q : Int32 → St → Prop) : Prop :=
 (if p0 = (130 : Int32) then (w_X11_spiralSource (gI S o 0) p1 S (fun r41_3 S41_2 => Q r41_3 S41_2)) else (if p0 = (131 : Int32) then (Q (((gI S o 0) - (1 : Int32)) - p1) S) else (if p0 = (132 : Int32) then ((if p1 &&& (1 : Int32) = 0 then (Q (p1 / (2 : Int32)) S) else (Q ((((gI S o 0) + (1 : Int32)) / (2 : Int32)) + (p1 / (2 : Int32))) S))) else (if p0 = (133 : Int32) then (w_X4_thirdsSource o p1 S (fun r81_5 S81_4 => Q r81_5 S81_4)) else (if p0 = (134 : Int32) then ((if (1 : Int32) ≤ gI S o 0 then (w_J9_floorMod_7cf53 (p1 - p3) (gI S o 0) S (fun r105_7 S105_6 => Q r105_7 S105_6)) else (Q p1 S))) else (if p1 = p2 then (Q p3 S) else ((if p1 = p3 then (Q p2 S) else (Q p1 S)))))))))
-- X11_copyRow
def b_X11_copyRow_2 (p0 : Nat) (p1 : Nat) (Q : St → Prop) (k2 : Int32 → St → Prop) (v2 : Int32) (S : St) : Prop :=
 (if nI (lnE p0) ≤ v2 then (Q S) else ((if nI (lnE p1) ≤ v2 then (Q S) else (vp_in v2 (lnE p0) ∧ (vp_in v2 (lnE p1) ∧ (∀ S19_1, S19_1 = sI S p1 v2.toNatClampNeg (gI S p0 v2.toNatClampNeg) → ∀ x20_2, x20_2 = v2 + (1 : Int32) → k2 x20_2 S19_1))))))
def w_X11_copyRow_2 (p0 : Nat) (p1 : Nat) (Q : St → Prop) (v2 : Int32) (S : St) : Prop := ∃ n, lpn (fun _ _ => False) (b_X11_copyRow_2 p0 p1 Q) n v2 S
def w_X11_copyRow (p0 : Nat) (p1 : Nat) (S : St) (Q : St → Prop) : Prop :=
 w_X11_copyRow_2 p0 p1 Q (0 : Int32) S
-- X4_addStep
def b_X4_addStep_3 (o : Nat) (p0 : Int32) (p1 : Int32) (p2 : Int32) (Q : St → Prop) (k3 : Int32 → St → Prop) (v4 : Int32) (S : St) : Prop :=
 (if gI S o 0 ≤ v4 then (w_X11_copyRow (o + 8) (o + 1) S (fun S51_1 => ∀ S61_2, S61_2 = sI S51_1 o 1 ((gI S51_1 o 1) + (1 : Int32)) → Q S61_2)) else (w_X4_sourceOf o p0 v4 p1 p2 S (fun r28_4 S28_3 => w_X11_cell (o + 1) r28_4 S28_3 (fun r31_6 S31_5 => w_X11_put (o + 8) v4 r31_6 S31_5 (fun S34_7 => ∀ x37_8, x37_8 = v4 + (1 : Int32) → k3 x37_8 S34_7)))))
def w_X4_addStep_3 (o : Nat) (p0 : Int32) (p1 : Int32) (p2 : Int32) (Q : St → Prop) (v4 : Int32) (S : St) : Prop := ∃ n, lpn (fun _ _ => False) (b_X4_addStep_3 o p0 p1 p2 Q) n v4 S
def w_X4_addStep (o : Nat) (p0 : Int32) (p1 : Int32) (p2 : Int32) (S : St) (Q : St → Prop) : Prop :=
 w_X4_addStep_3 o p0 p1 p2 Q (0 : Int32) S
-- X8_readStep
def w_X8_readStep_19 (Q : Int32 → St → Prop) (S : St) : Prop :=
 w_X8_isWrong (1 : Int32) S (fun r21_3 S21_2 => (r21_3 = 0 ∨ r21_3 = 1) ∧ Q r21_3 S21_2)
def w_X8_readStep_128 (Q : Int32 → St → Prop) (v1 : Int32) (v2 : Int32) (S : St) : Prop :=
 w_X4_addStep 11 v1 v2 (gI S 7 7) S (fun S138_8 => Q (1 : Int32) S138_8)
def w_X8_readStep_108 (Q : Int32 → St → Prop) (v1 : Int32) (v2 : Int32) (t0 : Int32) (S : St) : Prop :=
 (if v1 < (134 : Int32) then (w_X8_readStep_128 Q v1 v2 S) else (w_X8_takeNumber (0 : Int32) t0 v2 S (fun r120_10 S120_9 => (if r120_10 = 0 then (Q (0 : Int32) S120_9) else (w_X8_readStep_128 Q v1 v2 S120_9)))))
def w_X8_readStep_87 (Q : Int32 → St → Prop) (v1 : Int32) (v2 : Int32) (S : St) : Prop :=
 (if v1 = (135 : Int32) then (w_X8_readStep_108 Q v1 v2 ((gI S 11 0) - (1 : Int32)) S) else (w_X8_readStep_108 Q v1 v2 (11 : Int32) S))
def w_X8_readStep (S : St) (Q : Int32 → St → Prop) : Prop :=
 ∀ x4_1, x4_1 = gI S 7 5 → (if x4_1 < (130 : Int32) then (w_X8_readStep_19 Q S) else ((if x4_1 ≤ (135 : Int32) then ((if gI S 11 1 < (8 : Int32) then (w_X8_holdToken ((gI S 7 4) + (1 : Int32)) S (fun S50_4 => (if x4_1 = (135 : Int32) then (w_X8_takeNumber (0 : Int32) ((gI S50_4 11 0) - (1 : Int32)) (-1 : Int32) S50_4 (fun r74_6 S74_5 => (if r74_6 = 0 then (Q (0 : Int32) S74_5) else (∀ x86_7, x86_7 = gI S74_5 7 7 → w_X8_readStep_87 Q x4_1 x86_7 S74_5)))) else (w_X8_readStep_87 Q x4_1 (-1 : Int32) S50_4)))) else (w_X8_isWrong (5 : Int32) S (fun r39_12 S39_11 => (r39_12 = 0 ∨ r39_12 = 1) ∧ Q r39_12 S39_11)))) else (w_X8_readStep_19 Q S))))
-- X8_readTurn
def b_X8_readTurn_17 (Q : Int32 → St → Prop) (k17 : Int32 → Int32 → St → Prop) (v1 : Int32) (v2 : Int32) (S : St) : Prop :=
 (if (8 : Int32) ≤ v2 then ((v1 = 0 ∨ v1 = 1) ∧ Q v1 S) else ((if v1 = 0 then ((v1 = 0 ∨ v1 = 1) ∧ Q v1 S) else ((if gI S 7 5 = (59 : Int32) then ((v1 = 0 ∨ v1 = 1) ∧ Q v1 S) else (w_X8_readStep S (fun r37_5 S37_4 => ∀ x41_6, x41_6 = v2 + (1 : Int32) → k17 r37_5 x41_6 S37_4)))))))
def w_X8_readTurn_17 (Q : Int32 → St → Prop) (v1 : Int32) (v2 : Int32) (S : St) : Prop := ∃ n, lpn (fun _ _ _ => False) (b_X8_readTurn_17 Q) n v1 v2 S
def w_X8_readTurn (S : St) (Q : Int32 → St → Prop) : Prop :=
 w_X8_holdToken ((gI S 7 4) + (1 : Int32)) S (fun S7_1 => w_X8_readStep S7_1 (fun r11_3 S11_2 => w_X8_readTurn_17 Q r11_3 (0 : Int32) S11_2))
-- X4_addRhyme
def w_X4_addRhyme (o : Nat) (p0 : Int32) (p1 : Int32) (S : St) (Q : St → Prop) : Prop :=
 w_X11_cell (o + 2) p0 S (fun r10_2 S10_1 => w_X11_put (o + 2) p0 (r10_2 ||| ((1 : Int32) <<< (p1 &&& 31))) S10_1 (fun S17_3 => w_X11_cell (o + 2) p1 S17_3 (fun r30_5 S30_4 => w_X11_put (o + 2) p1 (r30_5 ||| ((1 : Int32) <<< (p0 &&& 31))) S30_4 (fun S37_6 => ∀ S47_7, S47_7 = sI S37_6 o 2 ((gI S37_6 o 2) + (1 : Int32)) → Q S47_7))))
-- X8_readRhyme
def w_X8_readRhyme (S : St) (Q : Int32 → St → Prop) : Prop :=
 (if gI S 11 2 < (8 : Int32) then (w_X8_holdToken ((gI S 7 4) + (1 : Int32)) S (fun S25_1 => w_X8_takeNumber (0 : Int32) ((gI S25_1 11 0) - (1 : Int32)) (-1 : Int32) S25_1 (fun r40_3 S40_2 => (if r40_3 = 0 then (Q (0 : Int32) S40_2) else (∀ x52_4, x52_4 = gI S40_2 7 7 → w_X8_takeNumber (0 : Int32) ((gI S40_2 11 0) - (1 : Int32)) x52_4 S40_2 (fun r65_6 S65_5 => (if r65_6 = 0 then (Q (0 : Int32) S65_5) else (w_X4_addRhyme 11 x52_4 (gI S65_5 7 7) S65_5 (fun S82_7 => Q (1 : Int32) S82_7))))))))) else (w_X8_isWrong (5 : Int32) S (fun r14_9 S14_8 => (r14_9 = 0 ∨ r14_9 = 1) ∧ Q r14_9 S14_8)))
-- X4_addWhole
def w_X4_addWhole (o : Nat) (p0 : Int32) (p1 : Int32) (S : St) (Q : St → Prop) : Prop :=
 w_X11_put (o + 3) p0 p1 S (fun S6_1 => ∀ S16_2, S16_2 = sI S6_1 o 3 ((gI S6_1 o 3) + (1 : Int32)) → Q S16_2)
-- X8_readWhole
def w_X8_readWhole_45 (Q : Int32 → St → Prop) (t0 : Int32) (S : St) : Prop :=
 w_X8_takeNumber (0 : Int32) ((gI S 11 0) - (1 : Int32)) t0 S (fun r58_5 S58_4 => (if r58_5 = 0 then (Q (0 : Int32) S58_4) else (∀ x70_6, x70_6 = gI S58_4 7 7 → w_X8_takeKey (138 : Int32) S58_4 (fun r75_8 S75_7 => (if r75_8 = 0 then (Q (0 : Int32) S75_7) else (w_X8_takeNumber (1 : Int32) (99 : Int32) (-1 : Int32) S75_7 (fun r86_10 S86_9 => (if r86_10 = 0 then (Q (0 : Int32) S86_9) else (w_X4_addWhole 11 x70_6 (gI S86_9 7 7) S86_9 (fun S103_11 => Q (1 : Int32) S103_11))))))))))
def w_X8_readWhole_44 (Q : Int32 → St → Prop) (S : St) : Prop :=
 w_X8_readWhole_45 Q (-1 : Int32) S
def w_X8_readWhole (S : St) (Q : Int32 → St → Prop) : Prop :=
 w_X8_holdToken ((gI S 7 4) + (1 : Int32)) S (fun S7_1 => (if gI S7_1 7 5 = (2 : Int32) then (w_X11_cell 14 ((gJ S7_1 7 6).toInt32) S7_1 (fun r30_3 S30_2 => (if r30_3 ≤ 0 then (w_X8_readWhole_44 Q S30_2) else (w_X8_readWhole_45 Q ((gJ S30_2 7 6).toInt32) S30_2)))) else (w_X8_readWhole_44 Q S7_1)))
-- X8_readFeet
def w_X8_readFeet (S : St) (Q : Int32 → St → Prop) : Prop :=
 (if gI S 11 4 ≤ 0 then (w_X8_holdToken ((gI S 7 4) + (1 : Int32)) S (fun S23_1 => w_X8_takeNumber (1 : Int32) (99 : Int32) (-1 : Int32) S23_1 (fun r31_3 S31_2 => (if r31_3 = 0 then (Q (0 : Int32) S31_2) else (∀ S47_4, S47_4 = sI S31_2 11 4 (gI S31_2 7 7) → Q (1 : Int32) S47_4))))) else (w_X8_isWrong (3 : Int32) S (fun r12_6 S12_5 => (r12_6 = 0 ∨ r12_6 = 1) ∧ Q r12_6 S12_5)))
-- X8_takeName
def w_X8_takeName_113 (Q : Int32 → St → Prop) (S : St) : Prop :=
 w_X8_holdToken ((gI S 7 4) + (1 : Int32)) S (fun S120_1 => Q (1 : Int32) S120_1)
def w_X8_takeName_72 (Q : Int32 → St → Prop) (S : St) : Prop :=
 (if gI S 11 5 < 0 then (w_X8_takeName_113 Q S) else ((if (12 : Int32) ≤ gI S 11 5 then (w_X8_takeName_113 Q S) else (vp_in (gI S 11 5) 12 ∧ (∀ S112_2, S112_2 = sJ S 20 (gI S 11 5).toNatClampNeg (gJ S 7 6) → w_X8_takeName_113 Q S112_2)))))
def b_X8_takeName_26 (Q : Int32 → St → Prop) (k26 : Int32 → St → Prop) (v1 : Int32) (S : St) : Prop :=
 (if gI S 11 5 ≤ v1 then (w_X8_takeName_72 Q S) else ((if (12 : Int32) ≤ v1 then (w_X8_takeName_72 Q S) else (vp_in v1 12 ∧ ((if gJ S 20 v1.toNatClampNeg = gJ S 7 6 then (w_X8_isWrong (3 : Int32) S (fun r62_4 S62_3 => (r62_4 = 0 ∨ r62_4 = 1) ∧ Q r62_4 S62_3)) else (∀ x66_5, x66_5 = v1 + (1 : Int32) → k26 x66_5 S)))))))
def w_X8_takeName_26 (Q : Int32 → St → Prop) (v1 : Int32) (S : St) : Prop := ∃ n, lpn (fun _ _ => False) (b_X8_takeName_26 Q) n v1 S
def w_X8_takeName (S : St) (Q : Int32 → St → Prop) : Prop :=
 (if gI S 7 5 = (3 : Int32) then (w_X8_takeName_26 Q (0 : Int32) S) else ((if (147 : Int32) ≤ gI S 7 5 then (w_X8_takeName_26 Q (0 : Int32) S) else (w_X8_isWrong (1 : Int32) S (fun r20_7 S20_6 => (r20_7 = 0 ∨ r20_7 = 1) ∧ Q r20_7 S20_6)))))
-- X4_addWord
def w_X4_addWord (o : Nat) (p0 : Int32) (p1 : Int32) (p2 : Int32) (S : St) (Q : St → Prop) : Prop :=
 w_X11_put (o + 4) (gI S o 5) p0 S (fun S9_1 => w_X11_put (o + 5) (gI S9_1 o 5) p1 S9_1 (fun S21_2 => w_X11_put (o + 6) (gI S21_2 o 5) p2 S21_2 (fun S33_3 => ∀ S43_4, S43_4 = sI S33_3 o 5 ((gI S33_3 o 5) + (1 : Int32)) → Q S43_4)))
-- X8_readWord
def w_X8_readWord (S : St) (Q : Int32 → St → Prop) : Prop :=
 (if gI S 11 5 < (12 : Int32) then (w_X8_holdToken ((gI S 7 4) + (1 : Int32)) S (fun S25_1 => w_X8_takeName S25_1 (fun r29_3 S29_2 => (if r29_3 = 0 then (Q (0 : Int32) S29_2) else (w_X8_takeKey (136 : Int32) S29_2 (fun r39_5 S39_4 => (if r39_5 = 0 then (Q (0 : Int32) S39_4) else (w_X8_takeNumber (0 : Int32) (99 : Int32) (-1 : Int32) S39_4 (fun r50_7 S50_6 => (if r50_7 = 0 then (Q (0 : Int32) S50_6) else (∀ x62_8, x62_8 = gI S50_6 7 7 → w_X8_takeKey (141 : Int32) S50_6 (fun r67_10 S67_9 => (if r67_10 = 0 then (Q (0 : Int32) S67_9) else (w_X8_takeNumber (1 : Int32) (9 : Int32) (-1 : Int32) S67_9 (fun r78_12 S78_11 => (if r78_12 = 0 then (Q (0 : Int32) S78_11) else (∀ x90_13, x90_13 = gI S78_11 7 7 → w_X8_takeKey (142 : Int32) S78_11 (fun r95_15 S95_14 => (if r95_15 = 0 then (Q (0 : Int32) S95_14) else (w_X8_takeNumber (0 : Int32) (99 : Int32) (-1 : Int32) S95_14 (fun r106_17 S106_16 => (if r106_17 = 0 then (Q (0 : Int32) S106_16) else (w_X4_addWord 11 x62_8 x90_13 (gI S106_16 7 7) S106_16 (fun S124_18 => Q (1 : Int32) S124_18)))))))))))))))))))))))) else (w_X8_isWrong (5 : Int32) S (fun r14_20 S14_19 => (r14_20 = 0 ∨ r14_20 = 1) ∧ Q r14_20 S14_19)))
-- X0_add
def w_X0_add (p0 : Int32) (S : St) (Q : St → Prop) : Prop :=
 w_X11_put 9 (gI S 8 1) p0 S (fun S9_1 => ∀ S19_2, S19_2 = sI S9_1 8 1 ((gI S9_1 8 1) + (1 : Int32)) → Q S19_2)
-- X8_readProduct
def b_X8_readProduct_8 (p0 : Int32) (rec : Int32 → St → (Int32 → St → Prop) → Prop) (Q : Int32 → St → Prop) (k8 : Int32 → Int32 → St → Prop) (v2 : Int32) (v3 : Int32) (S : St) : Prop :=
 (if (1000 : Int32) ≤ v3 then ((v2 = 0 ∨ v2 = 1) ∧ Q v2 S) else ((if v2 = 0 then ((v2 = 0 ∨ v2 = 1) ∧ Q v2 S) else ((if gI S 7 5 = (42 : Int32) then (w_X8_holdToken ((gI S 7 4) + (1 : Int32)) S (fun S35_3 => rec p0 S35_3 (fun r40_5 S40_4 => w_X0_add (10042 : Int32) S40_4 (fun S51_6 => ∀ x54_7, x54_7 = v3 + (1 : Int32) → k8 r40_5 x54_7 S51_6)))) else ((v2 = 0 ∨ v2 = 1) ∧ Q v2 S))))))
def w_X8_readProduct_8 (p0 : Int32) (rec : Int32 → St → (Int32 → St → Prop) → Prop) (Q : Int32 → St → Prop) (v2 : Int32) (v3 : Int32) (S : St) : Prop := ∃ n, lpn (fun _ _ _ => False) (b_X8_readProduct_8 p0 rec Q) n v2 v3 S
def w_X8_readProduct (rec : Int32 → St → (Int32 → St → Prop) → Prop) (p0 : Int32) (S : St) (Q : Int32 → St → Prop) : Prop :=
 rec p0 S (fun r2_2 S2_1 => w_X8_readProduct_8 p0 rec Q r2_2 (0 : Int32) S2_1)
-- X8_readSum
def w_X8_readSum_37 (p0 : Int32) (rec : Int32 → St → (Int32 → St → Prop) → Prop) (k8 : Int32 → Int32 → St → Prop) (v3 : Int32) (S : St) : Prop :=
 ∀ x41_3, x41_3 = gI S 7 5 → w_X8_holdToken ((gI S 7 4) + (1 : Int32)) S (fun S50_4 => w_X8_readProduct rec p0 S50_4 (fun r55_6 S55_5 => w_X0_add ((10000 : Int32) + x41_3) S55_5 (fun S69_7 => ∀ x72_8, x72_8 = v3 + (1 : Int32) → k8 r55_6 x72_8 S69_7)))
def b_X8_readSum_8 (p0 : Int32) (rec : Int32 → St → (Int32 → St → Prop) → Prop) (Q : Int32 → St → Prop) (k8 : Int32 → Int32 → St → Prop) (v2 : Int32) (v3 : Int32) (S : St) : Prop :=
 (if (1000 : Int32) ≤ v3 then ((v2 = 0 ∨ v2 = 1) ∧ Q v2 S) else ((if v2 = 0 then ((v2 = 0 ∨ v2 = 1) ∧ Q v2 S) else ((if gI S 7 5 = (43 : Int32) then (w_X8_readSum_37 p0 rec k8 v3 S) else ((if gI S 7 5 = (45 : Int32) then (w_X8_readSum_37 p0 rec k8 v3 S) else ((v2 = 0 ∨ v2 = 1) ∧ Q v2 S))))))))
def w_X8_readSum_8 (p0 : Int32) (rec : Int32 → St → (Int32 → St → Prop) → Prop) (Q : Int32 → St → Prop) (v2 : Int32) (v3 : Int32) (S : St) : Prop := ∃ n, lpn (fun _ _ _ => False) (b_X8_readSum_8 p0 rec Q) n v2 v3 S
def w_X8_readSum (rec : Int32 → St → (Int32 → St → Prop) → Prop) (p0 : Int32) (S : St) (Q : Int32 → St → Prop) : Prop :=
 w_X8_readProduct rec p0 S (fun r2_2 S2_1 => w_X8_readSum_8 p0 rec Q r2_2 (0 : Int32) S2_1)
-- X8_readTest
def w_X8_readTest_28 (p0 : Int32) (rec : Int32 → St → (Int32 → St → Prop) → Prop) (Q : Int32 → St → Prop) (S : St) : Prop :=
 ∀ x32_3, x32_3 = gI S 7 5 → w_X8_holdToken ((gI S 7 4) + (1 : Int32)) S (fun S40_4 => w_X8_readSum rec p0 S40_4 (fun r45_6 S45_5 => w_X0_add ((10000 : Int32) + x32_3) S45_5 (fun S58_7 => (r45_6 = 0 ∨ r45_6 = 1) ∧ Q r45_6 S58_7)))
def w_X8_readTest (rec : Int32 → St → (Int32 → St → Prop) → Prop) (p0 : Int32) (S : St) (Q : Int32 → St → Prop) : Prop :=
 w_X8_readSum rec p0 S (fun r2_2 S2_1 => (if r2_2 = 0 then ((r2_2 = 0 ∨ r2_2 = 1) ∧ Q r2_2 S2_1) else ((if gI S2_1 7 5 = (60 : Int32) then (w_X8_readTest_28 p0 rec Q S2_1) else ((if gI S2_1 7 5 = (61 : Int32) then (w_X8_readTest_28 p0 rec Q S2_1) else ((r2_2 = 0 ∨ r2_2 = 1) ∧ Q r2_2 S2_1)))))))
-- X8_readTests
def w_X8_readTests_39 (p0 : Int32) (rec : Int32 → St → (Int32 → St → Prop) → Prop) (k8 : Int32 → Int32 → St → Prop) (v3 : Int32) (S : St) : Prop :=
 ∀ x43_3, x43_3 = gI S 7 5 → w_X8_holdToken ((gI S 7 4) + (1 : Int32)) S (fun S52_4 => w_X8_readTest rec p0 S52_4 (fun r57_6 S57_5 => w_X0_add ((10000 : Int32) + x43_3) S57_5 (fun S71_7 => ∀ x74_8, x74_8 = v3 + (1 : Int32) → k8 r57_6 x74_8 S71_7)))
def b_X8_readTests_8 (p0 : Int32) (rec : Int32 → St → (Int32 → St → Prop) → Prop) (Q : Int32 → St → Prop) (k8 : Int32 → Int32 → St → Prop) (v2 : Int32) (v3 : Int32) (S : St) : Prop :=
 (if (1000 : Int32) ≤ v3 then ((v2 = 0 ∨ v2 = 1) ∧ Q v2 S) else ((if v2 = 0 then ((v2 = 0 ∨ v2 = 1) ∧ Q v2 S) else ((if gI S 7 5 = (145 : Int32) then (w_X8_readTests_39 p0 rec k8 v3 S) else ((if gI S 7 5 = (146 : Int32) then (w_X8_readTests_39 p0 rec k8 v3 S) else ((v2 = 0 ∨ v2 = 1) ∧ Q v2 S))))))))
def w_X8_readTests_8 (p0 : Int32) (rec : Int32 → St → (Int32 → St → Prop) → Prop) (Q : Int32 → St → Prop) (v2 : Int32) (v3 : Int32) (S : St) : Prop := ∃ n, lpn (fun _ _ _ => False) (b_X8_readTests_8 p0 rec Q) n v2 v3 S
def w_X8_readTests (rec : Int32 → St → (Int32 → St → Prop) → Prop) (p0 : Int32) (S : St) (Q : Int32 → St → Prop) : Prop :=
 w_X8_readTest rec p0 S (fun r2_2 S2_1 => w_X8_readTests_8 p0 rec Q r2_2 (0 : Int32) S2_1)
-- X8_readPart
def w_X8_readPart_131 (Q : Int32 → St → Prop) (t0 : Int32) (S : St) : Prop :=
 w_X0_add t0 S (fun S131_10 => Q (1 : Int32) S131_10)
def w_X8_readPart_113 (Q : Int32 → St → Prop) (v2 : Int32) (v3 : Int32) (S : St) : Prop :=
 (if v2 = (2 : Int32) then (w_X8_readPart_131 Q v3 S) else (w_X8_readPart_131 Q ((10000 : Int32) + v2) S))
def w_X8_readPart_36 (p0 : Int32) (rec : Int32 → St → (Int32 → St → Prop) → Prop) (Q : Int32 → St → Prop) (v2 : Int32) (S : St) : Prop :=
 (if p0 < (5 : Int32) then (∀ x52_2, x52_2 = (gJ S 7 6).toInt32 → w_X8_holdToken ((gI S 7 4) + (1 : Int32)) S (fun S60_3 => (if v2 = (40 : Int32) then (w_X8_readTests rec (p0 + (1 : Int32)) S60_3 (fun r73_5 S73_4 => (if r73_5 = 0 then (Q (0 : Int32) S73_4) else (w_X8_takeKey (41 : Int32) S73_4 (fun r82_7 S82_6 => (if r82_7 = 0 then (Q (0 : Int32) S82_6) else (Q (1 : Int32) S82_6))))))) else ((if v2 = (144 : Int32) then (rec (p0 + (1 : Int32)) S60_3 (fun r105_9 S105_8 => (if r105_9 = 0 then (Q (0 : Int32) S105_8) else (w_X8_readPart_113 Q v2 x52_2 S105_8)))) else (w_X8_readPart_113 Q v2 x52_2 S60_3)))))) else (w_X8_isWrong (5 : Int32) S (fun r43_12 S43_11 => (r43_12 = 0 ∨ r43_12 = 1) ∧ Q r43_12 S43_11)))
def u_X8_readPart (rec : Int32 → St → (Int32 → St → Prop) → Prop) (p0 : Int32) (S : St) (Q : Int32 → St → Prop) : Prop :=
 ∀ x4_1, x4_1 = gI S 7 5 → (if x4_1 = (2 : Int32) then (w_X8_readPart_36 p0 rec Q x4_1 S) else ((if x4_1 = (144 : Int32) then (w_X8_readPart_36 p0 rec Q x4_1 S) else ((if x4_1 = (40 : Int32) then (w_X8_readPart_36 p0 rec Q x4_1 S) else ((if (147 : Int32) ≤ x4_1 then (w_X8_readPart_36 p0 rec Q x4_1 S) else (w_X8_isWrong (1 : Int32) S (fun r32_14 S32_13 => (r32_14 = 0 ∨ r32_14 = 1) ∧ Q r32_14 S32_13)))))))))
def w_X8_readPart : Nat → Int32 → St → (Int32 → St → Prop) → Prop
  | 0 => fun _ _ _ => False
  | d + 1 => u_X8_readPart (w_X8_readPart d)
-- X8_readBar
def w_X8_readBar (S : St) (Q : Int32 → St → Prop) : Prop :=
 (if gI S 11 6 < (4 : Int32) then (w_X8_holdToken ((gI S 7 4) + (1 : Int32)) S (fun S24_1 => ∃ d29_4, d29_4 ≤ 32 ∧ w_X8_readTests (w_X8_readPart d29_4) (0 : Int32) S24_1 (fun r29_3 S29_2 => (if r29_3 = 0 then (Q (0 : Int32) S29_2) else (w_X0_add (10059 : Int32) S29_2 (fun S44_5 => ∀ S57_6, S57_6 = sI S44_5 11 6 ((gI S44_5 11 6) + (1 : Int32)) → Q (1 : Int32) S57_6)))))) else (w_X8_isWrong (5 : Int32) S (fun r13_8 S13_7 => (r13_8 = 0 ∨ r13_8 = 1) ∧ Q r13_8 S13_7)))
-- X8_readLine
def w_X8_readLine (S : St) (Q : Int32 → St → Prop) : Prop :=
 ∀ x4_1, x4_1 = gI S 7 5 → (if x4_1 = (129 : Int32) then (w_X8_readTurn S (fun r81_3 S81_2 => (r81_3 = 0 ∨ r81_3 = 1) ∧ Q r81_3 S81_2)) else (if x4_1 = (130 : Int32) then (w_X8_isWrong (1 : Int32) S (fun r112_5 S112_4 => (r112_5 = 0 ∨ r112_5 = 1) ∧ Q r112_5 S112_4)) else (if x4_1 = (131 : Int32) then (w_X8_isWrong (1 : Int32) S (fun r112_7 S112_6 => (r112_7 = 0 ∨ r112_7 = 1) ∧ Q r112_7 S112_6)) else (if x4_1 = (132 : Int32) then (w_X8_isWrong (1 : Int32) S (fun r112_9 S112_8 => (r112_9 = 0 ∨ r112_9 = 1) ∧ Q r112_9 S112_8)) else (if x4_1 = (133 : Int32) then (w_X8_isWrong (1 : Int32) S (fun r112_11 S112_10 => (r112_11 = 0 ∨ r112_11 = 1) ∧ Q r112_11 S112_10)) else (if x4_1 = (134 : Int32) then (w_X8_isWrong (1 : Int32) S (fun r112_13 S112_12 => (r112_13 = 0 ∨ r112_13 = 1) ∧ Q r112_13 S112_12)) else (if x4_1 = (135 : Int32) then (w_X8_isWrong (1 : Int32) S (fun r112_15 S112_14 => (r112_15 = 0 ∨ r112_15 = 1) ∧ Q r112_15 S112_14)) else (if x4_1 = (136 : Int32) then (w_X8_readRhyme S (fun r86_17 S86_16 => (r86_17 = 0 ∨ r86_17 = 1) ∧ Q r86_17 S86_16)) else (if x4_1 = (137 : Int32) then (w_X8_readWhole S (fun r91_19 S91_18 => (r91_19 = 0 ∨ r91_19 = 1) ∧ Q r91_19 S91_18)) else (if x4_1 = (138 : Int32) then (w_X8_isWrong (1 : Int32) S (fun r112_21 S112_20 => (r112_21 = 0 ∨ r112_21 = 1) ∧ Q r112_21 S112_20)) else (if x4_1 = (139 : Int32) then (w_X8_readFeet S (fun r96_23 S96_22 => (r96_23 = 0 ∨ r96_23 = 1) ∧ Q r96_23 S96_22)) else (if x4_1 = (140 : Int32) then (w_X8_readWord S (fun r101_25 S101_24 => (r101_25 = 0 ∨ r101_25 = 1) ∧ Q r101_25 S101_24)) else (if x4_1 = (141 : Int32) then (w_X8_isWrong (1 : Int32) S (fun r112_27 S112_26 => (r112_27 = 0 ∨ r112_27 = 1) ∧ Q r112_27 S112_26)) else (if x4_1 = (142 : Int32) then (w_X8_isWrong (1 : Int32) S (fun r112_29 S112_28 => (r112_29 = 0 ∨ r112_29 = 1) ∧ Q r112_29 S112_28)) else (if x4_1 = (143 : Int32) then (w_X8_readBar S (fun r106_31 S106_30 => (r106_31 = 0 ∨ r106_31 = 1) ∧ Q r106_31 S106_30)) else w_X8_isWrong (1 : Int32) S (fun r112_33 S112_32 => (r112_33 = 0 ∨ r112_33 = 1) ∧ Q r112_33 S112_32))))))))))))))))
-- X0_push
def w_X0_push (p0 : Int32) (S : St) (Q : St → Prop) : Prop :=
 w_X11_put 10 (gI S 8 3) p0 S (fun S9_1 => ∀ S19_2, S19_2 = sI S9_1 8 3 ((gI S9_1 8 3) + (1 : Int32)) → Q S19_2)
-- X4_areRhyming
def w_X4_areRhyming (o : Nat) (p0 : Int32) (p1 : Int32) (S : St) (Q : Int32 → St → Prop) : Prop :=
 w_X11_cell (o + 4) p0 S (fun r5_2 S5_1 => w_X11_cell (o + 4) p1 S5_1 (fun r13_4 S13_3 => (if r5_2 = r13_4 then (Q (1 : Int32) S13_3) else (Q (0 : Int32) S13_3))))
-- X0_factOf
def w_X0_factOf (p0 : Int32) (p1 : Nat) (p2 : Int32) (p3 : Int32) (S : St) (Q : Int32 → St → Prop) : Prop :=
 (if p0 = (147 : Int32) then (w_X11_cell (p1 + 6) p2 S (fun r37_3 S37_2 => Q r37_3 S37_2)) else (if p0 = (148 : Int32) then (w_X11_cell (p1 + 6) p3 S (fun r46_5 S46_4 => Q r46_5 S46_4)) else (if p0 = (149 : Int32) then (w_X11_cell (p1 + 5) p2 S (fun r55_7 S55_6 => Q r55_7 S55_6)) else (if p0 = (150 : Int32) then (w_X11_cell (p1 + 5) p3 S (fun r64_9 S64_8 => Q r64_9 S64_8)) else w_X4_areRhyming p1 p2 p3 S (fun r71_11 S71_10 => (if r71_11 = 0 then (Q (0 : Int32) S71_10) else (Q (1 : Int32) S71_10)))))))
-- X0_pop
def w_X0_pop (S : St) (Q : Int32 → St → Prop) : Prop :=
 ∀ S7_1, S7_1 = sI S 8 3 ((gI S 8 3) - (1 : Int32)) → w_X11_cell 10 (gI S7_1 8 3) S7_1 (fun r18_3 S18_2 => Q r18_3 S18_2)
-- X0_joined
def w_X0_joined (p0 : Int32) (p1 : Int32) (p2 : Int32) (S : St) (Q : Int32 → St → Prop) : Prop :=
 (if p0 = (42 : Int32) then (Q (p1 * p2) S) else (if p0 = (43 : Int32) then (Q (p1 + p2) S) else (if p0 = (45 : Int32) then (Q (p1 - p2) S) else (if p0 = (60 : Int32) then ((if p2 ≤ p1 then (Q (0 : Int32) S) else (Q (1 : Int32) S))) else (if p0 = (61 : Int32) then ((if p1 = p2 then (Q (1 : Int32) S) else (Q (0 : Int32) S))) else (if p0 = (145 : Int32) then ((if p1 = 0 then (Q (0 : Int32) S) else ((if p2 = 0 then (Q (0 : Int32) S) else (Q (1 : Int32) S))))) else (if p1 = 0 then ((if p2 = 0 then (Q (0 : Int32) S) else (Q (1 : Int32) S))) else (Q (1 : Int32) S))))))))
-- X0_holds
def w_X0_holds_93 (p0 : Nat) (p1 : Int32) (p2 : Int32) (k8 : Int32 → St → Prop) (v4 : Int32) (t0 : Int32) (S : St) : Prop :=
 w_X0_push t0 S (fun S93_6 => ∀ x144_7, x144_7 = v4 + (1 : Int32) → k8 x144_7 S93_6)
def b_X0_holds_8 (p0 : Nat) (p1 : Int32) (p2 : Int32) (Q : Int32 → St → Prop) (k8 : Int32 → St → Prop) (v4 : Int32) (S : St) : Prop :=
 (if gI S 8 1 ≤ v4 then (Q (0 : Int32) S) else (w_X11_cell 9 v4 S (fun r23_3 S23_2 => (if (10000 : Int32) ≤ r23_3 then ((if r23_3 < (10147 : Int32) then ((if r23_3 = (10144 : Int32) then (w_X0_pop S23_2 (fun r82_5 S82_4 => (if r82_5 = 0 then (w_X0_holds_93 p0 p1 p2 k8 v4 (1 : Int32) S82_4) else (w_X0_holds_93 p0 p1 p2 k8 v4 (0 : Int32) S82_4)))) else ((if r23_3 = (10059 : Int32) then (w_X0_pop S23_2 (fun r136_9 S136_8 => (if r136_9 = 0 then (∀ x144_10, x144_10 = v4 + (1 : Int32) → k8 x144_10 S136_8) else (Q (1 : Int32) S136_8)))) else (w_X0_pop S23_2 (fun r108_12 S108_11 => w_X0_pop S108_11 (fun r121_14 S121_13 => w_X0_joined (r23_3 - (10000 : Int32)) r121_14 r108_12 S121_13 (fun r126_16 S126_15 => w_X0_push r126_16 S126_15 (fun S129_17 => ∀ x144_18, x144_18 = v4 + (1 : Int32) → k8 x144_18 S129_17))))))))) else (w_X0_factOf (r23_3 - (10000 : Int32)) p0 p1 p2 S23_2 (fun r63_20 S63_19 => w_X0_push r63_20 S63_19 (fun S66_21 => ∀ x144_22, x144_22 = v4 + (1 : Int32) → k8 x144_22 S66_21))))) else (w_X0_push r23_3 S23_2 (fun S39_23 => ∀ x144_24, x144_24 = v4 + (1 : Int32) → k8 x144_24 S39_23))))))
def w_X0_holds_8 (p0 : Nat) (p1 : Int32) (p2 : Int32) (Q : Int32 → St → Prop) (v4 : Int32) (S : St) : Prop := ∃ n, lpn (fun _ _ => False) (b_X0_holds_8 p0 p1 p2 Q) n v4 S
def w_X0_holds (p0 : Nat) (p1 : Int32) (p2 : Int32) (S : St) (Q : Int32 → St → Prop) : Prop :=
 ∀ S2_1, S2_1 = sI S 8 3 (0 : Int32) → w_X0_holds_8 p0 p1 p2 Q (0 : Int32) S2_1
-- X0_weigh
def w_X0_weigh_44 (p0 : Nat) (k15 : Int32 → Int32 → St → Prop) (v2 : Int32) (v4 : Int32) (t0 : Int32) (t1 : Int32) (S : St) : Prop :=
 ∀ x45_5, x45_5 = t1 ||| t0 → ∀ x46_6, x46_6 = v4 + (1 : Int32) → k15 x45_5 x46_6 S
def b_X0_weigh_15 (p0 : Nat) (k2 : Int32 → St → Prop) (v2 : Int32) (k15 : Int32 → Int32 → St → Prop) (v3 : Int32) (v4 : Int32) (S : St) : Prop :=
 (if gI S p0 5 ≤ v4 then (w_X11_put (p0 + 7) v2 v3 S (fun S58_1 => ∀ x61_2, x61_2 = v2 + (1 : Int32) → k2 x61_2 S58_1)) else (w_X0_holds p0 v2 v4 S (fun r30_4 S30_3 => (if r30_4 = 0 then (w_X0_weigh_44 p0 k15 v2 v4 (0 : Int32) v3 S30_3) else (w_X0_weigh_44 p0 k15 v2 v4 ((1 : Int32) <<< (v4 &&& 31)) v3 S30_3)))))
def w_X0_weigh_15 (p0 : Nat) (k2 : Int32 → St → Prop) (v2 : Int32) (v3 : Int32) (v4 : Int32) (S : St) : Prop := ∃ n, lpn (fun _ _ _ => False) (b_X0_weigh_15 p0 k2 v2) n v3 v4 S
def b_X0_weigh_2 (p0 : Nat) (Q : St → Prop) (k2 : Int32 → St → Prop) (v2 : Int32) (S : St) : Prop :=
 (if gI S p0 5 ≤ v2 then (Q S) else (w_X0_weigh_15 p0 k2 v2 (0 : Int32) (0 : Int32) S))
def w_X0_weigh_2 (p0 : Nat) (Q : St → Prop) (v2 : Int32) (S : St) : Prop := ∃ n, lpn (fun _ _ => False) (b_X0_weigh_2 p0 Q) n v2 S
def w_X0_weigh (p0 : Nat) (S : St) (Q : St → Prop) : Prop :=
 w_X0_weigh_2 p0 Q (0 : Int32) S
-- X8_read
def w_X8_read_138 (Q : Int32 → St → Prop) (v1 : Int32) (S : St) : Prop :=
 (if v1 = 0 then (Q (gI S 7 8) S) else (w_X0_weigh 11 S (fun S150_8 => Q (gI S150_8 7 8) S150_8)))
def w_X8_read_131 (k92 : Int32 → Int32 → St → Prop) (v2 : Int32) (t0 : Int32) (S : St) : Prop :=
 ∀ x132_11, x132_11 = v2 + (1 : Int32) → k92 t0 x132_11 S
def w_X8_read_130 (k92 : Int32 → Int32 → St → Prop) (v2 : Int32) (S : St) : Prop :=
 w_X8_read_131 k92 v2 (0 : Int32) S
def b_X8_read_92 (Q : Int32 → St → Prop) (k92 : Int32 → Int32 → St → Prop) (v1 : Int32) (v2 : Int32) (S : St) : Prop :=
 (if (1000 : Int32) ≤ v2 then (w_X8_read_138 Q v1 S) else ((if v1 = 0 then (w_X8_read_138 Q v1 S) else ((if gI S 7 5 = 0 then (w_X8_read_138 Q v1 S) else (w_X8_readLine S (fun r111_10 S111_9 => (if r111_10 = 0 then (w_X8_read_130 k92 v2 S111_9) else (w_X8_takeKey (59 : Int32) S111_9 (fun r120_13 S120_12 => (if r120_13 = 0 then (w_X8_read_130 k92 v2 S120_12) else (w_X8_read_131 k92 v2 (1 : Int32) S120_12))))))))))))
def w_X8_read_92 (Q : Int32 → St → Prop) (v1 : Int32) (v2 : Int32) (S : St) : Prop := ∃ n, lpn (fun _ _ _ => False) (b_X8_read_92 Q) n v1 v2 S
def w_X8_read_89 (Q : Int32 → St → Prop) (t0 : Int32) (S : St) : Prop :=
 w_X8_read_92 Q t0 (0 : Int32) S
def w_X8_read_88 (Q : Int32 → St → Prop) (S : St) : Prop :=
 w_X8_read_89 Q (0 : Int32) S
def w_X8_read_68 (Q : Int32 → St → Prop) (v1 : Int32) (t0 : Int32) (S : St) : Prop :=
 w_X4_begin 11 t0 S (fun S68_7 => (if v1 = 0 then (w_X8_read_88 Q S68_7) else (w_X8_takeKey (59 : Int32) S68_7 (fun r78_15 S78_14 => (if r78_15 = 0 then (w_X8_read_88 Q S78_14) else (w_X8_read_89 Q (1 : Int32) S78_14))))))
def w_X8_read_51 (Q : Int32 → St → Prop) (t0 : Int32) (S : St) : Prop :=
 (if t0 = 0 then (w_X8_read_68 Q t0 (1 : Int32) S) else (w_X8_read_68 Q t0 (gI S 7 7) S))
def w_X8_read_50 (Q : Int32 → St → Prop) (S : St) : Prop :=
 w_X8_read_51 Q (0 : Int32) S
def w_X8_read (S : St) (Q : Int32 → St → Prop) : Prop :=
 w_X10_cut S (fun S4_1 => ∀ S9_2, S9_2 = sI S4_1 7 8 (0 : Int32) → ∀ S17_3, S17_3 = sI S9_2 8 1 (0 : Int32) → w_X8_holdToken (0 : Int32) S17_3 (fun S22_4 => w_X8_takeKey (128 : Int32) S22_4 (fun r29_6 S29_5 => (if r29_6 = 0 then (w_X8_read_50 Q S29_5) else (w_X8_takeNumber (1 : Int32) (12 : Int32) (-1 : Int32) S29_5 (fun r40_17 S40_16 => (if r40_17 = 0 then (w_X8_read_50 Q S40_16) else (w_X8_read_51 Q (1 : Int32) S40_16))))))))
-- X4_copy
def w_X4_copy (o : Nat) (p0 : Nat) (S : St) (Q : St → Prop) : Prop :=
 ∀ S5_1, S5_1 = sI S o 0 (gI S p0 0) → ∀ S13_2, S13_2 = sI S5_1 o 1 (gI S5_1 p0 1) → ∀ S21_3, S21_3 = sI S13_2 o 2 (gI S13_2 p0 2) → ∀ S29_4, S29_4 = sI S21_3 o 3 (gI S21_3 p0 3) → ∀ S37_5, S37_5 = sI S29_4 o 4 (gI S29_4 p0 4) → ∀ S45_6, S45_6 = sI S37_5 o 5 (gI S37_5 p0 5) → ∀ S53_7, S53_7 = sI S45_6 o 6 (gI S45_6 p0 6) → w_X11_copyRow (p0 + 1) (o + 1) S53_7 (fun S64_8 => w_X11_copyRow (p0 + 2) (o + 2) S64_8 (fun S75_9 => w_X11_copyRow (p0 + 3) (o + 3) S75_9 (fun S86_10 => w_X11_copyRow (p0 + 4) (o + 4) S86_10 (fun S97_11 => w_X11_copyRow (p0 + 5) (o + 5) S97_11 (fun S108_12 => w_X11_copyRow (p0 + 6) (o + 6) S108_12 (fun S119_13 => w_X11_copyRow (p0 + 7) (o + 7) S119_13 (fun S130_14 => Q S130_14)))))))
-- X1_leastMultiple
def w_X1_leastMultiple_44 (p0 : Int64) (p1 : Int64) (Q : Int64 → St → Prop) (v4 : Int64) (S : St) : Prop :=
 (if v4 = (0 : Int64) then (Q (0 : Int64) S) else (¬ v4 = 0 ∧ (Q ((p0 / v4) * p1) S)))
def b_X1_leastMultiple_9 (p0 : Int64) (p1 : Int64) (Q : Int64 → St → Prop) (k9 : Int64 → Int64 → Int32 → St → Prop) (v4 : Int64) (v6 : Int64) (v8 : Int32) (S : St) : Prop :=
 (if (100 : Int32) ≤ v8 then (w_X1_leastMultiple_44 p0 p1 Q v4 S) else ((if v6 = (0 : Int64) then (w_X1_leastMultiple_44 p0 p1 Q v4 S) else (¬ v6 = 0 ∧ (∀ x28_1, x28_1 = v4 - v4 / v6 * v6 → ∀ x38_2, x38_2 = v8 + (1 : Int32) → k9 v6 x28_1 x38_2 S)))))
def w_X1_leastMultiple_9 (p0 : Int64) (p1 : Int64) (Q : Int64 → St → Prop) (v4 : Int64) (v6 : Int64) (v8 : Int32) (S : St) : Prop := ∃ n, lpn (fun _ _ _ _ => False) (b_X1_leastMultiple_9 p0 p1 Q) n v4 v6 v8 S
def w_X1_leastMultiple (p0 : Int64) (p1 : Int64) (S : St) (Q : Int64 → St → Prop) : Prop :=
 w_X1_leastMultiple_9 p0 p1 Q p0 p1 (0 : Int32) S
-- X1_addCycle
def w_X1_addCycle_114 (o : Nat) (Q : St → Prop) (v3 : Int32) (t0 : Int32) (t1 : Int32) (S : St) : Prop :=
 ∀ S115_5, S115_5 = sI S o 4 (t1 + t0) → w_X1_leastMultiple (gJ S115_5 o 5) ((v3).toInt64) S115_5 (fun r125_7 S125_6 => ∀ S128_8, S128_8 = sJ S125_6 o 5 r125_7 → Q S128_8)
def b_X1_addCycle_47 (o : Nat) (p0 : Nat) (Q : St → Prop) (v3 : Int32) (k47 : Int32 → Int32 → St → Prop) (v4 : Int32) (v5 : Int32) (S : St) : Prop :=
 (if v3 ≤ v5 then (∀ S84_3, S84_3 = sI S o 2 ((gI S o 2) + (1 : Int32)) → ∀ S96_4, S96_4 = sI S84_3 o 3 (if gI S84_3 o 3 < v3 then v3 else gI S84_3 o 3) → (if v3 = (1 : Int32) then (w_X1_addCycle_114 o Q v3 (1 : Int32) (gI S96_4 o 4) S96_4) else (w_X1_addCycle_114 o Q v3 (0 : Int32) (gI S96_4 o 4) S96_4))) else (w_X11_put (o + 1) v4 v3 S (fun S60_9 => w_X11_cell p0 v4 S60_9 (fun r66_11 S66_10 => ∀ x71_12, x71_12 = v5 + (1 : Int32) → k47 r66_11 x71_12 S66_10))))
def w_X1_addCycle_47 (o : Nat) (p0 : Nat) (Q : St → Prop) (v3 : Int32) (v4 : Int32) (v5 : Int32) (S : St) : Prop := ∃ n, lpn (fun _ _ _ => False) (b_X1_addCycle_47 o p0 Q v3) n v4 v5 S
def b_X1_addCycle_12 (o : Nat) (p0 : Nat) (p1 : Int32) (Q : St → Prop) (k12 : Int32 → Int32 → Int32 → St → Prop) (v3 : Int32) (v4 : Int32) (v5 : Int32) (S : St) : Prop :=
 (if gI S o 1 ≤ v5 then (w_X1_addCycle_47 o p0 Q v3 v4 (0 : Int32) S) else ((if v4 = p1 then (w_X1_addCycle_47 o p0 Q v3 v4 (0 : Int32) S) else (∀ x27_13, x27_13 = v3 + (1 : Int32) → w_X11_cell p0 v4 S (fun r33_15 S33_14 => ∀ x38_16, x38_16 = v5 + (1 : Int32) → k12 x27_13 r33_15 x38_16 S33_14)))))
def w_X1_addCycle_12 (o : Nat) (p0 : Nat) (p1 : Int32) (Q : St → Prop) (v3 : Int32) (v4 : Int32) (v5 : Int32) (S : St) : Prop := ∃ n, lpn (fun _ _ _ _ => False) (b_X1_addCycle_12 o p0 p1 Q) n v3 v4 v5 S
def w_X1_addCycle (o : Nat) (p0 : Nat) (p1 : Int32) (S : St) (Q : St → Prop) : Prop :=
 w_X11_cell p0 p1 S (fun r4_2 S4_1 => w_X1_addCycle_12 o p0 p1 Q (1 : Int32) r4_2 (1 : Int32) S4_1)
-- X1_follow
def b_X1_follow_35 (o : Nat) (p0 : Nat) (Q : St → Prop) (k35 : Int32 → St → Prop) (v3 : Int32) (S : St) : Prop :=
 (if gI S o 1 ≤ v3 then (Q S) else (w_X11_cell (o + 1) v3 S (fun r48_8 S48_7 => (if r48_8 = 0 then (w_X1_addCycle o p0 v3 S48_7 (fun S57_9 => ∀ x60_10, x60_10 = v3 + (1 : Int32) → k35 x60_10 S57_9)) else (∀ x60_11, x60_11 = v3 + (1 : Int32) → k35 x60_11 S48_7)))))
def w_X1_follow_35 (o : Nat) (p0 : Nat) (Q : St → Prop) (v3 : Int32) (S : St) : Prop := ∃ n, lpn (fun _ _ => False) (b_X1_follow_35 o p0 Q) n v3 S
def w_X1_follow (o : Nat) (p0 : Nat) (p1 : Int32) (S : St) (Q : St → Prop) : Prop :=
 ∀ S2_1, S2_1 = sI S o 1 p1 → ∀ S7_2, S7_2 = sI S2_1 o 2 (0 : Int32) → ∀ S12_3, S12_3 = sI S7_2 o 3 (0 : Int32) → ∀ S17_4, S17_4 = sI S12_3 o 4 (0 : Int32) → ∀ S22_5, S22_5 = sJ S17_4 o 5 (1 : Int64) → w_X11_blank (o + 1) (0 : Int32) S22_5 (fun S30_6 => w_X1_follow_35 o p0 Q (0 : Int32) S30_6)
-- X9_addNeighbours
def b_X9_addNeighbours_2 (Q : St → Prop) (k2 : Int32 → St → Prop) (v1 : Int32) (S : St) : Prop :=
 (if gI S 34 7 ≤ v1 + (1 : Int32) then (Q S) else (w_X11_cell 41 v1 S (fun r17_2 S17_1 => w_X11_cell 41 (v1 + (1 : Int32)) S17_1 (fun r30_4 S30_3 => ∀ x34_5, x34_5 = (r17_2 * (12 : Int32)) + r30_4 → w_X11_cell 40 x34_5 S30_3 (fun r45_7 S45_6 => w_X11_put 40 x34_5 (r45_7 + (1 : Int32)) S45_6 (fun S50_8 => ∀ x53_9, x53_9 = v1 + (1 : Int32) → k2 x53_9 S50_8))))))
def w_X9_addNeighbours_2 (Q : St → Prop) (v1 : Int32) (S : St) : Prop := ∃ n, lpn (fun _ _ => False) (b_X9_addNeighbours_2 Q) n v1 S
def w_X9_addNeighbours (S : St) (Q : St → Prop) : Prop :=
 w_X9_addNeighbours_2 Q (0 : Int32) S
-- X9_joinClasses
def b_X9_joinClasses_22 (Q : St → Prop) (v3 : Int32) (v4 : Int32) (k22 : Int32 → St → Prop) (v5 : Int32) (S : St) : Prop :=
 (if gI S 34 7 ≤ v5 then (Q S) else (w_X11_cell 39 v5 S (fun r37_4 S37_3 => (if r37_4 = v4 then (w_X11_put 39 v5 v3 S37_3 (fun S52_5 => ∀ x55_6, x55_6 = v5 + (1 : Int32) → k22 x55_6 S52_5)) else (∀ x55_7, x55_7 = v5 + (1 : Int32) → k22 x55_7 S37_3)))))
def w_X9_joinClasses_22 (Q : St → Prop) (v3 : Int32) (v4 : Int32) (v5 : Int32) (S : St) : Prop := ∃ n, lpn (fun _ _ => False) (b_X9_joinClasses_22 Q v3 v4) n v5 S
def w_X9_joinClasses (p0 : Int32) (p1 : Int32) (S : St) (Q : St → Prop) : Prop :=
 (if p0 = p1 then (Q S) else (∀ x11_1, x11_1 = (if p1 < p0 then p1 else p0) → ∀ x17_2, x17_2 = (if p0 < p1 then p1 else p0) → w_X9_joinClasses_22 Q x11_1 x17_2 (0 : Int32) S))
-- X9_addRhymes
def b_X9_addRhymes_22 (p0 : Nat) (k2 : Int32 → St → Prop) (v2 : Int32) (v3 : Int32) (k22 : Int32 → St → Prop) (v4 : Int32) (S : St) : Prop :=
 (if v3 = 0 then (∀ x82_3, x82_3 = v2 + (1 : Int32) → k2 x82_3 S) else ((if v2 ≤ v4 then (∀ x82_4, x82_4 = v2 + (1 : Int32) → k2 x82_4 S) else ((if (v3 >>> (v4 &&& 31)) &&& (1 : Int32) = 0 then (∀ x76_5, x76_5 = v4 + (1 : Int32) → k22 x76_5 S) else (w_X11_cell 41 v2 S (fun r51_7 S51_6 => w_X11_cell 39 r51_7 S51_6 (fun r54_9 S54_8 => w_X11_cell 41 v4 S54_8 (fun r67_11 S67_10 => w_X11_cell 39 r67_11 S67_10 (fun r70_13 S70_12 => w_X9_joinClasses r54_9 r70_13 S70_12 (fun S73_14 => ∀ x76_15, x76_15 = v4 + (1 : Int32) → k22 x76_15 S73_14)))))))))))
def w_X9_addRhymes_22 (p0 : Nat) (k2 : Int32 → St → Prop) (v2 : Int32) (v3 : Int32) (v4 : Int32) (S : St) : Prop := ∃ n, lpn (fun _ _ => False) (b_X9_addRhymes_22 p0 k2 v2 v3) n v4 S
def b_X9_addRhymes_2 (p0 : Nat) (Q : St → Prop) (k2 : Int32 → St → Prop) (v2 : Int32) (S : St) : Prop :=
 (if gI S 34 7 ≤ v2 then (Q S) else (w_X11_cell (p0 + 2) v2 S (fun r15_2 S15_1 => w_X9_addRhymes_22 p0 k2 v2 r15_2 (0 : Int32) S15_1)))
def w_X9_addRhymes_2 (p0 : Nat) (Q : St → Prop) (v2 : Int32) (S : St) : Prop := ∃ n, lpn (fun _ _ => False) (b_X9_addRhymes_2 p0 Q) n v2 S
def w_X9_addRhymes (p0 : Nat) (S : St) (Q : St → Prop) : Prop :=
 w_X9_addRhymes_2 p0 Q (0 : Int32) S
-- X9_turnRow
def b_X9_turnRow_2 (Q : St → Prop) (k2 : Int32 → St → Prop) (v1 : Int32) (S : St) : Prop :=
 (if gI S 34 7 ≤ v1 then (w_X11_copyRow 42 41 S (fun S47_1 => Q S47_1)) else (w_X11_cell 37 v1 S (fun r24_3 S24_2 => w_X11_cell 41 r24_3 S24_2 (fun r27_5 S27_4 => w_X11_put 42 v1 r27_5 S27_4 (fun S30_6 => ∀ x33_7, x33_7 = v1 + (1 : Int32) → k2 x33_7 S30_6)))))
def w_X9_turnRow_2 (Q : St → Prop) (v1 : Int32) (S : St) : Prop := ∃ n, lpn (fun _ _ => False) (b_X9_turnRow_2 Q) n v1 S
def w_X9_turnRow (S : St) (Q : St → Prop) : Prop :=
 w_X9_turnRow_2 Q (0 : Int32) S
-- X9_follow
def b_X9_follow_108 (p0 : Nat) (Q : St → Prop) (k108 : Int64 → St → Prop) (v2 : Int64) (S : St) : Prop :=
 (if v2 < gJ S 35 5 then (w_X9_addNeighbours S (fun S121_5 => w_X9_addRhymes p0 S121_5 (fun S126_6 => w_X9_turnRow S126_6 (fun S130_7 => ∀ x136_8, x136_8 = v2 + (1 : Int64) → k108 x136_8 S130_7)))) else (Q S))
def w_X9_follow_108 (p0 : Nat) (Q : St → Prop) (v2 : Int64) (S : St) : Prop := ∃ n, lpn (fun _ _ => False) (b_X9_follow_108 p0 Q) n v2 S
def b_X9_follow_76 (p0 : Nat) (Q : St → Prop) (k76 : Int32 → St → Prop) (v2 : Int32) (S : St) : Prop :=
 (if (12 : Int32) ≤ v2 then (w_X9_follow_108 p0 Q (0 : Int64) S) else (w_X11_put 41 v2 v2 S (fun S88_9 => w_X11_put 39 v2 v2 S88_9 (fun S97_10 => ∀ x100_11, x100_11 = v2 + (1 : Int32) → k76 x100_11 S97_10))))
def w_X9_follow_76 (p0 : Nat) (Q : St → Prop) (v2 : Int32) (S : St) : Prop := ∃ n, lpn (fun _ _ => False) (b_X9_follow_76 p0 Q) n v2 S
def b_X9_follow_21 (p0 : Nat) (Q : St → Prop) (k21 : Int32 → St → Prop) (v2 : Int32) (S : St) : Prop :=
 (if gI S 34 7 ≤ v2 then (w_X1_follow 35 37 (gI S 34 7) S (fun S63_3 => w_X11_blank 40 (0 : Int32) S63_3 (fun S71_4 => w_X9_follow_76 p0 Q (0 : Int32) S71_4))) else (w_X11_cell 37 v2 S (fun r38_13 S38_12 => w_X11_put 38 r38_13 v2 S38_12 (fun S42_14 => ∀ x45_15, x45_15 = v2 + (1 : Int32) → k21 x45_15 S42_14))))
def w_X9_follow_21 (p0 : Nat) (Q : St → Prop) (v2 : Int32) (S : St) : Prop := ∃ n, lpn (fun _ _ => False) (b_X9_follow_21 p0 Q) n v2 S
def w_X9_follow (p0 : Nat) (S : St) (Q : St → Prop) : Prop :=
 ∀ S5_1, S5_1 = sI S 34 7 (gI S p0 0) → w_X11_copyRow (p0 + 1) 37 S5_1 (fun S16_2 => w_X9_follow_21 p0 Q (0 : Int32) S16_2)
-- X3_forget
def w_X3_forget (S : St) (Q : St → Prop) : Prop :=
 ∀ S2_1, S2_1 = sI S 43 9 (0 : Int32) → ∀ S7_2, S7_2 = sI S2_1 43 10 (0 : Int32) → ∀ S12_3, S12_3 = sI S7_2 43 11 (0 : Int32) → ∀ S17_4, S17_4 = sI S12_3 43 14 (0 : Int32) → Q S17_4
-- X6_forget
def w_X6_forget (S : St) (Q : St → Prop) : Prop :=
 ∀ S2_1, S2_1 = sI S 50 8 (0 : Int32) → Q S2_1
-- X11_formChanged
def w_X11_formChanged (S : St) (Q : St → Prop) : Prop :=
 w_X9_follow 21 S (fun S8_1 => w_X3_forget S8_1 (fun S15_2 => w_X6_forget S15_2 (fun S22_3 => Q S22_3)))
-- X11_form
def w_X11_form (S : St) (Q : Int32 → St → Prop) : Prop :=
 w_X8_read S (fun r4_2 S4_1 => (if r4_2 = 0 then (w_X4_copy 21 11 S4_1 (fun S23_3 => ∀ S31_4, S31_4 = sI S23_3 30 3 (0 : Int32) → w_X11_formChanged S31_4 (fun S35_5 => Q r4_2 S35_5))) else (Q r4_2 S4_1)))
-- X11_isEnd
def w_X11_isEnd (p0 : Int32) (S : St) (Q : Int32 → St → Prop) : Prop :=
 (if p0 < 0 then (Q (0 : Int32) S) else ((if gI S 21 0 ≤ p0 then (Q (0 : Int32) S) else (Q (1 : Int32) S))))
-- X11_turning
def w_X11_turning (p0 : Int32) (p1 : Int32) (S : St) (Q : Int32 → St → Prop) : Prop :=
 w_X11_isEnd p0 S (fun r2_2 S2_1 => (if r2_2 = 0 then (Q (-1 : Int32) S2_1) else ((if p1 = (0 : Int32) then (w_X11_cell 38 p0 S2_1 (fun r44_5 S44_4 => Q r44_5 S44_4)) else (if p1 = (1 : Int32) then (w_X11_cell 22 p0 S2_1 (fun r56_7 S56_6 => Q r56_7 S56_6)) else (if p1 = (2 : Int32) then (w_X11_cell 36 p0 S2_1 (fun r71_9 S71_8 => Q r71_9 S71_8)) else Q (-1 : Int32) S2_1))))))
-- X11_isStanza
def w_X11_isStanza (p0 : Int64) (S : St) (Q : Int32 → St → Prop) : Prop :=
 (if p0 < (0 : Int64) then (Q (0 : Int32) S) else ((if (1000000000000000 : Int64) < p0 then (Q (0 : Int32) S) else (Q (1 : Int32) S))))
-- X9_walk
def b_X9_walk_38 (p0 : Nat) (Q : Int32 → St → Prop) (v6 : Int64) (k38 : Int32 → Int64 → St → Prop) (v8 : Int32) (v9 : Int64) (S : St) : Prop :=
 (if v9 < v6 then (w_X11_cell p0 v8 S (fun r49_4 S49_3 => ∀ x58_5, x58_5 = v9 + (1 : Int64) → k38 r49_4 x58_5 S49_3)) else (Q v8 S))
def w_X9_walk_38 (p0 : Nat) (Q : Int32 → St → Prop) (v6 : Int64) (v8 : Int32) (v9 : Int64) (S : St) : Prop := ∃ n, lpn (fun _ _ _ => False) (b_X9_walk_38 p0 Q v6) n v8 v9 S
def w_X9_walk_29 (p0 : Nat) (p2 : Int32) (Q : Int32 → St → Prop) (t0 : Int64) (S : St) : Prop :=
 w_X9_walk_38 p0 Q t0 p2 (0 : Int64) S
def w_X9_walk (p0 : Nat) (p1 : Int64) (p2 : Int32) (S : St) (Q : Int32 → St → Prop) : Prop :=
 w_X11_cell 36 p2 S (fun r9_2 S9_1 => (if (1 : Int32) ≤ r9_2 then (¬ (r9_2).toInt64 = 0 ∧ (w_X9_walk_29 p0 p2 Q (p1 - p1 / ((r9_2).toInt64) * ((r9_2).toInt64)) S9_1)) else (w_X9_walk_29 p0 p2 Q (0 : Int64) S9_1)))
-- X9_endAt
def w_X9_endAt (p0 : Int64) (p1 : Int32) (S : St) (Q : Int32 → St → Prop) : Prop :=
 w_X9_walk 37 p0 p1 S (fun r7_2 S7_1 => Q r7_2 S7_1)
-- X11_end
def w_X11_end (p0 : Int64) (p1 : Int32) (S : St) (Q : Int32 → St → Prop) : Prop :=
 w_X11_isStanza p0 S (fun r1_2 S1_1 => (if r1_2 = 0 then (Q (-1 : Int32) S1_1) else (w_X11_isEnd p1 S1_1 (fun r9_4 S9_3 => (if r9_4 = 0 then (Q (-1 : Int32) S9_3) else (w_X9_endAt p0 p1 S9_3 (fun r21_6 S21_5 => Q r21_6 S21_5)))))))
-- X9_placeOf
def w_X9_placeOf (p0 : Int64) (p1 : Int32) (S : St) (Q : Int32 → St → Prop) : Prop :=
 w_X9_walk 38 p0 p1 S (fun r7_2 S7_1 => Q r7_2 S7_1)
-- X11_where
def w_X11_where (p0 : Int64) (p1 : Int32) (S : St) (Q : Int32 → St → Prop) : Prop :=
 w_X11_isStanza p0 S (fun r1_2 S1_1 => (if r1_2 = 0 then (Q (-1 : Int32) S1_1) else (w_X11_isEnd p1 S1_1 (fun r9_4 S9_3 => (if r9_4 = 0 then (Q (-1 : Int32) S9_3) else (w_X9_placeOf p0 p1 S9_3 (fun r21_6 S21_5 => Q r21_6 S21_5)))))))
-- X9_firstMeeting
def b_X9_firstMeeting_5 (p1 : Int32) (Q : Int32 → St → Prop) (k5 : Int32 → Int32 → St → Prop) (v3 : Int32) (v4 : Int32) (S : St) : Prop :=
 (if gI S 34 7 ≤ v4 then (Q (-1 : Int32) S) else ((if v3 = p1 then (Q v4 S) else (w_X11_cell 38 v3 S (fun r27_2 S27_1 => ∀ x31_3, x31_3 = v4 + (1 : Int32) → k5 r27_2 x31_3 S27_1)))))
def w_X9_firstMeeting_5 (p1 : Int32) (Q : Int32 → St → Prop) (v3 : Int32) (v4 : Int32) (S : St) : Prop := ∃ n, lpn (fun _ _ _ => False) (b_X9_firstMeeting_5 p1 Q) n v3 v4 S
def w_X9_firstMeeting (p0 : Int32) (p1 : Int32) (S : St) (Q : Int32 → St → Prop) : Prop :=
 w_X9_firstMeeting_5 p1 Q p0 (0 : Int32) S
-- X11_meets
def w_X11_meets (p0 : Int32) (p1 : Int32) (S : St) (Q : Int32 → St → Prop) : Prop :=
 w_X11_isEnd p0 S (fun r2_2 S2_1 => (if r2_2 = 0 then (Q (-1 : Int32) S2_1) else (w_X11_isEnd p1 S2_1 (fun r10_4 S10_3 => (if r10_4 = 0 then (Q (-1 : Int32) S10_3) else (w_X9_firstMeeting p0 p1 S10_3 (fun r22_6 S22_5 => Q r22_6 S22_5)))))))
-- X11_round
def w_X11_round (p0 : Int32) (S : St) (Q : Int32 → St → Prop) : Prop :=
 (if p0 = (0 : Int32) then (Q ((gJ S 35 5).toInt32) S) else (if p0 = (1 : Int32) then (Q (gI S 35 2) S) else (if p0 = (2 : Int32) then (Q (gI S 35 3) S) else (if p0 = (3 : Int32) then (Q (gI S 35 4) S) else (if p0 = (4 : Int32) then (Q (((gI S 21 0) - (gI S 35 2)) &&& (1 : Int32)) S) else Q (-1 : Int32) S)))))
-- X1_ofLength
def w_X1_ofLength_30 (o : Nat) (p0 : Int32) (k4 : Int32 → Int32 → St → Prop) (v3 : Int32) (t0 : Int32) (t1 : Int32) (S : St) : Prop :=
 ∀ x31_3, x31_3 = t1 + t0 → ∀ x32_4, x32_4 = v3 + (1 : Int32) → k4 x31_3 x32_4 S
def b_X1_ofLength_4 (o : Nat) (p0 : Int32) (Q : Int32 → St → Prop) (k4 : Int32 → Int32 → St → Prop) (v2 : Int32) (v3 : Int32) (S : St) : Prop :=
 (if gI S o 1 ≤ v3 then ((if (1 : Int32) ≤ p0 then (¬ p0 = 0 ∧ (Q (v2 / p0) S)) else (Q (0 : Int32) S))) else (w_X11_cell (o + 1) v3 S (fun r18_2 S18_1 => (if r18_2 = p0 then (w_X1_ofLength_30 o p0 k4 v3 (1 : Int32) v2 S18_1) else (w_X1_ofLength_30 o p0 k4 v3 (0 : Int32) v2 S18_1)))))
def w_X1_ofLength_4 (o : Nat) (p0 : Int32) (Q : Int32 → St → Prop) (v2 : Int32) (v3 : Int32) (S : St) : Prop := ∃ n, lpn (fun _ _ _ => False) (b_X1_ofLength_4 o p0 Q) n v2 v3 S
def w_X1_ofLength (o : Nat) (p0 : Int32) (S : St) (Q : Int32 → St → Prop) : Prop :=
 w_X1_ofLength_4 o p0 Q (0 : Int32) (0 : Int32) S
-- X11_rootsOfAlike
def b_X11_rootsOfAlike_14 (p0 : Int32) (p1 : Int32) (Q : Int64 → St → Prop) (v2 : Int64) (k14 : Int64 → Int64 → Int32 → St → Prop) (v4 : Int64) (v6 : Int64) (v8 : Int32) (S : St) : Prop :=
 (if p1 < v8 then (Q v6 S) else (∀ x36_2, x36_2 = (v6 * v2) + ((v4 * ((v8 - (1 : Int32)).toInt64)) * ((p0).toInt64)) → ∀ x46_3, x46_3 = v8 + (1 : Int32) → k14 v6 x36_2 x46_3 S))
def w_X11_rootsOfAlike_14 (p0 : Int32) (p1 : Int32) (Q : Int64 → St → Prop) (v2 : Int64) (v4 : Int64) (v6 : Int64) (v8 : Int32) (S : St) : Prop := ∃ n, lpn (fun _ _ _ _ => False) (b_X11_rootsOfAlike_14 p0 p1 Q v2) n v4 v6 v8 S
def w_X11_rootsOfAlike (p0 : Int32) (p1 : Int32) (S : St) (Q : Int64 → St → Prop) : Prop :=
 ∀ x4_1, x4_1 = (p0 &&& (1 : Int32)).toInt64 → w_X11_rootsOfAlike_14 p0 p1 Q x4_1 (0 : Int64) (1 : Int64) (1 : Int32) S
-- X11_roots
def b_X11_roots_4 (Q : Int64 → St → Prop) (k4 : Int64 → Int32 → St → Prop) (v1 : Int64) (v3 : Int32) (S : St) : Prop :=
 (if gI S 21 0 < v3 then (Q v1 S) else (w_X1_ofLength 35 v3 S (fun r25_2 S25_1 => w_X11_rootsOfAlike v3 r25_2 S25_1 (fun r28_4 S28_3 => ∀ x32_5, x32_5 = v1 * r28_4 → ∀ x33_6, x33_6 = v3 + (1 : Int32) → k4 x32_5 x33_6 S28_3))))
def w_X11_roots_4 (Q : Int64 → St → Prop) (v1 : Int64) (v3 : Int32) (S : St) : Prop := ∃ n, lpn (fun _ _ _ => False) (b_X11_roots_4 Q) n v1 v3 S
def w_X11_roots (S : St) (Q : Int64 → St → Prop) : Prop :=
 w_X11_roots_4 Q (1 : Int64) (1 : Int32) S
-- X11_spiral
def b_X11_spiral_16 (p0 : Int32) (p1 : Int32) (Q : Int32 → St → Prop) (k16 : Int32 → St → Prop) (v3 : Int32) (S : St) : Prop :=
 (if p0 ≤ v3 then (w_X1_follow 120 122 p0 S (fun S49_1 => (if p1 = (0 : Int32) then (Q (gI S49_1 120 2) S49_1) else (if p1 = (1 : Int32) then (Q (gI S49_1 120 3) S49_1) else (if p1 = (2 : Int32) then (Q (((gJ S49_1 120 5) - (gJ S49_1 120 5) / (1000000007 : Int64) * (1000000007 : Int64)).toInt32) S49_1) else Q (-1 : Int32) S49_1))))) else (w_X11_spiralSource p0 v3 S (fun r28_4 S28_3 => w_X11_put 122 v3 r28_4 S28_3 (fun S31_5 => ∀ x34_6, x34_6 = v3 + (1 : Int32) → k16 x34_6 S31_5))))
def w_X11_spiral_16 (p0 : Int32) (p1 : Int32) (Q : Int32 → St → Prop) (v3 : Int32) (S : St) : Prop := ∃ n, lpn (fun _ _ => False) (b_X11_spiral_16 p0 p1 Q) n v3 S
def w_X11_spiral (p0 : Int32) (p1 : Int32) (S : St) (Q : Int32 → St → Prop) : Prop :=
 (if p0 < (1 : Int32) then (Q (-1 : Int32) S) else ((if p0 ≤ (200 : Int32) then (w_X11_spiral_16 p0 p1 Q (0 : Int32) S) else (Q (-1 : Int32) S))))
-- X11_rhymes
def w_X11_rhymes (p0 : Int32) (S : St) (Q : Int32 → St → Prop) : Prop :=
 w_X11_isEnd p0 S (fun r2_2 S2_1 => (if r2_2 = 0 then (Q (-1 : Int32) S2_1) else (w_X11_cell 39 p0 S2_1 (fun r16_4 S16_3 => Q r16_4 S16_3))))
-- X9_timesAhead
def w_X9_timesAhead (p0 : Int32) (p1 : Int32) (S : St) (Q : Int32 → St → Prop) : Prop :=
 w_X11_cell 40 ((p0 * (12 : Int32)) + p1) S (fun r10_2 S10_1 => Q r10_2 S10_1)
-- X11_beside
def w_X11_beside (p0 : Int32) (p1 : Int32) (S : St) (Q : Int32 → St → Prop) : Prop :=
 w_X11_isEnd p0 S (fun r2_2 S2_1 => (if r2_2 = 0 then (Q (-1 : Int32) S2_1) else (w_X11_isEnd p1 S2_1 (fun r10_4 S10_3 => (if r10_4 = 0 then (Q (-1 : Int32) S10_3) else ((if p0 = p1 then (Q (-1 : Int32) S10_3) else (w_X9_timesAhead p0 p1 S10_3 (fun r29_6 S29_5 => w_X9_timesAhead p1 p0 S29_5 (fun r38_8 S38_7 => Q (r29_6 + r38_8) S38_7))))))))))
-- X11_isWord
def w_X11_isWord (p0 : Int32) (S : St) (Q : Int32 → St → Prop) : Prop :=
 (if p0 < 0 then (Q (0 : Int32) S) else ((if gI S 21 5 ≤ p0 then (Q (0 : Int32) S) else (Q (1 : Int32) S))))
-- X11_word
def w_X11_word (p0 : Int32) (p1 : Int32) (S : St) (Q : Int32 → St → Prop) : Prop :=
 w_X11_isWord p0 S (fun r2_2 S2_1 => (if r2_2 = 0 then (Q (-1 : Int32) S2_1) else ((if p1 = (0 : Int32) then (w_X11_cell 25 p0 S2_1 (fun r44_5 S44_4 => Q r44_5 S44_4)) else (if p1 = (1 : Int32) then (w_X11_cell 26 p0 S2_1 (fun r56_7 S56_6 => Q r56_7 S56_6)) else (if p1 = (2 : Int32) then (w_X11_cell 27 p0 S2_1 (fun r68_9 S68_8 => Q r68_9 S68_8)) else Q (-1 : Int32) S2_1))))))
-- X4_forbids
def w_X4_forbids (o : Nat) (p0 : Int32) (p1 : Int32) (S : St) (Q : Int32 → St → Prop) : Prop :=
 w_X11_cell (o + 7) p0 S (fun r5_2 S5_1 => (if (r5_2 >>> (p1 &&& 31)) &&& (1 : Int32) = 0 then (Q (0 : Int32) S5_1) else (Q (1 : Int32) S5_1)))
-- X11_barred
def w_X11_barred (p0 : Int32) (p1 : Int32) (S : St) (Q : Int32 → St → Prop) : Prop :=
 w_X11_isWord p0 S (fun r2_2 S2_1 => (if r2_2 = 0 then (Q (-1 : Int32) S2_1) else (w_X11_isWord p1 S2_1 (fun r10_4 S10_3 => (if r10_4 = 0 then (Q (-1 : Int32) S10_3) else (w_X4_forbids 21 p0 p1 S10_3 (fun r24_6 S24_5 => (if r24_6 = 0 then (Q (0 : Int32) S24_5) else (Q (1 : Int32) S24_5)))))))))
-- X9_areOneClass
def w_X9_areOneClass (p0 : Int32) (p1 : Int32) (S : St) (Q : Int32 → St → Prop) : Prop :=
 w_X11_cell 39 p0 S (fun r5_2 S5_1 => w_X11_cell 39 p1 S5_1 (fun r13_4 S13_3 => (if r5_2 = r13_4 then (Q (1 : Int32) S13_3) else (Q (0 : Int32) S13_3))))
-- X3_allowedBy
def w_X3_allowedBy_101 (p0 : Int32) (p1 : Int32) (k5 : Int32 → Int32 → St → Prop) (v4 : Int32) (t0 : Int32) (t1 : Int32) (S : St) : Prop :=
 ∀ x102_1, x102_1 = t1 ||| t0 → ∀ x103_2, x103_2 = v4 + (1 : Int32) → k5 x102_1 x103_2 S
def w_X3_allowedBy_85 (p0 : Int32) (p1 : Int32) (k5 : Int32 → Int32 → St → Prop) (v3 : Int32) (v4 : Int32) (t0 : Int32) (S : St) : Prop :=
 (if t0 = 0 then (w_X3_allowedBy_101 p0 p1 k5 v4 ((1 : Int32) <<< (v4 &&& 31)) v3 S) else (w_X3_allowedBy_101 p0 p1 k5 v4 (0 : Int32) v3 S))
def w_X3_allowedBy_80 (p0 : Int32) (p1 : Int32) (k5 : Int32 → Int32 → St → Prop) (v3 : Int32) (v4 : Int32) (S : St) : Prop :=
 w_X3_allowedBy_85 p0 p1 k5 v3 v4 (1 : Int32) S
def w_X3_allowedBy_84 (p0 : Int32) (p1 : Int32) (k5 : Int32 → Int32 → St → Prop) (v3 : Int32) (v4 : Int32) (S : St) : Prop :=
 w_X3_allowedBy_85 p0 p1 k5 v3 v4 (0 : Int32) S
def w_X3_allowedBy_61 (p0 : Int32) (p1 : Int32) (k5 : Int32 → Int32 → St → Prop) (v3 : Int32) (v4 : Int32) (S : St) : Prop :=
 (if p0 &&& (4 : Int32) = 0 then (w_X3_allowedBy_84 p0 p1 k5 v3 v4 S) else (w_X4_forbids 21 v4 p1 S (fun r74_4 S74_3 => (if r74_4 = 0 then (w_X3_allowedBy_84 p0 p1 k5 v3 v4 S74_3) else (w_X3_allowedBy_80 p0 p1 k5 v3 v4 S74_3)))))
def w_X3_allowedBy_42 (p0 : Int32) (p1 : Int32) (k5 : Int32 → Int32 → St → Prop) (v3 : Int32) (v4 : Int32) (S : St) : Prop :=
 (if p0 &&& (2 : Int32) = 0 then (w_X3_allowedBy_61 p0 p1 k5 v3 v4 S) else (w_X4_forbids 21 p1 v4 S (fun r55_6 S55_5 => (if r55_6 = 0 then (w_X3_allowedBy_61 p0 p1 k5 v3 v4 S55_5) else (w_X3_allowedBy_80 p0 p1 k5 v3 v4 S55_5)))))
def b_X3_allowedBy_5 (p0 : Int32) (p1 : Int32) (Q : Int32 → St → Prop) (k5 : Int32 → Int32 → St → Prop) (v3 : Int32) (v4 : Int32) (S : St) : Prop :=
 (if gI S 21 5 ≤ v4 then (Q v3 S) else ((if v4 = p1 then (w_X3_allowedBy_80 p0 p1 k5 v3 v4 S) else ((if p0 &&& (1 : Int32) = 0 then (w_X3_allowedBy_42 p0 p1 k5 v3 v4 S) else (w_X4_areRhyming 21 p1 v4 S (fun r36_8 S36_7 => (if r36_8 = 0 then (w_X3_allowedBy_80 p0 p1 k5 v3 v4 S36_7) else (w_X3_allowedBy_42 p0 p1 k5 v3 v4 S36_7)))))))))
def w_X3_allowedBy_5 (p0 : Int32) (p1 : Int32) (Q : Int32 → St → Prop) (v3 : Int32) (v4 : Int32) (S : St) : Prop := ∃ n, lpn (fun _ _ _ => False) (b_X3_allowedBy_5 p0 p1 Q) n v3 v4 S
def w_X3_allowedBy (p0 : Int32) (p1 : Int32) (S : St) (Q : Int32 → St → Prop) : Prop :=
 w_X3_allowedBy_5 p0 p1 Q (0 : Int32) (0 : Int32) S
-- X3_prepare
def b_X3_prepare_110 (k102 : Int32 → St → Prop) (v1 : Int32) (k110 : Int32 → St → Prop) (v2 : Int32) (S : St) : Prop :=
 (if gI S 21 5 ≤ v2 then (∀ x146_2, x146_2 = v1 + (1 : Int32) → k102 x146_2 S) else (w_X3_allowedBy v1 v2 S (fun r134_4 S134_3 => w_X11_put 45 ((v1 * (12 : Int32)) + v2) r134_4 S134_3 (fun S137_5 => ∀ x140_6, x140_6 = v2 + (1 : Int32) → k110 x140_6 S137_5))))
def w_X3_prepare_110 (k102 : Int32 → St → Prop) (v1 : Int32) (v2 : Int32) (S : St) : Prop := ∃ n, lpn (fun _ _ => False) (b_X3_prepare_110 k102 v1) n v2 S
def b_X3_prepare_102 (Q : St → Prop) (k102 : Int32 → St → Prop) (v1 : Int32) (S : St) : Prop :=
 (if (8 : Int32) ≤ v1 then (∀ S154_1, S154_1 = sI S 43 9 (1 : Int32) → Q S154_1) else (w_X3_prepare_110 k102 v1 (0 : Int32) S))
def w_X3_prepare_102 (Q : St → Prop) (v1 : Int32) (S : St) : Prop := ∃ n, lpn (fun _ _ => False) (b_X3_prepare_102 Q) n v1 S
def w_X3_prepare_72 (k10 : Int32 → St → Prop) (v1 : Int32) (v2 : Int32) (t0 : Int32) (t1 : Int32) (S : St) : Prop :=
 ∀ x73_15, x73_15 = t1 ||| t0 → w_X11_put 46 ((v1 * (7 : Int32)) + v2) x73_15 S (fun S85_16 => ∀ x88_17, x88_17 = v2 + (1 : Int32) → k10 x88_17 S85_16)
def w_X3_prepare_52 (k10 : Int32 → St → Prop) (v1 : Int32) (v2 : Int32) (t0 : Int32) (t1 : Int32) (S : St) : Prop :=
 ∀ x53_12, x53_12 = t1 ||| t0 → w_X9_timesAhead v2 v1 S (fun r61_14 S61_13 => (if r61_14 ≤ 0 then (w_X3_prepare_72 k10 v1 v2 (0 : Int32) x53_12 S61_13) else (w_X3_prepare_72 k10 v1 v2 (4 : Int32) x53_12 S61_13)))
def w_X3_prepare_33 (k10 : Int32 → St → Prop) (v1 : Int32) (v2 : Int32) (t0 : Int32) (S : St) : Prop :=
 w_X9_timesAhead v1 v2 S (fun r41_11 S41_10 => (if r41_11 ≤ 0 then (w_X3_prepare_52 k10 v1 v2 (0 : Int32) t0 S41_10) else (w_X3_prepare_52 k10 v1 v2 (2 : Int32) t0 S41_10)))
def b_X3_prepare_10 (k2 : Int32 → St → Prop) (v1 : Int32) (k10 : Int32 → St → Prop) (v2 : Int32) (S : St) : Prop :=
 (if (7 : Int32) ≤ v2 then (∀ x94_7, x94_7 = v1 + (1 : Int32) → k2 x94_7 S) else (w_X9_areOneClass v1 v2 S (fun r22_9 S22_8 => (if r22_9 = 0 then (w_X3_prepare_33 k10 v1 v2 (0 : Int32) S22_8) else (w_X3_prepare_33 k10 v1 v2 (1 : Int32) S22_8)))))
def w_X3_prepare_10 (k2 : Int32 → St → Prop) (v1 : Int32) (v2 : Int32) (S : St) : Prop := ∃ n, lpn (fun _ _ => False) (b_X3_prepare_10 k2 v1) n v2 S
def b_X3_prepare_2 (Q : St → Prop) (k2 : Int32 → St → Prop) (v1 : Int32) (S : St) : Prop :=
 (if (7 : Int32) ≤ v1 then (w_X3_prepare_102 Q (0 : Int32) S) else (w_X3_prepare_10 k2 v1 (0 : Int32) S))
def w_X3_prepare_2 (Q : St → Prop) (v1 : Int32) (S : St) : Prop := ∃ n, lpn (fun _ _ => False) (b_X3_prepare_2 Q) n v1 S
def w_X3_prepare (S : St) (Q : St → Prop) : Prop :=
 w_X3_prepare_2 Q (0 : Int32) S
-- X3_choose
def b_X3_choose_18 (p0 : Int32) (Q : St → Prop) (k18 : Int32 → St → Prop) (v2 : Int32) (S : St) : Prop :=
 (if gI S 21 0 ≤ v2 then (Q S) else ((if (7 : Int32) ≤ v2 then (Q S) else ((if (p0 >>> (v2 &&& 31)) &&& (1 : Int32) = 0 then (∀ x87_3, x87_3 = v2 + (1 : Int32) → k18 x87_3 S) else (w_X11_put 47 (gI S 43 8) v2 S (fun S52_4 => w_X11_put 49 (gI S52_4 43 8) (((1 : Int32) <<< ((gI S52_4 21 5) &&& 31)) - (1 : Int32)) S52_4 (fun S74_5 => ∀ S84_6, S84_6 = sI S74_5 43 8 ((gI S74_5 43 8) + (1 : Int32)) → ∀ x87_7, x87_7 = v2 + (1 : Int32) → k18 x87_7 S84_6))))))))
def w_X3_choose_18 (p0 : Int32) (Q : St → Prop) (v2 : Int32) (S : St) : Prop := ∃ n, lpn (fun _ _ => False) (b_X3_choose_18 p0 Q) n v2 S
def w_X3_choose_11 (p0 : Int32) (Q : St → Prop) (S : St) : Prop :=
 ∀ S13_2, S13_2 = sI S 43 8 (0 : Int32) → w_X3_choose_18 p0 Q (0 : Int32) S13_2
def w_X3_choose (p0 : Int32) (S : St) (Q : St → Prop) : Prop :=
 (if gI S 43 9 = 0 then (w_X3_prepare S (fun S8_1 => w_X3_choose_11 p0 Q S8_1)) else (w_X3_choose_11 p0 Q S))
-- J6_bitCount_0f7a4
def w_J6_bitCount_0f7a4 (p0 : Int32) (S : St) (Q : Int32 → St → Prop) : Prop :=
 ∀ x9_1, x9_1 = p0 - ((((p0).toUInt32 >>> (((1 : Int32)).toUInt32 &&& Int32.toUInt32 31)).toInt32) &&& (1431655765 : Int32)) → ∀ x23_2, x23_2 = (x9_1 &&& (858993459 : Int32)) + ((((x9_1).toUInt32 >>> (((2 : Int32)).toUInt32 &&& Int32.toUInt32 31)).toInt32) &&& (858993459 : Int32)) → ∀ x33_3, x33_3 = (x23_2 + (((x23_2).toUInt32 >>> (((4 : Int32)).toUInt32 &&& Int32.toUInt32 31)).toInt32)) &&& (252645135 : Int32) → ∀ x40_4, x40_4 = x33_3 + (((x33_3).toUInt32 >>> (((8 : Int32)).toUInt32 &&& Int32.toUInt32 31)).toInt32) → ∀ x47_5, x47_5 = x40_4 + (((x40_4).toUInt32 >>> (((16 : Int32)).toUInt32 &&& Int32.toUInt32 31)).toInt32) → Q (x47_5 &&& (63 : Int32)) S
-- X3_leavesOpen
def b_X3_leavesOpen_23 (p1 : Int32) (Q : Int32 → St → Prop) (v3 : Int32) (v4 : Int32) (k23 : Int32 → St → Prop) (v5 : Int32) (S : St) : Prop :=
 (if gI S 43 8 ≤ v5 then (Q (1 : Int32) S) else (w_X11_cell 47 v5 S (fun r43_7 S43_6 => w_X11_cell 46 (v3 + r43_7) S43_6 (fun r47_9 S47_8 => w_X11_cell 49 (v4 + v5) S47_8 (fun r61_11 S61_10 => w_X11_cell 45 ((r47_9 * (12 : Int32)) + p1) S61_10 (fun r75_13 S75_12 => ∀ x79_14, x79_14 = r61_11 &&& r75_13 → w_X11_put 49 ((v4 + (7 : Int32)) + v5) x79_14 S75_12 (fun S95_15 => (if x79_14 = 0 then (Q (0 : Int32) S95_15) else (∀ x105_16, x105_16 = v5 + (1 : Int32) → k23 x105_16 S95_15)))))))))
def w_X3_leavesOpen_23 (p1 : Int32) (Q : Int32 → St → Prop) (v3 : Int32) (v4 : Int32) (v5 : Int32) (S : St) : Prop := ∃ n, lpn (fun _ _ => False) (b_X3_leavesOpen_23 p1 Q v3 v4) n v5 S
def w_X3_leavesOpen (p0 : Int32) (p1 : Int32) (S : St) (Q : Int32 → St → Prop) : Prop :=
 w_X11_cell 47 p0 S (fun r5_2 S5_1 => ∀ x11_3, x11_3 = r5_2 * (7 : Int32) → ∀ x16_4, x16_4 = p0 * (7 : Int32) → ∀ x21_5, x21_5 = p0 + (1 : Int32) → w_X3_leavesOpen_23 p1 Q x11_3 x16_4 x21_5 S5_1)
-- X3_waysWith
def w_X3_waysWith (rec : Int32 → Int32 → St → (Int64 → St → Prop) → Prop) (p0 : Int32) (p1 : Int32) (p2 : Int32) (S : St) (Q : Int64 → St → Prop) : Prop :=
 w_X3_leavesOpen p0 p1 S (fun r3_2 S3_1 => (if r3_2 = 0 then (Q (0 : Int64) S3_1) else (w_X11_put 48 p0 p1 S3_1 (fun S17_3 => rec (p0 + (1 : Int32)) p2 S17_3 (fun r25_5 S25_4 => Q r25_5 S25_4)))))
-- X3_ways
def w_X3_ways_96 (p0 : Int32) (p1 : Int32) (rec : Int32 → Int32 → St → (Int64 → St → Prop) → Prop) (k73 : Int64 → Int32 → St → Prop) (v3 : Int32) (v4 : Int64) (v6 : Int32) (S : St) : Prop :=
 (if (v3 >>> (v6 &&& 31)) &&& (1 : Int32) = 0 then (∀ x118_8, x118_8 = v6 + (1 : Int32) → k73 v4 x118_8 S) else (w_X3_waysWith rec p0 v6 p1 S (fun r112_10 S112_9 => ∀ x116_11, x116_11 = v4 + r112_10 → ∀ x118_12, x118_12 = v6 + (1 : Int32) → k73 x116_11 x118_12 S112_9)))
def b_X3_ways_73 (p0 : Int32) (p1 : Int32) (rec : Int32 → Int32 → St → (Int64 → St → Prop) → Prop) (Q : Int64 → St → Prop) (v3 : Int32) (k73 : Int64 → Int32 → St → Prop) (v4 : Int64) (v6 : Int32) (S : St) : Prop :=
 (if gI S 21 5 ≤ v6 then (Q v4 S) else ((if p1 = 0 then (w_X3_ways_96 p0 p1 rec k73 v3 v4 v6 S) else ((if (0 : Int64) < v4 then (Q v4 S) else (w_X3_ways_96 p0 p1 rec k73 v3 v4 v6 S))))))
def w_X3_ways_73 (p0 : Int32) (p1 : Int32) (rec : Int32 → Int32 → St → (Int64 → St → Prop) → Prop) (Q : Int64 → St → Prop) (v3 : Int32) (v4 : Int64) (v6 : Int32) (S : St) : Prop := ∃ n, lpn (fun _ _ _ => False) (b_X3_ways_73 p0 p1 rec Q v3) n v4 v6 S
def u_X3_ways (rec : Int32 → Int32 → St → (Int64 → St → Prop) → Prop) (p0 : Int32) (p1 : Int32) (S : St) (Q : Int64 → St → Prop) : Prop :=
 (if p0 < 0 then (Q (0 : Int64) S) else ((if gI S 43 8 ≤ p0 then (Q (0 : Int64) S) else ((if p0 < (7 : Int32) then (w_X11_cell 49 ((p0 * (7 : Int32)) + p0) S (fun r30_2 S30_1 => (if p0 = (gI S30_1 43 8) - (1 : Int32) then (w_J6_bitCount_0f7a4 ((r30_2 &&& (-r30_2)) - (1 : Int32)) S30_1 (fun r55_4 S55_3 => w_X11_put 48 p0 r55_4 S55_3 (fun S58_5 => w_J6_bitCount_0f7a4 r30_2 S58_5 (fun r62_7 S62_6 => Q ((r62_7).toInt64) S62_6)))) else (w_X3_ways_73 p0 p1 rec Q r30_2 (0 : Int64) (0 : Int32) S30_1)))) else (Q (0 : Int64) S))))))
def w_X3_ways : Nat → Int32 → Int32 → St → (Int64 → St → Prop) → Prop
  | 0 => fun _ _ _ _ => False
  | d + 1 => u_X3_ways (w_X3_ways d)
-- X3_howMany
def w_X3_howMany (S : St) (Q : Int64 → St → Prop) : Prop :=
 (if gI S 43 10 = 0 then (w_X3_choose (((1 : Int32) <<< ((gI S 21 0) &&& 31)) - (1 : Int32)) S (fun S19_1 => ∃ d26_4, d26_4 ≤ 32 ∧ w_X3_ways d26_4 (0 : Int32) (0 : Int32) S19_1 (fun r26_3 S26_2 => ∀ S29_5, S29_5 = sJ S26_2 43 13 r26_3 → ∀ S34_6, S34_6 = sI S29_5 43 10 (1 : Int32) → Q (gJ S34_6 43 13) S34_6))) else (Q (gJ S 43 13) S))
-- X11_fills
def w_X11_fills (S : St) (Q : Int64 → St → Prop) : Prop :=
 (if gI S 21 0 ≤ (7 : Int32) then (w_X3_howMany S (fun r22_2 S22_1 => Q r22_2 S22_1)) else (Q (-1 : Int64) S))
-- X3_canAll
def w_X3_canAll_39 (Q : Int32 → St → Prop) (t0 : Int32) (S : St) : Prop :=
 (t0 = 0 ∨ t0 = 1) ∧ (∀ S39_5, S39_5 = sI S 43 12 t0 → w_X11_copyRow 48 44 S39_5 (fun S50_6 => ∀ S55_7, S55_7 = sI S50_6 43 11 (1 : Int32) → (gI S55_7 43 12 = 0 ∨ gI S55_7 43 12 = 1) ∧ Q (gI S55_7 43 12) S55_7))
def w_X3_canAll (S : St) (Q : Int32 → St → Prop) : Prop :=
 (if gI S 43 11 = 0 then (w_X3_choose (((1 : Int32) <<< ((gI S 21 0) &&& 31)) - (1 : Int32)) S (fun S19_1 => ∃ d26_4, d26_4 ≤ 32 ∧ w_X3_ways d26_4 (0 : Int32) (1 : Int32) S19_1 (fun r26_3 S26_2 => (if (0 : Int64) < r26_3 then (w_X3_canAll_39 Q (1 : Int32) S26_2) else (w_X3_canAll_39 Q (0 : Int32) S26_2))))) else ((gI S 43 12 = 0 ∨ gI S 43 12 = 1) ∧ Q (gI S 43 12) S))
-- X11_fill
def w_X11_fill (p0 : Int32) (S : St) (Q : Int32 → St → Prop) : Prop :=
 (if (7 : Int32) < gI S 21 0 then (Q (-1 : Int32) S) else (w_X11_isEnd p0 S (fun r14_2 S14_1 => (if r14_2 = 0 then (Q (-1 : Int32) S14_1) else (w_X3_canAll S14_1 (fun r24_4 S24_3 => (if r24_4 = 0 then (Q (-1 : Int32) S24_3) else (w_X11_cell 44 p0 S24_3 (fun r40_6 S40_5 => Q r40_6 S40_5)))))))))
-- X3_fewestStuck
def w_X3_fewestStuck_72 (k22 : Int32 → St → Prop) (v1 : Int32) (v2 : Int32) (t0 : Int32) (S : St) : Prop :=
 ∀ S72_8, S72_8 = sI S 43 14 t0 → ∀ x75_9, x75_9 = v2 + (1 : Int32) → k22 x75_9 S72_8
def b_X3_fewestStuck_22 (k2 : Int32 → St → Prop) (v1 : Int32) (k22 : Int32 → St → Prop) (v2 : Int32) (S : St) : Prop :=
 (if (1 : Int32) <<< ((gI S 21 0) &&& 31) ≤ v2 then (∀ x81_1, x81_1 = v1 + (1 : Int32) → k2 x81_1 S) else ((if gI S 43 14 = 0 then (w_J6_bitCount_0f7a4 v2 S (fun r43_3 S43_2 => (if r43_3 = v1 then (w_X3_choose v2 S43_2 (fun S52_4 => ∃ d59_7, d59_7 ≤ 32 ∧ w_X3_ways d59_7 (0 : Int32) (1 : Int32) S52_4 (fun r59_6 S59_5 => (if (0 : Int64) < r59_6 then (w_X3_fewestStuck_72 k22 v1 v2 (0 : Int32) S59_5) else (w_X3_fewestStuck_72 k22 v1 v2 v2 S59_5))))) else (∀ x75_10, x75_10 = v2 + (1 : Int32) → k22 x75_10 S43_2)))) else (∀ x81_11, x81_11 = v1 + (1 : Int32) → k2 x81_11 S))))
def w_X3_fewestStuck_22 (k2 : Int32 → St → Prop) (v1 : Int32) (v2 : Int32) (S : St) : Prop := ∃ n, lpn (fun _ _ => False) (b_X3_fewestStuck_22 k2 v1) n v2 S
def b_X3_fewestStuck_2 (Q : Int32 → St → Prop) (k2 : Int32 → St → Prop) (v1 : Int32) (S : St) : Prop :=
 (if gI S 21 0 < v1 then (Q (gI S 43 14) S) else ((if gI S 43 14 = 0 then (w_X3_fewestStuck_22 k2 v1 (1 : Int32) S) else (Q (gI S 43 14) S))))
def w_X3_fewestStuck_2 (Q : Int32 → St → Prop) (v1 : Int32) (S : St) : Prop := ∃ n, lpn (fun _ _ => False) (b_X3_fewestStuck_2 Q) n v1 S
def w_X3_fewestStuck (S : St) (Q : Int32 → St → Prop) : Prop :=
 w_X3_fewestStuck_2 Q (1 : Int32) S
-- X11_stuck
def w_X11_stuck (p0 : Int32) (S : St) (Q : Int32 → St → Prop) : Prop :=
 (if p0 < 0 then (Q (-1 : Int32) S) else ((if (1 : Int32) < p0 then (Q (-1 : Int32) S) else ((if (7 : Int32) < gI S 21 0 then (Q (-1 : Int32) S) else (w_X3_canAll S (fun r25_2 S25_1 => (if r25_2 = 0 then (w_X3_fewestStuck S25_1 (fun r37_4 S37_3 => (if p0 = 0 then (w_J6_bitCount_0f7a4 r37_4 S37_3 (fun r46_6 S46_5 => Q r46_6 S46_5)) else (Q r37_4 S37_3)))) else (Q (-1 : Int32) S25_1)))))))))
-- X2_add
def w_X2_add (o : Nat) (p0 : Int32) (p1 : Int32) (p2 : Int32) (S : St) (Q : St → Prop) : Prop :=
 w_X11_put (o + 1) (gI S o 3) p0 S (fun S9_1 => w_X11_put (o + 2) (gI S9_1 o 3) p1 S9_1 (fun S21_2 => w_X11_put (o + 3) (gI S21_2 o 3) p2 S21_2 (fun S33_3 => ∀ S43_4, S43_4 = sI S33_3 o 3 ((gI S33_3 o 3) + (1 : Int32)) → Q S43_4)))
-- X11_line
def w_X11_line (p0 : Int32) (p1 : Int32) (p2 : Int32) (S : St) (Q : Int32 → St → Prop) : Prop :=
 w_X11_isWord p0 S (fun r2_2 S2_1 => (if r2_2 = 0 then (Q (-1 : Int32) S2_1) else ((if p1 < 0 then (Q (-1 : Int32) S2_1) else ((if (999 : Int32) < p1 then (Q (-1 : Int32) S2_1) else ((if p2 < 0 then (Q (-1 : Int32) S2_1) else ((if (99 : Int32) < p2 then (Q (-1 : Int32) S2_1) else ((if gI S2_1 30 3 < (60 : Int32) then (w_X2_add 30 p0 p1 p2 S2_1 (fun S50_3 => w_X6_forget S50_3 (fun S57_4 => Q (gI S57_4 30 3) S57_4))) else (Q (-1 : Int32) S2_1)))))))))))))
-- X11_clear
def w_X11_clear (S : St) (Q : Int32 → St → Prop) : Prop :=
 ∀ S5_1, S5_1 = sI S 30 3 (0 : Int32) → w_X6_forget S5_1 (fun S12_2 => Q (1 : Int32) S12_2)
-- X6_countChanges
def w_X6_countChanges_114 (k60 : Int32 → St → Prop) (v1 : Int32) (v2 : Int32) (v3 : Int32) (t0 : Int32) (t1 : Int32) (t2 : Int32) (S : St) : Prop :=
 w_X11_put 52 t2 (t1 + t0) S (fun S115_10 => ∀ x118_11, x118_11 = v3 + (1 : Int32) → k60 x118_11 S115_10)
def b_X6_countChanges_60 (k10 : Int32 → St → Prop) (v1 : Int32) (v2 : Int32) (k60 : Int32 → St → Prop) (v3 : Int32) (S : St) : Prop :=
 (if gI S 21 5 ≤ v3 then (∀ x124_4, x124_4 = v1 + (1 : Int32) → k10 x124_4 S) else (∀ x77_5, x77_5 = (v2 * (12 : Int32)) + v3 → w_X11_cell 52 x77_5 S (fun r91_7 S91_6 => w_X11_cell 31 v1 S91_6 (fun r102_9 S102_8 => (if r102_9 = v3 then (w_X6_countChanges_114 k60 v1 v2 v3 (0 : Int32) r91_7 x77_5 S102_8) else (w_X6_countChanges_114 k60 v1 v2 v3 (1 : Int32) r91_7 x77_5 S102_8))))))
def w_X6_countChanges_60 (k10 : Int32 → St → Prop) (v1 : Int32) (v2 : Int32) (v3 : Int32) (S : St) : Prop := ∃ n, lpn (fun _ _ => False) (b_X6_countChanges_60 k10 v1 v2) n v3 S
def b_X6_countChanges_10 (Q : St → Prop) (k10 : Int32 → St → Prop) (v1 : Int32) (S : St) : Prop :=
 (if gI S 30 3 ≤ v1 then (Q S) else ((if gI S 21 0 ≤ 0 then (Q S) else (¬ gI S 21 0 = 0 ∧ (¬ gI S 21 0 = 0 ∧ (w_X9_endAt ((v1 / (gI S 21 0)).toInt64) (v1 - v1 / (gI S 21 0) * (gI S 21 0)) S (fun r54_3 S54_2 => w_X6_countChanges_60 k10 v1 r54_3 (0 : Int32) S54_2)))))))
def w_X6_countChanges_10 (Q : St → Prop) (v1 : Int32) (S : St) : Prop := ∃ n, lpn (fun _ _ => False) (b_X6_countChanges_10 Q) n v1 S
def w_X6_countChanges (S : St) (Q : St → Prop) : Prop :=
 w_X11_blank 52 (0 : Int32) S (fun S5_1 => w_X6_countChanges_10 Q (0 : Int32) S5_1)
-- X6_sortWords
def w_X6_sortWords_86 (k2 : Int32 → St → Prop) (v1 : Int32) (v2 : Int32) (S : St) : Prop :=
 w_X11_put 53 v2 v1 S (fun S92_1 => ∀ x95_2, x95_2 = v1 + (1 : Int32) → k2 x95_2 S92_1)
def b_X6_sortWords_17 (k2 : Int32 → St → Prop) (v1 : Int32) (k17 : Int32 → Int32 → St → Prop) (v2 : Int32) (v3 : Int32) (S : St) : Prop :=
 (if v1 ≤ v3 then (w_X6_sortWords_86 k2 v1 v2 S) else ((if v2 ≤ 0 then (w_X6_sortWords_86 k2 v1 v2 S) else (w_X11_cell 53 (v2 - (1 : Int32)) S (fun r33_4 S33_3 => w_X11_cell 25 r33_4 S33_3 (fun r47_6 S47_5 => w_X11_cell 25 v1 S47_5 (fun r58_8 S58_7 => (if r58_8 < r47_6 then (w_X11_put 53 v2 r33_4 S58_7 (fun S74_9 => ∀ x77_10, x77_10 = v2 + (-1 : Int32) → ∀ x80_11, x80_11 = v3 + (1 : Int32) → k17 x77_10 x80_11 S74_9)) else (w_X6_sortWords_86 k2 v1 v2 S58_7)))))))))
def w_X6_sortWords_17 (k2 : Int32 → St → Prop) (v1 : Int32) (v2 : Int32) (v3 : Int32) (S : St) : Prop := ∃ n, lpn (fun _ _ _ => False) (b_X6_sortWords_17 k2 v1) n v2 v3 S
def b_X6_sortWords_2 (Q : St → Prop) (k2 : Int32 → St → Prop) (v1 : Int32) (S : St) : Prop :=
 (if gI S 21 5 ≤ v1 then (Q S) else (w_X6_sortWords_17 k2 v1 v1 (0 : Int32) S))
def w_X6_sortWords_2 (Q : St → Prop) (v1 : Int32) (S : St) : Prop := ∃ n, lpn (fun _ _ => False) (b_X6_sortWords_2 Q) n v1 S
def w_X6_sortWords (S : St) (Q : St → Prop) : Prop :=
 w_X6_sortWords_2 Q (0 : Int32) S
-- X6_findUnbroken
def w_X6_findUnbroken_63 (k19 : Int32 → Int32 → St → Prop) (v1 : Int32) (v3 : Int32) (t0 : Int32) (t1 : Int32) (S : St) : Prop :=
 ∀ x64_5, x64_5 = t1 &&& t0 → ∀ x65_6, x65_6 = v3 + (1 : Int32) → k19 x64_5 x65_6 S
def b_X6_findUnbroken_19 (k2 : Int32 → St → Prop) (v1 : Int32) (k19 : Int32 → Int32 → St → Prop) (v2 : Int32) (v3 : Int32) (S : St) : Prop :=
 (if gI S 21 0 ≤ v3 then (w_X11_put 54 v1 v2 S (fun S77_1 => ∀ x80_2, x80_2 = v1 + (1 : Int32) → k2 x80_2 S77_1)) else (w_X11_cell 39 v3 S (fun r38_4 S38_3 => (if (v1 >>> (v3 &&& 31)) &&& (1 : Int32) = (v1 >>> (r38_4 &&& 31)) &&& (1 : Int32) then (w_X6_findUnbroken_63 k19 v1 v3 (1 : Int32) v2 S38_3) else (w_X6_findUnbroken_63 k19 v1 v3 (0 : Int32) v2 S38_3)))))
def w_X6_findUnbroken_19 (k2 : Int32 → St → Prop) (v1 : Int32) (v2 : Int32) (v3 : Int32) (S : St) : Prop := ∃ n, lpn (fun _ _ _ => False) (b_X6_findUnbroken_19 k2 v1) n v2 v3 S
def b_X6_findUnbroken_2 (Q : St → Prop) (k2 : Int32 → St → Prop) (v1 : Int32) (S : St) : Prop :=
 (if (1 : Int32) <<< ((gI S 21 0) &&& 31) ≤ v1 then (Q S) else (w_X6_findUnbroken_19 k2 v1 (1 : Int32) (0 : Int32) S))
def w_X6_findUnbroken_2 (Q : St → Prop) (v1 : Int32) (S : St) : Prop := ∃ n, lpn (fun _ _ => False) (b_X6_findUnbroken_2 Q) n v1 S
def w_X6_findUnbroken (S : St) (Q : St → Prop) : Prop :=
 w_X6_findUnbroken_2 Q (0 : Int32) S
-- X6_offer
def w_X6_offer_43 (p0 : Int32) (p1 : Int32) (k2 : Int32 → St → Prop) (v3 : Int32) (S : St) : Prop :=
 ∀ x48_3, x48_3 = p1 ||| ((1 : Int32) <<< (v3 &&& 31)) → w_X11_cell 55 p1 S (fun r55_5 S55_4 => w_X11_cell 52 ((v3 * (12 : Int32)) + p0) S55_4 (fun r68_7 S68_6 => ∀ x72_8, x72_8 = r55_5 + r68_7 → w_X11_cell 55 x48_3 S68_6 (fun r86_10 S86_9 => w_X11_put 55 x48_3 (if x72_8 < r86_10 then x72_8 else r86_10) S86_9 (fun S94_11 => ∀ x97_12, x97_12 = v3 + (1 : Int32) → k2 x97_12 S94_11))))
def b_X6_offer_2 (p0 : Int32) (p1 : Int32) (Q : St → Prop) (k2 : Int32 → St → Prop) (v3 : Int32) (S : St) : Prop :=
 (if gI S 21 0 ≤ v3 then (Q S) else (w_X11_cell 51 v3 S (fun r18_2 S18_1 => (if (p1 >>> (v3 &&& 31)) &&& (1 : Int32) = 0 then ((if r18_2 = (-1 : Int32) then (w_X6_offer_43 p0 p1 k2 v3 S18_1) else ((if r18_2 = p0 then (w_X6_offer_43 p0 p1 k2 v3 S18_1) else (∀ x97_13, x97_13 = v3 + (1 : Int32) → k2 x97_13 S18_1))))) else (∀ x97_14, x97_14 = v3 + (1 : Int32) → k2 x97_14 S18_1)))))
def w_X6_offer_2 (p0 : Int32) (p1 : Int32) (Q : St → Prop) (v3 : Int32) (S : St) : Prop := ∃ n, lpn (fun _ _ => False) (b_X6_offer_2 p0 p1 Q) n v3 S
def w_X6_offer (p0 : Int32) (p1 : Int32) (S : St) (Q : St → Prop) : Prop :=
 w_X6_offer_2 p0 p1 Q (0 : Int32) S
-- X6_dropBroken
def b_X6_dropBroken_2 (p0 : Int32) (Q : St → Prop) (k2 : Int32 → St → Prop) (v2 : Int32) (S : St) : Prop :=
 (if p0 < v2 then (Q S) else (w_X11_cell 54 v2 S (fun r12_2 S12_1 => (if r12_2 = 0 then (w_X11_put 55 v2 (1000 : Int32) S12_1 (fun S26_3 => ∀ x29_4, x29_4 = v2 + (1 : Int32) → k2 x29_4 S26_3)) else (∀ x29_5, x29_5 = v2 + (1 : Int32) → k2 x29_5 S12_1)))))
def w_X6_dropBroken_2 (p0 : Int32) (Q : St → Prop) (v2 : Int32) (S : St) : Prop := ∃ n, lpn (fun _ _ => False) (b_X6_dropBroken_2 p0 Q) n v2 S
def w_X6_dropBroken (p0 : Int32) (S : St) (Q : St → Prop) : Prop :=
 w_X6_dropBroken_2 p0 Q (0 : Int32) S
-- X6_cheapest
def b_X6_cheapest_58 (k33 : Int32 → St → Prop) (v1 : Int32) (v2 : Int32) (v3 : Int32) (k58 : Int32 → St → Prop) (v4 : Int32) (S : St) : Prop :=
 (if v4 < 0 then ((if gI S 21 5 ≤ v2 + (1 : Int32) then (∀ x130_11, x130_11 = v2 + (1 : Int32) → k33 x130_11 S) else (w_X11_cell 53 (v2 + (1 : Int32)) S (fun r116_13 S116_12 => w_X4_areRhyming 21 v3 r116_13 S116_12 (fun r119_15 S119_14 => (if r119_15 = 0 then (w_X6_dropBroken v1 S119_14 (fun S127_16 => ∀ x130_17, x130_17 = v2 + (1 : Int32) → k33 x130_17 S127_16)) else (∀ x130_18, x130_18 = v2 + (1 : Int32) → k33 x130_18 S119_14))))))) else (w_X11_cell 55 v4 S (fun r69_20 S69_19 => (if (1000 : Int32) ≤ r69_20 then (∀ x85_21, x85_21 = v4 + (-1 : Int32) → k58 x85_21 S69_19) else (w_X6_offer v3 v4 S69_19 (fun S82_22 => ∀ x85_23, x85_23 = v4 + (-1 : Int32) → k58 x85_23 S82_22))))))
def w_X6_cheapest_58 (k33 : Int32 → St → Prop) (v1 : Int32) (v2 : Int32) (v3 : Int32) (v4 : Int32) (S : St) : Prop := ∃ n, lpn (fun _ _ => False) (b_X6_cheapest_58 k33 v1 v2 v3) n v4 S
def b_X6_cheapest_33 (Q : Int32 → St → Prop) (v1 : Int32) (k33 : Int32 → St → Prop) (v2 : Int32) (S : St) : Prop :=
 (if gI S 21 5 ≤ v2 then (w_X11_cell 55 v1 S (fun r141_5 S141_4 => (if (1000 : Int32) ≤ r141_5 then (Q (-1 : Int32) S141_4) else (w_X11_cell 55 v1 S141_4 (fun r155_7 S155_6 => Q r155_7 S155_6))))) else (w_X11_cell 53 v2 S (fun r49_9 S49_8 => ∀ x56_10, x56_10 = v1 - (1 : Int32) → w_X6_cheapest_58 k33 v1 v2 r49_9 x56_10 S49_8)))
def w_X6_cheapest_33 (Q : Int32 → St → Prop) (v1 : Int32) (v2 : Int32) (S : St) : Prop := ∃ n, lpn (fun _ _ => False) (b_X6_cheapest_33 Q v1) n v2 S
def w_X6_cheapest (S : St) (Q : Int32 → St → Prop) : Prop :=
 ∀ x11_1, x11_1 = ((1 : Int32) <<< ((gI S 21 0) &&& 31)) - (1 : Int32) → w_X11_blank 55 (1000 : Int32) S (fun S19_2 => w_X11_put 55 (0 : Int32) (0 : Int32) S19_2 (fun S28_3 => w_X6_cheapest_33 Q x11_1 (0 : Int32) S28_3))
-- X6_giveLeast
def b_X6_giveLeast_2 (p0 : Int32) (Q : St → Prop) (k2 : Int32 → St → Prop) (v2 : Int32) (S : St) : Prop :=
 (if gI S 21 5 ≤ v2 then (Q S) else (w_X11_put 51 p0 v2 S (fun S19_1 => w_X6_cheapest S19_1 (fun r23_3 S23_2 => (if r23_3 = gI S23_2 50 9 then (Q S23_2) else (∀ x34_4, x34_4 = v2 + (1 : Int32) → k2 x34_4 S23_2))))))
def w_X6_giveLeast_2 (p0 : Int32) (Q : St → Prop) (v2 : Int32) (S : St) : Prop := ∃ n, lpn (fun _ _ => False) (b_X6_giveLeast_2 p0 Q) n v2 S
def w_X6_giveLeast (p0 : Int32) (S : St) (Q : St → Prop) : Prop :=
 w_X6_giveLeast_2 p0 Q (0 : Int32) S
-- X6_settle
def b_X6_settle_48 (Q : St → Prop) (k48 : Int32 → St → Prop) (v1 : Int32) (S : St) : Prop :=
 (if gI S 21 0 ≤ v1 then (Q S) else ((if gI S 50 9 = (-1 : Int32) then (Q S) else (w_X6_giveLeast v1 S (fun S69_9 => ∀ x72_10, x72_10 = v1 + (1 : Int32) → k48 x72_10 S69_9)))))
def w_X6_settle_48 (Q : St → Prop) (v1 : Int32) (S : St) : Prop := ∃ n, lpn (fun _ _ => False) (b_X6_settle_48 Q) n v1 S
def w_X6_settle (S : St) (Q : St → Prop) : Prop :=
 ∀ S2_1, S2_1 = sI S 50 9 (-1 : Int32) → (if gI S2_1 21 0 ≤ (7 : Int32) then (w_X6_countChanges S2_1 (fun S19_2 => w_X6_sortWords S19_2 (fun S23_3 => w_X6_findUnbroken S23_3 (fun S27_4 => w_X11_blank 51 (-1 : Int32) S27_4 (fun S35_5 => w_X6_cheapest S35_5 (fun r40_7 S40_6 => ∀ S43_8, S43_8 = sI S40_6 50 9 r40_7 → w_X6_settle_48 Q (0 : Int32) S43_8)))))) else (Q S2_1))
-- X6_howMany
def w_X6_howMany (S : St) (Q : Int32 → St → Prop) : Prop :=
 (if gI S 50 8 = 0 then (w_X6_settle S (fun S8_1 => ∀ S13_2, S13_2 = sI S8_1 50 8 (1 : Int32) → Q (gI S13_2 50 9) S13_2)) else (Q (gI S 50 9) S))
-- X11_mend
def w_X11_mend (S : St) (Q : Int32 → St → Prop) : Prop :=
 w_X6_howMany S (fun r4_2 S4_1 => Q r4_2 S4_1)
-- X11_mended
def w_X11_mended (p0 : Int32) (S : St) (Q : Int32 → St → Prop) : Prop :=
 w_X11_isEnd p0 S (fun r2_2 S2_1 => (if r2_2 = 0 then (Q (-1 : Int32) S2_1) else (w_X6_howMany S2_1 (fun r12_4 S12_3 => (if r12_4 = (-1 : Int32) then (Q (-1 : Int32) S12_3) else (w_X11_cell 51 p0 S12_3 (fun r27_6 S27_5 => Q r27_6 S27_5)))))))
-- X11_markAt
def w_X11_markAt (p0 : Int32) (S : St) (Q : Option Nat → St → Prop) : Prop :=
 (if p0 < 0 then (Q none S) else ((if (4 : Int32) ≤ p0 then (Q none S) else (vp_in p0 4 ∧ (Q (gR S 63 p0.toNatClampNeg) S)))))
-- X7_spread
def w_X7_spread (p0 : Int32) (S : St) (Q : Int32 → St → Prop) : Prop :=
 Q (((p0 ^^^ (((p0).toUInt32 >>> (((15 : Int32)).toUInt32 &&& Int32.toUInt32 31)).toInt32)) * (73471 : Int32)) + (5 : Int32)) S
-- X7_mixed
def w_X7_mixed_82 (p0 : Nat) (p1 : Nat) (k44 : Int32 → Int32 → St → Prop) (v4 : Int32) (v5 : Int32) (t0 : Int32) (t1 : Int32) (S : St) : Prop :=
 ∀ x83_14, x83_14 = t1 + t0 → ∀ x84_15, x84_15 = v5 + (1 : Int32) → k44 x83_14 x84_15 S
def b_X7_mixed_44 (p0 : Nat) (p1 : Nat) (Q : Int32 → St → Prop) (v4 : Int32) (k44 : Int32 → Int32 → St → Prop) (v3 : Int32) (v5 : Int32) (S : St) : Prop :=
 (if v4 = 0 then (Q v3 S) else ((if gI S p0 0 ≤ v5 then (Q v3 S) else ((if (v4 >>> (v5 &&& 31)) &&& (1 : Int32) = 0 then (w_X7_mixed_82 p0 p1 k44 v4 v5 (0 : Int32) v3 S) else (w_X11_cell p1 v5 S (fun r72_17 S72_16 => w_X7_spread r72_17 S72_16 (fun r75_19 S75_18 => w_X7_mixed_82 p0 p1 k44 v4 v5 r75_19 v3 S75_18))))))))
def w_X7_mixed_44 (p0 : Nat) (p1 : Nat) (Q : Int32 → St → Prop) (v4 : Int32) (v3 : Int32) (v5 : Int32) (S : St) : Prop := ∃ n, lpn (fun _ _ _ => False) (b_X7_mixed_44 p0 p1 Q v4) n v3 v5 S
def w_X7_mixed (p0 : Nat) (p1 : Nat) (p2 : Int32) (S : St) (Q : Int32 → St → Prop) : Prop :=
 w_X11_cell p1 p2 S (fun r2_2 S2_1 => w_X7_spread r2_2 S2_1 (fun r5_4 S5_3 => w_X11_cell (p0 + 1) p2 S5_3 (fun r17_6 S17_5 => w_X11_cell p1 r17_6 S17_5 (fun r20_8 S20_7 => w_X7_spread r20_8 S20_7 (fun r23_10 S23_9 => ∀ x30_11, x30_11 = (r5_4 * (31 : Int32)) + (r23_10 * (18 : Int32)) → w_X11_cell (p0 + 2) p2 S23_9 (fun r36_13 S36_12 => w_X7_mixed_44 p0 p1 Q r36_13 x30_11 (0 : Int32) S36_12))))))
-- X7_tint
def b_X7_tint_73 (p0 : Nat) (p1 : Nat) (k62 : Int32 → St → Prop) (v3 : Int32) (k73 : Int32 → St → Prop) (v4 : Int32) (S : St) : Prop :=
 (if gI S p0 0 ≤ v4 then (w_X11_copyRow 60 p1 S (fun S109_2 => ∀ x112_3, x112_3 = v3 + (1 : Int32) → k62 x112_3 S109_2)) else (w_X7_mixed p0 p1 v4 S (fun r92_5 S92_4 => w_X11_put 60 v4 r92_5 S92_4 (fun S95_6 => ∀ x98_7, x98_7 = v4 + (1 : Int32) → k73 x98_7 S95_6))))
def w_X7_tint_73 (p0 : Nat) (p1 : Nat) (k62 : Int32 → St → Prop) (v3 : Int32) (v4 : Int32) (S : St) : Prop := ∃ n, lpn (fun _ _ => False) (b_X7_tint_73 p0 p1 k62 v3) n v4 S
def b_X7_tint_62 (p0 : Nat) (p1 : Nat) (Q : St → Prop) (k62 : Int32 → St → Prop) (v3 : Int32) (S : St) : Prop :=
 (if gI S p0 0 ≤ v3 then (Q S) else (w_X7_tint_73 p0 p1 k62 v3 (0 : Int32) S))
def w_X7_tint_62 (p0 : Nat) (p1 : Nat) (Q : St → Prop) (v3 : Int32) (S : St) : Prop := ∃ n, lpn (fun _ _ => False) (b_X7_tint_62 p0 p1 Q) n v3 S
def b_X7_tint_17 (p0 : Nat) (p1 : Nat) (Q : St → Prop) (k17 : Int32 → St → Prop) (v3 : Int32) (S : St) : Prop :=
 (if gI S p0 0 ≤ v3 then (w_X7_tint_62 p0 p1 Q (0 : Int32) S) else (w_X11_cell 62 v3 S (fun r35_9 S35_8 => w_X11_cell (p0 + 3) v3 S35_8 (fun r47_11 S47_10 => w_X11_put p1 v3 ((r35_9 * (128 : Int32)) + r47_11) S47_10 (fun S51_12 => ∀ x54_13, x54_13 = v3 + (1 : Int32) → k17 x54_13 S51_12)))))
def w_X7_tint_17 (p0 : Nat) (p1 : Nat) (Q : St → Prop) (v3 : Int32) (S : St) : Prop := ∃ n, lpn (fun _ _ => False) (b_X7_tint_17 p0 p1 Q) n v3 S
def w_X7_tint (p0 : Nat) (p1 : Nat) (S : St) (Q : St → Prop) : Prop :=
 w_X1_follow 61 (p0 + 1) (gI S p0 0) S (fun S12_1 => w_X7_tint_17 p0 p1 Q (0 : Int32) S12_1)
-- X7_haveSameTints
def w_X7_haveSameTints_80 (k17 : Int32 → Int32 → St → Prop) (v1 : Int32) (v3 : Int32) (t0 : Int32) (t1 : Int32) (S : St) : Prop :=
 ∀ x81_11, x81_11 = t1 - t0 → ∀ x82_12, x82_12 = v3 + (1 : Int32) → k17 x81_11 x82_12 S
def w_X7_haveSameTints_53 (k17 : Int32 → Int32 → St → Prop) (v1 : Int32) (v3 : Int32) (t0 : Int32) (t1 : Int32) (S : St) : Prop :=
 ∀ x54_6, x54_6 = t1 + t0 → w_X11_cell 59 v3 S (fun r61_8 S61_7 => w_X11_cell 58 v1 S61_7 (fun r69_10 S69_9 => (if r61_8 = r69_10 then (w_X7_haveSameTints_80 k17 v1 v3 (1 : Int32) x54_6 S69_9) else (w_X7_haveSameTints_80 k17 v1 v3 (0 : Int32) x54_6 S69_9))))
def b_X7_haveSameTints_17 (Q : Int32 → St → Prop) (k2 : Int32 → St → Prop) (v1 : Int32) (k17 : Int32 → Int32 → St → Prop) (v2 : Int32) (v3 : Int32) (S : St) : Prop :=
 (if gI S 21 0 ≤ v3 then ((if v2 = 0 then (∀ x94_1, x94_1 = v1 + (1 : Int32) → k2 x94_1 S) else (Q (0 : Int32) S))) else (w_X11_cell 58 v3 S (fun r34_3 S34_2 => w_X11_cell 58 v1 S34_2 (fun r42_5 S42_4 => (if r34_3 = r42_5 then (w_X7_haveSameTints_53 k17 v1 v3 (1 : Int32) v2 S42_4) else (w_X7_haveSameTints_53 k17 v1 v3 (0 : Int32) v2 S42_4))))))
def w_X7_haveSameTints_17 (Q : Int32 → St → Prop) (k2 : Int32 → St → Prop) (v1 : Int32) (v2 : Int32) (v3 : Int32) (S : St) : Prop := ∃ n, lpn (fun _ _ _ => False) (b_X7_haveSameTints_17 Q k2 v1) n v2 v3 S
def b_X7_haveSameTints_2 (Q : Int32 → St → Prop) (k2 : Int32 → St → Prop) (v1 : Int32) (S : St) : Prop :=
 (if gI S 21 0 ≤ v1 then (Q (1 : Int32) S) else (w_X7_haveSameTints_17 Q k2 v1 (0 : Int32) (0 : Int32) S))
def w_X7_haveSameTints_2 (Q : Int32 → St → Prop) (v1 : Int32) (S : St) : Prop := ∃ n, lpn (fun _ _ => False) (b_X7_haveSameTints_2 Q) n v1 S
def w_X7_haveSameTints (S : St) (Q : Int32 → St → Prop) : Prop :=
 w_X7_haveSameTints_2 Q (0 : Int32) S
-- X7_fits
def b_X7_fits_48 (p0 : Int32) (p1 : Int32) (Q : Int32 → St → Prop) (k48 : Int32 → St → Prop) (v3 : Int32) (S : St) : Prop :=
 (if gI S 21 0 ≤ v3 then (Q (1 : Int32) S) else (w_X11_cell 57 v3 S (fun r64_11 S64_10 => (if r64_11 = (-1 : Int32) then (∀ x111_12, x111_12 = v3 + (1 : Int32) → k48 x111_12 S64_10) else (w_X11_cell 23 p0 S64_10 (fun r83_14 S83_13 => ∃ m91_15, gR S83_13 56 6 = some m91_15 ∧ isE4 m91_15 ∧ (w_X11_cell (m91_15 + 2) p1 S83_13 (fun r98_17 S98_16 => (if (r83_14 >>> (v3 &&& 31)) &&& (1 : Int32) = (r98_17 >>> (r64_11 &&& 31)) &&& (1 : Int32) then (∀ x111_18, x111_18 = v3 + (1 : Int32) → k48 x111_18 S98_16) else (Q (0 : Int32) S98_16))))))))))
def w_X7_fits_48 (p0 : Int32) (p1 : Int32) (Q : Int32 → St → Prop) (v3 : Int32) (S : St) : Prop := ∃ n, lpn (fun _ _ => False) (b_X7_fits_48 p0 p1 Q) n v3 S
def w_X7_fits (p0 : Int32) (p1 : Int32) (S : St) (Q : Int32 → St → Prop) : Prop :=
 w_X11_cell 58 p0 S (fun r5_2 S5_1 => w_X11_cell 59 p1 S5_1 (fun r13_4 S13_3 => (if r5_2 = r13_4 then (w_X11_cell 24 p0 S13_3 (fun r27_6 S27_5 => ∃ m31_7, gR S27_5 56 6 = some m31_7 ∧ isE4 m31_7 ∧ (w_X11_cell (m31_7 + 3) p1 S27_5 (fun r38_9 S38_8 => (if r27_6 = r38_9 then (w_X7_fits_48 p0 p1 Q (0 : Int32) S38_8) else (Q (0 : Int32) S38_8)))))) else (Q (0 : Int32) S13_3))))
-- X7_givesCycle
def w_X7_givesCycle_111 (Q : Int32 → St → Prop) (v3 : Int32) (v4 : Int32) (S : St) : Prop :=
 w_X11_cell 57 v3 S (fun r116_2 S116_1 => (if r116_2 = v4 then (Q (1 : Int32) S116_1) else (Q (0 : Int32) S116_1)))
def b_X7_givesCycle_8 (Q : Int32 → St → Prop) (k8 : Int32 → Int32 → Int32 → St → Prop) (v3 : Int32) (v4 : Int32) (v5 : Int32) (S : St) : Prop :=
 (if gI S 21 0 ≤ v5 then (w_X7_givesCycle_111 Q v3 v4 S) else (w_X11_cell 57 v3 S (fun r25_4 S25_3 => (if r25_4 = (-1 : Int32) then ((if ((gI S25_3 56 7) >>> (v4 &&& 31)) &&& (1 : Int32) = 0 then (w_X7_fits v3 v4 S25_3 (fun r48_6 S48_5 => (if r48_6 = 0 then (Q (0 : Int32) S48_5) else (w_X11_put 57 v3 v4 S48_5 (fun S63_7 => ∀ S76_8, S76_8 = sI S63_7 56 7 ((gI S63_7 56 7) ||| ((1 : Int32) <<< (v4 &&& 31))) → w_X11_cell 22 v3 S76_8 (fun r87_10 S87_9 => ∃ m92_11, gR S87_9 56 6 = some m92_11 ∧ isE4 m92_11 ∧ (w_X11_cell (m92_11 + 1) v4 S87_9 (fun r100_13 S100_12 => ∀ x105_14, x105_14 = v5 + (1 : Int32) → k8 r87_10 r100_13 x105_14 S100_12)))))))) else (Q (0 : Int32) S25_3))) else (w_X7_givesCycle_111 Q v3 v4 S25_3)))))
def w_X7_givesCycle_8 (Q : Int32 → St → Prop) (v3 : Int32) (v4 : Int32) (v5 : Int32) (S : St) : Prop := ∃ n, lpn (fun _ _ _ _ => False) (b_X7_givesCycle_8 Q) n v3 v4 v5 S
def w_X7_givesCycle (p0 : Int32) (p1 : Int32) (S : St) (Q : Int32 → St → Prop) : Prop :=
 w_X7_givesCycle_8 Q p0 p1 (0 : Int32) S
-- X7_takeCycleBack
def b_X7_takeCycleBack_4 (Q : St → Prop) (k4 : Int32 → Int32 → St → Prop) (v2 : Int32) (v3 : Int32) (S : St) : Prop :=
 (if gI S 21 0 ≤ v3 then (Q S) else (w_X11_cell 57 v2 S (fun r20_2 S20_1 => (if r20_2 = (-1 : Int32) then (Q S20_1) else (w_X11_cell 57 v2 S20_1 (fun r38_4 S38_3 => ∀ S45_5, S45_5 = sI S38_3 56 7 ((gI S20_1 56 7) &&& (((1 : Int32) <<< (r38_4 &&& 31)) ^^^ (-1 : Int32))) → w_X11_put 57 v2 (-1 : Int32) S45_5 (fun S54_6 => w_X11_cell 22 v2 S54_6 (fun r65_8 S65_7 => ∀ x69_9, x69_9 = v3 + (1 : Int32) → k4 r65_8 x69_9 S65_7))))))))
def w_X7_takeCycleBack_4 (Q : St → Prop) (v2 : Int32) (v3 : Int32) (S : St) : Prop := ∃ n, lpn (fun _ _ _ => False) (b_X7_takeCycleBack_4 Q) n v2 v3 S
def w_X7_takeCycleBack (p0 : Int32) (S : St) (Q : St → Prop) : Prop :=
 w_X7_takeCycleBack_4 Q p0 (0 : Int32) S
-- X7_namesWith
def w_X7_namesWith_21 (p0 : Int32) (Q : Int32 → St → Prop) (S : St) : Prop :=
 w_X7_takeCycleBack p0 S (fun S23_3 => Q (0 : Int32) S23_3)
def w_X7_namesWith (rec : Int32 → St → (Int32 → St → Prop) → Prop) (p0 : Int32) (p1 : Int32) (S : St) (Q : Int32 → St → Prop) : Prop :=
 w_X7_givesCycle p0 p1 S (fun r3_2 S3_1 => (if r3_2 = 0 then (w_X7_namesWith_21 p0 Q S3_1) else (rec (p0 + (1 : Int32)) S3_1 (fun r13_5 S13_4 => (if r13_5 = 0 then (w_X7_namesWith_21 p0 Q S13_4) else (Q (1 : Int32) S13_4))))))
-- X7_namesFrom
def b_X7_namesFrom_45 (p0 : Int32) (rec : Int32 → St → (Int32 → St → Prop) → Prop) (Q : Int32 → St → Prop) (k45 : Int32 → St → Prop) (v2 : Int32) (S : St) : Prop :=
 ∃ m47_3, gR S 56 6 = some m47_3 ∧ isE4 m47_3 ∧ ((if gI S m47_3 0 ≤ v2 then (Q (0 : Int32) S) else ((if ((gI S 56 7) >>> (v2 &&& 31)) &&& (1 : Int32) = 0 then (w_X7_namesWith rec p0 v2 S (fun r70_5 S70_4 => (if r70_5 = 0 then (∀ x78_6, x78_6 = v2 + (1 : Int32) → k45 x78_6 S70_4) else (Q (1 : Int32) S70_4)))) else (∀ x78_7, x78_7 = v2 + (1 : Int32) → k45 x78_7 S)))))
def w_X7_namesFrom_45 (p0 : Int32) (rec : Int32 → St → (Int32 → St → Prop) → Prop) (Q : Int32 → St → Prop) (v2 : Int32) (S : St) : Prop := ∃ n, lpn (fun _ _ => False) (b_X7_namesFrom_45 p0 rec Q) n v2 S
def u_X7_namesFrom (rec : Int32 → St → (Int32 → St → Prop) → Prop) (p0 : Int32) (S : St) (Q : Int32 → St → Prop) : Prop :=
 (if p0 < 0 then (Q (1 : Int32) S) else ((if gI S 21 0 ≤ p0 then (Q (1 : Int32) S) else ((if p0 < (12 : Int32) then (w_X11_cell 57 p0 S (fun r28_2 S28_1 => (if r28_2 = (-1 : Int32) then (w_X7_namesFrom_45 p0 rec Q (0 : Int32) S28_1) else (rec (p0 + (1 : Int32)) S28_1 (fun r39_9 S39_8 => (r39_9 = 0 ∨ r39_9 = 1) ∧ Q r39_9 S39_8))))) else (Q (1 : Int32) S))))))
def w_X7_namesFrom : Nat → Int32 → St → (Int32 → St → Prop) → Prop
  | 0 => fun _ _ _ => False
  | d + 1 => u_X7_namesFrom (w_X7_namesFrom d)
-- X7_finds
def w_X7_finds (p0 : Nat) (S : St) (Q : Int32 → St → Prop) : Prop :=
 ∀ S2_1, S2_1 = sR S 56 6 (some p0) → ∃ m13_2, gR S2_1 56 6 = some m13_2 ∧ isE4 m13_2 ∧ ((if gI S2_1 21 0 = gI S2_1 m13_2 0 then (w_X7_tint 21 58 S2_1 (fun S33_3 => ∃ m38_4, gR S33_3 56 6 = some m38_4 ∧ isE4 m38_4 ∧ (w_X7_tint m38_4 59 S33_3 (fun S45_5 => w_X7_haveSameTints S45_5 (fun r49_7 S49_6 => (if r49_7 = 0 then (Q (0 : Int32) S49_6) else (∀ S59_8, S59_8 = sI S49_6 56 7 (0 : Int32) → w_X11_blank 57 (-1 : Int32) S59_8 (fun S67_9 => ∃ d72_12, d72_12 ≤ 32 ∧ w_X7_namesFrom d72_12 (0 : Int32) S67_9 (fun r72_11 S72_10 => (r72_11 = 0 ∨ r72_11 = 1) ∧ Q r72_11 S72_10))))))))) else (Q (0 : Int32) S2_1)))
-- X11_same
def w_X11_same (p0 : Int32) (S : St) (Q : Int32 → St → Prop) : Prop :=
 w_X11_markAt p0 S (fun r2_2 S2_1 => (if r2_2 = none then (Q (-1 : Int32) S2_1) else (∃ m10_3, r2_2 = some m10_3 ∧ isE5 m10_3 ∧ ((if gI S2_1 m10_3 2 = 0 then (Q (-1 : Int32) S2_1) else (∃ m23_4, r2_2 = some m23_4 ∧ isE5 m23_4 ∧ (w_X7_finds (m23_4 + 1) S2_1 (fun r27_6 S27_5 => (if r27_6 = 0 then (Q (0 : Int32) S27_5) else (Q (1 : Int32) S27_5))))))))))
-- X11_renamed
def w_X11_renamed (p0 : Int32) (p1 : Int32) (S : St) (Q : Int32 → St → Prop) : Prop :=
 w_X11_isEnd p1 S (fun r2_2 S2_1 => (if r2_2 = 0 then (Q (-1 : Int32) S2_1) else (w_X11_same p0 S2_1 (fun r10_4 S10_3 => (if r10_4 = (1 : Int32) then (w_X11_cell 57 p1 S10_3 (fun r25_6 S25_5 => Q r25_6 S25_5)) else (Q (-1 : Int32) S10_3))))))
-- X2_copy
def w_X2_copy (o : Nat) (p0 : Nat) (S : St) (Q : St → Prop) : Prop :=
 ∀ S5_1, S5_1 = sI S o 3 (gI S p0 3) → w_X11_copyRow (p0 + 1) (o + 1) S5_1 (fun S16_2 => w_X11_copyRow (p0 + 2) (o + 2) S16_2 (fun S27_3 => w_X11_copyRow (p0 + 3) (o + 3) S27_3 (fun S38_4 => Q S38_4)))
-- X5_lay
def w_X5_lay (o : Nat) (p0 : Nat) (p1 : Nat) (S : St) (Q : St → Prop) : Prop :=
 w_X4_copy (o + 1) p0 S (fun S5_1 => w_X2_copy (o + 10) p1 S5_1 (fun S13_2 => ∀ S18_3, S18_3 = sI S13_2 o 2 (1 : Int32) → Q S18_3))
-- X11_mark
def w_X11_mark_23 (p1 : Int32) (Q : Int32 → St → Prop) (v3 : Option Nat) (S : St) : Prop :=
 (if p1 = 0 then (∃ m56_3, v3 = some m56_3 ∧ isE5 m56_3 ∧ (w_X5_lay m56_3 21 30 S (fun S65_4 => Q (1 : Int32) S65_4))) else (∃ m31_5, v3 = some m31_5 ∧ isE5 m31_5 ∧ (w_X4_copy 21 (m31_5 + 1) S (fun S35_6 => ∃ m42_7, v3 = some m42_7 ∧ isE5 m42_7 ∧ (w_X2_copy 30 (m42_7 + 10) S35_6 (fun S46_8 => w_X11_formChanged S46_8 (fun S50_9 => Q (1 : Int32) S50_9)))))))
def w_X11_mark (p0 : Int32) (p1 : Int32) (S : St) (Q : Int32 → St → Prop) : Prop :=
 w_X11_markAt p0 S (fun r2_2 S2_1 => (if r2_2 = none then (Q (0 : Int32) S2_1) else ((if p1 = 0 then (w_X11_mark_23 p1 Q r2_2 S2_1) else (∃ m14_10, r2_2 = some m14_10 ∧ isE5 m14_10 ∧ ((if gI S2_1 m14_10 2 = 0 then (Q (0 : Int32) S2_1) else (w_X11_mark_23 p1 Q r2_2 S2_1))))))))
-- X11_count
def w_X11_count (p0 : Int32) (S : St) (Q : Int32 → St → Prop) : Prop :=
 (if p0 = (0 : Int32) then (Q (gI S 21 0) S) else (if p0 = (1 : Int32) then (Q (gI S 21 1) S) else (if p0 = (2 : Int32) then (Q (gI S 21 2) S) else (if p0 = (3 : Int32) then (Q (gI S 21 3) S) else (if p0 = (4 : Int32) then (Q (gI S 21 4) S) else (if p0 = (5 : Int32) then (Q (gI S 21 5) S) else (if p0 = (6 : Int32) then (Q (gI S 21 6) S) else (if p0 = (7 : Int32) then (Q (gI S 30 3) S) else (if p0 = (8 : Int32) then (Q (gI S 1 5) S) else Q (-1 : Int32) S)))))))))
-- X11_isRepeated
def b_X11_isRepeated_2 (p0 : Int32) (p1 : Int32) (Q : Int32 → St → Prop) (k2 : Int32 → St → Prop) (v3 : Int32) (S : St) : Prop :=
 (if p0 ≤ v3 then (Q (0 : Int32) S) else (w_X11_cell 31 v3 S (fun r15_2 S15_1 => (if r15_2 = p1 then (Q (1 : Int32) S15_1) else (∀ x24_3, x24_3 = v3 + (1 : Int32) → k2 x24_3 S15_1)))))
def w_X11_isRepeated_2 (p0 : Int32) (p1 : Int32) (Q : Int32 → St → Prop) (v3 : Int32) (S : St) : Prop := ∃ n, lpn (fun _ _ => False) (b_X11_isRepeated_2 p0 p1 Q) n v3 S
def w_X11_isRepeated (p0 : Int32) (p1 : Int32) (S : St) (Q : Int32 → St → Prop) : Prop :=
 w_X11_isRepeated_2 p0 p1 Q (0 : Int32) S
-- X11_jars
def b_X11_jars_15 (p0 : Int32) (Q : Int32 → St → Prop) (v3 : Int32) (k15 : Int32 → St → Prop) (v4 : Int32) (S : St) : Prop :=
 (if p0 ≤ v4 then (Q (0 : Int32) S) else (w_X9_areOneClass v4 p0 S (fun r28_4 S28_3 => (if r28_4 = 0 then (∀ x62_5, x62_5 = v4 + (1 : Int32) → k15 x62_5 S28_3) else (w_X11_cell 31 v4 S28_3 (fun r50_7 S50_6 => w_X11_cell 25 r50_7 S50_6 (fun r53_9 S53_8 => (if r53_9 = v3 then (∀ x62_10, x62_10 = v4 + (1 : Int32) → k15 x62_10 S53_8) else (Q (1 : Int32) S53_8)))))))))
def w_X11_jars_15 (p0 : Int32) (Q : Int32 → St → Prop) (v3 : Int32) (v4 : Int32) (S : St) : Prop := ∃ n, lpn (fun _ _ => False) (b_X11_jars_15 p0 Q v3) n v4 S
def w_X11_jars (p0 : Int32) (p1 : Int32) (S : St) (Q : Int32 → St → Prop) : Prop :=
 w_X11_cell 25 p1 S (fun r8_2 S8_1 => w_X11_jars_15 p0 Q r8_2 (0 : Int32) S8_1)
-- X11_whyWrong
def w_X11_whyWrong_187 (p0 : Int32) (Q : Int32 → St → Prop) (v4 : Int32) (v5 : Int32) (S : St) : Prop :=
 (if v4 ≤ 0 then (Q (0 : Int32) S) else (w_X11_cell 31 (p0 - (1 : Int32)) S (fun r206_13 S206_12 => w_X4_forbids 21 r206_13 v5 S206_12 (fun r211_15 S211_14 => (if r211_15 = 0 then (Q (0 : Int32) S211_14) else (Q (5 : Int32) S211_14))))))
def w_X11_whyWrong_154 (p0 : Int32) (Q : Int32 → St → Prop) (v4 : Int32) (v5 : Int32) (S : St) : Prop :=
 (if gI S 21 4 ≤ 0 then (w_X11_whyWrong_187 p0 Q v4 v5 S) else (w_X11_cell 33 p0 S (fun r172_17 S172_16 => (if r172_17 = gI S172_16 21 4 then (w_X11_whyWrong_187 p0 Q v4 v5 S172_16) else (Q (4 : Int32) S172_16)))))
def w_X11_whyWrong_100 (p0 : Int32) (Q : Int32 → St → Prop) (v3 : Int32) (v4 : Int32) (v5 : Int32) (S : St) : Prop :=
 w_X11_cell 24 v4 S (fun r109_11 S109_10 => (if r109_11 ≤ 0 then (w_X11_whyWrong_154 p0 Q v4 v5 S109_10) else (¬ r109_11 = 0 ∧ ((if v3 - v3 / r109_11 * r109_11 = 0 then (w_X11_cell 32 p0 S109_10 (fun r134_19 S134_18 => w_X11_cell 32 v4 S134_18 (fun r146_21 S146_20 => (if r134_19 = r146_21 then (w_X11_whyWrong_154 p0 Q v4 v5 S146_20) else (Q (3 : Int32) S146_20))))) else (w_X11_whyWrong_154 p0 Q v4 v5 S109_10))))))
def w_X11_whyWrong_83 (p0 : Int32) (Q : Int32 → St → Prop) (v3 : Int32) (v4 : Int32) (v5 : Int32) (S : St) : Prop :=
 (if v3 = 0 then (w_X11_jars v4 v5 S (fun r92_9 S92_8 => (if r92_9 = 0 then (w_X11_whyWrong_100 p0 Q v3 v4 v5 S92_8) else (Q (2 : Int32) S92_8)))) else (w_X11_whyWrong_100 p0 Q v3 v4 v5 S))
def w_X11_whyWrong (p0 : Int32) (S : St) (Q : Int32 → St → Prop) : Prop :=
 ∀ x7_1, x7_1 = gI S 21 0 → (if (1 : Int32) ≤ x7_1 then (¬ x7_1 = 0 ∧ (∀ x18_2, x18_2 = p0 / x7_1 → ¬ x7_1 = 0 ∧ (∀ x22_3, x22_3 = p0 - p0 / x7_1 * x7_1 → w_X11_cell 31 p0 S (fun r32_5 S32_4 => (if x18_2 = 0 then (w_X11_isRepeated x22_3 r32_5 S32_4 (fun r46_7 S46_6 => (if r46_7 = 0 then (w_X11_whyWrong_83 p0 Q x18_2 x22_3 r32_5 S46_6) else (Q (1 : Int32) S46_6)))) else (w_X9_endAt ((x18_2).toInt64) x22_3 S32_4 (fun r72_23 S72_22 => w_X11_cell 31 r72_23 S72_22 (fun r75_25 S75_24 => (if r32_5 = r75_25 then (w_X11_whyWrong_83 p0 Q x18_2 x22_3 r32_5 S75_24) else (Q (1 : Int32) S75_24)))))))))) else (Q (0 : Int32) S))
