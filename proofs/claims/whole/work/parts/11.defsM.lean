/-! ===== what each method means (by program out of the listing): a weakest precondition over states of numbered cells ===== -/
-- X12_thrown
def w_X12_thrown (S : St) (Q : Int32 → St → Prop) : Prop :=
 Q (gI S 0 0) S
-- X12_within
def w_X12_within (p0 : Int32) (p1 : Int32) (p2 : Int32) (S : St) (Q : Int32 → St → Prop) : Prop :=
 (if p0 < p1 then (Q (0 : Int32) S) else ((if p2 < p0 then (Q (0 : Int32) S) else (Q (1 : Int32) S))))
-- X12_bits
def b_X12_bits_4 (p0 : Int32) (Q : Int32 → St → Prop) (k4 : Int32 → Int32 → St → Prop) (v1 : Int32) (v2 : Int32) (S : St) : Prop :=
 (if (12 : Int32) ≤ v2 then (Q v1 S) else (∀ x17_1, x17_1 = v1 + ((p0 >>> (v2 &&& 31)) &&& (1 : Int32)) → ∀ x18_2, x18_2 = v2 + (1 : Int32) → k4 x17_1 x18_2 S))
def w_X12_bits_4 (p0 : Int32) (Q : Int32 → St → Prop) (v1 : Int32) (v2 : Int32) (S : St) : Prop := ∃ n, lpn (fun _ _ _ => False) (b_X12_bits_4 p0 Q) n v1 v2 S
def w_X12_bits (p0 : Int32) (S : St) (Q : Int32 → St → Prop) : Prop :=
 w_X12_bits_4 p0 Q (0 : Int32) (0 : Int32) S
-- X12_feed
def w_X12_feed_93 (p0 : Int64) (p1 : Int64) (p2 : Int64) (k8 : Int32 → St → Prop) (v7 : Int32) (v10 : Int32) (S : St) : Prop :=
 vp_in (gI S 0 1) 1000 ∧ (∀ S103_4, S103_4 = sI S 1 (gI S 0 1).toNatClampNeg v10 → ∀ S111_5, S111_5 = sI S103_4 0 1 ((gI S103_4 0 1) + (1 : Int32)) → ∀ x114_6, x114_6 = v7 + (1 : Int32) → k8 x114_6 S111_5)
def w_X12_feed_39 (p0 : Int64) (p1 : Int64) (p2 : Int64) (k8 : Int32 → St → Prop) (v7 : Int32) (t0 : Int64) (S : St) : Prop :=
 ∀ x60_2, x60_2 = ((((t0).toUInt64 >>> ((((56 : Int32) - ((8 : Int32) * (v7 &&& (7 : Int32))))).toInt64.toUInt64 &&& Int64.toUInt64 63)).toInt64) &&& (255 : Int64)).toInt32 → (if (1000 : Int32) ≤ gI S 0 1 then (∀ x114_3, x114_3 = v7 + (1 : Int32) → k8 x114_3 S) else ((if x60_2 = (10 : Int32) then (w_X12_feed_93 p0 p1 p2 k8 v7 x60_2 S) else ((if x60_2 < (32 : Int32) then (∀ x114_7, x114_7 = v7 + (1 : Int32) → k8 x114_7 S) else ((if (126 : Int32) < x60_2 then (∀ x114_8, x114_8 = v7 + (1 : Int32) → k8 x114_8 S) else (w_X12_feed_93 p0 p1 p2 k8 v7 x60_2 S))))))))
def b_X12_feed_8 (p0 : Int64) (p1 : Int64) (p2 : Int64) (Q : Int32 → St → Prop) (k8 : Int32 → St → Prop) (v7 : Int32) (S : St) : Prop :=
 (if (24 : Int32) ≤ v7 then (Q (gI S 0 1) S) else ((if (8 : Int32) ≤ v7 then ((if (16 : Int32) ≤ v7 then (w_X12_feed_39 p0 p1 p2 k8 v7 p2 S) else (w_X12_feed_39 p0 p1 p2 k8 v7 p1 S))) else (w_X12_feed_39 p0 p1 p2 k8 v7 p0 S))))
def w_X12_feed_8 (p0 : Int64) (p1 : Int64) (p2 : Int64) (Q : Int32 → St → Prop) (v7 : Int32) (S : St) : Prop := ∃ n, lpn (fun _ _ => False) (b_X12_feed_8 p0 p1 p2 Q) n v7 S
def w_X12_feed (p0 : Int64) (p1 : Int64) (p2 : Int64) (S : St) (Q : Int32 → St → Prop) : Prop :=
 ∀ S2_1, S2_1 = sI S 0 0 (0 : Int32) → w_X12_feed_8 p0 p1 p2 Q (0 : Int32) S2_1
-- X12_signAt
def w_X12_signAt (p0 : Int32) (S : St) (Q : Int32 → St → Prop) : Prop :=
 (if gI S 0 3 ≤ p0 then (Q (0 : Int32) S) else (vp_in p0 1000 ∧ (Q (gI S 1 p0.toNatClampNeg) S)))
-- X12_nextToken
def w_X12_nextToken_345 (Q : St → Prop) (v1 : Int32) (S : St) : Prop :=
 (if v1 = (45 : Int32) then (∀ S368_7, S368_7 = sI S 0 6 (3 : Int32) → Q S368_7) else ((if v1 < (59 : Int32) then (∀ S368_8, S368_8 = sI S 0 6 (4 : Int32) → Q S368_8) else ((if (61 : Int32) < v1 then (∀ S368_9, S368_9 = sI S 0 6 (4 : Int32) → Q S368_9) else (∀ S368_10, S368_10 = sI S 0 6 (3 : Int32) → Q S368_10))))))
def w_X12_nextToken_322 (Q : St → Prop) (v1 : Int32) (S : St) : Prop :=
 ∀ S329_6, S329_6 = sI S 0 4 ((gI S 0 4) + (1 : Int32)) → (if v1 < (40 : Int32) then (w_X12_nextToken_345 Q v1 S329_6) else ((if v1 ≤ (43 : Int32) then (∀ S368_11, S368_11 = sI S329_6 0 6 (3 : Int32) → Q S368_11) else (w_X12_nextToken_345 Q v1 S329_6))))
def w_X12_nextToken_299 (Q : St → Prop) (S : St) : Prop :=
 (if (gI S 0 4) - (gI S 0 5) ≤ (4 : Int32) then (∀ S318_14, S318_14 = sI S 0 6 (2 : Int32) → Q S318_14) else (∀ S318_15, S318_15 = sI S 0 6 (4 : Int32) → Q S318_15))
def w_X12_nextToken_286 (k224 : St → Prop) (S : St) : Prop :=
 ∀ S293_18, S293_18 = sI S 0 4 ((gI S 0 4) + (1 : Int32)) → k224 S293_18
def b_X12_nextToken_224 (Q : St → Prop) (k224 : St → Prop) (S : St) : Prop :=
 w_X12_signAt (gI S 0 4) S (fun r229_13 S229_12 => (if r229_13 < (48 : Int32) then (w_X12_nextToken_299 Q S229_12) else (w_X12_signAt (gI S229_12 0 4) S229_12 (fun r242_17 S242_16 => (if (57 : Int32) < r242_17 then (w_X12_nextToken_299 Q S242_16) else ((if (4 : Int32) ≤ (gI S242_16 0 4) - (gI S242_16 0 5) then (w_X12_nextToken_286 k224 S242_16) else (w_X12_signAt (gI S242_16 0 4) S242_16 (fun r276_20 S276_19 => ∀ S283_21, S283_21 = sI S276_19 0 8 ((((gI S242_16 0 8) * (10 : Int32)) + r276_20) - (48 : Int32)) → w_X12_nextToken_286 k224 S283_21)))))))))
def w_X12_nextToken_224 (Q : St → Prop) (S : St) : Prop := ∃ n, lpn (fun _ => False) (b_X12_nextToken_224 Q) n S
def w_X12_nextToken_212 (Q : St → Prop) (v1 : Int32) (S : St) : Prop :=
 (if v1 < (48 : Int32) then (w_X12_nextToken_322 Q v1 S) else ((if (57 : Int32) < v1 then (w_X12_nextToken_322 Q v1 S) else (w_X12_nextToken_224 Q S))))
def w_X12_nextToken_188 (Q : St → Prop) (S : St) : Prop :=
 (if (gI S 0 4) - (gI S 0 5) ≤ (8 : Int32) then (∀ S208_24, S208_24 = sI S 0 6 (1 : Int32) → Q S208_24) else (∀ S208_25, S208_25 = sI S 0 6 (4 : Int32) → Q S208_25))
def w_X12_nextToken_175 (k109 : St → Prop) (S : St) : Prop :=
 ∀ S182_28, S182_28 = sI S 0 4 ((gI S 0 4) + (1 : Int32)) → k109 S182_28
def b_X12_nextToken_109 (Q : St → Prop) (k109 : St → Prop) (S : St) : Prop :=
 w_X12_signAt (gI S 0 4) S (fun r114_23 S114_22 => (if r114_23 < (97 : Int32) then (w_X12_nextToken_188 Q S114_22) else (w_X12_signAt (gI S114_22 0 4) S114_22 (fun r127_27 S127_26 => (if (122 : Int32) < r127_27 then (w_X12_nextToken_188 Q S127_26) else ((if (8 : Int32) ≤ (gI S127_26 0 4) - (gI S127_26 0 5) then (w_X12_nextToken_175 k109 S127_26) else (w_X12_signAt (gI S127_26 0 4) S127_26 (fun r163_30 S163_29 => ∀ S172_31, S172_31 = sJ S163_29 0 7 ((((gJ S127_26 0 7) * (27 : Int64)) + ((r163_30).toInt64)) - (96 : Int64)) → w_X12_nextToken_175 k109 S172_31)))))))))
def w_X12_nextToken_109 (Q : St → Prop) (S : St) : Prop := ∃ n, lpn (fun _ => False) (b_X12_nextToken_109 Q) n S
def w_X12_nextToken_52 (Q : St → Prop) (S : St) : Prop :=
 ∀ S57_1, S57_1 = sI S 0 5 (gI S 0 4) → ∀ S62_2, S62_2 = sJ S57_1 0 7 (0 : Int64) → ∀ S67_3, S67_3 = sI S62_2 0 8 (0 : Int32) → (if gI S67_3 0 4 = gI S67_3 0 3 then (∀ S83_4, S83_4 = sI S67_3 0 6 (0 : Int32) → Q S83_4) else (vp_in (gI S67_3 0 4) 1000 ∧ (∀ x96_5, x96_5 = gI S67_3 1 (gI S67_3 0 4).toNatClampNeg → (if x96_5 < (97 : Int32) then (w_X12_nextToken_212 Q x96_5 S67_3) else ((if (122 : Int32) < x96_5 then (w_X12_nextToken_212 Q x96_5 S67_3) else (w_X12_nextToken_109 Q S67_3)))))))
def w_X12_nextToken_39 (k0 : St → Prop) (S : St) : Prop :=
 ∀ S46_32, S46_32 = sI S 0 4 ((gI S 0 4) + (1 : Int32)) → k0 S46_32
def b_X12_nextToken_0 (Q : St → Prop) (k0 : St → Prop) (S : St) : Prop :=
 (if gI S 0 3 ≤ gI S 0 4 then (w_X12_nextToken_52 Q S) else (vp_in (gI S 0 4) 1000 ∧ ((if gI S 1 (gI S 0 4).toNatClampNeg = (32 : Int32) then (w_X12_nextToken_39 k0 S) else (vp_in (gI S 0 4) 1000 ∧ ((if gI S 1 (gI S 0 4).toNatClampNeg = (10 : Int32) then (w_X12_nextToken_39 k0 S) else (w_X12_nextToken_52 Q S))))))))
def w_X12_nextToken_0 (Q : St → Prop) (S : St) : Prop := ∃ n, lpn (fun _ => False) (b_X12_nextToken_0 Q) n S
def w_X12_nextToken (S : St) (Q : St → Prop) : Prop :=
 w_X12_nextToken_0 Q S
-- X12_isWord
def w_X12_isWord (p0 : Int64) (S : St) (Q : Int32 → St → Prop) : Prop :=
 (if gI S 0 6 = (1 : Int32) then ((if gJ S 0 7 = p0 then (Q (1 : Int32) S) else (Q (0 : Int32) S))) else (Q (0 : Int32) S))
-- X12_isSign
def w_X12_isSign (p0 : Int32) (S : St) (Q : Int32 → St → Prop) : Prop :=
 (if gI S 0 6 = (3 : Int32) then (vp_in (gI S 0 5) 1000 ∧ ((if gI S 1 (gI S 0 5).toNatClampNeg = p0 then (Q (1 : Int32) S) else (Q (0 : Int32) S)))) else (Q (0 : Int32) S))
-- X12_fails
def w_X12_fails (p0 : Int32) (S : St) (Q : Int32 → St → Prop) : Prop :=
 ∀ S10_1, S10_1 = sI S 0 9 (p0 + ((16 : Int32) * (gI S 0 5))) → Q (0 : Int32) S10_1
-- X12_puts
def w_X12_puts (p0 : Int32) (S : St) (Q : St → Prop) : Prop :=
 vp_in (gI S 0 43) 1000 ∧ (∀ S9_1, S9_1 = sI S 20 (gI S 0 43).toNatClampNeg p0 → ∀ S17_2, S17_2 = sI S9_1 0 43 ((gI S9_1 0 43) + (1 : Int32)) → Q S17_2)
-- X12_fact
def w_X12_fact (S : St) (Q : Int32 → St → Prop) : Prop :=
 (if gI S 0 6 = (1 : Int32) then ((if gJ S 0 7 = (385418 : Int64) then (Q (1 : Int32) S) else ((if gJ S 0 7 = (279875 : Int64) then (Q (2 : Int32) S) else ((if gJ S 0 7 = (247516 : Int64) then (Q (3 : Int32) S) else ((if gJ S 0 7 = (10266284 : Int64) then (Q (4 : Int32) S) else ((if gJ S 0 7 = (774500 : Int64) then (Q (5 : Int32) S) else (Q (0 : Int32) S))))))))))) else (Q (0 : Int32) S))
-- X12_reads
def w_X12_reads_418 (Q : Int32 → St → Prop) (S : St) : Prop :=
 w_X12_fails (1 : Int32) S (fun r420_21 S420_20 => (r420_21 = 0 ∨ r420_21 = 1) ∧ Q r420_21 S420_20)
def w_X12_reads_399 (Q : Int32 → St → Prop) (v1 : Int32) (S : St) : Prop :=
 (if v1 = 0 then (w_X12_isSign (59 : Int32) S (fun r406_19 S406_18 => (if r406_19 = 0 then (w_X12_reads_418 Q S406_18) else (w_X12_nextToken S406_18 (fun S413_22 => Q (1 : Int32) S413_22))))) else (w_X12_reads_418 Q S))
def w_X12_reads_424 (k11 : Int32 → Int32 → St → Prop) (v1 : Int32) (v2 : Int32) (S : St) : Prop :=
 w_X12_nextToken S (fun S425_25 => k11 v1 v2 S425_25)
def b_X12_reads_379 (k11 : Int32 → Int32 → St → Prop) (v2 : Int32) (k379 : Int32 → St → Prop) (v1 : Int32) (S : St) : Prop :=
 (if v1 ≤ 0 then (w_X12_reads_424 k11 v1 v2 S) else (vp_in v1 7 ∧ ((if gI S 21 v1.toNatClampNeg = (1 : Int32) then (∀ x393_26, x393_26 = v1 + (-1 : Int32) → k379 x393_26 S) else (w_X12_reads_424 k11 v1 v2 S)))))
def w_X12_reads_379 (k11 : Int32 → Int32 → St → Prop) (v2 : Int32) (v1 : Int32) (S : St) : Prop := ∃ n, lpn (fun _ _ => False) (b_X12_reads_379 k11 v2) n v1 S
def w_X12_reads_342 (k11 : Int32 → Int32 → St → Prop) (v1 : Int32) (t0 : Int32) (S : St) : Prop :=
 w_X12_puts t0 S (fun S342_29 => vp_in v1 7 ∧ (∀ S351_30, S351_30 = sI S342_29 22 v1.toNatClampNeg (0 : Int32) → w_X12_reads_424 k11 v1 (1 : Int32) S351_30))
def w_X12_reads_324 (k11 : Int32 → Int32 → St → Prop) (v1 : Int32) (S : St) : Prop :=
 w_X12_isWord (1111 : Int64) S (fun r329_28 S329_27 => (if r329_28 = 0 then (w_X12_reads_342 k11 v1 (27 : Int32) S329_27) else (w_X12_reads_342 k11 v1 (26 : Int32) S329_27)))
def w_X12_reads_304 (Q : Int32 → St → Prop) (k11 : Int32 → Int32 → St → Prop) (v1 : Int32) (v2 : Int32) (S : St) : Prop :=
 w_X12_isWord (1111 : Int64) S (fun r308_13 S308_12 => (if r308_13 = 0 then (w_X12_isWord (423 : Int64) S308_12 (fun r318_15 S318_14 => (if r318_15 = 0 then (w_X12_isSign (41 : Int32) S318_14 (fun r360_17 S360_16 => (if r360_17 = 0 then (w_X12_reads_399 Q v1 S360_16) else ((if v1 ≤ 0 then (w_X12_reads_399 Q v1 S360_16) else (w_X12_puts (29 : Int32) S360_16 (fun S373_23 => ∀ x376_24, x376_24 = v1 + (-1 : Int32) → w_X12_reads_379 k11 v2 x376_24 S373_23))))))) else (w_X12_reads_324 k11 v1 S318_14)))) else (w_X12_reads_324 k11 v1 S308_12)))
def w_X12_reads_289 (k11 : Int32 → Int32 → St → Prop) (v1 : Int32) (t0 : Int32) (S : St) : Prop :=
 w_X12_puts t0 S (fun S289_33 => vp_in v1 7 ∧ (∀ S298_34, S298_34 = sI S289_33 22 v1.toNatClampNeg (1 : Int32) → w_X12_reads_424 k11 v1 (1 : Int32) S298_34))
def w_X12_reads_263 (Q : Int32 → St → Prop) (k11 : Int32 → Int32 → St → Prop) (v1 : Int32) (v2 : Int32) (S : St) : Prop :=
 vp_in v1 7 ∧ ((if gI S 22 v1.toNatClampNeg = 0 then (w_X12_isSign (60 : Int32) S (fun r276_32 S276_31 => (if r276_32 = 0 then (w_X12_reads_289 k11 v1 (25 : Int32) S276_31) else (w_X12_reads_289 k11 v1 (24 : Int32) S276_31)))) else (w_X12_reads_304 Q k11 v1 v2 S)))
def w_X12_reads_237 (k11 : Int32 → Int32 → St → Prop) (v1 : Int32) (t0 : Int32) (S : St) : Prop :=
 w_X12_puts t0 S (fun S237_39 => w_X12_reads_424 k11 v1 (1 : Int32) S237_39)
def w_X12_reads_206 (k11 : Int32 → Int32 → St → Prop) (v1 : Int32) (S : St) : Prop :=
 w_X12_isSign (43 : Int32) S (fun r210_36 S210_35 => (if r210_36 = 0 then (w_X12_isSign (45 : Int32) S210_35 (fun r224_38 S224_37 => (if r224_38 = 0 then (w_X12_reads_237 k11 v1 (22 : Int32) S224_37) else (w_X12_reads_237 k11 v1 (21 : Int32) S224_37)))) else (w_X12_reads_237 k11 v1 (20 : Int32) S210_35)))
def w_X12_reads_172 (k11 : Int32 → Int32 → St → Prop) (v1 : Int32) (v2 : Int32) (S : St) : Prop :=
 w_X12_nextToken S (fun S173_49 => k11 v1 v2 S173_49)
def b_X12_reads_152 (k11 : Int32 → Int32 → St → Prop) (v2 : Int32) (k152 : Int32 → St → Prop) (v1 : Int32) (S : St) : Prop :=
 (if v1 ≤ 0 then (w_X12_reads_172 k11 v1 v2 S) else (vp_in v1 7 ∧ ((if gI S 21 v1.toNatClampNeg = (1 : Int32) then (∀ x166_50, x166_50 = v1 + (-1 : Int32) → k152 x166_50 S) else (w_X12_reads_172 k11 v1 v2 S)))))
def w_X12_reads_152 (k11 : Int32 → Int32 → St → Prop) (v2 : Int32) (v1 : Int32) (S : St) : Prop := ∃ n, lpn (fun _ _ => False) (b_X12_reads_152 k11 v2) n v1 S
def w_X12_reads_147 (k11 : Int32 → Int32 → St → Prop) (v1 : Int32) (t0 : Int32) (S : St) : Prop :=
 w_X12_puts t0 S (fun S147_48 => w_X12_reads_152 k11 (0 : Int32) v1 S147_48)
def w_X12_reads_120 (k11 : Int32 → Int32 → St → Prop) (v1 : Int32) (v2 : Int32) (t0 : Int32) (t1 : Int32) (S : St) : Prop :=
 vp_in t1 7 ∧ (∀ S120_53, S120_53 = sI S 21 t1.toNatClampNeg t0 → vp_in v1 7 ∧ (∀ S127_54, S127_54 = sI S120_53 22 v1.toNatClampNeg (0 : Int32) → w_X12_reads_172 k11 v1 v2 S127_54))
def w_X12_reads_99 (k11 : Int32 → Int32 → St → Prop) (v1 : Int32) (v2 : Int32) (v4 : Int32) (t0 : Int32) (S : St) : Prop :=
 w_X12_puts t0 S (fun S99_51 => ∀ x102_52, x102_52 = v1 + (1 : Int32) → (if v4 = 0 then (w_X12_reads_120 k11 x102_52 v2 (2 : Int32) x102_52 S99_51) else (w_X12_reads_120 k11 x102_52 v2 (1 : Int32) x102_52 S99_51)))
def w_X12_reads_86 (k11 : Int32 → Int32 → St → Prop) (v1 : Int32) (v2 : Int32) (v4 : Int32) (S : St) : Prop :=
 (if v4 = 0 then (w_X12_reads_99 k11 v1 v2 v4 (28 : Int32) S) else (w_X12_reads_99 k11 v1 v2 v4 (30 : Int32) S))
def w_X12_reads_65 (Q : Int32 → St → Prop) (k11 : Int32 → Int32 → St → Prop) (v1 : Int32) (v2 : Int32) (v3 : Int32) (v4 : Int32) (v5 : Int32) (S : St) : Prop :=
 (if v1 = (5 : Int32) then (w_X12_fails (5 : Int32) S (fun r72_47 S72_46 => (r72_47 = 0 ∨ r72_47 = 1) ∧ Q r72_47 S72_46)) else ((if v4 = 0 then ((if v5 = 0 then ((if v3 ≤ 0 then (w_X12_reads_147 k11 v1 ((100 : Int32) + (gI S 0 8)) S) else (w_X12_reads_147 k11 v1 v3 S))) else (w_X12_reads_86 k11 v1 v2 v4 S))) else (w_X12_reads_86 k11 v1 v2 v4 S))))
def b_X12_reads_11 (Q : Int32 → St → Prop) (k11 : Int32 → Int32 → St → Prop) (v1 : Int32) (v2 : Int32) (S : St) : Prop :=
 (if v2 = 0 then (w_X12_isSign (43 : Int32) S (fun r182_3 S182_2 => (if r182_3 = 0 then (w_X12_isSign (45 : Int32) S182_2 (fun r191_5 S191_4 => (if r191_5 = 0 then (w_X12_isSign (42 : Int32) S191_4 (fun r200_7 S200_6 => (if r200_7 = 0 then (w_X12_isSign (60 : Int32) S200_6 (fun r248_9 S248_8 => (if r248_9 = 0 then (w_X12_isSign (61 : Int32) S248_8 (fun r257_11 S257_10 => (if r257_11 = 0 then (w_X12_reads_304 Q k11 v1 v2 S257_10) else (w_X12_reads_263 Q k11 v1 v2 S257_10)))) else (w_X12_reads_263 Q k11 v1 v2 S248_8)))) else (w_X12_reads_206 k11 v1 S200_6)))) else (w_X12_reads_206 k11 v1 S191_4)))) else (w_X12_reads_206 k11 v1 S182_2)))) else (w_X12_fact S (fun r16_41 S16_40 => w_X12_isWord (10631 : Int64) S16_40 (fun r24_43 S24_42 => w_X12_isSign (40 : Int32) S24_42 (fun r32_45 S32_44 => (if r16_41 = 0 then ((if r24_43 = 0 then ((if r32_45 = 0 then ((if gI S32_44 0 6 = (2 : Int32) then (w_X12_reads_65 Q k11 v1 v2 r16_41 r24_43 r32_45 S32_44) else (w_X12_fails (1 : Int32) S32_44 (fun r61_56 S61_55 => (r61_56 = 0 ∨ r61_56 = 1) ∧ Q r61_56 S61_55)))) else (w_X12_reads_65 Q k11 v1 v2 r16_41 r24_43 r32_45 S32_44))) else (w_X12_reads_65 Q k11 v1 v2 r16_41 r24_43 r32_45 S32_44))) else (w_X12_reads_65 Q k11 v1 v2 r16_41 r24_43 r32_45 S32_44)))))))
def w_X12_reads_11 (Q : Int32 → St → Prop) (v1 : Int32) (v2 : Int32) (S : St) : Prop := ∃ n, lpn (fun _ _ _ => False) (b_X12_reads_11 Q) n v1 v2 S
def w_X12_reads (S : St) (Q : Int32 → St → Prop) : Prop :=
 ∀ S10_1, S10_1 = sI S 22 (0 : Int32).toNatClampNeg (0 : Int32) → w_X12_reads_11 Q (0 : Int32) (1 : Int32) S10_1
-- X12_opens
def w_X12_opens (p0 : Int32) (S : St) (Q : St → Prop) : Prop :=
 vp_in p0 7 ∧ (∀ S6_1, S6_1 = sI S 24 p0.toNatClampNeg (0 : Int32) → vp_in p0 7 ∧ (∀ S13_2, S13_2 = sI S6_1 26 p0.toNatClampNeg (0 : Int32) → vp_in p0 7 ∧ (∀ S20_3, S20_3 = sI S13_2 27 p0.toNatClampNeg (0 : Int32) → vp_in p0 7 ∧ (∀ S28_4, S28_4 = sI S20_3 28 p0.toNatClampNeg (20 : Int32) → vp_in p0 7 ∧ (∀ S35_5, S35_5 = sI S28_4 30 p0.toNatClampNeg (0 : Int32) → Q S35_5)))))
-- X12_sums
def w_X12_sums_45 (p0 : Int32) (Q : St → Prop) (t0 : Int32) (t1 : Int32) (S : St) : Prop :=
 vp_in t1 7 ∧ (∀ S45_1, S45_1 = sI S 27 t1.toNatClampNeg t0 → vp_in p0 7 ∧ (∀ S52_2, S52_2 = sI S45_1 30 p0.toNatClampNeg (0 : Int32) → Q S52_2))
def w_X12_sums (p0 : Int32) (S : St) (Q : St → Prop) : Prop :=
 vp_in p0 7 ∧ ((if gI S 28 p0.toNatClampNeg = (21 : Int32) then (vp_in p0 7 ∧ (vp_in p0 7 ∧ (w_X12_sums_45 p0 Q ((gI S 27 p0.toNatClampNeg) - (gI S 29 p0.toNatClampNeg)) p0 S))) else (vp_in p0 7 ∧ (vp_in p0 7 ∧ (w_X12_sums_45 p0 Q ((gI S 27 p0.toNatClampNeg) + (gI S 29 p0.toNatClampNeg)) p0 S)))))
-- X12_tests
def w_X12_tests_136 (p0 : Int32) (Q : St → Prop) (v2 : Int32) (S : St) : Prop :=
 vp_in p0 7 ∧ (∀ S142_3, S142_3 = sI S 23 p0.toNatClampNeg v2 → vp_in p0 7 ∧ (∀ S149_4, S149_4 = sI S142_3 26 p0.toNatClampNeg (0 : Int32) → vp_in p0 7 ∧ (∀ S156_5, S156_5 = sI S149_4 27 p0.toNatClampNeg (0 : Int32) → vp_in p0 7 ∧ (∀ S164_6, S164_6 = sI S156_5 28 p0.toNatClampNeg (20 : Int32) → Q S164_6))))
def w_X12_tests_135 (p0 : Int32) (Q : St → Prop) (t0 : Int32) (S : St) : Prop :=
 w_X12_tests_136 p0 Q t0 S
def w_X12_tests_130 (p0 : Int32) (Q : St → Prop) (S : St) : Prop :=
 w_X12_tests_135 p0 Q (1 : Int32) S
def w_X12_tests_106 (p0 : Int32) (Q : St → Prop) (v2 : Int32) (S : St) : Prop :=
 vp_in p0 7 ∧ ((if gI S 24 p0.toNatClampNeg = (27 : Int32) then (vp_in p0 7 ∧ ((if gI S 23 p0.toNatClampNeg = 0 then ((if v2 = 0 then (w_X12_tests_135 p0 Q (0 : Int32) S) else (w_X12_tests_130 p0 Q S))) else (w_X12_tests_130 p0 Q S)))) else (w_X12_tests_136 p0 Q v2 S)))
def w_X12_tests_105 (p0 : Int32) (Q : St → Prop) (t0 : Int32) (S : St) : Prop :=
 w_X12_tests_106 p0 Q t0 S
def w_X12_tests_104 (p0 : Int32) (Q : St → Prop) (S : St) : Prop :=
 w_X12_tests_105 p0 Q (0 : Int32) S
def w_X12_tests_76 (p0 : Int32) (Q : St → Prop) (v2 : Int32) (S : St) : Prop :=
 vp_in p0 7 ∧ ((if gI S 24 p0.toNatClampNeg = (26 : Int32) then (vp_in p0 7 ∧ ((if gI S 23 p0.toNatClampNeg = 0 then (w_X12_tests_104 p0 Q S) else ((if v2 = 0 then (w_X12_tests_104 p0 Q S) else (w_X12_tests_105 p0 Q (1 : Int32) S)))))) else (w_X12_tests_106 p0 Q v2 S)))
def w_X12_tests_75 (p0 : Int32) (Q : St → Prop) (t0 : Int32) (S : St) : Prop :=
 w_X12_tests_76 p0 Q t0 S
def w_X12_tests_44 (p0 : Int32) (Q : St → Prop) (v2 : Int32) (S : St) : Prop :=
 vp_in p0 7 ∧ ((if gI S 26 p0.toNatClampNeg = (25 : Int32) then (vp_in p0 7 ∧ (vp_in p0 7 ∧ ((if gI S 25 p0.toNatClampNeg = gI S 27 p0.toNatClampNeg then (w_X12_tests_75 p0 Q (1 : Int32) S) else (w_X12_tests_75 p0 Q (0 : Int32) S))))) else (w_X12_tests_76 p0 Q v2 S)))
def w_X12_tests_43 (p0 : Int32) (Q : St → Prop) (t0 : Int32) (S : St) : Prop :=
 w_X12_tests_44 p0 Q t0 S
def w_X12_tests (p0 : Int32) (S : St) (Q : St → Prop) : Prop :=
 w_X12_sums p0 S (fun S2_1 => vp_in p0 7 ∧ (∀ x11_2, x11_2 = gI S2_1 27 p0.toNatClampNeg → vp_in p0 7 ∧ ((if gI S2_1 26 p0.toNatClampNeg = (24 : Int32) then (vp_in p0 7 ∧ (vp_in p0 7 ∧ ((if gI S2_1 27 p0.toNatClampNeg ≤ gI S2_1 25 p0.toNatClampNeg then (w_X12_tests_43 p0 Q (0 : Int32) S2_1) else (w_X12_tests_43 p0 Q (1 : Int32) S2_1))))) else (w_X12_tests_44 p0 Q x11_2 S2_1)))))
-- X12_worked
def w_X12_worked_66 (p0 : Int32) (k14 : Int32 → Int32 → St → Prop) (v2 : Int32) (v3 : Int32) (t0 : Int32) (t1 : Int32) (S : St) : Prop :=
 vp_in t1 7 ∧ (∀ S66_6, S66_6 = sI S 31 t1.toNatClampNeg t0 → w_X12_opens v2 S66_6 (fun S69_7 => ∀ x329_8, x329_8 = v3 + (1 : Int32) → k14 v2 x329_8 S69_7))
def w_X12_worked_46 (p0 : Int32) (k14 : Int32 → Int32 → St → Prop) (v2 : Int32) (v3 : Int32) (v4 : Int32) (S : St) : Prop :=
 ∀ x46_5, x46_5 = v2 + (1 : Int32) → (if v4 = (30 : Int32) then (w_X12_worked_66 p0 k14 x46_5 v3 (1 : Int32) x46_5 S) else (w_X12_worked_66 p0 k14 x46_5 v3 (0 : Int32) x46_5 S))
def w_X12_worked_89 (p0 : Int32) (k14 : Int32 → Int32 → St → Prop) (v2 : Int32) (v3 : Int32) (v4 : Int32) (S : St) : Prop :=
 w_X12_sums v2 S (fun S91_9 => vp_in v2 7 ∧ (∀ S101_10, S101_10 = sI S91_9 28 v2.toNatClampNeg v4 → ∀ x329_11, x329_11 = v3 + (1 : Int32) → k14 v2 x329_11 S101_10))
def w_X12_worked_137 (p0 : Int32) (k14 : Int32 → Int32 → St → Prop) (v2 : Int32) (v3 : Int32) (v4 : Int32) (S : St) : Prop :=
 w_X12_sums v2 S (fun S139_14 => vp_in v2 7 ∧ (vp_in v2 7 ∧ (∀ S153_15, S153_15 = sI S139_14 25 v2.toNatClampNeg (gI S139_14 27 v2.toNatClampNeg) → vp_in v2 7 ∧ (∀ S161_16, S161_16 = sI S153_15 26 v2.toNatClampNeg v4 → vp_in v2 7 ∧ (∀ S168_17, S168_17 = sI S161_16 27 v2.toNatClampNeg (0 : Int32) → vp_in v2 7 ∧ (∀ S176_18, S176_18 = sI S168_17 28 v2.toNatClampNeg (20 : Int32) → ∀ x329_19, x329_19 = v3 + (1 : Int32) → k14 v2 x329_19 S176_18))))))
def w_X12_worked_194 (p0 : Int32) (k14 : Int32 → Int32 → St → Prop) (v2 : Int32) (v3 : Int32) (v4 : Int32) (S : St) : Prop :=
 w_X12_tests v2 S (fun S196_20 => vp_in v2 7 ∧ (∀ S206_21, S206_21 = sI S196_20 24 v2.toNatClampNeg v4 → ∀ x329_22, x329_22 = v3 + (1 : Int32) → k14 v2 x329_22 S206_21))
def w_X12_worked_328 (p0 : Int32) (k14 : Int32 → Int32 → St → Prop) (v2 : Int32) (v3 : Int32) (t0 : Int32) (t1 : Int32) (S : St) : Prop :=
 vp_in t1 7 ∧ (∀ S328_26, S328_26 = sI S 29 t1.toNatClampNeg t0 → ∀ x329_27, x329_27 = v3 + (1 : Int32) → k14 v2 x329_27 S328_26)
def w_X12_worked_300 (p0 : Int32) (k14 : Int32 → Int32 → St → Prop) (v2 : Int32) (v3 : Int32) (v5 : Int32) (S : St) : Prop :=
 vp_in v2 7 ∧ ((if gI S 30 v2.toNatClampNeg = 0 then (w_X12_worked_328 p0 k14 v2 v3 v5 v2 S) else (vp_in v2 7 ∧ (w_X12_worked_328 p0 k14 v2 v3 ((gI S 29 v2.toNatClampNeg) * v5) v2 S))))
def w_X12_worked_292 (p0 : Int32) (k268 : Int32 → Int32 → St → Prop) (v2 : Int32) (v3 : Int32) (t0 : Int32) (S : St) : Prop :=
 ∀ x294_28, x294_28 = v2 + (-1 : Int32) → k268 x294_28 t0 S
def b_X12_worked_268 (p0 : Int32) (k14 : Int32 → Int32 → St → Prop) (v3 : Int32) (k268 : Int32 → Int32 → St → Prop) (v2 : Int32) (v5 : Int32) (S : St) : Prop :=
 (if v2 ≤ 0 then (w_X12_worked_300 p0 k14 v2 v3 v5 S) else (vp_in v2 7 ∧ ((if gI S 31 v2.toNatClampNeg = (1 : Int32) then ((if v5 = 0 then (w_X12_worked_292 p0 k268 v2 v3 (1 : Int32) S) else (w_X12_worked_292 p0 k268 v2 v3 (0 : Int32) S))) else (w_X12_worked_300 p0 k14 v2 v3 v5 S)))))
def w_X12_worked_268 (p0 : Int32) (k14 : Int32 → Int32 → St → Prop) (v3 : Int32) (v2 : Int32) (v5 : Int32) (S : St) : Prop := ∃ n, lpn (fun _ _ _ => False) (b_X12_worked_268 p0 k14 v3) n v2 v5 S
def w_X12_worked_243 (p0 : Int32) (k14 : Int32 → Int32 → St → Prop) (v2 : Int32) (v3 : Int32) (v4 : Int32) (t0 : Int32) (S : St) : Prop :=
 (if v4 = (29 : Int32) then (w_X12_tests v2 S (fun S254_23 => vp_in v2 7 ∧ (∀ x263_24, x263_24 = gI S254_23 23 v2.toNatClampNeg → ∀ x265_25, x265_25 = v2 + (-1 : Int32) → w_X12_worked_268 p0 k14 v3 x265_25 x263_24 S254_23))) else (w_X12_worked_268 p0 k14 v3 v2 t0 S))
def b_X12_worked_14 (p0 : Int32) (Q : Int32 → St → Prop) (k14 : Int32 → Int32 → St → Prop) (v2 : Int32) (v3 : Int32) (S : St) : Prop :=
 vp_in p0 4 ∧ ((if gI S 19 p0.toNatClampNeg ≤ v3 then (w_X12_tests (0 : Int32) S (fun S337_3 => Q (gI S337_3 23 (0 : Int32).toNatClampNeg) S337_3)) else (vp_in v3 1000 ∧ (∀ x30_4, x30_4 = gI S 20 v3.toNatClampNeg → (if x30_4 = (28 : Int32) then (w_X12_worked_46 p0 k14 v2 v3 x30_4 S) else ((if x30_4 = (30 : Int32) then (w_X12_worked_46 p0 k14 v2 v3 x30_4 S) else ((if x30_4 = (20 : Int32) then (w_X12_worked_89 p0 k14 v2 v3 x30_4 S) else ((if x30_4 = (21 : Int32) then (w_X12_worked_89 p0 k14 v2 v3 x30_4 S) else ((if x30_4 = (22 : Int32) then (vp_in v2 7 ∧ (∀ S119_12, S119_12 = sI S 30 v2.toNatClampNeg x30_4 → ∀ x329_13, x329_13 = v3 + (1 : Int32) → k14 v2 x329_13 S119_12)) else ((if x30_4 = (24 : Int32) then (w_X12_worked_137 p0 k14 v2 v3 x30_4 S) else ((if x30_4 = (25 : Int32) then (w_X12_worked_137 p0 k14 v2 v3 x30_4 S) else ((if x30_4 = (26 : Int32) then (w_X12_worked_194 p0 k14 v2 v3 x30_4 S) else ((if x30_4 = (27 : Int32) then (w_X12_worked_194 p0 k14 v2 v3 x30_4 S) else ((if x30_4 < (100 : Int32) then ((if (20 : Int32) ≤ x30_4 then (w_X12_worked_243 p0 k14 v2 v3 x30_4 (0 : Int32) S) else (vp_in x30_4 20 ∧ (w_X12_worked_243 p0 k14 v2 v3 x30_4 (gI S 32 x30_4.toNatClampNeg) S)))) else (w_X12_worked_243 p0 k14 v2 v3 x30_4 (x30_4 - (100 : Int32)) S))))))))))))))))))))))))
def w_X12_worked_14 (p0 : Int32) (Q : Int32 → St → Prop) (v2 : Int32) (v3 : Int32) (S : St) : Prop := ∃ n, lpn (fun _ _ _ => False) (b_X12_worked_14 p0 Q) n v2 v3 S
def w_X12_worked (p0 : Int32) (S : St) (Q : Int32 → St → Prop) : Prop :=
 w_X12_opens (0 : Int32) S (fun S4_1 => vp_in p0 4 ∧ (∀ x13_2, x13_2 = gI S4_1 18 p0.toNatClampNeg → w_X12_worked_14 p0 Q (0 : Int32) x13_2 S4_1))
-- X12_isKept
def w_X12_isKept (S : St) (Q : Int32 → St → Prop) : Prop :=
 (if gI S 0 6 = (1 : Int32) then ((if gJ S 0 7 = (108748 : Int64) then (Q (1 : Int32) S) else ((if gJ S 0 7 = (409469 : Int64) then (Q (1 : Int32) S) else ((if gJ S 0 7 = (281322597 : Int64) then (Q (1 : Int32) S) else ((if gJ S 0 7 = (40187 : Int64) then (Q (1 : Int32) S) else ((if gJ S 0 7 = (115575085 : Int64) then (Q (1 : Int32) S) else ((if gJ S 0 7 = (291420064 : Int64) then (Q (1 : Int32) S) else ((if gJ S 0 7 = (10261586 : Int64) then (Q (1 : Int32) S) else ((if gJ S 0 7 = (390787 : Int64) then (Q (1 : Int32) S) else ((if gJ S 0 7 = (9741983 : Int64) then (Q (1 : Int32) S) else ((if gJ S 0 7 = (12391871 : Int64) then (Q (1 : Int32) S) else ((if gJ S 0 7 = (3094387 : Int64) then (Q (1 : Int32) S) else ((if gJ S 0 7 = (121898 : Int64) then (Q (1 : Int32) S) else ((if gJ S 0 7 = (464134 : Int64) then (Q (1 : Int32) S) else ((if gJ S 0 7 = (1162585 : Int64) then (Q (1 : Int32) S) else ((if gJ S 0 7 = (223456 : Int64) then (Q (1 : Int32) S) else ((if gJ S 0 7 = (1503 : Int64) then (Q (1 : Int32) S) else ((if gJ S 0 7 = (10631 : Int64) then (Q (1 : Int32) S) else ((if gJ S 0 7 = (1111 : Int64) then (Q (1 : Int32) S) else ((if gJ S 0 7 = (423 : Int64) then (Q (1 : Int32) S) else (Q (0 : Int32) S))))))))))))))))))))))))))))))))))))))) else (Q (1 : Int32) S))
-- X12_needsNumber
def w_X12_needsNumber (p0 : Int32) (p1 : Int32) (S : St) (Q : Int32 → St → Prop) : Prop :=
 (if gI S 0 6 = (2 : Int32) then (w_X12_within (gI S 0 8) p0 p1 S (fun r22_2 S22_1 => (if r22_2 = 0 then (w_X12_fails (4 : Int32) S22_1 (fun r30_4 S30_3 => (if r30_4 = 0 then (Q (0 : Int32) S30_3) else (Q (1 : Int32) S30_3)))) else (Q (1 : Int32) S22_1)))) else (w_X12_fails (1 : Int32) S (fun r10_6 S10_5 => (r10_6 = 0 ∨ r10_6 = 1) ∧ Q r10_6 S10_5)))
-- X12_needsWord
def w_X12_needsWord (p0 : Int64) (S : St) (Q : Int32 → St → Prop) : Prop :=
 w_X12_isWord p0 S (fun r2_2 S2_1 => (if r2_2 = 0 then (w_X12_fails (1 : Int32) S2_1 (fun r10_4 S10_3 => (r10_4 = 0 ∨ r10_4 = 1) ∧ Q r10_4 S10_3)) else (w_X12_nextToken S2_1 (fun S15_5 => Q (1 : Int32) S15_5))))
-- X12_ends
def w_X12_ends (S : St) (Q : Int32 → St → Prop) : Prop :=
 w_X12_isSign (59 : Int32) S (fun r3_2 S3_1 => (if r3_2 = 0 then (w_X12_fails (1 : Int32) S3_1 (fun r11_4 S11_3 => (r11_4 = 0 ∨ r11_4 = 1) ∧ Q r11_4 S11_3)) else (w_X12_nextToken S3_1 (fun S16_5 => Q (1 : Int32) S16_5))))
-- X12_stepKind
def w_X12_stepKind (S : St) (Q : Int32 → St → Prop) : Prop :=
 w_X12_isWord (281322597 : Int64) S (fun r4_2 S4_1 => (if r4_2 = 0 then (w_X12_isWord (40187 : Int64) S4_1 (fun r18_4 S18_3 => (if r18_4 = 0 then (w_X12_isWord (115575085 : Int64) S18_3 (fun r32_6 S32_5 => (if r32_6 = 0 then (w_X12_isWord (291420064 : Int64) S32_5 (fun r46_8 S46_7 => (if r46_8 = 0 then (w_X12_isWord (10261586 : Int64) S46_7 (fun r60_10 S60_9 => (if r60_10 = 0 then (w_X12_isWord (390787 : Int64) S60_9 (fun r74_12 S74_11 => (if r74_12 = 0 then (Q (-1 : Int32) S74_11) else (Q (5 : Int32) S74_11)))) else (Q (4 : Int32) S60_9)))) else (Q (3 : Int32) S46_7)))) else (Q (2 : Int32) S32_5)))) else (Q (1 : Int32) S18_3)))) else (Q (0 : Int32) S4_1)))
-- X12_lays
def w_X12_lays_135 (p0 : Int32) (p1 : Int32) (k14 : Int32 → Int32 → Int32 → St → Prop) (v3 : Int32) (v4 : Int32) (v5 : Int32) (v6 : Int32) (S : St) : Prop :=
 (if p0 = (4 : Int32) then (¬ v3 = 0 ∧ (¬ v3 = 0 ∧ (vp_in v6 12 ∧ (∀ S156_8, S156_8 = sI S 33 v6.toNatClampNeg (((v6 - (p1 - p1 / v3 * v3)) + v3) - ((v6 - (p1 - p1 / v3 * v3)) + v3) / v3 * v3) → ∀ x157_9, x157_9 = v6 + (1 : Int32) → k14 v4 v5 x157_9 S156_8)))) else (∀ x157_10, x157_10 = v6 + (1 : Int32) → k14 v4 v5 x157_10 S))
def w_X12_lays_105 (p0 : Int32) (p1 : Int32) (k14 : Int32 → Int32 → Int32 → St → Prop) (v3 : Int32) (v4 : Int32) (v5 : Int32) (v6 : Int32) (S : St) : Prop :=
 (if p0 = (3 : Int32) then (vp_in v6 12 ∧ (∀ S118_6, S118_6 = sI S 33 v6.toNatClampNeg v5 → ∀ x119_7, x119_7 = v5 + (3 : Int32) → (if x119_7 < v3 then (w_X12_lays_135 p0 p1 k14 v3 v4 x119_7 v6 S118_6) else (∀ x128_11, x128_11 = v4 + (1 : Int32) → w_X12_lays_135 p0 p1 k14 v3 x128_11 x128_11 v6 S118_6)))) else (w_X12_lays_135 p0 p1 k14 v3 v4 v5 v6 S))
def w_X12_lays_104 (p0 : Int32) (p1 : Int32) (k14 : Int32 → Int32 → Int32 → St → Prop) (v3 : Int32) (v4 : Int32) (v5 : Int32) (v6 : Int32) (t0 : Int32) (t1 : Int32) (S : St) : Prop :=
 vp_in t1 12 ∧ (∀ S104_5, S104_5 = sI S 33 t1.toNatClampNeg t0 → w_X12_lays_105 p0 p1 k14 v3 v4 v5 v6 S104_5)
def w_X12_lays_73 (p0 : Int32) (p1 : Int32) (k14 : Int32 → Int32 → Int32 → St → Prop) (v3 : Int32) (v4 : Int32) (v5 : Int32) (v6 : Int32) (v7 : Int32) (S : St) : Prop :=
 (if p0 = (2 : Int32) then ((if v6 - v6 / (2 : Int32) * (2 : Int32) = 0 then (w_X12_lays_104 p0 p1 k14 v3 v4 v5 v6 v7 v6 S) else (w_X12_lays_104 p0 p1 k14 v3 v4 v5 v6 (((v3 + (1 : Int32)) / (2 : Int32)) + v7) v6 S))) else (w_X12_lays_105 p0 p1 k14 v3 v4 v5 v6 S))
def w_X12_lays_55 (p0 : Int32) (p1 : Int32) (k14 : Int32 → Int32 → Int32 → St → Prop) (v3 : Int32) (v4 : Int32) (v5 : Int32) (v6 : Int32) (v7 : Int32) (S : St) : Prop :=
 (if p0 = (1 : Int32) then (vp_in v6 12 ∧ (∀ S72_4, S72_4 = sI S 33 v6.toNatClampNeg ((v3 - (1 : Int32)) - v6) → w_X12_lays_73 p0 p1 k14 v3 v4 v5 v6 v7 S72_4)) else (w_X12_lays_73 p0 p1 k14 v3 v4 v5 v6 v7 S))
def w_X12_lays_54 (p0 : Int32) (p1 : Int32) (k14 : Int32 → Int32 → Int32 → St → Prop) (v3 : Int32) (v4 : Int32) (v5 : Int32) (v6 : Int32) (v7 : Int32) (t0 : Int32) (t1 : Int32) (S : St) : Prop :=
 vp_in t1 12 ∧ (∀ S54_3, S54_3 = sI S 33 t1.toNatClampNeg t0 → w_X12_lays_55 p0 p1 k14 v3 v4 v5 v6 v7 S54_3)
def b_X12_lays_14 (p0 : Int32) (p1 : Int32) (Q : St → Prop) (v3 : Int32) (k14 : Int32 → Int32 → Int32 → St → Prop) (v4 : Int32) (v5 : Int32) (v6 : Int32) (S : St) : Prop :=
 (if v3 ≤ v6 then (Q S) else (∀ x24_2, x24_2 = v6 / (2 : Int32) → (if p0 = 0 then ((if v6 - v6 / (2 : Int32) * (2 : Int32) = 0 then (w_X12_lays_54 p0 p1 k14 v3 v4 v5 v6 x24_2 ((v3 - (1 : Int32)) - x24_2) v6 S) else (w_X12_lays_54 p0 p1 k14 v3 v4 v5 v6 x24_2 x24_2 v6 S))) else (w_X12_lays_55 p0 p1 k14 v3 v4 v5 v6 x24_2 S))))
def w_X12_lays_14 (p0 : Int32) (p1 : Int32) (Q : St → Prop) (v3 : Int32) (v4 : Int32) (v5 : Int32) (v6 : Int32) (S : St) : Prop := ∃ n, lpn (fun _ _ _ _ => False) (b_X12_lays_14 p0 p1 Q v3) n v4 v5 v6 S
def w_X12_lays (p0 : Int32) (p1 : Int32) (S : St) (Q : St → Prop) : Prop :=
 ∀ x4_1, x4_1 = gI S 0 25 → w_X12_lays_14 p0 p1 Q x4_1 (0 : Int32) (0 : Int32) (0 : Int32) S
-- X12_turns
def b_X12_turns_35 (Q : St → Prop) (k35 : Int32 → St → Prop) (v1 : Int32) (S : St) : Prop :=
 (if gI S 0 25 ≤ v1 then (Q S) else (vp_in v1 12 ∧ (vp_in v1 12 ∧ (∀ S54_1, S54_1 = sI S 10 v1.toNatClampNeg (gI S 34 v1.toNatClampNeg) → ∀ x55_2, x55_2 = v1 + (1 : Int32) → k35 x55_2 S54_1))))
def w_X12_turns_35 (Q : St → Prop) (v1 : Int32) (S : St) : Prop := ∃ n, lpn (fun _ _ => False) (b_X12_turns_35 Q) n v1 S
def b_X12_turns_2 (Q : St → Prop) (k2 : Int32 → St → Prop) (v1 : Int32) (S : St) : Prop :=
 (if gI S 0 25 ≤ v1 then (w_X12_turns_35 Q (0 : Int32) S) else (vp_in v1 12 ∧ (vp_in (gI S 33 v1.toNatClampNeg) 12 ∧ (vp_in v1 12 ∧ (∀ S26_3, S26_3 = sI S 34 v1.toNatClampNeg (gI S 10 (gI S 33 v1.toNatClampNeg).toNatClampNeg) → ∀ x27_4, x27_4 = v1 + (1 : Int32) → k2 x27_4 S26_3)))))
def w_X12_turns_2 (Q : St → Prop) (v1 : Int32) (S : St) : Prop := ∃ n, lpn (fun _ _ => False) (b_X12_turns_2 Q) n v1 S
def w_X12_turns (S : St) (Q : St → Prop) : Prop :=
 w_X12_turns_2 Q (0 : Int32) S
-- X12_readsStep
def w_X12_readsStep_188 (Q : Int32 → St → Prop) (S : St) : Prop :=
 w_X12_turns S (fun S189_20 => ∀ S199_21, S199_21 = sI S189_20 0 26 ((gI S189_20 0 26) + (1 : Int32)) → Q (1 : Int32) S199_21)
def w_X12_readsStep_172 (k133 : Int32 → St → Prop) (v3 : Int32) (v4 : Int32) (v5 : Int32) (t0 : Int32) (t1 : Int32) (S : St) : Prop :=
 vp_in t1 12 ∧ (∀ S172_22, S172_22 = sI S 33 t1.toNatClampNeg t0 → ∀ x173_23, x173_23 = v5 + (1 : Int32) → k133 x173_23 S172_22)
def b_X12_readsStep_133 (Q : Int32 → St → Prop) (v3 : Int32) (v4 : Int32) (k133 : Int32 → St → Prop) (v5 : Int32) (S : St) : Prop :=
 (if gI S 0 25 ≤ v5 then (w_X12_readsStep_188 Q S) else ((if v5 = v3 then (w_X12_readsStep_172 k133 v3 v4 v5 v4 v5 S) else ((if v5 = v4 then (w_X12_readsStep_172 k133 v3 v4 v5 v3 v5 S) else (w_X12_readsStep_172 k133 v3 v4 v5 v5 v5 S))))))
def w_X12_readsStep_133 (Q : Int32 → St → Prop) (v3 : Int32) (v4 : Int32) (v5 : Int32) (S : St) : Prop := ∃ n, lpn (fun _ _ => False) (b_X12_readsStep_133 Q v3 v4) n v5 S
def w_X12_readsStep_62 (Q : Int32 → St → Prop) (v1 : Int32) (v2 : Int32) (S : St) : Prop :=
 (if v1 = (5 : Int32) then (w_X12_needsNumber (0 : Int32) ((gI S 0 25) - (1 : Int32)) S (fun r75_11 S75_10 => (if r75_11 = 0 then (Q (0 : Int32) S75_10) else (∀ x87_12, x87_12 = gI S75_10 0 8 → w_X12_nextToken S75_10 (fun S89_13 => w_X12_needsNumber (0 : Int32) ((gI S89_13 0 25) - (1 : Int32)) S89_13 (fun r100_15 S100_14 => (if r100_15 = 0 then (Q (0 : Int32) S100_14) else (∀ x112_16, x112_16 = gI S100_14 0 8 → (if x87_12 = x112_16 then (w_X12_fails (3 : Int32) S100_14 (fun r122_18 S122_17 => (r122_18 = 0 ∨ r122_18 = 1) ∧ Q r122_18 S122_17)) else (w_X12_nextToken S100_14 (fun S127_19 => w_X12_readsStep_133 Q x87_12 x112_16 (0 : Int32) S127_19))))))))))) else (w_X12_lays v1 v2 S (fun S185_24 => w_X12_readsStep_188 Q S185_24)))
def w_X12_readsStep (S : St) (Q : Int32 → St → Prop) : Prop :=
 w_X12_stepKind S (fun r1_2 S1_1 => (if 0 ≤ r1_2 then ((if gI S1_1 0 26 = (8 : Int32) then (w_X12_fails (5 : Int32) S1_1 (fun r26_4 S26_3 => (r26_4 = 0 ∨ r26_4 = 1) ∧ Q r26_4 S26_3)) else (w_X12_nextToken S1_1 (fun S31_5 => (if r1_2 = (4 : Int32) then (w_X12_needsNumber (0 : Int32) (11 : Int32) S31_5 (fun r45_7 S45_6 => (if r45_7 = 0 then (Q (0 : Int32) S45_6) else (∀ x57_8, x57_8 = gI S45_6 0 8 → w_X12_nextToken S45_6 (fun S59_9 => w_X12_readsStep_62 Q r1_2 x57_8 S59_9))))) else (w_X12_readsStep_62 Q r1_2 (0 : Int32) S31_5)))))) else (w_X12_fails (1 : Int32) S1_1 (fun r11_26 S11_25 => (r11_26 = 0 ∨ r11_26 = 1) ∧ Q r11_26 S11_25))))
-- X12_readsTurn
def w_X12_readsTurn_37 (Q : Int32 → St → Prop) (S : St) : Prop :=
 w_X12_ends S (fun r38_7 S38_6 => (r38_7 = 0 ∨ r38_7 = 1) ∧ Q r38_7 S38_6)
def b_X12_readsTurn_13 (Q : Int32 → St → Prop) (k13 : St → Prop) (S : St) : Prop :=
 (if gI S 0 6 = (1 : Int32) then (w_X12_stepKind S (fun r22_5 S22_4 => (if r22_5 < 0 then (w_X12_readsTurn_37 Q S22_4) else (w_X12_readsStep S22_4 (fun r29_9 S29_8 => (if r29_9 = 0 then (Q (0 : Int32) S29_8) else (k13 S29_8))))))) else (w_X12_readsTurn_37 Q S))
def w_X12_readsTurn_13 (Q : Int32 → St → Prop) (S : St) : Prop := ∃ n, lpn (fun _ => False) (b_X12_readsTurn_13 Q) n S
def w_X12_readsTurn (S : St) (Q : Int32 → St → Prop) : Prop :=
 w_X12_nextToken S (fun S1_1 => w_X12_readsStep S1_1 (fun r5_3 S5_2 => (if r5_3 = 0 then (Q (0 : Int32) S5_2) else (w_X12_readsTurn_13 Q S5_2))))
-- X12_readsRhyme
def w_X12_readsRhyme (S : St) (Q : Int32 → St → Prop) : Prop :=
 (if gI S 0 27 = (8 : Int32) then (w_X12_fails (5 : Int32) S (fun r11_2 S11_1 => (r11_2 = 0 ∨ r11_2 = 1) ∧ Q r11_2 S11_1)) else (w_X12_nextToken S (fun S16_3 => w_X12_needsNumber (0 : Int32) ((gI S16_3 0 25) - (1 : Int32)) S16_3 (fun r27_5 S27_4 => (if r27_5 = 0 then (Q (0 : Int32) S27_4) else (vp_in (gI S27_4 0 27) 8 ∧ (∀ S47_6, S47_6 = sI S27_4 11 (gI S27_4 0 27).toNatClampNeg (gI S27_4 0 8) → w_X12_nextToken S47_6 (fun S49_7 => w_X12_needsNumber (0 : Int32) ((gI S49_7 0 25) - (1 : Int32)) S49_7 (fun r60_9 S60_8 => (if r60_9 = 0 then (Q (0 : Int32) S60_8) else (vp_in (gI S60_8 0 27) 8 ∧ (∀ S80_10, S80_10 = sI S60_8 12 (gI S60_8 0 27).toNatClampNeg (gI S60_8 0 8) → vp_in (gI S80_10 0 27) 8 ∧ ((if gI S80_10 11 (gI S80_10 0 27).toNatClampNeg = gI S80_10 0 8 then (w_X12_fails (3 : Int32) S80_10 (fun r99_12 S99_11 => (r99_12 = 0 ∨ r99_12 = 1) ∧ Q r99_12 S99_11)) else (∀ S110_13, S110_13 = sI S80_10 0 27 ((gI S80_10 0 27) + (1 : Int32)) → w_X12_nextToken S110_13 (fun S114_14 => w_X12_ends S114_14 (fun r118_16 S118_15 => (r118_16 = 0 ∨ r118_16 = 1) ∧ Q r118_16 S118_15)))))))))))))))))
-- X12_readsWhole
def w_X12_readsWhole (S : St) (Q : Int32 → St → Prop) : Prop :=
 w_X12_nextToken S (fun S1_1 => w_X12_needsNumber (0 : Int32) ((gI S1_1 0 25) - (1 : Int32)) S1_1 (fun r12_3 S12_2 => (if r12_3 = 0 then (Q (0 : Int32) S12_2) else (∀ x24_4, x24_4 = gI S12_2 0 8 → vp_in x24_4 12 ∧ ((if gI S12_2 13 x24_4.toNatClampNeg ≤ 0 then (w_X12_nextToken S12_2 (fun S41_5 => w_X12_needsWord (3094387 : Int64) S41_5 (fun r48_7 S48_6 => (if r48_7 = 0 then (Q (0 : Int32) S48_6) else (w_X12_needsNumber (1 : Int32) (99 : Int32) S48_6 (fun r58_9 S58_8 => (if r58_9 = 0 then (Q (0 : Int32) S58_8) else (vp_in x24_4 12 ∧ (∀ S75_10, S75_10 = sI S58_8 13 x24_4.toNatClampNeg (gI S58_8 0 8) → ∀ S83_11, S83_11 = sI S75_10 0 28 ((gI S75_10 0 28) + (1 : Int32)) → w_X12_nextToken S83_11 (fun S87_12 => w_X12_ends S87_12 (fun r91_14 S91_13 => (r91_14 = 0 ∨ r91_14 = 1) ∧ Q r91_14 S91_13))))))))))) else (w_X12_fails (3 : Int32) S12_2 (fun r36_16 S36_15 => (r36_16 = 0 ∨ r36_16 = 1) ∧ Q r36_16 S36_15))))))))
-- X12_readsFeet
def w_X12_readsFeet (S : St) (Q : Int32 → St → Prop) : Prop :=
 (if gI S 0 29 ≤ 0 then (w_X12_nextToken S (fun S14_1 => w_X12_needsNumber (1 : Int32) (99 : Int32) S14_1 (fun r21_3 S21_2 => (if r21_3 = 0 then (Q (0 : Int32) S21_2) else (∀ S34_4, S34_4 = sI S21_2 0 29 (gI S21_2 0 8) → w_X12_nextToken S34_4 (fun S38_5 => w_X12_ends S38_5 (fun r42_7 S42_6 => (r42_7 = 0 ∨ r42_7 = 1) ∧ Q r42_7 S42_6))))))) else (w_X12_fails (3 : Int32) S (fun r9_9 S9_8 => (r9_9 = 0 ∨ r9_9 = 1) ∧ Q r9_9 S9_8)))
-- X12_readsEntry
def b_X12_readsEntry_34 (Q : Int32 → St → Prop) (k34 : Int32 → St → Prop) (v1 : Int32) (S : St) : Prop :=
 (if gI S 0 30 ≤ v1 then (vp_in (gI S 0 30) 12 ∧ (∀ S80_6, S80_6 = sJ S 14 (gI S 0 30).toNatClampNeg (gJ S 0 7) → w_X12_nextToken S80_6 (fun S82_7 => w_X12_needsWord (9741983 : Int64) S82_7 (fun r89_9 S89_8 => (if r89_9 = 0 then (Q (0 : Int32) S89_8) else (w_X12_needsNumber (0 : Int32) (99 : Int32) S89_8 (fun r99_11 S99_10 => (if r99_11 = 0 then (Q (0 : Int32) S99_10) else (vp_in (gI S99_10 0 30) 12 ∧ (∀ S119_12, S119_12 = sI S99_10 15 (gI S99_10 0 30).toNatClampNeg (gI S99_10 0 8) → w_X12_nextToken S119_12 (fun S121_13 => w_X12_needsWord (1162585 : Int64) S121_13 (fun r128_15 S128_14 => (if r128_15 = 0 then (Q (0 : Int32) S128_14) else (w_X12_needsNumber (1 : Int32) (9 : Int32) S128_14 (fun r138_17 S138_16 => (if r138_17 = 0 then (Q (0 : Int32) S138_16) else (vp_in (gI S138_16 0 30) 12 ∧ (∀ S158_18, S158_18 = sI S138_16 16 (gI S138_16 0 30).toNatClampNeg (gI S138_16 0 8) → w_X12_nextToken S158_18 (fun S160_19 => w_X12_needsWord (223456 : Int64) S160_19 (fun r167_21 S167_20 => (if r167_21 = 0 then (Q (0 : Int32) S167_20) else (w_X12_needsNumber (0 : Int32) (99 : Int32) S167_20 (fun r177_23 S177_22 => (if r177_23 = 0 then (Q (0 : Int32) S177_22) else (vp_in (gI S177_22 0 30) 12 ∧ (∀ S197_24, S197_24 = sI S177_22 17 (gI S177_22 0 30).toNatClampNeg (gI S177_22 0 8) → ∀ S205_25, S205_25 = sI S197_24 0 30 ((gI S197_24 0 30) + (1 : Int32)) → w_X12_nextToken S205_25 (fun S209_26 => w_X12_ends S209_26 (fun r213_28 S213_27 => (r213_28 = 0 ∨ r213_28 = 1) ∧ Q r213_28 S213_27)))))))))))))))))))))))))))) else (vp_in v1 12 ∧ ((if gJ S 14 v1.toNatClampNeg = gJ S 0 7 then (w_X12_fails (3 : Int32) S (fun r58_30 S58_29 => (r58_30 = 0 ∨ r58_30 = 1) ∧ Q r58_30 S58_29)) else (∀ x62_31, x62_31 = v1 + (1 : Int32) → k34 x62_31 S)))))
def w_X12_readsEntry_34 (Q : Int32 → St → Prop) (v1 : Int32) (S : St) : Prop := ∃ n, lpn (fun _ _ => False) (b_X12_readsEntry_34 Q) n v1 S
def w_X12_readsEntry (S : St) (Q : Int32 → St → Prop) : Prop :=
 (if gI S 0 30 = (12 : Int32) then (w_X12_fails (5 : Int32) S (fun r11_2 S11_1 => (r11_2 = 0 ∨ r11_2 = 1) ∧ Q r11_2 S11_1)) else (w_X12_nextToken S (fun S16_3 => w_X12_isKept S16_3 (fun r20_5 S20_4 => (if r20_5 = 0 then (w_X12_readsEntry_34 Q (0 : Int32) S20_4) else (w_X12_fails (1 : Int32) S20_4 (fun r28_33 S28_32 => (r28_33 = 0 ∨ r28_33 = 1) ∧ Q r28_33 S28_32)))))))
-- X12_readsBar
def w_X12_readsBar (S : St) (Q : Int32 → St → Prop) : Prop :=
 (if gI S 0 31 = (4 : Int32) then (w_X12_fails (5 : Int32) S (fun r10_2 S10_1 => (r10_2 = 0 ∨ r10_2 = 1) ∧ Q r10_2 S10_1)) else (w_X12_nextToken S (fun S15_3 => vp_in (gI S15_3 0 31) 4 ∧ (∀ S30_4, S30_4 = sI S15_3 18 (gI S15_3 0 31).toNatClampNeg (gI S15_3 0 43) → w_X12_reads S30_4 (fun r32_6 S32_5 => (if r32_6 = 0 then (Q (0 : Int32) S32_5) else (vp_in (gI S32_5 0 31) 4 ∧ (∀ S52_7, S52_7 = sI S32_5 19 (gI S32_5 0 31).toNatClampNeg (gI S32_5 0 43) → ∀ S60_8, S60_8 = sI S52_7 0 31 ((gI S52_7 0 31) + (1 : Int32)) → Q (1 : Int32) S60_8))))))))
-- X12_readsAll
def w_X12_readsAll_242 (Q : Int32 → St → Prop) (k128 : St → Prop) (t0 : Int32) (S : St) : Prop :=
 (if t0 = 0 then (Q (0 : Int32) S) else (k128 S))
def b_X12_readsAll_128 (Q : Int32 → St → Prop) (k128 : St → Prop) (S : St) : Prop :=
 (if gI S 0 6 = 0 then (Q (1 : Int32) S) else (w_X12_isWord (409469 : Int64) S (fun r139_21 S139_20 => (if r139_21 = 0 then (w_X12_isWord (9741983 : Int64) S139_20 (fun r156_23 S156_22 => (if r156_23 = 0 then (w_X12_isWord (12391871 : Int64) S156_22 (fun r173_25 S173_24 => (if r173_25 = 0 then (w_X12_isWord (121898 : Int64) S173_24 (fun r190_27 S190_26 => (if r190_27 = 0 then (w_X12_isWord (464134 : Int64) S190_26 (fun r207_29 S207_28 => (if r207_29 = 0 then (w_X12_isWord (1503 : Int64) S207_28 (fun r224_31 S224_30 => (if r224_31 = 0 then (w_X12_fails (1 : Int32) S224_30 (fun r239_33 S239_32 => w_X12_readsAll_242 Q k128 r239_33 S239_32)) else (w_X12_readsBar S224_30 (fun r231_35 S231_34 => w_X12_readsAll_242 Q k128 r231_35 S231_34))))) else (w_X12_readsEntry S207_28 (fun r214_37 S214_36 => w_X12_readsAll_242 Q k128 r214_37 S214_36))))) else (w_X12_readsFeet S190_26 (fun r197_39 S197_38 => w_X12_readsAll_242 Q k128 r197_39 S197_38))))) else (w_X12_readsWhole S173_24 (fun r180_41 S180_40 => w_X12_readsAll_242 Q k128 r180_41 S180_40))))) else (w_X12_readsRhyme S156_22 (fun r163_43 S163_42 => w_X12_readsAll_242 Q k128 r163_43 S163_42))))) else (w_X12_readsTurn S139_20 (fun r146_45 S146_44 => w_X12_readsAll_242 Q k128 r146_45 S146_44))))))
def w_X12_readsAll_128 (Q : Int32 → St → Prop) (S : St) : Prop := ∃ n, lpn (fun _ => False) (b_X12_readsAll_128 Q) n S
def b_X12_readsAll_89 (Q : Int32 → St → Prop) (k89 : Int32 → St → Prop) (v1 : Int32) (S : St) : Prop :=
 (if (12 : Int32) ≤ v1 then (w_X12_nextToken S (fun S116_17 => w_X12_ends S116_17 (fun r120_19 S120_18 => (if r120_19 = 0 then (Q (0 : Int32) S120_18) else (w_X12_readsAll_128 Q S120_18))))) else (vp_in v1 12 ∧ (∀ S101_46, S101_46 = sI S 10 v1.toNatClampNeg v1 → vp_in v1 12 ∧ (∀ S108_47, S108_47 = sI S101_46 13 v1.toNatClampNeg (0 : Int32) → ∀ x109_48, x109_48 = v1 + (1 : Int32) → k89 x109_48 S108_47))))
def w_X12_readsAll_89 (Q : Int32 → St → Prop) (v1 : Int32) (S : St) : Prop := ∃ n, lpn (fun _ _ => False) (b_X12_readsAll_89 Q) n v1 S
def w_X12_readsAll (S : St) (Q : Int32 → St → Prop) : Prop :=
 ∀ S2_1, S2_1 = sI S 0 26 (0 : Int32) → ∀ S7_2, S7_2 = sI S2_1 0 27 (0 : Int32) → ∀ S12_3, S12_3 = sI S7_2 0 28 (0 : Int32) → ∀ S17_4, S17_4 = sI S12_3 0 29 (0 : Int32) → ∀ S22_5, S22_5 = sI S17_4 0 30 (0 : Int32) → ∀ S27_6, S27_6 = sI S22_5 0 31 (0 : Int32) → ∀ S32_7, S32_7 = sI S27_6 0 43 (0 : Int32) → ∀ S40_8, S40_8 = sI S32_7 0 3 (gI S32_7 0 1) → ∀ S45_9, S45_9 = sI S40_8 0 1 (0 : Int32) → ∀ S50_10, S50_10 = sI S45_9 0 4 (0 : Int32) → w_X12_nextToken S50_10 (fun S54_11 => w_X12_needsWord (108748 : Int64) S54_11 (fun r61_13 S61_12 => (if r61_13 = 0 then (Q (0 : Int32) S61_12) else (w_X12_needsNumber (1 : Int32) (12 : Int32) S61_12 (fun r71_15 S71_14 => (if r71_15 = 0 then (Q (0 : Int32) S71_14) else (∀ S84_16, S84_16 = sI S71_14 0 25 (gI S71_14 0 8) → w_X12_readsAll_89 Q (0 : Int32) S84_16)))))))
-- X12_bars
def b_X12_bars_76 (Q : Int32 → St → Prop) (k76 : Int32 → St → Prop) (v3 : Int32) (S : St) : Prop :=
 (if gI S 0 16 ≤ v3 then (Q (0 : Int32) S) else (w_X12_worked v3 S (fun r86_7 S86_6 => (if r86_7 = 0 then (∀ x94_8, x94_8 = v3 + (1 : Int32) → k76 x94_8 S86_6) else (Q (1 : Int32) S86_6)))))
def w_X12_bars_76 (Q : Int32 → St → Prop) (v3 : Int32) (S : St) : Prop := ∃ n, lpn (fun _ _ => False) (b_X12_bars_76 Q) n v3 S
def w_X12_bars_73 (Q : Int32 → St → Prop) (t0 : Int32) (t1 : Int32) (S : St) : Prop :=
 vp_in t1 20 ∧ (∀ S73_5, S73_5 = sI S 32 t1.toNatClampNeg t0 → w_X12_bars_76 Q (0 : Int32) S73_5)
def w_X12_bars (p0 : Int32) (p1 : Int32) (S : St) (Q : Int32 → St → Prop) : Prop :=
 vp_in p0 12 ∧ (∀ S11_1, S11_1 = sI S 32 (1 : Int32).toNatClampNeg (gI S 8 p0.toNatClampNeg) → vp_in p1 12 ∧ (∀ S23_2, S23_2 = sI S11_1 32 (2 : Int32).toNatClampNeg (gI S11_1 8 p1.toNatClampNeg) → vp_in p0 12 ∧ (∀ S35_3, S35_3 = sI S23_2 32 (3 : Int32).toNatClampNeg (gI S23_2 7 p0.toNatClampNeg) → vp_in p1 12 ∧ (∀ S47_4, S47_4 = sI S35_3 32 (4 : Int32).toNatClampNeg (gI S35_3 7 p1.toNatClampNeg) → vp_in p0 12 ∧ (vp_in p1 12 ∧ ((if gI S47_4 6 p0.toNatClampNeg = gI S47_4 6 p1.toNatClampNeg then (w_X12_bars_73 Q (1 : Int32) (5 : Int32) S47_4) else (w_X12_bars_73 Q (0 : Int32) (5 : Int32) S47_4))))))))
-- X12_form
def b_X12_form_197 (k187 : Int32 → St → Prop) (v1 : Int32) (k197 : Int32 → St → Prop) (v2 : Int32) (S : St) : Prop :=
 (if gI S 0 15 ≤ v2 then (∀ x228_12, x228_12 = v1 + (1 : Int32) → k187 x228_12 S) else (w_X12_bars v1 v2 S (fun r218_14 S218_13 => vp_in (((12 : Int32) * v1) + v2) 144 ∧ ((r218_14 = 0 ∨ r218_14 = 1) ∧ (∀ S221_15, S221_15 = sI S218_13 9 (((12 : Int32) * v1) + v2).toNatClampNeg r218_14 → ∀ x222_16, x222_16 = v2 + (1 : Int32) → k197 x222_16 S221_15)))))
def w_X12_form_197 (k187 : Int32 → St → Prop) (v1 : Int32) (v2 : Int32) (S : St) : Prop := ∃ n, lpn (fun _ _ => False) (b_X12_form_197 k187 v1) n v2 S
def b_X12_form_187 (Q : Int32 → St → Prop) (k187 : Int32 → St → Prop) (v1 : Int32) (S : St) : Prop :=
 (if gI S 0 15 ≤ v1 then (∀ S236_11, S236_11 = sI S 0 65 (0 : Int32) → Q (0 : Int32) S236_11) else (w_X12_form_197 k187 v1 (0 : Int32) S))
def w_X12_form_187 (Q : Int32 → St → Prop) (v1 : Int32) (S : St) : Prop := ∃ n, lpn (fun _ _ => False) (b_X12_form_187 Q) n v1 S
def b_X12_form_149 (Q : Int32 → St → Prop) (k149 : Int32 → St → Prop) (v1 : Int32) (S : St) : Prop :=
 (if (8 : Int32) ≤ v1 then (w_X12_form_187 Q (0 : Int32) S) else (vp_in v1 8 ∧ (vp_in v1 8 ∧ (∀ S166_17, S166_17 = sI S 3 v1.toNatClampNeg (gI S 11 v1.toNatClampNeg) → vp_in v1 8 ∧ (vp_in v1 8 ∧ (∀ S178_18, S178_18 = sI S166_17 4 v1.toNatClampNeg (gI S166_17 12 v1.toNatClampNeg) → ∀ x179_19, x179_19 = v1 + (1 : Int32) → k149 x179_19 S178_18))))))
def w_X12_form_149 (Q : Int32 → St → Prop) (v1 : Int32) (S : St) : Prop := ∃ n, lpn (fun _ _ => False) (b_X12_form_149 Q) n v1 S
def b_X12_form_75 (Q : Int32 → St → Prop) (k75 : Int32 → St → Prop) (v1 : Int32) (S : St) : Prop :=
 (if (12 : Int32) ≤ v1 then (w_X12_form_149 Q (0 : Int32) S) else (vp_in v1 12 ∧ (vp_in v1 12 ∧ (∀ S92_20, S92_20 = sI S 2 v1.toNatClampNeg (gI S 10 v1.toNatClampNeg) → vp_in v1 12 ∧ (vp_in v1 12 ∧ (∀ S104_21, S104_21 = sI S92_20 5 v1.toNatClampNeg (gI S92_20 13 v1.toNatClampNeg) → vp_in v1 12 ∧ (vp_in v1 12 ∧ (∀ S116_22, S116_22 = sI S104_21 6 v1.toNatClampNeg (gI S104_21 15 v1.toNatClampNeg) → vp_in v1 12 ∧ (vp_in v1 12 ∧ (∀ S128_23, S128_23 = sI S116_22 7 v1.toNatClampNeg (gI S116_22 16 v1.toNatClampNeg) → vp_in v1 12 ∧ (vp_in v1 12 ∧ (∀ S140_24, S140_24 = sI S128_23 8 v1.toNatClampNeg (gI S128_23 17 v1.toNatClampNeg) → ∀ x141_25, x141_25 = v1 + (1 : Int32) → k75 x141_25 S140_24))))))))))))
def w_X12_form_75 (Q : Int32 → St → Prop) (v1 : Int32) (S : St) : Prop := ∃ n, lpn (fun _ _ => False) (b_X12_form_75 Q) n v1 S
def w_X12_form (S : St) (Q : Int32 → St → Prop) : Prop :=
 ∀ S2_1, S2_1 = sI S 0 0 (0 : Int32) → w_X12_readsAll S2_1 (fun r6_3 S6_2 => (if r6_3 = 0 then (Q (gI S6_2 0 9) S6_2) else (∀ S22_4, S22_4 = sI S6_2 0 10 (gI S6_2 0 25) → ∀ S30_5, S30_5 = sI S22_4 0 11 (gI S22_4 0 26) → ∀ S38_6, S38_6 = sI S30_5 0 12 (gI S30_5 0 27) → ∀ S46_7, S46_7 = sI S38_6 0 13 (gI S38_6 0 28) → ∀ S54_8, S54_8 = sI S46_7 0 14 (gI S46_7 0 29) → ∀ S62_9, S62_9 = sI S54_8 0 15 (gI S54_8 0 30) → ∀ S70_10, S70_10 = sI S62_9 0 16 (gI S62_9 0 31) → w_X12_form_75 Q (0 : Int32) S70_10)))
-- X12_isPlace
def w_X12_isPlace (p0 : Int32) (S : St) (Q : Int32 → St → Prop) : Prop :=
 (if p0 < 0 then (Q (0 : Int32) S) else ((if gI S 0 10 ≤ p0 then (Q (0 : Int32) S) else (Q (1 : Int32) S))))
-- X12_isWordAt
def w_X12_isWordAt (p0 : Int32) (S : St) (Q : Int32 → St → Prop) : Prop :=
 (if p0 < 0 then (Q (0 : Int32) S) else ((if gI S 0 15 ≤ p0 then (Q (0 : Int32) S) else (Q (1 : Int32) S))))
-- X12_goesTo
def b_X12_goesTo_2 (p0 : Int32) (Q : Int32 → St → Prop) (k2 : Int32 → St → Prop) (v2 : Int32) (S : St) : Prop :=
 vp_in v2 12 ∧ ((if gI S 2 v2.toNatClampNeg = p0 then (Q v2 S) else (∀ x12_1, x12_1 = v2 + (1 : Int32) → k2 x12_1 S)))
def w_X12_goesTo_2 (p0 : Int32) (Q : Int32 → St → Prop) (v2 : Int32) (S : St) : Prop := ∃ n, lpn (fun _ _ => False) (b_X12_goesTo_2 p0 Q) n v2 S
def w_X12_goesTo (p0 : Int32) (S : St) (Q : Int32 → St → Prop) : Prop :=
 w_X12_goesTo_2 p0 Q (0 : Int32) S
-- X12_cycleOf
def b_X12_cycleOf_9 (p0 : Int32) (Q : Int32 → St → Prop) (k9 : Int32 → Int32 → St → Prop) (v2 : Int32) (v3 : Int32) (S : St) : Prop :=
 (if v3 = p0 then (Q v2 S) else (∀ x14_2, x14_2 = v2 + (1 : Int32) → vp_in v3 12 ∧ (∀ x23_3, x23_3 = gI S 2 v3.toNatClampNeg → k9 x14_2 x23_3 S)))
def w_X12_cycleOf_9 (p0 : Int32) (Q : Int32 → St → Prop) (v2 : Int32) (v3 : Int32) (S : St) : Prop := ∃ n, lpn (fun _ _ _ => False) (b_X12_cycleOf_9 p0 Q) n v2 v3 S
def w_X12_cycleOf (p0 : Int32) (S : St) (Q : Int32 → St → Prop) : Prop :=
 vp_in p0 12 ∧ (∀ x8_1, x8_1 = gI S 2 p0.toNatClampNeg → w_X12_cycleOf_9 p0 Q (1 : Int32) x8_1 S)
-- X12_turning
def w_X12_turning (p0 : Int32) (p1 : Int32) (S : St) (Q : Int32 → St → Prop) : Prop :=
 ∀ S2_1, S2_1 = sI S 0 0 (0 : Int32) → w_X12_isPlace p0 S2_1 (fun r7_3 S7_2 => (if r7_3 = 0 then (Q (-1 : Int32) S7_2) else (w_X12_within p1 (0 : Int32) (2 : Int32) S7_2 (fun r16_5 S16_4 => (if r16_5 = 0 then (Q (-1 : Int32) S16_4) else ((if p1 = 0 then (w_X12_goesTo p0 S16_4 (fun r32_7 S32_6 => Q r32_7 S32_6)) else ((if p1 = (1 : Int32) then (vp_in p0 12 ∧ (Q (gI S16_4 2 p0.toNatClampNeg) S16_4)) else (w_X12_cycleOf p0 S16_4 (fun r54_9 S54_8 => Q r54_9 S54_8)))))))))))
-- X12_isStanza
def w_X12_isStanza (p0 : Int64) (S : St) (Q : Int32 → St → Prop) : Prop :=
 (if p0 < (0 : Int64) then (Q (0 : Int32) S) else ((if (1000000000000000 : Int64) < p0 then (Q (0 : Int32) S) else (Q (1 : Int32) S))))
-- X12_endAt
def b_X12_endAt_14 (Q : Int32 → St → Prop) (k14 : Int32 → Int32 → St → Prop) (v4 : Int32) (v5 : Int32) (S : St) : Prop :=
 (if v5 ≤ 0 then (Q v4 S) else (vp_in v4 12 ∧ (∀ x26_4, x26_4 = gI S 2 v4.toNatClampNeg → ∀ x28_5, x28_5 = v5 + (-1 : Int32) → k14 x26_4 x28_5 S)))
def w_X12_endAt_14 (Q : Int32 → St → Prop) (v4 : Int32) (v5 : Int32) (S : St) : Prop := ∃ n, lpn (fun _ _ _ => False) (b_X12_endAt_14 Q) n v4 v5 S
def w_X12_endAt (p0 : Int64) (p1 : Int32) (S : St) (Q : Int32 → St → Prop) : Prop :=
 w_X12_cycleOf p1 S (fun r6_2 S6_1 => ¬ (r6_2).toInt64 = 0 ∧ (∀ x12_3, x12_3 = (p0 - p0 / ((r6_2).toInt64) * ((r6_2).toInt64)).toInt32 → w_X12_endAt_14 Q p1 x12_3 S6_1))
-- X12_whereIs
def b_X12_whereIs_3 (p0 : Int64) (p1 : Int32) (Q : Int32 → St → Prop) (k3 : Int32 → St → Prop) (v4 : Int32) (S : St) : Prop :=
 w_X12_endAt p0 v4 S (fun r7_2 S7_1 => (if r7_2 = p1 then (Q v4 S7_1) else (∀ x14_3, x14_3 = v4 + (1 : Int32) → k3 x14_3 S7_1)))
def w_X12_whereIs_3 (p0 : Int64) (p1 : Int32) (Q : Int32 → St → Prop) (v4 : Int32) (S : St) : Prop := ∃ n, lpn (fun _ _ => False) (b_X12_whereIs_3 p0 p1 Q) n v4 S
def w_X12_whereIs (p0 : Int64) (p1 : Int32) (S : St) (Q : Int32 → St → Prop) : Prop :=
 w_X12_whereIs_3 p0 p1 Q (0 : Int32) S
-- X12_end
def w_X12_end (p0 : Int64) (p1 : Int32) (S : St) (Q : Int32 → St → Prop) : Prop :=
 ∀ S2_1, S2_1 = sI S 0 0 (0 : Int32) → w_X12_isStanza p0 S2_1 (fun r6_3 S6_2 => (if r6_3 = 0 then (Q (-1 : Int32) S6_2) else (w_X12_isPlace p1 S6_2 (fun r14_5 S14_4 => (if r14_5 = 0 then (Q (-1 : Int32) S14_4) else (w_X12_endAt p0 p1 S14_4 (fun r23_7 S23_6 => Q r23_7 S23_6)))))))
-- X12_where
def w_X12_where (p0 : Int64) (p1 : Int32) (S : St) (Q : Int32 → St → Prop) : Prop :=
 ∀ S2_1, S2_1 = sI S 0 0 (0 : Int32) → w_X12_isStanza p0 S2_1 (fun r6_3 S6_2 => (if r6_3 = 0 then (Q (-1 : Int32) S6_2) else (w_X12_isPlace p1 S6_2 (fun r14_5 S14_4 => (if r14_5 = 0 then (Q (-1 : Int32) S14_4) else (w_X12_whereIs p0 p1 S14_4 (fun r23_7 S23_6 => Q r23_7 S23_6)))))))
-- X12_meets
def b_X12_meets_25 (p0 : Int32) (p1 : Int32) (Q : Int32 → St → Prop) (k25 : Int32 → St → Prop) (v3 : Int32) (S : St) : Prop :=
 w_X12_cycleOf p1 S (fun r28_7 S28_6 => (if r28_7 ≤ v3 then (Q (-1 : Int32) S28_6) else (w_X12_endAt ((v3).toInt64) p1 S28_6 (fun r38_9 S38_8 => (if r38_9 = p0 then (Q v3 S38_8) else (∀ x47_10, x47_10 = v3 + (1 : Int32) → k25 x47_10 S38_8))))))
def w_X12_meets_25 (p0 : Int32) (p1 : Int32) (Q : Int32 → St → Prop) (v3 : Int32) (S : St) : Prop := ∃ n, lpn (fun _ _ => False) (b_X12_meets_25 p0 p1 Q) n v3 S
def w_X12_meets (p0 : Int32) (p1 : Int32) (S : St) (Q : Int32 → St → Prop) : Prop :=
 ∀ S2_1, S2_1 = sI S 0 0 (0 : Int32) → w_X12_isPlace p0 S2_1 (fun r7_3 S7_2 => (if r7_3 = 0 then (Q (-1 : Int32) S7_2) else (w_X12_isPlace p1 S7_2 (fun r15_5 S15_4 => (if r15_5 = 0 then (Q (-1 : Int32) S15_4) else (w_X12_meets_25 p0 p1 Q (0 : Int32) S15_4))))))
-- X12_gcd
def b_X12_gcd_4 (Q : Int32 → St → Prop) (k4 : Int32 → Int32 → St → Prop) (v2 : Int32) (v3 : Int32) (S : St) : Prop :=
 (if v3 = 0 then (Q v2 S) else (¬ v3 = 0 ∧ (∀ x11_1, x11_1 = v2 - v2 / v3 * v3 → k4 v3 x11_1 S)))
def w_X12_gcd_4 (Q : Int32 → St → Prop) (v2 : Int32) (v3 : Int32) (S : St) : Prop := ∃ n, lpn (fun _ _ _ => False) (b_X12_gcd_4 Q) n v2 v3 S
def w_X12_gcd (p0 : Int32) (p1 : Int32) (S : St) (Q : Int32 → St → Prop) : Prop :=
 w_X12_gcd_4 Q p0 p1 S
-- X12_roundIs
def b_X12_roundIs_4 (Q : Int32 → St → Prop) (k4 : Int32 → Int32 → St → Prop) (v1 : Int32) (v2 : Int32) (S : St) : Prop :=
 (if gI S 0 10 ≤ v2 then (Q v1 S) else (w_X12_cycleOf v2 S (fun r16_2 S16_1 => w_X12_gcd v1 r16_2 S16_1 (fun r19_4 S19_3 => ¬ r19_4 = 0 ∧ (w_X12_cycleOf v2 S19_3 (fun r25_6 S25_5 => ∀ x29_7, x29_7 = (v1 / r19_4) * r25_6 → ∀ x30_8, x30_8 = v2 + (1 : Int32) → k4 x29_7 x30_8 S25_5))))))
def w_X12_roundIs_4 (Q : Int32 → St → Prop) (v1 : Int32) (v2 : Int32) (S : St) : Prop := ∃ n, lpn (fun _ _ _ => False) (b_X12_roundIs_4 Q) n v1 v2 S
def w_X12_roundIs (S : St) (Q : Int32 → St → Prop) : Prop :=
 w_X12_roundIs_4 Q (1 : Int32) (0 : Int32) S
-- X12_isLeast
def b_X12_isLeast_7 (p0 : Int32) (Q : Int32 → St → Prop) (k7 : Int32 → St → Prop) (v2 : Int32) (S : St) : Prop :=
 (if v2 = p0 then (Q (1 : Int32) S) else ((if p0 ≤ v2 then (vp_in v2 12 ∧ (∀ x25_2, x25_2 = gI S 2 v2.toNatClampNeg → k7 x25_2 S)) else (Q (0 : Int32) S))))
def w_X12_isLeast_7 (p0 : Int32) (Q : Int32 → St → Prop) (v2 : Int32) (S : St) : Prop := ∃ n, lpn (fun _ _ => False) (b_X12_isLeast_7 p0 Q) n v2 S
def w_X12_isLeast (p0 : Int32) (S : St) (Q : Int32 → St → Prop) : Prop :=
 vp_in p0 12 ∧ (∀ x6_1, x6_1 = gI S 2 p0.toNatClampNeg → w_X12_isLeast_7 p0 Q x6_1 S)
-- X12_round
def w_X12_round_82 (p0 : Int32) (k26 : Int32 → Int32 → Int32 → Int32 → St → Prop) (v2 : Int32) (v3 : Int32) (v5 : Int32) (t0 : Int32) (t1 : Int32) (S : St) : Prop :=
 ∀ x83_12, x83_12 = t1 + t0 → ∀ x85_13, x85_13 = v5 + (1 : Int32) → k26 v2 v3 x83_12 x85_13 S
def w_X12_round_50 (p0 : Int32) (k26 : Int32 → Int32 → Int32 → Int32 → St → Prop) (v3 : Int32) (v4 : Int32) (v5 : Int32) (t0 : Int32) (t1 : Int32) (S : St) : Prop :=
 ∀ x51_8, x51_8 = t1 + t0 → w_X12_cycleOf v5 S (fun r56_10 S56_9 => ∀ x62_11, x62_11 = (if v3 < r56_10 then r56_10 else v3) → vp_in v5 12 ∧ ((if gI S56_9 2 v5.toNatClampNeg = v5 then (w_X12_round_82 p0 k26 x51_8 x62_11 v5 (1 : Int32) v4 S56_9) else (w_X12_round_82 p0 k26 x51_8 x62_11 v5 (0 : Int32) v4 S56_9))))
def b_X12_round_26 (p0 : Int32) (Q : Int32 → St → Prop) (k26 : Int32 → Int32 → Int32 → Int32 → St → Prop) (v2 : Int32) (v3 : Int32) (v4 : Int32) (v5 : Int32) (S : St) : Prop :=
 (if gI S 0 10 ≤ v5 then ((if p0 = 0 then (w_X12_roundIs S (fun r96_5 S96_4 => Q r96_5 S96_4)) else ((if p0 = (1 : Int32) then (Q v2 S) else ((if p0 = (2 : Int32) then (Q v3 S) else ((if p0 = (3 : Int32) then (Q v4 S) else (Q (((gI S 0 10) - v2) - ((gI S 0 10) - v2) / (2 : Int32) * (2 : Int32)) S))))))))) else (w_X12_isLeast v5 S (fun r39_7 S39_6 => (if r39_7 = 0 then (w_X12_round_50 p0 k26 v3 v4 v5 (0 : Int32) v2 S39_6) else (w_X12_round_50 p0 k26 v3 v4 v5 (1 : Int32) v2 S39_6)))))
def w_X12_round_26 (p0 : Int32) (Q : Int32 → St → Prop) (v2 : Int32) (v3 : Int32) (v4 : Int32) (v5 : Int32) (S : St) : Prop := ∃ n, lpn (fun _ _ _ _ _ => False) (b_X12_round_26 p0 Q) n v2 v3 v4 v5 S
def w_X12_round (p0 : Int32) (S : St) (Q : Int32 → St → Prop) : Prop :=
 ∀ S2_1, S2_1 = sI S 0 0 (0 : Int32) → w_X12_within p0 (0 : Int32) (4 : Int32) S2_1 (fun r8_3 S8_2 => (if r8_3 = 0 then (Q (-1 : Int32) S8_2) else (w_X12_round_26 p0 Q (0 : Int32) (0 : Int32) (0 : Int32) (0 : Int32) S8_2)))
-- X12_rootsOf
def w_X12_rootsOf_24 (p0 : Int32) (p1 : Int32) (rec : Int32 → Int32 → St → (Int64 → St → Prop) → Prop) (Q : Int64 → St → Prop) (t0 : Int64) (S : St) : Prop :=
 (if (2 : Int32) ≤ p1 then (rec p0 (p1 - (2 : Int32)) S (fun r46_4 S46_3 => Q (t0 + ((((p1 - (1 : Int32)).toInt64) * ((p0).toInt64)) * r46_4)) S46_3)) else (Q t0 S))
def u_X12_rootsOf (rec : Int32 → Int32 → St → (Int64 → St → Prop) → Prop) (p0 : Int32) (p1 : Int32) (S : St) (Q : Int64 → St → Prop) : Prop :=
 (if p1 = 0 then (Q (1 : Int64) S) else ((if p0 - p0 / (2 : Int32) * (2 : Int32) = (1 : Int32) then (rec p0 (p1 - (1 : Int32)) S (fun r17_2 S17_1 => w_X12_rootsOf_24 p0 p1 rec Q r17_2 S17_1)) else (w_X12_rootsOf_24 p0 p1 rec Q (0 : Int64) S))))
def w_X12_rootsOf : Nat → Int32 → Int32 → St → (Int64 → St → Prop) → Prop
  | 0 => fun _ _ _ _ => False
  | d + 1 => u_X12_rootsOf (w_X12_rootsOf d)
-- X12_roots
def w_X12_roots_58 (k23 : Int32 → Int32 → St → Prop) (v1 : Int64) (v3 : Int32) (v5 : Int32) (t0 : Int32) (t1 : Int32) (S : St) : Prop :=
 ∀ x59_9, x59_9 = t1 + t0 → ∀ x61_10, x61_10 = v5 + (1 : Int32) → k23 x59_9 x61_10 S
def w_X12_roots_57 (k23 : Int32 → Int32 → St → Prop) (v1 : Int64) (v3 : Int32) (v5 : Int32) (t0 : Int32) (S : St) : Prop :=
 w_X12_roots_58 k23 v1 v3 v5 (0 : Int32) t0 S
def b_X12_roots_23 (k9 : Int64 → Int32 → St → Prop) (v1 : Int64) (v3 : Int32) (k23 : Int32 → Int32 → St → Prop) (v4 : Int32) (v5 : Int32) (S : St) : Prop :=
 (if gI S 0 10 ≤ v5 then (∃ d71_4, d71_4 ≤ 32 ∧ w_X12_rootsOf d71_4 v3 v4 S (fun r71_3 S71_2 => ∀ x75_5, x75_5 = v1 * r71_3 → ∀ x76_6, x76_6 = v3 + (1 : Int32) → k9 x75_5 x76_6 S71_2)) else (w_X12_isLeast v5 S (fun r37_8 S37_7 => (if r37_8 = 0 then (w_X12_roots_57 k23 v1 v3 v5 v4 S37_7) else (w_X12_cycleOf v5 S37_7 (fun r46_12 S46_11 => (if r46_12 = v3 then (w_X12_roots_58 k23 v1 v3 v5 (1 : Int32) v4 S46_11) else (w_X12_roots_57 k23 v1 v3 v5 v4 S46_11))))))))
def w_X12_roots_23 (k9 : Int64 → Int32 → St → Prop) (v1 : Int64) (v3 : Int32) (v4 : Int32) (v5 : Int32) (S : St) : Prop := ∃ n, lpn (fun _ _ _ => False) (b_X12_roots_23 k9 v1 v3) n v4 v5 S
def b_X12_roots_9 (Q : Int64 → St → Prop) (k9 : Int64 → Int32 → St → Prop) (v1 : Int64) (v3 : Int32) (S : St) : Prop :=
 (if gI S 0 10 < v3 then (Q v1 S) else (w_X12_roots_23 k9 v1 v3 (0 : Int32) (0 : Int32) S))
def w_X12_roots_9 (Q : Int64 → St → Prop) (v1 : Int64) (v3 : Int32) (S : St) : Prop := ∃ n, lpn (fun _ _ _ => False) (b_X12_roots_9 Q) n v1 v3 S
def w_X12_roots (S : St) (Q : Int64 → St → Prop) : Prop :=
 ∀ S2_1, S2_1 = sI S 0 0 (0 : Int32) → w_X12_roots_9 Q (1 : Int64) (1 : Int32) S2_1
-- X12_spiral
def b_X12_spiral_256 (Q : Int32 → St → Prop) (k256 : Int64 → Int32 → St → Prop) (v5 : Int64) (v7 : Int32) (S : St) : Prop :=
 (if (200 : Int32) < v7 then (Q ((v5).toInt32) S) else (vp_in v7 201 ∧ (∀ x279_6, x279_6 = (v5 * ((gI S 36 v7.toNatClampNeg).toInt64)) - (v5 * ((gI S 36 v7.toNatClampNeg).toInt64)) / (1000000007 : Int64) * (1000000007 : Int64) → ∀ x281_7, x281_7 = v7 + (1 : Int32) → k256 x279_6 x281_7 S)))
def w_X12_spiral_256 (Q : Int32 → St → Prop) (v5 : Int64) (v7 : Int32) (S : St) : Prop := ∃ n, lpn (fun _ _ _ => False) (b_X12_spiral_256 Q) n v5 v7 S
def b_X12_spiral_178 (p0 : Int32) (p1 : Int32) (k169 : Int32 → Int32 → St → Prop) (v3 : Int32) (v4 : Int32) (v5 : Int32) (v7 : Int32) (k178 : Int32 → Int32 → St → Prop) (v6 : Int32) (v8 : Int32) (S : St) : Prop :=
 ¬ v7 = 0 ∧ ((if v6 - v6 / v7 * v7 = 0 then (¬ v7 = 0 ∧ (∀ x191_16, x191_16 = v6 / v7 → ∀ x198_17, x198_17 = v8 * v7 → k178 x191_16 x198_17 S)) else (vp_in v7 201 ∧ (vp_in v7 201 ∧ (∀ S221_18, S221_18 = sI S 36 v7.toNatClampNeg (if gI S 36 v7.toNatClampNeg < v8 then v8 else gI S 36 v7.toNatClampNeg) → ∀ x222_19, x222_19 = v7 + (1 : Int32) → k169 v6 x222_19 S221_18)))))
def w_X12_spiral_178 (p0 : Int32) (p1 : Int32) (k169 : Int32 → Int32 → St → Prop) (v3 : Int32) (v4 : Int32) (v5 : Int32) (v7 : Int32) (v6 : Int32) (v8 : Int32) (S : St) : Prop := ∃ n, lpn (fun _ _ _ => False) (b_X12_spiral_178 p0 p1 k169 v3 v4 v5 v7) n v6 v8 S
def b_X12_spiral_169 (p0 : Int32) (p1 : Int32) (k85 : Int32 → Int32 → Int32 → St → Prop) (v3 : Int32) (v4 : Int32) (v5 : Int32) (k169 : Int32 → Int32 → St → Prop) (v6 : Int32) (v7 : Int32) (S : St) : Prop :=
 (if v6 ≤ (1 : Int32) then (∀ x228_15, x228_15 = v5 + (1 : Int32) → k85 v3 v4 x228_15 S) else (w_X12_spiral_178 p0 p1 k169 v3 v4 v5 v7 v6 (1 : Int32) S))
def w_X12_spiral_169 (p0 : Int32) (p1 : Int32) (k85 : Int32 → Int32 → Int32 → St → Prop) (v3 : Int32) (v4 : Int32) (v5 : Int32) (v6 : Int32) (v7 : Int32) (S : St) : Prop := ∃ n, lpn (fun _ _ _ => False) (b_X12_spiral_169 p0 p1 k85 v3 v4 v5) n v6 v7 S
def b_X12_spiral_98 (p0 : Int32) (p1 : Int32) (k85 : Int32 → Int32 → Int32 → St → Prop) (v3 : Int32) (v4 : Int32) (v5 : Int32) (k98 : Int32 → Int32 → St → Prop) (v6 : Int32) (v7 : Int32) (S : St) : Prop :=
 vp_in v7 200 ∧ ((if gI S 35 v7.toNatClampNeg = 0 then (vp_in v7 200 ∧ (∀ S115_8, S115_8 = sI S 35 v7.toNatClampNeg (1 : Int32) → ∀ x116_9, x116_9 = v6 + (1 : Int32) → (if v7 - v7 / (2 : Int32) * (2 : Int32) = 0 then (∀ x141_10, x141_10 = (p0 - (1 : Int32)) - (v7 / (2 : Int32)) → k98 x116_9 x141_10 S115_8) else (∀ x141_11, x141_11 = v7 / (2 : Int32) → k98 x116_9 x141_11 S115_8)))) else ((if v6 = 0 then (∀ x228_12, x228_12 = v5 + (1 : Int32) → k85 v3 v4 x228_12 S) else (∀ x154_13, x154_13 = v3 + (1 : Int32) → ∀ x164_14, x164_14 = (if v4 < v6 then v6 else v4) → w_X12_spiral_169 p0 p1 k85 x154_13 x164_14 v5 v6 (2 : Int32) S)))))
def w_X12_spiral_98 (p0 : Int32) (p1 : Int32) (k85 : Int32 → Int32 → Int32 → St → Prop) (v3 : Int32) (v4 : Int32) (v5 : Int32) (v6 : Int32) (v7 : Int32) (S : St) : Prop := ∃ n, lpn (fun _ _ _ => False) (b_X12_spiral_98 p0 p1 k85 v3 v4 v5) n v6 v7 S
def b_X12_spiral_85 (p0 : Int32) (p1 : Int32) (Q : Int32 → St → Prop) (k85 : Int32 → Int32 → Int32 → St → Prop) (v3 : Int32) (v4 : Int32) (v5 : Int32) (S : St) : Prop :=
 (if p0 ≤ v5 then ((if (2 : Int32) ≤ p1 then (w_X12_spiral_256 Q (1 : Int64) (2 : Int32) S) else ((if p1 = 0 then (Q v3 S) else (Q v4 S))))) else (w_X12_spiral_98 p0 p1 k85 v3 v4 v5 (0 : Int32) v5 S))
def w_X12_spiral_85 (p0 : Int32) (p1 : Int32) (Q : Int32 → St → Prop) (v3 : Int32) (v4 : Int32) (v5 : Int32) (S : St) : Prop := ∃ n, lpn (fun _ _ _ _ => False) (b_X12_spiral_85 p0 p1 Q) n v3 v4 v5 S
def b_X12_spiral_60 (p0 : Int32) (p1 : Int32) (Q : Int32 → St → Prop) (v3 : Int32) (v4 : Int32) (k60 : Int32 → St → Prop) (v5 : Int32) (S : St) : Prop :=
 (if (200 : Int32) ≤ v5 then (w_X12_spiral_85 p0 p1 Q v3 v4 (0 : Int32) S) else (vp_in v5 200 ∧ (∀ S75_20, S75_20 = sI S 35 v5.toNatClampNeg (0 : Int32) → ∀ x76_21, x76_21 = v5 + (1 : Int32) → k60 x76_21 S75_20)))
def w_X12_spiral_60 (p0 : Int32) (p1 : Int32) (Q : Int32 → St → Prop) (v3 : Int32) (v4 : Int32) (v5 : Int32) (S : St) : Prop := ∃ n, lpn (fun _ _ => False) (b_X12_spiral_60 p0 p1 Q v3 v4) n v5 S
def b_X12_spiral_35 (p0 : Int32) (p1 : Int32) (Q : Int32 → St → Prop) (v3 : Int32) (v4 : Int32) (k35 : Int32 → St → Prop) (v5 : Int32) (S : St) : Prop :=
 (if (200 : Int32) < v5 then (w_X12_spiral_60 p0 p1 Q v3 v4 (0 : Int32) S) else (vp_in v5 201 ∧ (∀ S50_22, S50_22 = sI S 36 v5.toNatClampNeg (1 : Int32) → ∀ x51_23, x51_23 = v5 + (1 : Int32) → k35 x51_23 S50_22)))
def w_X12_spiral_35 (p0 : Int32) (p1 : Int32) (Q : Int32 → St → Prop) (v3 : Int32) (v4 : Int32) (v5 : Int32) (S : St) : Prop := ∃ n, lpn (fun _ _ => False) (b_X12_spiral_35 p0 p1 Q v3 v4) n v5 S
def w_X12_spiral (p0 : Int32) (p1 : Int32) (S : St) (Q : Int32 → St → Prop) : Prop :=
 ∀ S2_1, S2_1 = sI S 0 0 (0 : Int32) → w_X12_within p0 (1 : Int32) (200 : Int32) S2_1 (fun r10_3 S10_2 => (if r10_3 = 0 then (Q (-1 : Int32) S10_2) else (w_X12_within p1 (0 : Int32) (2 : Int32) S10_2 (fun r19_5 S19_4 => (if r19_5 = 0 then (Q (-1 : Int32) S19_4) else (w_X12_spiral_35 p0 p1 Q (0 : Int32) (0 : Int32) (0 : Int32) S19_4))))))
-- X12_classes
def w_X12_classes_133 (k84 : Int32 → St → Prop) (v1 : Int32) (v2 : Int32) (v3 : Int32) (v4 : Int32) (v5 : Int32) (v6 : Int32) (t0 : Int32) (t1 : Int32) (S : St) : Prop :=
 vp_in t1 12 ∧ (∀ S133_11, S133_11 = sI S 37 t1.toNatClampNeg t0 → ∀ x134_12, x134_12 = v6 + (1 : Int32) → k84 x134_12 S133_11)
def b_X12_classes_84 (k35 : Int32 → St → Prop) (v1 : Int32) (v2 : Int32) (v3 : Int32) (v4 : Int32) (v5 : Int32) (k84 : Int32 → St → Prop) (v6 : Int32) (S : St) : Prop :=
 (if gI S 0 10 ≤ v6 then (∀ x140_10, x140_10 = v3 + (1 : Int32) → k35 x140_10 S) else (vp_in v6 12 ∧ ((if gI S 37 v6.toNatClampNeg = (if v4 < v5 then v5 else v4) then (w_X12_classes_133 k84 v1 v2 v3 v4 v5 v6 (if v5 < v4 then v5 else v4) v6 S) else (vp_in v6 12 ∧ (w_X12_classes_133 k84 v1 v2 v3 v4 v5 v6 (gI S 37 v6.toNatClampNeg) v6 S))))))
def w_X12_classes_84 (k35 : Int32 → St → Prop) (v1 : Int32) (v2 : Int32) (v3 : Int32) (v4 : Int32) (v5 : Int32) (v6 : Int32) (S : St) : Prop := ∃ n, lpn (fun _ _ => False) (b_X12_classes_84 k35 v1 v2 v3 v4 v5) n v6 S
def b_X12_classes_35 (k28 : Int32 → St → Prop) (v1 : Int32) (v2 : Int32) (k35 : Int32 → St → Prop) (v3 : Int32) (S : St) : Prop :=
 (if gI S 0 12 ≤ v3 then (∀ x146_3, x146_3 = v2 + (1 : Int32) → k28 x146_3 S) else (vp_in v3 8 ∧ (w_X12_endAt ((v2).toInt64) (gI S 3 v3.toNatClampNeg) S (fun r56_5 S56_4 => vp_in r56_5 12 ∧ (∀ x60_6, x60_6 = gI S56_4 37 r56_5.toNatClampNeg → vp_in v3 8 ∧ (w_X12_endAt ((v2).toInt64) (gI S56_4 4 v3.toNatClampNeg) S56_4 (fun r75_8 S75_7 => vp_in r75_8 12 ∧ (∀ x79_9, x79_9 = gI S75_7 37 r75_8.toNatClampNeg → w_X12_classes_84 k35 v1 v2 v3 x60_6 x79_9 (0 : Int32) S75_7))))))))
def w_X12_classes_35 (k28 : Int32 → St → Prop) (v1 : Int32) (v2 : Int32) (v3 : Int32) (S : St) : Prop := ∃ n, lpn (fun _ _ => False) (b_X12_classes_35 k28 v1 v2) n v3 S
def b_X12_classes_28 (Q : St → Prop) (v1 : Int32) (k28 : Int32 → St → Prop) (v2 : Int32) (S : St) : Prop :=
 (if v1 ≤ v2 then (Q S) else (w_X12_classes_35 k28 v1 v2 (0 : Int32) S))
def w_X12_classes_28 (Q : St → Prop) (v1 : Int32) (v2 : Int32) (S : St) : Prop := ∃ n, lpn (fun _ _ => False) (b_X12_classes_28 Q v1) n v2 S
def b_X12_classes_2 (Q : St → Prop) (k2 : Int32 → St → Prop) (v1 : Int32) (S : St) : Prop :=
 (if (12 : Int32) ≤ v1 then (w_X12_roundIs S (fun r22_2 S22_1 => w_X12_classes_28 Q r22_2 (0 : Int32) S22_1)) else (vp_in v1 12 ∧ (∀ S14_13, S14_13 = sI S 37 v1.toNatClampNeg v1 → ∀ x15_14, x15_14 = v1 + (1 : Int32) → k2 x15_14 S14_13)))
def w_X12_classes_2 (Q : St → Prop) (v1 : Int32) (S : St) : Prop := ∃ n, lpn (fun _ _ => False) (b_X12_classes_2 Q) n v1 S
def w_X12_classes (S : St) (Q : St → Prop) : Prop :=
 w_X12_classes_2 Q (0 : Int32) S
-- X12_rhymes
def w_X12_rhymes (p0 : Int32) (S : St) (Q : Int32 → St → Prop) : Prop :=
 ∀ S2_1, S2_1 = sI S 0 0 (0 : Int32) → w_X12_classes S2_1 (fun S6_2 => w_X12_isPlace p0 S6_2 (fun r11_4 S11_3 => (if r11_4 = 0 then (Q (-1 : Int32) S11_3) else (vp_in p0 12 ∧ (Q (gI S11_3 37 p0.toNatClampNeg) S11_3)))))
-- X12_beside
def w_X12_beside_76 (p0 : Int32) (p1 : Int32) (k39 : Int32 → Int32 → St → Prop) (v3 : Int32) (v5 : Int32) (t0 : Int32) (t1 : Int32) (S : St) : Prop :=
 ∀ x77_12, x77_12 = t1 + t0 → ∀ x79_13, x79_13 = v5 + (1 : Int32) → k39 x77_12 x79_13 S
def b_X12_beside_39 (p0 : Int32) (p1 : Int32) (Q : Int32 → St → Prop) (v3 : Int32) (k39 : Int32 → Int32 → St → Prop) (v4 : Int32) (v5 : Int32) (S : St) : Prop :=
 (if v3 ≤ v5 then (Q v4 S) else (w_X12_whereIs ((v5).toInt64) p0 S (fun r52_9 S52_8 => w_X12_whereIs ((v5).toInt64) p1 S52_8 (fun r60_11 S60_10 => (if (if 0 ≤ r52_9 - r60_11 then r52_9 - r60_11 else 0 - (r52_9 - r60_11)) = (1 : Int32) then (w_X12_beside_76 p0 p1 k39 v3 v5 (1 : Int32) v4 S60_10) else (w_X12_beside_76 p0 p1 k39 v3 v5 (0 : Int32) v4 S60_10))))))
def w_X12_beside_39 (p0 : Int32) (p1 : Int32) (Q : Int32 → St → Prop) (v3 : Int32) (v4 : Int32) (v5 : Int32) (S : St) : Prop := ∃ n, lpn (fun _ _ _ => False) (b_X12_beside_39 p0 p1 Q v3) n v4 v5 S
def w_X12_beside (p0 : Int32) (p1 : Int32) (S : St) (Q : Int32 → St → Prop) : Prop :=
 ∀ S2_1, S2_1 = sI S 0 0 (0 : Int32) → w_X12_isPlace p0 S2_1 (fun r7_3 S7_2 => (if r7_3 = 0 then (Q (-1 : Int32) S7_2) else (w_X12_isPlace p1 S7_2 (fun r15_5 S15_4 => (if r15_5 = 0 then (Q (-1 : Int32) S15_4) else ((if p0 = p1 then (Q (-1 : Int32) S15_4) else (w_X12_roundIs S15_4 (fun r29_7 S29_6 => w_X12_beside_39 p0 p1 Q r29_7 (0 : Int32) (0 : Int32) S29_6)))))))))
-- X12_word
def w_X12_word (p0 : Int32) (p1 : Int32) (S : St) (Q : Int32 → St → Prop) : Prop :=
 ∀ S2_1, S2_1 = sI S 0 0 (0 : Int32) → w_X12_isWordAt p0 S2_1 (fun r7_3 S7_2 => (if r7_3 = 0 then (Q (-1 : Int32) S7_2) else (w_X12_within p1 (0 : Int32) (2 : Int32) S7_2 (fun r16_5 S16_4 => (if r16_5 = 0 then (Q (-1 : Int32) S16_4) else ((if p1 = 0 then (vp_in p0 12 ∧ (Q (gI S16_4 6 p0.toNatClampNeg) S16_4)) else ((if p1 = (1 : Int32) then (vp_in p0 12 ∧ (Q (gI S16_4 7 p0.toNatClampNeg) S16_4)) else (vp_in p0 12 ∧ (Q (gI S16_4 8 p0.toNatClampNeg) S16_4)))))))))))
-- X12_barred
def w_X12_barred (p0 : Int32) (p1 : Int32) (S : St) (Q : Int32 → St → Prop) : Prop :=
 ∀ S2_1, S2_1 = sI S 0 0 (0 : Int32) → w_X12_isWordAt p0 S2_1 (fun r7_3 S7_2 => (if r7_3 = 0 then (Q (-1 : Int32) S7_2) else (w_X12_isWordAt p1 S7_2 (fun r15_5 S15_4 => (if r15_5 = 0 then (Q (-1 : Int32) S15_4) else (vp_in (((12 : Int32) * p0) + p1) 144 ∧ ((if gI S15_4 9 (((12 : Int32) * p0) + p1).toNatClampNeg = 0 then (Q (0 : Int32) S15_4) else (Q (1 : Int32) S15_4)))))))))
-- X12_neighbours
def b_X12_neighbours_40 (k33 : Int32 → St → Prop) (v1 : Int32) (v2 : Int32) (k40 : Int32 → St → Prop) (v3 : Int32) (S : St) : Prop :=
 (if gI S 0 10 ≤ v3 + (1 : Int32) then (∀ x82_4, x82_4 = v2 + (1 : Int32) → k33 x82_4 S) else (w_X12_endAt ((v2).toInt64) v3 S (fun r60_6 S60_5 => w_X12_endAt ((v2).toInt64) (v3 + (1 : Int32)) S60_5 (fun r70_8 S70_7 => vp_in (((12 : Int32) * r60_6) + r70_8) 144 ∧ (∀ S75_9, S75_9 = sI S70_7 38 (((12 : Int32) * r60_6) + r70_8).toNatClampNeg (1 : Int32) → ∀ x76_10, x76_10 = v3 + (1 : Int32) → k40 x76_10 S75_9)))))
def w_X12_neighbours_40 (k33 : Int32 → St → Prop) (v1 : Int32) (v2 : Int32) (v3 : Int32) (S : St) : Prop := ∃ n, lpn (fun _ _ => False) (b_X12_neighbours_40 k33 v1 v2) n v3 S
def b_X12_neighbours_33 (Q : St → Prop) (v1 : Int32) (k33 : Int32 → St → Prop) (v2 : Int32) (S : St) : Prop :=
 (if v1 ≤ v2 then (Q S) else (w_X12_neighbours_40 k33 v1 v2 (0 : Int32) S))
def w_X12_neighbours_33 (Q : St → Prop) (v1 : Int32) (v2 : Int32) (S : St) : Prop := ∃ n, lpn (fun _ _ => False) (b_X12_neighbours_33 Q v1) n v2 S
def b_X12_neighbours_6 (Q : St → Prop) (k6 : Int32 → St → Prop) (v1 : Int32) (S : St) : Prop :=
 (if (144 : Int32) ≤ v1 then (w_X12_roundIs S (fun r27_3 S27_2 => w_X12_neighbours_33 Q r27_3 (0 : Int32) S27_2)) else (vp_in v1 144 ∧ (∀ S19_11, S19_11 = sI S 38 v1.toNatClampNeg (0 : Int32) → ∀ x20_12, x20_12 = v1 + (1 : Int32) → k6 x20_12 S19_11)))
def w_X12_neighbours_6 (Q : St → Prop) (v1 : Int32) (S : St) : Prop := ∃ n, lpn (fun _ _ => False) (b_X12_neighbours_6 Q) n v1 S
def w_X12_neighbours (S : St) (Q : St → Prop) : Prop :=
 w_X12_classes S (fun S1_1 => w_X12_neighbours_6 Q (0 : Int32) S1_1)
-- X12_goes
def w_X12_goes_111 (p0 : Int32) (p1 : Int32) (p2 : Int32) (p3 : Int32) (Q : Int32 → St → Prop) (k3 : Int32 → St → Prop) (v5 : Int32) (S : St) : Prop :=
 vp_in (((12 : Int32) * p0) + v5) 144 ∧ ((if gI S 38 (((12 : Int32) * p0) + v5).toNatClampNeg = 0 then (∀ x148_3, x148_3 = v5 + (1 : Int32) → k3 x148_3 S) else (vp_in v5 12 ∧ (vp_in (((12 : Int32) * p1) + (gI S 39 v5.toNatClampNeg)) 144 ∧ ((if gI S 9 (((12 : Int32) * p1) + (gI S 39 v5.toNatClampNeg)).toNatClampNeg = 0 then (∀ x148_4, x148_4 = v5 + (1 : Int32) → k3 x148_4 S) else (Q (0 : Int32) S)))))))
def w_X12_goes_71 (p0 : Int32) (p1 : Int32) (p2 : Int32) (p3 : Int32) (Q : Int32 → St → Prop) (k3 : Int32 → St → Prop) (v5 : Int32) (S : St) : Prop :=
 (if p3 = 0 then (∀ x148_2, x148_2 = v5 + (1 : Int32) → k3 x148_2 S) else (vp_in (((12 : Int32) * v5) + p0) 144 ∧ ((if gI S 38 (((12 : Int32) * v5) + p0).toNatClampNeg = 0 then (w_X12_goes_111 p0 p1 p2 p3 Q k3 v5 S) else (vp_in v5 12 ∧ (vp_in (((12 : Int32) * (gI S 39 v5.toNatClampNeg)) + p1) 144 ∧ ((if gI S 9 (((12 : Int32) * (gI S 39 v5.toNatClampNeg)) + p1).toNatClampNeg = 0 then (w_X12_goes_111 p0 p1 p2 p3 Q k3 v5 S) else (Q (0 : Int32) S)))))))))
def b_X12_goes_3 (p0 : Int32) (p1 : Int32) (p2 : Int32) (p3 : Int32) (Q : Int32 → St → Prop) (k3 : Int32 → St → Prop) (v5 : Int32) (S : St) : Prop :=
 (if p0 ≤ v5 then (Q (1 : Int32) S) else ((if (p2 >>> (v5 &&& 31)) &&& (1 : Int32) = 0 then (∀ x148_1, x148_1 = v5 + (1 : Int32) → k3 x148_1 S) else (vp_in v5 12 ∧ ((if gI S 39 v5.toNatClampNeg = p1 then (Q (0 : Int32) S) else (vp_in v5 12 ∧ (vp_in p0 12 ∧ ((if gI S 37 v5.toNatClampNeg = gI S 37 p0.toNatClampNeg then (vp_in v5 12 ∧ (vp_in (gI S 39 v5.toNatClampNeg) 12 ∧ (vp_in p1 12 ∧ ((if gI S 6 (gI S 39 v5.toNatClampNeg).toNatClampNeg = gI S 6 p1.toNatClampNeg then (w_X12_goes_71 p0 p1 p2 p3 Q k3 v5 S) else (Q (0 : Int32) S)))))) else (w_X12_goes_71 p0 p1 p2 p3 Q k3 v5 S)))))))))))
def w_X12_goes_3 (p0 : Int32) (p1 : Int32) (p2 : Int32) (p3 : Int32) (Q : Int32 → St → Prop) (v5 : Int32) (S : St) : Prop := ∃ n, lpn (fun _ _ => False) (b_X12_goes_3 p0 p1 p2 p3 Q) n v5 S
def w_X12_goes (p0 : Int32) (p1 : Int32) (p2 : Int32) (p3 : Int32) (S : St) (Q : Int32 → St → Prop) : Prop :=
 w_X12_goes_3 p0 p1 p2 p3 Q (0 : Int32) S
-- X12_gives
def b_X12_gives_11 (Q : Int64 → St → Prop) (k11 : Int32 → St → Prop) (v4 : Int32) (S : St) : Prop :=
 (if (12 : Int32) ≤ v4 then (∀ S47_1, S47_1 = sI S 0 64 (0 : Int32) → Q (1 : Int64) S47_1) else ((if gI S 0 64 = 0 then (∀ S47_2, S47_2 = sI S 0 64 (0 : Int32) → Q (1 : Int64) S47_2) else (vp_in v4 12 ∧ (vp_in v4 12 ∧ (∀ S38_3, S38_3 = sI S 40 v4.toNatClampNeg (gI S 39 v4.toNatClampNeg) → ∀ x39_4, x39_4 = v4 + (1 : Int32) → k11 x39_4 S38_3))))))
def w_X12_gives_11 (Q : Int64 → St → Prop) (v4 : Int32) (S : St) : Prop := ∃ n, lpn (fun _ _ => False) (b_X12_gives_11 Q) n v4 S
def b_X12_gives_76 (p0 : Int32) (p1 : Int32) (p2 : Int32) (rec : Int32 → Int32 → Int32 → St → (Int64 → St → Prop) → Prop) (Q : Int64 → St → Prop) (k76 : Int64 → Int32 → St → Prop) (v4 : Int64) (v6 : Int32) (S : St) : Prop :=
 (if gI S 0 15 ≤ v6 then (Q v4 S) else (w_X12_goes p0 v6 p1 (1 : Int32) S (fun r91_8 S91_7 => (if r91_8 = 0 then (∀ x136_9, x136_9 = v6 + (1 : Int32) → k76 v4 x136_9 S91_7) else (vp_in p0 12 ∧ (∀ S107_10, S107_10 = sI S91_7 39 p0.toNatClampNeg v6 → rec (p0 + (1 : Int32)) p1 p2 S107_10 (fun r116_12 S116_11 => ∀ x120_13, x120_13 = v4 + r116_12 → (if p2 = 0 then (∀ x136_14, x136_14 = v6 + (1 : Int32) → k76 x120_13 x136_14 S116_11) else ((if (0 : Int64) < x120_13 then (Q x120_13 S116_11) else (∀ x136_15, x136_15 = v6 + (1 : Int32) → k76 x120_13 x136_15 S116_11)))))))))))
def w_X12_gives_76 (p0 : Int32) (p1 : Int32) (p2 : Int32) (rec : Int32 → Int32 → Int32 → St → (Int64 → St → Prop) → Prop) (Q : Int64 → St → Prop) (v4 : Int64) (v6 : Int32) (S : St) : Prop := ∃ n, lpn (fun _ _ _ => False) (b_X12_gives_76 p0 p1 p2 rec Q) n v4 v6 S
def u_X12_gives (rec : Int32 → Int32 → Int32 → St → (Int64 → St → Prop) → Prop) (p0 : Int32) (p1 : Int32) (p2 : Int32) (S : St) (Q : Int64 → St → Prop) : Prop :=
 (if p0 = gI S 0 10 then (w_X12_gives_11 Q (0 : Int32) S) else ((if (p1 >>> (p0 &&& 31)) &&& (1 : Int32) = 0 then (rec (p0 + (1 : Int32)) p1 p2 S (fun r66_6 S66_5 => Q r66_6 S66_5)) else (w_X12_gives_76 p0 p1 p2 rec Q (0 : Int64) (0 : Int32) S))))
def w_X12_gives : Nat → Int32 → Int32 → Int32 → St → (Int64 → St → Prop) → Prop
  | 0 => fun _ _ _ _ _ => False
  | d + 1 => u_X12_gives (w_X12_gives d)
-- X12_waysFor
def w_X12_waysFor (p0 : Int32) (p1 : Int32) (S : St) (Q : Int64 → St → Prop) : Prop :=
 ∀ S2_1, S2_1 = sI S 0 64 (1 : Int32) → ∃ d9_4, d9_4 ≤ 32 ∧ w_X12_gives d9_4 (0 : Int32) p0 p1 S2_1 (fun r9_3 S9_2 => Q r9_3 S9_2)
-- X12_fills
def w_X12_fills (S : St) (Q : Int64 → St → Prop) : Prop :=
 ∀ S2_1, S2_1 = sI S 0 0 (0 : Int32) → (if gI S2_1 0 10 ≤ (7 : Int32) then (w_X12_neighbours S2_1 (fun S19_2 => w_X12_waysFor (((1 : Int32) <<< ((gI S19_2 0 10) &&& 31)) - (1 : Int32)) (0 : Int32) S19_2 (fun r32_4 S32_3 => Q r32_4 S32_3))) else (Q (-1 : Int64) S2_1))
-- X12_fill
def w_X12_fill (p0 : Int32) (S : St) (Q : Int32 → St → Prop) : Prop :=
 ∀ S2_1, S2_1 = sI S 0 0 (0 : Int32) → w_X12_isPlace p0 S2_1 (fun r7_3 S7_2 => (if r7_3 = 0 then (Q (-1 : Int32) S7_2) else ((if gI S7_2 0 10 ≤ (7 : Int32) then (w_X12_neighbours S7_2 (fun S25_4 => w_X12_waysFor (((1 : Int32) <<< ((gI S25_4 0 10) &&& 31)) - (1 : Int32)) (1 : Int32) S25_4 (fun r38_6 S38_5 => (if (0 : Int64) < r38_6 then (vp_in p0 12 ∧ (Q (gI S38_5 40 p0.toNatClampNeg) S38_5)) else (Q (-1 : Int32) S38_5))))) else (Q (-1 : Int32) S7_2)))))
-- X12_stuck
def w_X12_stuck_58 (p0 : Int32) (k33 : Int32 → Int32 → St → Prop) (v2 : Int32) (v3 : Int32) (S : St) : Prop :=
 w_X12_waysFor v3 (1 : Int32) S (fun r61_8 S61_7 => (if r61_8 = (0 : Int64) then (∀ x71_9, x71_9 = v3 + (1 : Int32) → k33 v3 x71_9 S61_7) else (∀ x71_10, x71_10 = v3 + (1 : Int32) → k33 v2 x71_10 S61_7)))
def b_X12_stuck_33 (p0 : Int32) (Q : Int32 → St → Prop) (k33 : Int32 → Int32 → St → Prop) (v2 : Int32) (v3 : Int32) (S : St) : Prop :=
 (if (1 : Int32) <<< ((gI S 0 10) &&& 31) ≤ v3 then ((if 0 ≤ v2 then ((if p0 = 0 then (w_X12_bits v2 S (fun r90_6 S90_5 => Q r90_6 S90_5)) else (Q v2 S))) else (Q (-1 : Int32) S))) else ((if v2 < 0 then (w_X12_stuck_58 p0 k33 v2 v3 S) else (w_X12_bits v3 S (fun r48_12 S48_11 => w_X12_bits v2 S48_11 (fun r52_14 S52_13 => (if r52_14 ≤ r48_12 then (∀ x71_15, x71_15 = v3 + (1 : Int32) → k33 v2 x71_15 S52_13) else (w_X12_stuck_58 p0 k33 v2 v3 S52_13))))))))
def w_X12_stuck_33 (p0 : Int32) (Q : Int32 → St → Prop) (v2 : Int32) (v3 : Int32) (S : St) : Prop := ∃ n, lpn (fun _ _ _ => False) (b_X12_stuck_33 p0 Q) n v2 v3 S
def w_X12_stuck (p0 : Int32) (S : St) (Q : Int32 → St → Prop) : Prop :=
 ∀ S2_1, S2_1 = sI S 0 0 (0 : Int32) → w_X12_within p0 (0 : Int32) (1 : Int32) S2_1 (fun r8_3 S8_2 => (if r8_3 = 0 then (Q (-1 : Int32) S8_2) else ((if gI S8_2 0 10 ≤ (7 : Int32) then (w_X12_neighbours S8_2 (fun S26_4 => w_X12_stuck_33 p0 Q (-1 : Int32) (1 : Int32) S26_4)) else (Q (-1 : Int32) S8_2)))))
-- X12_line
def w_X12_line (p0 : Int32) (p1 : Int32) (p2 : Int32) (S : St) (Q : Int32 → St → Prop) : Prop :=
 ∀ S2_1, S2_1 = sI S 0 0 (0 : Int32) → w_X12_isWordAt p0 S2_1 (fun r7_3 S7_2 => (if r7_3 = 0 then (Q (-1 : Int32) S7_2) else (w_X12_within p1 (0 : Int32) (999 : Int32) S7_2 (fun r18_5 S18_4 => (if r18_5 = 0 then (Q (-1 : Int32) S18_4) else (w_X12_within p2 (0 : Int32) (99 : Int32) S18_4 (fun r28_7 S28_6 => (if r28_7 = 0 then (Q (-1 : Int32) S28_6) else ((if gI S28_6 0 65 = (60 : Int32) then (Q (-1 : Int32) S28_6) else (vp_in (gI S28_6 0 65) 60 ∧ (∀ S54_8, S54_8 = sI S28_6 41 (gI S28_6 0 65).toNatClampNeg p0 → vp_in (gI S54_8 0 65) 60 ∧ (∀ S64_9, S64_9 = sI S54_8 42 (gI S54_8 0 65).toNatClampNeg p1 → vp_in (gI S64_9 0 65) 60 ∧ (∀ S74_10, S74_10 = sI S64_9 43 (gI S64_9 0 65).toNatClampNeg p2 → ∀ S82_11, S82_11 = sI S74_10 0 65 ((gI S74_10 0 65) + (1 : Int32)) → Q (gI S82_11 0 65) S82_11))))))))))))))
-- X12_clear
def w_X12_clear (S : St) (Q : Int32 → St → Prop) : Prop :=
 ∀ S2_1, S2_1 = sI S 0 0 (0 : Int32) → ∀ S7_2, S7_2 = sI S2_1 0 65 (0 : Int32) → Q (1 : Int32) S7_2
-- X12_wrongIn
def w_X12_wrongIn_196 (p0 : Int32) (Q : Int32 → St → Prop) (v3 : Int32) (v4 : Int32) (S : St) : Prop :=
 (if v3 ≤ 0 then (Q (0 : Int32) S) else (vp_in (p0 - (1 : Int32)) 60 ∧ (vp_in (((12 : Int32) * (gI S 41 (p0 - (1 : Int32)).toNatClampNeg)) + v4) 144 ∧ ((if gI S 9 (((12 : Int32) * (gI S 41 (p0 - (1 : Int32)).toNatClampNeg)) + v4).toNatClampNeg = 0 then (Q (0 : Int32) S) else (Q (5 : Int32) S))))))
def w_X12_wrongIn_174 (p0 : Int32) (Q : Int32 → St → Prop) (v3 : Int32) (v4 : Int32) (S : St) : Prop :=
 (if gI S 0 14 ≤ 0 then (w_X12_wrongIn_196 p0 Q v3 v4 S) else (vp_in p0 60 ∧ ((if gI S 43 p0.toNatClampNeg = gI S 0 14 then (w_X12_wrongIn_196 p0 Q v3 v4 S) else (Q (4 : Int32) S)))))
def w_X12_wrongIn_137 (p0 : Int32) (Q : Int32 → St → Prop) (v2 : Int32) (v3 : Int32) (v4 : Int32) (S : St) : Prop :=
 vp_in v3 12 ∧ ((if gI S 5 v3.toNatClampNeg ≤ 0 then (w_X12_wrongIn_174 p0 Q v3 v4 S) else (vp_in v3 12 ∧ (¬ gI S 5 v3.toNatClampNeg = 0 ∧ ((if v2 - v2 / (gI S 5 v3.toNatClampNeg) * (gI S 5 v3.toNatClampNeg) = 0 then (vp_in p0 60 ∧ (vp_in v3 60 ∧ ((if gI S 42 p0.toNatClampNeg = gI S 42 v3.toNatClampNeg then (w_X12_wrongIn_174 p0 Q v3 v4 S) else (Q (3 : Int32) S))))) else (w_X12_wrongIn_174 p0 Q v3 v4 S)))))))
def b_X12_wrongIn_81 (p0 : Int32) (Q : Int32 → St → Prop) (v2 : Int32) (v3 : Int32) (v4 : Int32) (k81 : Int32 → St → Prop) (v5 : Int32) (S : St) : Prop :=
 (if v3 ≤ v5 then (w_X12_wrongIn_137 p0 Q v2 v3 v4 S) else ((if v2 = 0 then (vp_in v5 12 ∧ (vp_in v3 12 ∧ ((if gI S 37 v5.toNatClampNeg = gI S 37 v3.toNatClampNeg then (vp_in v5 60 ∧ (vp_in (gI S 41 v5.toNatClampNeg) 12 ∧ (vp_in v4 12 ∧ ((if gI S 6 (gI S 41 v5.toNatClampNeg).toNatClampNeg = gI S 6 v4.toNatClampNeg then (∀ x131_4, x131_4 = v5 + (1 : Int32) → k81 x131_4 S) else (Q (2 : Int32) S)))))) else (∀ x131_5, x131_5 = v5 + (1 : Int32) → k81 x131_5 S))))) else (w_X12_wrongIn_137 p0 Q v2 v3 v4 S))))
def w_X12_wrongIn_81 (p0 : Int32) (Q : Int32 → St → Prop) (v2 : Int32) (v3 : Int32) (v4 : Int32) (v5 : Int32) (S : St) : Prop := ∃ n, lpn (fun _ _ => False) (b_X12_wrongIn_81 p0 Q v2 v3 v4) n v5 S
def b_X12_wrongIn_48 (p0 : Int32) (Q : Int32 → St → Prop) (v2 : Int32) (v3 : Int32) (v4 : Int32) (k48 : Int32 → St → Prop) (v5 : Int32) (S : St) : Prop :=
 (if v3 ≤ v5 then (w_X12_wrongIn_81 p0 Q v2 v3 v4 (0 : Int32) S) else ((if v2 = 0 then (vp_in v5 60 ∧ ((if gI S 41 v5.toNatClampNeg = v4 then (Q (1 : Int32) S) else (∀ x72_6, x72_6 = v5 + (1 : Int32) → k48 x72_6 S)))) else (w_X12_wrongIn_81 p0 Q v2 v3 v4 (0 : Int32) S))))
def w_X12_wrongIn_48 (p0 : Int32) (Q : Int32 → St → Prop) (v2 : Int32) (v3 : Int32) (v4 : Int32) (v5 : Int32) (S : St) : Prop := ∃ n, lpn (fun _ _ => False) (b_X12_wrongIn_48 p0 Q v2 v3 v4) n v5 S
def w_X12_wrongIn (p0 : Int32) (S : St) (Q : Int32 → St → Prop) : Prop :=
 ¬ gI S 0 10 = 0 ∧ (∀ x6_1, x6_1 = p0 / (gI S 0 10) → ¬ gI S 0 10 = 0 ∧ (∀ x13_2, x13_2 = p0 - p0 / (gI S 0 10) * (gI S 0 10) → vp_in p0 60 ∧ (∀ x20_3, x20_3 = gI S 41 p0.toNatClampNeg → (if x6_1 ≤ 0 then (w_X12_wrongIn_48 p0 Q x6_1 x13_2 x20_3 (0 : Int32) S) else (w_X12_endAt ((x6_1).toInt64) x13_2 S (fun r34_8 S34_7 => vp_in r34_8 60 ∧ ((if gI S34_7 41 r34_8.toNatClampNeg = x20_3 then (w_X12_wrongIn_48 p0 Q x6_1 x13_2 x20_3 (0 : Int32) S34_7) else (Q (1 : Int32) S34_7)))))))))
-- X12_judged
def b_X12_judged_34 (p0 : Int32) (Q : Int32 → St → Prop) (k34 : Int32 → St → Prop) (v2 : Int32) (S : St) : Prop :=
 (if gI S 0 65 ≤ v2 then ((if p0 = 0 then (Q (-1 : Int32) S) else (Q (0 : Int32) S))) else (w_X12_wrongIn v2 S (fun r44_6 S44_5 => (if r44_6 ≤ 0 then (∀ x62_7, x62_7 = v2 + (1 : Int32) → k34 x62_7 S44_5) else ((if p0 = 0 then (Q v2 S44_5) else (Q r44_6 S44_5)))))))
def w_X12_judged_34 (p0 : Int32) (Q : Int32 → St → Prop) (v2 : Int32) (S : St) : Prop := ∃ n, lpn (fun _ _ => False) (b_X12_judged_34 p0 Q) n v2 S
def w_X12_judged_15 (p0 : Int32) (Q : Int32 → St → Prop) (t0 : Int32) (S : St) : Prop :=
 ∀ S15_3, S15_3 = sI S 0 0 t0 → (if gI S15_3 0 0 = (1 : Int32) then (Q (0 : Int32) S15_3) else (w_X12_classes S15_3 (fun S29_4 => w_X12_judged_34 p0 Q (0 : Int32) S29_4)))
def w_X12_judged (p0 : Int32) (S : St) (Q : Int32 → St → Prop) : Prop :=
 w_X12_within p0 (0 : Int32) (1 : Int32) S (fun r4_2 S4_1 => (if r4_2 = 0 then (w_X12_judged_15 p0 Q (1 : Int32) S4_1) else (w_X12_judged_15 p0 Q (0 : Int32) S4_1)))
-- X12_mends
def b_X12_mends_24 (Q : St → Prop) (k24 : Int32 → St → Prop) (v3 : Int32) (S : St) : Prop :=
 (if (12 : Int32) ≤ v3 then (Q S) else (vp_in v3 12 ∧ (vp_in v3 12 ∧ (∀ S41_2, S41_2 = sI S 40 v3.toNatClampNeg (gI S 39 v3.toNatClampNeg) → ∀ x42_3, x42_3 = v3 + (1 : Int32) → k24 x42_3 S41_2))))
def w_X12_mends_24 (Q : St → Prop) (v3 : Int32) (S : St) : Prop := ∃ n, lpn (fun _ _ => False) (b_X12_mends_24 Q) n v3 S
def b_X12_mends_51 (p0 : Int32) (p1 : Int32) (rec : Int32 → Int32 → St → (St → Prop) → Prop) (Q : St → Prop) (k51 : Int32 → St → Prop) (v3 : Int32) (S : St) : Prop :=
 (if gI S 0 15 ≤ v3 then (Q S) else (w_X12_goes p0 v3 (((1 : Int32) <<< (p0 &&& 31)) - (1 : Int32)) (0 : Int32) S (fun r68_5 S68_4 => (if r68_5 = 0 then (∀ x104_6, x104_6 = v3 + (1 : Int32) → k51 x104_6 S68_4) else (vp_in p0 12 ∧ (∀ S83_7, S83_7 = sI S68_4 39 p0.toNatClampNeg v3 → vp_in (((12 : Int32) * p0) + v3) 144 ∧ (rec (p0 + (1 : Int32)) (p1 + (gI S83_7 44 (((12 : Int32) * p0) + v3).toNatClampNeg)) S83_7 (fun S101_8 => ∀ x104_9, x104_9 = v3 + (1 : Int32) → k51 x104_9 S101_8))))))))
def w_X12_mends_51 (p0 : Int32) (p1 : Int32) (rec : Int32 → Int32 → St → (St → Prop) → Prop) (Q : St → Prop) (v3 : Int32) (S : St) : Prop := ∃ n, lpn (fun _ _ => False) (b_X12_mends_51 p0 p1 rec Q) n v3 S
def u_X12_mends (rec : Int32 → Int32 → St → (St → Prop) → Prop) (p0 : Int32) (p1 : Int32) (S : St) (Q : St → Prop) : Prop :=
 (if p1 < gI S 0 70 then ((if p0 = gI S 0 10 then (∀ S19_1, S19_1 = sI S 0 70 p1 → w_X12_mends_24 Q (0 : Int32) S19_1) else (w_X12_mends_51 p0 p1 rec Q (0 : Int32) S))) else (Q S))
def w_X12_mends : Nat → Int32 → Int32 → St → (St → Prop) → Prop
  | 0 => fun _ _ _ _ => False
  | d + 1 => u_X12_mends (w_X12_mends d)
-- X12_hasMended
def w_X12_hasMended_102 (k67 : Int32 → St → Prop) (v1 : Int32) (v2 : Int32) (v3 : Int32) (t0 : Int32) (t1 : Int32) (t2 : Int32) (S : St) : Prop :=
 vp_in t2 144 ∧ (∀ S103_8, S103_8 = sI S 44 t2.toNatClampNeg (t1 + t0) → ∀ x104_9, x104_9 = v3 + (1 : Int32) → k67 x104_9 S103_8)
def b_X12_hasMended_67 (k39 : Int32 → St → Prop) (v1 : Int32) (v2 : Int32) (k67 : Int32 → St → Prop) (v3 : Int32) (S : St) : Prop :=
 (if gI S 0 15 ≤ v3 then (∀ x110_7, x110_7 = v1 + (1 : Int32) → k39 x110_7 S) else (vp_in (((12 : Int32) * v2) + v3) 144 ∧ (vp_in v1 60 ∧ ((if v3 = gI S 41 v1.toNatClampNeg then (w_X12_hasMended_102 k67 v1 v2 v3 (0 : Int32) (gI S 44 (((12 : Int32) * v2) + v3).toNatClampNeg) (((12 : Int32) * v2) + v3) S) else (w_X12_hasMended_102 k67 v1 v2 v3 (1 : Int32) (gI S 44 (((12 : Int32) * v2) + v3).toNatClampNeg) (((12 : Int32) * v2) + v3) S))))))
def w_X12_hasMended_67 (k39 : Int32 → St → Prop) (v1 : Int32) (v2 : Int32) (v3 : Int32) (S : St) : Prop := ∃ n, lpn (fun _ _ => False) (b_X12_hasMended_67 k39 v1 v2) n v3 S
def b_X12_hasMended_39 (Q : Int32 → St → Prop) (k39 : Int32 → St → Prop) (v1 : Int32) (S : St) : Prop :=
 (if gI S 0 65 ≤ v1 then (∀ S120_2, S120_2 = sI S 0 70 (1000 : Int32) → ∃ d126_4, d126_4 ≤ 32 ∧ w_X12_mends d126_4 (0 : Int32) (0 : Int32) S120_2 (fun S126_3 => (if (1000 : Int32) ≤ gI S126_3 0 70 then (Q (0 : Int32) S126_3) else (Q (1 : Int32) S126_3)))) else (¬ gI S 0 10 = 0 ∧ (¬ gI S 0 10 = 0 ∧ (w_X12_endAt ((v1 / (gI S 0 10)).toInt64) (v1 - v1 / (gI S 0 10) * (gI S 0 10)) S (fun r61_6 S61_5 => w_X12_hasMended_67 k39 v1 r61_6 (0 : Int32) S61_5)))))
def w_X12_hasMended_39 (Q : Int32 → St → Prop) (v1 : Int32) (S : St) : Prop := ∃ n, lpn (fun _ _ => False) (b_X12_hasMended_39 Q) n v1 S
def b_X12_hasMended_17 (Q : Int32 → St → Prop) (k17 : Int32 → St → Prop) (v1 : Int32) (S : St) : Prop :=
 (if (144 : Int32) ≤ v1 then (w_X12_hasMended_39 Q (0 : Int32) S) else (vp_in v1 144 ∧ (∀ S30_10, S30_10 = sI S 44 v1.toNatClampNeg (0 : Int32) → ∀ x31_11, x31_11 = v1 + (1 : Int32) → k17 x31_11 S30_10)))
def w_X12_hasMended_17 (Q : Int32 → St → Prop) (v1 : Int32) (S : St) : Prop := ∃ n, lpn (fun _ _ => False) (b_X12_hasMended_17 Q) n v1 S
def w_X12_hasMended (S : St) (Q : Int32 → St → Prop) : Prop :=
 (if gI S 0 10 ≤ (7 : Int32) then (w_X12_classes S (fun S12_1 => w_X12_hasMended_17 Q (0 : Int32) S12_1)) else (Q (0 : Int32) S))
-- X12_mend
def w_X12_mend (S : St) (Q : Int32 → St → Prop) : Prop :=
 ∀ S2_1, S2_1 = sI S 0 0 (0 : Int32) → w_X12_hasMended S2_1 (fun r6_3 S6_2 => (if r6_3 = 0 then (Q (-1 : Int32) S6_2) else (Q (gI S6_2 0 70) S6_2)))
-- X12_mended
def w_X12_mended (p0 : Int32) (S : St) (Q : Int32 → St → Prop) : Prop :=
 ∀ S2_1, S2_1 = sI S 0 0 (0 : Int32) → w_X12_isPlace p0 S2_1 (fun r7_3 S7_2 => (if r7_3 = 0 then (Q (-1 : Int32) S7_2) else (w_X12_hasMended S7_2 (fun r14_5 S14_4 => (if r14_5 = 0 then (Q (-1 : Int32) S14_4) else (vp_in p0 12 ∧ (Q (gI S14_4 40 p0.toNatClampNeg) S14_4)))))))
-- X12_keeps
def w_X12_keeps (p0 : Int32) (p1 : Int32) (S : St) (Q : Int32 → St → Prop) : Prop :=
 ∀ x4_1, x4_1 = gI S 0 73 → ∀ S12_2, S12_2 = sI S 0 73 ((gI S 0 73) + (1 : Int32)) → (if p1 = 0 then (vp_in x4_1 2000 ∧ (∀ S32_3, S32_3 = sI S12_2 46 x4_1.toNatClampNeg p0 → Q p0 S32_3)) else (vp_in x4_1 2000 ∧ (Q (gI S12_2 46 x4_1.toNatClampNeg) S12_2)))
-- X12_keepsRow
def b_X12_keepsRow_3 (p0 : Nat) (p1 : Int32) (p2 : Int32) (Q : St → Prop) (k3 : Int32 → St → Prop) (v4 : Int32) (S : St) : Prop :=
 (if p1 ≤ v4 then (Q S) else (vp_in v4 (lnM p0) ∧ (w_X12_keeps (gI S p0 v4.toNatClampNeg) p2 S (fun r18_2 S18_1 => vp_in v4 (lnM p0) ∧ (∀ S21_3, S21_3 = sI S18_1 p0 v4.toNatClampNeg r18_2 → ∀ x22_4, x22_4 = v4 + (1 : Int32) → k3 x22_4 S21_3)))))
def w_X12_keepsRow_3 (p0 : Nat) (p1 : Int32) (p2 : Int32) (Q : St → Prop) (v4 : Int32) (S : St) : Prop := ∃ n, lpn (fun _ _ => False) (b_X12_keepsRow_3 p0 p1 p2 Q) n v4 S
def w_X12_keepsRow (p0 : Nat) (p1 : Int32) (p2 : Int32) (S : St) (Q : St → Prop) : Prop :=
 w_X12_keepsRow_3 p0 p1 p2 Q (0 : Int32) S
-- X12_mark
def w_X12_mark_301 (p1 : Int32) (k261 : Int32 → St → Prop) (v3 : Int32) (t0 : Int32) (t1 : Int32) (S : St) : Prop :=
 vp_in t1 144 ∧ ((t0 = 0 ∨ t0 = 1) ∧ (∀ S301_42, S301_42 = sI S 9 t1.toNatClampNeg t0 → ∀ x302_43, x302_43 = v3 + (1 : Int32) → k261 x302_43 S301_42))
def w_X12_mark_288 (p1 : Int32) (k261 : Int32 → St → Prop) (v3 : Int32) (t0 : Int32) (t2 : Int32) (S : St) : Prop :=
 w_X12_keeps t0 p1 S (fun r289_41 S289_40 => (if r289_41 = (1 : Int32) then (w_X12_mark_301 p1 k261 v3 (1 : Int32) t2 S289_40) else (w_X12_mark_301 p1 k261 v3 (0 : Int32) t2 S289_40)))
def b_X12_mark_261 (p1 : Int32) (Q : Int32 → St → Prop) (k261 : Int32 → St → Prop) (v3 : Int32) (S : St) : Prop :=
 (if (144 : Int32) ≤ v3 then (Q (1 : Int32) S) else (vp_in v3 144 ∧ ((if gI S 9 v3.toNatClampNeg = 0 then (w_X12_mark_288 p1 k261 v3 (0 : Int32) v3 S) else (w_X12_mark_288 p1 k261 v3 (1 : Int32) v3 S)))))
def w_X12_mark_261 (p1 : Int32) (Q : Int32 → St → Prop) (v3 : Int32) (S : St) : Prop := ∃ n, lpn (fun _ _ => False) (b_X12_mark_261 p1 Q) n v3 S
def w_X12_mark_29 (p0 : Int32) (p1 : Int32) (Q : Int32 → St → Prop) (S : St) : Prop :=
 vp_in p0 4 ∧ (∀ S35_4, S35_4 = sI S 45 p0.toNatClampNeg (1 : Int32) → ∀ S42_5, S42_5 = sI S35_4 0 73 ((500 : Int32) * p0) → w_X12_keeps (gI S42_5 0 10) p1 S42_5 (fun r52_7 S52_6 => ∀ S55_8, S55_8 = sI S52_6 0 10 r52_7 → w_X12_keeps (gI S55_8 0 12) p1 S55_8 (fun r65_10 S65_9 => ∀ S68_11, S68_11 = sI S65_9 0 12 r65_10 → w_X12_keepsRow 2 (12 : Int32) p1 S68_11 (fun S79_12 => w_X12_keepsRow 5 (12 : Int32) p1 S79_12 (fun S90_13 => w_X12_keepsRow 3 (8 : Int32) p1 S90_13 (fun S101_14 => w_X12_keepsRow 4 (8 : Int32) p1 S101_14 (fun S112_15 => w_X12_keeps (gI S112_15 0 11) p1 S112_15 (fun r122_17 S122_16 => ∀ S125_18, S125_18 = sI S122_16 0 11 r122_17 → w_X12_keeps (gI S125_18 0 13) p1 S125_18 (fun r135_20 S135_19 => ∀ S138_21, S138_21 = sI S135_19 0 13 r135_20 → w_X12_keeps (gI S138_21 0 14) p1 S138_21 (fun r148_23 S148_22 => ∀ S151_24, S151_24 = sI S148_22 0 14 r148_23 → w_X12_keeps (gI S151_24 0 15) p1 S151_24 (fun r161_26 S161_25 => ∀ S164_27, S164_27 = sI S161_25 0 15 r161_26 → w_X12_keeps (gI S164_27 0 16) p1 S164_27 (fun r174_29 S174_28 => ∀ S177_30, S177_30 = sI S174_28 0 16 r174_29 → w_X12_keeps (gI S177_30 0 65) p1 S177_30 (fun r187_32 S187_31 => ∀ S190_33, S190_33 = sI S187_31 0 65 r187_32 → w_X12_keepsRow 6 (12 : Int32) p1 S190_33 (fun S201_34 => w_X12_keepsRow 7 (12 : Int32) p1 S201_34 (fun S212_35 => w_X12_keepsRow 8 (12 : Int32) p1 S212_35 (fun S223_36 => w_X12_keepsRow 41 (60 : Int32) p1 S223_36 (fun S234_37 => w_X12_keepsRow 42 (60 : Int32) p1 S234_37 (fun S245_38 => w_X12_keepsRow 43 (60 : Int32) p1 S245_38 (fun S256_39 => w_X12_mark_261 p1 Q (0 : Int32) S256_39)))))))))))))))))))
def w_X12_mark (p0 : Int32) (p1 : Int32) (S : St) (Q : Int32 → St → Prop) : Prop :=
 ∀ S2_1, S2_1 = sI S 0 0 (0 : Int32) → w_X12_within p0 (0 : Int32) (3 : Int32) S2_1 (fun r8_3 S8_2 => (if r8_3 = 0 then (Q (0 : Int32) S8_2) else ((if p1 = 0 then (w_X12_mark_29 p0 p1 Q S8_2) else (vp_in p0 4 ∧ ((if gI S8_2 45 p0.toNatClampNeg = 0 then (Q (0 : Int32) S8_2) else (w_X12_mark_29 p0 p1 Q S8_2))))))))
-- X12_isPair
def w_X12_isPair_30 (p0 : Int32) (p1 : Int32) (Q : Int32 → St → Prop) (k2 : Int32 → St → Prop) (v3 : Int32) (S : St) : Prop :=
 vp_in v3 8 ∧ ((if gI S 3 v3.toNatClampNeg = p1 then (vp_in v3 8 ∧ ((if gI S 4 v3.toNatClampNeg = p0 then (Q (1 : Int32) S) else (∀ x52_1, x52_1 = v3 + (1 : Int32) → k2 x52_1 S)))) else (∀ x52_2, x52_2 = v3 + (1 : Int32) → k2 x52_2 S)))
def b_X12_isPair_2 (p0 : Int32) (p1 : Int32) (Q : Int32 → St → Prop) (k2 : Int32 → St → Prop) (v3 : Int32) (S : St) : Prop :=
 (if gI S 0 12 ≤ v3 then (Q (0 : Int32) S) else (vp_in v3 8 ∧ ((if gI S 3 v3.toNatClampNeg = p0 then (vp_in v3 8 ∧ ((if gI S 4 v3.toNatClampNeg = p1 then (Q (1 : Int32) S) else (w_X12_isPair_30 p0 p1 Q k2 v3 S)))) else (w_X12_isPair_30 p0 p1 Q k2 v3 S)))))
def w_X12_isPair_2 (p0 : Int32) (p1 : Int32) (Q : Int32 → St → Prop) (v3 : Int32) (S : St) : Prop := ∃ n, lpn (fun _ _ => False) (b_X12_isPair_2 p0 p1 Q) n v3 S
def w_X12_isPair (p0 : Int32) (p1 : Int32) (S : St) (Q : Int32 → St → Prop) : Prop :=
 w_X12_isPair_2 p0 p1 Q (0 : Int32) S
-- X12_isPairOn
def w_X12_isPairOn_56 (p0 : Int32) (p1 : Int32) (p2 : Int32) (Q : Int32 → St → Prop) (k3 : Int32 → St → Prop) (v4 : Int32) (v5 : Int32) (v6 : Int32) (S : St) : Prop :=
 (if v5 = p2 then ((if v6 = p1 then (Q (1 : Int32) S) else (∀ x70_3, x70_3 = v4 + (1 : Int32) → k3 x70_3 S))) else (∀ x70_4, x70_4 = v4 + (1 : Int32) → k3 x70_4 S))
def b_X12_isPairOn_3 (p0 : Int32) (p1 : Int32) (p2 : Int32) (Q : Int32 → St → Prop) (k3 : Int32 → St → Prop) (v4 : Int32) (S : St) : Prop :=
 vp_in (p0 + (1 : Int32)) 2000 ∧ ((if gI S 46 (p0 + (1 : Int32)).toNatClampNeg ≤ v4 then (Q (0 : Int32) S) else (vp_in ((p0 + (26 : Int32)) + v4) 2000 ∧ (∀ x28_1, x28_1 = gI S 46 ((p0 + (26 : Int32)) + v4).toNatClampNeg → vp_in ((p0 + (34 : Int32)) + v4) 2000 ∧ (∀ x42_2, x42_2 = gI S 46 ((p0 + (34 : Int32)) + v4).toNatClampNeg → (if x28_1 = p1 then ((if x42_2 = p2 then (Q (1 : Int32) S) else (w_X12_isPairOn_56 p0 p1 p2 Q k3 v4 x28_1 x42_2 S))) else (w_X12_isPairOn_56 p0 p1 p2 Q k3 v4 x28_1 x42_2 S)))))))
def w_X12_isPairOn_3 (p0 : Int32) (p1 : Int32) (p2 : Int32) (Q : Int32 → St → Prop) (v4 : Int32) (S : St) : Prop := ∃ n, lpn (fun _ _ => False) (b_X12_isPairOn_3 p0 p1 p2 Q) n v4 S
def w_X12_isPairOn (p0 : Int32) (p1 : Int32) (p2 : Int32) (S : St) (Q : Int32 → St → Prop) : Prop :=
 w_X12_isPairOn_3 p0 p1 p2 Q (0 : Int32) S
-- X12_friends
def w_X12_friends_54 (p0 : Int32) (p1 : Int32) (k5 : Int32 → Int32 → St → Prop) (v4 : Int32) (t0 : Int32) (t1 : Int32) (S : St) : Prop :=
 ∀ x55_1, x55_1 = t1 + t0 → ∀ x56_2, x56_2 = v4 + (1 : Int32) → k5 x55_1 x56_2 S
def w_X12_friends_53 (p0 : Int32) (p1 : Int32) (k5 : Int32 → Int32 → St → Prop) (v4 : Int32) (t0 : Int32) (S : St) : Prop :=
 w_X12_friends_54 p0 p1 k5 v4 (0 : Int32) t0 S
def w_X12_friends_49 (p0 : Int32) (p1 : Int32) (k5 : Int32 → Int32 → St → Prop) (v4 : Int32) (t0 : Int32) (S : St) : Prop :=
 w_X12_friends_54 p0 p1 k5 v4 (1 : Int32) t0 S
def b_X12_friends_5 (p0 : Int32) (p1 : Int32) (Q : Int32 → St → Prop) (k5 : Int32 → Int32 → St → Prop) (v3 : Int32) (v4 : Int32) (S : St) : Prop :=
 (if gI S 0 10 ≤ v4 then (Q v3 S) else ((if v4 = p1 then (w_X12_friends_53 p0 p1 k5 v4 v3 S) else ((if 0 ≤ p0 then (w_X12_isPairOn p0 p1 v4 S (fun r43_4 S43_3 => (if r43_4 = 0 then (w_X12_friends_53 p0 p1 k5 v4 v3 S43_3) else (w_X12_friends_49 p0 p1 k5 v4 v3 S43_3)))) else (w_X12_isPair p1 v4 S (fun r29_6 S29_5 => (if r29_6 = 0 then (w_X12_friends_53 p0 p1 k5 v4 v3 S29_5) else (w_X12_friends_49 p0 p1 k5 v4 v3 S29_5)))))))))
def w_X12_friends_5 (p0 : Int32) (p1 : Int32) (Q : Int32 → St → Prop) (v3 : Int32) (v4 : Int32) (S : St) : Prop := ∃ n, lpn (fun _ _ _ => False) (b_X12_friends_5 p0 p1 Q) n v3 v4 S
def w_X12_friends (p0 : Int32) (p1 : Int32) (S : St) (Q : Int32 → St → Prop) : Prop :=
 w_X12_friends_5 p0 p1 Q (0 : Int32) (0 : Int32) S
-- X12_mayBe
def w_X12_mayBe_204 (p0 : Int32) (p1 : Int32) (p2 : Int32) (Q : Int32 → St → Prop) (k77 : Int32 → St → Prop) (v4 : Int32) (t0 : Int32) (t1 : Int32) (S : St) : Prop :=
 (if t1 = t0 then (∀ x209_9, x209_9 = v4 + (1 : Int32) → k77 x209_9 S) else (Q (0 : Int32) S))
def w_X12_mayBe_179 (p0 : Int32) (p1 : Int32) (p2 : Int32) (Q : Int32 → St → Prop) (k77 : Int32 → St → Prop) (v4 : Int32) (t0 : Int32) (S : St) : Prop :=
 vp_in v4 12 ∧ (vp_in ((p0 + (2 : Int32)) + (gI S 47 v4.toNatClampNeg)) 2000 ∧ ((if gI S 46 ((p0 + (2 : Int32)) + (gI S 47 v4.toNatClampNeg)).toNatClampNeg = p2 then (w_X12_mayBe_204 p0 p1 p2 Q k77 v4 (1 : Int32) t0 S) else (w_X12_mayBe_204 p0 p1 p2 Q k77 v4 (0 : Int32) t0 S))))
def w_X12_mayBe_160 (p0 : Int32) (p1 : Int32) (p2 : Int32) (Q : Int32 → St → Prop) (k77 : Int32 → St → Prop) (v4 : Int32) (t0 : Int32) (t1 : Int32) (S : St) : Prop :=
 (if t1 = t0 then (vp_in v4 12 ∧ ((if gI S 2 v4.toNatClampNeg = p1 then (w_X12_mayBe_179 p0 p1 p2 Q k77 v4 (1 : Int32) S) else (w_X12_mayBe_179 p0 p1 p2 Q k77 v4 (0 : Int32) S)))) else (Q (0 : Int32) S))
def w_X12_mayBe_135 (p0 : Int32) (p1 : Int32) (p2 : Int32) (Q : Int32 → St → Prop) (k77 : Int32 → St → Prop) (v4 : Int32) (t0 : Int32) (S : St) : Prop :=
 vp_in ((p0 + (2 : Int32)) + p2) 2000 ∧ (vp_in v4 12 ∧ ((if gI S 46 ((p0 + (2 : Int32)) + p2).toNatClampNeg = gI S 47 v4.toNatClampNeg then (w_X12_mayBe_160 p0 p1 p2 Q k77 v4 (1 : Int32) t0 S) else (w_X12_mayBe_160 p0 p1 p2 Q k77 v4 (0 : Int32) t0 S))))
def b_X12_mayBe_77 (p0 : Int32) (p1 : Int32) (p2 : Int32) (Q : Int32 → St → Prop) (k77 : Int32 → St → Prop) (v4 : Int32) (S : St) : Prop :=
 (if p1 ≤ v4 then (Q (1 : Int32) S) else (vp_in v4 12 ∧ ((if gI S 47 v4.toNatClampNeg = p2 then (Q (0 : Int32) S) else (w_X12_isPair v4 p1 S (fun r98_6 S98_5 => vp_in v4 12 ∧ (w_X12_isPairOn p0 (gI S98_5 47 v4.toNatClampNeg) p2 S98_5 (fun r111_8 S111_7 => (if r98_6 = r111_8 then (vp_in p1 12 ∧ ((if gI S111_7 2 p1.toNatClampNeg = v4 then (w_X12_mayBe_135 p0 p1 p2 Q k77 v4 (1 : Int32) S111_7) else (w_X12_mayBe_135 p0 p1 p2 Q k77 v4 (0 : Int32) S111_7)))) else (Q (0 : Int32) S111_7))))))))))
def w_X12_mayBe_77 (p0 : Int32) (p1 : Int32) (p2 : Int32) (Q : Int32 → St → Prop) (v4 : Int32) (S : St) : Prop := ∃ n, lpn (fun _ _ => False) (b_X12_mayBe_77 p0 p1 p2 Q) n v4 S
def w_X12_mayBe_69 (p0 : Int32) (p1 : Int32) (p2 : Int32) (Q : Int32 → St → Prop) (t0 : Int32) (t1 : Int32) (S : St) : Prop :=
 (if t1 = t0 then (w_X12_mayBe_77 p0 p1 p2 Q (0 : Int32) S) else (Q (0 : Int32) S))
def w_X12_mayBe_50 (p0 : Int32) (p1 : Int32) (p2 : Int32) (Q : Int32 → St → Prop) (t0 : Int32) (S : St) : Prop :=
 vp_in ((p0 + (2 : Int32)) + p2) 2000 ∧ ((if gI S 46 ((p0 + (2 : Int32)) + p2).toNatClampNeg = p2 then (w_X12_mayBe_69 p0 p1 p2 Q (1 : Int32) t0 S) else (w_X12_mayBe_69 p0 p1 p2 Q (0 : Int32) t0 S)))
def w_X12_mayBe (p0 : Int32) (p1 : Int32) (p2 : Int32) (S : St) (Q : Int32 → St → Prop) : Prop :=
 vp_in p1 12 ∧ (vp_in ((p0 + (14 : Int32)) + p2) 2000 ∧ ((if gI S 5 p1.toNatClampNeg = gI S 46 ((p0 + (14 : Int32)) + p2).toNatClampNeg then (w_X12_friends (-1 : Int32) p1 S (fun r23_2 S23_1 => w_X12_friends p0 p2 S23_1 (fun r29_4 S29_3 => (if r23_2 = r29_4 then (vp_in p1 12 ∧ ((if gI S29_3 2 p1.toNatClampNeg = p1 then (w_X12_mayBe_50 p0 p1 p2 Q (1 : Int32) S29_3) else (w_X12_mayBe_50 p0 p1 p2 Q (0 : Int32) S29_3)))) else (Q (0 : Int32) S29_3))))) else (Q (0 : Int32) S))))
-- X12_names
def b_X12_names_12 (p0 : Int32) (p1 : Int32) (rec : Int32 → Int32 → St → (Int32 → St → Prop) → Prop) (Q : Int32 → St → Prop) (k12 : Int32 → St → Prop) (v3 : Int32) (S : St) : Prop :=
 (if gI S 0 10 ≤ v3 then (Q (0 : Int32) S) else (w_X12_mayBe p0 p1 v3 S (fun r24_2 S24_1 => (if r24_2 = 0 then (∀ x53_3, x53_3 = v3 + (1 : Int32) → k12 x53_3 S24_1) else (vp_in p1 12 ∧ (∀ S39_4, S39_4 = sI S24_1 47 p1.toNatClampNeg v3 → rec p0 (p1 + (1 : Int32)) S39_4 (fun r45_6 S45_5 => (if r45_6 = 0 then (∀ x53_7, x53_7 = v3 + (1 : Int32) → k12 x53_7 S45_5) else (Q (1 : Int32) S45_5)))))))))
def w_X12_names_12 (p0 : Int32) (p1 : Int32) (rec : Int32 → Int32 → St → (Int32 → St → Prop) → Prop) (Q : Int32 → St → Prop) (v3 : Int32) (S : St) : Prop := ∃ n, lpn (fun _ _ => False) (b_X12_names_12 p0 p1 rec Q) n v3 S
def u_X12_names (rec : Int32 → Int32 → St → (Int32 → St → Prop) → Prop) (p0 : Int32) (p1 : Int32) (S : St) (Q : Int32 → St → Prop) : Prop :=
 (if p1 = gI S 0 10 then (Q (1 : Int32) S) else (w_X12_names_12 p0 p1 rec Q (0 : Int32) S))
def w_X12_names : Nat → Int32 → Int32 → St → (Int32 → St → Prop) → Prop
  | 0 => fun _ _ _ _ => False
  | d + 1 => u_X12_names (w_X12_names d)
-- X12_areSame
def w_X12_areSame (p0 : Int32) (S : St) (Q : Int32 → St → Prop) : Prop :=
 vp_in ((500 : Int32) * p0) 2000 ∧ ((if gI S 46 ((500 : Int32) * p0).toNatClampNeg = gI S 0 10 then (∃ d24_3, d24_3 ≤ 32 ∧ w_X12_names d24_3 ((500 : Int32) * p0) (0 : Int32) S (fun r24_2 S24_1 => (if r24_2 = 0 then (Q (0 : Int32) S24_1) else (Q (1 : Int32) S24_1)))) else (Q (0 : Int32) S)))
-- X12_same
def w_X12_same (p0 : Int32) (S : St) (Q : Int32 → St → Prop) : Prop :=
 ∀ S2_1, S2_1 = sI S 0 0 (0 : Int32) → w_X12_within p0 (0 : Int32) (3 : Int32) S2_1 (fun r8_3 S8_2 => (if r8_3 = 0 then (Q (-1 : Int32) S8_2) else (vp_in p0 4 ∧ ((if gI S8_2 45 p0.toNatClampNeg = 0 then (Q (-1 : Int32) S8_2) else (w_X12_areSame p0 S8_2 (fun r25_5 S25_4 => (if r25_5 = 0 then (Q (0 : Int32) S25_4) else (Q (1 : Int32) S25_4)))))))))
-- X12_renamed
def w_X12_renamed (p0 : Int32) (p1 : Int32) (S : St) (Q : Int32 → St → Prop) : Prop :=
 ∀ S2_1, S2_1 = sI S 0 0 (0 : Int32) → w_X12_within p0 (0 : Int32) (3 : Int32) S2_1 (fun r8_3 S8_2 => (if r8_3 = 0 then (Q (-1 : Int32) S8_2) else (vp_in p0 4 ∧ ((if gI S8_2 45 p0.toNatClampNeg = 0 then (Q (-1 : Int32) S8_2) else (w_X12_isPlace p1 S8_2 (fun r25_5 S25_4 => (if r25_5 = 0 then (Q (-1 : Int32) S25_4) else (w_X12_areSame p0 S25_4 (fun r33_7 S33_6 => (if r33_7 = 0 then (Q (-1 : Int32) S33_6) else (vp_in p1 12 ∧ (Q (gI S33_6 47 p1.toNatClampNeg) S33_6)))))))))))))
-- X12_count
def w_X12_count (p0 : Int32) (S : St) (Q : Int32 → St → Prop) : Prop :=
 ∀ S2_1, S2_1 = sI S 0 0 (0 : Int32) → w_X12_within p0 (0 : Int32) (8 : Int32) S2_1 (fun r9_3 S9_2 => (if r9_3 = 0 then (Q (-1 : Int32) S9_2) else ((if p0 = 0 then (Q (gI S9_2 0 10) S9_2) else ((if p0 = (1 : Int32) then (Q (gI S9_2 0 11) S9_2) else ((if p0 = (2 : Int32) then (Q (gI S9_2 0 12) S9_2) else ((if p0 = (3 : Int32) then (Q (gI S9_2 0 13) S9_2) else ((if p0 = (4 : Int32) then (Q (gI S9_2 0 14) S9_2) else ((if p0 = (5 : Int32) then (Q (gI S9_2 0 15) S9_2) else ((if p0 = (6 : Int32) then (Q (gI S9_2 0 16) S9_2) else ((if p0 = (7 : Int32) then (Q (gI S9_2 0 65) S9_2) else (Q (gI S9_2 0 1) S9_2)))))))))))))))))))
