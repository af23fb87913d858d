/-! ===== the law's loop: one call of each, the two stay in step ===== -/
abbrev GE (G0 : GC) (adE adM : Nat → Nat) (aO : Nat) (f : Nat → Int64) (SM : St) (k w : Nat) : GC := gw G0 adE ((aO, oc (Gcy G0) f) :: wl (Gcy G0) adM shM NM SM) shE NE k w
abbrev GM (G0 : GC) (adE adM : Nat → Nat) (aO : Nat) (f : Nat → Int64) (SE : St) (k w : Nat) : GC := gw G0 adM ((aO, oc (Gcy G0) f) :: wl (Gcy G0) adE shE NE SE) shM NM k w
abbrev lvL (adE adM : Nat → Nat) (aO b : Nat) (v : Int32) : List (Nat × Value) := [(0, .ref b), (1, .ref (adE 0)), (2, .ref (adM 0)), (3, .ref aO), (4, .int v)]
section Swap
variable {G0 : GC} {adE adM : Nat → Nat} {aO : Nat} {f : Nat → Int64} {SE SM : St} {k w k' w' nL pc : Nat} {st : List Value} {lv : List (Nat × Value)}
theorem Go_toM (hk : k ≤ k') (hw : w ≤ w') (h : Go (GM G0 adE adM aO f SE k' w') nL pc st lv SM) : Go (GE G0 adE adM aO f SM k w) nL pc st lv SE :=
  Go_perm (G := GE G0 adE adM aO f SM k w) (ad := adM) (X := (aO, oc (Gcy G0) f) :: wl (Gcy G0) adE shE NE SE) (sh' := shM) (N' := NM) (S' := SM) (List.Perm.cons _ List.perm_append_comm) hk hw h
theorem Go_toE (hk : k ≤ k') (hw : w ≤ w') (h : Go (GE G0 adE adM aO f SM k' w') nL pc st lv SE) : Go (GM G0 adE adM aO f SE k w) nL pc st lv SM :=
  Go_perm (G := GM G0 adE adM aO f SE k w) (ad := adE) (X := (aO, oc (Gcy G0) f) :: wl (Gcy G0) adM shM NM SM) (sh' := shE) (N' := NE) (S' := SE) (List.Perm.cons _ List.perm_append_comm) hk hw h
theorem Go_wide (hk : k ≤ k') (hw : w ≤ w') (h : Go (GE G0 adE adM aO f SM k' w') nL pc st lv SE) : Go (GE G0 adE adM aO f SM k w) nL pc st lv SE :=
  Go_perm (G := GE G0 adE adM aO f SM k w) (ad := adE) (X := (aO, oc (Gcy G0) f) :: wl (Gcy G0) adM shM NM SM) (sh' := shE) (N' := NE) (S' := SE) (List.Perm.refl _) hk hw h
end Swap
theorem Cx_big {G : GC} {cc : ByteArray} {own : String} {nL : Nat} {ret : Option FieldType} {rm : Room} {sh : Nat → Nat × Nat} {N : Nat} (C : Cx G cc wsJX own nL ret rm sh N) : Cx G cc BIG own nL ret rm sh N := by
  obtain ⟨a1, a2, a3, a4, a5, a6⟩ := C
  exact ⟨a1, a2, a3, a4, fun w h => a5 w (List.mem_append_left _ h), a6⟩
def Tail (G0 : GC) (adE adM : Nat → Nat) (aO b : Nat) (v : Int32) (k w : Nat) : Prop := ∀ SE SM f, RR SE SM → RCE SE → RCM SM → Go (GE G0 adE adM aO f SM k w) 7 1100 [] (lvL adE adM aO b v) SE
def LC (G0 : GC) (b L : Nat) (xs : Nat → Int32) (j k w : Nat) : Prop := (∃ sh0 N0, Cx G0 code wsJX RL 7 (some .boolean) room_1 sh0 N0) ∧ va_X b L xs (Gs G0) (Gs G0).heap ∧ b < (Gs G0).heap.size ∧ ¬ GA G0 b ∧ L ≤ 448 ∧ 7 * j + 7 ≤ L ∧ k ≤ 600128 ∧ w ≤ 7301098
theorem nIa (a b : Nat) : nI a + nI b = nI (a + b) := by
  apply Int32.toBitVec_inj.mp
  simp [nI, Int32.toBitVec_add, BitVec.ofNat_add]
theorem sx1 (a : Nat) : nI a + (1 : Int32) = nI (a + 1) := nIa a 1
theorem sx2 (a : Nat) : nI a + (2 : Int32) = nI (a + 2) := nIa a 2
theorem sx3 (a : Nat) : nI a + (3 : Int32) = nI (a + 3) := nIa a 3
theorem sx4 (a : Nat) : nI a + (4 : Int32) = nI (a + 4) := nIa a 4
theorem sx5 (a : Nat) : nI a + (5 : Int32) = nI (a + 5) := nIa a 5
theorem sx6 (a : Nat) : nI a + (6 : Int32) = nI (a + 6) := nIa a 6
set_option maxHeartbeats 1000000 in
theorem lc_0 {G0 : GC} {adE adM : Nat → Nat} {aO b L : Nat} {xs : Nat → Int32} {f : Nat → Int64} {SE SM : St} {j k w : Nat} (h : LC G0 b L xs j k w) (hr : RR SE SM) (hE : RCE SE) (hM : RCM SM) (T : Tail G0 adE adM aO b (nI (7 * j)) k w) : Go (GE G0 adE adM aO f SM k w) 7 156 [] (lvL adE adM aO b (nI (7 * j))) SE := by
  obtain ⟨⟨sh0, N0, CJ⟩, hX, hb, hA, hL, hj, hk, hws⟩ := h
  have CB := Cx_big CJ
  have CE : Cx (GE G0 adE adM aO f SM k w) code BIG RL 7 (some .boolean) room_1 shE NE := Cx_gw CB hk hws
  refine Go_aload_n (q := 157) CE 1 rfl dL_law_156 rfl ?_
  refine Go_aload_n (q := 158) CE 0 rfl dL_law_157 rfl ?_
  refine Go_iload (q := 160) CE 4 rfl dL_law_158 rfl ?_
  refine Go_iconst (q := 161) (v := (1 : Int32)) CE dL_law_160 rfl rfl ?_
  refine Go_iadd (q := 162) CE dL_law_161 rfl ?_
  refine Go_sld (q := 163) CE hX hb hA (sx1 (7 * j)) (by omega) hL dL_law_162 rfl ?_
  refine Go_i2l (q := 164) CE dL_law_163 rfl ?_
  refine Go_bipush (q := 166) (v := (32 : Int32)) CE dL_law_164 rfl rfl ?_
  refine Go_lshl (q := 167) CE dL_law_166 rfl ?_
  refine Go_aload_n (q := 168) CE 0 rfl dL_law_167 rfl ?_
  refine Go_iload (q := 170) CE 4 rfl dL_law_168 rfl ?_
  refine Go_iconst (q := 171) (v := (2 : Int32)) CE dL_law_170 rfl rfl ?_
  refine Go_iadd (q := 172) CE dL_law_171 rfl ?_
  refine Go_sld (q := 173) CE hX hb hA (sx2 (7 * j)) (by omega) hL dL_law_172 rfl ?_
  refine Go_i2l (q := 174) CE dL_law_173 rfl ?_
  refine Go_ldc2 (q := 177) (v := (4294967295 : Int64)) CE wm_1_7 dL_law_174 rfl ?_
  refine Go_land (q := 178) CE dL_law_177 rfl ?_
  refine Go_lor (q := 179) CE dL_law_178 rfl ?_
  refine Go_topl (fun y0 ey0 => ?_)
  refine Go_aload_n (q := 180) CE 0 rfl dL_law_179 rfl ?_
  refine Go_iload (q := 182) CE 4 rfl dL_law_180 rfl ?_
  refine Go_iconst (q := 183) (v := (3 : Int32)) CE dL_law_182 rfl rfl ?_
  refine Go_iadd (q := 184) CE dL_law_183 rfl ?_
  refine Go_sld (q := 185) CE hX hb hA (sx3 (7 * j)) (by omega) hL dL_law_184 rfl ?_
  refine Go_i2l (q := 186) CE dL_law_185 rfl ?_
  refine Go_bipush (q := 188) (v := (32 : Int32)) CE dL_law_186 rfl rfl ?_
  refine Go_lshl (q := 189) CE dL_law_188 rfl ?_
  refine Go_aload_n (q := 190) CE 0 rfl dL_law_189 rfl ?_
  refine Go_iload (q := 192) CE 4 rfl dL_law_190 rfl ?_
  refine Go_iconst (q := 193) (v := (4 : Int32)) CE dL_law_192 rfl rfl ?_
  refine Go_iadd (q := 194) CE dL_law_193 rfl ?_
  refine Go_sld (q := 195) CE hX hb hA (sx4 (7 * j)) (by omega) hL dL_law_194 rfl ?_
  refine Go_i2l (q := 196) CE dL_law_195 rfl ?_
  refine Go_ldc2 (q := 199) (v := (4294967295 : Int64)) CE wm_1_7 dL_law_196 rfl ?_
  refine Go_land (q := 200) CE dL_law_199 rfl ?_
  refine Go_lor (q := 201) CE dL_law_200 rfl ?_
  refine Go_topl (fun y1 ey1 => ?_)
  refine Go_aload_n (q := 202) CE 0 rfl dL_law_201 rfl ?_
  refine Go_iload (q := 204) CE 4 rfl dL_law_202 rfl ?_
  refine Go_iconst (q := 205) (v := (5 : Int32)) CE dL_law_204 rfl rfl ?_
  refine Go_iadd (q := 206) CE dL_law_205 rfl ?_
  refine Go_sld (q := 207) CE hX hb hA (sx5 (7 * j)) (by omega) hL dL_law_206 rfl ?_
  refine Go_i2l (q := 208) CE dL_law_207 rfl ?_
  refine Go_bipush (q := 210) (v := (32 : Int32)) CE dL_law_208 rfl rfl ?_
  refine Go_lshl (q := 211) CE dL_law_210 rfl ?_
  refine Go_aload_n (q := 212) CE 0 rfl dL_law_211 rfl ?_
  refine Go_iload (q := 214) CE 4 rfl dL_law_212 rfl ?_
  refine Go_bipush (q := 216) (v := (6 : Int32)) CE dL_law_214 rfl rfl ?_
  refine Go_iadd (q := 217) CE dL_law_216 rfl ?_
  refine Go_sld (q := 218) CE hX hb hA (sx6 (7 * j)) (by omega) hL dL_law_217 rfl ?_
  refine Go_i2l (q := 219) CE dL_law_218 rfl ?_
  refine Go_ldc2 (q := 222) (v := (4294967295 : Int64)) CE wm_1_7 dL_law_219 rfl ?_
  refine Go_land (q := 223) CE dL_law_222 rfl ?_
  refine Go_lor (q := 224) CE dL_law_223 rfl ?_
  refine Go_topl (fun y2 ey2 => ?_)
  refine Go_callV_I (av := fun ad => [.long y0, .long y1, .long y2]) (st := []) (C := CE) (hM := c_X11_feed (Gl G0) hE (c_feed hr)) (hlk := wm_14_21) (hini := wm_1_2) (hins := wm_14_22) (hsel := wm_14_23) (hcode := wm_15_0) (ho := kE_0) (hci := rfl) (hc13 := by decide) (n := 3) (hd := by decide +kernel) (hr0 := ⟨rfl, rfl⟩) (hroom := ⟨by decide +kernel, by decide +kernel⟩) (hlen := rfl) (hst := rfl) (hW := Nat.le_of_ble_eq_true rfl) (hdg := dL_law_224) (q := 227) (hq := rfl) (fun r1 S1 hw hE => ?_)
  refine Go_toM (Nat.le_refl _) (Nat.le_refl _) ?_
  have CM : Cx (GM G0 adE adM aO f S1 k w) code BIG RL 7 (some .boolean) room_1 shM NM := Cx_gw CB hk hws
  refine Go_aload_n (q := 228) CM 2 rfl dL_law_227 rfl ?_
  refine Go_aload_n (q := 229) CM 0 rfl dL_law_228 rfl ?_
  refine Go_iload (q := 231) CM 4 rfl dL_law_229 rfl ?_
  refine Go_iconst (q := 232) (v := (1 : Int32)) CM dL_law_231 rfl rfl ?_
  refine Go_iadd (q := 233) CM dL_law_232 rfl ?_
  refine Go_sld (q := 234) CM hX hb hA (sx1 (7 * j)) (by omega) hL dL_law_233 rfl ?_
  refine Go_i2l (q := 235) CM dL_law_234 rfl ?_
  refine Go_bipush (q := 237) (v := (32 : Int32)) CM dL_law_235 rfl rfl ?_
  refine Go_lshl (q := 238) CM dL_law_237 rfl ?_
  refine Go_aload_n (q := 239) CM 0 rfl dL_law_238 rfl ?_
  refine Go_iload (q := 241) CM 4 rfl dL_law_239 rfl ?_
  refine Go_iconst (q := 242) (v := (2 : Int32)) CM dL_law_241 rfl rfl ?_
  refine Go_iadd (q := 243) CM dL_law_242 rfl ?_
  refine Go_sld (q := 244) CM hX hb hA (sx2 (7 * j)) (by omega) hL dL_law_243 rfl ?_
  refine Go_i2l (q := 245) CM dL_law_244 rfl ?_
  refine Go_ldc2 (q := 248) (v := (4294967295 : Int64)) CM wm_1_7 dL_law_245 rfl ?_
  refine Go_land (q := 249) CM dL_law_248 rfl ?_
  refine Go_lor (q := 250) CM dL_law_249 rfl ?_
  refine Go_topl (fun z0 ez0 => ?_)
  obtain rfl : y0 = z0 := ey0.trans ez0.symm
  refine Go_aload_n (q := 251) CM 0 rfl dL_law_250 rfl ?_
  refine Go_iload (q := 253) CM 4 rfl dL_law_251 rfl ?_
  refine Go_iconst (q := 254) (v := (3 : Int32)) CM dL_law_253 rfl rfl ?_
  refine Go_iadd (q := 255) CM dL_law_254 rfl ?_
  refine Go_sld (q := 256) CM hX hb hA (sx3 (7 * j)) (by omega) hL dL_law_255 rfl ?_
  refine Go_i2l (q := 257) CM dL_law_256 rfl ?_
  refine Go_bipush (q := 259) (v := (32 : Int32)) CM dL_law_257 rfl rfl ?_
  refine Go_lshl (q := 260) CM dL_law_259 rfl ?_
  refine Go_aload_n (q := 261) CM 0 rfl dL_law_260 rfl ?_
  refine Go_iload (q := 263) CM 4 rfl dL_law_261 rfl ?_
  refine Go_iconst (q := 264) (v := (4 : Int32)) CM dL_law_263 rfl rfl ?_
  refine Go_iadd (q := 265) CM dL_law_264 rfl ?_
  refine Go_sld (q := 266) CM hX hb hA (sx4 (7 * j)) (by omega) hL dL_law_265 rfl ?_
  refine Go_i2l (q := 267) CM dL_law_266 rfl ?_
  refine Go_ldc2 (q := 270) (v := (4294967295 : Int64)) CM wm_1_7 dL_law_267 rfl ?_
  refine Go_land (q := 271) CM dL_law_270 rfl ?_
  refine Go_lor (q := 272) CM dL_law_271 rfl ?_
  refine Go_topl (fun z1 ez1 => ?_)
  obtain rfl : y1 = z1 := ey1.trans ez1.symm
  refine Go_aload_n (q := 273) CM 0 rfl dL_law_272 rfl ?_
  refine Go_iload (q := 275) CM 4 rfl dL_law_273 rfl ?_
  refine Go_iconst (q := 276) (v := (5 : Int32)) CM dL_law_275 rfl rfl ?_
  refine Go_iadd (q := 277) CM dL_law_276 rfl ?_
  refine Go_sld (q := 278) CM hX hb hA (sx5 (7 * j)) (by omega) hL dL_law_277 rfl ?_
  refine Go_i2l (q := 279) CM dL_law_278 rfl ?_
  refine Go_bipush (q := 281) (v := (32 : Int32)) CM dL_law_279 rfl rfl ?_
  refine Go_lshl (q := 282) CM dL_law_281 rfl ?_
  refine Go_aload_n (q := 283) CM 0 rfl dL_law_282 rfl ?_
  refine Go_iload (q := 285) CM 4 rfl dL_law_283 rfl ?_
  refine Go_bipush (q := 287) (v := (6 : Int32)) CM dL_law_285 rfl rfl ?_
  refine Go_iadd (q := 288) CM dL_law_287 rfl ?_
  refine Go_sld (q := 289) CM hX hb hA (sx6 (7 * j)) (by omega) hL dL_law_288 rfl ?_
  refine Go_i2l (q := 290) CM dL_law_289 rfl ?_
  refine Go_ldc2 (q := 293) (v := (4294967295 : Int64)) CM wm_1_7 dL_law_290 rfl ?_
  refine Go_land (q := 294) CM dL_law_293 rfl ?_
  refine Go_lor (q := 295) CM dL_law_294 rfl ?_
  refine Go_topl (fun z2 ez2 => ?_)
  obtain rfl : y2 = z2 := ey2.trans ez2.symm
  refine Go_callV_I (av := fun ad => [.long y0, .long y1, .long y2]) (st := [.int r1]) (C := CM) (hM := c_X12_feed (Gl G0) hM hw) (hlk := wm_15_10) (hini := wm_1_5) (hins := wm_15_11) (hsel := wm_15_12) (hcode := wm_15_13) (ho := kM_0) (hci := rfl) (hc13 := by decide) (n := 3) (hd := by decide +kernel) (hr0 := ⟨rfl, rfl⟩) (hroom := ⟨by decide +kernel, by decide +kernel⟩) (hlen := rfl) (hst := rfl) (hW := Nat.le_of_ble_eq_true rfl) (hdg := dL_law_295) (q := 298) (hq := rfl) (fun r2 S2 hw hM => ?_)
  refine Go_icmp_eq (t := 1100) (q := 301) CM dec_if dL_law_298 rfl rfl (fun _ => ?_) (fun hn => absurd hw.1 hn)
  exact Go_toE (Nat.le_refl _) (Nat.le_refl _) (T _ _ _ hw.2 hE hM)
set_option maxHeartbeats 1000000 in
theorem lc_1 {G0 : GC} {adE adM : Nat → Nat} {aO b L : Nat} {xs : Nat → Int32} {f : Nat → Int64} {SE SM : St} {j k w : Nat} (h : LC G0 b L xs j k w) (hr : RR SE SM) (hE : RCE SE) (hM : RCM SM) (T : Tail G0 adE adM aO b (nI (7 * j)) k w) : Go (GE G0 adE adM aO f SM k w) 7 303 [] (lvL adE adM aO b (nI (7 * j))) SE := by
  obtain ⟨⟨sh0, N0, CJ⟩, hX, hb, hA, hL, hj, hk, hws⟩ := h
  have CB := Cx_big CJ
  have CE : Cx (GE G0 adE adM aO f SM k w) code BIG RL 7 (some .boolean) room_1 shE NE := Cx_gw CB hk hws
  refine Go_aload_n (q := 304) CE 1 rfl dL_law_303 rfl ?_
  refine Go_callV_I (av := fun ad => []) (st := []) (C := CE) (hM := c_X11_form (Gl G0) hE (c_form hr)) (hlk := wm_15_17) (hini := wm_1_2) (hins := wm_15_18) (hsel := wm_15_19) (hcode := wm_15_20) (ho := kE_0) (hci := rfl) (hc13 := by decide) (n := 0) (hd := by decide +kernel) (hr0 := ⟨rfl, rfl⟩) (hroom := ⟨by decide +kernel, by decide +kernel⟩) (hlen := rfl) (hst := rfl) (hW := Nat.le_of_ble_eq_true rfl) (hdg := dL_law_304) (q := 307) (hq := rfl) (fun r1 S1 hw hE => ?_)
  refine Go_toM (Nat.le_refl _) (Nat.le_refl _) ?_
  have CM : Cx (GM G0 adE adM aO f S1 k w) code BIG RL 7 (some .boolean) room_1 shM NM := Cx_gw CB hk hws
  refine Go_aload_n (q := 308) CM 2 rfl dL_law_307 rfl ?_
  refine Go_callV_I (av := fun ad => []) (st := [.int r1]) (C := CM) (hM := c_X12_form (Gl G0) hM hw) (hlk := wm_24_10) (hini := wm_1_5) (hins := wm_24_11) (hsel := wm_24_12) (hcode := wm_24_13) (ho := kM_0) (hci := rfl) (hc13 := by decide) (n := 0) (hd := by decide +kernel) (hr0 := ⟨rfl, rfl⟩) (hroom := ⟨by decide +kernel, by decide +kernel⟩) (hlen := rfl) (hst := rfl) (hW := Nat.le_of_ble_eq_true rfl) (hdg := dL_law_308) (q := 311) (hq := rfl) (fun r2 S2 hw hM => ?_)
  refine Go_icmp_eq (t := 1100) (q := 314) CM dec_if dL_law_311 rfl rfl (fun _ => ?_) (fun hn => absurd hw.1 hn)
  exact Go_toE (Nat.le_refl _) (Nat.le_refl _) (T _ _ _ hw.2 hE hM)
set_option maxHeartbeats 1000000 in
theorem lc_2 {G0 : GC} {adE adM : Nat → Nat} {aO b L : Nat} {xs : Nat → Int32} {f : Nat → Int64} {SE SM : St} {j k w : Nat} (h : LC G0 b L xs j k w) (hr : RR SE SM) (hE : RCE SE) (hM : RCM SM) (T : Tail G0 adE adM aO b (nI (7 * j)) k w) : Go (GE G0 adE adM aO f SM k w) 7 316 [] (lvL adE adM aO b (nI (7 * j))) SE := by
  obtain ⟨⟨sh0, N0, CJ⟩, hX, hb, hA, hL, hj, hk, hws⟩ := h
  have CB := Cx_big CJ
  have CE : Cx (GE G0 adE adM aO f SM k w) code BIG RL 7 (some .boolean) room_1 shE NE := Cx_gw CB hk hws
  refine Go_aload_n (q := 317) CE 1 rfl dL_law_316 rfl ?_
  refine Go_aload_n (q := 318) CE 0 rfl dL_law_317 rfl ?_
  refine Go_iload (q := 320) CE 4 rfl dL_law_318 rfl ?_
  refine Go_iconst (q := 321) (v := (1 : Int32)) CE dL_law_320 rfl rfl ?_
  refine Go_iadd (q := 322) CE dL_law_321 rfl ?_
  refine Go_sld (q := 323) CE hX hb hA (sx1 (7 * j)) (by omega) hL dL_law_322 rfl ?_
  refine Go_aload_n (q := 324) CE 0 rfl dL_law_323 rfl ?_
  refine Go_iload (q := 326) CE 4 rfl dL_law_324 rfl ?_
  refine Go_iconst (q := 327) (v := (2 : Int32)) CE dL_law_326 rfl rfl ?_
  refine Go_iadd (q := 328) CE dL_law_327 rfl ?_
  refine Go_sld (q := 329) CE hX hb hA (sx2 (7 * j)) (by omega) hL dL_law_328 rfl ?_
  refine Go_callV_I (av := fun ad => [.int (xs (7 * j + 1)), .int (xs (7 * j + 2))]) (st := []) (C := CE) (hM := c_X11_turning (Gl G0) hE (r_turning hr)) (hlk := wm_31_9) (hini := wm_1_2) (hins := wm_31_10) (hsel := wm_31_11) (hcode := wm_31_12) (ho := kE_0) (hci := rfl) (hc13 := by decide) (n := 2) (hd := by decide +kernel) (hr0 := ⟨rfl, rfl⟩) (hroom := ⟨by decide +kernel, by decide +kernel⟩) (hlen := rfl) (hst := rfl) (hW := Nat.le_of_ble_eq_true rfl) (hdg := dL_law_329) (q := 332) (hq := rfl) (fun r1 S1 hw hE => ?_)
  refine Go_toM (Nat.le_refl _) (Nat.le_refl _) ?_
  have CM : Cx (GM G0 adE adM aO f S1 k w) code BIG RL 7 (some .boolean) room_1 shM NM := Cx_gw CB hk hws
  refine Go_aload_n (q := 333) CM 2 rfl dL_law_332 rfl ?_
  refine Go_aload_n (q := 334) CM 0 rfl dL_law_333 rfl ?_
  refine Go_iload (q := 336) CM 4 rfl dL_law_334 rfl ?_
  refine Go_iconst (q := 337) (v := (1 : Int32)) CM dL_law_336 rfl rfl ?_
  refine Go_iadd (q := 338) CM dL_law_337 rfl ?_
  refine Go_sld (q := 339) CM hX hb hA (sx1 (7 * j)) (by omega) hL dL_law_338 rfl ?_
  refine Go_aload_n (q := 340) CM 0 rfl dL_law_339 rfl ?_
  refine Go_iload (q := 342) CM 4 rfl dL_law_340 rfl ?_
  refine Go_iconst (q := 343) (v := (2 : Int32)) CM dL_law_342 rfl rfl ?_
  refine Go_iadd (q := 344) CM dL_law_343 rfl ?_
  refine Go_sld (q := 345) CM hX hb hA (sx2 (7 * j)) (by omega) hL dL_law_344 rfl ?_
  refine Go_callV_I (av := fun ad => [.int (xs (7 * j + 1)), .int (xs (7 * j + 2))]) (st := [.int r1]) (C := CM) (hM := c_X12_turning (Gl G0) hM hw) (hlk := wm_31_18) (hini := wm_1_5) (hins := wm_31_19) (hsel := wm_31_20) (hcode := wm_31_21) (ho := kM_0) (hci := rfl) (hc13 := by decide) (n := 2) (hd := by decide +kernel) (hr0 := ⟨rfl, rfl⟩) (hroom := ⟨by decide +kernel, by decide +kernel⟩) (hlen := rfl) (hst := rfl) (hW := Nat.le_of_ble_eq_true rfl) (hdg := dL_law_345) (q := 348) (hq := rfl) (fun r2 S2 hw hM => ?_)
  refine Go_icmp_eq (t := 1100) (q := 351) CM dec_if dL_law_348 rfl rfl (fun _ => ?_) (fun hn => absurd hw.1 hn)
  exact Go_toE (Nat.le_refl _) (Nat.le_refl _) (T _ _ _ hw.2 hE hM)
set_option maxHeartbeats 1000000 in
theorem lc_3 {G0 : GC} {adE adM : Nat → Nat} {aO b L : Nat} {xs : Nat → Int32} {f : Nat → Int64} {SE SM : St} {j k w : Nat} (h : LC G0 b L xs j k w) (hr : RR SE SM) (hE : RCE SE) (hM : RCM SM) (T : Tail G0 adE adM aO b (nI (7 * j)) k w) : Go (GE G0 adE adM aO f SM k w) 7 353 [] (lvL adE adM aO b (nI (7 * j))) SE := by
  obtain ⟨⟨sh0, N0, CJ⟩, hX, hb, hA, hL, hj, hk, hws⟩ := h
  have CB := Cx_big CJ
  have CE : Cx (GE G0 adE adM aO f SM k w) code BIG RL 7 (some .boolean) room_1 shE NE := Cx_gw CB hk hws
  refine Go_aload_n (q := 354) CE 1 rfl dL_law_353 rfl ?_
  refine Go_aload_n (q := 355) CE 0 rfl dL_law_354 rfl ?_
  refine Go_iload (q := 357) CE 4 rfl dL_law_355 rfl ?_
  refine Go_iconst (q := 358) (v := (1 : Int32)) CE dL_law_357 rfl rfl ?_
  refine Go_iadd (q := 359) CE dL_law_358 rfl ?_
  refine Go_sld (q := 360) CE hX hb hA (sx1 (7 * j)) (by omega) hL dL_law_359 rfl ?_
  refine Go_i2l (q := 361) CE dL_law_360 rfl ?_
  refine Go_bipush (q := 363) (v := (32 : Int32)) CE dL_law_361 rfl rfl ?_
  refine Go_lshl (q := 364) CE dL_law_363 rfl ?_
  refine Go_aload_n (q := 365) CE 0 rfl dL_law_364 rfl ?_
  refine Go_iload (q := 367) CE 4 rfl dL_law_365 rfl ?_
  refine Go_iconst (q := 368) (v := (2 : Int32)) CE dL_law_367 rfl rfl ?_
  refine Go_iadd (q := 369) CE dL_law_368 rfl ?_
  refine Go_sld (q := 370) CE hX hb hA (sx2 (7 * j)) (by omega) hL dL_law_369 rfl ?_
  refine Go_i2l (q := 371) CE dL_law_370 rfl ?_
  refine Go_ldc2 (q := 374) (v := (4294967295 : Int64)) CE wm_1_7 dL_law_371 rfl ?_
  refine Go_land (q := 375) CE dL_law_374 rfl ?_
  refine Go_lor (q := 376) CE dL_law_375 rfl ?_
  refine Go_topl (fun y0 ey0 => ?_)
  refine Go_aload_n (q := 377) CE 0 rfl dL_law_376 rfl ?_
  refine Go_iload (q := 379) CE 4 rfl dL_law_377 rfl ?_
  refine Go_iconst (q := 380) (v := (3 : Int32)) CE dL_law_379 rfl rfl ?_
  refine Go_iadd (q := 381) CE dL_law_380 rfl ?_
  refine Go_sld (q := 382) CE hX hb hA (sx3 (7 * j)) (by omega) hL dL_law_381 rfl ?_
  refine Go_callV_I (av := fun ad => [.long y0, .int (xs (7 * j + 3))]) (st := []) (C := CE) (hM := c_X11_end (Gl G0) hE (r_end hr)) (hlk := wm_32_10) (hini := wm_1_2) (hins := wm_32_11) (hsel := wm_32_12) (hcode := wm_32_13) (ho := kE_0) (hci := rfl) (hc13 := by decide) (n := 2) (hd := by decide +kernel) (hr0 := ⟨rfl, rfl⟩) (hroom := ⟨by decide +kernel, by decide +kernel⟩) (hlen := rfl) (hst := rfl) (hW := Nat.le_of_ble_eq_true rfl) (hdg := dL_law_382) (q := 385) (hq := rfl) (fun r1 S1 hw hE => ?_)
  refine Go_toM (Nat.le_refl _) (Nat.le_refl _) ?_
  have CM : Cx (GM G0 adE adM aO f S1 k w) code BIG RL 7 (some .boolean) room_1 shM NM := Cx_gw CB hk hws
  refine Go_aload_n (q := 386) CM 2 rfl dL_law_385 rfl ?_
  refine Go_aload_n (q := 387) CM 0 rfl dL_law_386 rfl ?_
  refine Go_iload (q := 389) CM 4 rfl dL_law_387 rfl ?_
  refine Go_iconst (q := 390) (v := (1 : Int32)) CM dL_law_389 rfl rfl ?_
  refine Go_iadd (q := 391) CM dL_law_390 rfl ?_
  refine Go_sld (q := 392) CM hX hb hA (sx1 (7 * j)) (by omega) hL dL_law_391 rfl ?_
  refine Go_i2l (q := 393) CM dL_law_392 rfl ?_
  refine Go_bipush (q := 395) (v := (32 : Int32)) CM dL_law_393 rfl rfl ?_
  refine Go_lshl (q := 396) CM dL_law_395 rfl ?_
  refine Go_aload_n (q := 397) CM 0 rfl dL_law_396 rfl ?_
  refine Go_iload (q := 399) CM 4 rfl dL_law_397 rfl ?_
  refine Go_iconst (q := 400) (v := (2 : Int32)) CM dL_law_399 rfl rfl ?_
  refine Go_iadd (q := 401) CM dL_law_400 rfl ?_
  refine Go_sld (q := 402) CM hX hb hA (sx2 (7 * j)) (by omega) hL dL_law_401 rfl ?_
  refine Go_i2l (q := 403) CM dL_law_402 rfl ?_
  refine Go_ldc2 (q := 406) (v := (4294967295 : Int64)) CM wm_1_7 dL_law_403 rfl ?_
  refine Go_land (q := 407) CM dL_law_406 rfl ?_
  refine Go_lor (q := 408) CM dL_law_407 rfl ?_
  refine Go_topl (fun z0 ez0 => ?_)
  obtain rfl : y0 = z0 := ey0.trans ez0.symm
  refine Go_aload_n (q := 409) CM 0 rfl dL_law_408 rfl ?_
  refine Go_iload (q := 411) CM 4 rfl dL_law_409 rfl ?_
  refine Go_iconst (q := 412) (v := (3 : Int32)) CM dL_law_411 rfl rfl ?_
  refine Go_iadd (q := 413) CM dL_law_412 rfl ?_
  refine Go_sld (q := 414) CM hX hb hA (sx3 (7 * j)) (by omega) hL dL_law_413 rfl ?_
  refine Go_callV_I (av := fun ad => [.long y0, .int (xs (7 * j + 3))]) (st := [.int r1]) (C := CM) (hM := c_X12_end (Gl G0) hM hw) (hlk := wm_33_2) (hini := wm_1_5) (hins := wm_33_3) (hsel := wm_33_4) (hcode := wm_33_5) (ho := kM_0) (hci := rfl) (hc13 := by decide) (n := 2) (hd := by decide +kernel) (hr0 := ⟨rfl, rfl⟩) (hroom := ⟨by decide +kernel, by decide +kernel⟩) (hlen := rfl) (hst := rfl) (hW := Nat.le_of_ble_eq_true rfl) (hdg := dL_law_414) (q := 417) (hq := rfl) (fun r2 S2 hw hM => ?_)
  refine Go_icmp_eq (t := 1100) (q := 420) CM dec_if dL_law_417 rfl rfl (fun _ => ?_) (fun hn => absurd hw.1 hn)
  exact Go_toE (Nat.le_refl _) (Nat.le_refl _) (T _ _ _ hw.2 hE hM)
set_option maxHeartbeats 1000000 in
theorem lc_4 {G0 : GC} {adE adM : Nat → Nat} {aO b L : Nat} {xs : Nat → Int32} {f : Nat → Int64} {SE SM : St} {j k w : Nat} (h : LC G0 b L xs j k w) (hr : RR SE SM) (hE : RCE SE) (hM : RCM SM) (T : Tail G0 adE adM aO b (nI (7 * j)) k w) : Go (GE G0 adE adM aO f SM k w) 7 422 [] (lvL adE adM aO b (nI (7 * j))) SE := by
  obtain ⟨⟨sh0, N0, CJ⟩, hX, hb, hA, hL, hj, hk, hws⟩ := h
  have CB := Cx_big CJ
  have CE : Cx (GE G0 adE adM aO f SM k w) code BIG RL 7 (some .boolean) room_1 shE NE := Cx_gw CB hk hws
  refine Go_aload_n (q := 423) CE 1 rfl dL_law_422 rfl ?_
  refine Go_aload_n (q := 424) CE 0 rfl dL_law_423 rfl ?_
  refine Go_iload (q := 426) CE 4 rfl dL_law_424 rfl ?_
  refine Go_iconst (q := 427) (v := (1 : Int32)) CE dL_law_426 rfl rfl ?_
  refine Go_iadd (q := 428) CE dL_law_427 rfl ?_
  refine Go_sld (q := 429) CE hX hb hA (sx1 (7 * j)) (by omega) hL dL_law_428 rfl ?_
  refine Go_i2l (q := 430) CE dL_law_429 rfl ?_
  refine Go_bipush (q := 432) (v := (32 : Int32)) CE dL_law_430 rfl rfl ?_
  refine Go_lshl (q := 433) CE dL_law_432 rfl ?_
  refine Go_aload_n (q := 434) CE 0 rfl dL_law_433 rfl ?_
  refine Go_iload (q := 436) CE 4 rfl dL_law_434 rfl ?_
  refine Go_iconst (q := 437) (v := (2 : Int32)) CE dL_law_436 rfl rfl ?_
  refine Go_iadd (q := 438) CE dL_law_437 rfl ?_
  refine Go_sld (q := 439) CE hX hb hA (sx2 (7 * j)) (by omega) hL dL_law_438 rfl ?_
  refine Go_i2l (q := 440) CE dL_law_439 rfl ?_
  refine Go_ldc2 (q := 443) (v := (4294967295 : Int64)) CE wm_1_7 dL_law_440 rfl ?_
  refine Go_land (q := 444) CE dL_law_443 rfl ?_
  refine Go_lor (q := 445) CE dL_law_444 rfl ?_
  refine Go_topl (fun y0 ey0 => ?_)
  refine Go_aload_n (q := 446) CE 0 rfl dL_law_445 rfl ?_
  refine Go_iload (q := 448) CE 4 rfl dL_law_446 rfl ?_
  refine Go_iconst (q := 449) (v := (3 : Int32)) CE dL_law_448 rfl rfl ?_
  refine Go_iadd (q := 450) CE dL_law_449 rfl ?_
  refine Go_sld (q := 451) CE hX hb hA (sx3 (7 * j)) (by omega) hL dL_law_450 rfl ?_
  refine Go_callV_I (av := fun ad => [.long y0, .int (xs (7 * j + 3))]) (st := []) (C := CE) (hM := c_X11_where (Gl G0) hE (r_where hr)) (hlk := wm_33_14) (hini := wm_1_2) (hins := wm_33_15) (hsel := wm_33_16) (hcode := wm_33_17) (ho := kE_0) (hci := rfl) (hc13 := by decide) (n := 2) (hd := by decide +kernel) (hr0 := ⟨rfl, rfl⟩) (hroom := ⟨by decide +kernel, by decide +kernel⟩) (hlen := rfl) (hst := rfl) (hW := Nat.le_of_ble_eq_true rfl) (hdg := dL_law_451) (q := 454) (hq := rfl) (fun r1 S1 hw hE => ?_)
  refine Go_toM (Nat.le_refl _) (Nat.le_refl _) ?_
  have CM : Cx (GM G0 adE adM aO f S1 k w) code BIG RL 7 (some .boolean) room_1 shM NM := Cx_gw CB hk hws
  refine Go_aload_n (q := 455) CM 2 rfl dL_law_454 rfl ?_
  refine Go_aload_n (q := 456) CM 0 rfl dL_law_455 rfl ?_
  refine Go_iload (q := 458) CM 4 rfl dL_law_456 rfl ?_
  refine Go_iconst (q := 459) (v := (1 : Int32)) CM dL_law_458 rfl rfl ?_
  refine Go_iadd (q := 460) CM dL_law_459 rfl ?_
  refine Go_sld (q := 461) CM hX hb hA (sx1 (7 * j)) (by omega) hL dL_law_460 rfl ?_
  refine Go_i2l (q := 462) CM dL_law_461 rfl ?_
  refine Go_bipush (q := 464) (v := (32 : Int32)) CM dL_law_462 rfl rfl ?_
  refine Go_lshl (q := 465) CM dL_law_464 rfl ?_
  refine Go_aload_n (q := 466) CM 0 rfl dL_law_465 rfl ?_
  refine Go_iload (q := 468) CM 4 rfl dL_law_466 rfl ?_
  refine Go_iconst (q := 469) (v := (2 : Int32)) CM dL_law_468 rfl rfl ?_
  refine Go_iadd (q := 470) CM dL_law_469 rfl ?_
  refine Go_sld (q := 471) CM hX hb hA (sx2 (7 * j)) (by omega) hL dL_law_470 rfl ?_
  refine Go_i2l (q := 472) CM dL_law_471 rfl ?_
  refine Go_ldc2 (q := 475) (v := (4294967295 : Int64)) CM wm_1_7 dL_law_472 rfl ?_
  refine Go_land (q := 476) CM dL_law_475 rfl ?_
  refine Go_lor (q := 477) CM dL_law_476 rfl ?_
  refine Go_topl (fun z0 ez0 => ?_)
  obtain rfl : y0 = z0 := ey0.trans ez0.symm
  refine Go_aload_n (q := 478) CM 0 rfl dL_law_477 rfl ?_
  refine Go_iload (q := 480) CM 4 rfl dL_law_478 rfl ?_
  refine Go_iconst (q := 481) (v := (3 : Int32)) CM dL_law_480 rfl rfl ?_
  refine Go_iadd (q := 482) CM dL_law_481 rfl ?_
  refine Go_sld (q := 483) CM hX hb hA (sx3 (7 * j)) (by omega) hL dL_law_482 rfl ?_
  refine Go_callV_I (av := fun ad => [.long y0, .int (xs (7 * j + 3))]) (st := [.int r1]) (C := CM) (hM := c_X12_where (Gl G0) hM hw) (hlk := wm_33_22) (hini := wm_1_5) (hins := wm_33_23) (hsel := wm_34_0) (hcode := wm_34_1) (ho := kM_0) (hci := rfl) (hc13 := by decide) (n := 2) (hd := by decide +kernel) (hr0 := ⟨rfl, rfl⟩) (hroom := ⟨by decide +kernel, by decide +kernel⟩) (hlen := rfl) (hst := rfl) (hW := Nat.le_of_ble_eq_true rfl) (hdg := dL_law_483) (q := 486) (hq := rfl) (fun r2 S2 hw hM => ?_)
  refine Go_icmp_eq (t := 1100) (q := 489) CM dec_if dL_law_486 rfl rfl (fun _ => ?_) (fun hn => absurd hw.1 hn)
  exact Go_toE (Nat.le_refl _) (Nat.le_refl _) (T _ _ _ hw.2 hE hM)
set_option maxHeartbeats 1000000 in
theorem lc_5 {G0 : GC} {adE adM : Nat → Nat} {aO b L : Nat} {xs : Nat → Int32} {f : Nat → Int64} {SE SM : St} {j k w : Nat} (h : LC G0 b L xs j k w) (hr : RR SE SM) (hE : RCE SE) (hM : RCM SM) (T : Tail G0 adE adM aO b (nI (7 * j)) k w) : Go (GE G0 adE adM aO f SM k w) 7 491 [] (lvL adE adM aO b (nI (7 * j))) SE := by
  obtain ⟨⟨sh0, N0, CJ⟩, hX, hb, hA, hL, hj, hk, hws⟩ := h
  have CB := Cx_big CJ
  have CE : Cx (GE G0 adE adM aO f SM k w) code BIG RL 7 (some .boolean) room_1 shE NE := Cx_gw CB hk hws
  refine Go_aload_n (q := 492) CE 1 rfl dL_law_491 rfl ?_
  refine Go_aload_n (q := 493) CE 0 rfl dL_law_492 rfl ?_
  refine Go_iload (q := 495) CE 4 rfl dL_law_493 rfl ?_
  refine Go_iconst (q := 496) (v := (1 : Int32)) CE dL_law_495 rfl rfl ?_
  refine Go_iadd (q := 497) CE dL_law_496 rfl ?_
  refine Go_sld (q := 498) CE hX hb hA (sx1 (7 * j)) (by omega) hL dL_law_497 rfl ?_
  refine Go_aload_n (q := 499) CE 0 rfl dL_law_498 rfl ?_
  refine Go_iload (q := 501) CE 4 rfl dL_law_499 rfl ?_
  refine Go_iconst (q := 502) (v := (2 : Int32)) CE dL_law_501 rfl rfl ?_
  refine Go_iadd (q := 503) CE dL_law_502 rfl ?_
  refine Go_sld (q := 504) CE hX hb hA (sx2 (7 * j)) (by omega) hL dL_law_503 rfl ?_
  refine Go_callV_I (av := fun ad => [.int (xs (7 * j + 1)), .int (xs (7 * j + 2))]) (st := []) (C := CE) (hM := c_X11_meets (Gl G0) hE (r_meets hr)) (hlk := wm_34_6) (hini := wm_1_2) (hins := wm_34_7) (hsel := wm_34_8) (hcode := wm_34_9) (ho := kE_0) (hci := rfl) (hc13 := by decide) (n := 2) (hd := by decide +kernel) (hr0 := ⟨rfl, rfl⟩) (hroom := ⟨by decide +kernel, by decide +kernel⟩) (hlen := rfl) (hst := rfl) (hW := Nat.le_of_ble_eq_true rfl) (hdg := dL_law_504) (q := 507) (hq := rfl) (fun r1 S1 hw hE => ?_)
  refine Go_toM (Nat.le_refl _) (Nat.le_refl _) ?_
  have CM : Cx (GM G0 adE adM aO f S1 k w) code BIG RL 7 (some .boolean) room_1 shM NM := Cx_gw CB hk hws
  refine Go_aload_n (q := 508) CM 2 rfl dL_law_507 rfl ?_
  refine Go_aload_n (q := 509) CM 0 rfl dL_law_508 rfl ?_
  refine Go_iload (q := 511) CM 4 rfl dL_law_509 rfl ?_
  refine Go_iconst (q := 512) (v := (1 : Int32)) CM dL_law_511 rfl rfl ?_
  refine Go_iadd (q := 513) CM dL_law_512 rfl ?_
  refine Go_sld (q := 514) CM hX hb hA (sx1 (7 * j)) (by omega) hL dL_law_513 rfl ?_
  refine Go_aload_n (q := 515) CM 0 rfl dL_law_514 rfl ?_
  refine Go_iload (q := 517) CM 4 rfl dL_law_515 rfl ?_
  refine Go_iconst (q := 518) (v := (2 : Int32)) CM dL_law_517 rfl rfl ?_
  refine Go_iadd (q := 519) CM dL_law_518 rfl ?_
  refine Go_sld (q := 520) CM hX hb hA (sx2 (7 * j)) (by omega) hL dL_law_519 rfl ?_
  refine Go_callV_I (av := fun ad => [.int (xs (7 * j + 1)), .int (xs (7 * j + 2))]) (st := [.int r1]) (C := CM) (hM := c_X12_meets (Gl G0) hM hw) (hlk := wm_34_14) (hini := wm_1_5) (hins := wm_34_15) (hsel := wm_34_16) (hcode := wm_34_17) (ho := kM_0) (hci := rfl) (hc13 := by decide) (n := 2) (hd := by decide +kernel) (hr0 := ⟨rfl, rfl⟩) (hroom := ⟨by decide +kernel, by decide +kernel⟩) (hlen := rfl) (hst := rfl) (hW := Nat.le_of_ble_eq_true rfl) (hdg := dL_law_520) (q := 523) (hq := rfl) (fun r2 S2 hw hM => ?_)
  refine Go_icmp_eq (t := 1100) (q := 526) CM dec_if dL_law_523 rfl rfl (fun _ => ?_) (fun hn => absurd hw.1 hn)
  exact Go_toE (Nat.le_refl _) (Nat.le_refl _) (T _ _ _ hw.2 hE hM)
set_option maxHeartbeats 1000000 in
theorem lc_6 {G0 : GC} {adE adM : Nat → Nat} {aO b L : Nat} {xs : Nat → Int32} {f : Nat → Int64} {SE SM : St} {j k w : Nat} (h : LC G0 b L xs j k w) (hr : RR SE SM) (hE : RCE SE) (hM : RCM SM) (T : Tail G0 adE adM aO b (nI (7 * j)) k w) : Go (GE G0 adE adM aO f SM k w) 7 528 [] (lvL adE adM aO b (nI (7 * j))) SE := by
  obtain ⟨⟨sh0, N0, CJ⟩, hX, hb, hA, hL, hj, hk, hws⟩ := h
  have CB := Cx_big CJ
  have CE : Cx (GE G0 adE adM aO f SM k w) code BIG RL 7 (some .boolean) room_1 shE NE := Cx_gw CB hk hws
  refine Go_aload_n (q := 529) CE 1 rfl dL_law_528 rfl ?_
  refine Go_aload_n (q := 530) CE 0 rfl dL_law_529 rfl ?_
  refine Go_iload (q := 532) CE 4 rfl dL_law_530 rfl ?_
  refine Go_iconst (q := 533) (v := (1 : Int32)) CE dL_law_532 rfl rfl ?_
  refine Go_iadd (q := 534) CE dL_law_533 rfl ?_
  refine Go_sld (q := 535) CE hX hb hA (sx1 (7 * j)) (by omega) hL dL_law_534 rfl ?_
  refine Go_callV_I (av := fun ad => [.int (xs (7 * j + 1))]) (st := []) (C := CE) (hM := c_X11_round (Gl G0) hE (r_round hr)) (hlk := wm_34_18) (hini := wm_1_2) (hins := wm_34_19) (hsel := wm_34_20) (hcode := wm_34_21) (ho := kE_0) (hci := rfl) (hc13 := by decide) (n := 1) (hd := by decide +kernel) (hr0 := ⟨rfl, rfl⟩) (hroom := ⟨by decide +kernel, by decide +kernel⟩) (hlen := rfl) (hst := rfl) (hW := Nat.le_of_ble_eq_true rfl) (hdg := dL_law_535) (q := 538) (hq := rfl) (fun r1 S1 hw hE => ?_)
  refine Go_toM (Nat.le_refl _) (Nat.le_refl _) ?_
  have CM : Cx (GM G0 adE adM aO f S1 k w) code BIG RL 7 (some .boolean) room_1 shM NM := Cx_gw CB hk hws
  refine Go_aload_n (q := 539) CM 2 rfl dL_law_538 rfl ?_
  refine Go_aload_n (q := 540) CM 0 rfl dL_law_539 rfl ?_
  refine Go_iload (q := 542) CM 4 rfl dL_law_540 rfl ?_
  refine Go_iconst (q := 543) (v := (1 : Int32)) CM dL_law_542 rfl rfl ?_
  refine Go_iadd (q := 544) CM dL_law_543 rfl ?_
  refine Go_sld (q := 545) CM hX hb hA (sx1 (7 * j)) (by omega) hL dL_law_544 rfl ?_
  refine Go_callV_I (av := fun ad => [.int (xs (7 * j + 1))]) (st := [.int r1]) (C := CM) (hM := c_X12_round (Gl G0) hM hw) (hlk := wm_34_22) (hini := wm_1_5) (hins := wm_34_23) (hsel := wm_35_0) (hcode := wm_35_1) (ho := kM_0) (hci := rfl) (hc13 := by decide) (n := 1) (hd := by decide +kernel) (hr0 := ⟨rfl, rfl⟩) (hroom := ⟨by decide +kernel, by decide +kernel⟩) (hlen := rfl) (hst := rfl) (hW := Nat.le_of_ble_eq_true rfl) (hdg := dL_law_545) (q := 548) (hq := rfl) (fun r2 S2 hw hM => ?_)
  refine Go_icmp_eq (t := 1100) (q := 551) CM dec_if dL_law_548 rfl rfl (fun _ => ?_) (fun hn => absurd hw.1 hn)
  exact Go_toE (Nat.le_refl _) (Nat.le_refl _) (T _ _ _ hw.2 hE hM)
set_option maxHeartbeats 1000000 in
theorem lc_7 {G0 : GC} {adE adM : Nat → Nat} {aO b L : Nat} {xs : Nat → Int32} {f : Nat → Int64} {SE SM : St} {j k w : Nat} (h : LC G0 b L xs j k w) (hr : RR SE SM) (hE : RCE SE) (hM : RCM SM) (T : Tail G0 adE adM aO b (nI (7 * j)) k w) : Go (GE G0 adE adM aO f SM k w) 7 553 [] (lvL adE adM aO b (nI (7 * j))) SE := by
  obtain ⟨⟨sh0, N0, CJ⟩, hX, hb, hA, hL, hj, hk, hws⟩ := h
  have CB := Cx_big CJ
  have CE : Cx (GE G0 adE adM aO f SM k w) code BIG RL 7 (some .boolean) room_1 shE NE := Cx_gw CB hk hws
  refine Go_aload_n (q := 554) CE 1 rfl dL_law_553 rfl ?_
  refine Go_callV_L (av := fun ad => []) (st := []) (C := CE) (hM := c_X11_roots (Gl G0) hE (r_roots hr)) (hlk := wm_35_14) (hini := wm_1_2) (hins := wm_35_15) (hsel := wm_35_16) (hcode := wm_35_17) (ho := kE_0) (hci := rfl) (hc13 := by decide) (n := 0) (hd := by decide +kernel) (hr0 := ⟨rfl, rfl⟩) (hroom := ⟨by decide +kernel, by decide +kernel⟩) (hlen := rfl) (hst := rfl) (hW := Nat.le_of_ble_eq_true rfl) (hdg := dL_law_554) (q := 557) (hq := rfl) (fun r1 S1 hw hE => ?_)
  refine Go_toM (Nat.le_refl _) (Nat.le_refl _) ?_
  have CM : Cx (GM G0 adE adM aO f S1 k w) code BIG RL 7 (some .boolean) room_1 shM NM := Cx_gw CB hk hws
  refine Go_aload_n (q := 558) CM 2 rfl dL_law_557 rfl ?_
  refine Go_callV_L (av := fun ad => []) (st := [.long r1]) (C := CM) (hM := c_X12_roots (Gl G0) hM hw) (hlk := wm_36_1) (hini := wm_1_5) (hins := wm_36_2) (hsel := wm_36_3) (hcode := wm_36_4) (ho := kM_0) (hci := rfl) (hc13 := by decide) (n := 0) (hd := by decide +kernel) (hr0 := ⟨rfl, rfl⟩) (hroom := ⟨by decide +kernel, by decide +kernel⟩) (hlen := rfl) (hst := rfl) (hW := Nat.le_of_ble_eq_true rfl) (hdg := dL_law_558) (q := 561) (hq := rfl) (fun r2 S2 hw hM => ?_)
  refine Go_lcmp_eq (t := 1100) (q := 562) (q2 := 565) CM dec_if dL_law_561 rfl dL_law_562 rfl rfl (fun _ => ?_) (fun hn => absurd hw.1 hn)
  exact Go_toE (Nat.le_refl _) (Nat.le_refl _) (T _ _ _ hw.2 hE hM)
set_option maxHeartbeats 1000000 in
theorem lc_8 {G0 : GC} {adE adM : Nat → Nat} {aO b L : Nat} {xs : Nat → Int32} {f : Nat → Int64} {SE SM : St} {j k w : Nat} (h : LC G0 b L xs j k w) (hr : RR SE SM) (hE : RCE SE) (hM : RCM SM) (T : Tail G0 adE adM aO b (nI (7 * j)) k w) : Go (GE G0 adE adM aO f SM k w) 7 567 [] (lvL adE adM aO b (nI (7 * j))) SE := by
  obtain ⟨⟨sh0, N0, CJ⟩, hX, hb, hA, hL, hj, hk, hws⟩ := h
  have CB := Cx_big CJ
  have CE : Cx (GE G0 adE adM aO f SM k w) code BIG RL 7 (some .boolean) room_1 shE NE := Cx_gw CB hk hws
  refine Go_aload_n (q := 568) CE 1 rfl dL_law_567 rfl ?_
  refine Go_aload_n (q := 569) CE 0 rfl dL_law_568 rfl ?_
  refine Go_iload (q := 571) CE 4 rfl dL_law_569 rfl ?_
  refine Go_iconst (q := 572) (v := (1 : Int32)) CE dL_law_571 rfl rfl ?_
  refine Go_iadd (q := 573) CE dL_law_572 rfl ?_
  refine Go_sld (q := 574) CE hX hb hA (sx1 (7 * j)) (by omega) hL dL_law_573 rfl ?_
  refine Go_aload_n (q := 575) CE 0 rfl dL_law_574 rfl ?_
  refine Go_iload (q := 577) CE 4 rfl dL_law_575 rfl ?_
  refine Go_iconst (q := 578) (v := (2 : Int32)) CE dL_law_577 rfl rfl ?_
  refine Go_iadd (q := 579) CE dL_law_578 rfl ?_
  refine Go_sld (q := 580) CE hX hb hA (sx2 (7 * j)) (by omega) hL dL_law_579 rfl ?_
  refine Go_callV_I (av := fun ad => [.int (xs (7 * j + 1)), .int (xs (7 * j + 2))]) (st := []) (C := CE) (hM := c_X11_spiral (Gl G0) hE (r_spiral hr)) (hlk := wm_36_8) (hini := wm_1_2) (hins := wm_36_9) (hsel := wm_36_10) (hcode := wm_36_11) (ho := kE_0) (hci := rfl) (hc13 := by decide) (n := 2) (hd := by decide +kernel) (hr0 := ⟨rfl, rfl⟩) (hroom := ⟨by decide +kernel, by decide +kernel⟩) (hlen := rfl) (hst := rfl) (hW := Nat.le_of_ble_eq_true rfl) (hdg := dL_law_580) (q := 583) (hq := rfl) (fun r1 S1 hw hE => ?_)
  refine Go_toM (Nat.le_refl _) (Nat.le_refl _) ?_
  have CM : Cx (GM G0 adE adM aO f S1 k w) code BIG RL 7 (some .boolean) room_1 shM NM := Cx_gw CB hk hws
  refine Go_aload_n (q := 584) CM 2 rfl dL_law_583 rfl ?_
  refine Go_aload_n (q := 585) CM 0 rfl dL_law_584 rfl ?_
  refine Go_iload (q := 587) CM 4 rfl dL_law_585 rfl ?_
  refine Go_iconst (q := 588) (v := (1 : Int32)) CM dL_law_587 rfl rfl ?_
  refine Go_iadd (q := 589) CM dL_law_588 rfl ?_
  refine Go_sld (q := 590) CM hX hb hA (sx1 (7 * j)) (by omega) hL dL_law_589 rfl ?_
  refine Go_aload_n (q := 591) CM 0 rfl dL_law_590 rfl ?_
  refine Go_iload (q := 593) CM 4 rfl dL_law_591 rfl ?_
  refine Go_iconst (q := 594) (v := (2 : Int32)) CM dL_law_593 rfl rfl ?_
  refine Go_iadd (q := 595) CM dL_law_594 rfl ?_
  refine Go_sld (q := 596) CM hX hb hA (sx2 (7 * j)) (by omega) hL dL_law_595 rfl ?_
  refine Go_callV_I (av := fun ad => [.int (xs (7 * j + 1)), .int (xs (7 * j + 2))]) (st := [.int r1]) (C := CM) (hM := c_X12_spiral (Gl G0) hM hw) (hlk := wm_36_16) (hini := wm_1_5) (hins := wm_36_17) (hsel := wm_36_18) (hcode := wm_36_19) (ho := kM_0) (hci := rfl) (hc13 := by decide) (n := 2) (hd := by decide +kernel) (hr0 := ⟨rfl, rfl⟩) (hroom := ⟨by decide +kernel, by decide +kernel⟩) (hlen := rfl) (hst := rfl) (hW := Nat.le_of_ble_eq_true rfl) (hdg := dL_law_596) (q := 599) (hq := rfl) (fun r2 S2 hw hM => ?_)
  refine Go_icmp_eq (t := 1100) (q := 602) CM dec_if dL_law_599 rfl rfl (fun _ => ?_) (fun hn => absurd hw.1 hn)
  exact Go_toE (Nat.le_refl _) (Nat.le_refl _) (T _ _ _ hw.2 hE hM)
set_option maxHeartbeats 1000000 in
theorem lc_9 {G0 : GC} {adE adM : Nat → Nat} {aO b L : Nat} {xs : Nat → Int32} {f : Nat → Int64} {SE SM : St} {j k w : Nat} (h : LC G0 b L xs j k w) (hr : RR SE SM) (hE : RCE SE) (hM : RCM SM) (T : Tail G0 adE adM aO b (nI (7 * j)) k w) : Go (GE G0 adE adM aO f SM k w) 7 604 [] (lvL adE adM aO b (nI (7 * j))) SE := by
  obtain ⟨⟨sh0, N0, CJ⟩, hX, hb, hA, hL, hj, hk, hws⟩ := h
  have CB := Cx_big CJ
  have CE : Cx (GE G0 adE adM aO f SM k w) code BIG RL 7 (some .boolean) room_1 shE NE := Cx_gw CB hk hws
  refine Go_aload_n (q := 605) CE 1 rfl dL_law_604 rfl ?_
  refine Go_aload_n (q := 606) CE 0 rfl dL_law_605 rfl ?_
  refine Go_iload (q := 608) CE 4 rfl dL_law_606 rfl ?_
  refine Go_iconst (q := 609) (v := (1 : Int32)) CE dL_law_608 rfl rfl ?_
  refine Go_iadd (q := 610) CE dL_law_609 rfl ?_
  refine Go_sld (q := 611) CE hX hb hA (sx1 (7 * j)) (by omega) hL dL_law_610 rfl ?_
  refine Go_callV_I (av := fun ad => [.int (xs (7 * j + 1))]) (st := []) (C := CE) (hM := c_X11_rhymes (Gl G0) hE (r_rhymes hr)) (hlk := wm_36_21) (hini := wm_1_2) (hins := wm_36_22) (hsel := wm_36_23) (hcode := wm_37_0) (ho := kE_0) (hci := rfl) (hc13 := by decide) (n := 1) (hd := by decide +kernel) (hr0 := ⟨rfl, rfl⟩) (hroom := ⟨by decide +kernel, by decide +kernel⟩) (hlen := rfl) (hst := rfl) (hW := Nat.le_of_ble_eq_true rfl) (hdg := dL_law_611) (q := 614) (hq := rfl) (fun r1 S1 hw hE => ?_)
  refine Go_toM (Nat.le_refl _) (Nat.le_refl _) ?_
  have CM : Cx (GM G0 adE adM aO f S1 k w) code BIG RL 7 (some .boolean) room_1 shM NM := Cx_gw CB hk hws
  refine Go_aload_n (q := 615) CM 2 rfl dL_law_614 rfl ?_
  refine Go_aload_n (q := 616) CM 0 rfl dL_law_615 rfl ?_
  refine Go_iload (q := 618) CM 4 rfl dL_law_616 rfl ?_
  refine Go_iconst (q := 619) (v := (1 : Int32)) CM dL_law_618 rfl rfl ?_
  refine Go_iadd (q := 620) CM dL_law_619 rfl ?_
  refine Go_sld (q := 621) CM hX hb hA (sx1 (7 * j)) (by omega) hL dL_law_620 rfl ?_
  refine Go_callV_I (av := fun ad => [.int (xs (7 * j + 1))]) (st := [.int r1]) (C := CM) (hM := c_X12_rhymes (Gl G0) hM hw) (hlk := wm_37_1) (hini := wm_1_5) (hins := wm_37_2) (hsel := wm_37_3) (hcode := wm_37_4) (ho := kM_0) (hci := rfl) (hc13 := by decide) (n := 1) (hd := by decide +kernel) (hr0 := ⟨rfl, rfl⟩) (hroom := ⟨by decide +kernel, by decide +kernel⟩) (hlen := rfl) (hst := rfl) (hW := Nat.le_of_ble_eq_true rfl) (hdg := dL_law_621) (q := 624) (hq := rfl) (fun r2 S2 hw hM => ?_)
  refine Go_icmp_eq (t := 1100) (q := 627) CM dec_if dL_law_624 rfl rfl (fun _ => ?_) (fun hn => absurd hw.1 hn)
  exact Go_toE (Nat.le_refl _) (Nat.le_refl _) (T _ _ _ hw.2 hE hM)
set_option maxHeartbeats 1000000 in
theorem lc_10 {G0 : GC} {adE adM : Nat → Nat} {aO b L : Nat} {xs : Nat → Int32} {f : Nat → Int64} {SE SM : St} {j k w : Nat} (h : LC G0 b L xs j k w) (hr : RR SE SM) (hE : RCE SE) (hM : RCM SM) (T : Tail G0 adE adM aO b (nI (7 * j)) k w) : Go (GE G0 adE adM aO f SM k w) 7 629 [] (lvL adE adM aO b (nI (7 * j))) SE := by
  obtain ⟨⟨sh0, N0, CJ⟩, hX, hb, hA, hL, hj, hk, hws⟩ := h
  have CB := Cx_big CJ
  have CE : Cx (GE G0 adE adM aO f SM k w) code BIG RL 7 (some .boolean) room_1 shE NE := Cx_gw CB hk hws
  refine Go_aload_n (q := 630) CE 1 rfl dL_law_629 rfl ?_
  refine Go_aload_n (q := 631) CE 0 rfl dL_law_630 rfl ?_
  refine Go_iload (q := 633) CE 4 rfl dL_law_631 rfl ?_
  refine Go_iconst (q := 634) (v := (1 : Int32)) CE dL_law_633 rfl rfl ?_
  refine Go_iadd (q := 635) CE dL_law_634 rfl ?_
  refine Go_sld (q := 636) CE hX hb hA (sx1 (7 * j)) (by omega) hL dL_law_635 rfl ?_
  refine Go_aload_n (q := 637) CE 0 rfl dL_law_636 rfl ?_
  refine Go_iload (q := 639) CE 4 rfl dL_law_637 rfl ?_
  refine Go_iconst (q := 640) (v := (2 : Int32)) CE dL_law_639 rfl rfl ?_
  refine Go_iadd (q := 641) CE dL_law_640 rfl ?_
  refine Go_sld (q := 642) CE hX hb hA (sx2 (7 * j)) (by omega) hL dL_law_641 rfl ?_
  refine Go_callV_I (av := fun ad => [.int (xs (7 * j + 1)), .int (xs (7 * j + 2))]) (st := []) (C := CE) (hM := c_X11_beside (Gl G0) hE (r_beside hr)) (hlk := wm_37_10) (hini := wm_1_2) (hins := wm_37_11) (hsel := wm_37_12) (hcode := wm_37_13) (ho := kE_0) (hci := rfl) (hc13 := by decide) (n := 2) (hd := by decide +kernel) (hr0 := ⟨rfl, rfl⟩) (hroom := ⟨by decide +kernel, by decide +kernel⟩) (hlen := rfl) (hst := rfl) (hW := Nat.le_of_ble_eq_true rfl) (hdg := dL_law_642) (q := 645) (hq := rfl) (fun r1 S1 hw hE => ?_)
  refine Go_toM (Nat.le_refl _) (Nat.le_refl _) ?_
  have CM : Cx (GM G0 adE adM aO f S1 k w) code BIG RL 7 (some .boolean) room_1 shM NM := Cx_gw CB hk hws
  refine Go_aload_n (q := 646) CM 2 rfl dL_law_645 rfl ?_
  refine Go_aload_n (q := 647) CM 0 rfl dL_law_646 rfl ?_
  refine Go_iload (q := 649) CM 4 rfl dL_law_647 rfl ?_
  refine Go_iconst (q := 650) (v := (1 : Int32)) CM dL_law_649 rfl rfl ?_
  refine Go_iadd (q := 651) CM dL_law_650 rfl ?_
  refine Go_sld (q := 652) CM hX hb hA (sx1 (7 * j)) (by omega) hL dL_law_651 rfl ?_
  refine Go_aload_n (q := 653) CM 0 rfl dL_law_652 rfl ?_
  refine Go_iload (q := 655) CM 4 rfl dL_law_653 rfl ?_
  refine Go_iconst (q := 656) (v := (2 : Int32)) CM dL_law_655 rfl rfl ?_
  refine Go_iadd (q := 657) CM dL_law_656 rfl ?_
  refine Go_sld (q := 658) CM hX hb hA (sx2 (7 * j)) (by omega) hL dL_law_657 rfl ?_
  refine Go_callV_I (av := fun ad => [.int (xs (7 * j + 1)), .int (xs (7 * j + 2))]) (st := [.int r1]) (C := CM) (hM := c_X12_beside (Gl G0) hM hw) (hlk := wm_37_18) (hini := wm_1_5) (hins := wm_37_19) (hsel := wm_37_20) (hcode := wm_37_21) (ho := kM_0) (hci := rfl) (hc13 := by decide) (n := 2) (hd := by decide +kernel) (hr0 := ⟨rfl, rfl⟩) (hroom := ⟨by decide +kernel, by decide +kernel⟩) (hlen := rfl) (hst := rfl) (hW := Nat.le_of_ble_eq_true rfl) (hdg := dL_law_658) (q := 661) (hq := rfl) (fun r2 S2 hw hM => ?_)
  refine Go_icmp_eq (t := 1100) (q := 664) CM dec_if dL_law_661 rfl rfl (fun _ => ?_) (fun hn => absurd hw.1 hn)
  exact Go_toE (Nat.le_refl _) (Nat.le_refl _) (T _ _ _ hw.2 hE hM)
set_option maxHeartbeats 1000000 in
theorem lc_11 {G0 : GC} {adE adM : Nat → Nat} {aO b L : Nat} {xs : Nat → Int32} {f : Nat → Int64} {SE SM : St} {j k w : Nat} (h : LC G0 b L xs j k w) (hr : RR SE SM) (hE : RCE SE) (hM : RCM SM) (T : Tail G0 adE adM aO b (nI (7 * j)) k w) : Go (GE G0 adE adM aO f SM k w) 7 666 [] (lvL adE adM aO b (nI (7 * j))) SE := by
  obtain ⟨⟨sh0, N0, CJ⟩, hX, hb, hA, hL, hj, hk, hws⟩ := h
  have CB := Cx_big CJ
  have CE : Cx (GE G0 adE adM aO f SM k w) code BIG RL 7 (some .boolean) room_1 shE NE := Cx_gw CB hk hws
  refine Go_aload_n (q := 667) CE 1 rfl dL_law_666 rfl ?_
  refine Go_aload_n (q := 668) CE 0 rfl dL_law_667 rfl ?_
  refine Go_iload (q := 670) CE 4 rfl dL_law_668 rfl ?_
  refine Go_iconst (q := 671) (v := (1 : Int32)) CE dL_law_670 rfl rfl ?_
  refine Go_iadd (q := 672) CE dL_law_671 rfl ?_
  refine Go_sld (q := 673) CE hX hb hA (sx1 (7 * j)) (by omega) hL dL_law_672 rfl ?_
  refine Go_aload_n (q := 674) CE 0 rfl dL_law_673 rfl ?_
  refine Go_iload (q := 676) CE 4 rfl dL_law_674 rfl ?_
  refine Go_iconst (q := 677) (v := (2 : Int32)) CE dL_law_676 rfl rfl ?_
  refine Go_iadd (q := 678) CE dL_law_677 rfl ?_
  refine Go_sld (q := 679) CE hX hb hA (sx2 (7 * j)) (by omega) hL dL_law_678 rfl ?_
  refine Go_callV_I (av := fun ad => [.int (xs (7 * j + 1)), .int (xs (7 * j + 2))]) (st := []) (C := CE) (hM := c_X11_word (Gl G0) hE (r_word hr)) (hlk := wm_38_1) (hini := wm_1_2) (hins := wm_38_2) (hsel := wm_38_3) (hcode := wm_38_4) (ho := kE_0) (hci := rfl) (hc13 := by decide) (n := 2) (hd := by decide +kernel) (hr0 := ⟨rfl, rfl⟩) (hroom := ⟨by decide +kernel, by decide +kernel⟩) (hlen := rfl) (hst := rfl) (hW := Nat.le_of_ble_eq_true rfl) (hdg := dL_law_679) (q := 682) (hq := rfl) (fun r1 S1 hw hE => ?_)
  refine Go_toM (Nat.le_refl _) (Nat.le_refl _) ?_
  have CM : Cx (GM G0 adE adM aO f S1 k w) code BIG RL 7 (some .boolean) room_1 shM NM := Cx_gw CB hk hws
  refine Go_aload_n (q := 683) CM 2 rfl dL_law_682 rfl ?_
  refine Go_aload_n (q := 684) CM 0 rfl dL_law_683 rfl ?_
  refine Go_iload (q := 686) CM 4 rfl dL_law_684 rfl ?_
  refine Go_iconst (q := 687) (v := (1 : Int32)) CM dL_law_686 rfl rfl ?_
  refine Go_iadd (q := 688) CM dL_law_687 rfl ?_
  refine Go_sld (q := 689) CM hX hb hA (sx1 (7 * j)) (by omega) hL dL_law_688 rfl ?_
  refine Go_aload_n (q := 690) CM 0 rfl dL_law_689 rfl ?_
  refine Go_iload (q := 692) CM 4 rfl dL_law_690 rfl ?_
  refine Go_iconst (q := 693) (v := (2 : Int32)) CM dL_law_692 rfl rfl ?_
  refine Go_iadd (q := 694) CM dL_law_693 rfl ?_
  refine Go_sld (q := 695) CM hX hb hA (sx2 (7 * j)) (by omega) hL dL_law_694 rfl ?_
  refine Go_callV_I (av := fun ad => [.int (xs (7 * j + 1)), .int (xs (7 * j + 2))]) (st := [.int r1]) (C := CM) (hM := c_X12_word (Gl G0) hM hw) (hlk := wm_38_9) (hini := wm_1_5) (hins := wm_38_10) (hsel := wm_38_11) (hcode := wm_38_12) (ho := kM_0) (hci := rfl) (hc13 := by decide) (n := 2) (hd := by decide +kernel) (hr0 := ⟨rfl, rfl⟩) (hroom := ⟨by decide +kernel, by decide +kernel⟩) (hlen := rfl) (hst := rfl) (hW := Nat.le_of_ble_eq_true rfl) (hdg := dL_law_695) (q := 698) (hq := rfl) (fun r2 S2 hw hM => ?_)
  refine Go_icmp_eq (t := 1100) (q := 701) CM dec_if dL_law_698 rfl rfl (fun _ => ?_) (fun hn => absurd hw.1 hn)
  exact Go_toE (Nat.le_refl _) (Nat.le_refl _) (T _ _ _ hw.2 hE hM)
set_option maxHeartbeats 1000000 in
theorem lc_12 {G0 : GC} {adE adM : Nat → Nat} {aO b L : Nat} {xs : Nat → Int32} {f : Nat → Int64} {SE SM : St} {j k w : Nat} (h : LC G0 b L xs j k w) (hr : RR SE SM) (hE : RCE SE) (hM : RCM SM) (T : Tail G0 adE adM aO b (nI (7 * j)) k w) : Go (GE G0 adE adM aO f SM k w) 7 703 [] (lvL adE adM aO b (nI (7 * j))) SE := by
  obtain ⟨⟨sh0, N0, CJ⟩, hX, hb, hA, hL, hj, hk, hws⟩ := h
  have CB := Cx_big CJ
  have CE : Cx (GE G0 adE adM aO f SM k w) code BIG RL 7 (some .boolean) room_1 shE NE := Cx_gw CB hk hws
  refine Go_aload_n (q := 704) CE 1 rfl dL_law_703 rfl ?_
  refine Go_aload_n (q := 705) CE 0 rfl dL_law_704 rfl ?_
  refine Go_iload (q := 707) CE 4 rfl dL_law_705 rfl ?_
  refine Go_iconst (q := 708) (v := (1 : Int32)) CE dL_law_707 rfl rfl ?_
  refine Go_iadd (q := 709) CE dL_law_708 rfl ?_
  refine Go_sld (q := 710) CE hX hb hA (sx1 (7 * j)) (by omega) hL dL_law_709 rfl ?_
  refine Go_aload_n (q := 711) CE 0 rfl dL_law_710 rfl ?_
  refine Go_iload (q := 713) CE 4 rfl dL_law_711 rfl ?_
  refine Go_iconst (q := 714) (v := (2 : Int32)) CE dL_law_713 rfl rfl ?_
  refine Go_iadd (q := 715) CE dL_law_714 rfl ?_
  refine Go_sld (q := 716) CE hX hb hA (sx2 (7 * j)) (by omega) hL dL_law_715 rfl ?_
  refine Go_callV_I (av := fun ad => [.int (xs (7 * j + 1)), .int (xs (7 * j + 2))]) (st := []) (C := CE) (hM := c_X11_barred (Gl G0) hE (r_barred hr)) (hlk := wm_38_17) (hini := wm_1_2) (hins := wm_38_18) (hsel := wm_38_19) (hcode := wm_38_20) (ho := kE_0) (hci := rfl) (hc13 := by decide) (n := 2) (hd := by decide +kernel) (hr0 := ⟨rfl, rfl⟩) (hroom := ⟨by decide +kernel, by decide +kernel⟩) (hlen := rfl) (hst := rfl) (hW := Nat.le_of_ble_eq_true rfl) (hdg := dL_law_716) (q := 719) (hq := rfl) (fun r1 S1 hw hE => ?_)
  refine Go_toM (Nat.le_refl _) (Nat.le_refl _) ?_
  have CM : Cx (GM G0 adE adM aO f S1 k w) code BIG RL 7 (some .boolean) room_1 shM NM := Cx_gw CB hk hws
  refine Go_aload_n (q := 720) CM 2 rfl dL_law_719 rfl ?_
  refine Go_aload_n (q := 721) CM 0 rfl dL_law_720 rfl ?_
  refine Go_iload (q := 723) CM 4 rfl dL_law_721 rfl ?_
  refine Go_iconst (q := 724) (v := (1 : Int32)) CM dL_law_723 rfl rfl ?_
  refine Go_iadd (q := 725) CM dL_law_724 rfl ?_
  refine Go_sld (q := 726) CM hX hb hA (sx1 (7 * j)) (by omega) hL dL_law_725 rfl ?_
  refine Go_aload_n (q := 727) CM 0 rfl dL_law_726 rfl ?_
  refine Go_iload (q := 729) CM 4 rfl dL_law_727 rfl ?_
  refine Go_iconst (q := 730) (v := (2 : Int32)) CM dL_law_729 rfl rfl ?_
  refine Go_iadd (q := 731) CM dL_law_730 rfl ?_
  refine Go_sld (q := 732) CM hX hb hA (sx2 (7 * j)) (by omega) hL dL_law_731 rfl ?_
  refine Go_callV_I (av := fun ad => [.int (xs (7 * j + 1)), .int (xs (7 * j + 2))]) (st := [.int r1]) (C := CM) (hM := c_X12_barred (Gl G0) hM hw) (hlk := wm_39_1) (hini := wm_1_5) (hins := wm_39_2) (hsel := wm_39_3) (hcode := wm_39_4) (ho := kM_0) (hci := rfl) (hc13 := by decide) (n := 2) (hd := by decide +kernel) (hr0 := ⟨rfl, rfl⟩) (hroom := ⟨by decide +kernel, by decide +kernel⟩) (hlen := rfl) (hst := rfl) (hW := Nat.le_of_ble_eq_true rfl) (hdg := dL_law_732) (q := 735) (hq := rfl) (fun r2 S2 hw hM => ?_)
  refine Go_icmp_eq (t := 1100) (q := 738) CM dec_if dL_law_735 rfl rfl (fun _ => ?_) (fun hn => absurd hw.1 hn)
  exact Go_toE (Nat.le_refl _) (Nat.le_refl _) (T _ _ _ hw.2 hE hM)
set_option maxHeartbeats 1000000 in
theorem lc_13 {G0 : GC} {adE adM : Nat → Nat} {aO b L : Nat} {xs : Nat → Int32} {f : Nat → Int64} {SE SM : St} {j k w : Nat} (h : LC G0 b L xs j k w) (hr : RR SE SM) (hE : RCE SE) (hM : RCM SM) (T : Tail G0 adE adM aO b (nI (7 * j)) k w) : Go (GE G0 adE adM aO f SM k w) 7 740 [] (lvL adE adM aO b (nI (7 * j))) SE := by
  obtain ⟨⟨sh0, N0, CJ⟩, hX, hb, hA, hL, hj, hk, hws⟩ := h
  have CB := Cx_big CJ
  have CE : Cx (GE G0 adE adM aO f SM k w) code BIG RL 7 (some .boolean) room_1 shE NE := Cx_gw CB hk hws
  refine Go_aload_n (q := 741) CE 1 rfl dL_law_740 rfl ?_
  refine Go_callV_L (av := fun ad => []) (st := []) (C := CE) (hM := c_X11_fills (Gl G0) hE (r_fills hr)) (hlk := wm_39_5) (hini := wm_1_2) (hins := wm_39_6) (hsel := wm_39_7) (hcode := wm_39_8) (ho := kE_0) (hci := rfl) (hc13 := by decide) (n := 0) (hd := by decide +kernel) (hr0 := ⟨rfl, rfl⟩) (hroom := ⟨by decide +kernel, by decide +kernel⟩) (hlen := rfl) (hst := rfl) (hW := Nat.le_of_ble_eq_true rfl) (hdg := dL_law_741) (q := 744) (hq := rfl) (fun r1 S1 hw hE => ?_)
  refine Go_toM (Nat.le_refl _) (Nat.le_refl _) ?_
  have CM : Cx (GM G0 adE adM aO f S1 k w) code BIG RL 7 (some .boolean) room_1 shM NM := Cx_gw CB hk hws
  refine Go_aload_n (q := 745) CM 2 rfl dL_law_744 rfl ?_
  refine Go_callV_L (av := fun ad => []) (st := [.long r1]) (C := CM) (hM := c_X12_fills (Gl G0) hM hw) (hlk := wm_41_6) (hini := wm_1_5) (hins := wm_41_7) (hsel := wm_41_8) (hcode := wm_41_9) (ho := kM_0) (hci := rfl) (hc13 := by decide) (n := 0) (hd := by decide +kernel) (hr0 := ⟨rfl, rfl⟩) (hroom := ⟨by decide +kernel, by decide +kernel⟩) (hlen := rfl) (hst := rfl) (hW := Nat.le_of_ble_eq_true rfl) (hdg := dL_law_745) (q := 748) (hq := rfl) (fun r2 S2 hw hM => ?_)
  refine Go_lcmp_eq (t := 1100) (q := 749) (q2 := 752) CM dec_if dL_law_748 rfl dL_law_749 rfl rfl (fun _ => ?_) (fun hn => absurd hw.1 hn)
  exact Go_toE (Nat.le_refl _) (Nat.le_refl _) (T _ _ _ hw.2 hE hM)
set_option maxHeartbeats 1000000 in
theorem lc_14 {G0 : GC} {adE adM : Nat → Nat} {aO b L : Nat} {xs : Nat → Int32} {f : Nat → Int64} {SE SM : St} {j k w : Nat} (h : LC G0 b L xs j k w) (hr : RR SE SM) (hE : RCE SE) (hM : RCM SM) (T : Tail G0 adE adM aO b (nI (7 * j)) k w) : Go (GE G0 adE adM aO f SM k w) 7 754 [] (lvL adE adM aO b (nI (7 * j))) SE := by
  obtain ⟨⟨sh0, N0, CJ⟩, hX, hb, hA, hL, hj, hk, hws⟩ := h
  have CB := Cx_big CJ
  have CE : Cx (GE G0 adE adM aO f SM k w) code BIG RL 7 (some .boolean) room_1 shE NE := Cx_gw CB hk hws
  refine Go_aload_n (q := 755) CE 1 rfl dL_law_754 rfl ?_
  refine Go_aload_n (q := 756) CE 0 rfl dL_law_755 rfl ?_
  refine Go_iload (q := 758) CE 4 rfl dL_law_756 rfl ?_
  refine Go_iconst (q := 759) (v := (1 : Int32)) CE dL_law_758 rfl rfl ?_
  refine Go_iadd (q := 760) CE dL_law_759 rfl ?_
  refine Go_sld (q := 761) CE hX hb hA (sx1 (7 * j)) (by omega) hL dL_law_760 rfl ?_
  refine Go_callV_I (av := fun ad => [.int (xs (7 * j + 1))]) (st := []) (C := CE) (hM := c_X11_fill (Gl G0) hE (r_fill hr)) (hlk := wm_42_4) (hini := wm_1_2) (hins := wm_42_5) (hsel := wm_42_6) (hcode := wm_42_7) (ho := kE_0) (hci := rfl) (hc13 := by decide) (n := 1) (hd := by decide +kernel) (hr0 := ⟨rfl, rfl⟩) (hroom := ⟨by decide +kernel, by decide +kernel⟩) (hlen := rfl) (hst := rfl) (hW := Nat.le_of_ble_eq_true rfl) (hdg := dL_law_761) (q := 764) (hq := rfl) (fun r1 S1 hw hE => ?_)
  refine Go_toM (Nat.le_refl _) (Nat.le_refl _) ?_
  have CM : Cx (GM G0 adE adM aO f S1 k w) code BIG RL 7 (some .boolean) room_1 shM NM := Cx_gw CB hk hws
  refine Go_aload_n (q := 765) CM 2 rfl dL_law_764 rfl ?_
  refine Go_aload_n (q := 766) CM 0 rfl dL_law_765 rfl ?_
  refine Go_iload (q := 768) CM 4 rfl dL_law_766 rfl ?_
  refine Go_iconst (q := 769) (v := (1 : Int32)) CM dL_law_768 rfl rfl ?_
  refine Go_iadd (q := 770) CM dL_law_769 rfl ?_
  refine Go_sld (q := 771) CM hX hb hA (sx1 (7 * j)) (by omega) hL dL_law_770 rfl ?_
  refine Go_callV_I (av := fun ad => [.int (xs (7 * j + 1))]) (st := [.int r1]) (C := CM) (hM := c_X12_fill (Gl G0) hM hw) (hlk := wm_42_13) (hini := wm_1_5) (hins := wm_42_14) (hsel := wm_42_15) (hcode := wm_42_16) (ho := kM_0) (hci := rfl) (hc13 := by decide) (n := 1) (hd := by decide +kernel) (hr0 := ⟨rfl, rfl⟩) (hroom := ⟨by decide +kernel, by decide +kernel⟩) (hlen := rfl) (hst := rfl) (hW := Nat.le_of_ble_eq_true rfl) (hdg := dL_law_771) (q := 774) (hq := rfl) (fun r2 S2 hw hM => ?_)
  refine Go_icmp_eq (t := 1100) (q := 777) CM dec_if dL_law_774 rfl rfl (fun _ => ?_) (fun hn => absurd hw.1 hn)
  exact Go_toE (Nat.le_refl _) (Nat.le_refl _) (T _ _ _ hw.2 hE hM)
set_option maxHeartbeats 1000000 in
theorem lc_15 {G0 : GC} {adE adM : Nat → Nat} {aO b L : Nat} {xs : Nat → Int32} {f : Nat → Int64} {SE SM : St} {j k w : Nat} (h : LC G0 b L xs j k w) (hr : RR SE SM) (hE : RCE SE) (hM : RCM SM) (T : Tail G0 adE adM aO b (nI (7 * j)) k w) : Go (GE G0 adE adM aO f SM k w) 7 779 [] (lvL adE adM aO b (nI (7 * j))) SE := by
  obtain ⟨⟨sh0, N0, CJ⟩, hX, hb, hA, hL, hj, hk, hws⟩ := h
  have CB := Cx_big CJ
  have CE : Cx (GE G0 adE adM aO f SM k w) code BIG RL 7 (some .boolean) room_1 shE NE := Cx_gw CB hk hws
  refine Go_aload_n (q := 780) CE 1 rfl dL_law_779 rfl ?_
  refine Go_aload_n (q := 781) CE 0 rfl dL_law_780 rfl ?_
  refine Go_iload (q := 783) CE 4 rfl dL_law_781 rfl ?_
  refine Go_iconst (q := 784) (v := (1 : Int32)) CE dL_law_783 rfl rfl ?_
  refine Go_iadd (q := 785) CE dL_law_784 rfl ?_
  refine Go_sld (q := 786) CE hX hb hA (sx1 (7 * j)) (by omega) hL dL_law_785 rfl ?_
  refine Go_callV_I (av := fun ad => [.int (xs (7 * j + 1))]) (st := []) (C := CE) (hM := c_X11_stuck (Gl G0) hE (r_stuck hr)) (hlk := wm_42_17) (hini := wm_1_2) (hins := wm_42_18) (hsel := wm_42_19) (hcode := wm_42_20) (ho := kE_0) (hci := rfl) (hc13 := by decide) (n := 1) (hd := by decide +kernel) (hr0 := ⟨rfl, rfl⟩) (hroom := ⟨by decide +kernel, by decide +kernel⟩) (hlen := rfl) (hst := rfl) (hW := Nat.le_of_ble_eq_true rfl) (hdg := dL_law_786) (q := 789) (hq := rfl) (fun r1 S1 hw hE => ?_)
  refine Go_toM (Nat.le_refl _) (Nat.le_refl _) ?_
  have CM : Cx (GM G0 adE adM aO f S1 k w) code BIG RL 7 (some .boolean) room_1 shM NM := Cx_gw CB hk hws
  refine Go_aload_n (q := 790) CM 2 rfl dL_law_789 rfl ?_
  refine Go_aload_n (q := 791) CM 0 rfl dL_law_790 rfl ?_
  refine Go_iload (q := 793) CM 4 rfl dL_law_791 rfl ?_
  refine Go_iconst (q := 794) (v := (1 : Int32)) CM dL_law_793 rfl rfl ?_
  refine Go_iadd (q := 795) CM dL_law_794 rfl ?_
  refine Go_sld (q := 796) CM hX hb hA (sx1 (7 * j)) (by omega) hL dL_law_795 rfl ?_
  refine Go_callV_I (av := fun ad => [.int (xs (7 * j + 1))]) (st := [.int r1]) (C := CM) (hM := c_X12_stuck (Gl G0) hM hw) (hlk := wm_43_2) (hini := wm_1_5) (hins := wm_43_3) (hsel := wm_43_4) (hcode := wm_43_5) (ho := kM_0) (hci := rfl) (hc13 := by decide) (n := 1) (hd := by decide +kernel) (hr0 := ⟨rfl, rfl⟩) (hroom := ⟨by decide +kernel, by decide +kernel⟩) (hlen := rfl) (hst := rfl) (hW := Nat.le_of_ble_eq_true rfl) (hdg := dL_law_796) (q := 799) (hq := rfl) (fun r2 S2 hw hM => ?_)
  refine Go_icmp_eq (t := 1100) (q := 802) CM dec_if dL_law_799 rfl rfl (fun _ => ?_) (fun hn => absurd hw.1 hn)
  exact Go_toE (Nat.le_refl _) (Nat.le_refl _) (T _ _ _ hw.2 hE hM)
set_option maxHeartbeats 1000000 in
theorem lc_16 {G0 : GC} {adE adM : Nat → Nat} {aO b L : Nat} {xs : Nat → Int32} {f : Nat → Int64} {SE SM : St} {j k w : Nat} (h : LC G0 b L xs j k w) (hr : RR SE SM) (hE : RCE SE) (hM : RCM SM) (T : Tail G0 adE adM aO b (nI (7 * j)) k w) : Go (GE G0 adE adM aO f SM k w) 7 804 [] (lvL adE adM aO b (nI (7 * j))) SE := by
  obtain ⟨⟨sh0, N0, CJ⟩, hX, hb, hA, hL, hj, hk, hws⟩ := h
  have CB := Cx_big CJ
  have CE : Cx (GE G0 adE adM aO f SM k w) code BIG RL 7 (some .boolean) room_1 shE NE := Cx_gw CB hk hws
  refine Go_aload_n (q := 805) CE 1 rfl dL_law_804 rfl ?_
  refine Go_aload_n (q := 806) CE 0 rfl dL_law_805 rfl ?_
  refine Go_iload (q := 808) CE 4 rfl dL_law_806 rfl ?_
  refine Go_iconst (q := 809) (v := (1 : Int32)) CE dL_law_808 rfl rfl ?_
  refine Go_iadd (q := 810) CE dL_law_809 rfl ?_
  refine Go_sld (q := 811) CE hX hb hA (sx1 (7 * j)) (by omega) hL dL_law_810 rfl ?_
  refine Go_aload_n (q := 812) CE 0 rfl dL_law_811 rfl ?_
  refine Go_iload (q := 814) CE 4 rfl dL_law_812 rfl ?_
  refine Go_iconst (q := 815) (v := (2 : Int32)) CE dL_law_814 rfl rfl ?_
  refine Go_iadd (q := 816) CE dL_law_815 rfl ?_
  refine Go_sld (q := 817) CE hX hb hA (sx2 (7 * j)) (by omega) hL dL_law_816 rfl ?_
  refine Go_aload_n (q := 818) CE 0 rfl dL_law_817 rfl ?_
  refine Go_iload (q := 820) CE 4 rfl dL_law_818 rfl ?_
  refine Go_iconst (q := 821) (v := (3 : Int32)) CE dL_law_820 rfl rfl ?_
  refine Go_iadd (q := 822) CE dL_law_821 rfl ?_
  refine Go_sld (q := 823) CE hX hb hA (sx3 (7 * j)) (by omega) hL dL_law_822 rfl ?_
  refine Go_callV_I (av := fun ad => [.int (xs (7 * j + 1)), .int (xs (7 * j + 2)), .int (xs (7 * j + 3))]) (st := []) (C := CE) (hM := c_X11_line (Gl G0) hE (c_line hr)) (hlk := wm_43_9) (hini := wm_1_2) (hins := wm_43_10) (hsel := wm_43_11) (hcode := wm_43_12) (ho := kE_0) (hci := rfl) (hc13 := by decide) (n := 3) (hd := by decide +kernel) (hr0 := ⟨rfl, rfl⟩) (hroom := ⟨by decide +kernel, by decide +kernel⟩) (hlen := rfl) (hst := rfl) (hW := Nat.le_of_ble_eq_true rfl) (hdg := dL_law_823) (q := 826) (hq := rfl) (fun r1 S1 hw hE => ?_)
  refine Go_toM (Nat.le_refl _) (Nat.le_refl _) ?_
  have CM : Cx (GM G0 adE adM aO f S1 k w) code BIG RL 7 (some .boolean) room_1 shM NM := Cx_gw CB hk hws
  refine Go_aload_n (q := 827) CM 2 rfl dL_law_826 rfl ?_
  refine Go_aload_n (q := 828) CM 0 rfl dL_law_827 rfl ?_
  refine Go_iload (q := 830) CM 4 rfl dL_law_828 rfl ?_
  refine Go_iconst (q := 831) (v := (1 : Int32)) CM dL_law_830 rfl rfl ?_
  refine Go_iadd (q := 832) CM dL_law_831 rfl ?_
  refine Go_sld (q := 833) CM hX hb hA (sx1 (7 * j)) (by omega) hL dL_law_832 rfl ?_
  refine Go_aload_n (q := 834) CM 0 rfl dL_law_833 rfl ?_
  refine Go_iload (q := 836) CM 4 rfl dL_law_834 rfl ?_
  refine Go_iconst (q := 837) (v := (2 : Int32)) CM dL_law_836 rfl rfl ?_
  refine Go_iadd (q := 838) CM dL_law_837 rfl ?_
  refine Go_sld (q := 839) CM hX hb hA (sx2 (7 * j)) (by omega) hL dL_law_838 rfl ?_
  refine Go_aload_n (q := 840) CM 0 rfl dL_law_839 rfl ?_
  refine Go_iload (q := 842) CM 4 rfl dL_law_840 rfl ?_
  refine Go_iconst (q := 843) (v := (3 : Int32)) CM dL_law_842 rfl rfl ?_
  refine Go_iadd (q := 844) CM dL_law_843 rfl ?_
  refine Go_sld (q := 845) CM hX hb hA (sx3 (7 * j)) (by omega) hL dL_law_844 rfl ?_
  refine Go_callV_I (av := fun ad => [.int (xs (7 * j + 1)), .int (xs (7 * j + 2)), .int (xs (7 * j + 3))]) (st := [.int r1]) (C := CM) (hM := c_X12_line (Gl G0) hM hw) (hlk := wm_43_18) (hini := wm_1_5) (hins := wm_43_19) (hsel := wm_43_20) (hcode := wm_43_21) (ho := kM_0) (hci := rfl) (hc13 := by decide) (n := 3) (hd := by decide +kernel) (hr0 := ⟨rfl, rfl⟩) (hroom := ⟨by decide +kernel, by decide +kernel⟩) (hlen := rfl) (hst := rfl) (hW := Nat.le_of_ble_eq_true rfl) (hdg := dL_law_845) (q := 848) (hq := rfl) (fun r2 S2 hw hM => ?_)
  refine Go_icmp_eq (t := 1100) (q := 851) CM dec_if dL_law_848 rfl rfl (fun _ => ?_) (fun hn => absurd hw.1 hn)
  exact Go_toE (Nat.le_refl _) (Nat.le_refl _) (T _ _ _ hw.2 hE hM)
set_option maxHeartbeats 1000000 in
theorem lc_17 {G0 : GC} {adE adM : Nat → Nat} {aO b L : Nat} {xs : Nat → Int32} {f : Nat → Int64} {SE SM : St} {j k w : Nat} (h : LC G0 b L xs j k w) (hr : RR SE SM) (hE : RCE SE) (hM : RCM SM) (T : Tail G0 adE adM aO b (nI (7 * j)) k w) : Go (GE G0 adE adM aO f SM k w) 7 853 [] (lvL adE adM aO b (nI (7 * j))) SE := by
  obtain ⟨⟨sh0, N0, CJ⟩, hX, hb, hA, hL, hj, hk, hws⟩ := h
  have CB := Cx_big CJ
  have CE : Cx (GE G0 adE adM aO f SM k w) code BIG RL 7 (some .boolean) room_1 shE NE := Cx_gw CB hk hws
  refine Go_aload_n (q := 854) CE 1 rfl dL_law_853 rfl ?_
  refine Go_callV_I (av := fun ad => []) (st := []) (C := CE) (hM := c_X11_clear (Gl G0) hE (c_clear hr)) (hlk := wm_43_22) (hini := wm_1_2) (hins := wm_43_23) (hsel := wm_44_0) (hcode := wm_44_1) (ho := kE_0) (hci := rfl) (hc13 := by decide) (n := 0) (hd := by decide +kernel) (hr0 := ⟨rfl, rfl⟩) (hroom := ⟨by decide +kernel, by decide +kernel⟩) (hlen := rfl) (hst := rfl) (hW := Nat.le_of_ble_eq_true rfl) (hdg := dL_law_854) (q := 857) (hq := rfl) (fun r1 S1 hw hE => ?_)
  refine Go_toM (Nat.le_refl _) (Nat.le_refl _) ?_
  have CM : Cx (GM G0 adE adM aO f S1 k w) code BIG RL 7 (some .boolean) room_1 shM NM := Cx_gw CB hk hws
  refine Go_aload_n (q := 858) CM 2 rfl dL_law_857 rfl ?_
  refine Go_callV_I (av := fun ad => []) (st := [.int r1]) (C := CM) (hM := c_X12_clear (Gl G0) hM hw) (hlk := wm_44_2) (hini := wm_1_5) (hins := wm_44_3) (hsel := wm_44_4) (hcode := wm_44_5) (ho := kM_0) (hci := rfl) (hc13 := by decide) (n := 0) (hd := by decide +kernel) (hr0 := ⟨rfl, rfl⟩) (hroom := ⟨by decide +kernel, by decide +kernel⟩) (hlen := rfl) (hst := rfl) (hW := Nat.le_of_ble_eq_true rfl) (hdg := dL_law_858) (q := 861) (hq := rfl) (fun r2 S2 hw hM => ?_)
  refine Go_icmp_eq (t := 1100) (q := 864) CM dec_if dL_law_861 rfl rfl (fun _ => ?_) (fun hn => absurd hw.1 hn)
  exact Go_toE (Nat.le_refl _) (Nat.le_refl _) (T _ _ _ hw.2 hE hM)
set_option maxHeartbeats 1000000 in
theorem lc_19 {G0 : GC} {adE adM : Nat → Nat} {aO b L : Nat} {xs : Nat → Int32} {f : Nat → Int64} {SE SM : St} {j k w : Nat} (h : LC G0 b L xs j k w) (hr : RR SE SM) (hE : RCE SE) (hM : RCM SM) (T : Tail G0 adE adM aO b (nI (7 * j)) k w) : Go (GE G0 adE adM aO f SM k w) 7 922 [] (lvL adE adM aO b (nI (7 * j))) SE := by
  obtain ⟨⟨sh0, N0, CJ⟩, hX, hb, hA, hL, hj, hk, hws⟩ := h
  have CB := Cx_big CJ
  have CE : Cx (GE G0 adE adM aO f SM k w) code BIG RL 7 (some .boolean) room_1 shE NE := Cx_gw CB hk hws
  refine Go_aload_n (q := 923) CE 1 rfl dL_law_922 rfl ?_
  refine Go_callV_I (av := fun ad => []) (st := []) (C := CE) (hM := c_X11_mend (Gl G0) hE (r_mend hr)) (hlk := wm_45_18) (hini := wm_1_2) (hins := wm_45_19) (hsel := wm_45_20) (hcode := wm_45_21) (ho := kE_0) (hci := rfl) (hc13 := by decide) (n := 0) (hd := by decide +kernel) (hr0 := ⟨rfl, rfl⟩) (hroom := ⟨by decide +kernel, by decide +kernel⟩) (hlen := rfl) (hst := rfl) (hW := Nat.le_of_ble_eq_true rfl) (hdg := dL_law_923) (q := 926) (hq := rfl) (fun r1 S1 hw hE => ?_)
  refine Go_toM (Nat.le_refl _) (Nat.le_refl _) ?_
  have CM : Cx (GM G0 adE adM aO f S1 k w) code BIG RL 7 (some .boolean) room_1 shM NM := Cx_gw CB hk hws
  refine Go_aload_n (q := 927) CM 2 rfl dL_law_926 rfl ?_
  refine Go_callV_I (av := fun ad => []) (st := [.int r1]) (C := CM) (hM := c_X12_mend (Gl G0) hM hw) (hlk := wm_47_14) (hini := wm_1_5) (hins := wm_47_15) (hsel := wm_47_16) (hcode := wm_47_17) (ho := kM_0) (hci := rfl) (hc13 := by decide) (n := 0) (hd := by decide +kernel) (hr0 := ⟨rfl, rfl⟩) (hroom := ⟨by decide +kernel, by decide +kernel⟩) (hlen := rfl) (hst := rfl) (hW := Nat.le_of_ble_eq_true rfl) (hdg := dL_law_927) (q := 930) (hq := rfl) (fun r2 S2 hw hM => ?_)
  refine Go_icmp_eq (t := 1100) (q := 933) CM dec_if dL_law_930 rfl rfl (fun _ => ?_) (fun hn => absurd hw.1 hn)
  exact Go_toE (Nat.le_refl _) (Nat.le_refl _) (T _ _ _ hw.2 hE hM)
set_option maxHeartbeats 1000000 in
theorem lc_20 {G0 : GC} {adE adM : Nat → Nat} {aO b L : Nat} {xs : Nat → Int32} {f : Nat → Int64} {SE SM : St} {j k w : Nat} (h : LC G0 b L xs j k w) (hr : RR SE SM) (hE : RCE SE) (hM : RCM SM) (T : Tail G0 adE adM aO b (nI (7 * j)) k w) : Go (GE G0 adE adM aO f SM k w) 7 935 [] (lvL adE adM aO b (nI (7 * j))) SE := by
  obtain ⟨⟨sh0, N0, CJ⟩, hX, hb, hA, hL, hj, hk, hws⟩ := h
  have CB := Cx_big CJ
  have CE : Cx (GE G0 adE adM aO f SM k w) code BIG RL 7 (some .boolean) room_1 shE NE := Cx_gw CB hk hws
  refine Go_aload_n (q := 936) CE 1 rfl dL_law_935 rfl ?_
  refine Go_aload_n (q := 937) CE 0 rfl dL_law_936 rfl ?_
  refine Go_iload (q := 939) CE 4 rfl dL_law_937 rfl ?_
  refine Go_iconst (q := 940) (v := (1 : Int32)) CE dL_law_939 rfl rfl ?_
  refine Go_iadd (q := 941) CE dL_law_940 rfl ?_
  refine Go_sld (q := 942) CE hX hb hA (sx1 (7 * j)) (by omega) hL dL_law_941 rfl ?_
  refine Go_callV_I (av := fun ad => [.int (xs (7 * j + 1))]) (st := []) (C := CE) (hM := c_X11_mended (Gl G0) hE (r_mended hr)) (hlk := wm_48_3) (hini := wm_1_2) (hins := wm_48_4) (hsel := wm_48_5) (hcode := wm_48_6) (ho := kE_0) (hci := rfl) (hc13 := by decide) (n := 1) (hd := by decide +kernel) (hr0 := ⟨rfl, rfl⟩) (hroom := ⟨by decide +kernel, by decide +kernel⟩) (hlen := rfl) (hst := rfl) (hW := Nat.le_of_ble_eq_true rfl) (hdg := dL_law_942) (q := 945) (hq := rfl) (fun r1 S1 hw hE => ?_)
  refine Go_toM (Nat.le_refl _) (Nat.le_refl _) ?_
  have CM : Cx (GM G0 adE adM aO f S1 k w) code BIG RL 7 (some .boolean) room_1 shM NM := Cx_gw CB hk hws
  refine Go_aload_n (q := 946) CM 2 rfl dL_law_945 rfl ?_
  refine Go_aload_n (q := 947) CM 0 rfl dL_law_946 rfl ?_
  refine Go_iload (q := 949) CM 4 rfl dL_law_947 rfl ?_
  refine Go_iconst (q := 950) (v := (1 : Int32)) CM dL_law_949 rfl rfl ?_
  refine Go_iadd (q := 951) CM dL_law_950 rfl ?_
  refine Go_sld (q := 952) CM hX hb hA (sx1 (7 * j)) (by omega) hL dL_law_951 rfl ?_
  refine Go_callV_I (av := fun ad => [.int (xs (7 * j + 1))]) (st := [.int r1]) (C := CM) (hM := c_X12_mended (Gl G0) hM hw) (hlk := wm_48_7) (hini := wm_1_5) (hins := wm_48_8) (hsel := wm_48_9) (hcode := wm_48_10) (ho := kM_0) (hci := rfl) (hc13 := by decide) (n := 1) (hd := by decide +kernel) (hr0 := ⟨rfl, rfl⟩) (hroom := ⟨by decide +kernel, by decide +kernel⟩) (hlen := rfl) (hst := rfl) (hW := Nat.le_of_ble_eq_true rfl) (hdg := dL_law_952) (q := 955) (hq := rfl) (fun r2 S2 hw hM => ?_)
  refine Go_icmp_eq (t := 1100) (q := 958) CM dec_if dL_law_955 rfl rfl (fun _ => ?_) (fun hn => absurd hw.1 hn)
  exact Go_toE (Nat.le_refl _) (Nat.le_refl _) (T _ _ _ hw.2 hE hM)
set_option maxHeartbeats 1000000 in
theorem lc_21 {G0 : GC} {adE adM : Nat → Nat} {aO b L : Nat} {xs : Nat → Int32} {f : Nat → Int64} {SE SM : St} {j k w : Nat} (h : LC G0 b L xs j k w) (hr : RR SE SM) (hE : RCE SE) (hM : RCM SM) (T : Tail G0 adE adM aO b (nI (7 * j)) k w) : Go (GE G0 adE adM aO f SM k w) 7 960 [] (lvL adE adM aO b (nI (7 * j))) SE := by
  obtain ⟨⟨sh0, N0, CJ⟩, hX, hb, hA, hL, hj, hk, hws⟩ := h
  have CB := Cx_big CJ
  have CE : Cx (GE G0 adE adM aO f SM k w) code BIG RL 7 (some .boolean) room_1 shE NE := Cx_gw CB hk hws
  refine Go_aload_n (q := 961) CE 1 rfl dL_law_960 rfl ?_
  refine Go_aload_n (q := 962) CE 0 rfl dL_law_961 rfl ?_
  refine Go_iload (q := 964) CE 4 rfl dL_law_962 rfl ?_
  refine Go_iconst (q := 965) (v := (1 : Int32)) CE dL_law_964 rfl rfl ?_
  refine Go_iadd (q := 966) CE dL_law_965 rfl ?_
  refine Go_sld (q := 967) CE hX hb hA (sx1 (7 * j)) (by omega) hL dL_law_966 rfl ?_
  refine Go_callV_I (av := fun ad => [.int (xs (7 * j + 1))]) (st := []) (C := CE) (hM := c_X11_same (Gl G0) hE (r_same hE hr)) (hlk := wm_48_11) (hini := wm_1_2) (hins := wm_48_12) (hsel := wm_48_13) (hcode := wm_48_14) (ho := kE_0) (hci := rfl) (hc13 := by decide) (n := 1) (hd := by decide +kernel) (hr0 := ⟨rfl, rfl⟩) (hroom := ⟨by decide +kernel, by decide +kernel⟩) (hlen := rfl) (hst := rfl) (hW := Nat.le_of_ble_eq_true rfl) (hdg := dL_law_967) (q := 970) (hq := rfl) (fun r1 S1 hw hE => ?_)
  refine Go_toM (Nat.le_refl _) (Nat.le_refl _) ?_
  have CM : Cx (GM G0 adE adM aO f S1 k w) code BIG RL 7 (some .boolean) room_1 shM NM := Cx_gw CB hk hws
  refine Go_aload_n (q := 971) CM 2 rfl dL_law_970 rfl ?_
  refine Go_aload_n (q := 972) CM 0 rfl dL_law_971 rfl ?_
  refine Go_iload (q := 974) CM 4 rfl dL_law_972 rfl ?_
  refine Go_iconst (q := 975) (v := (1 : Int32)) CM dL_law_974 rfl rfl ?_
  refine Go_iadd (q := 976) CM dL_law_975 rfl ?_
  refine Go_sld (q := 977) CM hX hb hA (sx1 (7 * j)) (by omega) hL dL_law_976 rfl ?_
  refine Go_callV_I (av := fun ad => [.int (xs (7 * j + 1))]) (st := [.int r1]) (C := CM) (hM := c_X12_same (Gl G0) hM hw) (hlk := wm_50_12) (hini := wm_1_5) (hins := wm_50_13) (hsel := wm_50_14) (hcode := wm_50_15) (ho := kM_0) (hci := rfl) (hc13 := by decide) (n := 1) (hd := by decide +kernel) (hr0 := ⟨rfl, rfl⟩) (hroom := ⟨by decide +kernel, by decide +kernel⟩) (hlen := rfl) (hst := rfl) (hW := Nat.le_of_ble_eq_true rfl) (hdg := dL_law_977) (q := 980) (hq := rfl) (fun r2 S2 hw hM => ?_)
  refine Go_icmp_eq (t := 1100) (q := 983) CM dec_if dL_law_980 rfl rfl (fun _ => ?_) (fun hn => absurd hw.1 hn)
  exact Go_toE (Nat.le_refl _) (Nat.le_refl _) (T _ _ _ hw.2 hE hM)
set_option maxHeartbeats 1000000 in
theorem lc_22 {G0 : GC} {adE adM : Nat → Nat} {aO b L : Nat} {xs : Nat → Int32} {f : Nat → Int64} {SE SM : St} {j k w : Nat} (h : LC G0 b L xs j k w) (hr : RR SE SM) (hE : RCE SE) (hM : RCM SM) (T : Tail G0 adE adM aO b (nI (7 * j)) k w) : Go (GE G0 adE adM aO f SM k w) 7 985 [] (lvL adE adM aO b (nI (7 * j))) SE := by
  obtain ⟨⟨sh0, N0, CJ⟩, hX, hb, hA, hL, hj, hk, hws⟩ := h
  have CB := Cx_big CJ
  have CE : Cx (GE G0 adE adM aO f SM k w) code BIG RL 7 (some .boolean) room_1 shE NE := Cx_gw CB hk hws
  refine Go_aload_n (q := 986) CE 1 rfl dL_law_985 rfl ?_
  refine Go_aload_n (q := 987) CE 0 rfl dL_law_986 rfl ?_
  refine Go_iload (q := 989) CE 4 rfl dL_law_987 rfl ?_
  refine Go_iconst (q := 990) (v := (1 : Int32)) CE dL_law_989 rfl rfl ?_
  refine Go_iadd (q := 991) CE dL_law_990 rfl ?_
  refine Go_sld (q := 992) CE hX hb hA (sx1 (7 * j)) (by omega) hL dL_law_991 rfl ?_
  refine Go_aload_n (q := 993) CE 0 rfl dL_law_992 rfl ?_
  refine Go_iload (q := 995) CE 4 rfl dL_law_993 rfl ?_
  refine Go_iconst (q := 996) (v := (2 : Int32)) CE dL_law_995 rfl rfl ?_
  refine Go_iadd (q := 997) CE dL_law_996 rfl ?_
  refine Go_sld (q := 998) CE hX hb hA (sx2 (7 * j)) (by omega) hL dL_law_997 rfl ?_
  refine Go_callV_I (av := fun ad => [.int (xs (7 * j + 1)), .int (xs (7 * j + 2))]) (st := []) (C := CE) (hM := c_X11_renamed (Gl G0) hE (r_renamed hE hr)) (hlk := wm_51_16) (hini := wm_1_2) (hins := wm_51_17) (hsel := wm_51_18) (hcode := wm_51_19) (ho := kE_0) (hci := rfl) (hc13 := by decide) (n := 2) (hd := by decide +kernel) (hr0 := ⟨rfl, rfl⟩) (hroom := ⟨by decide +kernel, by decide +kernel⟩) (hlen := rfl) (hst := rfl) (hW := Nat.le_of_ble_eq_true rfl) (hdg := dL_law_998) (q := 1001) (hq := rfl) (fun r1 S1 hw hE => ?_)
  refine Go_toM (Nat.le_refl _) (Nat.le_refl _) ?_
  have CM : Cx (GM G0 adE adM aO f S1 k w) code BIG RL 7 (some .boolean) room_1 shM NM := Cx_gw CB hk hws
  refine Go_aload_n (q := 1002) CM 2 rfl dL_law_1001 rfl ?_
  refine Go_aload_n (q := 1003) CM 0 rfl dL_law_1002 rfl ?_
  refine Go_iload (q := 1005) CM 4 rfl dL_law_1003 rfl ?_
  refine Go_iconst (q := 1006) (v := (1 : Int32)) CM dL_law_1005 rfl rfl ?_
  refine Go_iadd (q := 1007) CM dL_law_1006 rfl ?_
  refine Go_sld (q := 1008) CM hX hb hA (sx1 (7 * j)) (by omega) hL dL_law_1007 rfl ?_
  refine Go_aload_n (q := 1009) CM 0 rfl dL_law_1008 rfl ?_
  refine Go_iload (q := 1011) CM 4 rfl dL_law_1009 rfl ?_
  refine Go_iconst (q := 1012) (v := (2 : Int32)) CM dL_law_1011 rfl rfl ?_
  refine Go_iadd (q := 1013) CM dL_law_1012 rfl ?_
  refine Go_sld (q := 1014) CM hX hb hA (sx2 (7 * j)) (by omega) hL dL_law_1013 rfl ?_
  refine Go_callV_I (av := fun ad => [.int (xs (7 * j + 1)), .int (xs (7 * j + 2))]) (st := [.int r1]) (C := CM) (hM := c_X12_renamed (Gl G0) hM hw) (hlk := wm_51_21) (hini := wm_1_5) (hins := wm_51_22) (hsel := wm_51_23) (hcode := wm_52_0) (ho := kM_0) (hci := rfl) (hc13 := by decide) (n := 2) (hd := by decide +kernel) (hr0 := ⟨rfl, rfl⟩) (hroom := ⟨by decide +kernel, by decide +kernel⟩) (hlen := rfl) (hst := rfl) (hW := Nat.le_of_ble_eq_true rfl) (hdg := dL_law_1014) (q := 1017) (hq := rfl) (fun r2 S2 hw hM => ?_)
  refine Go_icmp_eq (t := 1100) (q := 1020) CM dec_if dL_law_1017 rfl rfl (fun _ => ?_) (fun hn => absurd hw.1 hn)
  exact Go_toE (Nat.le_refl _) (Nat.le_refl _) (T _ _ _ hw.2 hE hM)
set_option maxHeartbeats 1000000 in
theorem lc_23 {G0 : GC} {adE adM : Nat → Nat} {aO b L : Nat} {xs : Nat → Int32} {f : Nat → Int64} {SE SM : St} {j k w : Nat} (h : LC G0 b L xs j k w) (hr : RR SE SM) (hE : RCE SE) (hM : RCM SM) (T : Tail G0 adE adM aO b (nI (7 * j)) k w) : Go (GE G0 adE adM aO f SM k w) 7 1022 [] (lvL adE adM aO b (nI (7 * j))) SE := by
  obtain ⟨⟨sh0, N0, CJ⟩, hX, hb, hA, hL, hj, hk, hws⟩ := h
  have CB := Cx_big CJ
  have CE : Cx (GE G0 adE adM aO f SM k w) code BIG RL 7 (some .boolean) room_1 shE NE := Cx_gw CB hk hws
  by_cases hz : xs (7 * j + 2) = 0
  · refine Go_aload_n (q := 1023) CE 1 rfl dL_law_1022 rfl ?_
    refine Go_aload_n (q := 1024) CE 0 rfl dL_law_1023 rfl ?_
    refine Go_iload (q := 1026) CE 4 rfl dL_law_1024 rfl ?_
    refine Go_iconst (q := 1027) (v := (1 : Int32)) CE dL_law_1026 rfl rfl ?_
    refine Go_iadd (q := 1028) CE dL_law_1027 rfl ?_
    refine Go_sld (q := 1029) CE hX hb hA (sx1 (7 * j)) (by omega) hL dL_law_1028 rfl ?_
    refine Go_aload_n (q := 1030) CE 0 rfl dL_law_1029 rfl ?_
    refine Go_iload (q := 1032) CE 4 rfl dL_law_1030 rfl ?_
    refine Go_iconst (q := 1033) (v := (2 : Int32)) CE dL_law_1032 rfl rfl ?_
    refine Go_iadd (q := 1034) CE dL_law_1033 rfl ?_
    refine Go_sld (q := 1035) CE hX hb hA (sx2 (7 * j)) (by omega) hL dL_law_1034 rfl ?_
    refine Go_if_eq (t := 1042) (q := 1038) CE dec_if dL_law_1035 rfl rfl (fun _ => ?_) (fun hn => absurd hz hn)
    refine Go_iconst (q := 1043) (v := (0 : Int32)) CE dL_law_1042 rfl rfl ?_
    refine Go_callV_I (av := fun ad => [.int (xs (7 * j + 1)), .int (0 : Int32)]) (st := []) (C := CE) (hM := c_X11_mark (Gl G0) hE (c_mark hE hr (Or.inl rfl))) (hlk := wm_52_1) (hini := wm_1_2) (hins := wm_52_2) (hsel := wm_52_3) (hcode := wm_52_4) (ho := kE_0) (hci := rfl) (hc13 := by decide) (n := 2) (hd := by decide +kernel) (hr0 := ⟨rfl, rfl⟩) (hroom := ⟨by decide +kernel, by decide +kernel⟩) (hlen := rfl) (hst := rfl) (hW := Nat.le_of_ble_eq_true rfl) (hdg := dL_law_1043) (q := 1046) (hq := rfl) (fun r1 S1 hw hE => ?_)
    refine Go_toM (Nat.le_refl _) (Nat.le_refl _) ?_
    have CM : Cx (GM G0 adE adM aO f S1 k w) code BIG RL 7 (some .boolean) room_1 shM NM := Cx_gw CB hk hws
    refine Go_aload_n (q := 1047) CM 2 rfl dL_law_1046 rfl ?_
    refine Go_aload_n (q := 1048) CM 0 rfl dL_law_1047 rfl ?_
    refine Go_iload (q := 1050) CM 4 rfl dL_law_1048 rfl ?_
    refine Go_iconst (q := 1051) (v := (1 : Int32)) CM dL_law_1050 rfl rfl ?_
    refine Go_iadd (q := 1052) CM dL_law_1051 rfl ?_
    refine Go_sld (q := 1053) CM hX hb hA (sx1 (7 * j)) (by omega) hL dL_law_1052 rfl ?_
    refine Go_aload_n (q := 1054) CM 0 rfl dL_law_1053 rfl ?_
    refine Go_iload (q := 1056) CM 4 rfl dL_law_1054 rfl ?_
    refine Go_iconst (q := 1057) (v := (2 : Int32)) CM dL_law_1056 rfl rfl ?_
    refine Go_iadd (q := 1058) CM dL_law_1057 rfl ?_
    refine Go_sld (q := 1059) CM hX hb hA (sx2 (7 * j)) (by omega) hL dL_law_1058 rfl ?_
    refine Go_if_eq (t := 1066) (q := 1062) CM dec_if dL_law_1059 rfl rfl (fun _ => ?_) (fun hn => absurd hz hn)
    refine Go_iconst (q := 1067) (v := (0 : Int32)) CM dL_law_1066 rfl rfl ?_
    refine Go_callV_I (av := fun ad => [.int (xs (7 * j + 1)), .int (0 : Int32)]) (st := [.int r1]) (C := CM) (hM := c_X12_mark (Gl G0) hM hw) (hlk := wm_52_16) (hini := wm_1_5) (hins := wm_52_17) (hsel := wm_52_18) (hcode := wm_52_19) (ho := kM_0) (hci := rfl) (hc13 := by decide) (n := 2) (hd := by decide +kernel) (hr0 := ⟨rfl, rfl⟩) (hroom := ⟨by decide +kernel, by decide +kernel⟩) (hlen := rfl) (hst := rfl) (hW := Nat.le_of_ble_eq_true rfl) (hdg := dL_law_1067) (q := 1070) (hq := rfl) (fun r2 S2 hw hM => ?_)
    refine Go_icmp_eq (t := 1100) (q := 1073) CM dec_if dL_law_1070 rfl rfl (fun _ => ?_) (fun hn => absurd hw.1 hn)
    exact Go_toE (Nat.le_refl _) (Nat.le_refl _) (T _ _ _ hw.2 hE hM)
  · refine Go_aload_n (q := 1023) CE 1 rfl dL_law_1022 rfl ?_
    refine Go_aload_n (q := 1024) CE 0 rfl dL_law_1023 rfl ?_
    refine Go_iload (q := 1026) CE 4 rfl dL_law_1024 rfl ?_
    refine Go_iconst (q := 1027) (v := (1 : Int32)) CE dL_law_1026 rfl rfl ?_
    refine Go_iadd (q := 1028) CE dL_law_1027 rfl ?_
    refine Go_sld (q := 1029) CE hX hb hA (sx1 (7 * j)) (by omega) hL dL_law_1028 rfl ?_
    refine Go_aload_n (q := 1030) CE 0 rfl dL_law_1029 rfl ?_
    refine Go_iload (q := 1032) CE 4 rfl dL_law_1030 rfl ?_
    refine Go_iconst (q := 1033) (v := (2 : Int32)) CE dL_law_1032 rfl rfl ?_
    refine Go_iadd (q := 1034) CE dL_law_1033 rfl ?_
    refine Go_sld (q := 1035) CE hX hb hA (sx2 (7 * j)) (by omega) hL dL_law_1034 rfl ?_
    refine Go_if_eq (t := 1042) (q := 1038) CE dec_if dL_law_1035 rfl rfl (fun hn => absurd hn hz) (fun _ => ?_)
    refine Go_iconst (q := 1039) (v := (1 : Int32)) CE dL_law_1038 rfl rfl ?_
    refine Go_goto (q := 1043) CE dL_law_1039 rfl ?_
    refine Go_callV_I (av := fun ad => [.int (xs (7 * j + 1)), .int (1 : Int32)]) (st := []) (C := CE) (hM := c_X11_mark (Gl G0) hE (c_mark hE hr (Or.inr rfl))) (hlk := wm_52_1) (hini := wm_1_2) (hins := wm_52_2) (hsel := wm_52_3) (hcode := wm_52_4) (ho := kE_0) (hci := rfl) (hc13 := by decide) (n := 2) (hd := by decide +kernel) (hr0 := ⟨rfl, rfl⟩) (hroom := ⟨by decide +kernel, by decide +kernel⟩) (hlen := rfl) (hst := rfl) (hW := Nat.le_of_ble_eq_true rfl) (hdg := dL_law_1043) (q := 1046) (hq := rfl) (fun r1 S1 hw hE => ?_)
    refine Go_toM (Nat.le_refl _) (Nat.le_refl _) ?_
    have CM : Cx (GM G0 adE adM aO f S1 k w) code BIG RL 7 (some .boolean) room_1 shM NM := Cx_gw CB hk hws
    refine Go_aload_n (q := 1047) CM 2 rfl dL_law_1046 rfl ?_
    refine Go_aload_n (q := 1048) CM 0 rfl dL_law_1047 rfl ?_
    refine Go_iload (q := 1050) CM 4 rfl dL_law_1048 rfl ?_
    refine Go_iconst (q := 1051) (v := (1 : Int32)) CM dL_law_1050 rfl rfl ?_
    refine Go_iadd (q := 1052) CM dL_law_1051 rfl ?_
    refine Go_sld (q := 1053) CM hX hb hA (sx1 (7 * j)) (by omega) hL dL_law_1052 rfl ?_
    refine Go_aload_n (q := 1054) CM 0 rfl dL_law_1053 rfl ?_
    refine Go_iload (q := 1056) CM 4 rfl dL_law_1054 rfl ?_
    refine Go_iconst (q := 1057) (v := (2 : Int32)) CM dL_law_1056 rfl rfl ?_
    refine Go_iadd (q := 1058) CM dL_law_1057 rfl ?_
    refine Go_sld (q := 1059) CM hX hb hA (sx2 (7 * j)) (by omega) hL dL_law_1058 rfl ?_
    refine Go_if_eq (t := 1066) (q := 1062) CM dec_if dL_law_1059 rfl rfl (fun hn => absurd hn hz) (fun _ => ?_)
    refine Go_iconst (q := 1063) (v := (1 : Int32)) CM dL_law_1062 rfl rfl ?_
    refine Go_goto (q := 1067) CM dL_law_1063 rfl ?_
    refine Go_callV_I (av := fun ad => [.int (xs (7 * j + 1)), .int (1 : Int32)]) (st := [.int r1]) (C := CM) (hM := c_X12_mark (Gl G0) hM hw) (hlk := wm_52_16) (hini := wm_1_5) (hins := wm_52_17) (hsel := wm_52_18) (hcode := wm_52_19) (ho := kM_0) (hci := rfl) (hc13 := by decide) (n := 2) (hd := by decide +kernel) (hr0 := ⟨rfl, rfl⟩) (hroom := ⟨by decide +kernel, by decide +kernel⟩) (hlen := rfl) (hst := rfl) (hW := Nat.le_of_ble_eq_true rfl) (hdg := dL_law_1067) (q := 1070) (hq := rfl) (fun r2 S2 hw hM => ?_)
    refine Go_icmp_eq (t := 1100) (q := 1073) CM dec_if dL_law_1070 rfl rfl (fun _ => ?_) (fun hn => absurd hw.1 hn)
    exact Go_toE (Nat.le_refl _) (Nat.le_refl _) (T _ _ _ hw.2 hE hM)
set_option maxHeartbeats 1000000 in
theorem lc_24 {G0 : GC} {adE adM : Nat → Nat} {aO b L : Nat} {xs : Nat → Int32} {f : Nat → Int64} {SE SM : St} {j k w : Nat} (h : LC G0 b L xs j k w) (hr : RR SE SM) (hE : RCE SE) (hM : RCM SM) (T : Tail G0 adE adM aO b (nI (7 * j)) k w) : Go (GE G0 adE adM aO f SM k w) 7 1075 [] (lvL adE adM aO b (nI (7 * j))) SE := by
  obtain ⟨⟨sh0, N0, CJ⟩, hX, hb, hA, hL, hj, hk, hws⟩ := h
  have CB := Cx_big CJ
  have CE : Cx (GE G0 adE adM aO f SM k w) code BIG RL 7 (some .boolean) room_1 shE NE := Cx_gw CB hk hws
  refine Go_aload_n (q := 1076) CE 1 rfl dL_law_1075 rfl ?_
  refine Go_aload_n (q := 1077) CE 0 rfl dL_law_1076 rfl ?_
  refine Go_iload (q := 1079) CE 4 rfl dL_law_1077 rfl ?_
  refine Go_iconst (q := 1080) (v := (1 : Int32)) CE dL_law_1079 rfl rfl ?_
  refine Go_iadd (q := 1081) CE dL_law_1080 rfl ?_
  refine Go_sld (q := 1082) CE hX hb hA (sx1 (7 * j)) (by omega) hL dL_law_1081 rfl ?_
  refine Go_callV_I (av := fun ad => [.int (xs (7 * j + 1))]) (st := []) (C := CE) (hM := c_X11_count (Gl G0) hE (r_count hr)) (hlk := wm_53_5) (hini := wm_1_2) (hins := wm_53_6) (hsel := wm_53_7) (hcode := wm_53_8) (ho := kE_0) (hci := rfl) (hc13 := by decide) (n := 1) (hd := by decide +kernel) (hr0 := ⟨rfl, rfl⟩) (hroom := ⟨by decide +kernel, by decide +kernel⟩) (hlen := rfl) (hst := rfl) (hW := Nat.le_of_ble_eq_true rfl) (hdg := dL_law_1082) (q := 1085) (hq := rfl) (fun r1 S1 hw hE => ?_)
  refine Go_toM (Nat.le_refl _) (Nat.le_refl _) ?_
  have CM : Cx (GM G0 adE adM aO f S1 k w) code BIG RL 7 (some .boolean) room_1 shM NM := Cx_gw CB hk hws
  refine Go_aload_n (q := 1086) CM 2 rfl dL_law_1085 rfl ?_
  refine Go_aload_n (q := 1087) CM 0 rfl dL_law_1086 rfl ?_
  refine Go_iload (q := 1089) CM 4 rfl dL_law_1087 rfl ?_
  refine Go_iconst (q := 1090) (v := (1 : Int32)) CM dL_law_1089 rfl rfl ?_
  refine Go_iadd (q := 1091) CM dL_law_1090 rfl ?_
  refine Go_sld (q := 1092) CM hX hb hA (sx1 (7 * j)) (by omega) hL dL_law_1091 rfl ?_
  refine Go_callV_I (av := fun ad => [.int (xs (7 * j + 1))]) (st := [.int r1]) (C := CM) (hM := c_X12_count (Gl G0) hM hw) (hlk := wm_53_9) (hini := wm_1_5) (hins := wm_53_10) (hsel := wm_53_11) (hcode := wm_53_12) (ho := kM_0) (hci := rfl) (hc13 := by decide) (n := 1) (hd := by decide +kernel) (hr0 := ⟨rfl, rfl⟩) (hroom := ⟨by decide +kernel, by decide +kernel⟩) (hlen := rfl) (hst := rfl) (hW := Nat.le_of_ble_eq_true rfl) (hdg := dL_law_1092) (q := 1095) (hq := rfl) (fun r2 S2 hw hM => ?_)
  refine Go_icmp_eq (t := 1100) (q := 1098) CM dec_if dL_law_1095 rfl rfl (fun _ => ?_) (fun hn => absurd hw.1 hn)
  exact Go_toE (Nat.le_refl _) (Nat.le_refl _) (T _ _ _ hw.2 hE hM)
