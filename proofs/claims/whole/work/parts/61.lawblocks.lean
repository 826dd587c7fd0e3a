/-! laid by wip/whole/gen61.py: each call of the law -/
def yV (xs : Nat → Int32) (i : Nat) : Int64 := ((nZ (xs (i + 3)).toInt).toInt64 <<< ((nZ 32).toInt64 &&& 63)) ||| ((nZ (xs (i + 4)).toInt).toInt64 &&& 4294967295)
def yE (p : Program) (s : State) (m : MethodId) (c : Code) (D : va_G) (cs : Nat → ClassId) (A : Nat → Prop) (b L : Nat) (xs : Nat → Int32) (i : Nat) (ls : Array Slot) (αX αM : Nat → Nat) : Prop :=
  zX p s m #[Value.ref b] c cL_law 4 D cs RL wsL_law ∧ va_X b L xs s s.heap ∧ b < s.heap.size ∧ ¬ A b ∧ L ≤ 3072 ∧ i + 6 ≤ L ∧ lv_has ls 4 [(3, .int (nZ (i : Int))), (2, .ref (αM 0)), (1, .ref (αX 0)), (0, .ref b)]
section YLB
variable {p : Program} {l : Launch} {e : Env} {s : State} {m : MethodId} {below : List Frame} {meth : Method} {c : Code} {H : Heap} {locs : List Loc} {cells slots : Nat} {Q : State → Prop} {ls : Array Slot} {D : va_G} {cs : Nat → ClassId} {αX αM : Nat → Nat} {MX MM : zM} {A : Nat → Prop} {b L i : Nat} {xs : Nat → Int32} {κ : Bool} {cI : Int}
theorem ys_cast {R : Room} {args : Array Value} {pc : Nat} {rest : List Value} {x v : Int64} (h : x = v) (kk : W p l e R s m args below meth c H locs cells slots Q (F0 m pc ls (.long (nY v.toInt) :: rest))) : W p l e R s m args below meth c H locs cells slots Q (F0 m pc ls (.long x :: rest)) := by
  subst h
  rw [nY_of] at kk
  exact kk
set_option maxHeartbeats 4000000 in
set_option maxRecDepth 100000 in
theorem lb_set (E : yE p s m c D cs A b L xs i ls αX αM) (hW : yW D cs (LX κ) LM αX αM MX MM A s H locs) (hI : zInv κ cI MX MM) (hc : cI + 130000 ≤ 1899990000) (hf : cells ≤ room_1.cells ∧ slots ≤ room_1.slots)
    (kk : ∀ (MX1 MM1 : zM) (H1 : Heap) (locs1 : List Loc), yW D cs (LX κ) LM αX αM MX1 MM1 A s H1 locs1 → zInv κ (cI + 130000) MX1 MM1 → W p l e room_1 s m #[Value.ref b] below meth c H1 locs1 cells slots Q (F0 m 1077 ls [])) : W p l e room_1 s m #[Value.ref b] below meth c H locs cells slots Q (F0 m 156 ls []) := by
  obtain ⟨hX, hxs, hbl, hbA, hL, hi, hl⟩ := E
  have hx := hX.1.1
  have hb := hX.1.2.1
  have hown := hX.1.2.2.2.1
  have hts := hX.1.2.2.2.2
  obtain ⟨r, MX1, MM1, eX, eM, hI1⟩ := st_set 6001 (by decide) hI hc (xR (xs (i + 1))) (xR (xs (i + 2)))
  refine lv_aload_n hx hb dL_law_156 rfl (lv_at hl 2 rfl) ?_
  refine ys_ld (k := 1) hx hb hxs hbl hbA hW.2.2.2.2.2 hl rfl rfl (by omega) hL rfl dL_law_157 dL_law_158 dL_law_159 dL_law_160 dL_law_161 ?_
  refine ys_ld (k := 2) hx hb hxs hbl hbA hW.2.2.2.2.2 hl rfl rfl (by omega) hL rfl dL_law_162 dL_law_163 dL_law_164 dL_law_165 dL_law_166 ?_
  refine yW_i (As := [.int (nZ (xs (i + 1)).toInt), .int (nZ (xs (i + 2)).toInt)]) hX hW (ci := 7) rfl rfl (ctX7_set l κ D cs αX 6001 MX _ _ r MX1 eX) (cwV 2 hts gL_law_X7_set rfl rfl rfl (by decide +kernel) ⟨Nat.le_of_ble_eq_true rfl, Nat.le_of_ble_eq_true rfl⟩) rfl hl.1 (Nat.le_of_ble_eq_true rfl) rfl dL_law_167 hf (fun H locs hW => ?_)
  refine lv_aload_n hx hb dL_law_170 rfl (lv_at hl 1 rfl) ?_
  refine ys_ld (k := 1) hx hb hxs hbl hbA hW.2.2.2.2.2 hl rfl rfl (by omega) hL rfl dL_law_171 dL_law_172 dL_law_173 dL_law_174 dL_law_175 ?_
  refine ys_ld (k := 2) hx hb hxs hbl hbA hW.2.2.2.2.2 hl rfl rfl (by omega) hL rfl dL_law_176 dL_law_177 dL_law_178 dL_law_179 dL_law_180 ?_
  refine yW_i (As := [.int (nZ (xs (i + 1)).toInt), .int (nZ (xs (i + 2)).toInt)]) hX (yW_swap hW) (ci := 8) rfl rfl (ctX8_set l D cs αM 6001 MM _ _ r MM1 eM) (cwV 2 hts gL_law_X8_set rfl rfl rfl (by decide +kernel) ⟨Nat.le_of_ble_eq_true rfl, Nat.le_of_ble_eq_true rfl⟩) rfl hl.1 (Nat.le_of_ble_eq_true rfl) rfl dL_law_181 hf (fun H locs hW => ?_)
  have hW := yW_swap hW
  refine ys_ieq (tgt := 1077) hx hb dL_law_184 (by decide) ?_
  exact kk MX1 MM1 H locs hW hI1
set_option maxHeartbeats 4000000 in
set_option maxRecDepth 100000 in
theorem lb_told (E : yE p s m c D cs A b L xs i ls αX αM) (hW : yW D cs (LX κ) LM αX αM MX MM A s H locs) (hI : zInv κ cI MX MM) (hc : cI + 130000 ≤ 1899990000) (hf : cells ≤ room_1.cells ∧ slots ≤ room_1.slots)
    (kk : ∀ (MX1 MM1 : zM) (H1 : Heap) (locs1 : List Loc), yW D cs (LX κ) LM αX αM MX1 MM1 A s H1 locs1 → zInv κ (cI + 130000) MX1 MM1 → W p l e room_1 s m #[Value.ref b] below meth c H1 locs1 cells slots Q (F0 m 1077 ls [])) : W p l e room_1 s m #[Value.ref b] below meth c H locs cells slots Q (F0 m 189 ls []) := by
  obtain ⟨hX, hxs, hbl, hbA, hL, hi, hl⟩ := E
  have hx := hX.1.1
  have hb := hX.1.2.1
  have hown := hX.1.2.2.2.1
  have hts := hX.1.2.2.2.2
  obtain ⟨r, MX1, MM1, eX, eM, hI1⟩ := st_told 6001 hI (xR (xs (i + 1)))
  refine lv_aload_n hx hb dL_law_189 rfl (lv_at hl 2 rfl) ?_
  refine ys_ld (k := 1) hx hb hxs hbl hbA hW.2.2.2.2.2 hl rfl rfl (by omega) hL rfl dL_law_190 dL_law_191 dL_law_192 dL_law_193 dL_law_194 ?_
  refine yW_i (As := [.int (nZ (xs (i + 1)).toInt)]) hX hW (ci := 7) rfl rfl (ctX7_told l κ D cs αX 6001 MX _ r MX1 eX) (cwV 1 hts gL_law_X7_told rfl rfl rfl (by decide +kernel) ⟨Nat.le_of_ble_eq_true rfl, Nat.le_of_ble_eq_true rfl⟩) rfl hl.1 (Nat.le_of_ble_eq_true rfl) rfl dL_law_195 hf (fun H locs hW => ?_)
  refine lv_aload_n hx hb dL_law_198 rfl (lv_at hl 1 rfl) ?_
  refine ys_ld (k := 1) hx hb hxs hbl hbA hW.2.2.2.2.2 hl rfl rfl (by omega) hL rfl dL_law_199 dL_law_200 dL_law_201 dL_law_202 dL_law_203 ?_
  refine yW_i (As := [.int (nZ (xs (i + 1)).toInt)]) hX (yW_swap hW) (ci := 8) rfl rfl (ctX8_told l D cs αM 6001 MM _ r MM1 eM) (cwV 1 hts gL_law_X8_told rfl rfl rfl (by decide +kernel) ⟨Nat.le_of_ble_eq_true rfl, Nat.le_of_ble_eq_true rfl⟩) rfl hl.1 (Nat.le_of_ble_eq_true rfl) rfl dL_law_204 hf (fun H locs hW => ?_)
  have hW := yW_swap hW
  refine ys_ieq (tgt := 1077) hx hb dL_law_207 (by decide) ?_
  exact kk MX1 MM1 H locs hW hI1
set_option maxHeartbeats 4000000 in
set_option maxRecDepth 100000 in
theorem lb_put (E : yE p s m c D cs A b L xs i ls αX αM) (hW : yW D cs (LX κ) LM αX αM MX MM A s H locs) (hI : zInv κ cI MX MM) (hc : cI + 130000 ≤ 1899990000) (hf : cells ≤ room_1.cells ∧ slots ≤ room_1.slots)
    (kk : ∀ (MX1 MM1 : zM) (H1 : Heap) (locs1 : List Loc), yW D cs (LX κ) LM αX αM MX1 MM1 A s H1 locs1 → zInv κ (cI + 130000) MX1 MM1 → W p l e room_1 s m #[Value.ref b] below meth c H1 locs1 cells slots Q (F0 m 1077 ls [])) : W p l e room_1 s m #[Value.ref b] below meth c H locs cells slots Q (F0 m 212 ls []) := by
  obtain ⟨hX, hxs, hbl, hbA, hL, hi, hl⟩ := E
  have hx := hX.1.1
  have hb := hX.1.2.1
  have hown := hX.1.2.2.2.1
  have hts := hX.1.2.2.2.2
  obtain ⟨r, MX1, MM1, eX, eM, hI1⟩ := st_put 6001 (by decide) hI hc (xR (xs (i + 1))) (xR (xs (i + 2))) (xR (xs (i + 3))) (xR (xs (i + 4))) (xR (xs (i + 5)))
  refine lv_aload_n hx hb dL_law_212 rfl (lv_at hl 2 rfl) ?_
  refine ys_ld (k := 1) hx hb hxs hbl hbA hW.2.2.2.2.2 hl rfl rfl (by omega) hL rfl dL_law_213 dL_law_214 dL_law_215 dL_law_216 dL_law_217 ?_
  refine ys_ld (k := 2) hx hb hxs hbl hbA hW.2.2.2.2.2 hl rfl rfl (by omega) hL rfl dL_law_218 dL_law_219 dL_law_220 dL_law_221 dL_law_222 ?_
  refine ys_ld (k := 3) hx hb hxs hbl hbA hW.2.2.2.2.2 hl rfl rfl (by omega) hL rfl dL_law_223 dL_law_224 dL_law_225 dL_law_226 dL_law_227 ?_
  refine ys_ld (k := 4) hx hb hxs hbl hbA hW.2.2.2.2.2 hl rfl rfl (by omega) hL rfl dL_law_228 dL_law_229 dL_law_230 dL_law_231 dL_law_232 ?_
  refine ys_ld (k := 5) hx hb hxs hbl hbA hW.2.2.2.2.2 hl rfl rfl (by omega) hL rfl dL_law_233 dL_law_234 dL_law_235 dL_law_236 dL_law_237 ?_
  refine yW_i (As := [.int (nZ (xs (i + 1)).toInt), .int (nZ (xs (i + 2)).toInt), .int (nZ (xs (i + 3)).toInt), .int (nZ (xs (i + 4)).toInt), .int (nZ (xs (i + 5)).toInt)]) hX hW (ci := 7) rfl rfl (ctX7_put l κ D cs αX 6001 MX _ _ _ _ _ r MX1 eX) (cwV 5 hts gL_law_X7_put rfl rfl rfl (by decide +kernel) ⟨Nat.le_of_ble_eq_true rfl, Nat.le_of_ble_eq_true rfl⟩) rfl hl.1 (Nat.le_of_ble_eq_true rfl) rfl dL_law_238 hf (fun H locs hW => ?_)
  refine lv_aload_n hx hb dL_law_241 rfl (lv_at hl 1 rfl) ?_
  refine ys_ld (k := 1) hx hb hxs hbl hbA hW.2.2.2.2.2 hl rfl rfl (by omega) hL rfl dL_law_242 dL_law_243 dL_law_244 dL_law_245 dL_law_246 ?_
  refine ys_ld (k := 2) hx hb hxs hbl hbA hW.2.2.2.2.2 hl rfl rfl (by omega) hL rfl dL_law_247 dL_law_248 dL_law_249 dL_law_250 dL_law_251 ?_
  refine ys_ld (k := 3) hx hb hxs hbl hbA hW.2.2.2.2.2 hl rfl rfl (by omega) hL rfl dL_law_252 dL_law_253 dL_law_254 dL_law_255 dL_law_256 ?_
  refine ys_ld (k := 4) hx hb hxs hbl hbA hW.2.2.2.2.2 hl rfl rfl (by omega) hL rfl dL_law_257 dL_law_258 dL_law_259 dL_law_260 dL_law_261 ?_
  refine ys_ld (k := 5) hx hb hxs hbl hbA hW.2.2.2.2.2 hl rfl rfl (by omega) hL rfl dL_law_262 dL_law_263 dL_law_264 dL_law_265 dL_law_266 ?_
  refine yW_i (As := [.int (nZ (xs (i + 1)).toInt), .int (nZ (xs (i + 2)).toInt), .int (nZ (xs (i + 3)).toInt), .int (nZ (xs (i + 4)).toInt), .int (nZ (xs (i + 5)).toInt)]) hX (yW_swap hW) (ci := 8) rfl rfl (ctX8_put l D cs αM 6001 MM _ _ _ _ _ r MM1 eM) (cwV 5 hts gL_law_X8_put rfl rfl rfl (by decide +kernel) ⟨Nat.le_of_ble_eq_true rfl, Nat.le_of_ble_eq_true rfl⟩) rfl hl.1 (Nat.le_of_ble_eq_true rfl) rfl dL_law_267 hf (fun H locs hW => ?_)
  have hW := yW_swap hW
  refine ys_ieq (tgt := 1077) hx hb dL_law_270 (by decide) ?_
  exact kk MX1 MM1 H locs hW hI1
set_option maxHeartbeats 4000000 in
set_option maxRecDepth 100000 in
theorem lb_get (E : yE p s m c D cs A b L xs i ls αX αM) (hW : yW D cs (LX κ) LM αX αM MX MM A s H locs) (hI : zInv κ cI MX MM) (hc : cI + 130000 ≤ 1899990000) (hf : cells ≤ room_1.cells ∧ slots ≤ room_1.slots)
    (kk : ∀ (MX1 MM1 : zM) (H1 : Heap) (locs1 : List Loc), yW D cs (LX κ) LM αX αM MX1 MM1 A s H1 locs1 → zInv κ (cI + 130000) MX1 MM1 → W p l e room_1 s m #[Value.ref b] below meth c H1 locs1 cells slots Q (F0 m 1077 ls [])) : W p l e room_1 s m #[Value.ref b] below meth c H locs cells slots Q (F0 m 275 ls []) := by
  obtain ⟨hX, hxs, hbl, hbA, hL, hi, hl⟩ := E
  have hx := hX.1.1
  have hb := hX.1.2.1
  have hown := hX.1.2.2.2.1
  have hts := hX.1.2.2.2.2
  obtain ⟨r, MX1, MM1, eX, eM, hI1⟩ := st_get 6001 (by decide) hI hc (xR (xs (i + 1))) (xR (xs (i + 2)))
  refine lv_aload_n hx hb dL_law_275 rfl (lv_at hl 2 rfl) ?_
  refine ys_ld (k := 1) hx hb hxs hbl hbA hW.2.2.2.2.2 hl rfl rfl (by omega) hL rfl dL_law_276 dL_law_277 dL_law_278 dL_law_279 dL_law_280 ?_
  refine ys_ld (k := 2) hx hb hxs hbl hbA hW.2.2.2.2.2 hl rfl rfl (by omega) hL rfl dL_law_281 dL_law_282 dL_law_283 dL_law_284 dL_law_285 ?_
  refine yW_l (As := [.int (nZ (xs (i + 1)).toInt), .int (nZ (xs (i + 2)).toInt)]) hX hW (ci := 7) rfl rfl (ctX7_get l κ D cs αX 6001 MX _ _ r MX1 eX) (cwV 2 hts gL_law_X7_get rfl rfl rfl (by decide +kernel) ⟨Nat.le_of_ble_eq_true rfl, Nat.le_of_ble_eq_true rfl⟩) rfl hl.1 (Nat.le_of_ble_eq_true rfl) rfl dL_law_286 hf (fun H locs hW => ?_)
  refine lv_aload_n hx hb dL_law_289 rfl (lv_at hl 1 rfl) ?_
  refine ys_ld (k := 1) hx hb hxs hbl hbA hW.2.2.2.2.2 hl rfl rfl (by omega) hL rfl dL_law_290 dL_law_291 dL_law_292 dL_law_293 dL_law_294 ?_
  refine ys_ld (k := 2) hx hb hxs hbl hbA hW.2.2.2.2.2 hl rfl rfl (by omega) hL rfl dL_law_295 dL_law_296 dL_law_297 dL_law_298 dL_law_299 ?_
  refine yW_l (As := [.int (nZ (xs (i + 1)).toInt), .int (nZ (xs (i + 2)).toInt)]) hX (yW_swap hW) (ci := 8) rfl rfl (ctX8_get l D cs αM 6001 MM _ _ r MM1 eM) (cwV 2 hts gL_law_X8_get rfl rfl rfl (by decide +kernel) ⟨Nat.le_of_ble_eq_true rfl, Nat.le_of_ble_eq_true rfl⟩) rfl hl.1 (Nat.le_of_ble_eq_true rfl) rfl dL_law_300 hf (fun H locs hW => ?_)
  have hW := yW_swap hW
  refine ys_leq (tgt := 1077) hx hb dL_law_303 dL_law_304 (by decide) ?_
  exact kk MX1 MM1 H locs hW hI1
set_option maxHeartbeats 4000000 in
set_option maxRecDepth 100000 in
theorem lb_drop (E : yE p s m c D cs A b L xs i ls αX αM) (hW : yW D cs (LX κ) LM αX αM MX MM A s H locs) (hI : zInv κ cI MX MM) (hc : cI + 130000 ≤ 1899990000) (hf : cells ≤ room_1.cells ∧ slots ≤ room_1.slots)
    (kk : ∀ (MX1 MM1 : zM) (H1 : Heap) (locs1 : List Loc), yW D cs (LX κ) LM αX αM MX1 MM1 A s H1 locs1 → zInv κ (cI + 130000) MX1 MM1 → W p l e room_1 s m #[Value.ref b] below meth c H1 locs1 cells slots Q (F0 m 1077 ls [])) : W p l e room_1 s m #[Value.ref b] below meth c H locs cells slots Q (F0 m 309 ls []) := by
  obtain ⟨hX, hxs, hbl, hbA, hL, hi, hl⟩ := E
  have hx := hX.1.1
  have hb := hX.1.2.1
  have hown := hX.1.2.2.2.1
  have hts := hX.1.2.2.2.2
  obtain ⟨r, MX1, MM1, eX, eM, hI1⟩ := st_drop 6001 hI (xR (xs (i + 1))) (xR (xs (i + 2)))
  refine lv_aload_n hx hb dL_law_309 rfl (lv_at hl 2 rfl) ?_
  refine ys_ld (k := 1) hx hb hxs hbl hbA hW.2.2.2.2.2 hl rfl rfl (by omega) hL rfl dL_law_310 dL_law_311 dL_law_312 dL_law_313 dL_law_314 ?_
  refine ys_ld (k := 2) hx hb hxs hbl hbA hW.2.2.2.2.2 hl rfl rfl (by omega) hL rfl dL_law_315 dL_law_316 dL_law_317 dL_law_318 dL_law_319 ?_
  refine yW_i (As := [.int (nZ (xs (i + 1)).toInt), .int (nZ (xs (i + 2)).toInt)]) hX hW (ci := 7) rfl rfl (ctX7_drop l κ D cs αX 6001 MX _ _ r MX1 eX) (cwV 2 hts gL_law_X7_drop rfl rfl rfl (by decide +kernel) ⟨Nat.le_of_ble_eq_true rfl, Nat.le_of_ble_eq_true rfl⟩) rfl hl.1 (Nat.le_of_ble_eq_true rfl) rfl dL_law_320 hf (fun H locs hW => ?_)
  refine lv_aload_n hx hb dL_law_323 rfl (lv_at hl 1 rfl) ?_
  refine ys_ld (k := 1) hx hb hxs hbl hbA hW.2.2.2.2.2 hl rfl rfl (by omega) hL rfl dL_law_324 dL_law_325 dL_law_326 dL_law_327 dL_law_328 ?_
  refine ys_ld (k := 2) hx hb hxs hbl hbA hW.2.2.2.2.2 hl rfl rfl (by omega) hL rfl dL_law_329 dL_law_330 dL_law_331 dL_law_332 dL_law_333 ?_
  refine yW_i (As := [.int (nZ (xs (i + 1)).toInt), .int (nZ (xs (i + 2)).toInt)]) hX (yW_swap hW) (ci := 8) rfl rfl (ctX8_drop l D cs αM 6001 MM _ _ r MM1 eM) (cwV 2 hts gL_law_X8_drop rfl rfl rfl (by decide +kernel) ⟨Nat.le_of_ble_eq_true rfl, Nat.le_of_ble_eq_true rfl⟩) rfl hl.1 (Nat.le_of_ble_eq_true rfl) rfl dL_law_334 hf (fun H locs hW => ?_)
  have hW := yW_swap hW
  refine ys_ieq (tgt := 1077) hx hb dL_law_337 (by decide) ?_
  exact kk MX1 MM1 H locs hW hI1
set_option maxHeartbeats 4000000 in
set_option maxRecDepth 100000 in
theorem lb_pin (E : yE p s m c D cs A b L xs i ls αX αM) (hW : yW D cs (LX κ) LM αX αM MX MM A s H locs) (hI : zInv κ cI MX MM) (hc : cI + 130000 ≤ 1899990000) (hf : cells ≤ room_1.cells ∧ slots ≤ room_1.slots)
    (kk : ∀ (MX1 MM1 : zM) (H1 : Heap) (locs1 : List Loc), yW D cs (LX κ) LM αX αM MX1 MM1 A s H1 locs1 → zInv κ (cI + 130000) MX1 MM1 → W p l e room_1 s m #[Value.ref b] below meth c H1 locs1 cells slots Q (F0 m 1077 ls [])) : W p l e room_1 s m #[Value.ref b] below meth c H locs cells slots Q (F0 m 342 ls []) := by
  obtain ⟨hX, hxs, hbl, hbA, hL, hi, hl⟩ := E
  have hx := hX.1.1
  have hb := hX.1.2.1
  have hown := hX.1.2.2.2.1
  have hts := hX.1.2.2.2.2
  by_cases hz : (xs (i + 3)).toInt = 0
  · obtain ⟨r, MX1, MM1, eX, eM, hI1⟩ := st_pin 6001 hI (xR (xs (i + 1))) (xR (xs (i + 2))) (a3 := 0) (by decide)
    refine lv_aload_n hx hb dL_law_342 rfl (lv_at hl 2 rfl) ?_
    refine ys_ld (k := 1) hx hb hxs hbl hbA hW.2.2.2.2.2 hl rfl rfl (by omega) hL rfl dL_law_343 dL_law_344 dL_law_345 dL_law_346 dL_law_347 ?_
    refine ys_ld (k := 2) hx hb hxs hbl hbA hW.2.2.2.2.2 hl rfl rfl (by omega) hL rfl dL_law_348 dL_law_349 dL_law_350 dL_law_351 dL_law_352 ?_
    refine ys_ld (k := 3) hx hb hxs hbl hbA hW.2.2.2.2.2 hl rfl rfl (by omega) hL rfl dL_law_353 dL_law_354 dL_law_355 dL_law_356 dL_law_357 ?_
    refine z_if_eq (tgt := 365) hx hb (xR _) dL_law_358 (by decide) (fun _ => ?_) (fun q => absurd hz q)
    refine z_iconst hx hb dL_law_365 ?_
    refine yW_i (As := [.int (nZ (xs (i + 1)).toInt), .int (nZ (xs (i + 2)).toInt), .int (nZ 0)]) hX hW (ci := 7) rfl rfl (ctX7_pin l κ D cs αX 6001 MX _ _ _ r MX1 eX) (cwV 3 hts gL_law_X7_pin rfl rfl rfl (by decide +kernel) ⟨Nat.le_of_ble_eq_true rfl, Nat.le_of_ble_eq_true rfl⟩) rfl hl.1 (Nat.le_of_ble_eq_true rfl) rfl dL_law_366 hf (fun H locs hW => ?_)
    refine lv_aload_n hx hb dL_law_369 rfl (lv_at hl 1 rfl) ?_
    refine ys_ld (k := 1) hx hb hxs hbl hbA hW.2.2.2.2.2 hl rfl rfl (by omega) hL rfl dL_law_370 dL_law_371 dL_law_372 dL_law_373 dL_law_374 ?_
    refine ys_ld (k := 2) hx hb hxs hbl hbA hW.2.2.2.2.2 hl rfl rfl (by omega) hL rfl dL_law_375 dL_law_376 dL_law_377 dL_law_378 dL_law_379 ?_
    refine ys_ld (k := 3) hx hb hxs hbl hbA hW.2.2.2.2.2 hl rfl rfl (by omega) hL rfl dL_law_380 dL_law_381 dL_law_382 dL_law_383 dL_law_384 ?_
    refine z_if_eq (tgt := 392) hx hb (xR _) dL_law_385 (by decide) (fun _ => ?_) (fun q => absurd hz q)
    refine z_iconst hx hb dL_law_392 ?_
    refine yW_i (As := [.int (nZ (xs (i + 1)).toInt), .int (nZ (xs (i + 2)).toInt), .int (nZ 0)]) hX (yW_swap hW) (ci := 8) rfl rfl (ctX8_pin l D cs αM 6001 MM _ _ _ r MM1 eM) (cwV 3 hts gL_law_X8_pin rfl rfl rfl (by decide +kernel) ⟨Nat.le_of_ble_eq_true rfl, Nat.le_of_ble_eq_true rfl⟩) rfl hl.1 (Nat.le_of_ble_eq_true rfl) rfl dL_law_393 hf (fun H locs hW => ?_)
    have hW := yW_swap hW
    refine ys_ieq (tgt := 1077) hx hb dL_law_396 (by decide) ?_
    exact kk MX1 MM1 H locs hW hI1
  · obtain ⟨r, MX1, MM1, eX, eM, hI1⟩ := st_pin 6001 hI (xR (xs (i + 1))) (xR (xs (i + 2))) (a3 := 1) (by decide)
    refine lv_aload_n hx hb dL_law_342 rfl (lv_at hl 2 rfl) ?_
    refine ys_ld (k := 1) hx hb hxs hbl hbA hW.2.2.2.2.2 hl rfl rfl (by omega) hL rfl dL_law_343 dL_law_344 dL_law_345 dL_law_346 dL_law_347 ?_
    refine ys_ld (k := 2) hx hb hxs hbl hbA hW.2.2.2.2.2 hl rfl rfl (by omega) hL rfl dL_law_348 dL_law_349 dL_law_350 dL_law_351 dL_law_352 ?_
    refine ys_ld (k := 3) hx hb hxs hbl hbA hW.2.2.2.2.2 hl rfl rfl (by omega) hL rfl dL_law_353 dL_law_354 dL_law_355 dL_law_356 dL_law_357 ?_
    refine z_if_eq (tgt := 365) hx hb (xR _) dL_law_358 (by decide) (fun q => absurd q hz) (fun _ => ?_)
    refine z_iconst hx hb dL_law_361 ?_
    refine lv_goto (tgt := 366) hx hb dL_law_362 (by decide) ?_
    refine yW_i (As := [.int (nZ (xs (i + 1)).toInt), .int (nZ (xs (i + 2)).toInt), .int (nZ 1)]) hX hW (ci := 7) rfl rfl (ctX7_pin l κ D cs αX 6001 MX _ _ _ r MX1 eX) (cwV 3 hts gL_law_X7_pin rfl rfl rfl (by decide +kernel) ⟨Nat.le_of_ble_eq_true rfl, Nat.le_of_ble_eq_true rfl⟩) rfl hl.1 (Nat.le_of_ble_eq_true rfl) rfl dL_law_366 hf (fun H locs hW => ?_)
    refine lv_aload_n hx hb dL_law_369 rfl (lv_at hl 1 rfl) ?_
    refine ys_ld (k := 1) hx hb hxs hbl hbA hW.2.2.2.2.2 hl rfl rfl (by omega) hL rfl dL_law_370 dL_law_371 dL_law_372 dL_law_373 dL_law_374 ?_
    refine ys_ld (k := 2) hx hb hxs hbl hbA hW.2.2.2.2.2 hl rfl rfl (by omega) hL rfl dL_law_375 dL_law_376 dL_law_377 dL_law_378 dL_law_379 ?_
    refine ys_ld (k := 3) hx hb hxs hbl hbA hW.2.2.2.2.2 hl rfl rfl (by omega) hL rfl dL_law_380 dL_law_381 dL_law_382 dL_law_383 dL_law_384 ?_
    refine z_if_eq (tgt := 392) hx hb (xR _) dL_law_385 (by decide) (fun q => absurd q hz) (fun _ => ?_)
    refine z_iconst hx hb dL_law_388 ?_
    refine lv_goto (tgt := 393) hx hb dL_law_389 (by decide) ?_
    refine yW_i (As := [.int (nZ (xs (i + 1)).toInt), .int (nZ (xs (i + 2)).toInt), .int (nZ 1)]) hX (yW_swap hW) (ci := 8) rfl rfl (ctX8_pin l D cs αM 6001 MM _ _ _ r MM1 eM) (cwV 3 hts gL_law_X8_pin rfl rfl rfl (by decide +kernel) ⟨Nat.le_of_ble_eq_true rfl, Nat.le_of_ble_eq_true rfl⟩) rfl hl.1 (Nat.le_of_ble_eq_true rfl) rfl dL_law_393 hf (fun H locs hW => ?_)
    have hW := yW_swap hW
    refine ys_ieq (tgt := 1077) hx hb dL_law_396 (by decide) ?_
    exact kk MX1 MM1 H locs hW hI1
set_option maxHeartbeats 4000000 in
set_option maxRecDepth 100000 in
theorem lb_of (E : yE p s m c D cs A b L xs i ls αX αM) (hW : yW D cs (LX κ) LM αX αM MX MM A s H locs) (hI : zInv κ cI MX MM) (hc : cI + 130000 ≤ 1899990000) (hf : cells ≤ room_1.cells ∧ slots ≤ room_1.slots)
    (kk : ∀ (MX1 MM1 : zM) (H1 : Heap) (locs1 : List Loc), yW D cs (LX κ) LM αX αM MX1 MM1 A s H1 locs1 → zInv κ (cI + 130000) MX1 MM1 → W p l e room_1 s m #[Value.ref b] below meth c H1 locs1 cells slots Q (F0 m 1077 ls [])) : W p l e room_1 s m #[Value.ref b] below meth c H locs cells slots Q (F0 m 401 ls []) := by
  obtain ⟨hX, hxs, hbl, hbA, hL, hi, hl⟩ := E
  have hx := hX.1.1
  have hb := hX.1.2.1
  have hown := hX.1.2.2.2.1
  have hts := hX.1.2.2.2.2
  obtain ⟨r, MX1, MM1, eX, eM, hI1⟩ := st_of 6001 (by decide) hI (by omega) (xR (xs (i + 1))) (xR (xs (i + 2))) (xR (xs (i + 3)))
  refine lv_aload_n hx hb dL_law_401 rfl (lv_at hl 2 rfl) ?_
  refine ys_ld (k := 1) hx hb hxs hbl hbA hW.2.2.2.2.2 hl rfl rfl (by omega) hL rfl dL_law_402 dL_law_403 dL_law_404 dL_law_405 dL_law_406 ?_
  refine ys_ld (k := 2) hx hb hxs hbl hbA hW.2.2.2.2.2 hl rfl rfl (by omega) hL rfl dL_law_407 dL_law_408 dL_law_409 dL_law_410 dL_law_411 ?_
  refine ys_ld (k := 3) hx hb hxs hbl hbA hW.2.2.2.2.2 hl rfl rfl (by omega) hL rfl dL_law_412 dL_law_413 dL_law_414 dL_law_415 dL_law_416 ?_
  refine yW_i (As := [.int (nZ (xs (i + 1)).toInt), .int (nZ (xs (i + 2)).toInt), .int (nZ (xs (i + 3)).toInt)]) hX hW (ci := 7) rfl rfl (ctX7_of l κ D cs αX 6001 MX _ _ _ r MX1 eX) (cwV 3 hts gL_law_X7_of rfl rfl rfl (by decide +kernel) ⟨Nat.le_of_ble_eq_true rfl, Nat.le_of_ble_eq_true rfl⟩) rfl hl.1 (Nat.le_of_ble_eq_true rfl) rfl dL_law_417 hf (fun H locs hW => ?_)
  refine lv_aload_n hx hb dL_law_420 rfl (lv_at hl 1 rfl) ?_
  refine ys_ld (k := 1) hx hb hxs hbl hbA hW.2.2.2.2.2 hl rfl rfl (by omega) hL rfl dL_law_421 dL_law_422 dL_law_423 dL_law_424 dL_law_425 ?_
  refine ys_ld (k := 2) hx hb hxs hbl hbA hW.2.2.2.2.2 hl rfl rfl (by omega) hL rfl dL_law_426 dL_law_427 dL_law_428 dL_law_429 dL_law_430 ?_
  refine ys_ld (k := 3) hx hb hxs hbl hbA hW.2.2.2.2.2 hl rfl rfl (by omega) hL rfl dL_law_431 dL_law_432 dL_law_433 dL_law_434 dL_law_435 ?_
  refine yW_i (As := [.int (nZ (xs (i + 1)).toInt), .int (nZ (xs (i + 2)).toInt), .int (nZ (xs (i + 3)).toInt)]) hX (yW_swap hW) (ci := 8) rfl rfl (ctX8_of l D cs αM 6001 MM _ _ _ r MM1 eM) (cwV 3 hts gL_law_X8_of rfl rfl rfl (by decide +kernel) ⟨Nat.le_of_ble_eq_true rfl, Nat.le_of_ble_eq_true rfl⟩) rfl hl.1 (Nat.le_of_ble_eq_true rfl) rfl dL_law_436 hf (fun H locs hW => ?_)
  have hW := yW_swap hW
  refine ys_ieq (tgt := 1077) hx hb dL_law_439 (by decide) ?_
  exact kk MX1 MM1 H locs hW hI1
set_option maxHeartbeats 4000000 in
set_option maxRecDepth 100000 in
theorem lb_key (E : yE p s m c D cs A b L xs i ls αX αM) (hW : yW D cs (LX κ) LM αX αM MX MM A s H locs) (hI : zInv κ cI MX MM) (hc : cI + 130000 ≤ 1899990000) (hf : cells ≤ room_1.cells ∧ slots ≤ room_1.slots)
    (kk : ∀ (MX1 MM1 : zM) (H1 : Heap) (locs1 : List Loc), yW D cs (LX κ) LM αX αM MX1 MM1 A s H1 locs1 → zInv κ (cI + 130000) MX1 MM1 → W p l e room_1 s m #[Value.ref b] below meth c H1 locs1 cells slots Q (F0 m 1077 ls [])) : W p l e room_1 s m #[Value.ref b] below meth c H locs cells slots Q (F0 m 444 ls []) := by
  obtain ⟨hX, hxs, hbl, hbA, hL, hi, hl⟩ := E
  have hx := hX.1.1
  have hb := hX.1.2.1
  have hown := hX.1.2.2.2.1
  have hts := hX.1.2.2.2.2
  obtain ⟨r, MX1, MM1, eX, eM, hI1⟩ := st_key 6001 (by decide) hI (by omega) (xR (xs (i + 1))) (xR (xs (i + 2)))
  refine lv_aload_n hx hb dL_law_444 rfl (lv_at hl 2 rfl) ?_
  refine ys_ld (k := 1) hx hb hxs hbl hbA hW.2.2.2.2.2 hl rfl rfl (by omega) hL rfl dL_law_445 dL_law_446 dL_law_447 dL_law_448 dL_law_449 ?_
  refine ys_ld (k := 2) hx hb hxs hbl hbA hW.2.2.2.2.2 hl rfl rfl (by omega) hL rfl dL_law_450 dL_law_451 dL_law_452 dL_law_453 dL_law_454 ?_
  refine yW_i (As := [.int (nZ (xs (i + 1)).toInt), .int (nZ (xs (i + 2)).toInt)]) hX hW (ci := 7) rfl rfl (ctX7_key l κ D cs αX 6001 MX _ _ r MX1 eX) (cwV 2 hts gL_law_X7_key rfl rfl rfl (by decide +kernel) ⟨Nat.le_of_ble_eq_true rfl, Nat.le_of_ble_eq_true rfl⟩) rfl hl.1 (Nat.le_of_ble_eq_true rfl) rfl dL_law_455 hf (fun H locs hW => ?_)
  refine lv_aload_n hx hb dL_law_458 rfl (lv_at hl 1 rfl) ?_
  refine ys_ld (k := 1) hx hb hxs hbl hbA hW.2.2.2.2.2 hl rfl rfl (by omega) hL rfl dL_law_459 dL_law_460 dL_law_461 dL_law_462 dL_law_463 ?_
  refine ys_ld (k := 2) hx hb hxs hbl hbA hW.2.2.2.2.2 hl rfl rfl (by omega) hL rfl dL_law_464 dL_law_465 dL_law_466 dL_law_467 dL_law_468 ?_
  refine yW_i (As := [.int (nZ (xs (i + 1)).toInt), .int (nZ (xs (i + 2)).toInt)]) hX (yW_swap hW) (ci := 8) rfl rfl (ctX8_key l D cs αM 6001 MM _ _ r MM1 eM) (cwV 2 hts gL_law_X8_key rfl rfl rfl (by decide +kernel) ⟨Nat.le_of_ble_eq_true rfl, Nat.le_of_ble_eq_true rfl⟩) rfl hl.1 (Nat.le_of_ble_eq_true rfl) rfl dL_law_469 hf (fun H locs hW => ?_)
  have hW := yW_swap hW
  refine ys_ieq (tgt := 1077) hx hb dL_law_472 (by decide) ?_
  exact kk MX1 MM1 H locs hW hI1
set_option maxHeartbeats 4000000 in
set_option maxRecDepth 100000 in
theorem lb_gone (E : yE p s m c D cs A b L xs i ls αX αM) (hW : yW D cs (LX κ) LM αX αM MX MM A s H locs) (hI : zInv κ cI MX MM) (hc : cI + 130000 ≤ 1899990000) (hf : cells ≤ room_1.cells ∧ slots ≤ room_1.slots)
    (kk : ∀ (MX1 MM1 : zM) (H1 : Heap) (locs1 : List Loc), yW D cs (LX κ) LM αX αM MX1 MM1 A s H1 locs1 → zInv κ (cI + 130000) MX1 MM1 → W p l e room_1 s m #[Value.ref b] below meth c H1 locs1 cells slots Q (F0 m 1077 ls [])) : W p l e room_1 s m #[Value.ref b] below meth c H locs cells slots Q (F0 m 477 ls []) := by
  obtain ⟨hX, hxs, hbl, hbA, hL, hi, hl⟩ := E
  have hx := hX.1.1
  have hb := hX.1.2.1
  have hown := hX.1.2.2.2.1
  have hts := hX.1.2.2.2.2
  obtain ⟨r, MX1, MM1, eX, eM, hI1⟩ := st_gone 6001 hI (by omega) (xR (xs (i + 1)))
  refine lv_aload_n hx hb dL_law_477 rfl (lv_at hl 2 rfl) ?_
  refine ys_ld (k := 1) hx hb hxs hbl hbA hW.2.2.2.2.2 hl rfl rfl (by omega) hL rfl dL_law_478 dL_law_479 dL_law_480 dL_law_481 dL_law_482 ?_
  refine yW_i (As := [.int (nZ (xs (i + 1)).toInt)]) hX hW (ci := 7) rfl rfl (ctX7_gone l κ D cs αX 6001 MX _ r MX1 eX) (cwV 1 hts gL_law_X7_gone rfl rfl rfl (by decide +kernel) ⟨Nat.le_of_ble_eq_true rfl, Nat.le_of_ble_eq_true rfl⟩) rfl hl.1 (Nat.le_of_ble_eq_true rfl) rfl dL_law_483 hf (fun H locs hW => ?_)
  refine lv_aload_n hx hb dL_law_486 rfl (lv_at hl 1 rfl) ?_
  refine ys_ld (k := 1) hx hb hxs hbl hbA hW.2.2.2.2.2 hl rfl rfl (by omega) hL rfl dL_law_487 dL_law_488 dL_law_489 dL_law_490 dL_law_491 ?_
  refine yW_i (As := [.int (nZ (xs (i + 1)).toInt)]) hX (yW_swap hW) (ci := 8) rfl rfl (ctX8_gone l D cs αM 6001 MM _ r MM1 eM) (cwV 1 hts gL_law_X8_gone rfl rfl rfl (by decide +kernel) ⟨Nat.le_of_ble_eq_true rfl, Nat.le_of_ble_eq_true rfl⟩) rfl hl.1 (Nat.le_of_ble_eq_true rfl) rfl dL_law_492 hf (fun H locs hW => ?_)
  have hW := yW_swap hW
  refine ys_ieq (tgt := 1077) hx hb dL_law_495 (by decide) ?_
  exact kk MX1 MM1 H locs hW hI1
set_option maxHeartbeats 4000000 in
set_option maxRecDepth 100000 in
theorem lb_victim (E : yE p s m c D cs A b L xs i ls αX αM) (hW : yW D cs (LX κ) LM αX αM MX MM A s H locs) (hI : zInv κ cI MX MM) (hc : cI + 130000 ≤ 1899990000) (hf : cells ≤ room_1.cells ∧ slots ≤ room_1.slots)
    (kk : ∀ (MX1 MM1 : zM) (H1 : Heap) (locs1 : List Loc), yW D cs (LX κ) LM αX αM MX1 MM1 A s H1 locs1 → zInv κ (cI + 130000) MX1 MM1 → W p l e room_1 s m #[Value.ref b] below meth c H1 locs1 cells slots Q (F0 m 1077 ls [])) : W p l e room_1 s m #[Value.ref b] below meth c H locs cells slots Q (F0 m 500 ls []) := by
  obtain ⟨hX, hxs, hbl, hbA, hL, hi, hl⟩ := E
  have hx := hX.1.1
  have hb := hX.1.2.1
  have hown := hX.1.2.2.2.1
  have hts := hX.1.2.2.2.2
  obtain ⟨r, MX1, MM1, eX, eM, hI1⟩ := st_victim 6001 (by decide) hI hc (xR (xs (i + 1)))
  refine lv_aload_n hx hb dL_law_500 rfl (lv_at hl 2 rfl) ?_
  refine ys_ld (k := 1) hx hb hxs hbl hbA hW.2.2.2.2.2 hl rfl rfl (by omega) hL rfl dL_law_501 dL_law_502 dL_law_503 dL_law_504 dL_law_505 ?_
  refine yW_i (As := [.int (nZ (xs (i + 1)).toInt)]) hX hW (ci := 7) rfl rfl (ctX7_victim l κ D cs αX 6001 MX _ r MX1 eX) (cwV 1 hts gL_law_X7_victim rfl rfl rfl (by decide +kernel) ⟨Nat.le_of_ble_eq_true rfl, Nat.le_of_ble_eq_true rfl⟩) rfl hl.1 (Nat.le_of_ble_eq_true rfl) rfl dL_law_506 hf (fun H locs hW => ?_)
  refine lv_aload_n hx hb dL_law_509 rfl (lv_at hl 1 rfl) ?_
  refine ys_ld (k := 1) hx hb hxs hbl hbA hW.2.2.2.2.2 hl rfl rfl (by omega) hL rfl dL_law_510 dL_law_511 dL_law_512 dL_law_513 dL_law_514 ?_
  refine yW_i (As := [.int (nZ (xs (i + 1)).toInt)]) hX (yW_swap hW) (ci := 8) rfl rfl (ctX8_victim l D cs αM 6001 MM _ r MM1 eM) (cwV 1 hts gL_law_X8_victim rfl rfl rfl (by decide +kernel) ⟨Nat.le_of_ble_eq_true rfl, Nat.le_of_ble_eq_true rfl⟩) rfl hl.1 (Nat.le_of_ble_eq_true rfl) rfl dL_law_515 hf (fun H locs hW => ?_)
  have hW := yW_swap hW
  refine ys_ieq (tgt := 1077) hx hb dL_law_518 (by decide) ?_
  exact kk MX1 MM1 H locs hW hI1
set_option maxHeartbeats 4000000 in
set_option maxRecDepth 100000 in
theorem lb_feed (E : yE p s m c D cs A b L xs i ls αX αM) (hW : yW D cs (LX κ) LM αX αM MX MM A s H locs) (hI : zInv κ cI MX MM) (hc : cI + 130000 ≤ 1899990000) (hf : cells ≤ room_1.cells ∧ slots ≤ room_1.slots)
    (kk : ∀ (MX1 MM1 : zM) (H1 : Heap) (locs1 : List Loc), yW D cs (LX κ) LM αX αM MX1 MM1 A s H1 locs1 → zInv κ (cI + 130000) MX1 MM1 → W p l e room_1 s m #[Value.ref b] below meth c H1 locs1 cells slots Q (F0 m 1077 ls [])) : W p l e room_1 s m #[Value.ref b] below meth c H locs cells slots Q (F0 m 523 ls []) := by
  obtain ⟨hX, hxs, hbl, hbA, hL, hi, hl⟩ := E
  have hx := hX.1.1
  have hb := hX.1.2.1
  have hown := hX.1.2.2.2.1
  have hts := hX.1.2.2.2.2
  obtain ⟨r, MX1, MM1, eX, eM, hI1⟩ := st_feed 6001 hI (xR (xs (i + 1)))
  refine lv_aload_n hx hb dL_law_523 rfl (lv_at hl 2 rfl) ?_
  refine ys_ld (k := 1) hx hb hxs hbl hbA hW.2.2.2.2.2 hl rfl rfl (by omega) hL rfl dL_law_524 dL_law_525 dL_law_526 dL_law_527 dL_law_528 ?_
  refine yW_i (As := [.int (nZ (xs (i + 1)).toInt)]) hX hW (ci := 7) rfl rfl (ctX7_feed l κ D cs αX 6001 MX _ r MX1 eX) (cwV 1 hts gL_law_X7_feed rfl rfl rfl (by decide +kernel) ⟨Nat.le_of_ble_eq_true rfl, Nat.le_of_ble_eq_true rfl⟩) rfl hl.1 (Nat.le_of_ble_eq_true rfl) rfl dL_law_529 hf (fun H locs hW => ?_)
  refine lv_aload_n hx hb dL_law_532 rfl (lv_at hl 1 rfl) ?_
  refine ys_ld (k := 1) hx hb hxs hbl hbA hW.2.2.2.2.2 hl rfl rfl (by omega) hL rfl dL_law_533 dL_law_534 dL_law_535 dL_law_536 dL_law_537 ?_
  refine yW_i (As := [.int (nZ (xs (i + 1)).toInt)]) hX (yW_swap hW) (ci := 8) rfl rfl (ctX8_feed l D cs αM 6001 MM _ r MM1 eM) (cwV 1 hts gL_law_X8_feed rfl rfl rfl (by decide +kernel) ⟨Nat.le_of_ble_eq_true rfl, Nat.le_of_ble_eq_true rfl⟩) rfl hl.1 (Nat.le_of_ble_eq_true rfl) rfl dL_law_538 hf (fun H locs hW => ?_)
  have hW := yW_swap hW
  refine ys_ieq (tgt := 1077) hx hb dL_law_541 (by decide) ?_
  exact kk MX1 MM1 H locs hW hI1
set_option maxHeartbeats 4000000 in
set_option maxRecDepth 100000 in
theorem lb_trace (E : yE p s m c D cs A b L xs i ls αX αM) (hW : yW D cs (LX κ) LM αX αM MX MM A s H locs) (hI : zInv κ cI MX MM) (hc : cI + 130000 ≤ 1899990000) (hf : cells ≤ room_1.cells ∧ slots ≤ room_1.slots)
    (kk : ∀ (MX1 MM1 : zM) (H1 : Heap) (locs1 : List Loc), yW D cs (LX κ) LM αX αM MX1 MM1 A s H1 locs1 → zInv κ (cI + 130000) MX1 MM1 → W p l e room_1 s m #[Value.ref b] below meth c H1 locs1 cells slots Q (F0 m 1077 ls [])) : W p l e room_1 s m #[Value.ref b] below meth c H locs cells slots Q (F0 m 546 ls []) := by
  obtain ⟨hX, hxs, hbl, hbA, hL, hi, hl⟩ := E
  have hx := hX.1.1
  have hb := hX.1.2.1
  have hown := hX.1.2.2.2.1
  have hts := hX.1.2.2.2.2
  obtain ⟨r, MX1, MM1, eX, eM, hI1⟩ := st_trace 6001 (by decide) hI
  refine lv_aload_n hx hb dL_law_546 rfl (lv_at hl 2 rfl) ?_
  refine yW_i (As := []) hX hW (ci := 7) rfl rfl (ctX7_trace l κ D cs αX 6001 MX r MX1 eX) (cwV 0 hts gL_law_X7_trace rfl rfl rfl (by decide +kernel) ⟨Nat.le_of_ble_eq_true rfl, Nat.le_of_ble_eq_true rfl⟩) rfl hl.1 (Nat.le_of_ble_eq_true rfl) rfl dL_law_547 hf (fun H locs hW => ?_)
  refine lv_aload_n hx hb dL_law_550 rfl (lv_at hl 1 rfl) ?_
  refine yW_i (As := []) hX (yW_swap hW) (ci := 8) rfl rfl (ctX8_trace l D cs αM 6001 MM r MM1 eM) (cwV 0 hts gL_law_X8_trace rfl rfl rfl (by decide +kernel) ⟨Nat.le_of_ble_eq_true rfl, Nat.le_of_ble_eq_true rfl⟩) rfl hl.1 (Nat.le_of_ble_eq_true rfl) rfl dL_law_551 hf (fun H locs hW => ?_)
  have hW := yW_swap hW
  refine ys_ieq (tgt := 1077) hx hb dL_law_554 (by decide) ?_
  exact kk MX1 MM1 H locs hW hI1
set_option maxHeartbeats 4000000 in
set_option maxRecDepth 100000 in
theorem lb_run (E : yE p s m c D cs A b L xs i ls αX αM) (hW : yW D cs (LX κ) LM αX αM MX MM A s H locs) (hI : zInv κ cI MX MM) (hc : cI + 130000 ≤ 1899990000) (hf : cells ≤ room_1.cells ∧ slots ≤ room_1.slots)
    (kk : ∀ (MX1 MM1 : zM) (H1 : Heap) (locs1 : List Loc), yW D cs (LX κ) LM αX αM MX1 MM1 A s H1 locs1 → zInv κ (cI + 130000) MX1 MM1 → W p l e room_1 s m #[Value.ref b] below meth c H1 locs1 cells slots Q (F0 m 1077 ls [])) : W p l e room_1 s m #[Value.ref b] below meth c H locs cells slots Q (F0 m 559 ls []) := by
  obtain ⟨hX, hxs, hbl, hbA, hL, hi, hl⟩ := E
  have hx := hX.1.1
  have hb := hX.1.2.1
  have hown := hX.1.2.2.2.1
  have hts := hX.1.2.2.2.2
  obtain ⟨r, MX1, MM1, eX, eM, hI1⟩ := st_run 6001 (by decide) hI hc (xR (xs (i + 1)))
  refine lv_aload_n hx hb dL_law_559 rfl (lv_at hl 2 rfl) ?_
  refine ys_ld (k := 1) hx hb hxs hbl hbA hW.2.2.2.2.2 hl rfl rfl (by omega) hL rfl dL_law_560 dL_law_561 dL_law_562 dL_law_563 dL_law_564 ?_
  refine yW_i (As := [.int (nZ (xs (i + 1)).toInt)]) hX hW (ci := 7) rfl rfl (ctX7_run l κ D cs αX 6001 MX _ r MX1 eX) (cwV 1 hts gL_law_X7_run rfl rfl rfl (by decide +kernel) ⟨Nat.le_of_ble_eq_true rfl, Nat.le_of_ble_eq_true rfl⟩) rfl hl.1 (Nat.le_of_ble_eq_true rfl) rfl dL_law_565 hf (fun H locs hW => ?_)
  refine lv_aload_n hx hb dL_law_568 rfl (lv_at hl 1 rfl) ?_
  refine ys_ld (k := 1) hx hb hxs hbl hbA hW.2.2.2.2.2 hl rfl rfl (by omega) hL rfl dL_law_569 dL_law_570 dL_law_571 dL_law_572 dL_law_573 ?_
  refine yW_i (As := [.int (nZ (xs (i + 1)).toInt)]) hX (yW_swap hW) (ci := 8) rfl rfl (ctX8_run l D cs αM 6001 MM _ r MM1 eM) (cwV 1 hts gL_law_X8_run rfl rfl rfl (by decide +kernel) ⟨Nat.le_of_ble_eq_true rfl, Nat.le_of_ble_eq_true rfl⟩) rfl hl.1 (Nat.le_of_ble_eq_true rfl) rfl dL_law_574 hf (fun H locs hW => ?_)
  have hW := yW_swap hW
  refine ys_ieq (tgt := 1077) hx hb dL_law_577 (by decide) ?_
  exact kk MX1 MM1 H locs hW hI1
set_option maxHeartbeats 4000000 in
set_option maxRecDepth 100000 in
theorem lb_would (E : yE p s m c D cs A b L xs i ls αX αM) (hW : yW D cs (LX κ) LM αX αM MX MM A s H locs) (hI : zInv κ cI MX MM) (hc : cI + 130000 ≤ 1899990000) (hf : cells ≤ room_1.cells ∧ slots ≤ room_1.slots)
    (kk : ∀ (MX1 MM1 : zM) (H1 : Heap) (locs1 : List Loc), yW D cs (LX κ) LM αX αM MX1 MM1 A s H1 locs1 → zInv κ (cI + 130000) MX1 MM1 → W p l e room_1 s m #[Value.ref b] below meth c H1 locs1 cells slots Q (F0 m 1077 ls [])) : W p l e room_1 s m #[Value.ref b] below meth c H locs cells slots Q (F0 m 582 ls []) := by
  obtain ⟨hX, hxs, hbl, hbA, hL, hi, hl⟩ := E
  have hx := hX.1.1
  have hb := hX.1.2.1
  have hown := hX.1.2.2.2.1
  have hts := hX.1.2.2.2.2
  obtain ⟨r, MX1, MM1, eX, eM, hI1⟩ := st_would 6001 (by decide) hI hc (xR (xs (i + 1))) (xR (xs (i + 2)))
  refine lv_aload_n hx hb dL_law_582 rfl (lv_at hl 2 rfl) ?_
  refine ys_ld (k := 1) hx hb hxs hbl hbA hW.2.2.2.2.2 hl rfl rfl (by omega) hL rfl dL_law_583 dL_law_584 dL_law_585 dL_law_586 dL_law_587 ?_
  refine ys_ld (k := 2) hx hb hxs hbl hbA hW.2.2.2.2.2 hl rfl rfl (by omega) hL rfl dL_law_588 dL_law_589 dL_law_590 dL_law_591 dL_law_592 ?_
  refine yW_i (As := [.int (nZ (xs (i + 1)).toInt), .int (nZ (xs (i + 2)).toInt)]) hX hW (ci := 7) rfl rfl (ctX7_would l κ D cs αX 6001 MX _ _ r MX1 eX) (cwV 2 hts gL_law_X7_would rfl rfl rfl (by decide +kernel) ⟨Nat.le_of_ble_eq_true rfl, Nat.le_of_ble_eq_true rfl⟩) rfl hl.1 (Nat.le_of_ble_eq_true rfl) rfl dL_law_593 hf (fun H locs hW => ?_)
  refine lv_aload_n hx hb dL_law_596 rfl (lv_at hl 1 rfl) ?_
  refine ys_ld (k := 1) hx hb hxs hbl hbA hW.2.2.2.2.2 hl rfl rfl (by omega) hL rfl dL_law_597 dL_law_598 dL_law_599 dL_law_600 dL_law_601 ?_
  refine ys_ld (k := 2) hx hb hxs hbl hbA hW.2.2.2.2.2 hl rfl rfl (by omega) hL rfl dL_law_602 dL_law_603 dL_law_604 dL_law_605 dL_law_606 ?_
  refine yW_i (As := [.int (nZ (xs (i + 1)).toInt), .int (nZ (xs (i + 2)).toInt)]) hX (yW_swap hW) (ci := 8) rfl rfl (ctX8_would l D cs αM 6001 MM _ _ r MM1 eM) (cwV 2 hts gL_law_X8_would rfl rfl rfl (by decide +kernel) ⟨Nat.le_of_ble_eq_true rfl, Nat.le_of_ble_eq_true rfl⟩) rfl hl.1 (Nat.le_of_ble_eq_true rfl) rfl dL_law_607 hf (fun H locs hW => ?_)
  have hW := yW_swap hW
  refine ys_ieq (tgt := 1077) hx hb dL_law_610 (by decide) ?_
  exact kk MX1 MM1 H locs hW hI1
set_option maxHeartbeats 4000000 in
set_option maxRecDepth 100000 in
theorem lb_need (E : yE p s m c D cs A b L xs i ls αX αM) (hW : yW D cs (LX κ) LM αX αM MX MM A s H locs) (hI : zInv κ cI MX MM) (hc : cI + 130000 ≤ 1899990000) (hf : cells ≤ room_1.cells ∧ slots ≤ room_1.slots)
    (kk : ∀ (MX1 MM1 : zM) (H1 : Heap) (locs1 : List Loc), yW D cs (LX κ) LM αX αM MX1 MM1 A s H1 locs1 → zInv κ (cI + 130000) MX1 MM1 → W p l e room_1 s m #[Value.ref b] below meth c H1 locs1 cells slots Q (F0 m 1077 ls [])) : W p l e room_1 s m #[Value.ref b] below meth c H locs cells slots Q (F0 m 615 ls []) := by
  obtain ⟨hX, hxs, hbl, hbA, hL, hi, hl⟩ := E
  have hx := hX.1.1
  have hb := hX.1.2.1
  have hown := hX.1.2.2.2.1
  have hts := hX.1.2.2.2.2
  obtain ⟨r, MX1, MM1, eX, eM, hI1⟩ := st_need 6001 (by decide) hI hc (xR (xs (i + 1))) (xR (xs (i + 2)))
  refine lv_aload_n hx hb dL_law_615 rfl (lv_at hl 2 rfl) ?_
  refine ys_ld (k := 1) hx hb hxs hbl hbA hW.2.2.2.2.2 hl rfl rfl (by omega) hL rfl dL_law_616 dL_law_617 dL_law_618 dL_law_619 dL_law_620 ?_
  refine ys_ld (k := 2) hx hb hxs hbl hbA hW.2.2.2.2.2 hl rfl rfl (by omega) hL rfl dL_law_621 dL_law_622 dL_law_623 dL_law_624 dL_law_625 ?_
  refine yW_i (As := [.int (nZ (xs (i + 1)).toInt), .int (nZ (xs (i + 2)).toInt)]) hX hW (ci := 7) rfl rfl (ctX7_need l κ D cs αX 6001 MX _ _ r MX1 eX) (cwV 2 hts gL_law_X7_need rfl rfl rfl (by decide +kernel) ⟨Nat.le_of_ble_eq_true rfl, Nat.le_of_ble_eq_true rfl⟩) rfl hl.1 (Nat.le_of_ble_eq_true rfl) rfl dL_law_626 hf (fun H locs hW => ?_)
  refine lv_aload_n hx hb dL_law_629 rfl (lv_at hl 1 rfl) ?_
  refine ys_ld (k := 1) hx hb hxs hbl hbA hW.2.2.2.2.2 hl rfl rfl (by omega) hL rfl dL_law_630 dL_law_631 dL_law_632 dL_law_633 dL_law_634 ?_
  refine ys_ld (k := 2) hx hb hxs hbl hbA hW.2.2.2.2.2 hl rfl rfl (by omega) hL rfl dL_law_635 dL_law_636 dL_law_637 dL_law_638 dL_law_639 ?_
  refine yW_i (As := [.int (nZ (xs (i + 1)).toInt), .int (nZ (xs (i + 2)).toInt)]) hX (yW_swap hW) (ci := 8) rfl rfl (ctX8_need l D cs αM 6001 MM _ _ r MM1 eM) (cwV 2 hts gL_law_X8_need rfl rfl rfl (by decide +kernel) ⟨Nat.le_of_ble_eq_true rfl, Nat.le_of_ble_eq_true rfl⟩) rfl hl.1 (Nat.le_of_ble_eq_true rfl) rfl dL_law_640 hf (fun H locs hW => ?_)
  have hW := yW_swap hW
  refine ys_ieq (tgt := 1077) hx hb dL_law_643 (by decide) ?_
  exact kk MX1 MM1 H locs hW hI1
set_option maxHeartbeats 4000000 in
set_option maxRecDepth 100000 in
theorem lb_odds (E : yE p s m c D cs A b L xs i ls αX αM) (hW : yW D cs (LX κ) LM αX αM MX MM A s H locs) (hI : zInv κ cI MX MM) (hc : cI + 130000 ≤ 1899990000) (hf : cells ≤ room_1.cells ∧ slots ≤ room_1.slots)
    (kk : ∀ (MX1 MM1 : zM) (H1 : Heap) (locs1 : List Loc), yW D cs (LX κ) LM αX αM MX1 MM1 A s H1 locs1 → zInv κ (cI + 130000) MX1 MM1 → W p l e room_1 s m #[Value.ref b] below meth c H1 locs1 cells slots Q (F0 m 1077 ls [])) : W p l e room_1 s m #[Value.ref b] below meth c H locs cells slots Q (F0 m 648 ls []) := by
  obtain ⟨hX, hxs, hbl, hbA, hL, hi, hl⟩ := E
  have hx := hX.1.1
  have hb := hX.1.2.1
  have hown := hX.1.2.2.2.1
  have hts := hX.1.2.2.2.2
  obtain ⟨r, MX1, MM1, eX, eM, hI1⟩ := st_odds 6001 (by decide) hI hc (xR (xs (i + 1))) (xR (xs (i + 2))) (xR (xs (i + 3)))
  refine lv_aload_n hx hb dL_law_648 rfl (lv_at hl 2 rfl) ?_
  refine ys_ld (k := 1) hx hb hxs hbl hbA hW.2.2.2.2.2 hl rfl rfl (by omega) hL rfl dL_law_649 dL_law_650 dL_law_651 dL_law_652 dL_law_653 ?_
  refine ys_ld (k := 2) hx hb hxs hbl hbA hW.2.2.2.2.2 hl rfl rfl (by omega) hL rfl dL_law_654 dL_law_655 dL_law_656 dL_law_657 dL_law_658 ?_
  refine ys_ld (k := 3) hx hb hxs hbl hbA hW.2.2.2.2.2 hl rfl rfl (by omega) hL rfl dL_law_659 dL_law_660 dL_law_661 dL_law_662 dL_law_663 ?_
  refine yW_l (As := [.int (nZ (xs (i + 1)).toInt), .int (nZ (xs (i + 2)).toInt), .int (nZ (xs (i + 3)).toInt)]) hX hW (ci := 7) rfl rfl (ctX7_odds l κ D cs αX 6001 MX _ _ _ r MX1 eX) (cwV 3 hts gL_law_X7_odds rfl rfl rfl (by decide +kernel) ⟨Nat.le_of_ble_eq_true rfl, Nat.le_of_ble_eq_true rfl⟩) rfl hl.1 (Nat.le_of_ble_eq_true rfl) rfl dL_law_664 hf (fun H locs hW => ?_)
  refine lv_aload_n hx hb dL_law_667 rfl (lv_at hl 1 rfl) ?_
  refine ys_ld (k := 1) hx hb hxs hbl hbA hW.2.2.2.2.2 hl rfl rfl (by omega) hL rfl dL_law_668 dL_law_669 dL_law_670 dL_law_671 dL_law_672 ?_
  refine ys_ld (k := 2) hx hb hxs hbl hbA hW.2.2.2.2.2 hl rfl rfl (by omega) hL rfl dL_law_673 dL_law_674 dL_law_675 dL_law_676 dL_law_677 ?_
  refine ys_ld (k := 3) hx hb hxs hbl hbA hW.2.2.2.2.2 hl rfl rfl (by omega) hL rfl dL_law_678 dL_law_679 dL_law_680 dL_law_681 dL_law_682 ?_
  refine yW_l (As := [.int (nZ (xs (i + 1)).toInt), .int (nZ (xs (i + 2)).toInt), .int (nZ (xs (i + 3)).toInt)]) hX (yW_swap hW) (ci := 8) rfl rfl (ctX8_odds l D cs αM 6001 MM _ _ _ r MM1 eM) (cwV 3 hts gL_law_X8_odds rfl rfl rfl (by decide +kernel) ⟨Nat.le_of_ble_eq_true rfl, Nat.le_of_ble_eq_true rfl⟩) rfl hl.1 (Nat.le_of_ble_eq_true rfl) rfl dL_law_683 hf (fun H locs hW => ?_)
  have hW := yW_swap hW
  refine ys_leq (tgt := 1077) hx hb dL_law_686 dL_law_687 (by decide) ?_
  exact kk MX1 MM1 H locs hW hI1
set_option maxHeartbeats 4000000 in
set_option maxRecDepth 100000 in
theorem lb_mean (E : yE p s m c D cs A b L xs i ls αX αM) (hW : yW D cs (LX κ) LM αX αM MX MM A s H locs) (hI : zInv κ cI MX MM) (hc : cI + 130000 ≤ 1899990000) (hf : cells ≤ room_1.cells ∧ slots ≤ room_1.slots)
    (kk : ∀ (MX1 MM1 : zM) (H1 : Heap) (locs1 : List Loc), yW D cs (LX κ) LM αX αM MX1 MM1 A s H1 locs1 → zInv κ (cI + 130000) MX1 MM1 → W p l e room_1 s m #[Value.ref b] below meth c H1 locs1 cells slots Q (F0 m 1077 ls [])) : W p l e room_1 s m #[Value.ref b] below meth c H locs cells slots Q (F0 m 692 ls []) := by
  obtain ⟨hX, hxs, hbl, hbA, hL, hi, hl⟩ := E
  have hx := hX.1.1
  have hb := hX.1.2.1
  have hown := hX.1.2.2.2.1
  have hts := hX.1.2.2.2.2
  obtain ⟨r, MX1, MM1, eX, eM, hI1⟩ := st_mean 6001 (by decide) hI (xR (xs (i + 1))) (xR (xs (i + 2)))
  refine lv_aload_n hx hb dL_law_692 rfl (lv_at hl 2 rfl) ?_
  refine ys_ld (k := 1) hx hb hxs hbl hbA hW.2.2.2.2.2 hl rfl rfl (by omega) hL rfl dL_law_693 dL_law_694 dL_law_695 dL_law_696 dL_law_697 ?_
  refine ys_ld (k := 2) hx hb hxs hbl hbA hW.2.2.2.2.2 hl rfl rfl (by omega) hL rfl dL_law_698 dL_law_699 dL_law_700 dL_law_701 dL_law_702 ?_
  refine yW_l (As := [.int (nZ (xs (i + 1)).toInt), .int (nZ (xs (i + 2)).toInt)]) hX hW (ci := 7) rfl rfl (ctX7_mean l κ D cs αX 6001 MX _ _ r MX1 eX) (cwV 2 hts gL_law_X7_mean rfl rfl rfl (by decide +kernel) ⟨Nat.le_of_ble_eq_true rfl, Nat.le_of_ble_eq_true rfl⟩) rfl hl.1 (Nat.le_of_ble_eq_true rfl) rfl dL_law_703 hf (fun H locs hW => ?_)
  refine lv_aload_n hx hb dL_law_706 rfl (lv_at hl 1 rfl) ?_
  refine ys_ld (k := 1) hx hb hxs hbl hbA hW.2.2.2.2.2 hl rfl rfl (by omega) hL rfl dL_law_707 dL_law_708 dL_law_709 dL_law_710 dL_law_711 ?_
  refine ys_ld (k := 2) hx hb hxs hbl hbA hW.2.2.2.2.2 hl rfl rfl (by omega) hL rfl dL_law_712 dL_law_713 dL_law_714 dL_law_715 dL_law_716 ?_
  refine yW_l (As := [.int (nZ (xs (i + 1)).toInt), .int (nZ (xs (i + 2)).toInt)]) hX (yW_swap hW) (ci := 8) rfl rfl (ctX8_mean l D cs αM 6001 MM _ _ r MM1 eM) (cwV 2 hts gL_law_X8_mean rfl rfl rfl (by decide +kernel) ⟨Nat.le_of_ble_eq_true rfl, Nat.le_of_ble_eq_true rfl⟩) rfl hl.1 (Nat.le_of_ble_eq_true rfl) rfl dL_law_717 hf (fun H locs hW => ?_)
  have hW := yW_swap hW
  refine ys_leq (tgt := 1077) hx hb dL_law_720 dL_law_721 (by decide) ?_
  exact kk MX1 MM1 H locs hW hI1
set_option maxHeartbeats 4000000 in
set_option maxRecDepth 100000 in
theorem lb_book (E : yE p s m c D cs A b L xs i ls αX αM) (hW : yW D cs (LX κ) LM αX αM MX MM A s H locs) (hI : zInv κ cI MX MM) (hc : cI + 130000 ≤ 1899990000) (hf : cells ≤ room_1.cells ∧ slots ≤ room_1.slots)
    (kk : ∀ (MX1 MM1 : zM) (H1 : Heap) (locs1 : List Loc), yW D cs (LX κ) LM αX αM MX1 MM1 A s H1 locs1 → zInv κ (cI + 130000) MX1 MM1 → W p l e room_1 s m #[Value.ref b] below meth c H1 locs1 cells slots Q (F0 m 1077 ls [])) : W p l e room_1 s m #[Value.ref b] below meth c H locs cells slots Q (F0 m 726 ls []) := by
  obtain ⟨hX, hxs, hbl, hbA, hL, hi, hl⟩ := E
  have hx := hX.1.1
  have hb := hX.1.2.1
  have hown := hX.1.2.2.2.1
  have hts := hX.1.2.2.2.2
  obtain ⟨r, MX1, MM1, eX, eM, hI1⟩ := st_book 6001 hI (xR (xs (i + 1))) (xR (xs (i + 2))) (xR (xs (i + 3)))
  refine lv_aload_n hx hb dL_law_726 rfl (lv_at hl 2 rfl) ?_
  refine ys_ld (k := 1) hx hb hxs hbl hbA hW.2.2.2.2.2 hl rfl rfl (by omega) hL rfl dL_law_727 dL_law_728 dL_law_729 dL_law_730 dL_law_731 ?_
  refine ys_ld (k := 2) hx hb hxs hbl hbA hW.2.2.2.2.2 hl rfl rfl (by omega) hL rfl dL_law_732 dL_law_733 dL_law_734 dL_law_735 dL_law_736 ?_
  refine ys_ld (k := 3) hx hb hxs hbl hbA hW.2.2.2.2.2 hl rfl rfl (by omega) hL rfl dL_law_737 dL_law_738 dL_law_739 dL_law_740 dL_law_741 ?_
  refine yW_i (As := [.int (nZ (xs (i + 1)).toInt), .int (nZ (xs (i + 2)).toInt), .int (nZ (xs (i + 3)).toInt)]) hX hW (ci := 7) rfl rfl (ctX7_book l κ D cs αX 6001 MX _ _ _ r MX1 eX) (cwV 3 hts gL_law_X7_book rfl rfl rfl (by decide +kernel) ⟨Nat.le_of_ble_eq_true rfl, Nat.le_of_ble_eq_true rfl⟩) rfl hl.1 (Nat.le_of_ble_eq_true rfl) rfl dL_law_742 hf (fun H locs hW => ?_)
  refine lv_aload_n hx hb dL_law_745 rfl (lv_at hl 1 rfl) ?_
  refine ys_ld (k := 1) hx hb hxs hbl hbA hW.2.2.2.2.2 hl rfl rfl (by omega) hL rfl dL_law_746 dL_law_747 dL_law_748 dL_law_749 dL_law_750 ?_
  refine ys_ld (k := 2) hx hb hxs hbl hbA hW.2.2.2.2.2 hl rfl rfl (by omega) hL rfl dL_law_751 dL_law_752 dL_law_753 dL_law_754 dL_law_755 ?_
  refine ys_ld (k := 3) hx hb hxs hbl hbA hW.2.2.2.2.2 hl rfl rfl (by omega) hL rfl dL_law_756 dL_law_757 dL_law_758 dL_law_759 dL_law_760 ?_
  refine yW_i (As := [.int (nZ (xs (i + 1)).toInt), .int (nZ (xs (i + 2)).toInt), .int (nZ (xs (i + 3)).toInt)]) hX (yW_swap hW) (ci := 8) rfl rfl (ctX8_book l D cs αM 6001 MM _ _ _ r MM1 eM) (cwV 3 hts gL_law_X8_book rfl rfl rfl (by decide +kernel) ⟨Nat.le_of_ble_eq_true rfl, Nat.le_of_ble_eq_true rfl⟩) rfl hl.1 (Nat.le_of_ble_eq_true rfl) rfl dL_law_761 hf (fun H locs hW => ?_)
  have hW := yW_swap hW
  refine ys_ieq (tgt := 1077) hx hb dL_law_764 (by decide) ?_
  exact kk MX1 MM1 H locs hW hI1
set_option maxHeartbeats 4000000 in
set_option maxRecDepth 100000 in
theorem lb_looked (E : yE p s m c D cs A b L xs i ls αX αM) (hW : yW D cs (LX κ) LM αX αM MX MM A s H locs) (hI : zInv κ cI MX MM) (hc : cI + 130000 ≤ 1899990000) (hf : cells ≤ room_1.cells ∧ slots ≤ room_1.slots)
    (kk : ∀ (MX1 MM1 : zM) (H1 : Heap) (locs1 : List Loc), yW D cs (LX κ) LM αX αM MX1 MM1 A s H1 locs1 → zInv κ (cI + 130000) MX1 MM1 → W p l e room_1 s m #[Value.ref b] below meth c H1 locs1 cells slots Q (F0 m 1077 ls [])) : W p l e room_1 s m #[Value.ref b] below meth c H locs cells slots Q (F0 m 769 ls []) := by
  obtain ⟨hX, hxs, hbl, hbA, hL, hi, hl⟩ := E
  have hx := hX.1.1
  have hb := hX.1.2.1
  have hown := hX.1.2.2.2.1
  have hts := hX.1.2.2.2.2
  obtain ⟨r, MX1, MM1, eX, eM, hI1⟩ := st_looked 6001 (by decide) hI
  refine lv_aload_n hx hb dL_law_769 rfl (lv_at hl 2 rfl) ?_
  refine yW_i (As := []) hX hW (ci := 7) rfl rfl (ctX7_looked l κ D cs αX 6001 MX r MX1 eX) (cwV 0 hts gL_law_X7_looked rfl rfl rfl (by decide +kernel) ⟨Nat.le_of_ble_eq_true rfl, Nat.le_of_ble_eq_true rfl⟩) rfl hl.1 (Nat.le_of_ble_eq_true rfl) rfl dL_law_770 hf (fun H locs hW => ?_)
  refine lv_aload_n hx hb dL_law_773 rfl (lv_at hl 1 rfl) ?_
  refine yW_i (As := []) hX (yW_swap hW) (ci := 8) rfl rfl (ctX8_looked l D cs αM 6001 MM r MM1 eM) (cwV 0 hts gL_law_X8_looked rfl rfl rfl (by decide +kernel) ⟨Nat.le_of_ble_eq_true rfl, Nat.le_of_ble_eq_true rfl⟩) rfl hl.1 (Nat.le_of_ble_eq_true rfl) rfl dL_law_774 hf (fun H locs hW => ?_)
  have hW := yW_swap hW
  refine ys_ieq (tgt := 1077) hx hb dL_law_777 (by decide) ?_
  exact kk MX1 MM1 H locs hW hI1
set_option maxHeartbeats 4000000 in
set_option maxRecDepth 100000 in
theorem lb_judge (E : yE p s m c D cs A b L xs i ls αX αM) (hW : yW D cs (LX κ) LM αX αM MX MM A s H locs) (hI : zInv κ cI MX MM) (hc : cI + 130000 ≤ 1899990000) (hf : cells ≤ room_1.cells ∧ slots ≤ room_1.slots)
    (kk : ∀ (MX1 MM1 : zM) (H1 : Heap) (locs1 : List Loc), yW D cs (LX κ) LM αX αM MX1 MM1 A s H1 locs1 → zInv κ (cI + 130000) MX1 MM1 → W p l e room_1 s m #[Value.ref b] below meth c H1 locs1 cells slots Q (F0 m 1077 ls [])) : W p l e room_1 s m #[Value.ref b] below meth c H locs cells slots Q (F0 m 782 ls []) := by
  obtain ⟨hX, hxs, hbl, hbA, hL, hi, hl⟩ := E
  have hx := hX.1.1
  have hb := hX.1.2.1
  have hown := hX.1.2.2.2.1
  have hts := hX.1.2.2.2.2
  obtain ⟨r, MX1, MM1, eX, eM, hI1⟩ := st_judge 6001 (by decide) hI (by omega) (xR (xs (i + 1))) (xR (xs (i + 2)))
  refine lv_aload_n hx hb dL_law_782 rfl (lv_at hl 2 rfl) ?_
  refine ys_ld (k := 1) hx hb hxs hbl hbA hW.2.2.2.2.2 hl rfl rfl (by omega) hL rfl dL_law_783 dL_law_784 dL_law_785 dL_law_786 dL_law_787 ?_
  refine ys_ld (k := 2) hx hb hxs hbl hbA hW.2.2.2.2.2 hl rfl rfl (by omega) hL rfl dL_law_788 dL_law_789 dL_law_790 dL_law_791 dL_law_792 ?_
  refine yW_i (As := [.int (nZ (xs (i + 1)).toInt), .int (nZ (xs (i + 2)).toInt)]) hX hW (ci := 7) rfl rfl (ctX7_judge l κ D cs αX 6001 MX _ _ r MX1 eX) (cwV 2 hts gL_law_X7_judge rfl rfl rfl (by decide +kernel) ⟨Nat.le_of_ble_eq_true rfl, Nat.le_of_ble_eq_true rfl⟩) rfl hl.1 (Nat.le_of_ble_eq_true rfl) rfl dL_law_793 hf (fun H locs hW => ?_)
  refine lv_aload_n hx hb dL_law_796 rfl (lv_at hl 1 rfl) ?_
  refine ys_ld (k := 1) hx hb hxs hbl hbA hW.2.2.2.2.2 hl rfl rfl (by omega) hL rfl dL_law_797 dL_law_798 dL_law_799 dL_law_800 dL_law_801 ?_
  refine ys_ld (k := 2) hx hb hxs hbl hbA hW.2.2.2.2.2 hl rfl rfl (by omega) hL rfl dL_law_802 dL_law_803 dL_law_804 dL_law_805 dL_law_806 ?_
  refine yW_i (As := [.int (nZ (xs (i + 1)).toInt), .int (nZ (xs (i + 2)).toInt)]) hX (yW_swap hW) (ci := 8) rfl rfl (ctX8_judge l D cs αM 6001 MM _ _ r MM1 eM) (cwV 2 hts gL_law_X8_judge rfl rfl rfl (by decide +kernel) ⟨Nat.le_of_ble_eq_true rfl, Nat.le_of_ble_eq_true rfl⟩) rfl hl.1 (Nat.le_of_ble_eq_true rfl) rfl dL_law_807 hf (fun H locs hW => ?_)
  have hW := yW_swap hW
  refine ys_ieq (tgt := 1077) hx hb dL_law_810 (by decide) ?_
  exact kk MX1 MM1 H locs hW hI1
set_option maxHeartbeats 4000000 in
set_option maxRecDepth 100000 in
theorem lb_image_t (E : yE p s m c D cs A b L xs i ls αX αM) (hW : yW D cs (LX true) LM αX αM MX MM A s H locs) (hI : zInv true cI MX MM) (hc : cI + 130000 ≤ 1899990000) (hf : cells ≤ room_1.cells ∧ slots ≤ room_1.slots)
    (kk : ∀ (MX1 MM1 : zM) (H1 : Heap) (locs1 : List Loc), yW D cs (LX true) LM αX αM MX1 MM1 A s H1 locs1 → zInv true (cI + 130000) MX1 MM1 → W p l e room_1 s m #[Value.ref b] below meth c H1 locs1 cells slots Q (F0 m 1077 ls [])) : W p l e room_1 s m #[Value.ref b] below meth c H locs cells slots Q (F0 m 815 ls []) := by
  obtain ⟨hX, hxs, hbl, hbA, hL, hi, hl⟩ := E
  have hx := hX.1.1
  have hb := hX.1.2.1
  have hown := hX.1.2.2.2.1
  have hts := hX.1.2.2.2.2
  obtain ⟨r, MX1, MM1, eX, eM, hI1⟩ := st_image 6001 (by decide) hI (fun _ _ => rfl)
  refine lv_aload_n hx hb dL_law_815 rfl (lv_at hl 2 rfl) ?_
  refine yW_i (As := []) hX hW (ci := 7) rfl rfl (ctX7_image_t l D cs αX 6001 MX r MX1 eX) (cwV 0 hts gL_law_X7_image rfl rfl rfl (by decide +kernel) ⟨Nat.le_of_ble_eq_true rfl, Nat.le_of_ble_eq_true rfl⟩) rfl hl.1 (Nat.le_of_ble_eq_true rfl) rfl dL_law_816 hf (fun H locs hW => ?_)
  refine lv_aload_n hx hb dL_law_819 rfl (lv_at hl 1 rfl) ?_
  refine yW_i (As := []) hX (yW_swap hW) (ci := 8) rfl rfl (ctX8_image l D cs αM 6001 MM r MM1 eM) (cwV 0 hts gL_law_X8_image rfl rfl rfl (by decide +kernel) ⟨Nat.le_of_ble_eq_true rfl, Nat.le_of_ble_eq_true rfl⟩) rfl hl.1 (Nat.le_of_ble_eq_true rfl) rfl dL_law_820 hf (fun H locs hW => ?_)
  have hW := yW_swap hW
  refine ys_ieq (tgt := 1077) hx hb dL_law_823 (by decide) ?_
  exact kk MX1 MM1 H locs hW hI1
set_option maxHeartbeats 4000000 in
set_option maxRecDepth 100000 in
theorem lb_undo_t (E : yE p s m c D cs A b L xs i ls αX αM) (hW : yW D cs (LX true) LM αX αM MX MM A s H locs) (hI : zInv true cI MX MM) (hc : cI + 130000 ≤ 1899990000) (hf : cells ≤ room_1.cells ∧ slots ≤ room_1.slots)
    (kk : ∀ (MX1 MM1 : zM) (H1 : Heap) (locs1 : List Loc), yW D cs (LX true) LM αX αM MX1 MM1 A s H1 locs1 → zInv true (cI + 130000) MX1 MM1 → W p l e room_1 s m #[Value.ref b] below meth c H1 locs1 cells slots Q (F0 m 1077 ls [])) : W p l e room_1 s m #[Value.ref b] below meth c H locs cells slots Q (F0 m 828 ls []) := by
  obtain ⟨hX, hxs, hbl, hbA, hL, hi, hl⟩ := E
  have hx := hX.1.1
  have hb := hX.1.2.1
  have hown := hX.1.2.2.2.1
  have hts := hX.1.2.2.2.2
  obtain ⟨r, MX1, MM1, eX, eM, hI1⟩ := st_undo_t 6001 (by decide) hI
  refine lv_aload_n hx hb dL_law_828 rfl (lv_at hl 2 rfl) ?_
  refine yW_i (As := []) hX hW (ci := 7) rfl rfl (ctX7_undo_t l D cs αX 6001 MX r MX1 eX) (cwV 0 hts gL_law_X7_undo rfl rfl rfl (by decide +kernel) ⟨Nat.le_of_ble_eq_true rfl, Nat.le_of_ble_eq_true rfl⟩) rfl hl.1 (Nat.le_of_ble_eq_true rfl) rfl dL_law_829 hf (fun H locs hW => ?_)
  refine lv_aload_n hx hb dL_law_832 rfl (lv_at hl 1 rfl) ?_
  refine yW_i (As := []) hX (yW_swap hW) (ci := 8) rfl rfl (ctX8_undo l D cs αM 6001 MM r MM1 eM) (cwV 0 hts gL_law_X8_undo rfl rfl rfl (by decide +kernel) ⟨Nat.le_of_ble_eq_true rfl, Nat.le_of_ble_eq_true rfl⟩) rfl hl.1 (Nat.le_of_ble_eq_true rfl) rfl dL_law_833 hf (fun H locs hW => ?_)
  have hW := yW_swap hW
  refine ys_ieq (tgt := 1077) hx hb dL_law_836 (by decide) ?_
  exact kk MX1 MM1 H locs hW hI1
set_option maxHeartbeats 4000000 in
set_option maxRecDepth 100000 in
theorem lb_undo_f (E : yE p s m c D cs A b L xs i ls αX αM) (hW : yW D cs (LX false) LM αX αM MX MM A s H locs) (hI : zInv false cI MX MM) (hc : cI + 130000 ≤ 1899990000) (hf : cells ≤ room_1.cells ∧ slots ≤ room_1.slots)
    (kk : ∀ (MX1 MM1 : zM) (H1 : Heap) (locs1 : List Loc), yW D cs (LX false) LM αX αM MX1 MM1 A s H1 locs1 → zInv false (cI + 130000) MX1 MM1 → W p l e room_1 s m #[Value.ref b] below meth c H1 locs1 cells slots Q (F0 m 1077 ls [])) : W p l e room_1 s m #[Value.ref b] below meth c H locs cells slots Q (F0 m 828 ls []) := by
  obtain ⟨hX, hxs, hbl, hbA, hL, hi, hl⟩ := E
  have hx := hX.1.1
  have hb := hX.1.2.1
  have hown := hX.1.2.2.2.1
  have hts := hX.1.2.2.2.2
  obtain ⟨r, MX1, MM1, eX, eM, hI1⟩ := st_undo_f 6001 hI
  refine lv_aload_n hx hb dL_law_828 rfl (lv_at hl 2 rfl) ?_
  refine yW_i (As := []) hX hW (ci := 7) rfl rfl (ctX7_undo_f l D cs αX 6001 MX r MX1 eX) (cwV 0 hts gL_law_X7_undo rfl rfl rfl (by decide +kernel) ⟨Nat.le_of_ble_eq_true rfl, Nat.le_of_ble_eq_true rfl⟩) rfl hl.1 (Nat.le_of_ble_eq_true rfl) rfl dL_law_829 hf (fun H locs hW => ?_)
  refine lv_aload_n hx hb dL_law_832 rfl (lv_at hl 1 rfl) ?_
  refine yW_i (As := []) hX (yW_swap hW) (ci := 8) rfl rfl (ctX8_undo l D cs αM 6001 MM r MM1 eM) (cwV 0 hts gL_law_X8_undo rfl rfl rfl (by decide +kernel) ⟨Nat.le_of_ble_eq_true rfl, Nat.le_of_ble_eq_true rfl⟩) rfl hl.1 (Nat.le_of_ble_eq_true rfl) rfl dL_law_833 hf (fun H locs hW => ?_)
  have hW := yW_swap hW
  refine ys_ieq (tgt := 1077) hx hb dL_law_836 (by decide) ?_
  exact kk MX1 MM1 H locs hW hI1
set_option maxHeartbeats 4000000 in
set_option maxRecDepth 100000 in
theorem lb_count (E : yE p s m c D cs A b L xs i ls αX αM) (hW : yW D cs (LX κ) LM αX αM MX MM A s H locs) (hI : zInv κ cI MX MM) (hc : cI + 130000 ≤ 1899990000) (hf : cells ≤ room_1.cells ∧ slots ≤ room_1.slots)
    (kk : ∀ (MX1 MM1 : zM) (H1 : Heap) (locs1 : List Loc), yW D cs (LX κ) LM αX αM MX1 MM1 A s H1 locs1 → zInv κ (cI + 130000) MX1 MM1 → W p l e room_1 s m #[Value.ref b] below meth c H1 locs1 cells slots Q (F0 m 1077 ls [])) : W p l e room_1 s m #[Value.ref b] below meth c H locs cells slots Q (F0 m 841 ls []) := by
  obtain ⟨hX, hxs, hbl, hbA, hL, hi, hl⟩ := E
  have hx := hX.1.1
  have hb := hX.1.2.1
  have hown := hX.1.2.2.2.1
  have hts := hX.1.2.2.2.2
  obtain ⟨r, MX1, MM1, eX, eM, hI1⟩ := st_count 6001 (by decide) hI (xR (xs (i + 1)))
  refine lv_aload_n hx hb dL_law_841 rfl (lv_at hl 2 rfl) ?_
  refine ys_ld (k := 1) hx hb hxs hbl hbA hW.2.2.2.2.2 hl rfl rfl (by omega) hL rfl dL_law_842 dL_law_843 dL_law_844 dL_law_845 dL_law_846 ?_
  refine yW_i (As := [.int (nZ (xs (i + 1)).toInt)]) hX hW (ci := 7) rfl rfl (ctX7_count l κ D cs αX 6001 MX _ r MX1 eX) (cwV 1 hts gL_law_X7_count rfl rfl rfl (by decide +kernel) ⟨Nat.le_of_ble_eq_true rfl, Nat.le_of_ble_eq_true rfl⟩) rfl hl.1 (Nat.le_of_ble_eq_true rfl) rfl dL_law_847 hf (fun H locs hW => ?_)
  refine lv_aload_n hx hb dL_law_850 rfl (lv_at hl 1 rfl) ?_
  refine ys_ld (k := 1) hx hb hxs hbl hbA hW.2.2.2.2.2 hl rfl rfl (by omega) hL rfl dL_law_851 dL_law_852 dL_law_853 dL_law_854 dL_law_855 ?_
  refine yW_i (As := [.int (nZ (xs (i + 1)).toInt)]) hX (yW_swap hW) (ci := 8) rfl rfl (ctX8_count l D cs αM 6001 MM _ r MM1 eM) (cwV 1 hts gL_law_X8_count rfl rfl rfl (by decide +kernel) ⟨Nat.le_of_ble_eq_true rfl, Nat.le_of_ble_eq_true rfl⟩) rfl hl.1 (Nat.le_of_ble_eq_true rfl) rfl dL_law_856 hf (fun H locs hW => ?_)
  have hW := yW_swap hW
  refine ys_ieq (tgt := 1077) hx hb dL_law_859 (by decide) ?_
  exact kk MX1 MM1 H locs hW hI1
set_option maxHeartbeats 4000000 in
set_option maxRecDepth 100000 in
theorem lb_tape (E : yE p s m c D cs A b L xs i ls αX αM) (hW : yW D cs (LX κ) LM αX αM MX MM A s H locs) (hI : zInv κ cI MX MM) (hc : cI + 130000 ≤ 1899990000) (hf : cells ≤ room_1.cells ∧ slots ≤ room_1.slots)
    (kk : ∀ (MX1 MM1 : zM) (H1 : Heap) (locs1 : List Loc), yW D cs (LX κ) LM αX αM MX1 MM1 A s H1 locs1 → zInv κ (cI + 130000) MX1 MM1 → W p l e room_1 s m #[Value.ref b] below meth c H1 locs1 cells slots Q (F0 m 1077 ls [])) : W p l e room_1 s m #[Value.ref b] below meth c H locs cells slots Q (F0 m 864 ls []) := by
  obtain ⟨hX, hxs, hbl, hbA, hL, hi, hl⟩ := E
  have hx := hX.1.1
  have hb := hX.1.2.1
  have hown := hX.1.2.2.2.1
  have hts := hX.1.2.2.2.2
  obtain ⟨r, MX1, MM1, eX, eM, hI1⟩ := st_tape 6001 (by decide) hI (xR (xs (i + 1))) (xR (xs (i + 2))) (xR (xs (i + 3)))
  refine lv_aload_n hx hb dL_law_864 rfl (lv_at hl 2 rfl) ?_
  refine ys_ld (k := 1) hx hb hxs hbl hbA hW.2.2.2.2.2 hl rfl rfl (by omega) hL rfl dL_law_865 dL_law_866 dL_law_867 dL_law_868 dL_law_869 ?_
  refine ys_ld (k := 2) hx hb hxs hbl hbA hW.2.2.2.2.2 hl rfl rfl (by omega) hL rfl dL_law_870 dL_law_871 dL_law_872 dL_law_873 dL_law_874 ?_
  refine ys_ld (k := 3) hx hb hxs hbl hbA hW.2.2.2.2.2 hl rfl rfl (by omega) hL rfl dL_law_875 dL_law_876 dL_law_877 dL_law_878 dL_law_879 ?_
  refine yW_i (As := [.int (nZ (xs (i + 1)).toInt), .int (nZ (xs (i + 2)).toInt), .int (nZ (xs (i + 3)).toInt)]) hX hW (ci := 7) rfl rfl (ctX7_tape l κ D cs αX 6001 MX _ _ _ r MX1 eX) (cwV 3 hts gL_law_X7_tape rfl rfl rfl (by decide +kernel) ⟨Nat.le_of_ble_eq_true rfl, Nat.le_of_ble_eq_true rfl⟩) rfl hl.1 (Nat.le_of_ble_eq_true rfl) rfl dL_law_880 hf (fun H locs hW => ?_)
  refine lv_aload_n hx hb dL_law_883 rfl (lv_at hl 1 rfl) ?_
  refine ys_ld (k := 1) hx hb hxs hbl hbA hW.2.2.2.2.2 hl rfl rfl (by omega) hL rfl dL_law_884 dL_law_885 dL_law_886 dL_law_887 dL_law_888 ?_
  refine ys_ld (k := 2) hx hb hxs hbl hbA hW.2.2.2.2.2 hl rfl rfl (by omega) hL rfl dL_law_889 dL_law_890 dL_law_891 dL_law_892 dL_law_893 ?_
  refine ys_ld (k := 3) hx hb hxs hbl hbA hW.2.2.2.2.2 hl rfl rfl (by omega) hL rfl dL_law_894 dL_law_895 dL_law_896 dL_law_897 dL_law_898 ?_
  refine yW_i (As := [.int (nZ (xs (i + 1)).toInt), .int (nZ (xs (i + 2)).toInt), .int (nZ (xs (i + 3)).toInt)]) hX (yW_swap hW) (ci := 8) rfl rfl (ctX8_tape l D cs αM 6001 MM _ _ _ r MM1 eM) (cwV 3 hts gL_law_X8_tape rfl rfl rfl (by decide +kernel) ⟨Nat.le_of_ble_eq_true rfl, Nat.le_of_ble_eq_true rfl⟩) rfl hl.1 (Nat.le_of_ble_eq_true rfl) rfl dL_law_899 hf (fun H locs hW => ?_)
  have hW := yW_swap hW
  refine ys_ieq (tgt := 1077) hx hb dL_law_902 (by decide) ?_
  exact kk MX1 MM1 H locs hW hI1
set_option maxHeartbeats 4000000 in
set_option maxRecDepth 100000 in
theorem lb_item (E : yE p s m c D cs A b L xs i ls αX αM) (hW : yW D cs (LX κ) LM αX αM MX MM A s H locs) (hI : zInv κ cI MX MM) (hc : cI + 130000 ≤ 1899990000) (hf : cells ≤ room_1.cells ∧ slots ≤ room_1.slots)
    (kk : ∀ (MX1 MM1 : zM) (H1 : Heap) (locs1 : List Loc), yW D cs (LX κ) LM αX αM MX1 MM1 A s H1 locs1 → zInv κ (cI + 130000) MX1 MM1 → W p l e room_1 s m #[Value.ref b] below meth c H1 locs1 cells slots Q (F0 m 1077 ls [])) : W p l e room_1 s m #[Value.ref b] below meth c H locs cells slots Q (F0 m 907 ls []) := by
  obtain ⟨hX, hxs, hbl, hbA, hL, hi, hl⟩ := E
  have hx := hX.1.1
  have hb := hX.1.2.1
  have hown := hX.1.2.2.2.1
  have hts := hX.1.2.2.2.2
  obtain ⟨r, MX1, MM1, eX, eM, hI1⟩ := st_item 6001 hI (xR (xs (i + 1))) (xR (xs (i + 2))) (xRL _)
  refine lv_aload_n hx hb dL_law_907 rfl (lv_at hl 2 rfl) ?_
  refine ys_ld (k := 1) hx hb hxs hbl hbA hW.2.2.2.2.2 hl rfl rfl (by omega) hL rfl dL_law_908 dL_law_909 dL_law_910 dL_law_911 dL_law_912 ?_
  refine ys_ld (k := 2) hx hb hxs hbl hbA hW.2.2.2.2.2 hl rfl rfl (by omega) hL rfl dL_law_913 dL_law_914 dL_law_915 dL_law_916 dL_law_917 ?_
  refine ys_ld (k := 3) hx hb hxs hbl hbA hW.2.2.2.2.2 hl rfl rfl (by omega) hL rfl dL_law_918 dL_law_919 dL_law_920 dL_law_921 dL_law_922 ?_
  refine lv_i2l (v := (nZ (xs (i + 3)).toInt).toInt64) hx hb dL_law_923 rfl ?_
  refine z_bipush (v := 32) hx hb dL_law_924 (by decide +kernel) ?_
  refine lv_lshl (v := (nZ (xs (i + 3)).toInt).toInt64 <<< ((nZ 32).toInt64 &&& 63)) hx hb dL_law_926 rfl ?_
  refine ys_ld (k := 4) hx hb hxs hbl hbA hW.2.2.2.2.2 hl rfl rfl (by omega) hL rfl dL_law_927 dL_law_928 dL_law_929 dL_law_930 dL_law_931 ?_
  refine lv_i2l (v := (nZ (xs (i + 4)).toInt).toInt64) hx hb dL_law_932 rfl ?_
  refine lv_ldc2 hx hb hown (hts (.constantLong RL 117 (4294967295)) (List.mem_of_getElem? (i := 6) (by decide +kernel))) dL_law_933 ?_
  refine lv_land hx hb dL_law_936 ?_
  refine lv_lor hx hb dL_law_937 ?_
  refine ys_cast (v := yV xs i) rfl ?_
  refine yW_i (As := [.int (nZ (xs (i + 1)).toInt), .int (nZ (xs (i + 2)).toInt), .long (nY (yV xs i).toInt)]) hX hW (ci := 7) rfl rfl (ctX7_item l κ D cs αX 6001 MX _ _ _ r MX1 eX) (cwV 3 hts gL_law_X7_item rfl rfl rfl (by decide +kernel) ⟨Nat.le_of_ble_eq_true rfl, Nat.le_of_ble_eq_true rfl⟩) rfl hl.1 (Nat.le_of_ble_eq_true rfl) rfl dL_law_938 hf (fun H locs hW => ?_)
  refine lv_aload_n hx hb dL_law_941 rfl (lv_at hl 1 rfl) ?_
  refine ys_ld (k := 1) hx hb hxs hbl hbA hW.2.2.2.2.2 hl rfl rfl (by omega) hL rfl dL_law_942 dL_law_943 dL_law_944 dL_law_945 dL_law_946 ?_
  refine ys_ld (k := 2) hx hb hxs hbl hbA hW.2.2.2.2.2 hl rfl rfl (by omega) hL rfl dL_law_947 dL_law_948 dL_law_949 dL_law_950 dL_law_951 ?_
  refine ys_ld (k := 3) hx hb hxs hbl hbA hW.2.2.2.2.2 hl rfl rfl (by omega) hL rfl dL_law_952 dL_law_953 dL_law_954 dL_law_955 dL_law_956 ?_
  refine lv_i2l (v := (nZ (xs (i + 3)).toInt).toInt64) hx hb dL_law_957 rfl ?_
  refine z_bipush (v := 32) hx hb dL_law_958 (by decide +kernel) ?_
  refine lv_lshl (v := (nZ (xs (i + 3)).toInt).toInt64 <<< ((nZ 32).toInt64 &&& 63)) hx hb dL_law_960 rfl ?_
  refine ys_ld (k := 4) hx hb hxs hbl hbA hW.2.2.2.2.2 hl rfl rfl (by omega) hL rfl dL_law_961 dL_law_962 dL_law_963 dL_law_964 dL_law_965 ?_
  refine lv_i2l (v := (nZ (xs (i + 4)).toInt).toInt64) hx hb dL_law_966 rfl ?_
  refine lv_ldc2 hx hb hown (hts (.constantLong RL 117 (4294967295)) (List.mem_of_getElem? (i := 6) (by decide +kernel))) dL_law_967 ?_
  refine lv_land hx hb dL_law_970 ?_
  refine lv_lor hx hb dL_law_971 ?_
  refine ys_cast (v := yV xs i) rfl ?_
  refine yW_i (As := [.int (nZ (xs (i + 1)).toInt), .int (nZ (xs (i + 2)).toInt), .long (nY (yV xs i).toInt)]) hX (yW_swap hW) (ci := 8) rfl rfl (ctX8_item l D cs αM 6001 MM _ _ _ r MM1 eM) (cwV 3 hts gL_law_X8_item rfl rfl rfl (by decide +kernel) ⟨Nat.le_of_ble_eq_true rfl, Nat.le_of_ble_eq_true rfl⟩) rfl hl.1 (Nat.le_of_ble_eq_true rfl) rfl dL_law_972 hf (fun H locs hW => ?_)
  have hW := yW_swap hW
  refine ys_ieq (tgt := 1077) hx hb dL_law_975 (by decide) ?_
  exact kk MX1 MM1 H locs hW hI1
set_option maxHeartbeats 4000000 in
set_option maxRecDepth 100000 in
theorem lb_read (E : yE p s m c D cs A b L xs i ls αX αM) (hW : yW D cs (LX κ) LM αX αM MX MM A s H locs) (hI : zInv κ cI MX MM) (hc : cI + 130000 ≤ 1899990000) (hf : cells ≤ room_1.cells ∧ slots ≤ room_1.slots)
    (kk : ∀ (MX1 MM1 : zM) (H1 : Heap) (locs1 : List Loc), yW D cs (LX κ) LM αX αM MX1 MM1 A s H1 locs1 → zInv κ (cI + 130000) MX1 MM1 → W p l e room_1 s m #[Value.ref b] below meth c H1 locs1 cells slots Q (F0 m 1077 ls [])) : W p l e room_1 s m #[Value.ref b] below meth c H locs cells slots Q (F0 m 980 ls []) := by
  obtain ⟨hX, hxs, hbl, hbA, hL, hi, hl⟩ := E
  have hx := hX.1.1
  have hb := hX.1.2.1
  have hown := hX.1.2.2.2.1
  have hts := hX.1.2.2.2.2
  obtain ⟨r, MX1, MM1, eX, eM, hI1⟩ := st_read 6001 hI (xR (xs (i + 1))) (xR (xs (i + 2)))
  refine lv_aload_n hx hb dL_law_980 rfl (lv_at hl 2 rfl) ?_
  refine ys_ld (k := 1) hx hb hxs hbl hbA hW.2.2.2.2.2 hl rfl rfl (by omega) hL rfl dL_law_981 dL_law_982 dL_law_983 dL_law_984 dL_law_985 ?_
  refine ys_ld (k := 2) hx hb hxs hbl hbA hW.2.2.2.2.2 hl rfl rfl (by omega) hL rfl dL_law_986 dL_law_987 dL_law_988 dL_law_989 dL_law_990 ?_
  refine yW_l (As := [.int (nZ (xs (i + 1)).toInt), .int (nZ (xs (i + 2)).toInt)]) hX hW (ci := 7) rfl rfl (ctX7_read l κ D cs αX 6001 MX _ _ r MX1 eX) (cwV 2 hts gL_law_X7_read rfl rfl rfl (by decide +kernel) ⟨Nat.le_of_ble_eq_true rfl, Nat.le_of_ble_eq_true rfl⟩) rfl hl.1 (Nat.le_of_ble_eq_true rfl) rfl dL_law_991 hf (fun H locs hW => ?_)
  refine lv_aload_n hx hb dL_law_994 rfl (lv_at hl 1 rfl) ?_
  refine ys_ld (k := 1) hx hb hxs hbl hbA hW.2.2.2.2.2 hl rfl rfl (by omega) hL rfl dL_law_995 dL_law_996 dL_law_997 dL_law_998 dL_law_999 ?_
  refine ys_ld (k := 2) hx hb hxs hbl hbA hW.2.2.2.2.2 hl rfl rfl (by omega) hL rfl dL_law_1000 dL_law_1001 dL_law_1002 dL_law_1003 dL_law_1004 ?_
  refine yW_l (As := [.int (nZ (xs (i + 1)).toInt), .int (nZ (xs (i + 2)).toInt)]) hX (yW_swap hW) (ci := 8) rfl rfl (ctX8_read l D cs αM 6001 MM _ _ r MM1 eM) (cwV 2 hts gL_law_X8_read rfl rfl rfl (by decide +kernel) ⟨Nat.le_of_ble_eq_true rfl, Nat.le_of_ble_eq_true rfl⟩) rfl hl.1 (Nat.le_of_ble_eq_true rfl) rfl dL_law_1005 hf (fun H locs hW => ?_)
  have hW := yW_swap hW
  refine ys_leq (tgt := 1077) hx hb dL_law_1008 dL_law_1009 (by decide) ?_
  exact kk MX1 MM1 H locs hW hI1
set_option maxHeartbeats 4000000 in
set_option maxRecDepth 100000 in
theorem lb_shift (E : yE p s m c D cs A b L xs i ls αX αM) (hW : yW D cs (LX κ) LM αX αM MX MM A s H locs) (hI : zInv κ cI MX MM) (hc : cI + 130000 ≤ 1899990000) (hf : cells ≤ room_1.cells ∧ slots ≤ room_1.slots)
    (kk : ∀ (MX1 MM1 : zM) (H1 : Heap) (locs1 : List Loc), yW D cs (LX κ) LM αX αM MX1 MM1 A s H1 locs1 → zInv κ (cI + 130000) MX1 MM1 → W p l e room_1 s m #[Value.ref b] below meth c H1 locs1 cells slots Q (F0 m 1077 ls [])) : W p l e room_1 s m #[Value.ref b] below meth c H locs cells slots Q (F0 m 1014 ls []) := by
  obtain ⟨hX, hxs, hbl, hbA, hL, hi, hl⟩ := E
  have hx := hX.1.1
  have hb := hX.1.2.1
  have hown := hX.1.2.2.2.1
  have hts := hX.1.2.2.2.2
  obtain ⟨r, MX1, MM1, eX, eM, hI1⟩ := st_shift 6001 (by decide) hI (xR (xs (i + 1))) (xR (xs (i + 2))) (xR (xs (i + 3))) (xR (xs (i + 4))) (xR (xs (i + 5)))
  refine lv_aload_n hx hb dL_law_1014 rfl (lv_at hl 2 rfl) ?_
  refine ys_ld (k := 1) hx hb hxs hbl hbA hW.2.2.2.2.2 hl rfl rfl (by omega) hL rfl dL_law_1015 dL_law_1016 dL_law_1017 dL_law_1018 dL_law_1019 ?_
  refine ys_ld (k := 2) hx hb hxs hbl hbA hW.2.2.2.2.2 hl rfl rfl (by omega) hL rfl dL_law_1020 dL_law_1021 dL_law_1022 dL_law_1023 dL_law_1024 ?_
  refine ys_ld (k := 3) hx hb hxs hbl hbA hW.2.2.2.2.2 hl rfl rfl (by omega) hL rfl dL_law_1025 dL_law_1026 dL_law_1027 dL_law_1028 dL_law_1029 ?_
  refine ys_ld (k := 4) hx hb hxs hbl hbA hW.2.2.2.2.2 hl rfl rfl (by omega) hL rfl dL_law_1030 dL_law_1031 dL_law_1032 dL_law_1033 dL_law_1034 ?_
  refine ys_ld (k := 5) hx hb hxs hbl hbA hW.2.2.2.2.2 hl rfl rfl (by omega) hL rfl dL_law_1035 dL_law_1036 dL_law_1037 dL_law_1038 dL_law_1039 ?_
  refine yW_i (As := [.int (nZ (xs (i + 1)).toInt), .int (nZ (xs (i + 2)).toInt), .int (nZ (xs (i + 3)).toInt), .int (nZ (xs (i + 4)).toInt), .int (nZ (xs (i + 5)).toInt)]) hX hW (ci := 7) rfl rfl (ctX7_shift l κ D cs αX 6001 MX _ _ _ _ _ r MX1 eX) (cwV 5 hts gL_law_X7_shift rfl rfl rfl (by decide +kernel) ⟨Nat.le_of_ble_eq_true rfl, Nat.le_of_ble_eq_true rfl⟩) rfl hl.1 (Nat.le_of_ble_eq_true rfl) rfl dL_law_1040 hf (fun H locs hW => ?_)
  refine lv_aload_n hx hb dL_law_1043 rfl (lv_at hl 1 rfl) ?_
  refine ys_ld (k := 1) hx hb hxs hbl hbA hW.2.2.2.2.2 hl rfl rfl (by omega) hL rfl dL_law_1044 dL_law_1045 dL_law_1046 dL_law_1047 dL_law_1048 ?_
  refine ys_ld (k := 2) hx hb hxs hbl hbA hW.2.2.2.2.2 hl rfl rfl (by omega) hL rfl dL_law_1049 dL_law_1050 dL_law_1051 dL_law_1052 dL_law_1053 ?_
  refine ys_ld (k := 3) hx hb hxs hbl hbA hW.2.2.2.2.2 hl rfl rfl (by omega) hL rfl dL_law_1054 dL_law_1055 dL_law_1056 dL_law_1057 dL_law_1058 ?_
  refine ys_ld (k := 4) hx hb hxs hbl hbA hW.2.2.2.2.2 hl rfl rfl (by omega) hL rfl dL_law_1059 dL_law_1060 dL_law_1061 dL_law_1062 dL_law_1063 ?_
  refine ys_ld (k := 5) hx hb hxs hbl hbA hW.2.2.2.2.2 hl rfl rfl (by omega) hL rfl dL_law_1064 dL_law_1065 dL_law_1066 dL_law_1067 dL_law_1068 ?_
  refine yW_i (As := [.int (nZ (xs (i + 1)).toInt), .int (nZ (xs (i + 2)).toInt), .int (nZ (xs (i + 3)).toInt), .int (nZ (xs (i + 4)).toInt), .int (nZ (xs (i + 5)).toInt)]) hX (yW_swap hW) (ci := 8) rfl rfl (ctX8_shift l D cs αM 6001 MM _ _ _ _ _ r MM1 eM) (cwV 5 hts gL_law_X8_shift rfl rfl rfl (by decide +kernel) ⟨Nat.le_of_ble_eq_true rfl, Nat.le_of_ble_eq_true rfl⟩) rfl hl.1 (Nat.le_of_ble_eq_true rfl) rfl dL_law_1069 hf (fun H locs hW => ?_)
  have hW := yW_swap hW
  refine ys_ieq (tgt := 1077) hx hb dL_law_1072 (by decide) ?_
  exact kk MX1 MM1 H locs hW hI1
end YLB
