/-! THE LAW'S CASES -/
section LGC
variable {l : Launch} {D : va_G} {cI cZ cL cR : ClassId} {B : Nat} {σ τ : Mem} {p : Program} {e : Env} {s : State} {m : MethodId} {args : Array Value} {below : List Frame} {meth : Method} {c : Code} {H : Heap} {locs : List Loc} {Q : State → Prop} {cells slots : Nat} {ls : Array Slot} {b L i : Nat} {xs : Nat → Int32}
def lw_N (l : Launch) (D : va_G) (cI cZ cL cR : ClassId) (B : Nat) (p : Program) (e : Env) (s : State) (m : MethodId) (args : Array Value) (below : List Frame) (meth : Method) (c : Code) (Q : State → Prop) (cells slots : Nat) (ls : Array Slot) : Prop := ∀ (σ τ : Mem) (H : Heap) (locs : List Loc), Rel σ τ → va_P D vwCl (wl cI cZ cL cR B σ τ) H → va_S (lm_A B) s.heap H locs → W p l e room_1 s m args below meth c H locs cells slots Q (F0 m 1415 ls [])
theorem lc_row (hcs : cells ≤ room_1.cells ∧ slots ≤ room_1.slots) (C0 : lm_Cx D cI cZ cL cR B p s m args meth c cL_law 4 (some .boolean) RL) (hX : va_X b L xs s s.heap) (hbl : b < s.heap.size) (hbA : ¬ lm_A B b) (hl : lv_has ls 4 [(0, .ref b), (1, .ref (B + 0)), (2, .ref (B + 140)), (3, .int (nI i))]) (hi : i + 6 ≤ L) (hL : L ≤ 3072) (R0 : Rel σ τ) (hR : va_P D vwCl (wl cI cZ cL cR B σ τ) H) (hS : va_S (lm_A B) s.heap H locs) (kk : lw_N l D cI cZ cL cR B p e s m args below meth c Q cells slots ls) : W p l e room_1 s m args below meth c H locs cells slots Q (F0 m 200 ls []) := by
  have hx := C0.1
  have hb := C0.2.1
  have hts := C0.2.2.2.2.2.2.1
  refine lv_aload_n hx hb dL_law_200 rfl (lv_at hl 1 rfl) ?_
  refine lv_aload_n hx hb dL_law_201 rfl (lv_at hl 0 rfl) ?_
  refine lv_iload_n hx hb dL_law_202 rfl (lv_at hl 3 rfl) ?_
  refine lv_iconst (v := 1) hx hb dL_law_203 (by decide) ?_
  refine lv_iadd hx hb dL_law_204 ?_
  refine va_sld hx hb hX hbl hbA hS (vin 1 rfl (by omega) (by omega)) dL_law_205 ?_
  refine lv_aload_n hx hb dL_law_206 rfl (lv_at hl 0 rfl) ?_
  refine lv_iload_n hx hb dL_law_207 rfl (lv_at hl 3 rfl) ?_
  refine lv_iconst (v := 2) hx hb dL_law_208 (by decide) ?_
  refine lv_iadd hx hb dL_law_209 ?_
  refine va_sld hx hb hX hbl hbA hS (vin 2 rfl (by omega) (by omega)) dL_law_210 ?_
  refine lv_aload_n hx hb dL_law_211 rfl (lv_at hl 0 rfl) ?_
  refine lv_iload_n hx hb dL_law_212 rfl (lv_at hl 3 rfl) ?_
  refine lv_iconst (v := 3) hx hb dL_law_213 (by decide) ?_
  refine lv_iadd hx hb dL_law_214 ?_
  refine va_sld hx hb hX hbl hbA hS (vin 3 rfl (by omega) (by omega)) dL_law_215 ?_
  obtain ⟨r, σ2, τ2, e1, e2, R2⟩ := o_row R0 (xs (nI i + 1).toNatClampNeg) (xs (nI i + 2).toNatClampNeg) (xs (nI i + 3).toNatClampNeg)
  refine lg_endi (lg_runV hcs C0 hR hS (c_X4_row e1) (lw_cV 3 hts uw_98 mv_X4_row rfl rfl hd_X4_row ⟨Nat.le_of_ble_eq_true rfl, Nat.le_of_ble_eq_true rfl⟩) (by decide) cell_0 rfl rfl hl rfl (Nat.le_of_ble_eq_true rfl) dL_law_216) hS (fun H locs hR hS => ?_)
  refine lv_aload_n hx hb dL_law_219 rfl (lv_at hl 2 rfl) ?_
  refine lv_aload_n hx hb dL_law_220 rfl (lv_at hl 0 rfl) ?_
  refine lv_iload_n hx hb dL_law_221 rfl (lv_at hl 3 rfl) ?_
  refine lv_iconst (v := 1) hx hb dL_law_222 (by decide) ?_
  refine lv_iadd hx hb dL_law_223 ?_
  refine va_sld hx hb hX hbl hbA hS (vin 1 rfl (by omega) (by omega)) dL_law_224 ?_
  refine lv_aload_n hx hb dL_law_225 rfl (lv_at hl 0 rfl) ?_
  refine lv_iload_n hx hb dL_law_226 rfl (lv_at hl 3 rfl) ?_
  refine lv_iconst (v := 2) hx hb dL_law_227 (by decide) ?_
  refine lv_iadd hx hb dL_law_228 ?_
  refine va_sld hx hb hX hbl hbA hS (vin 2 rfl (by omega) (by omega)) dL_law_229 ?_
  refine lv_aload_n hx hb dL_law_230 rfl (lv_at hl 0 rfl) ?_
  refine lv_iload_n hx hb dL_law_231 rfl (lv_at hl 3 rfl) ?_
  refine lv_iconst (v := 3) hx hb dL_law_232 (by decide) ?_
  refine lv_iadd hx hb dL_law_233 ?_
  refine va_sld hx hb hX hbl hbA hS (vin 3 rfl (by omega) (by omega)) dL_law_234 ?_
  refine lg_endi (lg_runV hcs C0 hR hS (c_X5_row e2) (lw_cV 3 hts uw_536 mv_X5_row rfl rfl hd_X5_row ⟨Nat.le_of_ble_eq_true rfl, Nat.le_of_ble_eq_true rfl⟩) (by decide) cell_140 rfl rfl hl rfl (Nat.le_of_ble_eq_true rfl) dL_law_235) hS (fun H locs hR hS => ?_)
  exact lv_icmp_eq (tgt := 1415) hx hb dL_law_238 (by decide) (fun _ => kk _ _ H locs R2 hR hS) (fun h => absurd rfl h)
theorem lc_set (hcs : cells ≤ room_1.cells ∧ slots ≤ room_1.slots) (C0 : lm_Cx D cI cZ cL cR B p s m args meth c cL_law 4 (some .boolean) RL) (hX : va_X b L xs s s.heap) (hbl : b < s.heap.size) (hbA : ¬ lm_A B b) (hl : lv_has ls 4 [(0, .ref b), (1, .ref (B + 0)), (2, .ref (B + 140)), (3, .int (nI i))]) (hi : i + 6 ≤ L) (hL : L ≤ 3072) (R0 : Rel σ τ) (hR : va_P D vwCl (wl cI cZ cL cR B σ τ) H) (hS : va_S (lm_A B) s.heap H locs) (kk : lw_N l D cI cZ cL cR B p e s m args below meth c Q cells slots ls) : W p l e room_1 s m args below meth c H locs cells slots Q (F0 m 243 ls []) := by
  have hx := C0.1
  have hb := C0.2.1
  have hts := C0.2.2.2.2.2.2.1
  refine lv_aload_n hx hb dL_law_243 rfl (lv_at hl 1 rfl) ?_
  refine lv_aload_n hx hb dL_law_244 rfl (lv_at hl 0 rfl) ?_
  refine lv_iload_n hx hb dL_law_245 rfl (lv_at hl 3 rfl) ?_
  refine lv_iconst (v := 1) hx hb dL_law_246 (by decide) ?_
  refine lv_iadd hx hb dL_law_247 ?_
  refine va_sld hx hb hX hbl hbA hS (vin 1 rfl (by omega) (by omega)) dL_law_248 ?_
  refine lv_aload_n hx hb dL_law_249 rfl (lv_at hl 0 rfl) ?_
  refine lv_iload_n hx hb dL_law_250 rfl (lv_at hl 3 rfl) ?_
  refine lv_iconst (v := 2) hx hb dL_law_251 (by decide) ?_
  refine lv_iadd hx hb dL_law_252 ?_
  refine va_sld hx hb hX hbl hbA hS (vin 2 rfl (by omega) (by omega)) dL_law_253 ?_
  refine lv_aload_n hx hb dL_law_254 rfl (lv_at hl 0 rfl) ?_
  refine lv_iload_n hx hb dL_law_255 rfl (lv_at hl 3 rfl) ?_
  refine lv_iconst (v := 3) hx hb dL_law_256 (by decide) ?_
  refine lv_iadd hx hb dL_law_257 ?_
  refine va_sld hx hb hX hbl hbA hS (vin 3 rfl (by omega) (by omega)) dL_law_258 ?_
  obtain ⟨r, σ2, τ2, e1, e2, R2⟩ := o_set R0 (xs (nI i + 1).toNatClampNeg) (xs (nI i + 2).toNatClampNeg) (xs (nI i + 3).toNatClampNeg)
  refine lg_endi (lg_runV hcs C0 hR hS (c_X4_set e1) (lw_cV 3 hts uw_117 mv_X4_set rfl rfl hd_X4_set ⟨Nat.le_of_ble_eq_true rfl, Nat.le_of_ble_eq_true rfl⟩) (by decide) cell_0 rfl rfl hl rfl (Nat.le_of_ble_eq_true rfl) dL_law_259) hS (fun H locs hR hS => ?_)
  refine lv_aload_n hx hb dL_law_262 rfl (lv_at hl 2 rfl) ?_
  refine lv_aload_n hx hb dL_law_263 rfl (lv_at hl 0 rfl) ?_
  refine lv_iload_n hx hb dL_law_264 rfl (lv_at hl 3 rfl) ?_
  refine lv_iconst (v := 1) hx hb dL_law_265 (by decide) ?_
  refine lv_iadd hx hb dL_law_266 ?_
  refine va_sld hx hb hX hbl hbA hS (vin 1 rfl (by omega) (by omega)) dL_law_267 ?_
  refine lv_aload_n hx hb dL_law_268 rfl (lv_at hl 0 rfl) ?_
  refine lv_iload_n hx hb dL_law_269 rfl (lv_at hl 3 rfl) ?_
  refine lv_iconst (v := 2) hx hb dL_law_270 (by decide) ?_
  refine lv_iadd hx hb dL_law_271 ?_
  refine va_sld hx hb hX hbl hbA hS (vin 2 rfl (by omega) (by omega)) dL_law_272 ?_
  refine lv_aload_n hx hb dL_law_273 rfl (lv_at hl 0 rfl) ?_
  refine lv_iload_n hx hb dL_law_274 rfl (lv_at hl 3 rfl) ?_
  refine lv_iconst (v := 3) hx hb dL_law_275 (by decide) ?_
  refine lv_iadd hx hb dL_law_276 ?_
  refine va_sld hx hb hX hbl hbA hS (vin 3 rfl (by omega) (by omega)) dL_law_277 ?_
  refine lg_endi (lg_runV hcs C0 hR hS (c_X5_set e2) (lw_cV 3 hts uw_553 mv_X5_set rfl rfl hd_X5_set ⟨Nat.le_of_ble_eq_true rfl, Nat.le_of_ble_eq_true rfl⟩) (by decide) cell_140 rfl rfl hl rfl (Nat.le_of_ble_eq_true rfl) dL_law_278) hS (fun H locs hR hS => ?_)
  exact lv_icmp_eq (tgt := 1415) hx hb dL_law_281 (by decide) (fun _ => kk _ _ H locs R2 hR hS) (fun h => absurd rfl h)
theorem lc_copy (hcs : cells ≤ room_1.cells ∧ slots ≤ room_1.slots) (C0 : lm_Cx D cI cZ cL cR B p s m args meth c cL_law 4 (some .boolean) RL) (hX : va_X b L xs s s.heap) (hbl : b < s.heap.size) (hbA : ¬ lm_A B b) (hl : lv_has ls 4 [(0, .ref b), (1, .ref (B + 0)), (2, .ref (B + 140)), (3, .int (nI i))]) (hi : i + 6 ≤ L) (hL : L ≤ 3072) (R0 : Rel σ τ) (hR : va_P D vwCl (wl cI cZ cL cR B σ τ) H) (hS : va_S (lm_A B) s.heap H locs) (kk : lw_N l D cI cZ cL cR B p e s m args below meth c Q cells slots ls) : W p l e room_1 s m args below meth c H locs cells slots Q (F0 m 286 ls []) := by
  have hx := C0.1
  have hb := C0.2.1
  have hts := C0.2.2.2.2.2.2.1
  refine lv_aload_n hx hb dL_law_286 rfl (lv_at hl 1 rfl) ?_
  refine lv_aload_n hx hb dL_law_287 rfl (lv_at hl 0 rfl) ?_
  refine lv_iload_n hx hb dL_law_288 rfl (lv_at hl 3 rfl) ?_
  refine lv_iconst (v := 1) hx hb dL_law_289 (by decide) ?_
  refine lv_iadd hx hb dL_law_290 ?_
  refine va_sld hx hb hX hbl hbA hS (vin 1 rfl (by omega) (by omega)) dL_law_291 ?_
  refine lv_aload_n hx hb dL_law_292 rfl (lv_at hl 0 rfl) ?_
  refine lv_iload_n hx hb dL_law_293 rfl (lv_at hl 3 rfl) ?_
  refine lv_iconst (v := 2) hx hb dL_law_294 (by decide) ?_
  refine lv_iadd hx hb dL_law_295 ?_
  refine va_sld hx hb hX hbl hbA hS (vin 2 rfl (by omega) (by omega)) dL_law_296 ?_
  refine lv_aload_n hx hb dL_law_297 rfl (lv_at hl 0 rfl) ?_
  refine lv_iload_n hx hb dL_law_298 rfl (lv_at hl 3 rfl) ?_
  refine lv_iconst (v := 3) hx hb dL_law_299 (by decide) ?_
  refine lv_iadd hx hb dL_law_300 ?_
  refine va_sld hx hb hX hbl hbA hS (vin 3 rfl (by omega) (by omega)) dL_law_301 ?_
  refine lv_aload_n hx hb dL_law_302 rfl (lv_at hl 0 rfl) ?_
  refine lv_iload_n hx hb dL_law_303 rfl (lv_at hl 3 rfl) ?_
  refine lv_iconst (v := 4) hx hb dL_law_304 (by decide) ?_
  refine lv_iadd hx hb dL_law_305 ?_
  refine va_sld hx hb hX hbl hbA hS (vin 4 rfl (by omega) (by omega)) dL_law_306 ?_
  refine lv_aload_n hx hb dL_law_307 rfl (lv_at hl 0 rfl) ?_
  refine lv_iload_n hx hb dL_law_308 rfl (lv_at hl 3 rfl) ?_
  refine lv_iconst (v := 5) hx hb dL_law_309 (by decide) ?_
  refine lv_iadd hx hb dL_law_310 ?_
  refine va_sld hx hb hX hbl hbA hS (vin 5 rfl (by omega) (by omega)) dL_law_311 ?_
  obtain ⟨r, σ2, τ2, e1, e2, R2⟩ := o_copy R0 (xs (nI i + 1).toNatClampNeg) (xs (nI i + 2).toNatClampNeg) (xs (nI i + 3).toNatClampNeg) (xs (nI i + 4).toNatClampNeg) (xs (nI i + 5).toNatClampNeg)
  refine lg_endi (lg_runV hcs C0 hR hS (c_X4_copy e1) (lw_cV 5 hts uw_133 mv_X4_copy rfl rfl hd_X4_copy ⟨Nat.le_of_ble_eq_true rfl, Nat.le_of_ble_eq_true rfl⟩) (by decide) cell_0 rfl rfl hl rfl (Nat.le_of_ble_eq_true rfl) dL_law_312) hS (fun H locs hR hS => ?_)
  refine lv_aload_n hx hb dL_law_315 rfl (lv_at hl 2 rfl) ?_
  refine lv_aload_n hx hb dL_law_316 rfl (lv_at hl 0 rfl) ?_
  refine lv_iload_n hx hb dL_law_317 rfl (lv_at hl 3 rfl) ?_
  refine lv_iconst (v := 1) hx hb dL_law_318 (by decide) ?_
  refine lv_iadd hx hb dL_law_319 ?_
  refine va_sld hx hb hX hbl hbA hS (vin 1 rfl (by omega) (by omega)) dL_law_320 ?_
  refine lv_aload_n hx hb dL_law_321 rfl (lv_at hl 0 rfl) ?_
  refine lv_iload_n hx hb dL_law_322 rfl (lv_at hl 3 rfl) ?_
  refine lv_iconst (v := 2) hx hb dL_law_323 (by decide) ?_
  refine lv_iadd hx hb dL_law_324 ?_
  refine va_sld hx hb hX hbl hbA hS (vin 2 rfl (by omega) (by omega)) dL_law_325 ?_
  refine lv_aload_n hx hb dL_law_326 rfl (lv_at hl 0 rfl) ?_
  refine lv_iload_n hx hb dL_law_327 rfl (lv_at hl 3 rfl) ?_
  refine lv_iconst (v := 3) hx hb dL_law_328 (by decide) ?_
  refine lv_iadd hx hb dL_law_329 ?_
  refine va_sld hx hb hX hbl hbA hS (vin 3 rfl (by omega) (by omega)) dL_law_330 ?_
  refine lv_aload_n hx hb dL_law_331 rfl (lv_at hl 0 rfl) ?_
  refine lv_iload_n hx hb dL_law_332 rfl (lv_at hl 3 rfl) ?_
  refine lv_iconst (v := 4) hx hb dL_law_333 (by decide) ?_
  refine lv_iadd hx hb dL_law_334 ?_
  refine va_sld hx hb hX hbl hbA hS (vin 4 rfl (by omega) (by omega)) dL_law_335 ?_
  refine lv_aload_n hx hb dL_law_336 rfl (lv_at hl 0 rfl) ?_
  refine lv_iload_n hx hb dL_law_337 rfl (lv_at hl 3 rfl) ?_
  refine lv_iconst (v := 5) hx hb dL_law_338 (by decide) ?_
  refine lv_iadd hx hb dL_law_339 ?_
  refine va_sld hx hb hX hbl hbA hS (vin 5 rfl (by omega) (by omega)) dL_law_340 ?_
  refine lg_endi (lg_runV hcs C0 hR hS (c_X5_copy e2) (lw_cV 5 hts uw_557 mv_X5_copy rfl rfl hd_X5_copy ⟨Nat.le_of_ble_eq_true rfl, Nat.le_of_ble_eq_true rfl⟩) (by decide) cell_140 rfl rfl hl rfl (Nat.le_of_ble_eq_true rfl) dL_law_341) hS (fun H locs hR hS => ?_)
  exact lv_icmp_eq (tgt := 1415) hx hb dL_law_344 (by decide) (fun _ => kk _ _ H locs R2 hR hS) (fun h => absurd rfl h)
theorem lc_drop (hcs : cells ≤ room_1.cells ∧ slots ≤ room_1.slots) (C0 : lm_Cx D cI cZ cL cR B p s m args meth c cL_law 4 (some .boolean) RL) (hX : va_X b L xs s s.heap) (hbl : b < s.heap.size) (hbA : ¬ lm_A B b) (hl : lv_has ls 4 [(0, .ref b), (1, .ref (B + 0)), (2, .ref (B + 140)), (3, .int (nI i))]) (hi : i + 6 ≤ L) (hL : L ≤ 3072) (R0 : Rel σ τ) (hR : va_P D vwCl (wl cI cZ cL cR B σ τ) H) (hS : va_S (lm_A B) s.heap H locs) (kk : lw_N l D cI cZ cL cR B p e s m args below meth c Q cells slots ls) : W p l e room_1 s m args below meth c H locs cells slots Q (F0 m 349 ls []) := by
  have hx := C0.1
  have hb := C0.2.1
  have hts := C0.2.2.2.2.2.2.1
  refine lv_aload_n hx hb dL_law_349 rfl (lv_at hl 1 rfl) ?_
  refine lv_aload_n hx hb dL_law_350 rfl (lv_at hl 0 rfl) ?_
  refine lv_iload_n hx hb dL_law_351 rfl (lv_at hl 3 rfl) ?_
  refine lv_iconst (v := 1) hx hb dL_law_352 (by decide) ?_
  refine lv_iadd hx hb dL_law_353 ?_
  refine va_sld hx hb hX hbl hbA hS (vin 1 rfl (by omega) (by omega)) dL_law_354 ?_
  obtain ⟨r, σ2, τ2, e1, e2, R2⟩ := o_drop R0 (xs (nI i + 1).toNatClampNeg)
  refine lg_endi (lg_runV hcs C0 hR hS (c_X4_drop e1) (lw_cV 1 hts uw_141 mv_X4_drop rfl rfl hd_X4_drop ⟨Nat.le_of_ble_eq_true rfl, Nat.le_of_ble_eq_true rfl⟩) (by decide) cell_0 rfl rfl hl rfl (Nat.le_of_ble_eq_true rfl) dL_law_355) hS (fun H locs hR hS => ?_)
  refine lv_aload_n hx hb dL_law_358 rfl (lv_at hl 2 rfl) ?_
  refine lv_aload_n hx hb dL_law_359 rfl (lv_at hl 0 rfl) ?_
  refine lv_iload_n hx hb dL_law_360 rfl (lv_at hl 3 rfl) ?_
  refine lv_iconst (v := 1) hx hb dL_law_361 (by decide) ?_
  refine lv_iadd hx hb dL_law_362 ?_
  refine va_sld hx hb hX hbl hbA hS (vin 1 rfl (by omega) (by omega)) dL_law_363 ?_
  refine lg_endi (lg_runV hcs C0 hR hS (c_X5_drop e2) (lw_cV 1 hts uw_561 mv_X5_drop rfl rfl hd_X5_drop ⟨Nat.le_of_ble_eq_true rfl, Nat.le_of_ble_eq_true rfl⟩) (by decide) cell_140 rfl rfl hl rfl (Nat.le_of_ble_eq_true rfl) dL_law_364) hS (fun H locs hR hS => ?_)
  exact lv_icmp_eq (tgt := 1415) hx hb dL_law_367 (by decide) (fun _ => kk _ _ H locs R2 hR hS) (fun h => absurd rfl h)
theorem lc_feed (hcs : cells ≤ room_1.cells ∧ slots ≤ room_1.slots) (C0 : lm_Cx D cI cZ cL cR B p s m args meth c cL_law 4 (some .boolean) RL) (hX : va_X b L xs s s.heap) (hbl : b < s.heap.size) (hbA : ¬ lm_A B b) (hl : lv_has ls 4 [(0, .ref b), (1, .ref (B + 0)), (2, .ref (B + 140)), (3, .int (nI i))]) (hi : i + 6 ≤ L) (hL : L ≤ 3072) (R0 : Rel σ τ) (hR : va_P D vwCl (wl cI cZ cL cR B σ τ) H) (hS : va_S (lm_A B) s.heap H locs) (kk : lw_N l D cI cZ cL cR B p e s m args below meth c Q cells slots ls) : W p l e room_1 s m args below meth c H locs cells slots Q (F0 m 372 ls []) := by
  have hx := C0.1
  have hb := C0.2.1
  have hts := C0.2.2.2.2.2.2.1
  refine lv_aload_n hx hb dL_law_372 rfl (lv_at hl 1 rfl) ?_
  refine lv_aload_n hx hb dL_law_373 rfl (lv_at hl 0 rfl) ?_
  refine lv_iload_n hx hb dL_law_374 rfl (lv_at hl 3 rfl) ?_
  refine lv_iconst (v := 1) hx hb dL_law_375 (by decide) ?_
  refine lv_iadd hx hb dL_law_376 ?_
  refine va_sld hx hb hX hbl hbA hS (vin 1 rfl (by omega) (by omega)) dL_law_377 ?_
  obtain ⟨r, σ2, τ2, e1, e2, R2⟩ := o_feed R0 (xs (nI i + 1).toNatClampNeg)
  refine lg_endi (lg_runV hcs C0 hR hS (c_X4_feed e1) (lw_cV 1 hts uw_145 mv_X4_feed rfl rfl hd_X4_feed ⟨Nat.le_of_ble_eq_true rfl, Nat.le_of_ble_eq_true rfl⟩) (by decide) cell_0 rfl rfl hl rfl (Nat.le_of_ble_eq_true rfl) dL_law_378) hS (fun H locs hR hS => ?_)
  refine lv_aload_n hx hb dL_law_381 rfl (lv_at hl 2 rfl) ?_
  refine lv_aload_n hx hb dL_law_382 rfl (lv_at hl 0 rfl) ?_
  refine lv_iload_n hx hb dL_law_383 rfl (lv_at hl 3 rfl) ?_
  refine lv_iconst (v := 1) hx hb dL_law_384 (by decide) ?_
  refine lv_iadd hx hb dL_law_385 ?_
  refine va_sld hx hb hX hbl hbA hS (vin 1 rfl (by omega) (by omega)) dL_law_386 ?_
  refine lg_endi (lg_runV hcs C0 hR hS (c_X5_feed e2) (lw_cV 1 hts uw_565 mv_X5_feed rfl rfl hd_X5_feed ⟨Nat.le_of_ble_eq_true rfl, Nat.le_of_ble_eq_true rfl⟩) (by decide) cell_140 rfl rfl hl rfl (Nat.le_of_ble_eq_true rfl) dL_law_387) hS (fun H locs hR hS => ?_)
  exact lv_icmp_eq (tgt := 1415) hx hb dL_law_390 (by decide) (fun _ => kk _ _ H locs R2 hR hS) (fun h => absurd rfl h)
theorem lc_light (hcs : cells ≤ room_1.cells ∧ slots ≤ room_1.slots) (C0 : lm_Cx D cI cZ cL cR B p s m args meth c cL_law 4 (some .boolean) RL) (hX : va_X b L xs s s.heap) (hbl : b < s.heap.size) (hbA : ¬ lm_A B b) (hl : lv_has ls 4 [(0, .ref b), (1, .ref (B + 0)), (2, .ref (B + 140)), (3, .int (nI i))]) (hi : i + 6 ≤ L) (hL : L ≤ 3072) (R0 : Rel σ τ) (hR : va_P D vwCl (wl cI cZ cL cR B σ τ) H) (hS : va_S (lm_A B) s.heap H locs) (kk : lw_N l D cI cZ cL cR B p e s m args below meth c Q cells slots ls) : W p l e room_1 s m args below meth c H locs cells slots Q (F0 m 395 ls []) := by
  have hx := C0.1
  have hb := C0.2.1
  have hts := C0.2.2.2.2.2.2.1
  refine lv_aload_n hx hb dL_law_395 rfl (lv_at hl 1 rfl) ?_
  obtain ⟨r, σ2, τ2, e1, e2, R2⟩ := o_light R0
  refine lg_endi (lg_runV hcs C0 hR hS (c_X4_light e1) (lw_cV 0 hts uw_154 mv_X4_light rfl rfl hd_X4_light ⟨Nat.le_of_ble_eq_true rfl, Nat.le_of_ble_eq_true rfl⟩) (by decide) cell_0 rfl rfl hl rfl (Nat.le_of_ble_eq_true rfl) dL_law_396) hS (fun H locs hR hS => ?_)
  refine lv_aload_n hx hb dL_law_399 rfl (lv_at hl 2 rfl) ?_
  refine lg_endi (lg_runV hcs C0 hR hS (c_X5_light e2) (lw_cV 0 hts uw_575 mv_X5_light rfl rfl hd_X5_light ⟨Nat.le_of_ble_eq_true rfl, Nat.le_of_ble_eq_true rfl⟩) (by decide) cell_140 rfl rfl hl rfl (Nat.le_of_ble_eq_true rfl) dL_law_400) hS (fun H locs hR hS => ?_)
  exact lv_icmp_eq (tgt := 1415) hx hb dL_law_403 (by decide) (fun _ => kk _ _ H locs R2 hR hS) (fun h => absurd rfl h)
theorem lc_fault (hcs : cells ≤ room_1.cells ∧ slots ≤ room_1.slots) (C0 : lm_Cx D cI cZ cL cR B p s m args meth c cL_law 4 (some .boolean) RL) (hX : va_X b L xs s s.heap) (hbl : b < s.heap.size) (hbA : ¬ lm_A B b) (hl : lv_has ls 4 [(0, .ref b), (1, .ref (B + 0)), (2, .ref (B + 140)), (3, .int (nI i))]) (hi : i + 6 ≤ L) (hL : L ≤ 3072) (R0 : Rel σ τ) (hR : va_P D vwCl (wl cI cZ cL cR B σ τ) H) (hS : va_S (lm_A B) s.heap H locs) (kk : lw_N l D cI cZ cL cR B p e s m args below meth c Q cells slots ls) : W p l e room_1 s m args below meth c H locs cells slots Q (F0 m 408 ls []) := by
  have hx := C0.1
  have hb := C0.2.1
  have hts := C0.2.2.2.2.2.2.1
  refine lv_aload_n hx hb dL_law_408 rfl (lv_at hl 1 rfl) ?_
  obtain ⟨r, τ2, e1, e2, R2⟩ := o_fault R0
  refine lg_endi (lg_runV hcs C0 hR hS (c_X4_fault e1) (lw_cV 0 hts uw_208 mv_X4_fault rfl rfl hd_X4_fault ⟨Nat.le_of_ble_eq_true rfl, Nat.le_of_ble_eq_true rfl⟩) (by decide) cell_0 rfl rfl hl rfl (Nat.le_of_ble_eq_true rfl) dL_law_409) hS (fun H locs hR hS => ?_)
  refine lv_aload_n hx hb dL_law_412 rfl (lv_at hl 2 rfl) ?_
  refine lg_endi (lg_runV hcs C0 hR hS (c_X5_fault e2) (lw_cV 0 hts uw_571 mv_X5_fault rfl rfl hd_X5_fault ⟨Nat.le_of_ble_eq_true rfl, Nat.le_of_ble_eq_true rfl⟩) (by decide) cell_140 rfl rfl hl rfl (Nat.le_of_ble_eq_true rfl) dL_law_413) hS (fun H locs hR hS => ?_)
  exact lv_icmp_eq (tgt := 1415) hx hb dL_law_416 (by decide) (fun _ => kk _ _ H locs R2 hR hS) (fun h => absurd rfl h)
theorem lc_undo (hcs : cells ≤ room_1.cells ∧ slots ≤ room_1.slots) (C0 : lm_Cx D cI cZ cL cR B p s m args meth c cL_law 4 (some .boolean) RL) (hX : va_X b L xs s s.heap) (hbl : b < s.heap.size) (hbA : ¬ lm_A B b) (hl : lv_has ls 4 [(0, .ref b), (1, .ref (B + 0)), (2, .ref (B + 140)), (3, .int (nI i))]) (hi : i + 6 ≤ L) (hL : L ≤ 3072) (R0 : Rel σ τ) (hR : va_P D vwCl (wl cI cZ cL cR B σ τ) H) (hS : va_S (lm_A B) s.heap H locs) (kk : lw_N l D cI cZ cL cR B p e s m args below meth c Q cells slots ls) : W p l e room_1 s m args below meth c H locs cells slots Q (F0 m 421 ls []) := by
  have hx := C0.1
  have hb := C0.2.1
  have hts := C0.2.2.2.2.2.2.1
  refine lv_aload_n hx hb dL_law_421 rfl (lv_at hl 1 rfl) ?_
  obtain ⟨r, σ2, τ2, e1, e2, R2⟩ := o_undo R0
  refine lg_endi (lg_runV hcs C0 hR hS (c_X4_undo e1) (lw_cV 0 hts uw_212 mv_X4_undo rfl rfl hd_X4_undo ⟨Nat.le_of_ble_eq_true rfl, Nat.le_of_ble_eq_true rfl⟩) (by decide) cell_0 rfl rfl hl rfl (Nat.le_of_ble_eq_true rfl) dL_law_422) hS (fun H locs hR hS => ?_)
  refine lv_aload_n hx hb dL_law_425 rfl (lv_at hl 2 rfl) ?_
  refine lg_endi (lg_runV hcs C0 hR hS (c_X5_undo e2) (lw_cV 0 hts uw_688 mv_X5_undo rfl rfl hd_X5_undo ⟨Nat.le_of_ble_eq_true rfl, Nat.le_of_ble_eq_true rfl⟩) (by decide) cell_140 rfl rfl hl rfl (Nat.le_of_ble_eq_true rfl) dL_law_426) hS (fun H locs hR hS => ?_)
  exact lv_icmp_eq (tgt := 1415) hx hb dL_law_429 (by decide) (fun _ => kk _ _ H locs R2 hR hS) (fun h => absurd rfl h)
theorem lc_watches (hcs : cells ≤ room_1.cells ∧ slots ≤ room_1.slots) (C0 : lm_Cx D cI cZ cL cR B p s m args meth c cL_law 4 (some .boolean) RL) (hX : va_X b L xs s s.heap) (hbl : b < s.heap.size) (hbA : ¬ lm_A B b) (hl : lv_has ls 4 [(0, .ref b), (1, .ref (B + 0)), (2, .ref (B + 140)), (3, .int (nI i))]) (hi : i + 6 ≤ L) (hL : L ≤ 3072) (R0 : Rel σ τ) (hR : va_P D vwCl (wl cI cZ cL cR B σ τ) H) (hS : va_S (lm_A B) s.heap H locs) (kk : lw_N l D cI cZ cL cR B p e s m args below meth c Q cells slots ls) : W p l e room_1 s m args below meth c H locs cells slots Q (F0 m 434 ls []) := by
  have hx := C0.1
  have hb := C0.2.1
  have hts := C0.2.2.2.2.2.2.1
  refine lv_aload_n hx hb dL_law_434 rfl (lv_at hl 1 rfl) ?_
  refine lv_aload_n hx hb dL_law_435 rfl (lv_at hl 0 rfl) ?_
  refine lv_iload_n hx hb dL_law_436 rfl (lv_at hl 3 rfl) ?_
  refine lv_iconst (v := 1) hx hb dL_law_437 (by decide) ?_
  refine lv_iadd hx hb dL_law_438 ?_
  refine va_sld hx hb hX hbl hbA hS (vin 1 rfl (by omega) (by omega)) dL_law_439 ?_
  obtain ⟨r, σ2, τ2, e1, e2, R2⟩ := o_watches R0 (xs (nI i + 1).toNatClampNeg)
  refine lg_endi (lg_runV hcs C0 hR hS (c_X4_watches e1) (lw_cV 1 hts uw_222 mv_X4_watches rfl rfl hd_X4_watches ⟨Nat.le_of_ble_eq_true rfl, Nat.le_of_ble_eq_true rfl⟩) (by decide) cell_0 rfl rfl hl rfl (Nat.le_of_ble_eq_true rfl) dL_law_440) hS (fun H locs hR hS => ?_)
  refine lv_aload_n hx hb dL_law_443 rfl (lv_at hl 2 rfl) ?_
  refine lv_aload_n hx hb dL_law_444 rfl (lv_at hl 0 rfl) ?_
  refine lv_iload_n hx hb dL_law_445 rfl (lv_at hl 3 rfl) ?_
  refine lv_iconst (v := 1) hx hb dL_law_446 (by decide) ?_
  refine lv_iadd hx hb dL_law_447 ?_
  refine va_sld hx hb hX hbl hbA hS (vin 1 rfl (by omega) (by omega)) dL_law_448 ?_
  refine lg_endi (lg_runV hcs C0 hR hS (c_X5_watches e2) (lw_cV 1 hts uw_621 mv_X5_watches rfl rfl hd_X5_watches ⟨Nat.le_of_ble_eq_true rfl, Nat.le_of_ble_eq_true rfl⟩) (by decide) cell_140 rfl rfl hl rfl (Nat.le_of_ble_eq_true rfl) dL_law_449) hS (fun H locs hR hS => ?_)
  exact lv_icmp_eq (tgt := 1415) hx hb dL_law_452 (by decide) (fun _ => kk _ _ H locs R2 hR hS) (fun h => absurd rfl h)
theorem lc_pour (hcs : cells ≤ room_1.cells ∧ slots ≤ room_1.slots) (C0 : lm_Cx D cI cZ cL cR B p s m args meth c cL_law 4 (some .boolean) RL) (hX : va_X b L xs s s.heap) (hbl : b < s.heap.size) (hbA : ¬ lm_A B b) (hl : lv_has ls 4 [(0, .ref b), (1, .ref (B + 0)), (2, .ref (B + 140)), (3, .int (nI i))]) (hi : i + 6 ≤ L) (hL : L ≤ 3072) (R0 : Rel σ τ) (hR : va_P D vwCl (wl cI cZ cL cR B σ τ) H) (hS : va_S (lm_A B) s.heap H locs) (kk : lw_N l D cI cZ cL cR B p e s m args below meth c Q cells slots ls) : W p l e room_1 s m args below meth c H locs cells slots Q (F0 m 457 ls []) := by
  have hx := C0.1
  have hb := C0.2.1
  have hts := C0.2.2.2.2.2.2.1
  refine lv_aload_n hx hb dL_law_457 rfl (lv_at hl 1 rfl) ?_
  refine lv_aload_n hx hb dL_law_458 rfl (lv_at hl 0 rfl) ?_
  refine lv_iload_n hx hb dL_law_459 rfl (lv_at hl 3 rfl) ?_
  refine lv_iconst (v := 1) hx hb dL_law_460 (by decide) ?_
  refine lv_iadd hx hb dL_law_461 ?_
  refine va_sld hx hb hX hbl hbA hS (vin 1 rfl (by omega) (by omega)) dL_law_462 ?_
  obtain ⟨r, σ2, τ2, e1, e2, R2⟩ := o_pour R0 (xs (nI i + 1).toNatClampNeg)
  refine lg_endi (lg_runV hcs C0 hR hS (c_X4_pour e1) (lw_cV 1 hts uw_272 mv_X4_pour rfl rfl hd_X4_pour ⟨Nat.le_of_ble_eq_true rfl, Nat.le_of_ble_eq_true rfl⟩) (by decide) cell_0 rfl rfl hl rfl (Nat.le_of_ble_eq_true rfl) dL_law_463) hS (fun H locs hR hS => ?_)
  refine lv_aload_n hx hb dL_law_466 rfl (lv_at hl 2 rfl) ?_
  refine lv_aload_n hx hb dL_law_467 rfl (lv_at hl 0 rfl) ?_
  refine lv_iload_n hx hb dL_law_468 rfl (lv_at hl 3 rfl) ?_
  refine lv_iconst (v := 1) hx hb dL_law_469 (by decide) ?_
  refine lv_iadd hx hb dL_law_470 ?_
  refine va_sld hx hb hX hbl hbA hS (vin 1 rfl (by omega) (by omega)) dL_law_471 ?_
  refine lg_endi (lg_runV hcs C0 hR hS (c_X5_pour e2) (lw_cV 1 hts uw_657 mv_X5_pour rfl rfl hd_X5_pour ⟨Nat.le_of_ble_eq_true rfl, Nat.le_of_ble_eq_true rfl⟩) (by decide) cell_140 rfl rfl hl rfl (Nat.le_of_ble_eq_true rfl) dL_law_472) hS (fun H locs hR hS => ?_)
  exact lv_icmp_eq (tgt := 1415) hx hb dL_law_475 (by decide) (fun _ => kk _ _ H locs R2 hR hS) (fun h => absurd rfl h)
theorem lc_fog (hcs : cells ≤ room_1.cells ∧ slots ≤ room_1.slots) (C0 : lm_Cx D cI cZ cL cR B p s m args meth c cL_law 4 (some .boolean) RL) (hX : va_X b L xs s s.heap) (hbl : b < s.heap.size) (hbA : ¬ lm_A B b) (hl : lv_has ls 4 [(0, .ref b), (1, .ref (B + 0)), (2, .ref (B + 140)), (3, .int (nI i))]) (hi : i + 6 ≤ L) (hL : L ≤ 3072) (R0 : Rel σ τ) (hR : va_P D vwCl (wl cI cZ cL cR B σ τ) H) (hS : va_S (lm_A B) s.heap H locs) (kk : lw_N l D cI cZ cL cR B p e s m args below meth c Q cells slots ls) : W p l e room_1 s m args below meth c H locs cells slots Q (F0 m 480 ls []) := by
  have hx := C0.1
  have hb := C0.2.1
  have hts := C0.2.2.2.2.2.2.1
  refine lv_aload_n hx hb dL_law_480 rfl (lv_at hl 1 rfl) ?_
  refine lv_aload_n hx hb dL_law_481 rfl (lv_at hl 0 rfl) ?_
  refine lv_iload_n hx hb dL_law_482 rfl (lv_at hl 3 rfl) ?_
  refine lv_iconst (v := 1) hx hb dL_law_483 (by decide) ?_
  refine lv_iadd hx hb dL_law_484 ?_
  refine va_sld hx hb hX hbl hbA hS (vin 1 rfl (by omega) (by omega)) dL_law_485 ?_
  refine lv_aload_n hx hb dL_law_486 rfl (lv_at hl 0 rfl) ?_
  refine lv_iload_n hx hb dL_law_487 rfl (lv_at hl 3 rfl) ?_
  refine lv_iconst (v := 2) hx hb dL_law_488 (by decide) ?_
  refine lv_iadd hx hb dL_law_489 ?_
  refine va_sld hx hb hX hbl hbA hS (vin 2 rfl (by omega) (by omega)) dL_law_490 ?_
  obtain ⟨r, σ2, τ2, e1, e2, R2⟩ := o_fog R0 (xs (nI i + 1).toNatClampNeg) (xs (nI i + 2).toNatClampNeg)
  refine lg_endi (lg_runV hcs C0 hR hS (c_X4_fog e1) (lw_cV 2 hts uw_280 mv_X4_fog rfl rfl hd_X4_fog ⟨Nat.le_of_ble_eq_true rfl, Nat.le_of_ble_eq_true rfl⟩) (by decide) cell_0 rfl rfl hl rfl (Nat.le_of_ble_eq_true rfl) dL_law_491) hS (fun H locs hR hS => ?_)
  refine lv_aload_n hx hb dL_law_494 rfl (lv_at hl 2 rfl) ?_
  refine lv_aload_n hx hb dL_law_495 rfl (lv_at hl 0 rfl) ?_
  refine lv_iload_n hx hb dL_law_496 rfl (lv_at hl 3 rfl) ?_
  refine lv_iconst (v := 1) hx hb dL_law_497 (by decide) ?_
  refine lv_iadd hx hb dL_law_498 ?_
  refine va_sld hx hb hX hbl hbA hS (vin 1 rfl (by omega) (by omega)) dL_law_499 ?_
  refine lv_aload_n hx hb dL_law_500 rfl (lv_at hl 0 rfl) ?_
  refine lv_iload_n hx hb dL_law_501 rfl (lv_at hl 3 rfl) ?_
  refine lv_iconst (v := 2) hx hb dL_law_502 (by decide) ?_
  refine lv_iadd hx hb dL_law_503 ?_
  refine va_sld hx hb hX hbl hbA hS (vin 2 rfl (by omega) (by omega)) dL_law_504 ?_
  refine lg_endi (lg_runV hcs C0 hR hS (c_X5_fog e2) (lw_cV 2 hts uw_665 mv_X5_fog rfl rfl hd_X5_fog ⟨Nat.le_of_ble_eq_true rfl, Nat.le_of_ble_eq_true rfl⟩) (by decide) cell_140 rfl rfl hl rfl (Nat.le_of_ble_eq_true rfl) dL_law_505) hS (fun H locs hR hS => ?_)
  exact lv_icmp_eq (tgt := 1415) hx hb dL_law_508 (by decide) (fun _ => kk _ _ H locs R2 hR hS) (fun h => absurd rfl h)
theorem lc_eyes (hcs : cells ≤ room_1.cells ∧ slots ≤ room_1.slots) (C0 : lm_Cx D cI cZ cL cR B p s m args meth c cL_law 4 (some .boolean) RL) (hX : va_X b L xs s s.heap) (hbl : b < s.heap.size) (hbA : ¬ lm_A B b) (hl : lv_has ls 4 [(0, .ref b), (1, .ref (B + 0)), (2, .ref (B + 140)), (3, .int (nI i))]) (hi : i + 6 ≤ L) (hL : L ≤ 3072) (R0 : Rel σ τ) (hR : va_P D vwCl (wl cI cZ cL cR B σ τ) H) (hS : va_S (lm_A B) s.heap H locs) (kk : lw_N l D cI cZ cL cR B p e s m args below meth c Q cells slots ls) : W p l e room_1 s m args below meth c H locs cells slots Q (F0 m 513 ls []) := by
  have hx := C0.1
  have hb := C0.2.1
  have hts := C0.2.2.2.2.2.2.1
  refine lv_aload_n hx hb dL_law_513 rfl (lv_at hl 1 rfl) ?_
  refine lv_aload_n hx hb dL_law_514 rfl (lv_at hl 0 rfl) ?_
  refine lv_iload_n hx hb dL_law_515 rfl (lv_at hl 3 rfl) ?_
  refine lv_iconst (v := 1) hx hb dL_law_516 (by decide) ?_
  refine lv_iadd hx hb dL_law_517 ?_
  refine va_sld hx hb hX hbl hbA hS (vin 1 rfl (by omega) (by omega)) dL_law_518 ?_
  obtain ⟨r, σ2, τ2, e1, e2, R2⟩ := o_eyes R0 (xs (nI i + 1).toNatClampNeg)
  refine lg_endi (lg_runV hcs C0 hR hS (c_X4_eyes e1) (lw_cV 1 hts uw_284 mv_X4_eyes rfl rfl hd_X4_eyes ⟨Nat.le_of_ble_eq_true rfl, Nat.le_of_ble_eq_true rfl⟩) (by decide) cell_0 rfl rfl hl rfl (Nat.le_of_ble_eq_true rfl) dL_law_519) hS (fun H locs hR hS => ?_)
  refine lv_aload_n hx hb dL_law_522 rfl (lv_at hl 2 rfl) ?_
  refine lv_aload_n hx hb dL_law_523 rfl (lv_at hl 0 rfl) ?_
  refine lv_iload_n hx hb dL_law_524 rfl (lv_at hl 3 rfl) ?_
  refine lv_iconst (v := 1) hx hb dL_law_525 (by decide) ?_
  refine lv_iadd hx hb dL_law_526 ?_
  refine va_sld hx hb hX hbl hbA hS (vin 1 rfl (by omega) (by omega)) dL_law_527 ?_
  refine lg_endi (lg_runV hcs C0 hR hS (c_X5_eyes e2) (lw_cV 1 hts uw_673 mv_X5_eyes rfl rfl hd_X5_eyes ⟨Nat.le_of_ble_eq_true rfl, Nat.le_of_ble_eq_true rfl⟩) (by decide) cell_140 rfl rfl hl rfl (Nat.le_of_ble_eq_true rfl) dL_law_528) hS (fun H locs hR hS => ?_)
  exact lv_icmp_eq (tgt := 1415) hx hb dL_law_531 (by decide) (fun _ => kk _ _ H locs R2 hR hS) (fun h => absurd rfl h)
theorem lc_move (hcs : cells ≤ room_1.cells ∧ slots ≤ room_1.slots) (C0 : lm_Cx D cI cZ cL cR B p s m args meth c cL_law 4 (some .boolean) RL) (hX : va_X b L xs s s.heap) (hbl : b < s.heap.size) (hbA : ¬ lm_A B b) (hl : lv_has ls 4 [(0, .ref b), (1, .ref (B + 0)), (2, .ref (B + 140)), (3, .int (nI i))]) (hi : i + 6 ≤ L) (hL : L ≤ 3072) (R0 : Rel σ τ) (hR : va_P D vwCl (wl cI cZ cL cR B σ τ) H) (hS : va_S (lm_A B) s.heap H locs) (kk : lw_N l D cI cZ cL cR B p e s m args below meth c Q cells slots ls) : W p l e room_1 s m args below meth c H locs cells slots Q (F0 m 536 ls []) := by
  have hx := C0.1
  have hb := C0.2.1
  have hts := C0.2.2.2.2.2.2.1
  refine lv_aload_n hx hb dL_law_536 rfl (lv_at hl 1 rfl) ?_
  refine lv_aload_n hx hb dL_law_537 rfl (lv_at hl 0 rfl) ?_
  refine lv_iload_n hx hb dL_law_538 rfl (lv_at hl 3 rfl) ?_
  refine lv_iconst (v := 1) hx hb dL_law_539 (by decide) ?_
  refine lv_iadd hx hb dL_law_540 ?_
  refine va_sld hx hb hX hbl hbA hS (vin 1 rfl (by omega) (by omega)) dL_law_541 ?_
  refine lv_aload_n hx hb dL_law_542 rfl (lv_at hl 0 rfl) ?_
  refine lv_iload_n hx hb dL_law_543 rfl (lv_at hl 3 rfl) ?_
  refine lv_iconst (v := 2) hx hb dL_law_544 (by decide) ?_
  refine lv_iadd hx hb dL_law_545 ?_
  refine va_sld hx hb hX hbl hbA hS (vin 2 rfl (by omega) (by omega)) dL_law_546 ?_
  obtain ⟨r, σ2, τ2, e1, e2, R2⟩ := o_move R0 (xs (nI i + 1).toNatClampNeg) (xs (nI i + 2).toNatClampNeg)
  refine lg_endi (lg_runV hcs C0 hR hS (c_X4_move e1) (lw_cV 2 hts uw_288 mv_X4_move rfl rfl hd_X4_move ⟨Nat.le_of_ble_eq_true rfl, Nat.le_of_ble_eq_true rfl⟩) (by decide) cell_0 rfl rfl hl rfl (Nat.le_of_ble_eq_true rfl) dL_law_547) hS (fun H locs hR hS => ?_)
  refine lv_aload_n hx hb dL_law_550 rfl (lv_at hl 2 rfl) ?_
  refine lv_aload_n hx hb dL_law_551 rfl (lv_at hl 0 rfl) ?_
  refine lv_iload_n hx hb dL_law_552 rfl (lv_at hl 3 rfl) ?_
  refine lv_iconst (v := 1) hx hb dL_law_553 (by decide) ?_
  refine lv_iadd hx hb dL_law_554 ?_
  refine va_sld hx hb hX hbl hbA hS (vin 1 rfl (by omega) (by omega)) dL_law_555 ?_
  refine lv_aload_n hx hb dL_law_556 rfl (lv_at hl 0 rfl) ?_
  refine lv_iload_n hx hb dL_law_557 rfl (lv_at hl 3 rfl) ?_
  refine lv_iconst (v := 2) hx hb dL_law_558 (by decide) ?_
  refine lv_iadd hx hb dL_law_559 ?_
  refine va_sld hx hb hX hbl hbA hS (vin 2 rfl (by omega) (by omega)) dL_law_560 ?_
  refine lg_endi (lg_runV hcs C0 hR hS (c_X5_move e2) (lw_cV 2 hts uw_678 mv_X5_move rfl rfl hd_X5_move ⟨Nat.le_of_ble_eq_true rfl, Nat.le_of_ble_eq_true rfl⟩) (by decide) cell_140 rfl rfl hl rfl (Nat.le_of_ble_eq_true rfl) dL_law_561) hS (fun H locs hR hS => ?_)
  exact lv_icmp_eq (tgt := 1415) hx hb dL_law_564 (by decide) (fun _ => kk _ _ H locs R2 hR hS) (fun h => absurd rfl h)
theorem lc_ship (hcs : cells ≤ room_1.cells ∧ slots ≤ room_1.slots) (C0 : lm_Cx D cI cZ cL cR B p s m args meth c cL_law 4 (some .boolean) RL) (hX : va_X b L xs s s.heap) (hbl : b < s.heap.size) (hbA : ¬ lm_A B b) (hl : lv_has ls 4 [(0, .ref b), (1, .ref (B + 0)), (2, .ref (B + 140)), (3, .int (nI i))]) (hi : i + 6 ≤ L) (hL : L ≤ 3072) (R0 : Rel σ τ) (hR : va_P D vwCl (wl cI cZ cL cR B σ τ) H) (hS : va_S (lm_A B) s.heap H locs) (kk : lw_N l D cI cZ cL cR B p e s m args below meth c Q cells slots ls) : W p l e room_1 s m args below meth c H locs cells slots Q (F0 m 569 ls []) := by
  have hx := C0.1
  have hb := C0.2.1
  have hts := C0.2.2.2.2.2.2.1
  refine lv_aload_n hx hb dL_law_569 rfl (lv_at hl 1 rfl) ?_
  refine lv_aload_n hx hb dL_law_570 rfl (lv_at hl 0 rfl) ?_
  refine lv_iload_n hx hb dL_law_571 rfl (lv_at hl 3 rfl) ?_
  refine lv_iconst (v := 1) hx hb dL_law_572 (by decide) ?_
  refine lv_iadd hx hb dL_law_573 ?_
  refine va_sld hx hb hX hbl hbA hS (vin 1 rfl (by omega) (by omega)) dL_law_574 ?_
  refine lv_aload_n hx hb dL_law_575 rfl (lv_at hl 0 rfl) ?_
  refine lv_iload_n hx hb dL_law_576 rfl (lv_at hl 3 rfl) ?_
  refine lv_iconst (v := 2) hx hb dL_law_577 (by decide) ?_
  refine lv_iadd hx hb dL_law_578 ?_
  refine va_sld hx hb hX hbl hbA hS (vin 2 rfl (by omega) (by omega)) dL_law_579 ?_
  obtain ⟨r, τ2, e1, e2, R2⟩ := o_ship R0 (xs (nI i + 1).toNatClampNeg) (xs (nI i + 2).toNatClampNeg)
  refine lg_endi (lg_runV hcs C0 hR hS (c_X4_ship e1) (lw_cV 2 hts uw_292 mv_X4_ship rfl rfl hd_X4_ship ⟨Nat.le_of_ble_eq_true rfl, Nat.le_of_ble_eq_true rfl⟩) (by decide) cell_0 rfl rfl hl rfl (Nat.le_of_ble_eq_true rfl) dL_law_580) hS (fun H locs hR hS => ?_)
  refine lv_aload_n hx hb dL_law_583 rfl (lv_at hl 2 rfl) ?_
  refine lv_aload_n hx hb dL_law_584 rfl (lv_at hl 0 rfl) ?_
  refine lv_iload_n hx hb dL_law_585 rfl (lv_at hl 3 rfl) ?_
  refine lv_iconst (v := 1) hx hb dL_law_586 (by decide) ?_
  refine lv_iadd hx hb dL_law_587 ?_
  refine va_sld hx hb hX hbl hbA hS (vin 1 rfl (by omega) (by omega)) dL_law_588 ?_
  refine lv_aload_n hx hb dL_law_589 rfl (lv_at hl 0 rfl) ?_
  refine lv_iload_n hx hb dL_law_590 rfl (lv_at hl 3 rfl) ?_
  refine lv_iconst (v := 2) hx hb dL_law_591 (by decide) ?_
  refine lv_iadd hx hb dL_law_592 ?_
  refine va_sld hx hb hX hbl hbA hS (vin 2 rfl (by omega) (by omega)) dL_law_593 ?_
  refine lg_endi (lg_runV hcs C0 hR hS (c_X5_ship e2) (lw_cV 2 hts uw_692 mv_X5_ship rfl rfl hd_X5_ship ⟨Nat.le_of_ble_eq_true rfl, Nat.le_of_ble_eq_true rfl⟩) (by decide) cell_140 rfl rfl hl rfl (Nat.le_of_ble_eq_true rfl) dL_law_594) hS (fun H locs hR hS => ?_)
  exact lv_icmp_eq (tgt := 1415) hx hb dL_law_597 (by decide) (fun _ => kk _ _ H locs R2 hR hS) (fun h => absurd rfl h)
theorem lc_stand (hcs : cells ≤ room_1.cells ∧ slots ≤ room_1.slots) (C0 : lm_Cx D cI cZ cL cR B p s m args meth c cL_law 4 (some .boolean) RL) (hX : va_X b L xs s s.heap) (hbl : b < s.heap.size) (hbA : ¬ lm_A B b) (hl : lv_has ls 4 [(0, .ref b), (1, .ref (B + 0)), (2, .ref (B + 140)), (3, .int (nI i))]) (hi : i + 6 ≤ L) (hL : L ≤ 3072) (R0 : Rel σ τ) (hR : va_P D vwCl (wl cI cZ cL cR B σ τ) H) (hS : va_S (lm_A B) s.heap H locs) (kk : lw_N l D cI cZ cL cR B p e s m args below meth c Q cells slots ls) : W p l e room_1 s m args below meth c H locs cells slots Q (F0 m 602 ls []) := by
  have hx := C0.1
  have hb := C0.2.1
  have hts := C0.2.2.2.2.2.2.1
  refine lv_aload_n hx hb dL_law_602 rfl (lv_at hl 1 rfl) ?_
  refine lv_aload_n hx hb dL_law_603 rfl (lv_at hl 0 rfl) ?_
  refine lv_iload_n hx hb dL_law_604 rfl (lv_at hl 3 rfl) ?_
  refine lv_iconst (v := 1) hx hb dL_law_605 (by decide) ?_
  refine lv_iadd hx hb dL_law_606 ?_
  refine va_sld hx hb hX hbl hbA hS (vin 1 rfl (by omega) (by omega)) dL_law_607 ?_
  obtain ⟨r, τ2, e1, e2, R2⟩ := o_stand R0 (xs (nI i + 1).toNatClampNeg)
  refine lg_endi (lg_runV hcs C0 hR hS (c_X4_stand e1) (lw_cV 1 hts uw_298 mv_X4_stand rfl rfl hd_X4_stand ⟨Nat.le_of_ble_eq_true rfl, Nat.le_of_ble_eq_true rfl⟩) (by decide) cell_0 rfl rfl hl rfl (Nat.le_of_ble_eq_true rfl) dL_law_608) hS (fun H locs hR hS => ?_)
  refine lv_aload_n hx hb dL_law_611 rfl (lv_at hl 2 rfl) ?_
  refine lv_aload_n hx hb dL_law_612 rfl (lv_at hl 0 rfl) ?_
  refine lv_iload_n hx hb dL_law_613 rfl (lv_at hl 3 rfl) ?_
  refine lv_iconst (v := 1) hx hb dL_law_614 (by decide) ?_
  refine lv_iadd hx hb dL_law_615 ?_
  refine va_sld hx hb hX hbl hbA hS (vin 1 rfl (by omega) (by omega)) dL_law_616 ?_
  refine lg_endi (lg_runV hcs C0 hR hS (c_X5_stand e2) (lw_cV 1 hts uw_696 mv_X5_stand rfl rfl hd_X5_stand ⟨Nat.le_of_ble_eq_true rfl, Nat.le_of_ble_eq_true rfl⟩) (by decide) cell_140 rfl rfl hl rfl (Nat.le_of_ble_eq_true rfl) dL_law_617) hS (fun H locs hR hS => ?_)
  exact lv_icmp_eq (tgt := 1415) hx hb dL_law_620 (by decide) (fun _ => kk _ _ H locs R2 hR hS) (fun h => absurd rfl h)
theorem lc_thick (hcs : cells ≤ room_1.cells ∧ slots ≤ room_1.slots) (C0 : lm_Cx D cI cZ cL cR B p s m args meth c cL_law 4 (some .boolean) RL) (hX : va_X b L xs s s.heap) (hbl : b < s.heap.size) (hbA : ¬ lm_A B b) (hl : lv_has ls 4 [(0, .ref b), (1, .ref (B + 0)), (2, .ref (B + 140)), (3, .int (nI i))]) (hi : i + 6 ≤ L) (hL : L ≤ 3072) (R0 : Rel σ τ) (hR : va_P D vwCl (wl cI cZ cL cR B σ τ) H) (hS : va_S (lm_A B) s.heap H locs) (kk : lw_N l D cI cZ cL cR B p e s m args below meth c Q cells slots ls) : W p l e room_1 s m args below meth c H locs cells slots Q (F0 m 625 ls []) := by
  have hx := C0.1
  have hb := C0.2.1
  have hts := C0.2.2.2.2.2.2.1
  refine lv_aload_n hx hb dL_law_625 rfl (lv_at hl 1 rfl) ?_
  refine lv_aload_n hx hb dL_law_626 rfl (lv_at hl 0 rfl) ?_
  refine lv_iload_n hx hb dL_law_627 rfl (lv_at hl 3 rfl) ?_
  refine lv_iconst (v := 1) hx hb dL_law_628 (by decide) ?_
  refine lv_iadd hx hb dL_law_629 ?_
  refine va_sld hx hb hX hbl hbA hS (vin 1 rfl (by omega) (by omega)) dL_law_630 ?_
  obtain ⟨r, τ2, e1, e2, R2⟩ := o_thick R0 (xs (nI i + 1).toNatClampNeg)
  refine lg_endi (lg_runV hcs C0 hR hS (c_X4_thick e1) (lw_cV 1 hts uw_303 mv_X4_thick rfl rfl hd_X4_thick ⟨Nat.le_of_ble_eq_true rfl, Nat.le_of_ble_eq_true rfl⟩) (by decide) cell_0 rfl rfl hl rfl (Nat.le_of_ble_eq_true rfl) dL_law_631) hS (fun H locs hR hS => ?_)
  refine lv_aload_n hx hb dL_law_634 rfl (lv_at hl 2 rfl) ?_
  refine lv_aload_n hx hb dL_law_635 rfl (lv_at hl 0 rfl) ?_
  refine lv_iload_n hx hb dL_law_636 rfl (lv_at hl 3 rfl) ?_
  refine lv_iconst (v := 1) hx hb dL_law_637 (by decide) ?_
  refine lv_iadd hx hb dL_law_638 ?_
  refine va_sld hx hb hX hbl hbA hS (vin 1 rfl (by omega) (by omega)) dL_law_639 ?_
  refine lg_endi (lg_runV hcs C0 hR hS (c_X5_thick e2) (lw_cV 1 hts uw_700 mv_X5_thick rfl rfl hd_X5_thick ⟨Nat.le_of_ble_eq_true rfl, Nat.le_of_ble_eq_true rfl⟩) (by decide) cell_140 rfl rfl hl rfl (Nat.le_of_ble_eq_true rfl) dL_law_640) hS (fun H locs hR hS => ?_)
  exact lv_icmp_eq (tgt := 1415) hx hb dL_law_643 (by decide) (fun _ => kk _ _ H locs R2 hR hS) (fun h => absurd rfl h)
theorem lc_ahead (hcs : cells ≤ room_1.cells ∧ slots ≤ room_1.slots) (C0 : lm_Cx D cI cZ cL cR B p s m args meth c cL_law 4 (some .boolean) RL) (hX : va_X b L xs s s.heap) (hbl : b < s.heap.size) (hbA : ¬ lm_A B b) (hl : lv_has ls 4 [(0, .ref b), (1, .ref (B + 0)), (2, .ref (B + 140)), (3, .int (nI i))]) (hi : i + 6 ≤ L) (hL : L ≤ 3072) (R0 : Rel σ τ) (hR : va_P D vwCl (wl cI cZ cL cR B σ τ) H) (hS : va_S (lm_A B) s.heap H locs) (kk : lw_N l D cI cZ cL cR B p e s m args below meth c Q cells slots ls) : W p l e room_1 s m args below meth c H locs cells slots Q (F0 m 648 ls []) := by
  have hx := C0.1
  have hb := C0.2.1
  have hts := C0.2.2.2.2.2.2.1
  refine lv_aload_n hx hb dL_law_648 rfl (lv_at hl 1 rfl) ?_
  refine lv_aload_n hx hb dL_law_649 rfl (lv_at hl 0 rfl) ?_
  refine lv_iload_n hx hb dL_law_650 rfl (lv_at hl 3 rfl) ?_
  refine lv_iconst (v := 1) hx hb dL_law_651 (by decide) ?_
  refine lv_iadd hx hb dL_law_652 ?_
  refine va_sld hx hb hX hbl hbA hS (vin 1 rfl (by omega) (by omega)) dL_law_653 ?_
  refine lv_aload_n hx hb dL_law_654 rfl (lv_at hl 0 rfl) ?_
  refine lv_iload_n hx hb dL_law_655 rfl (lv_at hl 3 rfl) ?_
  refine lv_iconst (v := 2) hx hb dL_law_656 (by decide) ?_
  refine lv_iadd hx hb dL_law_657 ?_
  refine va_sld hx hb hX hbl hbA hS (vin 2 rfl (by omega) (by omega)) dL_law_658 ?_
  refine lv_aload_n hx hb dL_law_659 rfl (lv_at hl 0 rfl) ?_
  refine lv_iload_n hx hb dL_law_660 rfl (lv_at hl 3 rfl) ?_
  refine lv_iconst (v := 3) hx hb dL_law_661 (by decide) ?_
  refine lv_iadd hx hb dL_law_662 ?_
  refine va_sld hx hb hX hbl hbA hS (vin 3 rfl (by omega) (by omega)) dL_law_663 ?_
  obtain ⟨r, σ2, τ2, e1, e2, R2⟩ := o_ahead R0 (xs (nI i + 1).toNatClampNeg) (xs (nI i + 2).toNatClampNeg) (xs (nI i + 3).toNatClampNeg)
  refine lg_endi (lg_runV hcs C0 hR hS (c_X4_ahead e1) (lw_cV 3 hts uw_307 mv_X4_ahead rfl rfl hd_X4_ahead ⟨Nat.le_of_ble_eq_true rfl, Nat.le_of_ble_eq_true rfl⟩) (by decide) cell_0 rfl rfl hl rfl (Nat.le_of_ble_eq_true rfl) dL_law_664) hS (fun H locs hR hS => ?_)
  refine lv_aload_n hx hb dL_law_667 rfl (lv_at hl 2 rfl) ?_
  refine lv_aload_n hx hb dL_law_668 rfl (lv_at hl 0 rfl) ?_
  refine lv_iload_n hx hb dL_law_669 rfl (lv_at hl 3 rfl) ?_
  refine lv_iconst (v := 1) hx hb dL_law_670 (by decide) ?_
  refine lv_iadd hx hb dL_law_671 ?_
  refine va_sld hx hb hX hbl hbA hS (vin 1 rfl (by omega) (by omega)) dL_law_672 ?_
  refine lv_aload_n hx hb dL_law_673 rfl (lv_at hl 0 rfl) ?_
  refine lv_iload_n hx hb dL_law_674 rfl (lv_at hl 3 rfl) ?_
  refine lv_iconst (v := 2) hx hb dL_law_675 (by decide) ?_
  refine lv_iadd hx hb dL_law_676 ?_
  refine va_sld hx hb hX hbl hbA hS (vin 2 rfl (by omega) (by omega)) dL_law_677 ?_
  refine lv_aload_n hx hb dL_law_678 rfl (lv_at hl 0 rfl) ?_
  refine lv_iload_n hx hb dL_law_679 rfl (lv_at hl 3 rfl) ?_
  refine lv_iconst (v := 3) hx hb dL_law_680 (by decide) ?_
  refine lv_iadd hx hb dL_law_681 ?_
  refine va_sld hx hb hX hbl hbA hS (vin 3 rfl (by omega) (by omega)) dL_law_682 ?_
  refine lg_endi (lg_runV hcs C0 hR hS (c_X5_ahead e2) (lw_cV 3 hts uw_704 mv_X5_ahead rfl rfl hd_X5_ahead ⟨Nat.le_of_ble_eq_true rfl, Nat.le_of_ble_eq_true rfl⟩) (by decide) cell_140 rfl rfl hl rfl (Nat.le_of_ble_eq_true rfl) dL_law_683) hS (fun H locs hR hS => ?_)
  exact lv_icmp_eq (tgt := 1415) hx hb dL_law_686 (by decide) (fun _ => kk _ _ H locs R2 hR hS) (fun h => absurd rfl h)
theorem lc_written (hcs : cells ≤ room_1.cells ∧ slots ≤ room_1.slots) (C0 : lm_Cx D cI cZ cL cR B p s m args meth c cL_law 4 (some .boolean) RL) (hX : va_X b L xs s s.heap) (hbl : b < s.heap.size) (hbA : ¬ lm_A B b) (hl : lv_has ls 4 [(0, .ref b), (1, .ref (B + 0)), (2, .ref (B + 140)), (3, .int (nI i))]) (hi : i + 6 ≤ L) (hL : L ≤ 3072) (R0 : Rel σ τ) (hR : va_P D vwCl (wl cI cZ cL cR B σ τ) H) (hS : va_S (lm_A B) s.heap H locs) (kk : lw_N l D cI cZ cL cR B p e s m args below meth c Q cells slots ls) : W p l e room_1 s m args below meth c H locs cells slots Q (F0 m 691 ls []) := by
  have hx := C0.1
  have hb := C0.2.1
  have hts := C0.2.2.2.2.2.2.1
  refine lv_aload_n hx hb dL_law_691 rfl (lv_at hl 1 rfl) ?_
  refine lv_aload_n hx hb dL_law_692 rfl (lv_at hl 0 rfl) ?_
  refine lv_iload_n hx hb dL_law_693 rfl (lv_at hl 3 rfl) ?_
  refine lv_iconst (v := 1) hx hb dL_law_694 (by decide) ?_
  refine lv_iadd hx hb dL_law_695 ?_
  refine va_sld hx hb hX hbl hbA hS (vin 1 rfl (by omega) (by omega)) dL_law_696 ?_
  refine lv_aload_n hx hb dL_law_697 rfl (lv_at hl 0 rfl) ?_
  refine lv_iload_n hx hb dL_law_698 rfl (lv_at hl 3 rfl) ?_
  refine lv_iconst (v := 2) hx hb dL_law_699 (by decide) ?_
  refine lv_iadd hx hb dL_law_700 ?_
  refine va_sld hx hb hX hbl hbA hS (vin 2 rfl (by omega) (by omega)) dL_law_701 ?_
  obtain ⟨r, σ2, τ2, e1, e2, R2⟩ := o_written R0 (xs (nI i + 1).toNatClampNeg) (xs (nI i + 2).toNatClampNeg)
  refine lg_endi (lg_runV hcs C0 hR hS (c_X4_written e1) (lw_cV 2 hts uw_320 mv_X4_written rfl rfl hd_X4_written ⟨Nat.le_of_ble_eq_true rfl, Nat.le_of_ble_eq_true rfl⟩) (by decide) cell_0 rfl rfl hl rfl (Nat.le_of_ble_eq_true rfl) dL_law_702) hS (fun H locs hR hS => ?_)
  refine lv_aload_n hx hb dL_law_705 rfl (lv_at hl 2 rfl) ?_
  refine lv_aload_n hx hb dL_law_706 rfl (lv_at hl 0 rfl) ?_
  refine lv_iload_n hx hb dL_law_707 rfl (lv_at hl 3 rfl) ?_
  refine lv_iconst (v := 1) hx hb dL_law_708 (by decide) ?_
  refine lv_iadd hx hb dL_law_709 ?_
  refine va_sld hx hb hX hbl hbA hS (vin 1 rfl (by omega) (by omega)) dL_law_710 ?_
  refine lv_aload_n hx hb dL_law_711 rfl (lv_at hl 0 rfl) ?_
  refine lv_iload_n hx hb dL_law_712 rfl (lv_at hl 3 rfl) ?_
  refine lv_iconst (v := 2) hx hb dL_law_713 (by decide) ?_
  refine lv_iadd hx hb dL_law_714 ?_
  refine va_sld hx hb hX hbl hbA hS (vin 2 rfl (by omega) (by omega)) dL_law_715 ?_
  refine lg_endi (lg_runV hcs C0 hR hS (c_X5_written e2) (lw_cV 2 hts uw_714 mv_X5_written rfl rfl hd_X5_written ⟨Nat.le_of_ble_eq_true rfl, Nat.le_of_ble_eq_true rfl⟩) (by decide) cell_140 rfl rfl hl rfl (Nat.le_of_ble_eq_true rfl) dL_law_716) hS (fun H locs hR hS => ?_)
  exact lv_icmp_eq (tgt := 1415) hx hb dL_law_719 (by decide) (fun _ => kk _ _ H locs R2 hR hS) (fun h => absurd rfl h)
theorem lc_when (hcs : cells ≤ room_1.cells ∧ slots ≤ room_1.slots) (C0 : lm_Cx D cI cZ cL cR B p s m args meth c cL_law 4 (some .boolean) RL) (hX : va_X b L xs s s.heap) (hbl : b < s.heap.size) (hbA : ¬ lm_A B b) (hl : lv_has ls 4 [(0, .ref b), (1, .ref (B + 0)), (2, .ref (B + 140)), (3, .int (nI i))]) (hi : i + 6 ≤ L) (hL : L ≤ 3072) (R0 : Rel σ τ) (hR : va_P D vwCl (wl cI cZ cL cR B σ τ) H) (hS : va_S (lm_A B) s.heap H locs) (kk : lw_N l D cI cZ cL cR B p e s m args below meth c Q cells slots ls) : W p l e room_1 s m args below meth c H locs cells slots Q (F0 m 724 ls []) := by
  have hx := C0.1
  have hb := C0.2.1
  have hts := C0.2.2.2.2.2.2.1
  refine lv_aload_n hx hb dL_law_724 rfl (lv_at hl 1 rfl) ?_
  refine lv_aload_n hx hb dL_law_725 rfl (lv_at hl 0 rfl) ?_
  refine lv_iload_n hx hb dL_law_726 rfl (lv_at hl 3 rfl) ?_
  refine lv_iconst (v := 1) hx hb dL_law_727 (by decide) ?_
  refine lv_iadd hx hb dL_law_728 ?_
  refine va_sld hx hb hX hbl hbA hS (vin 1 rfl (by omega) (by omega)) dL_law_729 ?_
  refine lv_aload_n hx hb dL_law_730 rfl (lv_at hl 0 rfl) ?_
  refine lv_iload_n hx hb dL_law_731 rfl (lv_at hl 3 rfl) ?_
  refine lv_iconst (v := 2) hx hb dL_law_732 (by decide) ?_
  refine lv_iadd hx hb dL_law_733 ?_
  refine va_sld hx hb hX hbl hbA hS (vin 2 rfl (by omega) (by omega)) dL_law_734 ?_
  obtain ⟨r, σ2, τ2, e1, e2, R2⟩ := o_when R0 (xs (nI i + 1).toNatClampNeg) (xs (nI i + 2).toNatClampNeg)
  refine lg_endi (lg_runV hcs C0 hR hS (c_X4_when e1) (lw_cV 2 hts uw_324 mv_X4_when rfl rfl hd_X4_when ⟨Nat.le_of_ble_eq_true rfl, Nat.le_of_ble_eq_true rfl⟩) (by decide) cell_0 rfl rfl hl rfl (Nat.le_of_ble_eq_true rfl) dL_law_735) hS (fun H locs hR hS => ?_)
  refine lv_aload_n hx hb dL_law_738 rfl (lv_at hl 2 rfl) ?_
  refine lv_aload_n hx hb dL_law_739 rfl (lv_at hl 0 rfl) ?_
  refine lv_iload_n hx hb dL_law_740 rfl (lv_at hl 3 rfl) ?_
  refine lv_iconst (v := 1) hx hb dL_law_741 (by decide) ?_
  refine lv_iadd hx hb dL_law_742 ?_
  refine va_sld hx hb hX hbl hbA hS (vin 1 rfl (by omega) (by omega)) dL_law_743 ?_
  refine lv_aload_n hx hb dL_law_744 rfl (lv_at hl 0 rfl) ?_
  refine lv_iload_n hx hb dL_law_745 rfl (lv_at hl 3 rfl) ?_
  refine lv_iconst (v := 2) hx hb dL_law_746 (by decide) ?_
  refine lv_iadd hx hb dL_law_747 ?_
  refine va_sld hx hb hX hbl hbA hS (vin 2 rfl (by omega) (by omega)) dL_law_748 ?_
  refine lg_endi (lg_runV hcs C0 hR hS (c_X5_when e2) (lw_cV 2 hts uw_719 mv_X5_when rfl rfl hd_X5_when ⟨Nat.le_of_ble_eq_true rfl, Nat.le_of_ble_eq_true rfl⟩) (by decide) cell_140 rfl rfl hl rfl (Nat.le_of_ble_eq_true rfl) dL_law_749) hS (fun H locs hR hS => ?_)
  exact lv_icmp_eq (tgt := 1415) hx hb dL_law_752 (by decide) (fun _ => kk _ _ H locs R2 hR hS) (fun h => absurd rfl h)
theorem lc_quarrel (hcs : cells ≤ room_1.cells ∧ slots ≤ room_1.slots) (C0 : lm_Cx D cI cZ cL cR B p s m args meth c cL_law 4 (some .boolean) RL) (hX : va_X b L xs s s.heap) (hbl : b < s.heap.size) (hbA : ¬ lm_A B b) (hl : lv_has ls 4 [(0, .ref b), (1, .ref (B + 0)), (2, .ref (B + 140)), (3, .int (nI i))]) (hi : i + 6 ≤ L) (hL : L ≤ 3072) (R0 : Rel σ τ) (hR : va_P D vwCl (wl cI cZ cL cR B σ τ) H) (hS : va_S (lm_A B) s.heap H locs) (kk : lw_N l D cI cZ cL cR B p e s m args below meth c Q cells slots ls) : W p l e room_1 s m args below meth c H locs cells slots Q (F0 m 757 ls []) := by
  have hx := C0.1
  have hb := C0.2.1
  have hts := C0.2.2.2.2.2.2.1
  refine lv_aload_n hx hb dL_law_757 rfl (lv_at hl 1 rfl) ?_
  refine lv_aload_n hx hb dL_law_758 rfl (lv_at hl 0 rfl) ?_
  refine lv_iload_n hx hb dL_law_759 rfl (lv_at hl 3 rfl) ?_
  refine lv_iconst (v := 1) hx hb dL_law_760 (by decide) ?_
  refine lv_iadd hx hb dL_law_761 ?_
  refine va_sld hx hb hX hbl hbA hS (vin 1 rfl (by omega) (by omega)) dL_law_762 ?_
  obtain ⟨r, σ2, τ2, e1, e2, R2⟩ := o_quarrel R0 (xs (nI i + 1).toNatClampNeg)
  refine lg_endi (lg_runV hcs C0 hR hS (c_X4_quarrel e1) (lw_cV 1 hts uw_333 mv_X4_quarrel rfl rfl hd_X4_quarrel ⟨Nat.le_of_ble_eq_true rfl, Nat.le_of_ble_eq_true rfl⟩) (by decide) cell_0 rfl rfl hl rfl (Nat.le_of_ble_eq_true rfl) dL_law_763) hS (fun H locs hR hS => ?_)
  refine lv_aload_n hx hb dL_law_766 rfl (lv_at hl 2 rfl) ?_
  refine lv_aload_n hx hb dL_law_767 rfl (lv_at hl 0 rfl) ?_
  refine lv_iload_n hx hb dL_law_768 rfl (lv_at hl 3 rfl) ?_
  refine lv_iconst (v := 1) hx hb dL_law_769 (by decide) ?_
  refine lv_iadd hx hb dL_law_770 ?_
  refine va_sld hx hb hX hbl hbA hS (vin 1 rfl (by omega) (by omega)) dL_law_771 ?_
  refine lg_endi (lg_runV hcs C0 hR hS (c_X5_quarrel e2) (lw_cV 1 hts uw_723 mv_X5_quarrel rfl rfl hd_X5_quarrel ⟨Nat.le_of_ble_eq_true rfl, Nat.le_of_ble_eq_true rfl⟩) (by decide) cell_140 rfl rfl hl rfl (Nat.le_of_ble_eq_true rfl) dL_law_772) hS (fun H locs hR hS => ?_)
  exact lv_icmp_eq (tgt := 1415) hx hb dL_law_775 (by decide) (fun _ => kk _ _ H locs R2 hR hS) (fun h => absurd rfl h)
theorem lc_pours (hcs : cells ≤ room_1.cells ∧ slots ≤ room_1.slots) (C0 : lm_Cx D cI cZ cL cR B p s m args meth c cL_law 4 (some .boolean) RL) (hX : va_X b L xs s s.heap) (hbl : b < s.heap.size) (hbA : ¬ lm_A B b) (hl : lv_has ls 4 [(0, .ref b), (1, .ref (B + 0)), (2, .ref (B + 140)), (3, .int (nI i))]) (hi : i + 6 ≤ L) (hL : L ≤ 3072) (R0 : Rel σ τ) (hR : va_P D vwCl (wl cI cZ cL cR B σ τ) H) (hS : va_S (lm_A B) s.heap H locs) (kk : lw_N l D cI cZ cL cR B p e s m args below meth c Q cells slots ls) : W p l e room_1 s m args below meth c H locs cells slots Q (F0 m 780 ls []) := by
  have hx := C0.1
  have hb := C0.2.1
  have hts := C0.2.2.2.2.2.2.1
  refine lv_aload_n hx hb dL_law_780 rfl (lv_at hl 1 rfl) ?_
  refine lv_aload_n hx hb dL_law_781 rfl (lv_at hl 0 rfl) ?_
  refine lv_iload_n hx hb dL_law_782 rfl (lv_at hl 3 rfl) ?_
  refine lv_iconst (v := 1) hx hb dL_law_783 (by decide) ?_
  refine lv_iadd hx hb dL_law_784 ?_
  refine va_sld hx hb hX hbl hbA hS (vin 1 rfl (by omega) (by omega)) dL_law_785 ?_
  refine lv_aload_n hx hb dL_law_786 rfl (lv_at hl 0 rfl) ?_
  refine lv_iload_n hx hb dL_law_787 rfl (lv_at hl 3 rfl) ?_
  refine lv_iconst (v := 2) hx hb dL_law_788 (by decide) ?_
  refine lv_iadd hx hb dL_law_789 ?_
  refine va_sld hx hb hX hbl hbA hS (vin 2 rfl (by omega) (by omega)) dL_law_790 ?_
  obtain ⟨r, σ2, τ2, e1, e2, R2⟩ := o_pours R0 (xs (nI i + 1).toNatClampNeg) (xs (nI i + 2).toNatClampNeg)
  refine lg_endi (lg_runV hcs C0 hR hS (c_X4_pours e1) (lw_cV 2 hts uw_341 mv_X4_pours rfl rfl hd_X4_pours ⟨Nat.le_of_ble_eq_true rfl, Nat.le_of_ble_eq_true rfl⟩) (by decide) cell_0 rfl rfl hl rfl (Nat.le_of_ble_eq_true rfl) dL_law_791) hS (fun H locs hR hS => ?_)
  refine lv_aload_n hx hb dL_law_794 rfl (lv_at hl 2 rfl) ?_
  refine lv_aload_n hx hb dL_law_795 rfl (lv_at hl 0 rfl) ?_
  refine lv_iload_n hx hb dL_law_796 rfl (lv_at hl 3 rfl) ?_
  refine lv_iconst (v := 1) hx hb dL_law_797 (by decide) ?_
  refine lv_iadd hx hb dL_law_798 ?_
  refine va_sld hx hb hX hbl hbA hS (vin 1 rfl (by omega) (by omega)) dL_law_799 ?_
  refine lv_aload_n hx hb dL_law_800 rfl (lv_at hl 0 rfl) ?_
  refine lv_iload_n hx hb dL_law_801 rfl (lv_at hl 3 rfl) ?_
  refine lv_iconst (v := 2) hx hb dL_law_802 (by decide) ?_
  refine lv_iadd hx hb dL_law_803 ?_
  refine va_sld hx hb hX hbl hbA hS (vin 2 rfl (by omega) (by omega)) dL_law_804 ?_
  refine lg_endi (lg_runV hcs C0 hR hS (c_X5_pours e2) (lw_cV 2 hts uw_727 mv_X5_pours rfl rfl hd_X5_pours ⟨Nat.le_of_ble_eq_true rfl, Nat.le_of_ble_eq_true rfl⟩) (by decide) cell_140 rfl rfl hl rfl (Nat.le_of_ble_eq_true rfl) dL_law_805) hS (fun H locs hR hS => ?_)
  exact lv_icmp_eq (tgt := 1415) hx hb dL_law_808 (by decide) (fun _ => kk _ _ H locs R2 hR hS) (fun h => absurd rfl h)
theorem lc_lift (hcs : cells ≤ room_1.cells ∧ slots ≤ room_1.slots) (C0 : lm_Cx D cI cZ cL cR B p s m args meth c cL_law 4 (some .boolean) RL) (hX : va_X b L xs s s.heap) (hbl : b < s.heap.size) (hbA : ¬ lm_A B b) (hl : lv_has ls 4 [(0, .ref b), (1, .ref (B + 0)), (2, .ref (B + 140)), (3, .int (nI i))]) (hi : i + 6 ≤ L) (hL : L ≤ 3072) (R0 : Rel σ τ) (hR : va_P D vwCl (wl cI cZ cL cR B σ τ) H) (hS : va_S (lm_A B) s.heap H locs) (kk : lw_N l D cI cZ cL cR B p e s m args below meth c Q cells slots ls) : W p l e room_1 s m args below meth c H locs cells slots Q (F0 m 813 ls []) := by
  have hx := C0.1
  have hb := C0.2.1
  have hts := C0.2.2.2.2.2.2.1
  refine lv_aload_n hx hb dL_law_813 rfl (lv_at hl 1 rfl) ?_
  refine lv_aload_n hx hb dL_law_814 rfl (lv_at hl 0 rfl) ?_
  refine lv_iload_n hx hb dL_law_815 rfl (lv_at hl 3 rfl) ?_
  refine lv_iconst (v := 1) hx hb dL_law_816 (by decide) ?_
  refine lv_iadd hx hb dL_law_817 ?_
  refine va_sld hx hb hX hbl hbA hS (vin 1 rfl (by omega) (by omega)) dL_law_818 ?_
  refine lv_aload_n hx hb dL_law_819 rfl (lv_at hl 0 rfl) ?_
  refine lv_iload_n hx hb dL_law_820 rfl (lv_at hl 3 rfl) ?_
  refine lv_iconst (v := 2) hx hb dL_law_821 (by decide) ?_
  refine lv_iadd hx hb dL_law_822 ?_
  refine va_sld hx hb hX hbl hbA hS (vin 2 rfl (by omega) (by omega)) dL_law_823 ?_
  obtain ⟨r, σ2, τ2, e1, e2, R2⟩ := o_lift R0 (xs (nI i + 1).toNatClampNeg) (xs (nI i + 2).toNatClampNeg)
  refine lg_endi (lg_runV hcs C0 hR hS (c_X4_lift e1) (lw_cV 2 hts uw_346 mv_X4_lift rfl rfl hd_X4_lift ⟨Nat.le_of_ble_eq_true rfl, Nat.le_of_ble_eq_true rfl⟩) (by decide) cell_0 rfl rfl hl rfl (Nat.le_of_ble_eq_true rfl) dL_law_824) hS (fun H locs hR hS => ?_)
  refine lv_aload_n hx hb dL_law_827 rfl (lv_at hl 2 rfl) ?_
  refine lv_aload_n hx hb dL_law_828 rfl (lv_at hl 0 rfl) ?_
  refine lv_iload_n hx hb dL_law_829 rfl (lv_at hl 3 rfl) ?_
  refine lv_iconst (v := 1) hx hb dL_law_830 (by decide) ?_
  refine lv_iadd hx hb dL_law_831 ?_
  refine va_sld hx hb hX hbl hbA hS (vin 1 rfl (by omega) (by omega)) dL_law_832 ?_
  refine lv_aload_n hx hb dL_law_833 rfl (lv_at hl 0 rfl) ?_
  refine lv_iload_n hx hb dL_law_834 rfl (lv_at hl 3 rfl) ?_
  refine lv_iconst (v := 2) hx hb dL_law_835 (by decide) ?_
  refine lv_iadd hx hb dL_law_836 ?_
  refine va_sld hx hb hX hbl hbA hS (vin 2 rfl (by omega) (by omega)) dL_law_837 ?_
  refine lg_endi (lg_runV hcs C0 hR hS (c_X5_lift e2) (lw_cV 2 hts uw_732 mv_X5_lift rfl rfl hd_X5_lift ⟨Nat.le_of_ble_eq_true rfl, Nat.le_of_ble_eq_true rfl⟩) (by decide) cell_140 rfl rfl hl rfl (Nat.le_of_ble_eq_true rfl) dL_law_838) hS (fun H locs hR hS => ?_)
  exact lv_icmp_eq (tgt := 1415) hx hb dL_law_841 (by decide) (fun _ => kk _ _ H locs R2 hR hS) (fun h => absurd rfl h)
theorem lc_sent (hcs : cells ≤ room_1.cells ∧ slots ≤ room_1.slots) (C0 : lm_Cx D cI cZ cL cR B p s m args meth c cL_law 4 (some .boolean) RL) (hX : va_X b L xs s s.heap) (hbl : b < s.heap.size) (hbA : ¬ lm_A B b) (hl : lv_has ls 4 [(0, .ref b), (1, .ref (B + 0)), (2, .ref (B + 140)), (3, .int (nI i))]) (hi : i + 6 ≤ L) (hL : L ≤ 3072) (R0 : Rel σ τ) (hR : va_P D vwCl (wl cI cZ cL cR B σ τ) H) (hS : va_S (lm_A B) s.heap H locs) (kk : lw_N l D cI cZ cL cR B p e s m args below meth c Q cells slots ls) : W p l e room_1 s m args below meth c H locs cells slots Q (F0 m 846 ls []) := by
  have hx := C0.1
  have hb := C0.2.1
  have hts := C0.2.2.2.2.2.2.1
  refine lv_aload_n hx hb dL_law_846 rfl (lv_at hl 1 rfl) ?_
  refine lv_aload_n hx hb dL_law_847 rfl (lv_at hl 0 rfl) ?_
  refine lv_iload_n hx hb dL_law_848 rfl (lv_at hl 3 rfl) ?_
  refine lv_iconst (v := 1) hx hb dL_law_849 (by decide) ?_
  refine lv_iadd hx hb dL_law_850 ?_
  refine va_sld hx hb hX hbl hbA hS (vin 1 rfl (by omega) (by omega)) dL_law_851 ?_
  refine lv_aload_n hx hb dL_law_852 rfl (lv_at hl 0 rfl) ?_
  refine lv_iload_n hx hb dL_law_853 rfl (lv_at hl 3 rfl) ?_
  refine lv_iconst (v := 2) hx hb dL_law_854 (by decide) ?_
  refine lv_iadd hx hb dL_law_855 ?_
  refine va_sld hx hb hX hbl hbA hS (vin 2 rfl (by omega) (by omega)) dL_law_856 ?_
  obtain ⟨r, σ2, τ2, e1, e2, R2⟩ := o_sent R0 (xs (nI i + 1).toNatClampNeg) (xs (nI i + 2).toNatClampNeg)
  refine lg_endi (lg_runV hcs C0 hR hS (c_X4_sent e1) (lw_cV 2 hts uw_359 mv_X4_sent rfl rfl hd_X4_sent ⟨Nat.le_of_ble_eq_true rfl, Nat.le_of_ble_eq_true rfl⟩) (by decide) cell_0 rfl rfl hl rfl (Nat.le_of_ble_eq_true rfl) dL_law_857) hS (fun H locs hR hS => ?_)
  refine lv_aload_n hx hb dL_law_860 rfl (lv_at hl 2 rfl) ?_
  refine lv_aload_n hx hb dL_law_861 rfl (lv_at hl 0 rfl) ?_
  refine lv_iload_n hx hb dL_law_862 rfl (lv_at hl 3 rfl) ?_
  refine lv_iconst (v := 1) hx hb dL_law_863 (by decide) ?_
  refine lv_iadd hx hb dL_law_864 ?_
  refine va_sld hx hb hX hbl hbA hS (vin 1 rfl (by omega) (by omega)) dL_law_865 ?_
  refine lv_aload_n hx hb dL_law_866 rfl (lv_at hl 0 rfl) ?_
  refine lv_iload_n hx hb dL_law_867 rfl (lv_at hl 3 rfl) ?_
  refine lv_iconst (v := 2) hx hb dL_law_868 (by decide) ?_
  refine lv_iadd hx hb dL_law_869 ?_
  refine va_sld hx hb hX hbl hbA hS (vin 2 rfl (by omega) (by omega)) dL_law_870 ?_
  refine lg_endi (lg_runV hcs C0 hR hS (c_X5_sent e2) (lw_cV 2 hts uw_739 mv_X5_sent rfl rfl hd_X5_sent ⟨Nat.le_of_ble_eq_true rfl, Nat.le_of_ble_eq_true rfl⟩) (by decide) cell_140 rfl rfl hl rfl (Nat.le_of_ble_eq_true rfl) dL_law_871) hS (fun H locs hR hS => ?_)
  exact lv_icmp_eq (tgt := 1415) hx hb dL_law_874 (by decide) (fun _ => kk _ _ H locs R2 hR hS) (fun h => absurd rfl h)
theorem lc_share (hcs : cells ≤ room_1.cells ∧ slots ≤ room_1.slots) (C0 : lm_Cx D cI cZ cL cR B p s m args meth c cL_law 4 (some .boolean) RL) (hX : va_X b L xs s s.heap) (hbl : b < s.heap.size) (hbA : ¬ lm_A B b) (hl : lv_has ls 4 [(0, .ref b), (1, .ref (B + 0)), (2, .ref (B + 140)), (3, .int (nI i))]) (hi : i + 6 ≤ L) (hL : L ≤ 3072) (R0 : Rel σ τ) (hR : va_P D vwCl (wl cI cZ cL cR B σ τ) H) (hS : va_S (lm_A B) s.heap H locs) (kk : lw_N l D cI cZ cL cR B p e s m args below meth c Q cells slots ls) : W p l e room_1 s m args below meth c H locs cells slots Q (F0 m 879 ls []) := by
  have hx := C0.1
  have hb := C0.2.1
  have hts := C0.2.2.2.2.2.2.1
  refine lv_aload_n hx hb dL_law_879 rfl (lv_at hl 1 rfl) ?_
  refine lv_aload_n hx hb dL_law_880 rfl (lv_at hl 0 rfl) ?_
  refine lv_iload_n hx hb dL_law_881 rfl (lv_at hl 3 rfl) ?_
  refine lv_iconst (v := 1) hx hb dL_law_882 (by decide) ?_
  refine lv_iadd hx hb dL_law_883 ?_
  refine va_sld hx hb hX hbl hbA hS (vin 1 rfl (by omega) (by omega)) dL_law_884 ?_
  refine lv_aload_n hx hb dL_law_885 rfl (lv_at hl 0 rfl) ?_
  refine lv_iload_n hx hb dL_law_886 rfl (lv_at hl 3 rfl) ?_
  refine lv_iconst (v := 2) hx hb dL_law_887 (by decide) ?_
  refine lv_iadd hx hb dL_law_888 ?_
  refine va_sld hx hb hX hbl hbA hS (vin 2 rfl (by omega) (by omega)) dL_law_889 ?_
  obtain ⟨r, τ2, e1, e2, R2⟩ := o_share R0 (xs (nI i + 1).toNatClampNeg) (xs (nI i + 2).toNatClampNeg)
  refine lg_endi (lg_runV hcs C0 hR hS (c_X4_share e1) (lw_cV 2 hts uw_363 mv_X4_share rfl rfl hd_X4_share ⟨Nat.le_of_ble_eq_true rfl, Nat.le_of_ble_eq_true rfl⟩) (by decide) cell_0 rfl rfl hl rfl (Nat.le_of_ble_eq_true rfl) dL_law_890) hS (fun H locs hR hS => ?_)
  refine lv_aload_n hx hb dL_law_893 rfl (lv_at hl 2 rfl) ?_
  refine lv_aload_n hx hb dL_law_894 rfl (lv_at hl 0 rfl) ?_
  refine lv_iload_n hx hb dL_law_895 rfl (lv_at hl 3 rfl) ?_
  refine lv_iconst (v := 1) hx hb dL_law_896 (by decide) ?_
  refine lv_iadd hx hb dL_law_897 ?_
  refine va_sld hx hb hX hbl hbA hS (vin 1 rfl (by omega) (by omega)) dL_law_898 ?_
  refine lv_aload_n hx hb dL_law_899 rfl (lv_at hl 0 rfl) ?_
  refine lv_iload_n hx hb dL_law_900 rfl (lv_at hl 3 rfl) ?_
  refine lv_iconst (v := 2) hx hb dL_law_901 (by decide) ?_
  refine lv_iadd hx hb dL_law_902 ?_
  refine va_sld hx hb hX hbl hbA hS (vin 2 rfl (by omega) (by omega)) dL_law_903 ?_
  refine lg_endi (lg_runV hcs C0 hR hS (c_X5_share e2) (lw_cV 2 hts uw_743 mv_X5_share rfl rfl hd_X5_share ⟨Nat.le_of_ble_eq_true rfl, Nat.le_of_ble_eq_true rfl⟩) (by decide) cell_140 rfl rfl hl rfl (Nat.le_of_ble_eq_true rfl) dL_law_904) hS (fun H locs hR hS => ?_)
  exact lv_icmp_eq (tgt := 1415) hx hb dL_law_907 (by decide) (fun _ => kk _ _ H locs R2 hR hS) (fun h => absurd rfl h)
theorem lc_byTurns (hcs : cells ≤ room_1.cells ∧ slots ≤ room_1.slots) (C0 : lm_Cx D cI cZ cL cR B p s m args meth c cL_law 4 (some .boolean) RL) (hX : va_X b L xs s s.heap) (hbl : b < s.heap.size) (hbA : ¬ lm_A B b) (hl : lv_has ls 4 [(0, .ref b), (1, .ref (B + 0)), (2, .ref (B + 140)), (3, .int (nI i))]) (hi : i + 6 ≤ L) (hL : L ≤ 3072) (R0 : Rel σ τ) (hR : va_P D vwCl (wl cI cZ cL cR B σ τ) H) (hS : va_S (lm_A B) s.heap H locs) (kk : lw_N l D cI cZ cL cR B p e s m args below meth c Q cells slots ls) : W p l e room_1 s m args below meth c H locs cells slots Q (F0 m 912 ls []) := by
  have hx := C0.1
  have hb := C0.2.1
  have hts := C0.2.2.2.2.2.2.1
  refine lv_aload_n hx hb dL_law_912 rfl (lv_at hl 1 rfl) ?_
  refine lv_aload_n hx hb dL_law_913 rfl (lv_at hl 0 rfl) ?_
  refine lv_iload_n hx hb dL_law_914 rfl (lv_at hl 3 rfl) ?_
  refine lv_iconst (v := 1) hx hb dL_law_915 (by decide) ?_
  refine lv_iadd hx hb dL_law_916 ?_
  refine va_sld hx hb hX hbl hbA hS (vin 1 rfl (by omega) (by omega)) dL_law_917 ?_
  refine lv_aload_n hx hb dL_law_918 rfl (lv_at hl 0 rfl) ?_
  refine lv_iload_n hx hb dL_law_919 rfl (lv_at hl 3 rfl) ?_
  refine lv_iconst (v := 2) hx hb dL_law_920 (by decide) ?_
  refine lv_iadd hx hb dL_law_921 ?_
  refine va_sld hx hb hX hbl hbA hS (vin 2 rfl (by omega) (by omega)) dL_law_922 ?_
  obtain ⟨r, σ2, τ2, e1, e2, R2⟩ := o_byTurns R0 (xs (nI i + 1).toNatClampNeg) (xs (nI i + 2).toNatClampNeg)
  refine lg_endi (lg_runV hcs C0 hR hS (c_X4_byTurns e1) (lw_cV 2 hts uw_371 mv_X4_byTurns rfl rfl hd_X4_byTurns ⟨Nat.le_of_ble_eq_true rfl, Nat.le_of_ble_eq_true rfl⟩) (by decide) cell_0 rfl rfl hl rfl (Nat.le_of_ble_eq_true rfl) dL_law_923) hS (fun H locs hR hS => ?_)
  refine lv_aload_n hx hb dL_law_926 rfl (lv_at hl 2 rfl) ?_
  refine lv_aload_n hx hb dL_law_927 rfl (lv_at hl 0 rfl) ?_
  refine lv_iload_n hx hb dL_law_928 rfl (lv_at hl 3 rfl) ?_
  refine lv_iconst (v := 1) hx hb dL_law_929 (by decide) ?_
  refine lv_iadd hx hb dL_law_930 ?_
  refine va_sld hx hb hX hbl hbA hS (vin 1 rfl (by omega) (by omega)) dL_law_931 ?_
  refine lv_aload_n hx hb dL_law_932 rfl (lv_at hl 0 rfl) ?_
  refine lv_iload_n hx hb dL_law_933 rfl (lv_at hl 3 rfl) ?_
  refine lv_iconst (v := 2) hx hb dL_law_934 (by decide) ?_
  refine lv_iadd hx hb dL_law_935 ?_
  refine va_sld hx hb hX hbl hbA hS (vin 2 rfl (by omega) (by omega)) dL_law_936 ?_
  refine lg_endi (lg_runV hcs C0 hR hS (c_X5_byTurns e2) (lw_cV 2 hts uw_748 mv_X5_byTurns rfl rfl hd_X5_byTurns ⟨Nat.le_of_ble_eq_true rfl, Nat.le_of_ble_eq_true rfl⟩) (by decide) cell_140 rfl rfl hl rfl (Nat.le_of_ble_eq_true rfl) dL_law_937) hS (fun H locs hR hS => ?_)
  exact lv_icmp_eq (tgt := 1415) hx hb dL_law_940 (by decide) (fun _ => kk _ _ H locs R2 hR hS) (fun h => absurd rfl h)
theorem lc_who (hcs : cells ≤ room_1.cells ∧ slots ≤ room_1.slots) (C0 : lm_Cx D cI cZ cL cR B p s m args meth c cL_law 4 (some .boolean) RL) (hX : va_X b L xs s s.heap) (hbl : b < s.heap.size) (hbA : ¬ lm_A B b) (hl : lv_has ls 4 [(0, .ref b), (1, .ref (B + 0)), (2, .ref (B + 140)), (3, .int (nI i))]) (hi : i + 6 ≤ L) (hL : L ≤ 3072) (R0 : Rel σ τ) (hR : va_P D vwCl (wl cI cZ cL cR B σ τ) H) (hS : va_S (lm_A B) s.heap H locs) (kk : lw_N l D cI cZ cL cR B p e s m args below meth c Q cells slots ls) : W p l e room_1 s m args below meth c H locs cells slots Q (F0 m 945 ls []) := by
  have hx := C0.1
  have hb := C0.2.1
  have hts := C0.2.2.2.2.2.2.1
  refine lv_aload_n hx hb dL_law_945 rfl (lv_at hl 1 rfl) ?_
  refine lv_aload_n hx hb dL_law_946 rfl (lv_at hl 0 rfl) ?_
  refine lv_iload_n hx hb dL_law_947 rfl (lv_at hl 3 rfl) ?_
  refine lv_iconst (v := 1) hx hb dL_law_948 (by decide) ?_
  refine lv_iadd hx hb dL_law_949 ?_
  refine va_sld hx hb hX hbl hbA hS (vin 1 rfl (by omega) (by omega)) dL_law_950 ?_
  refine lv_aload_n hx hb dL_law_951 rfl (lv_at hl 0 rfl) ?_
  refine lv_iload_n hx hb dL_law_952 rfl (lv_at hl 3 rfl) ?_
  refine lv_iconst (v := 2) hx hb dL_law_953 (by decide) ?_
  refine lv_iadd hx hb dL_law_954 ?_
  refine va_sld hx hb hX hbl hbA hS (vin 2 rfl (by omega) (by omega)) dL_law_955 ?_
  refine lv_aload_n hx hb dL_law_956 rfl (lv_at hl 0 rfl) ?_
  refine lv_iload_n hx hb dL_law_957 rfl (lv_at hl 3 rfl) ?_
  refine lv_iconst (v := 3) hx hb dL_law_958 (by decide) ?_
  refine lv_iadd hx hb dL_law_959 ?_
  refine va_sld hx hb hX hbl hbA hS (vin 3 rfl (by omega) (by omega)) dL_law_960 ?_
  refine lv_aload_n hx hb dL_law_961 rfl (lv_at hl 0 rfl) ?_
  refine lv_iload_n hx hb dL_law_962 rfl (lv_at hl 3 rfl) ?_
  refine lv_iconst (v := 4) hx hb dL_law_963 (by decide) ?_
  refine lv_iadd hx hb dL_law_964 ?_
  refine va_sld hx hb hX hbl hbA hS (vin 4 rfl (by omega) (by omega)) dL_law_965 ?_
  refine lv_aload_n hx hb dL_law_966 rfl (lv_at hl 0 rfl) ?_
  refine lv_iload_n hx hb dL_law_967 rfl (lv_at hl 3 rfl) ?_
  refine lv_iconst (v := 5) hx hb dL_law_968 (by decide) ?_
  refine lv_iadd hx hb dL_law_969 ?_
  refine va_sld hx hb hX hbl hbA hS (vin 5 rfl (by omega) (by omega)) dL_law_970 ?_
  obtain ⟨r, σ2, τ2, e1, e2, R2⟩ := o_who R0 (xs (nI i + 1).toNatClampNeg) (xs (nI i + 2).toNatClampNeg) (xs (nI i + 3).toNatClampNeg) (xs (nI i + 4).toNatClampNeg) (xs (nI i + 5).toNatClampNeg)
  refine lg_endi (lg_runV hcs C0 hR hS (c_X4_who e1) (lw_cV 5 hts uw_383 mv_X4_who rfl rfl hd_X4_who ⟨Nat.le_of_ble_eq_true rfl, Nat.le_of_ble_eq_true rfl⟩) (by decide) cell_0 rfl rfl hl rfl (Nat.le_of_ble_eq_true rfl) dL_law_971) hS (fun H locs hR hS => ?_)
  refine lv_aload_n hx hb dL_law_974 rfl (lv_at hl 2 rfl) ?_
  refine lv_aload_n hx hb dL_law_975 rfl (lv_at hl 0 rfl) ?_
  refine lv_iload_n hx hb dL_law_976 rfl (lv_at hl 3 rfl) ?_
  refine lv_iconst (v := 1) hx hb dL_law_977 (by decide) ?_
  refine lv_iadd hx hb dL_law_978 ?_
  refine va_sld hx hb hX hbl hbA hS (vin 1 rfl (by omega) (by omega)) dL_law_979 ?_
  refine lv_aload_n hx hb dL_law_980 rfl (lv_at hl 0 rfl) ?_
  refine lv_iload_n hx hb dL_law_981 rfl (lv_at hl 3 rfl) ?_
  refine lv_iconst (v := 2) hx hb dL_law_982 (by decide) ?_
  refine lv_iadd hx hb dL_law_983 ?_
  refine va_sld hx hb hX hbl hbA hS (vin 2 rfl (by omega) (by omega)) dL_law_984 ?_
  refine lv_aload_n hx hb dL_law_985 rfl (lv_at hl 0 rfl) ?_
  refine lv_iload_n hx hb dL_law_986 rfl (lv_at hl 3 rfl) ?_
  refine lv_iconst (v := 3) hx hb dL_law_987 (by decide) ?_
  refine lv_iadd hx hb dL_law_988 ?_
  refine va_sld hx hb hX hbl hbA hS (vin 3 rfl (by omega) (by omega)) dL_law_989 ?_
  refine lv_aload_n hx hb dL_law_990 rfl (lv_at hl 0 rfl) ?_
  refine lv_iload_n hx hb dL_law_991 rfl (lv_at hl 3 rfl) ?_
  refine lv_iconst (v := 4) hx hb dL_law_992 (by decide) ?_
  refine lv_iadd hx hb dL_law_993 ?_
  refine va_sld hx hb hX hbl hbA hS (vin 4 rfl (by omega) (by omega)) dL_law_994 ?_
  refine lv_aload_n hx hb dL_law_995 rfl (lv_at hl 0 rfl) ?_
  refine lv_iload_n hx hb dL_law_996 rfl (lv_at hl 3 rfl) ?_
  refine lv_iconst (v := 5) hx hb dL_law_997 (by decide) ?_
  refine lv_iadd hx hb dL_law_998 ?_
  refine va_sld hx hb hX hbl hbA hS (vin 5 rfl (by omega) (by omega)) dL_law_999 ?_
  refine lg_endi (lg_runV hcs C0 hR hS (c_X5_who e2) (lw_cV 5 hts uw_757 mv_X5_who rfl rfl hd_X5_who ⟨Nat.le_of_ble_eq_true rfl, Nat.le_of_ble_eq_true rfl⟩) (by decide) cell_140 rfl rfl hl rfl (Nat.le_of_ble_eq_true rfl) dL_law_1000) hS (fun H locs hR hS => ?_)
  exact lv_icmp_eq (tgt := 1415) hx hb dL_law_1003 (by decide) (fun _ => kk _ _ H locs R2 hR hS) (fun h => absurd rfl h)
theorem lc_fogs (hcs : cells ≤ room_1.cells ∧ slots ≤ room_1.slots) (C0 : lm_Cx D cI cZ cL cR B p s m args meth c cL_law 4 (some .boolean) RL) (hX : va_X b L xs s s.heap) (hbl : b < s.heap.size) (hbA : ¬ lm_A B b) (hl : lv_has ls 4 [(0, .ref b), (1, .ref (B + 0)), (2, .ref (B + 140)), (3, .int (nI i))]) (hi : i + 6 ≤ L) (hL : L ≤ 3072) (R0 : Rel σ τ) (hR : va_P D vwCl (wl cI cZ cL cR B σ τ) H) (hS : va_S (lm_A B) s.heap H locs) (kk : lw_N l D cI cZ cL cR B p e s m args below meth c Q cells slots ls) : W p l e room_1 s m args below meth c H locs cells slots Q (F0 m 1008 ls []) := by
  have hx := C0.1
  have hb := C0.2.1
  have hts := C0.2.2.2.2.2.2.1
  refine lv_aload_n hx hb dL_law_1008 rfl (lv_at hl 1 rfl) ?_
  refine lv_aload_n hx hb dL_law_1009 rfl (lv_at hl 0 rfl) ?_
  refine lv_iload_n hx hb dL_law_1010 rfl (lv_at hl 3 rfl) ?_
  refine lv_iconst (v := 1) hx hb dL_law_1011 (by decide) ?_
  refine lv_iadd hx hb dL_law_1012 ?_
  refine va_sld hx hb hX hbl hbA hS (vin 1 rfl (by omega) (by omega)) dL_law_1013 ?_
  refine lv_aload_n hx hb dL_law_1014 rfl (lv_at hl 0 rfl) ?_
  refine lv_iload_n hx hb dL_law_1015 rfl (lv_at hl 3 rfl) ?_
  refine lv_iconst (v := 2) hx hb dL_law_1016 (by decide) ?_
  refine lv_iadd hx hb dL_law_1017 ?_
  refine va_sld hx hb hX hbl hbA hS (vin 2 rfl (by omega) (by omega)) dL_law_1018 ?_
  refine lv_aload_n hx hb dL_law_1019 rfl (lv_at hl 0 rfl) ?_
  refine lv_iload_n hx hb dL_law_1020 rfl (lv_at hl 3 rfl) ?_
  refine lv_iconst (v := 3) hx hb dL_law_1021 (by decide) ?_
  refine lv_iadd hx hb dL_law_1022 ?_
  refine va_sld hx hb hX hbl hbA hS (vin 3 rfl (by omega) (by omega)) dL_law_1023 ?_
  refine lv_aload_n hx hb dL_law_1024 rfl (lv_at hl 0 rfl) ?_
  refine lv_iload_n hx hb dL_law_1025 rfl (lv_at hl 3 rfl) ?_
  refine lv_iconst (v := 4) hx hb dL_law_1026 (by decide) ?_
  refine lv_iadd hx hb dL_law_1027 ?_
  refine va_sld hx hb hX hbl hbA hS (vin 4 rfl (by omega) (by omega)) dL_law_1028 ?_
  refine lv_aload_n hx hb dL_law_1029 rfl (lv_at hl 0 rfl) ?_
  refine lv_iload_n hx hb dL_law_1030 rfl (lv_at hl 3 rfl) ?_
  refine lv_iconst (v := 5) hx hb dL_law_1031 (by decide) ?_
  refine lv_iadd hx hb dL_law_1032 ?_
  refine va_sld hx hb hX hbl hbA hS (vin 5 rfl (by omega) (by omega)) dL_law_1033 ?_
  obtain ⟨r, σ2, τ2, e1, e2, R2⟩ := o_fogs R0 (xs (nI i + 1).toNatClampNeg) (xs (nI i + 2).toNatClampNeg) (xs (nI i + 3).toNatClampNeg) (xs (nI i + 4).toNatClampNeg) (xs (nI i + 5).toNatClampNeg)
  refine lg_endi (lg_runV hcs C0 hR hS (c_X4_fogs e1) (lw_cV 5 hts uw_400 mv_X4_fogs rfl rfl hd_X4_fogs ⟨Nat.le_of_ble_eq_true rfl, Nat.le_of_ble_eq_true rfl⟩) (by decide) cell_0 rfl rfl hl rfl (Nat.le_of_ble_eq_true rfl) dL_law_1034) hS (fun H locs hR hS => ?_)
  refine lv_aload_n hx hb dL_law_1037 rfl (lv_at hl 2 rfl) ?_
  refine lv_aload_n hx hb dL_law_1038 rfl (lv_at hl 0 rfl) ?_
  refine lv_iload_n hx hb dL_law_1039 rfl (lv_at hl 3 rfl) ?_
  refine lv_iconst (v := 1) hx hb dL_law_1040 (by decide) ?_
  refine lv_iadd hx hb dL_law_1041 ?_
  refine va_sld hx hb hX hbl hbA hS (vin 1 rfl (by omega) (by omega)) dL_law_1042 ?_
  refine lv_aload_n hx hb dL_law_1043 rfl (lv_at hl 0 rfl) ?_
  refine lv_iload_n hx hb dL_law_1044 rfl (lv_at hl 3 rfl) ?_
  refine lv_iconst (v := 2) hx hb dL_law_1045 (by decide) ?_
  refine lv_iadd hx hb dL_law_1046 ?_
  refine va_sld hx hb hX hbl hbA hS (vin 2 rfl (by omega) (by omega)) dL_law_1047 ?_
  refine lv_aload_n hx hb dL_law_1048 rfl (lv_at hl 0 rfl) ?_
  refine lv_iload_n hx hb dL_law_1049 rfl (lv_at hl 3 rfl) ?_
  refine lv_iconst (v := 3) hx hb dL_law_1050 (by decide) ?_
  refine lv_iadd hx hb dL_law_1051 ?_
  refine va_sld hx hb hX hbl hbA hS (vin 3 rfl (by omega) (by omega)) dL_law_1052 ?_
  refine lv_aload_n hx hb dL_law_1053 rfl (lv_at hl 0 rfl) ?_
  refine lv_iload_n hx hb dL_law_1054 rfl (lv_at hl 3 rfl) ?_
  refine lv_iconst (v := 4) hx hb dL_law_1055 (by decide) ?_
  refine lv_iadd hx hb dL_law_1056 ?_
  refine va_sld hx hb hX hbl hbA hS (vin 4 rfl (by omega) (by omega)) dL_law_1057 ?_
  refine lv_aload_n hx hb dL_law_1058 rfl (lv_at hl 0 rfl) ?_
  refine lv_iload_n hx hb dL_law_1059 rfl (lv_at hl 3 rfl) ?_
  refine lv_iconst (v := 5) hx hb dL_law_1060 (by decide) ?_
  refine lv_iadd hx hb dL_law_1061 ?_
  refine va_sld hx hb hX hbl hbA hS (vin 5 rfl (by omega) (by omega)) dL_law_1062 ?_
  refine lg_endi (lg_runV hcs C0 hR hS (c_X5_fogs e2) (lw_cV 5 hts uw_773 mv_X5_fogs rfl rfl hd_X5_fogs ⟨Nat.le_of_ble_eq_true rfl, Nat.le_of_ble_eq_true rfl⟩) (by decide) cell_140 rfl rfl hl rfl (Nat.le_of_ble_eq_true rfl) dL_law_1063) hS (fun H locs hR hS => ?_)
  exact lv_icmp_eq (tgt := 1415) hx hb dL_law_1066 (by decide) (fun _ => kk _ _ H locs R2 hR hS) (fun h => absurd rfl h)
theorem lc_sights (hcs : cells ≤ room_1.cells ∧ slots ≤ room_1.slots) (C0 : lm_Cx D cI cZ cL cR B p s m args meth c cL_law 4 (some .boolean) RL) (hX : va_X b L xs s s.heap) (hbl : b < s.heap.size) (hbA : ¬ lm_A B b) (hl : lv_has ls 4 [(0, .ref b), (1, .ref (B + 0)), (2, .ref (B + 140)), (3, .int (nI i))]) (hi : i + 6 ≤ L) (hL : L ≤ 3072) (R0 : Rel σ τ) (hR : va_P D vwCl (wl cI cZ cL cR B σ τ) H) (hS : va_S (lm_A B) s.heap H locs) (kk : lw_N l D cI cZ cL cR B p e s m args below meth c Q cells slots ls) : W p l e room_1 s m args below meth c H locs cells slots Q (F0 m 1071 ls []) := by
  have hx := C0.1
  have hb := C0.2.1
  have hts := C0.2.2.2.2.2.2.1
  refine lv_aload_n hx hb dL_law_1071 rfl (lv_at hl 1 rfl) ?_
  refine lv_aload_n hx hb dL_law_1072 rfl (lv_at hl 0 rfl) ?_
  refine lv_iload_n hx hb dL_law_1073 rfl (lv_at hl 3 rfl) ?_
  refine lv_iconst (v := 1) hx hb dL_law_1074 (by decide) ?_
  refine lv_iadd hx hb dL_law_1075 ?_
  refine va_sld hx hb hX hbl hbA hS (vin 1 rfl (by omega) (by omega)) dL_law_1076 ?_
  refine lv_aload_n hx hb dL_law_1077 rfl (lv_at hl 0 rfl) ?_
  refine lv_iload_n hx hb dL_law_1078 rfl (lv_at hl 3 rfl) ?_
  refine lv_iconst (v := 2) hx hb dL_law_1079 (by decide) ?_
  refine lv_iadd hx hb dL_law_1080 ?_
  refine va_sld hx hb hX hbl hbA hS (vin 2 rfl (by omega) (by omega)) dL_law_1081 ?_
  refine lv_aload_n hx hb dL_law_1082 rfl (lv_at hl 0 rfl) ?_
  refine lv_iload_n hx hb dL_law_1083 rfl (lv_at hl 3 rfl) ?_
  refine lv_iconst (v := 3) hx hb dL_law_1084 (by decide) ?_
  refine lv_iadd hx hb dL_law_1085 ?_
  refine va_sld hx hb hX hbl hbA hS (vin 3 rfl (by omega) (by omega)) dL_law_1086 ?_
  refine lv_aload_n hx hb dL_law_1087 rfl (lv_at hl 0 rfl) ?_
  refine lv_iload_n hx hb dL_law_1088 rfl (lv_at hl 3 rfl) ?_
  refine lv_iconst (v := 4) hx hb dL_law_1089 (by decide) ?_
  refine lv_iadd hx hb dL_law_1090 ?_
  refine va_sld hx hb hX hbl hbA hS (vin 4 rfl (by omega) (by omega)) dL_law_1091 ?_
  refine lv_aload_n hx hb dL_law_1092 rfl (lv_at hl 0 rfl) ?_
  refine lv_iload_n hx hb dL_law_1093 rfl (lv_at hl 3 rfl) ?_
  refine lv_iconst (v := 5) hx hb dL_law_1094 (by decide) ?_
  refine lv_iadd hx hb dL_law_1095 ?_
  refine va_sld hx hb hX hbl hbA hS (vin 5 rfl (by omega) (by omega)) dL_law_1096 ?_
  obtain ⟨r, σ2, τ2, e1, e2, R2⟩ := o_sights R0 (xs (nI i + 1).toNatClampNeg) (xs (nI i + 2).toNatClampNeg) (xs (nI i + 3).toNatClampNeg) (xs (nI i + 4).toNatClampNeg) (xs (nI i + 5).toNatClampNeg)
  refine lg_endi (lg_runV hcs C0 hR hS (c_X4_sights e1) (lw_cV 5 hts uw_404 mv_X4_sights rfl rfl hd_X4_sights ⟨Nat.le_of_ble_eq_true rfl, Nat.le_of_ble_eq_true rfl⟩) (by decide) cell_0 rfl rfl hl rfl (Nat.le_of_ble_eq_true rfl) dL_law_1097) hS (fun H locs hR hS => ?_)
  refine lv_aload_n hx hb dL_law_1100 rfl (lv_at hl 2 rfl) ?_
  refine lv_aload_n hx hb dL_law_1101 rfl (lv_at hl 0 rfl) ?_
  refine lv_iload_n hx hb dL_law_1102 rfl (lv_at hl 3 rfl) ?_
  refine lv_iconst (v := 1) hx hb dL_law_1103 (by decide) ?_
  refine lv_iadd hx hb dL_law_1104 ?_
  refine va_sld hx hb hX hbl hbA hS (vin 1 rfl (by omega) (by omega)) dL_law_1105 ?_
  refine lv_aload_n hx hb dL_law_1106 rfl (lv_at hl 0 rfl) ?_
  refine lv_iload_n hx hb dL_law_1107 rfl (lv_at hl 3 rfl) ?_
  refine lv_iconst (v := 2) hx hb dL_law_1108 (by decide) ?_
  refine lv_iadd hx hb dL_law_1109 ?_
  refine va_sld hx hb hX hbl hbA hS (vin 2 rfl (by omega) (by omega)) dL_law_1110 ?_
  refine lv_aload_n hx hb dL_law_1111 rfl (lv_at hl 0 rfl) ?_
  refine lv_iload_n hx hb dL_law_1112 rfl (lv_at hl 3 rfl) ?_
  refine lv_iconst (v := 3) hx hb dL_law_1113 (by decide) ?_
  refine lv_iadd hx hb dL_law_1114 ?_
  refine va_sld hx hb hX hbl hbA hS (vin 3 rfl (by omega) (by omega)) dL_law_1115 ?_
  refine lv_aload_n hx hb dL_law_1116 rfl (lv_at hl 0 rfl) ?_
  refine lv_iload_n hx hb dL_law_1117 rfl (lv_at hl 3 rfl) ?_
  refine lv_iconst (v := 4) hx hb dL_law_1118 (by decide) ?_
  refine lv_iadd hx hb dL_law_1119 ?_
  refine va_sld hx hb hX hbl hbA hS (vin 4 rfl (by omega) (by omega)) dL_law_1120 ?_
  refine lv_aload_n hx hb dL_law_1121 rfl (lv_at hl 0 rfl) ?_
  refine lv_iload_n hx hb dL_law_1122 rfl (lv_at hl 3 rfl) ?_
  refine lv_iconst (v := 5) hx hb dL_law_1123 (by decide) ?_
  refine lv_iadd hx hb dL_law_1124 ?_
  refine va_sld hx hb hX hbl hbA hS (vin 5 rfl (by omega) (by omega)) dL_law_1125 ?_
  refine lg_endi (lg_runV hcs C0 hR hS (c_X5_sights e2) (lw_cV 5 hts uw_777 mv_X5_sights rfl rfl hd_X5_sights ⟨Nat.le_of_ble_eq_true rfl, Nat.le_of_ble_eq_true rfl⟩) (by decide) cell_140 rfl rfl hl rfl (Nat.le_of_ble_eq_true rfl) dL_law_1126) hS (fun H locs hR hS => ?_)
  exact lv_icmp_eq (tgt := 1415) hx hb dL_law_1129 (by decide) (fun _ => kk _ _ H locs R2 hR hS) (fun h => absurd rfl h)
theorem lc_fair (hcs : cells ≤ room_1.cells ∧ slots ≤ room_1.slots) (C0 : lm_Cx D cI cZ cL cR B p s m args meth c cL_law 4 (some .boolean) RL) (hX : va_X b L xs s s.heap) (hbl : b < s.heap.size) (hbA : ¬ lm_A B b) (hl : lv_has ls 4 [(0, .ref b), (1, .ref (B + 0)), (2, .ref (B + 140)), (3, .int (nI i))]) (hi : i + 6 ≤ L) (hL : L ≤ 3072) (R0 : Rel σ τ) (hR : va_P D vwCl (wl cI cZ cL cR B σ τ) H) (hS : va_S (lm_A B) s.heap H locs) (kk : lw_N l D cI cZ cL cR B p e s m args below meth c Q cells slots ls) : W p l e room_1 s m args below meth c H locs cells slots Q (F0 m 1134 ls []) := by
  have hx := C0.1
  have hb := C0.2.1
  have hts := C0.2.2.2.2.2.2.1
  refine lv_aload_n hx hb dL_law_1134 rfl (lv_at hl 1 rfl) ?_
  refine lv_aload_n hx hb dL_law_1135 rfl (lv_at hl 0 rfl) ?_
  refine lv_iload_n hx hb dL_law_1136 rfl (lv_at hl 3 rfl) ?_
  refine lv_iconst (v := 1) hx hb dL_law_1137 (by decide) ?_
  refine lv_iadd hx hb dL_law_1138 ?_
  refine va_sld hx hb hX hbl hbA hS (vin 1 rfl (by omega) (by omega)) dL_law_1139 ?_
  refine lv_aload_n hx hb dL_law_1140 rfl (lv_at hl 0 rfl) ?_
  refine lv_iload_n hx hb dL_law_1141 rfl (lv_at hl 3 rfl) ?_
  refine lv_iconst (v := 2) hx hb dL_law_1142 (by decide) ?_
  refine lv_iadd hx hb dL_law_1143 ?_
  refine va_sld hx hb hX hbl hbA hS (vin 2 rfl (by omega) (by omega)) dL_law_1144 ?_
  refine lv_aload_n hx hb dL_law_1145 rfl (lv_at hl 0 rfl) ?_
  refine lv_iload_n hx hb dL_law_1146 rfl (lv_at hl 3 rfl) ?_
  refine lv_iconst (v := 3) hx hb dL_law_1147 (by decide) ?_
  refine lv_iadd hx hb dL_law_1148 ?_
  refine va_sld hx hb hX hbl hbA hS (vin 3 rfl (by omega) (by omega)) dL_law_1149 ?_
  obtain ⟨r, σ2, τ2, e1, e2, R2⟩ := o_fair R0 (xs (nI i + 1).toNatClampNeg) (xs (nI i + 2).toNatClampNeg) (xs (nI i + 3).toNatClampNeg)
  refine lg_endj (lg_runV hcs C0 hR hS (c_X4_fair e1) (lw_cV 3 hts uw_414 mv_X4_fair rfl rfl hd_X4_fair ⟨Nat.le_of_ble_eq_true rfl, Nat.le_of_ble_eq_true rfl⟩) (by decide) cell_0 rfl rfl hl rfl (Nat.le_of_ble_eq_true rfl) dL_law_1150) hS (fun H locs hR hS => ?_)
  refine lv_aload_n hx hb dL_law_1153 rfl (lv_at hl 2 rfl) ?_
  refine lv_aload_n hx hb dL_law_1154 rfl (lv_at hl 0 rfl) ?_
  refine lv_iload_n hx hb dL_law_1155 rfl (lv_at hl 3 rfl) ?_
  refine lv_iconst (v := 1) hx hb dL_law_1156 (by decide) ?_
  refine lv_iadd hx hb dL_law_1157 ?_
  refine va_sld hx hb hX hbl hbA hS (vin 1 rfl (by omega) (by omega)) dL_law_1158 ?_
  refine lv_aload_n hx hb dL_law_1159 rfl (lv_at hl 0 rfl) ?_
  refine lv_iload_n hx hb dL_law_1160 rfl (lv_at hl 3 rfl) ?_
  refine lv_iconst (v := 2) hx hb dL_law_1161 (by decide) ?_
  refine lv_iadd hx hb dL_law_1162 ?_
  refine va_sld hx hb hX hbl hbA hS (vin 2 rfl (by omega) (by omega)) dL_law_1163 ?_
  refine lv_aload_n hx hb dL_law_1164 rfl (lv_at hl 0 rfl) ?_
  refine lv_iload_n hx hb dL_law_1165 rfl (lv_at hl 3 rfl) ?_
  refine lv_iconst (v := 3) hx hb dL_law_1166 (by decide) ?_
  refine lv_iadd hx hb dL_law_1167 ?_
  refine va_sld hx hb hX hbl hbA hS (vin 3 rfl (by omega) (by omega)) dL_law_1168 ?_
  refine lg_endj (lg_runV hcs C0 hR hS (c_X5_fair e2) (lw_cV 3 hts uw_781 mv_X5_fair rfl rfl hd_X5_fair ⟨Nat.le_of_ble_eq_true rfl, Nat.le_of_ble_eq_true rfl⟩) (by decide) cell_140 rfl rfl hl rfl (Nat.le_of_ble_eq_true rfl) dL_law_1169) hS (fun H locs hR hS => ?_)
  refine W.lcmp hx hb dL_law_1172 ?_
  exact lv_if_eq (tgt := 1415) hx hb dL_law_1173 (by decide) (fun _ => kk _ _ H locs R2 hR hS) (fun h => absurd ((lg_cmp_eq _ _).mpr rfl) h)
theorem lc_drawn (hcs : cells ≤ room_1.cells ∧ slots ≤ room_1.slots) (C0 : lm_Cx D cI cZ cL cR B p s m args meth c cL_law 4 (some .boolean) RL) (hX : va_X b L xs s s.heap) (hbl : b < s.heap.size) (hbA : ¬ lm_A B b) (hl : lv_has ls 4 [(0, .ref b), (1, .ref (B + 0)), (2, .ref (B + 140)), (3, .int (nI i))]) (hi : i + 6 ≤ L) (hL : L ≤ 3072) (R0 : Rel σ τ) (hR : va_P D vwCl (wl cI cZ cL cR B σ τ) H) (hS : va_S (lm_A B) s.heap H locs) (kk : lw_N l D cI cZ cL cR B p e s m args below meth c Q cells slots ls) : W p l e room_1 s m args below meth c H locs cells slots Q (F0 m 1178 ls []) := by
  have hx := C0.1
  have hb := C0.2.1
  have hts := C0.2.2.2.2.2.2.1
  refine lv_aload_n hx hb dL_law_1178 rfl (lv_at hl 1 rfl) ?_
  refine lv_aload_n hx hb dL_law_1179 rfl (lv_at hl 0 rfl) ?_
  refine lv_iload_n hx hb dL_law_1180 rfl (lv_at hl 3 rfl) ?_
  refine lv_iconst (v := 1) hx hb dL_law_1181 (by decide) ?_
  refine lv_iadd hx hb dL_law_1182 ?_
  refine va_sld hx hb hX hbl hbA hS (vin 1 rfl (by omega) (by omega)) dL_law_1183 ?_
  refine lv_aload_n hx hb dL_law_1184 rfl (lv_at hl 0 rfl) ?_
  refine lv_iload_n hx hb dL_law_1185 rfl (lv_at hl 3 rfl) ?_
  refine lv_iconst (v := 2) hx hb dL_law_1186 (by decide) ?_
  refine lv_iadd hx hb dL_law_1187 ?_
  refine va_sld hx hb hX hbl hbA hS (vin 2 rfl (by omega) (by omega)) dL_law_1188 ?_
  refine lv_aload_n hx hb dL_law_1189 rfl (lv_at hl 0 rfl) ?_
  refine lv_iload_n hx hb dL_law_1190 rfl (lv_at hl 3 rfl) ?_
  refine lv_iconst (v := 3) hx hb dL_law_1191 (by decide) ?_
  refine lv_iadd hx hb dL_law_1192 ?_
  refine va_sld hx hb hX hbl hbA hS (vin 3 rfl (by omega) (by omega)) dL_law_1193 ?_
  obtain ⟨r, σ2, τ2, e1, e2, R2⟩ := o_drawn R0 (xs (nI i + 1).toNatClampNeg) (xs (nI i + 2).toNatClampNeg) (xs (nI i + 3).toNatClampNeg)
  refine lg_endi (lg_runV hcs C0 hR hS (c_X4_drawn e1) (lw_cV 3 hts uw_434 mv_X4_drawn rfl rfl hd_X4_drawn ⟨Nat.le_of_ble_eq_true rfl, Nat.le_of_ble_eq_true rfl⟩) (by decide) cell_0 rfl rfl hl rfl (Nat.le_of_ble_eq_true rfl) dL_law_1194) hS (fun H locs hR hS => ?_)
  refine lv_aload_n hx hb dL_law_1197 rfl (lv_at hl 2 rfl) ?_
  refine lv_aload_n hx hb dL_law_1198 rfl (lv_at hl 0 rfl) ?_
  refine lv_iload_n hx hb dL_law_1199 rfl (lv_at hl 3 rfl) ?_
  refine lv_iconst (v := 1) hx hb dL_law_1200 (by decide) ?_
  refine lv_iadd hx hb dL_law_1201 ?_
  refine va_sld hx hb hX hbl hbA hS (vin 1 rfl (by omega) (by omega)) dL_law_1202 ?_
  refine lv_aload_n hx hb dL_law_1203 rfl (lv_at hl 0 rfl) ?_
  refine lv_iload_n hx hb dL_law_1204 rfl (lv_at hl 3 rfl) ?_
  refine lv_iconst (v := 2) hx hb dL_law_1205 (by decide) ?_
  refine lv_iadd hx hb dL_law_1206 ?_
  refine va_sld hx hb hX hbl hbA hS (vin 2 rfl (by omega) (by omega)) dL_law_1207 ?_
  refine lv_aload_n hx hb dL_law_1208 rfl (lv_at hl 0 rfl) ?_
  refine lv_iload_n hx hb dL_law_1209 rfl (lv_at hl 3 rfl) ?_
  refine lv_iconst (v := 3) hx hb dL_law_1210 (by decide) ?_
  refine lv_iadd hx hb dL_law_1211 ?_
  refine va_sld hx hb hX hbl hbA hS (vin 3 rfl (by omega) (by omega)) dL_law_1212 ?_
  refine lg_endi (lg_runV hcs C0 hR hS (c_X5_drawn e2) (lw_cV 3 hts uw_788 mv_X5_drawn rfl rfl hd_X5_drawn ⟨Nat.le_of_ble_eq_true rfl, Nat.le_of_ble_eq_true rfl⟩) (by decide) cell_140 rfl rfl hl rfl (Nat.le_of_ble_eq_true rfl) dL_law_1213) hS (fun H locs hR hS => ?_)
  exact lv_icmp_eq (tgt := 1415) hx hb dL_law_1216 (by decide) (fun _ => kk _ _ H locs R2 hR hS) (fun h => absurd rfl h)
theorem lc_image (hcs : cells ≤ room_1.cells ∧ slots ≤ room_1.slots) (C0 : lm_Cx D cI cZ cL cR B p s m args meth c cL_law 4 (some .boolean) RL) (hX : va_X b L xs s s.heap) (hbl : b < s.heap.size) (hbA : ¬ lm_A B b) (hl : lv_has ls 4 [(0, .ref b), (1, .ref (B + 0)), (2, .ref (B + 140)), (3, .int (nI i))]) (hi : i + 6 ≤ L) (hL : L ≤ 3072) (R0 : Rel σ τ) (hR : va_P D vwCl (wl cI cZ cL cR B σ τ) H) (hS : va_S (lm_A B) s.heap H locs) (kk : lw_N l D cI cZ cL cR B p e s m args below meth c Q cells slots ls) : W p l e room_1 s m args below meth c H locs cells slots Q (F0 m 1221 ls []) := by
  have hx := C0.1
  have hb := C0.2.1
  have hts := C0.2.2.2.2.2.2.1
  refine lv_aload_n hx hb dL_law_1221 rfl (lv_at hl 1 rfl) ?_
  refine lv_aload_n hx hb dL_law_1222 rfl (lv_at hl 0 rfl) ?_
  refine lv_iload_n hx hb dL_law_1223 rfl (lv_at hl 3 rfl) ?_
  refine lv_iconst (v := 1) hx hb dL_law_1224 (by decide) ?_
  refine lv_iadd hx hb dL_law_1225 ?_
  refine va_sld hx hb hX hbl hbA hS (vin 1 rfl (by omega) (by omega)) dL_law_1226 ?_
  obtain ⟨r, σ2, τ2, e1, e2, R2⟩ := o_image R0 (xs (nI i + 1).toNatClampNeg)
  refine lg_endi (lg_runV hcs C0 hR hS (c_X4_image e1) (lw_cV 1 hts uw_448 mv_X4_image rfl rfl hd_X4_image ⟨Nat.le_of_ble_eq_true rfl, Nat.le_of_ble_eq_true rfl⟩) (by decide) cell_0 rfl rfl hl rfl (Nat.le_of_ble_eq_true rfl) dL_law_1227) hS (fun H locs hR hS => ?_)
  refine lv_aload_n hx hb dL_law_1230 rfl (lv_at hl 2 rfl) ?_
  refine lv_aload_n hx hb dL_law_1231 rfl (lv_at hl 0 rfl) ?_
  refine lv_iload_n hx hb dL_law_1232 rfl (lv_at hl 3 rfl) ?_
  refine lv_iconst (v := 1) hx hb dL_law_1233 (by decide) ?_
  refine lv_iadd hx hb dL_law_1234 ?_
  refine va_sld hx hb hX hbl hbA hS (vin 1 rfl (by omega) (by omega)) dL_law_1235 ?_
  refine lg_endi (lg_runV hcs C0 hR hS (c_X5_image e2) (lw_cV 1 hts uw_795 mv_X5_image rfl rfl hd_X5_image ⟨Nat.le_of_ble_eq_true rfl, Nat.le_of_ble_eq_true rfl⟩) (by decide) cell_140 rfl rfl hl rfl (Nat.le_of_ble_eq_true rfl) dL_law_1236) hS (fun H locs hR hS => ?_)
  exact lv_icmp_eq (tgt := 1415) hx hb dL_law_1239 (by decide) (fun _ => kk _ _ H locs R2 hR hS) (fun h => absurd rfl h)
theorem lc_restore (hcs : cells ≤ room_1.cells ∧ slots ≤ room_1.slots) (C0 : lm_Cx D cI cZ cL cR B p s m args meth c cL_law 4 (some .boolean) RL) (hX : va_X b L xs s s.heap) (hbl : b < s.heap.size) (hbA : ¬ lm_A B b) (hl : lv_has ls 4 [(0, .ref b), (1, .ref (B + 0)), (2, .ref (B + 140)), (3, .int (nI i))]) (hi : i + 6 ≤ L) (hL : L ≤ 3072) (R0 : Rel σ τ) (hR : va_P D vwCl (wl cI cZ cL cR B σ τ) H) (hS : va_S (lm_A B) s.heap H locs) (kk : lw_N l D cI cZ cL cR B p e s m args below meth c Q cells slots ls) : W p l e room_1 s m args below meth c H locs cells slots Q (F0 m 1244 ls []) := by
  have hx := C0.1
  have hb := C0.2.1
  have hts := C0.2.2.2.2.2.2.1
  refine lv_aload_n hx hb dL_law_1244 rfl (lv_at hl 1 rfl) ?_
  refine lv_aload_n hx hb dL_law_1245 rfl (lv_at hl 0 rfl) ?_
  refine lv_iload_n hx hb dL_law_1246 rfl (lv_at hl 3 rfl) ?_
  refine lv_iconst (v := 1) hx hb dL_law_1247 (by decide) ?_
  refine lv_iadd hx hb dL_law_1248 ?_
  refine va_sld hx hb hX hbl hbA hS (vin 1 rfl (by omega) (by omega)) dL_law_1249 ?_
  obtain ⟨r, σ2, τ2, e1, e2, R2⟩ := o_restore R0 (xs (nI i + 1).toNatClampNeg)
  refine lg_endi (lg_runV hcs C0 hR hS (c_X4_restore e1) (lw_cV 1 hts uw_452 mv_X4_restore rfl rfl hd_X4_restore ⟨Nat.le_of_ble_eq_true rfl, Nat.le_of_ble_eq_true rfl⟩) (by decide) cell_0 rfl rfl hl rfl (Nat.le_of_ble_eq_true rfl) dL_law_1250) hS (fun H locs hR hS => ?_)
  refine lv_aload_n hx hb dL_law_1253 rfl (lv_at hl 2 rfl) ?_
  refine lv_aload_n hx hb dL_law_1254 rfl (lv_at hl 0 rfl) ?_
  refine lv_iload_n hx hb dL_law_1255 rfl (lv_at hl 3 rfl) ?_
  refine lv_iconst (v := 1) hx hb dL_law_1256 (by decide) ?_
  refine lv_iadd hx hb dL_law_1257 ?_
  refine va_sld hx hb hX hbl hbA hS (vin 1 rfl (by omega) (by omega)) dL_law_1258 ?_
  refine lg_endi (lg_runV hcs C0 hR hS (c_X5_restore e2) (lw_cV 1 hts uw_799 mv_X5_restore rfl rfl hd_X5_restore ⟨Nat.le_of_ble_eq_true rfl, Nat.le_of_ble_eq_true rfl⟩) (by decide) cell_140 rfl rfl hl rfl (Nat.le_of_ble_eq_true rfl) dL_law_1259) hS (fun H locs hR hS => ?_)
  exact lv_icmp_eq (tgt := 1415) hx hb dL_law_1262 (by decide) (fun _ => kk _ _ H locs R2 hR hS) (fun h => absurd rfl h)
theorem lc_kind (hcs : cells ≤ room_1.cells ∧ slots ≤ room_1.slots) (C0 : lm_Cx D cI cZ cL cR B p s m args meth c cL_law 4 (some .boolean) RL) (hX : va_X b L xs s s.heap) (hbl : b < s.heap.size) (hbA : ¬ lm_A B b) (hl : lv_has ls 4 [(0, .ref b), (1, .ref (B + 0)), (2, .ref (B + 140)), (3, .int (nI i))]) (hi : i + 6 ≤ L) (hL : L ≤ 3072) (R0 : Rel σ τ) (hR : va_P D vwCl (wl cI cZ cL cR B σ τ) H) (hS : va_S (lm_A B) s.heap H locs) (kk : lw_N l D cI cZ cL cR B p e s m args below meth c Q cells slots ls) : W p l e room_1 s m args below meth c H locs cells slots Q (F0 m 1267 ls []) := by
  have hx := C0.1
  have hb := C0.2.1
  have hts := C0.2.2.2.2.2.2.1
  refine lv_aload_n hx hb dL_law_1267 rfl (lv_at hl 1 rfl) ?_
  refine lv_aload_n hx hb dL_law_1268 rfl (lv_at hl 0 rfl) ?_
  refine lv_iload_n hx hb dL_law_1269 rfl (lv_at hl 3 rfl) ?_
  refine lv_iconst (v := 1) hx hb dL_law_1270 (by decide) ?_
  refine lv_iadd hx hb dL_law_1271 ?_
  refine va_sld hx hb hX hbl hbA hS (vin 1 rfl (by omega) (by omega)) dL_law_1272 ?_
  obtain ⟨r, τ2, e1, e2, R2⟩ := o_kind R0 (xs (nI i + 1).toNatClampNeg)
  refine lg_endi (lg_runV hcs C0 hR hS (c_X4_kind e1) (lw_cV 1 hts uw_456 mv_X4_kind rfl rfl hd_X4_kind ⟨Nat.le_of_ble_eq_true rfl, Nat.le_of_ble_eq_true rfl⟩) (by decide) cell_0 rfl rfl hl rfl (Nat.le_of_ble_eq_true rfl) dL_law_1273) hS (fun H locs hR hS => ?_)
  refine lv_aload_n hx hb dL_law_1276 rfl (lv_at hl 2 rfl) ?_
  refine lv_aload_n hx hb dL_law_1277 rfl (lv_at hl 0 rfl) ?_
  refine lv_iload_n hx hb dL_law_1278 rfl (lv_at hl 3 rfl) ?_
  refine lv_iconst (v := 1) hx hb dL_law_1279 (by decide) ?_
  refine lv_iadd hx hb dL_law_1280 ?_
  refine va_sld hx hb hX hbl hbA hS (vin 1 rfl (by omega) (by omega)) dL_law_1281 ?_
  refine lg_endi (lg_runV hcs C0 hR hS (c_X5_kind e2) (lw_cV 1 hts uw_803 mv_X5_kind rfl rfl hd_X5_kind ⟨Nat.le_of_ble_eq_true rfl, Nat.le_of_ble_eq_true rfl⟩) (by decide) cell_140 rfl rfl hl rfl (Nat.le_of_ble_eq_true rfl) dL_law_1282) hS (fun H locs hR hS => ?_)
  exact lv_icmp_eq (tgt := 1415) hx hb dL_law_1285 (by decide) (fun _ => kk _ _ H locs R2 hR hS) (fun h => absurd rfl h)
theorem lc_as (hcs : cells ≤ room_1.cells ∧ slots ≤ room_1.slots) (C0 : lm_Cx D cI cZ cL cR B p s m args meth c cL_law 4 (some .boolean) RL) (hX : va_X b L xs s s.heap) (hbl : b < s.heap.size) (hbA : ¬ lm_A B b) (hl : lv_has ls 4 [(0, .ref b), (1, .ref (B + 0)), (2, .ref (B + 140)), (3, .int (nI i))]) (hi : i + 6 ≤ L) (hL : L ≤ 3072) (R0 : Rel σ τ) (hR : va_P D vwCl (wl cI cZ cL cR B σ τ) H) (hS : va_S (lm_A B) s.heap H locs) (kk : lw_N l D cI cZ cL cR B p e s m args below meth c Q cells slots ls) : W p l e room_1 s m args below meth c H locs cells slots Q (F0 m 1290 ls []) := by
  have hx := C0.1
  have hb := C0.2.1
  have hts := C0.2.2.2.2.2.2.1
  refine lv_aload_n hx hb dL_law_1290 rfl (lv_at hl 1 rfl) ?_
  refine lv_aload_n hx hb dL_law_1291 rfl (lv_at hl 0 rfl) ?_
  refine lv_iload_n hx hb dL_law_1292 rfl (lv_at hl 3 rfl) ?_
  refine lv_iconst (v := 1) hx hb dL_law_1293 (by decide) ?_
  refine lv_iadd hx hb dL_law_1294 ?_
  refine va_sld hx hb hX hbl hbA hS (vin 1 rfl (by omega) (by omega)) dL_law_1295 ?_
  refine lv_aload_n hx hb dL_law_1296 rfl (lv_at hl 0 rfl) ?_
  refine lv_iload_n hx hb dL_law_1297 rfl (lv_at hl 3 rfl) ?_
  refine lv_iconst (v := 2) hx hb dL_law_1298 (by decide) ?_
  refine lv_iadd hx hb dL_law_1299 ?_
  refine va_sld hx hb hX hbl hbA hS (vin 2 rfl (by omega) (by omega)) dL_law_1300 ?_
  obtain ⟨r, σ2, τ2, e1, e2, R2⟩ := o_as R0 (xs (nI i + 1).toNatClampNeg) (xs (nI i + 2).toNatClampNeg)
  refine lg_endi (lg_runV hcs C0 hR hS (c_X4_as e1) (lw_cV 2 hts uw_460 mv_X4_as rfl rfl hd_X4_as ⟨Nat.le_of_ble_eq_true rfl, Nat.le_of_ble_eq_true rfl⟩) (by decide) cell_0 rfl rfl hl rfl (Nat.le_of_ble_eq_true rfl) dL_law_1301) hS (fun H locs hR hS => ?_)
  refine lv_aload_n hx hb dL_law_1304 rfl (lv_at hl 2 rfl) ?_
  refine lv_aload_n hx hb dL_law_1305 rfl (lv_at hl 0 rfl) ?_
  refine lv_iload_n hx hb dL_law_1306 rfl (lv_at hl 3 rfl) ?_
  refine lv_iconst (v := 1) hx hb dL_law_1307 (by decide) ?_
  refine lv_iadd hx hb dL_law_1308 ?_
  refine va_sld hx hb hX hbl hbA hS (vin 1 rfl (by omega) (by omega)) dL_law_1309 ?_
  refine lv_aload_n hx hb dL_law_1310 rfl (lv_at hl 0 rfl) ?_
  refine lv_iload_n hx hb dL_law_1311 rfl (lv_at hl 3 rfl) ?_
  refine lv_iconst (v := 2) hx hb dL_law_1312 (by decide) ?_
  refine lv_iadd hx hb dL_law_1313 ?_
  refine va_sld hx hb hX hbl hbA hS (vin 2 rfl (by omega) (by omega)) dL_law_1314 ?_
  refine lg_endi (lg_runV hcs C0 hR hS (c_X5_as e2) (lw_cV 2 hts uw_807 mv_X5_as rfl rfl hd_X5_as ⟨Nat.le_of_ble_eq_true rfl, Nat.le_of_ble_eq_true rfl⟩) (by decide) cell_140 rfl rfl hl rfl (Nat.le_of_ble_eq_true rfl) dL_law_1315) hS (fun H locs hR hS => ?_)
  exact lv_icmp_eq (tgt := 1415) hx hb dL_law_1318 (by decide) (fun _ => kk _ _ H locs R2 hR hS) (fun h => absurd rfl h)
theorem lc_ask (hcs : cells ≤ room_1.cells ∧ slots ≤ room_1.slots) (C0 : lm_Cx D cI cZ cL cR B p s m args meth c cL_law 4 (some .boolean) RL) (hX : va_X b L xs s s.heap) (hbl : b < s.heap.size) (hbA : ¬ lm_A B b) (hl : lv_has ls 4 [(0, .ref b), (1, .ref (B + 0)), (2, .ref (B + 140)), (3, .int (nI i))]) (hi : i + 6 ≤ L) (hL : L ≤ 3072) (R0 : Rel σ τ) (hR : va_P D vwCl (wl cI cZ cL cR B σ τ) H) (hS : va_S (lm_A B) s.heap H locs) (kk : lw_N l D cI cZ cL cR B p e s m args below meth c Q cells slots ls) : W p l e room_1 s m args below meth c H locs cells slots Q (F0 m 1323 ls []) := by
  have hx := C0.1
  have hb := C0.2.1
  have hts := C0.2.2.2.2.2.2.1
  refine lv_aload_n hx hb dL_law_1323 rfl (lv_at hl 1 rfl) ?_
  refine lv_aload_n hx hb dL_law_1324 rfl (lv_at hl 0 rfl) ?_
  refine lv_iload_n hx hb dL_law_1325 rfl (lv_at hl 3 rfl) ?_
  refine lv_iconst (v := 1) hx hb dL_law_1326 (by decide) ?_
  refine lv_iadd hx hb dL_law_1327 ?_
  refine va_sld hx hb hX hbl hbA hS (vin 1 rfl (by omega) (by omega)) dL_law_1328 ?_
  refine lv_aload_n hx hb dL_law_1329 rfl (lv_at hl 0 rfl) ?_
  refine lv_iload_n hx hb dL_law_1330 rfl (lv_at hl 3 rfl) ?_
  refine lv_iconst (v := 2) hx hb dL_law_1331 (by decide) ?_
  refine lv_iadd hx hb dL_law_1332 ?_
  refine va_sld hx hb hX hbl hbA hS (vin 2 rfl (by omega) (by omega)) dL_law_1333 ?_
  obtain ⟨r, σ2, τ2, e1, e2, R2⟩ := o_ask R0 (xs (nI i + 1).toNatClampNeg) (xs (nI i + 2).toNatClampNeg)
  refine lg_endi (lg_runV hcs C0 hR hS (c_X4_ask e1) (lw_cV 2 hts uw_468 mv_X4_ask rfl rfl hd_X4_ask ⟨Nat.le_of_ble_eq_true rfl, Nat.le_of_ble_eq_true rfl⟩) (by decide) cell_0 rfl rfl hl rfl (Nat.le_of_ble_eq_true rfl) dL_law_1334) hS (fun H locs hR hS => ?_)
  refine lv_aload_n hx hb dL_law_1337 rfl (lv_at hl 2 rfl) ?_
  refine lv_aload_n hx hb dL_law_1338 rfl (lv_at hl 0 rfl) ?_
  refine lv_iload_n hx hb dL_law_1339 rfl (lv_at hl 3 rfl) ?_
  refine lv_iconst (v := 1) hx hb dL_law_1340 (by decide) ?_
  refine lv_iadd hx hb dL_law_1341 ?_
  refine va_sld hx hb hX hbl hbA hS (vin 1 rfl (by omega) (by omega)) dL_law_1342 ?_
  refine lv_aload_n hx hb dL_law_1343 rfl (lv_at hl 0 rfl) ?_
  refine lv_iload_n hx hb dL_law_1344 rfl (lv_at hl 3 rfl) ?_
  refine lv_iconst (v := 2) hx hb dL_law_1345 (by decide) ?_
  refine lv_iadd hx hb dL_law_1346 ?_
  refine va_sld hx hb hX hbl hbA hS (vin 2 rfl (by omega) (by omega)) dL_law_1347 ?_
  refine lg_endi (lg_runV hcs C0 hR hS (c_X5_ask e2) (lw_cV 2 hts uw_815 mv_X5_ask rfl rfl hd_X5_ask ⟨Nat.le_of_ble_eq_true rfl, Nat.le_of_ble_eq_true rfl⟩) (by decide) cell_140 rfl rfl hl rfl (Nat.le_of_ble_eq_true rfl) dL_law_1348) hS (fun H locs hR hS => ?_)
  exact lv_icmp_eq (tgt := 1415) hx hb dL_law_1351 (by decide) (fun _ => kk _ _ H locs R2 hR hS) (fun h => absurd rfl h)
theorem lc_trace (hcs : cells ≤ room_1.cells ∧ slots ≤ room_1.slots) (C0 : lm_Cx D cI cZ cL cR B p s m args meth c cL_law 4 (some .boolean) RL) (hX : va_X b L xs s s.heap) (hbl : b < s.heap.size) (hbA : ¬ lm_A B b) (hl : lv_has ls 4 [(0, .ref b), (1, .ref (B + 0)), (2, .ref (B + 140)), (3, .int (nI i))]) (hi : i + 6 ≤ L) (hL : L ≤ 3072) (R0 : Rel σ τ) (hR : va_P D vwCl (wl cI cZ cL cR B σ τ) H) (hS : va_S (lm_A B) s.heap H locs) (kk : lw_N l D cI cZ cL cR B p e s m args below meth c Q cells slots ls) : W p l e room_1 s m args below meth c H locs cells slots Q (F0 m 1356 ls []) := by
  have hx := C0.1
  have hb := C0.2.1
  have hts := C0.2.2.2.2.2.2.1
  refine lv_aload_n hx hb dL_law_1356 rfl (lv_at hl 1 rfl) ?_
  refine lv_aload_n hx hb dL_law_1357 rfl (lv_at hl 0 rfl) ?_
  refine lv_iload_n hx hb dL_law_1358 rfl (lv_at hl 3 rfl) ?_
  refine lv_iconst (v := 1) hx hb dL_law_1359 (by decide) ?_
  refine lv_iadd hx hb dL_law_1360 ?_
  refine va_sld hx hb hX hbl hbA hS (vin 1 rfl (by omega) (by omega)) dL_law_1361 ?_
  obtain ⟨r, τ2, e1, e2, R2⟩ := o_trace R0 (xs (nI i + 1).toNatClampNeg)
  refine lg_endi (lg_runV hcs C0 hR hS (c_X4_trace e1) (lw_cV 1 hts uw_483 mv_X4_trace rfl rfl hd_X4_trace ⟨Nat.le_of_ble_eq_true rfl, Nat.le_of_ble_eq_true rfl⟩) (by decide) cell_0 rfl rfl hl rfl (Nat.le_of_ble_eq_true rfl) dL_law_1362) hS (fun H locs hR hS => ?_)
  refine lv_aload_n hx hb dL_law_1365 rfl (lv_at hl 2 rfl) ?_
  refine lv_aload_n hx hb dL_law_1366 rfl (lv_at hl 0 rfl) ?_
  refine lv_iload_n hx hb dL_law_1367 rfl (lv_at hl 3 rfl) ?_
  refine lv_iconst (v := 1) hx hb dL_law_1368 (by decide) ?_
  refine lv_iadd hx hb dL_law_1369 ?_
  refine va_sld hx hb hX hbl hbA hS (vin 1 rfl (by omega) (by omega)) dL_law_1370 ?_
  refine lg_endi (lg_runV hcs C0 hR hS (c_X5_trace e2) (lw_cV 1 hts uw_834 mv_X5_trace rfl rfl hd_X5_trace ⟨Nat.le_of_ble_eq_true rfl, Nat.le_of_ble_eq_true rfl⟩) (by decide) cell_140 rfl rfl hl rfl (Nat.le_of_ble_eq_true rfl) dL_law_1371) hS (fun H locs hR hS => ?_)
  exact lv_icmp_eq (tgt := 1415) hx hb dL_law_1374 (by decide) (fun _ => kk _ _ H locs R2 hR hS) (fun h => absurd rfl h)
theorem lc_count (hcs : cells ≤ room_1.cells ∧ slots ≤ room_1.slots) (C0 : lm_Cx D cI cZ cL cR B p s m args meth c cL_law 4 (some .boolean) RL) (hX : va_X b L xs s s.heap) (hbl : b < s.heap.size) (hbA : ¬ lm_A B b) (hl : lv_has ls 4 [(0, .ref b), (1, .ref (B + 0)), (2, .ref (B + 140)), (3, .int (nI i))]) (hi : i + 6 ≤ L) (hL : L ≤ 3072) (R0 : Rel σ τ) (hR : va_P D vwCl (wl cI cZ cL cR B σ τ) H) (hS : va_S (lm_A B) s.heap H locs) (kk : lw_N l D cI cZ cL cR B p e s m args below meth c Q cells slots ls) : W p l e room_1 s m args below meth c H locs cells slots Q (F0 m 1379 ls []) := by
  have hx := C0.1
  have hb := C0.2.1
  have hts := C0.2.2.2.2.2.2.1
  refine lv_aload_n hx hb dL_law_1379 rfl (lv_at hl 1 rfl) ?_
  refine lv_aload_n hx hb dL_law_1380 rfl (lv_at hl 0 rfl) ?_
  refine lv_iload_n hx hb dL_law_1381 rfl (lv_at hl 3 rfl) ?_
  refine lv_iconst (v := 1) hx hb dL_law_1382 (by decide) ?_
  refine lv_iadd hx hb dL_law_1383 ?_
  refine va_sld hx hb hX hbl hbA hS (vin 1 rfl (by omega) (by omega)) dL_law_1384 ?_
  obtain ⟨r, τ2, e1, e2, R2⟩ := o_count R0 (xs (nI i + 1).toNatClampNeg)
  refine lg_endi (lg_runV hcs C0 hR hS (c_X4_count e1) (lw_cV 1 hts uw_487 mv_X4_count rfl rfl hd_X4_count ⟨Nat.le_of_ble_eq_true rfl, Nat.le_of_ble_eq_true rfl⟩) (by decide) cell_0 rfl rfl hl rfl (Nat.le_of_ble_eq_true rfl) dL_law_1385) hS (fun H locs hR hS => ?_)
  refine lv_aload_n hx hb dL_law_1388 rfl (lv_at hl 2 rfl) ?_
  refine lv_aload_n hx hb dL_law_1389 rfl (lv_at hl 0 rfl) ?_
  refine lv_iload_n hx hb dL_law_1390 rfl (lv_at hl 3 rfl) ?_
  refine lv_iconst (v := 1) hx hb dL_law_1391 (by decide) ?_
  refine lv_iadd hx hb dL_law_1392 ?_
  refine va_sld hx hb hX hbl hbA hS (vin 1 rfl (by omega) (by omega)) dL_law_1393 ?_
  refine lg_endi (lg_runV hcs C0 hR hS (c_X5_count e2) (lw_cV 1 hts uw_838 mv_X5_count rfl rfl hd_X5_count ⟨Nat.le_of_ble_eq_true rfl, Nat.le_of_ble_eq_true rfl⟩) (by decide) cell_140 rfl rfl hl rfl (Nat.le_of_ble_eq_true rfl) dL_law_1394) hS (fun H locs hR hS => ?_)
  exact lv_icmp_eq (tgt := 1415) hx hb dL_law_1397 (by decide) (fun _ => kk _ _ H locs R2 hR hS) (fun h => absurd rfl h)
theorem lc_status (hcs : cells ≤ room_1.cells ∧ slots ≤ room_1.slots) (C0 : lm_Cx D cI cZ cL cR B p s m args meth c cL_law 4 (some .boolean) RL) (hX : va_X b L xs s s.heap) (hbl : b < s.heap.size) (hbA : ¬ lm_A B b) (hl : lv_has ls 4 [(0, .ref b), (1, .ref (B + 0)), (2, .ref (B + 140)), (3, .int (nI i))]) (hi : i + 6 ≤ L) (hL : L ≤ 3072) (R0 : Rel σ τ) (hR : va_P D vwCl (wl cI cZ cL cR B σ τ) H) (hS : va_S (lm_A B) s.heap H locs) (kk : lw_N l D cI cZ cL cR B p e s m args below meth c Q cells slots ls) : W p l e room_1 s m args below meth c H locs cells slots Q (F0 m 1402 ls []) := by
  have hx := C0.1
  have hb := C0.2.1
  have hts := C0.2.2.2.2.2.2.1
  refine lv_aload_n hx hb dL_law_1402 rfl (lv_at hl 1 rfl) ?_
  obtain ⟨r, τ2, e1, e2, R2⟩ := o_status R0
  refine lg_endi (lg_runV hcs C0 hR hS (c_X4_status e1) (lw_cV 0 hts uw_498 mv_X4_status rfl rfl hd_X4_status ⟨Nat.le_of_ble_eq_true rfl, Nat.le_of_ble_eq_true rfl⟩) (by decide) cell_0 rfl rfl hl rfl (Nat.le_of_ble_eq_true rfl) dL_law_1403) hS (fun H locs hR hS => ?_)
  refine lv_aload_n hx hb dL_law_1406 rfl (lv_at hl 2 rfl) ?_
  refine lg_endi (lg_runV hcs C0 hR hS (c_X5_status e2) (lw_cV 0 hts uw_842 mv_X5_status rfl rfl hd_X5_status ⟨Nat.le_of_ble_eq_true rfl, Nat.le_of_ble_eq_true rfl⟩) (by decide) cell_140 rfl rfl hl rfl (Nat.le_of_ble_eq_true rfl) dL_law_1407) hS (fun H locs hR hS => ?_)
  exact lv_icmp_eq (tgt := 1415) hx hb dL_law_1410 (by decide) (fun _ => kk _ _ H locs R2 hR hS) (fun h => absurd rfl h)
end LGC
