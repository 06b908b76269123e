/-! ===== the law: a row an operation ===== -/
def St_row (RR : Hp → Hp → Prop) : Prop := ∀ (h k : Hp) (a1 a2 a3 : Int32), RR h k → ∃ (r : Int32) (h1 k1 : Hp), fX6_row a1 a2 a3 h = some (r, h1) ∧ fX7_row a1 a2 a3 k = some (r, k1) ∧ RR h1 k1
set_option maxRecDepth 100000 in
set_option maxHeartbeats 4000000 in
theorem lw_c_row {p : Program} {l : Launch} {e : Env} {s : State} {m : MethodId} {args : Array Value} {below : List Frame} {meth : Method} {c : Code} {Q : State → Prop} {g : Gx} (X : Cx p s m args c code 4 RL g) {b L : Nat} {xs : Nat → Int32} (hX : va_X b L xs s s.heap) (hbl : b < s.heap.size) (hbA : ¬ inA g b) {RR : Hp → Hp → Prop} (st : St_row RR) {h k : Hp} (hR : RR h k) {H : Heap} {locs : List Loc} {ls : Array Slot} (hP : va_P g.1 vwCl (WW g h k) H) (hS : va_S (inA g) s.heap H locs) {x3 : Int32} (i1 : vp_in (x3 + 1) L) (i2 : vp_in (x3 + 2) L) (i3 : vp_in (x3 + 3) L) (hl : lv_has ls 4 [(0, .ref b), (1, .ref (g.2.2 203)), (2, .ref (g.2.2 246)), (3, .int x3)])
    (kk : ∀ (h1 k1 : Hp) (H1 : Heap) (locs1 : List Loc), RR h1 k1 → va_P g.1 vwCl (WW g h1 k1) H1 → va_S (inA g) s.heap H1 locs1 → W p l e room_1 s m args below meth c H1 locs1 600000 7302250 Q (F0 m 1432 ls [])) : W p l e room_1 s m args below meth c H locs 600000 7302250 Q (F0 m 204 ls []) := by
  have hx := X.1
  have hb := X.2.1
  obtain ⟨r, h1, k1, hc, hm, hR1⟩ := st h k (xs (x3 + 1).toNatClampNeg) (xs (x3 + 2).toNatClampNeg) (xs (x3 + 3).toNatClampNeg) hR
  refine lv_aload_n hx hb dL_law_204 rfl (lv_at hl 1 rfl) ?_
  refine lv_aload_n hx hb dL_law_205 rfl (lv_at hl 0 rfl) ?_
  refine lv_iload_n hx hb dL_law_206 rfl (lv_at hl 3 rfl) ?_
  refine lv_iconst (v := 1) hx hb dL_law_207 (by decide) ?_
  refine lv_iadd hx hb dL_law_208 ?_
  refine va_sld hx hb hX hbl hbA hS i1 dL_law_209 ?_
  refine lv_aload_n hx hb dL_law_210 rfl (lv_at hl 0 rfl) ?_
  refine lv_iload_n hx hb dL_law_211 rfl (lv_at hl 3 rfl) ?_
  refine lv_iconst (v := 2) hx hb dL_law_212 (by decide) ?_
  refine lv_iadd hx hb dL_law_213 ?_
  refine va_sld hx hb hX hbl hbA hS i2 dL_law_214 ?_
  refine lv_aload_n hx hb dL_law_215 rfl (lv_at hl 0 rfl) ?_
  refine lv_iload_n hx hb dL_law_216 rfl (lv_at hl 3 rfl) ?_
  refine lv_iconst (v := 3) hx hb dL_law_217 (by decide) ?_
  refine lv_iadd hx hb dL_law_218 ?_
  refine va_sld hx hb hX hbl hbA hS i3 dL_law_219 ?_
  refine x_ci (x_runV (As := [.int (xs (x3 + 1).toNatClampNeg), .int (xs (x3 + 2).toNatClampNeg), .int (xs (x3 + 3).toNatClampNeg)]) (rest := []) X hP hS 203 (by decide) cl_F rfl (tX6_row l X.2.2.2.2.2.2.1 hc) mi_L_13 rfl hl.1 rfl (Nat.le_of_ble_eq_true rfl) dL_law_220 ⟨Nat.le_of_ble_eq_true rfl, Nat.le_of_ble_eq_true rfl⟩ ⟨Nat.le_of_ble_eq_true rfl, Nat.le_of_ble_eq_true rfl⟩) hS (fun H locs hP hS => ?_)
  refine lv_aload_n hx hb dL_law_223 rfl (lv_at hl 2 rfl) ?_
  refine lv_aload_n hx hb dL_law_224 rfl (lv_at hl 0 rfl) ?_
  refine lv_iload_n hx hb dL_law_225 rfl (lv_at hl 3 rfl) ?_
  refine lv_iconst (v := 1) hx hb dL_law_226 (by decide) ?_
  refine lv_iadd hx hb dL_law_227 ?_
  refine va_sld hx hb hX hbl hbA hS i1 dL_law_228 ?_
  refine lv_aload_n hx hb dL_law_229 rfl (lv_at hl 0 rfl) ?_
  refine lv_iload_n hx hb dL_law_230 rfl (lv_at hl 3 rfl) ?_
  refine lv_iconst (v := 2) hx hb dL_law_231 (by decide) ?_
  refine lv_iadd hx hb dL_law_232 ?_
  refine va_sld hx hb hX hbl hbA hS i2 dL_law_233 ?_
  refine lv_aload_n hx hb dL_law_234 rfl (lv_at hl 0 rfl) ?_
  refine lv_iload_n hx hb dL_law_235 rfl (lv_at hl 3 rfl) ?_
  refine lv_iconst (v := 3) hx hb dL_law_236 (by decide) ?_
  refine lv_iadd hx hb dL_law_237 ?_
  refine va_sld hx hb hX hbl hbA hS i3 dL_law_238 ?_
  refine x_ci (x_runV (As := [.int (xs (x3 + 1).toNatClampNeg), .int (xs (x3 + 2).toNatClampNeg), .int (xs (x3 + 3).toNatClampNeg)]) (rest := [.int r]) X hP hS 246 (by decide) cl_M rfl (tX7_row l X.2.2.2.2.2.2.1 hm) mi_L_17 rfl hl.1 rfl (Nat.le_of_ble_eq_true rfl) dL_law_239 ⟨Nat.le_of_ble_eq_true rfl, Nat.le_of_ble_eq_true rfl⟩ ⟨Nat.le_of_ble_eq_true rfl, Nat.le_of_ble_eq_true rfl⟩) hS (fun H locs hP hS => ?_)
  refine lv_icmp_eq (tgt := 1432) hx hb dL_law_242 (by decide) (fun _ => kk h1 k1 H locs hR1 hP hS) (fun q => absurd rfl q)
def St_set (RR : Hp → Hp → Prop) : Prop := ∀ (h k : Hp) (a1 a2 a3 : Int32), RR h k → ∃ (r : Int32) (h1 k1 : Hp), fX6_set a1 a2 a3 h = some (r, h1) ∧ fX7_set a1 a2 a3 k = some (r, k1) ∧ RR h1 k1
set_option maxRecDepth 100000 in
set_option maxHeartbeats 4000000 in
theorem lw_c_set {p : Program} {l : Launch} {e : Env} {s : State} {m : MethodId} {args : Array Value} {below : List Frame} {meth : Method} {c : Code} {Q : State → Prop} {g : Gx} (X : Cx p s m args c code 4 RL g) {b L : Nat} {xs : Nat → Int32} (hX : va_X b L xs s s.heap) (hbl : b < s.heap.size) (hbA : ¬ inA g b) {RR : Hp → Hp → Prop} (st : St_set RR) {h k : Hp} (hR : RR h k) {H : Heap} {locs : List Loc} {ls : Array Slot} (hP : va_P g.1 vwCl (WW g h k) H) (hS : va_S (inA g) s.heap H locs) {x3 : Int32} (i1 : vp_in (x3 + 1) L) (i2 : vp_in (x3 + 2) L) (i3 : vp_in (x3 + 3) L) (hl : lv_has ls 4 [(0, .ref b), (1, .ref (g.2.2 203)), (2, .ref (g.2.2 246)), (3, .int x3)])
    (kk : ∀ (h1 k1 : Hp) (H1 : Heap) (locs1 : List Loc), RR h1 k1 → va_P g.1 vwCl (WW g h1 k1) H1 → va_S (inA g) s.heap H1 locs1 → W p l e room_1 s m args below meth c H1 locs1 600000 7302250 Q (F0 m 1432 ls [])) : W p l e room_1 s m args below meth c H locs 600000 7302250 Q (F0 m 247 ls []) := by
  have hx := X.1
  have hb := X.2.1
  obtain ⟨r, h1, k1, hc, hm, hR1⟩ := st h k (xs (x3 + 1).toNatClampNeg) (xs (x3 + 2).toNatClampNeg) (xs (x3 + 3).toNatClampNeg) hR
  refine lv_aload_n hx hb dL_law_247 rfl (lv_at hl 1 rfl) ?_
  refine lv_aload_n hx hb dL_law_248 rfl (lv_at hl 0 rfl) ?_
  refine lv_iload_n hx hb dL_law_249 rfl (lv_at hl 3 rfl) ?_
  refine lv_iconst (v := 1) hx hb dL_law_250 (by decide) ?_
  refine lv_iadd hx hb dL_law_251 ?_
  refine va_sld hx hb hX hbl hbA hS i1 dL_law_252 ?_
  refine lv_aload_n hx hb dL_law_253 rfl (lv_at hl 0 rfl) ?_
  refine lv_iload_n hx hb dL_law_254 rfl (lv_at hl 3 rfl) ?_
  refine lv_iconst (v := 2) hx hb dL_law_255 (by decide) ?_
  refine lv_iadd hx hb dL_law_256 ?_
  refine va_sld hx hb hX hbl hbA hS i2 dL_law_257 ?_
  refine lv_aload_n hx hb dL_law_258 rfl (lv_at hl 0 rfl) ?_
  refine lv_iload_n hx hb dL_law_259 rfl (lv_at hl 3 rfl) ?_
  refine lv_iconst (v := 3) hx hb dL_law_260 (by decide) ?_
  refine lv_iadd hx hb dL_law_261 ?_
  refine va_sld hx hb hX hbl hbA hS i3 dL_law_262 ?_
  refine x_ci (x_runV (As := [.int (xs (x3 + 1).toNatClampNeg), .int (xs (x3 + 2).toNatClampNeg), .int (xs (x3 + 3).toNatClampNeg)]) (rest := []) X hP hS 203 (by decide) cl_F rfl (tX6_set l X.2.2.2.2.2.2.1 hc) mi_L_18 rfl hl.1 rfl (Nat.le_of_ble_eq_true rfl) dL_law_263 ⟨Nat.le_of_ble_eq_true rfl, Nat.le_of_ble_eq_true rfl⟩ ⟨Nat.le_of_ble_eq_true rfl, Nat.le_of_ble_eq_true rfl⟩) hS (fun H locs hP hS => ?_)
  refine lv_aload_n hx hb dL_law_266 rfl (lv_at hl 2 rfl) ?_
  refine lv_aload_n hx hb dL_law_267 rfl (lv_at hl 0 rfl) ?_
  refine lv_iload_n hx hb dL_law_268 rfl (lv_at hl 3 rfl) ?_
  refine lv_iconst (v := 1) hx hb dL_law_269 (by decide) ?_
  refine lv_iadd hx hb dL_law_270 ?_
  refine va_sld hx hb hX hbl hbA hS i1 dL_law_271 ?_
  refine lv_aload_n hx hb dL_law_272 rfl (lv_at hl 0 rfl) ?_
  refine lv_iload_n hx hb dL_law_273 rfl (lv_at hl 3 rfl) ?_
  refine lv_iconst (v := 2) hx hb dL_law_274 (by decide) ?_
  refine lv_iadd hx hb dL_law_275 ?_
  refine va_sld hx hb hX hbl hbA hS i2 dL_law_276 ?_
  refine lv_aload_n hx hb dL_law_277 rfl (lv_at hl 0 rfl) ?_
  refine lv_iload_n hx hb dL_law_278 rfl (lv_at hl 3 rfl) ?_
  refine lv_iconst (v := 3) hx hb dL_law_279 (by decide) ?_
  refine lv_iadd hx hb dL_law_280 ?_
  refine va_sld hx hb hX hbl hbA hS i3 dL_law_281 ?_
  refine x_ci (x_runV (As := [.int (xs (x3 + 1).toNatClampNeg), .int (xs (x3 + 2).toNatClampNeg), .int (xs (x3 + 3).toNatClampNeg)]) (rest := [.int r]) X hP hS 246 (by decide) cl_M rfl (tX7_set l X.2.2.2.2.2.2.1 hm) mi_L_21 rfl hl.1 rfl (Nat.le_of_ble_eq_true rfl) dL_law_282 ⟨Nat.le_of_ble_eq_true rfl, Nat.le_of_ble_eq_true rfl⟩ ⟨Nat.le_of_ble_eq_true rfl, Nat.le_of_ble_eq_true rfl⟩) hS (fun H locs hP hS => ?_)
  refine lv_icmp_eq (tgt := 1432) hx hb dL_law_285 (by decide) (fun _ => kk h1 k1 H locs hR1 hP hS) (fun q => absurd rfl q)
def St_copy (RR : Hp → Hp → Prop) : Prop := ∀ (h k : Hp) (a1 a2 a3 a4 a5 : Int32), RR h k → ∃ (r : Int32) (h1 k1 : Hp), fX6_copy a1 a2 a3 a4 a5 h = some (r, h1) ∧ fX7_copy a1 a2 a3 a4 a5 k = some (r, k1) ∧ RR h1 k1
set_option maxRecDepth 100000 in
set_option maxHeartbeats 4000000 in
theorem lw_c_copy {p : Program} {l : Launch} {e : Env} {s : State} {m : MethodId} {args : Array Value} {below : List Frame} {meth : Method} {c : Code} {Q : State → Prop} {g : Gx} (X : Cx p s m args c code 4 RL g) {b L : Nat} {xs : Nat → Int32} (hX : va_X b L xs s s.heap) (hbl : b < s.heap.size) (hbA : ¬ inA g b) {RR : Hp → Hp → Prop} (st : St_copy RR) {h k : Hp} (hR : RR h k) {H : Heap} {locs : List Loc} {ls : Array Slot} (hP : va_P g.1 vwCl (WW g h k) H) (hS : va_S (inA g) s.heap H locs) {x3 : Int32} (i1 : vp_in (x3 + 1) L) (i2 : vp_in (x3 + 2) L) (i3 : vp_in (x3 + 3) L) (i4 : vp_in (x3 + 4) L) (i5 : vp_in (x3 + 5) L) (hl : lv_has ls 4 [(0, .ref b), (1, .ref (g.2.2 203)), (2, .ref (g.2.2 246)), (3, .int x3)])
    (kk : ∀ (h1 k1 : Hp) (H1 : Heap) (locs1 : List Loc), RR h1 k1 → va_P g.1 vwCl (WW g h1 k1) H1 → va_S (inA g) s.heap H1 locs1 → W p l e room_1 s m args below meth c H1 locs1 600000 7302250 Q (F0 m 1432 ls [])) : W p l e room_1 s m args below meth c H locs 600000 7302250 Q (F0 m 290 ls []) := by
  have hx := X.1
  have hb := X.2.1
  obtain ⟨r, h1, k1, hc, hm, hR1⟩ := st h k (xs (x3 + 1).toNatClampNeg) (xs (x3 + 2).toNatClampNeg) (xs (x3 + 3).toNatClampNeg) (xs (x3 + 4).toNatClampNeg) (xs (x3 + 5).toNatClampNeg) hR
  refine lv_aload_n hx hb dL_law_290 rfl (lv_at hl 1 rfl) ?_
  refine lv_aload_n hx hb dL_law_291 rfl (lv_at hl 0 rfl) ?_
  refine lv_iload_n hx hb dL_law_292 rfl (lv_at hl 3 rfl) ?_
  refine lv_iconst (v := 1) hx hb dL_law_293 (by decide) ?_
  refine lv_iadd hx hb dL_law_294 ?_
  refine va_sld hx hb hX hbl hbA hS i1 dL_law_295 ?_
  refine lv_aload_n hx hb dL_law_296 rfl (lv_at hl 0 rfl) ?_
  refine lv_iload_n hx hb dL_law_297 rfl (lv_at hl 3 rfl) ?_
  refine lv_iconst (v := 2) hx hb dL_law_298 (by decide) ?_
  refine lv_iadd hx hb dL_law_299 ?_
  refine va_sld hx hb hX hbl hbA hS i2 dL_law_300 ?_
  refine lv_aload_n hx hb dL_law_301 rfl (lv_at hl 0 rfl) ?_
  refine lv_iload_n hx hb dL_law_302 rfl (lv_at hl 3 rfl) ?_
  refine lv_iconst (v := 3) hx hb dL_law_303 (by decide) ?_
  refine lv_iadd hx hb dL_law_304 ?_
  refine va_sld hx hb hX hbl hbA hS i3 dL_law_305 ?_
  refine lv_aload_n hx hb dL_law_306 rfl (lv_at hl 0 rfl) ?_
  refine lv_iload_n hx hb dL_law_307 rfl (lv_at hl 3 rfl) ?_
  refine lv_iconst (v := 4) hx hb dL_law_308 (by decide) ?_
  refine lv_iadd hx hb dL_law_309 ?_
  refine va_sld hx hb hX hbl hbA hS i4 dL_law_310 ?_
  refine lv_aload_n hx hb dL_law_311 rfl (lv_at hl 0 rfl) ?_
  refine lv_iload_n hx hb dL_law_312 rfl (lv_at hl 3 rfl) ?_
  refine lv_iconst (v := 5) hx hb dL_law_313 (by decide) ?_
  refine lv_iadd hx hb dL_law_314 ?_
  refine va_sld hx hb hX hbl hbA hS i5 dL_law_315 ?_
  refine x_ci (x_runV (As := [.int (xs (x3 + 1).toNatClampNeg), .int (xs (x3 + 2).toNatClampNeg), .int (xs (x3 + 3).toNatClampNeg), .int (xs (x3 + 4).toNatClampNeg), .int (xs (x3 + 5).toNatClampNeg)]) (rest := []) X hP hS 203 (by decide) cl_F rfl (tX6_copy l X.2.2.2.2.2.2.1 hc) mi_L_22 rfl hl.1 rfl (Nat.le_of_ble_eq_true rfl) dL_law_316 ⟨Nat.le_of_ble_eq_true rfl, Nat.le_of_ble_eq_true rfl⟩ ⟨Nat.le_of_ble_eq_true rfl, Nat.le_of_ble_eq_true rfl⟩) hS (fun H locs hP hS => ?_)
  refine lv_aload_n hx hb dL_law_319 rfl (lv_at hl 2 rfl) ?_
  refine lv_aload_n hx hb dL_law_320 rfl (lv_at hl 0 rfl) ?_
  refine lv_iload_n hx hb dL_law_321 rfl (lv_at hl 3 rfl) ?_
  refine lv_iconst (v := 1) hx hb dL_law_322 (by decide) ?_
  refine lv_iadd hx hb dL_law_323 ?_
  refine va_sld hx hb hX hbl hbA hS i1 dL_law_324 ?_
  refine lv_aload_n hx hb dL_law_325 rfl (lv_at hl 0 rfl) ?_
  refine lv_iload_n hx hb dL_law_326 rfl (lv_at hl 3 rfl) ?_
  refine lv_iconst (v := 2) hx hb dL_law_327 (by decide) ?_
  refine lv_iadd hx hb dL_law_328 ?_
  refine va_sld hx hb hX hbl hbA hS i2 dL_law_329 ?_
  refine lv_aload_n hx hb dL_law_330 rfl (lv_at hl 0 rfl) ?_
  refine lv_iload_n hx hb dL_law_331 rfl (lv_at hl 3 rfl) ?_
  refine lv_iconst (v := 3) hx hb dL_law_332 (by decide) ?_
  refine lv_iadd hx hb dL_law_333 ?_
  refine va_sld hx hb hX hbl hbA hS i3 dL_law_334 ?_
  refine lv_aload_n hx hb dL_law_335 rfl (lv_at hl 0 rfl) ?_
  refine lv_iload_n hx hb dL_law_336 rfl (lv_at hl 3 rfl) ?_
  refine lv_iconst (v := 4) hx hb dL_law_337 (by decide) ?_
  refine lv_iadd hx hb dL_law_338 ?_
  refine va_sld hx hb hX hbl hbA hS i4 dL_law_339 ?_
  refine lv_aload_n hx hb dL_law_340 rfl (lv_at hl 0 rfl) ?_
  refine lv_iload_n hx hb dL_law_341 rfl (lv_at hl 3 rfl) ?_
  refine lv_iconst (v := 5) hx hb dL_law_342 (by decide) ?_
  refine lv_iadd hx hb dL_law_343 ?_
  refine va_sld hx hb hX hbl hbA hS i5 dL_law_344 ?_
  refine x_ci (x_runV (As := [.int (xs (x3 + 1).toNatClampNeg), .int (xs (x3 + 2).toNatClampNeg), .int (xs (x3 + 3).toNatClampNeg), .int (xs (x3 + 4).toNatClampNeg), .int (xs (x3 + 5).toNatClampNeg)]) (rest := [.int r]) X hP hS 246 (by decide) cl_M rfl (tX7_copy l X.2.2.2.2.2.2.1 hm) mi_L_26 rfl hl.1 rfl (Nat.le_of_ble_eq_true rfl) dL_law_345 ⟨Nat.le_of_ble_eq_true rfl, Nat.le_of_ble_eq_true rfl⟩ ⟨Nat.le_of_ble_eq_true rfl, Nat.le_of_ble_eq_true rfl⟩) hS (fun H locs hP hS => ?_)
  refine lv_icmp_eq (tgt := 1432) hx hb dL_law_348 (by decide) (fun _ => kk h1 k1 H locs hR1 hP hS) (fun q => absurd rfl q)
def St_drop (RR : Hp → Hp → Prop) : Prop := ∀ (h k : Hp) (a1 : Int32), RR h k → ∃ (r : Int32) (h1 k1 : Hp), fX6_drop a1 h = some (r, h1) ∧ fX7_drop a1 k = some (r, k1) ∧ RR h1 k1
set_option maxRecDepth 100000 in
set_option maxHeartbeats 4000000 in
theorem lw_c_drop {p : Program} {l : Launch} {e : Env} {s : State} {m : MethodId} {args : Array Value} {below : List Frame} {meth : Method} {c : Code} {Q : State → Prop} {g : Gx} (X : Cx p s m args c code 4 RL g) {b L : Nat} {xs : Nat → Int32} (hX : va_X b L xs s s.heap) (hbl : b < s.heap.size) (hbA : ¬ inA g b) {RR : Hp → Hp → Prop} (st : St_drop RR) {h k : Hp} (hR : RR h k) {H : Heap} {locs : List Loc} {ls : Array Slot} (hP : va_P g.1 vwCl (WW g h k) H) (hS : va_S (inA g) s.heap H locs) {x3 : Int32} (i1 : vp_in (x3 + 1) L) (hl : lv_has ls 4 [(0, .ref b), (1, .ref (g.2.2 203)), (2, .ref (g.2.2 246)), (3, .int x3)])
    (kk : ∀ (h1 k1 : Hp) (H1 : Heap) (locs1 : List Loc), RR h1 k1 → va_P g.1 vwCl (WW g h1 k1) H1 → va_S (inA g) s.heap H1 locs1 → W p l e room_1 s m args below meth c H1 locs1 600000 7302250 Q (F0 m 1432 ls [])) : W p l e room_1 s m args below meth c H locs 600000 7302250 Q (F0 m 353 ls []) := by
  have hx := X.1
  have hb := X.2.1
  obtain ⟨r, h1, k1, hc, hm, hR1⟩ := st h k (xs (x3 + 1).toNatClampNeg) hR
  refine lv_aload_n hx hb dL_law_353 rfl (lv_at hl 1 rfl) ?_
  refine lv_aload_n hx hb dL_law_354 rfl (lv_at hl 0 rfl) ?_
  refine lv_iload_n hx hb dL_law_355 rfl (lv_at hl 3 rfl) ?_
  refine lv_iconst (v := 1) hx hb dL_law_356 (by decide) ?_
  refine lv_iadd hx hb dL_law_357 ?_
  refine va_sld hx hb hX hbl hbA hS i1 dL_law_358 ?_
  refine x_ci (x_runV (As := [.int (xs (x3 + 1).toNatClampNeg)]) (rest := []) X hP hS 203 (by decide) cl_F rfl (tX6_drop l X.2.2.2.2.2.2.1 hc) mi_L_27 rfl hl.1 rfl (Nat.le_of_ble_eq_true rfl) dL_law_359 ⟨Nat.le_of_ble_eq_true rfl, Nat.le_of_ble_eq_true rfl⟩ ⟨Nat.le_of_ble_eq_true rfl, Nat.le_of_ble_eq_true rfl⟩) hS (fun H locs hP hS => ?_)
  refine lv_aload_n hx hb dL_law_362 rfl (lv_at hl 2 rfl) ?_
  refine lv_aload_n hx hb dL_law_363 rfl (lv_at hl 0 rfl) ?_
  refine lv_iload_n hx hb dL_law_364 rfl (lv_at hl 3 rfl) ?_
  refine lv_iconst (v := 1) hx hb dL_law_365 (by decide) ?_
  refine lv_iadd hx hb dL_law_366 ?_
  refine va_sld hx hb hX hbl hbA hS i1 dL_law_367 ?_
  refine x_ci (x_runV (As := [.int (xs (x3 + 1).toNatClampNeg)]) (rest := [.int r]) X hP hS 246 (by decide) cl_M rfl (tX7_drop l X.2.2.2.2.2.2.1 hm) mi_L_31 rfl hl.1 rfl (Nat.le_of_ble_eq_true rfl) dL_law_368 ⟨Nat.le_of_ble_eq_true rfl, Nat.le_of_ble_eq_true rfl⟩ ⟨Nat.le_of_ble_eq_true rfl, Nat.le_of_ble_eq_true rfl⟩) hS (fun H locs hP hS => ?_)
  refine lv_icmp_eq (tgt := 1432) hx hb dL_law_371 (by decide) (fun _ => kk h1 k1 H locs hR1 hP hS) (fun q => absurd rfl q)
def St_feed (RR : Hp → Hp → Prop) : Prop := ∀ (h k : Hp) (a1 : Int32), RR h k → ∃ (r : Int32) (h1 k1 : Hp), fX6_feed a1 h = some (r, h1) ∧ fX7_feed a1 k = some (r, k1) ∧ RR h1 k1
set_option maxRecDepth 100000 in
set_option maxHeartbeats 4000000 in
theorem lw_c_feed {p : Program} {l : Launch} {e : Env} {s : State} {m : MethodId} {args : Array Value} {below : List Frame} {meth : Method} {c : Code} {Q : State → Prop} {g : Gx} (X : Cx p s m args c code 4 RL g) {b L : Nat} {xs : Nat → Int32} (hX : va_X b L xs s s.heap) (hbl : b < s.heap.size) (hbA : ¬ inA g b) {RR : Hp → Hp → Prop} (st : St_feed RR) {h k : Hp} (hR : RR h k) {H : Heap} {locs : List Loc} {ls : Array Slot} (hP : va_P g.1 vwCl (WW g h k) H) (hS : va_S (inA g) s.heap H locs) {x3 : Int32} (i1 : vp_in (x3 + 1) L) (hl : lv_has ls 4 [(0, .ref b), (1, .ref (g.2.2 203)), (2, .ref (g.2.2 246)), (3, .int x3)])
    (kk : ∀ (h1 k1 : Hp) (H1 : Heap) (locs1 : List Loc), RR h1 k1 → va_P g.1 vwCl (WW g h1 k1) H1 → va_S (inA g) s.heap H1 locs1 → W p l e room_1 s m args below meth c H1 locs1 600000 7302250 Q (F0 m 1432 ls [])) : W p l e room_1 s m args below meth c H locs 600000 7302250 Q (F0 m 376 ls []) := by
  have hx := X.1
  have hb := X.2.1
  obtain ⟨r, h1, k1, hc, hm, hR1⟩ := st h k (xs (x3 + 1).toNatClampNeg) hR
  refine lv_aload_n hx hb dL_law_376 rfl (lv_at hl 1 rfl) ?_
  refine lv_aload_n hx hb dL_law_377 rfl (lv_at hl 0 rfl) ?_
  refine lv_iload_n hx hb dL_law_378 rfl (lv_at hl 3 rfl) ?_
  refine lv_iconst (v := 1) hx hb dL_law_379 (by decide) ?_
  refine lv_iadd hx hb dL_law_380 ?_
  refine va_sld hx hb hX hbl hbA hS i1 dL_law_381 ?_
  refine x_ci (x_runV (As := [.int (xs (x3 + 1).toNatClampNeg)]) (rest := []) X hP hS 203 (by decide) cl_F rfl (tX6_feed l X.2.2.2.2.2.2.1 hc) mi_L_32 rfl hl.1 rfl (Nat.le_of_ble_eq_true rfl) dL_law_382 ⟨Nat.le_of_ble_eq_true rfl, Nat.le_of_ble_eq_true rfl⟩ ⟨Nat.le_of_ble_eq_true rfl, Nat.le_of_ble_eq_true rfl⟩) hS (fun H locs hP hS => ?_)
  refine lv_aload_n hx hb dL_law_385 rfl (lv_at hl 2 rfl) ?_
  refine lv_aload_n hx hb dL_law_386 rfl (lv_at hl 0 rfl) ?_
  refine lv_iload_n hx hb dL_law_387 rfl (lv_at hl 3 rfl) ?_
  refine lv_iconst (v := 1) hx hb dL_law_388 (by decide) ?_
  refine lv_iadd hx hb dL_law_389 ?_
  refine va_sld hx hb hX hbl hbA hS i1 dL_law_390 ?_
  refine x_ci (x_runV (As := [.int (xs (x3 + 1).toNatClampNeg)]) (rest := [.int r]) X hP hS 246 (by decide) cl_M rfl (tX7_feed l X.2.2.2.2.2.2.1 hm) mi_L_35 rfl hl.1 rfl (Nat.le_of_ble_eq_true rfl) dL_law_391 ⟨Nat.le_of_ble_eq_true rfl, Nat.le_of_ble_eq_true rfl⟩ ⟨Nat.le_of_ble_eq_true rfl, Nat.le_of_ble_eq_true rfl⟩) hS (fun H locs hP hS => ?_)
  refine lv_icmp_eq (tgt := 1432) hx hb dL_law_394 (by decide) (fun _ => kk h1 k1 H locs hR1 hP hS) (fun q => absurd rfl q)
def St_estuary (RR : Hp → Hp → Prop) : Prop := ∀ (h k : Hp), RR h k → ∃ (r : Int32) (h1 k1 : Hp), fX6_estuary  h = some (r, h1) ∧ fX7_estuary  k = some (r, k1) ∧ RR h1 k1
set_option maxRecDepth 100000 in
set_option maxHeartbeats 4000000 in
theorem lw_c_estuary {p : Program} {l : Launch} {e : Env} {s : State} {m : MethodId} {args : Array Value} {below : List Frame} {meth : Method} {c : Code} {Q : State → Prop} {g : Gx} (X : Cx p s m args c code 4 RL g) {b L : Nat} {xs : Nat → Int32} (hX : va_X b L xs s s.heap) (hbl : b < s.heap.size) (hbA : ¬ inA g b) {RR : Hp → Hp → Prop} (st : St_estuary RR) {h k : Hp} (hR : RR h k) {H : Heap} {locs : List Loc} {ls : Array Slot} (hP : va_P g.1 vwCl (WW g h k) H) (hS : va_S (inA g) s.heap H locs) {x3 : Int32} (hl : lv_has ls 4 [(0, .ref b), (1, .ref (g.2.2 203)), (2, .ref (g.2.2 246)), (3, .int x3)])
    (kk : ∀ (h1 k1 : Hp) (H1 : Heap) (locs1 : List Loc), RR h1 k1 → va_P g.1 vwCl (WW g h1 k1) H1 → va_S (inA g) s.heap H1 locs1 → W p l e room_1 s m args below meth c H1 locs1 600000 7302250 Q (F0 m 1432 ls [])) : W p l e room_1 s m args below meth c H locs 600000 7302250 Q (F0 m 399 ls []) := by
  have hx := X.1
  have hb := X.2.1
  obtain ⟨r, h1, k1, hc, hm, hR1⟩ := st h k  hR
  refine lv_aload_n hx hb dL_law_399 rfl (lv_at hl 1 rfl) ?_
  refine x_ci (x_runV (As := []) (rest := []) X hP hS 203 (by decide) cl_F rfl (tX6_estuary l X.2.2.2.2.2.2.1 hc) mi_L_36 rfl hl.1 rfl (Nat.le_of_ble_eq_true rfl) dL_law_400 ⟨Nat.le_of_ble_eq_true rfl, Nat.le_of_ble_eq_true rfl⟩ ⟨Nat.le_of_ble_eq_true rfl, Nat.le_of_ble_eq_true rfl⟩) hS (fun H locs hP hS => ?_)
  refine lv_aload_n hx hb dL_law_403 rfl (lv_at hl 2 rfl) ?_
  refine x_ci (x_runV (As := []) (rest := [.int r]) X hP hS 246 (by decide) cl_M rfl (tX7_estuary l X.2.2.2.2.2.2.1 hm) mi_L_40 rfl hl.1 rfl (Nat.le_of_ble_eq_true rfl) dL_law_404 ⟨Nat.le_of_ble_eq_true rfl, Nat.le_of_ble_eq_true rfl⟩ ⟨Nat.le_of_ble_eq_true rfl, Nat.le_of_ble_eq_true rfl⟩) hS (fun H locs hP hS => ?_)
  refine lv_icmp_eq (tgt := 1432) hx hb dL_law_407 (by decide) (fun _ => kk h1 k1 H locs hR1 hP hS) (fun q => absurd rfl q)
def St_fault (RR : Hp → Hp → Prop) : Prop := ∀ (h k : Hp), RR h k → ∃ (r : Int32) (h1 k1 : Hp), fX6_fault  h = some (r, h1) ∧ fX7_fault  k = some (r, k1) ∧ RR h1 k1
set_option maxRecDepth 100000 in
set_option maxHeartbeats 4000000 in
theorem lw_c_fault {p : Program} {l : Launch} {e : Env} {s : State} {m : MethodId} {args : Array Value} {below : List Frame} {meth : Method} {c : Code} {Q : State → Prop} {g : Gx} (X : Cx p s m args c code 4 RL g) {b L : Nat} {xs : Nat → Int32} (hX : va_X b L xs s s.heap) (hbl : b < s.heap.size) (hbA : ¬ inA g b) {RR : Hp → Hp → Prop} (st : St_fault RR) {h k : Hp} (hR : RR h k) {H : Heap} {locs : List Loc} {ls : Array Slot} (hP : va_P g.1 vwCl (WW g h k) H) (hS : va_S (inA g) s.heap H locs) {x3 : Int32} (hl : lv_has ls 4 [(0, .ref b), (1, .ref (g.2.2 203)), (2, .ref (g.2.2 246)), (3, .int x3)])
    (kk : ∀ (h1 k1 : Hp) (H1 : Heap) (locs1 : List Loc), RR h1 k1 → va_P g.1 vwCl (WW g h1 k1) H1 → va_S (inA g) s.heap H1 locs1 → W p l e room_1 s m args below meth c H1 locs1 600000 7302250 Q (F0 m 1432 ls [])) : W p l e room_1 s m args below meth c H locs 600000 7302250 Q (F0 m 412 ls []) := by
  have hx := X.1
  have hb := X.2.1
  obtain ⟨r, h1, k1, hc, hm, hR1⟩ := st h k  hR
  refine lv_aload_n hx hb dL_law_412 rfl (lv_at hl 1 rfl) ?_
  refine x_ci (x_runV (As := []) (rest := []) X hP hS 203 (by decide) cl_F rfl (tX6_fault l X.2.2.2.2.2.2.1 hc) mi_L_41 rfl hl.1 rfl (Nat.le_of_ble_eq_true rfl) dL_law_413 ⟨Nat.le_of_ble_eq_true rfl, Nat.le_of_ble_eq_true rfl⟩ ⟨Nat.le_of_ble_eq_true rfl, Nat.le_of_ble_eq_true rfl⟩) hS (fun H locs hP hS => ?_)
  refine lv_aload_n hx hb dL_law_416 rfl (lv_at hl 2 rfl) ?_
  refine x_ci (x_runV (As := []) (rest := [.int r]) X hP hS 246 (by decide) cl_M rfl (tX7_fault l X.2.2.2.2.2.2.1 hm) mi_L_44 rfl hl.1 rfl (Nat.le_of_ble_eq_true rfl) dL_law_417 ⟨Nat.le_of_ble_eq_true rfl, Nat.le_of_ble_eq_true rfl⟩ ⟨Nat.le_of_ble_eq_true rfl, Nat.le_of_ble_eq_true rfl⟩) hS (fun H locs hP hS => ?_)
  refine lv_icmp_eq (tgt := 1432) hx hb dL_law_420 (by decide) (fun _ => kk h1 k1 H locs hR1 hP hS) (fun q => absurd rfl q)
def St_undo (RR : Hp → Hp → Prop) : Prop := ∀ (h k : Hp), RR h k → ∃ (r : Int32) (h1 k1 : Hp), fX6_undo  h = some (r, h1) ∧ fX7_undo  k = some (r, k1) ∧ RR h1 k1
set_option maxRecDepth 100000 in
set_option maxHeartbeats 4000000 in
theorem lw_c_undo {p : Program} {l : Launch} {e : Env} {s : State} {m : MethodId} {args : Array Value} {below : List Frame} {meth : Method} {c : Code} {Q : State → Prop} {g : Gx} (X : Cx p s m args c code 4 RL g) {b L : Nat} {xs : Nat → Int32} (hX : va_X b L xs s s.heap) (hbl : b < s.heap.size) (hbA : ¬ inA g b) {RR : Hp → Hp → Prop} (st : St_undo RR) {h k : Hp} (hR : RR h k) {H : Heap} {locs : List Loc} {ls : Array Slot} (hP : va_P g.1 vwCl (WW g h k) H) (hS : va_S (inA g) s.heap H locs) {x3 : Int32} (hl : lv_has ls 4 [(0, .ref b), (1, .ref (g.2.2 203)), (2, .ref (g.2.2 246)), (3, .int x3)])
    (kk : ∀ (h1 k1 : Hp) (H1 : Heap) (locs1 : List Loc), RR h1 k1 → va_P g.1 vwCl (WW g h1 k1) H1 → va_S (inA g) s.heap H1 locs1 → W p l e room_1 s m args below meth c H1 locs1 600000 7302250 Q (F0 m 1432 ls [])) : W p l e room_1 s m args below meth c H locs 600000 7302250 Q (F0 m 425 ls []) := by
  have hx := X.1
  have hb := X.2.1
  obtain ⟨r, h1, k1, hc, hm, hR1⟩ := st h k  hR
  refine lv_aload_n hx hb dL_law_425 rfl (lv_at hl 1 rfl) ?_
  refine x_ci (x_runV (As := []) (rest := []) X hP hS 203 (by decide) cl_F rfl (tX6_undo l X.2.2.2.2.2.2.1 hc) mi_L_45 rfl hl.1 rfl (Nat.le_of_ble_eq_true rfl) dL_law_426 ⟨Nat.le_of_ble_eq_true rfl, Nat.le_of_ble_eq_true rfl⟩ ⟨Nat.le_of_ble_eq_true rfl, Nat.le_of_ble_eq_true rfl⟩) hS (fun H locs hP hS => ?_)
  refine lv_aload_n hx hb dL_law_429 rfl (lv_at hl 2 rfl) ?_
  refine x_ci (x_runV (As := []) (rest := [.int r]) X hP hS 246 (by decide) cl_M rfl (tX7_undo l X.2.2.2.2.2.2.1 hm) mi_L_48 rfl hl.1 rfl (Nat.le_of_ble_eq_true rfl) dL_law_430 ⟨Nat.le_of_ble_eq_true rfl, Nat.le_of_ble_eq_true rfl⟩ ⟨Nat.le_of_ble_eq_true rfl, Nat.le_of_ble_eq_true rfl⟩) hS (fun H locs hP hS => ?_)
  refine lv_icmp_eq (tgt := 1432) hx hb dL_law_433 (by decide) (fun _ => kk h1 k1 H locs hR1 hP hS) (fun q => absurd rfl q)
def St_hours (RR : Hp → Hp → Prop) : Prop := ∀ (h k : Hp) (a1 : Int32), RR h k → ∃ (r : Int32) (h1 k1 : Hp), fX6_hours a1 h = some (r, h1) ∧ fX7_hours a1 k = some (r, k1) ∧ RR h1 k1
set_option maxRecDepth 100000 in
set_option maxHeartbeats 4000000 in
theorem lw_c_hours {p : Program} {l : Launch} {e : Env} {s : State} {m : MethodId} {args : Array Value} {below : List Frame} {meth : Method} {c : Code} {Q : State → Prop} {g : Gx} (X : Cx p s m args c code 4 RL g) {b L : Nat} {xs : Nat → Int32} (hX : va_X b L xs s s.heap) (hbl : b < s.heap.size) (hbA : ¬ inA g b) {RR : Hp → Hp → Prop} (st : St_hours RR) {h k : Hp} (hR : RR h k) {H : Heap} {locs : List Loc} {ls : Array Slot} (hP : va_P g.1 vwCl (WW g h k) H) (hS : va_S (inA g) s.heap H locs) {x3 : Int32} (i1 : vp_in (x3 + 1) L) (hl : lv_has ls 4 [(0, .ref b), (1, .ref (g.2.2 203)), (2, .ref (g.2.2 246)), (3, .int x3)])
    (kk : ∀ (h1 k1 : Hp) (H1 : Heap) (locs1 : List Loc), RR h1 k1 → va_P g.1 vwCl (WW g h1 k1) H1 → va_S (inA g) s.heap H1 locs1 → W p l e room_1 s m args below meth c H1 locs1 600000 7302250 Q (F0 m 1432 ls [])) : W p l e room_1 s m args below meth c H locs 600000 7302250 Q (F0 m 438 ls []) := by
  have hx := X.1
  have hb := X.2.1
  obtain ⟨r, h1, k1, hc, hm, hR1⟩ := st h k (xs (x3 + 1).toNatClampNeg) hR
  refine lv_aload_n hx hb dL_law_438 rfl (lv_at hl 1 rfl) ?_
  refine lv_aload_n hx hb dL_law_439 rfl (lv_at hl 0 rfl) ?_
  refine lv_iload_n hx hb dL_law_440 rfl (lv_at hl 3 rfl) ?_
  refine lv_iconst (v := 1) hx hb dL_law_441 (by decide) ?_
  refine lv_iadd hx hb dL_law_442 ?_
  refine va_sld hx hb hX hbl hbA hS i1 dL_law_443 ?_
  refine x_ci (x_runV (As := [.int (xs (x3 + 1).toNatClampNeg)]) (rest := []) X hP hS 203 (by decide) cl_F rfl (tX6_hours l X.2.2.2.2.2.2.1 hc) mi_L_49 rfl hl.1 rfl (Nat.le_of_ble_eq_true rfl) dL_law_444 ⟨Nat.le_of_ble_eq_true rfl, Nat.le_of_ble_eq_true rfl⟩ ⟨Nat.le_of_ble_eq_true rfl, Nat.le_of_ble_eq_true rfl⟩) hS (fun H locs hP hS => ?_)
  refine lv_aload_n hx hb dL_law_447 rfl (lv_at hl 2 rfl) ?_
  refine lv_aload_n hx hb dL_law_448 rfl (lv_at hl 0 rfl) ?_
  refine lv_iload_n hx hb dL_law_449 rfl (lv_at hl 3 rfl) ?_
  refine lv_iconst (v := 1) hx hb dL_law_450 (by decide) ?_
  refine lv_iadd hx hb dL_law_451 ?_
  refine va_sld hx hb hX hbl hbA hS i1 dL_law_452 ?_
  refine x_ci (x_runV (As := [.int (xs (x3 + 1).toNatClampNeg)]) (rest := [.int r]) X hP hS 246 (by decide) cl_M rfl (tX7_hours l X.2.2.2.2.2.2.1 hm) mi_L_52 rfl hl.1 rfl (Nat.le_of_ble_eq_true rfl) dL_law_453 ⟨Nat.le_of_ble_eq_true rfl, Nat.le_of_ble_eq_true rfl⟩ ⟨Nat.le_of_ble_eq_true rfl, Nat.le_of_ble_eq_true rfl⟩) hS (fun H locs hP hS => ?_)
  refine lv_icmp_eq (tgt := 1432) hx hb dL_law_456 (by decide) (fun _ => kk h1 k1 H locs hR1 hP hS) (fun q => absurd rfl q)
def St_step (RR : Hp → Hp → Prop) : Prop := ∀ (h k : Hp) (a1 : Int32), RR h k → ∃ (r : Int32) (h1 k1 : Hp), fX6_step a1 h = some (r, h1) ∧ fX7_step a1 k = some (r, k1) ∧ RR h1 k1
set_option maxRecDepth 100000 in
set_option maxHeartbeats 4000000 in
theorem lw_c_step {p : Program} {l : Launch} {e : Env} {s : State} {m : MethodId} {args : Array Value} {below : List Frame} {meth : Method} {c : Code} {Q : State → Prop} {g : Gx} (X : Cx p s m args c code 4 RL g) {b L : Nat} {xs : Nat → Int32} (hX : va_X b L xs s s.heap) (hbl : b < s.heap.size) (hbA : ¬ inA g b) {RR : Hp → Hp → Prop} (st : St_step RR) {h k : Hp} (hR : RR h k) {H : Heap} {locs : List Loc} {ls : Array Slot} (hP : va_P g.1 vwCl (WW g h k) H) (hS : va_S (inA g) s.heap H locs) {x3 : Int32} (i1 : vp_in (x3 + 1) L) (hl : lv_has ls 4 [(0, .ref b), (1, .ref (g.2.2 203)), (2, .ref (g.2.2 246)), (3, .int x3)])
    (kk : ∀ (h1 k1 : Hp) (H1 : Heap) (locs1 : List Loc), RR h1 k1 → va_P g.1 vwCl (WW g h1 k1) H1 → va_S (inA g) s.heap H1 locs1 → W p l e room_1 s m args below meth c H1 locs1 600000 7302250 Q (F0 m 1432 ls [])) : W p l e room_1 s m args below meth c H locs 600000 7302250 Q (F0 m 461 ls []) := by
  have hx := X.1
  have hb := X.2.1
  obtain ⟨r, h1, k1, hc, hm, hR1⟩ := st h k (xs (x3 + 1).toNatClampNeg) hR
  refine lv_aload_n hx hb dL_law_461 rfl (lv_at hl 1 rfl) ?_
  refine lv_aload_n hx hb dL_law_462 rfl (lv_at hl 0 rfl) ?_
  refine lv_iload_n hx hb dL_law_463 rfl (lv_at hl 3 rfl) ?_
  refine lv_iconst (v := 1) hx hb dL_law_464 (by decide) ?_
  refine lv_iadd hx hb dL_law_465 ?_
  refine va_sld hx hb hX hbl hbA hS i1 dL_law_466 ?_
  refine x_ci (x_runV (As := [.int (xs (x3 + 1).toNatClampNeg)]) (rest := []) X hP hS 203 (by decide) cl_F rfl (tX6_step l X.2.2.2.2.2.2.1 hc) mi_L_53 rfl hl.1 rfl (Nat.le_of_ble_eq_true rfl) dL_law_467 ⟨Nat.le_of_ble_eq_true rfl, Nat.le_of_ble_eq_true rfl⟩ ⟨Nat.le_of_ble_eq_true rfl, Nat.le_of_ble_eq_true rfl⟩) hS (fun H locs hP hS => ?_)
  refine lv_aload_n hx hb dL_law_470 rfl (lv_at hl 2 rfl) ?_
  refine lv_aload_n hx hb dL_law_471 rfl (lv_at hl 0 rfl) ?_
  refine lv_iload_n hx hb dL_law_472 rfl (lv_at hl 3 rfl) ?_
  refine lv_iconst (v := 1) hx hb dL_law_473 (by decide) ?_
  refine lv_iadd hx hb dL_law_474 ?_
  refine va_sld hx hb hX hbl hbA hS i1 dL_law_475 ?_
  refine x_ci (x_runV (As := [.int (xs (x3 + 1).toNatClampNeg)]) (rest := [.int r]) X hP hS 246 (by decide) cl_M rfl (tX7_step l X.2.2.2.2.2.2.1 hm) mi_L_56 rfl hl.1 rfl (Nat.le_of_ble_eq_true rfl) dL_law_476 ⟨Nat.le_of_ble_eq_true rfl, Nat.le_of_ble_eq_true rfl⟩ ⟨Nat.le_of_ble_eq_true rfl, Nat.le_of_ble_eq_true rfl⟩) hS (fun H locs hP hS => ?_)
  refine lv_icmp_eq (tgt := 1432) hx hb dL_law_479 (by decide) (fun _ => kk h1 k1 H locs hR1 hP hS) (fun q => absurd rfl q)
def St_wind (RR : Hp → Hp → Prop) : Prop := ∀ (h k : Hp) (a1 a2 : Int32), RR h k → ∃ (r : Int32) (h1 k1 : Hp), fX6_wind a1 a2 h = some (r, h1) ∧ fX7_wind a1 a2 k = some (r, k1) ∧ RR h1 k1
set_option maxRecDepth 100000 in
set_option maxHeartbeats 4000000 in
theorem lw_c_wind {p : Program} {l : Launch} {e : Env} {s : State} {m : MethodId} {args : Array Value} {below : List Frame} {meth : Method} {c : Code} {Q : State → Prop} {g : Gx} (X : Cx p s m args c code 4 RL g) {b L : Nat} {xs : Nat → Int32} (hX : va_X b L xs s s.heap) (hbl : b < s.heap.size) (hbA : ¬ inA g b) {RR : Hp → Hp → Prop} (st : St_wind RR) {h k : Hp} (hR : RR h k) {H : Heap} {locs : List Loc} {ls : Array Slot} (hP : va_P g.1 vwCl (WW g h k) H) (hS : va_S (inA g) s.heap H locs) {x3 : Int32} (i1 : vp_in (x3 + 1) L) (i2 : vp_in (x3 + 2) L) (hl : lv_has ls 4 [(0, .ref b), (1, .ref (g.2.2 203)), (2, .ref (g.2.2 246)), (3, .int x3)])
    (kk : ∀ (h1 k1 : Hp) (H1 : Heap) (locs1 : List Loc), RR h1 k1 → va_P g.1 vwCl (WW g h1 k1) H1 → va_S (inA g) s.heap H1 locs1 → W p l e room_1 s m args below meth c H1 locs1 600000 7302250 Q (F0 m 1432 ls [])) : W p l e room_1 s m args below meth c H locs 600000 7302250 Q (F0 m 484 ls []) := by
  have hx := X.1
  have hb := X.2.1
  obtain ⟨r, h1, k1, hc, hm, hR1⟩ := st h k (xs (x3 + 1).toNatClampNeg) (xs (x3 + 2).toNatClampNeg) hR
  refine lv_aload_n hx hb dL_law_484 rfl (lv_at hl 1 rfl) ?_
  refine lv_aload_n hx hb dL_law_485 rfl (lv_at hl 0 rfl) ?_
  refine lv_iload_n hx hb dL_law_486 rfl (lv_at hl 3 rfl) ?_
  refine lv_iconst (v := 1) hx hb dL_law_487 (by decide) ?_
  refine lv_iadd hx hb dL_law_488 ?_
  refine va_sld hx hb hX hbl hbA hS i1 dL_law_489 ?_
  refine lv_aload_n hx hb dL_law_490 rfl (lv_at hl 0 rfl) ?_
  refine lv_iload_n hx hb dL_law_491 rfl (lv_at hl 3 rfl) ?_
  refine lv_iconst (v := 2) hx hb dL_law_492 (by decide) ?_
  refine lv_iadd hx hb dL_law_493 ?_
  refine va_sld hx hb hX hbl hbA hS i2 dL_law_494 ?_
  refine x_ci (x_runV (As := [.int (xs (x3 + 1).toNatClampNeg), .int (xs (x3 + 2).toNatClampNeg)]) (rest := []) X hP hS 203 (by decide) cl_F rfl (tX6_wind l X.2.2.2.2.2.2.1 hc) mi_L_57 rfl hl.1 rfl (Nat.le_of_ble_eq_true rfl) dL_law_495 ⟨Nat.le_of_ble_eq_true rfl, Nat.le_of_ble_eq_true rfl⟩ ⟨Nat.le_of_ble_eq_true rfl, Nat.le_of_ble_eq_true rfl⟩) hS (fun H locs hP hS => ?_)
  refine lv_aload_n hx hb dL_law_498 rfl (lv_at hl 2 rfl) ?_
  refine lv_aload_n hx hb dL_law_499 rfl (lv_at hl 0 rfl) ?_
  refine lv_iload_n hx hb dL_law_500 rfl (lv_at hl 3 rfl) ?_
  refine lv_iconst (v := 1) hx hb dL_law_501 (by decide) ?_
  refine lv_iadd hx hb dL_law_502 ?_
  refine va_sld hx hb hX hbl hbA hS i1 dL_law_503 ?_
  refine lv_aload_n hx hb dL_law_504 rfl (lv_at hl 0 rfl) ?_
  refine lv_iload_n hx hb dL_law_505 rfl (lv_at hl 3 rfl) ?_
  refine lv_iconst (v := 2) hx hb dL_law_506 (by decide) ?_
  refine lv_iadd hx hb dL_law_507 ?_
  refine va_sld hx hb hX hbl hbA hS i2 dL_law_508 ?_
  refine x_ci (x_runV (As := [.int (xs (x3 + 1).toNatClampNeg), .int (xs (x3 + 2).toNatClampNeg)]) (rest := [.int r]) X hP hS 246 (by decide) cl_M rfl (tX7_wind l X.2.2.2.2.2.2.1 hm) mi_L_61 rfl hl.1 rfl (Nat.le_of_ble_eq_true rfl) dL_law_509 ⟨Nat.le_of_ble_eq_true rfl, Nat.le_of_ble_eq_true rfl⟩ ⟨Nat.le_of_ble_eq_true rfl, Nat.le_of_ble_eq_true rfl⟩) hS (fun H locs hP hS => ?_)
  refine lv_icmp_eq (tgt := 1432) hx hb dL_law_512 (by decide) (fun _ => kk h1 k1 H locs hR1 hP hS) (fun q => absurd rfl q)
def St_wake (RR : Hp → Hp → Prop) : Prop := ∀ (h k : Hp) (a1 : Int32), RR h k → ∃ (r : Int32) (h1 k1 : Hp), fX6_wake a1 h = some (r, h1) ∧ fX7_wake a1 k = some (r, k1) ∧ RR h1 k1
set_option maxRecDepth 100000 in
set_option maxHeartbeats 4000000 in
theorem lw_c_wake {p : Program} {l : Launch} {e : Env} {s : State} {m : MethodId} {args : Array Value} {below : List Frame} {meth : Method} {c : Code} {Q : State → Prop} {g : Gx} (X : Cx p s m args c code 4 RL g) {b L : Nat} {xs : Nat → Int32} (hX : va_X b L xs s s.heap) (hbl : b < s.heap.size) (hbA : ¬ inA g b) {RR : Hp → Hp → Prop} (st : St_wake RR) {h k : Hp} (hR : RR h k) {H : Heap} {locs : List Loc} {ls : Array Slot} (hP : va_P g.1 vwCl (WW g h k) H) (hS : va_S (inA g) s.heap H locs) {x3 : Int32} (i1 : vp_in (x3 + 1) L) (hl : lv_has ls 4 [(0, .ref b), (1, .ref (g.2.2 203)), (2, .ref (g.2.2 246)), (3, .int x3)])
    (kk : ∀ (h1 k1 : Hp) (H1 : Heap) (locs1 : List Loc), RR h1 k1 → va_P g.1 vwCl (WW g h1 k1) H1 → va_S (inA g) s.heap H1 locs1 → W p l e room_1 s m args below meth c H1 locs1 600000 7302250 Q (F0 m 1432 ls [])) : W p l e room_1 s m args below meth c H locs 600000 7302250 Q (F0 m 517 ls []) := by
  have hx := X.1
  have hb := X.2.1
  obtain ⟨r, h1, k1, hc, hm, hR1⟩ := st h k (xs (x3 + 1).toNatClampNeg) hR
  refine lv_aload_n hx hb dL_law_517 rfl (lv_at hl 1 rfl) ?_
  refine lv_aload_n hx hb dL_law_518 rfl (lv_at hl 0 rfl) ?_
  refine lv_iload_n hx hb dL_law_519 rfl (lv_at hl 3 rfl) ?_
  refine lv_iconst (v := 1) hx hb dL_law_520 (by decide) ?_
  refine lv_iadd hx hb dL_law_521 ?_
  refine va_sld hx hb hX hbl hbA hS i1 dL_law_522 ?_
  refine x_ci (x_runV (As := [.int (xs (x3 + 1).toNatClampNeg)]) (rest := []) X hP hS 203 (by decide) cl_F rfl (tX6_wake l X.2.2.2.2.2.2.1 hc) mi_L_62 rfl hl.1 rfl (Nat.le_of_ble_eq_true rfl) dL_law_523 ⟨Nat.le_of_ble_eq_true rfl, Nat.le_of_ble_eq_true rfl⟩ ⟨Nat.le_of_ble_eq_true rfl, Nat.le_of_ble_eq_true rfl⟩) hS (fun H locs hP hS => ?_)
  refine lv_aload_n hx hb dL_law_526 rfl (lv_at hl 2 rfl) ?_
  refine lv_aload_n hx hb dL_law_527 rfl (lv_at hl 0 rfl) ?_
  refine lv_iload_n hx hb dL_law_528 rfl (lv_at hl 3 rfl) ?_
  refine lv_iconst (v := 1) hx hb dL_law_529 (by decide) ?_
  refine lv_iadd hx hb dL_law_530 ?_
  refine va_sld hx hb hX hbl hbA hS i1 dL_law_531 ?_
  refine x_ci (x_runV (As := [.int (xs (x3 + 1).toNatClampNeg)]) (rest := [.int r]) X hP hS 246 (by decide) cl_M rfl (tX7_wake l X.2.2.2.2.2.2.1 hm) mi_L_65 rfl hl.1 rfl (Nat.le_of_ble_eq_true rfl) dL_law_532 ⟨Nat.le_of_ble_eq_true rfl, Nat.le_of_ble_eq_true rfl⟩ ⟨Nat.le_of_ble_eq_true rfl, Nat.le_of_ble_eq_true rfl⟩) hS (fun H locs hP hS => ?_)
  refine lv_icmp_eq (tgt := 1432) hx hb dL_law_535 (by decide) (fun _ => kk h1 k1 H locs hR1 hP hS) (fun q => absurd rfl q)
def St_let (RR : Hp → Hp → Prop) : Prop := ∀ (h k : Hp) (a1 a2 a3 : Int32), RR h k → ∃ (r : Int32) (h1 k1 : Hp), fX6_let a1 a2 a3 h = some (r, h1) ∧ fX7_let a1 a2 a3 k = some (r, k1) ∧ RR h1 k1
set_option maxRecDepth 100000 in
set_option maxHeartbeats 4000000 in
theorem lw_c_let {p : Program} {l : Launch} {e : Env} {s : State} {m : MethodId} {args : Array Value} {below : List Frame} {meth : Method} {c : Code} {Q : State → Prop} {g : Gx} (X : Cx p s m args c code 4 RL g) {b L : Nat} {xs : Nat → Int32} (hX : va_X b L xs s s.heap) (hbl : b < s.heap.size) (hbA : ¬ inA g b) {RR : Hp → Hp → Prop} (st : St_let RR) {h k : Hp} (hR : RR h k) {H : Heap} {locs : List Loc} {ls : Array Slot} (hP : va_P g.1 vwCl (WW g h k) H) (hS : va_S (inA g) s.heap H locs) {x3 : Int32} (i1 : vp_in (x3 + 1) L) (i2 : vp_in (x3 + 2) L) (i3 : vp_in (x3 + 3) L) (hl : lv_has ls 4 [(0, .ref b), (1, .ref (g.2.2 203)), (2, .ref (g.2.2 246)), (3, .int x3)])
    (kk : ∀ (h1 k1 : Hp) (H1 : Heap) (locs1 : List Loc), RR h1 k1 → va_P g.1 vwCl (WW g h1 k1) H1 → va_S (inA g) s.heap H1 locs1 → W p l e room_1 s m args below meth c H1 locs1 600000 7302250 Q (F0 m 1432 ls [])) : W p l e room_1 s m args below meth c H locs 600000 7302250 Q (F0 m 540 ls []) := by
  have hx := X.1
  have hb := X.2.1
  obtain ⟨r, h1, k1, hc, hm, hR1⟩ := st h k (xs (x3 + 1).toNatClampNeg) (xs (x3 + 2).toNatClampNeg) (xs (x3 + 3).toNatClampNeg) hR
  refine lv_aload_n hx hb dL_law_540 rfl (lv_at hl 1 rfl) ?_
  refine lv_aload_n hx hb dL_law_541 rfl (lv_at hl 0 rfl) ?_
  refine lv_iload_n hx hb dL_law_542 rfl (lv_at hl 3 rfl) ?_
  refine lv_iconst (v := 1) hx hb dL_law_543 (by decide) ?_
  refine lv_iadd hx hb dL_law_544 ?_
  refine va_sld hx hb hX hbl hbA hS i1 dL_law_545 ?_
  refine lv_aload_n hx hb dL_law_546 rfl (lv_at hl 0 rfl) ?_
  refine lv_iload_n hx hb dL_law_547 rfl (lv_at hl 3 rfl) ?_
  refine lv_iconst (v := 2) hx hb dL_law_548 (by decide) ?_
  refine lv_iadd hx hb dL_law_549 ?_
  refine va_sld hx hb hX hbl hbA hS i2 dL_law_550 ?_
  refine lv_aload_n hx hb dL_law_551 rfl (lv_at hl 0 rfl) ?_
  refine lv_iload_n hx hb dL_law_552 rfl (lv_at hl 3 rfl) ?_
  refine lv_iconst (v := 3) hx hb dL_law_553 (by decide) ?_
  refine lv_iadd hx hb dL_law_554 ?_
  refine va_sld hx hb hX hbl hbA hS i3 dL_law_555 ?_
  refine x_ci (x_runV (As := [.int (xs (x3 + 1).toNatClampNeg), .int (xs (x3 + 2).toNatClampNeg), .int (xs (x3 + 3).toNatClampNeg)]) (rest := []) X hP hS 203 (by decide) cl_F rfl (tX6_let l X.2.2.2.2.2.2.1 hc) mi_L_66 rfl hl.1 rfl (Nat.le_of_ble_eq_true rfl) dL_law_556 ⟨Nat.le_of_ble_eq_true rfl, Nat.le_of_ble_eq_true rfl⟩ ⟨Nat.le_of_ble_eq_true rfl, Nat.le_of_ble_eq_true rfl⟩) hS (fun H locs hP hS => ?_)
  refine lv_aload_n hx hb dL_law_559 rfl (lv_at hl 2 rfl) ?_
  refine lv_aload_n hx hb dL_law_560 rfl (lv_at hl 0 rfl) ?_
  refine lv_iload_n hx hb dL_law_561 rfl (lv_at hl 3 rfl) ?_
  refine lv_iconst (v := 1) hx hb dL_law_562 (by decide) ?_
  refine lv_iadd hx hb dL_law_563 ?_
  refine va_sld hx hb hX hbl hbA hS i1 dL_law_564 ?_
  refine lv_aload_n hx hb dL_law_565 rfl (lv_at hl 0 rfl) ?_
  refine lv_iload_n hx hb dL_law_566 rfl (lv_at hl 3 rfl) ?_
  refine lv_iconst (v := 2) hx hb dL_law_567 (by decide) ?_
  refine lv_iadd hx hb dL_law_568 ?_
  refine va_sld hx hb hX hbl hbA hS i2 dL_law_569 ?_
  refine lv_aload_n hx hb dL_law_570 rfl (lv_at hl 0 rfl) ?_
  refine lv_iload_n hx hb dL_law_571 rfl (lv_at hl 3 rfl) ?_
  refine lv_iconst (v := 3) hx hb dL_law_572 (by decide) ?_
  refine lv_iadd hx hb dL_law_573 ?_
  refine va_sld hx hb hX hbl hbA hS i3 dL_law_574 ?_
  refine x_ci (x_runV (As := [.int (xs (x3 + 1).toNatClampNeg), .int (xs (x3 + 2).toNatClampNeg), .int (xs (x3 + 3).toNatClampNeg)]) (rest := [.int r]) X hP hS 246 (by decide) cl_M rfl (tX7_let l X.2.2.2.2.2.2.1 hm) mi_L_69 rfl hl.1 rfl (Nat.le_of_ble_eq_true rfl) dL_law_575 ⟨Nat.le_of_ble_eq_true rfl, Nat.le_of_ble_eq_true rfl⟩ ⟨Nat.le_of_ble_eq_true rfl, Nat.le_of_ble_eq_true rfl⟩) hS (fun H locs hP hS => ?_)
  refine lv_icmp_eq (tgt := 1432) hx hb dL_law_578 (by decide) (fun _ => kk h1 k1 H locs hR1 hP hS) (fun q => absurd rfl q)
def St_sheet (RR : Hp → Hp → Prop) : Prop := ∀ (h k : Hp) (a1 a2 : Int32), RR h k → ∃ (r : Int32) (h1 k1 : Hp), fX6_sheet a1 a2 h = some (r, h1) ∧ fX7_sheet a1 a2 k = some (r, k1) ∧ RR h1 k1
set_option maxRecDepth 100000 in
set_option maxHeartbeats 4000000 in
theorem lw_c_sheet {p : Program} {l : Launch} {e : Env} {s : State} {m : MethodId} {args : Array Value} {below : List Frame} {meth : Method} {c : Code} {Q : State → Prop} {g : Gx} (X : Cx p s m args c code 4 RL g) {b L : Nat} {xs : Nat → Int32} (hX : va_X b L xs s s.heap) (hbl : b < s.heap.size) (hbA : ¬ inA g b) {RR : Hp → Hp → Prop} (st : St_sheet RR) {h k : Hp} (hR : RR h k) {H : Heap} {locs : List Loc} {ls : Array Slot} (hP : va_P g.1 vwCl (WW g h k) H) (hS : va_S (inA g) s.heap H locs) {x3 : Int32} (i1 : vp_in (x3 + 1) L) (i2 : vp_in (x3 + 2) L) (hl : lv_has ls 4 [(0, .ref b), (1, .ref (g.2.2 203)), (2, .ref (g.2.2 246)), (3, .int x3)])
    (kk : ∀ (h1 k1 : Hp) (H1 : Heap) (locs1 : List Loc), RR h1 k1 → va_P g.1 vwCl (WW g h1 k1) H1 → va_S (inA g) s.heap H1 locs1 → W p l e room_1 s m args below meth c H1 locs1 600000 7302250 Q (F0 m 1432 ls [])) : W p l e room_1 s m args below meth c H locs 600000 7302250 Q (F0 m 583 ls []) := by
  have hx := X.1
  have hb := X.2.1
  obtain ⟨r, h1, k1, hc, hm, hR1⟩ := st h k (xs (x3 + 1).toNatClampNeg) (xs (x3 + 2).toNatClampNeg) hR
  refine lv_aload_n hx hb dL_law_583 rfl (lv_at hl 1 rfl) ?_
  refine lv_aload_n hx hb dL_law_584 rfl (lv_at hl 0 rfl) ?_
  refine lv_iload_n hx hb dL_law_585 rfl (lv_at hl 3 rfl) ?_
  refine lv_iconst (v := 1) hx hb dL_law_586 (by decide) ?_
  refine lv_iadd hx hb dL_law_587 ?_
  refine va_sld hx hb hX hbl hbA hS i1 dL_law_588 ?_
  refine lv_aload_n hx hb dL_law_589 rfl (lv_at hl 0 rfl) ?_
  refine lv_iload_n hx hb dL_law_590 rfl (lv_at hl 3 rfl) ?_
  refine lv_iconst (v := 2) hx hb dL_law_591 (by decide) ?_
  refine lv_iadd hx hb dL_law_592 ?_
  refine va_sld hx hb hX hbl hbA hS i2 dL_law_593 ?_
  refine x_ci (x_runV (As := [.int (xs (x3 + 1).toNatClampNeg), .int (xs (x3 + 2).toNatClampNeg)]) (rest := []) X hP hS 203 (by decide) cl_F rfl (tX6_sheet l X.2.2.2.2.2.2.1 hc) mi_L_70 rfl hl.1 rfl (Nat.le_of_ble_eq_true rfl) dL_law_594 ⟨Nat.le_of_ble_eq_true rfl, Nat.le_of_ble_eq_true rfl⟩ ⟨Nat.le_of_ble_eq_true rfl, Nat.le_of_ble_eq_true rfl⟩) hS (fun H locs hP hS => ?_)
  refine lv_aload_n hx hb dL_law_597 rfl (lv_at hl 2 rfl) ?_
  refine lv_aload_n hx hb dL_law_598 rfl (lv_at hl 0 rfl) ?_
  refine lv_iload_n hx hb dL_law_599 rfl (lv_at hl 3 rfl) ?_
  refine lv_iconst (v := 1) hx hb dL_law_600 (by decide) ?_
  refine lv_iadd hx hb dL_law_601 ?_
  refine va_sld hx hb hX hbl hbA hS i1 dL_law_602 ?_
  refine lv_aload_n hx hb dL_law_603 rfl (lv_at hl 0 rfl) ?_
  refine lv_iload_n hx hb dL_law_604 rfl (lv_at hl 3 rfl) ?_
  refine lv_iconst (v := 2) hx hb dL_law_605 (by decide) ?_
  refine lv_iadd hx hb dL_law_606 ?_
  refine va_sld hx hb hX hbl hbA hS i2 dL_law_607 ?_
  refine x_ci (x_runV (As := [.int (xs (x3 + 1).toNatClampNeg), .int (xs (x3 + 2).toNatClampNeg)]) (rest := [.int r]) X hP hS 246 (by decide) cl_M rfl (tX7_sheet l X.2.2.2.2.2.2.1 hm) mi_L_73 rfl hl.1 rfl (Nat.le_of_ble_eq_true rfl) dL_law_608 ⟨Nat.le_of_ble_eq_true rfl, Nat.le_of_ble_eq_true rfl⟩ ⟨Nat.le_of_ble_eq_true rfl, Nat.le_of_ble_eq_true rfl⟩) hS (fun H locs hP hS => ?_)
  refine lv_icmp_eq (tgt := 1432) hx hb dL_law_611 (by decide) (fun _ => kk h1 k1 H locs hR1 hP hS) (fun q => absurd rfl q)
def St_cell (RR : Hp → Hp → Prop) : Prop := ∀ (h k : Hp) (a1 a2 : Int32), RR h k → ∃ (r : Int32) (h1 k1 : Hp), fX6_cell a1 a2 h = some (r, h1) ∧ fX7_cell a1 a2 k = some (r, k1) ∧ RR h1 k1
set_option maxRecDepth 100000 in
set_option maxHeartbeats 4000000 in
theorem lw_c_cell {p : Program} {l : Launch} {e : Env} {s : State} {m : MethodId} {args : Array Value} {below : List Frame} {meth : Method} {c : Code} {Q : State → Prop} {g : Gx} (X : Cx p s m args c code 4 RL g) {b L : Nat} {xs : Nat → Int32} (hX : va_X b L xs s s.heap) (hbl : b < s.heap.size) (hbA : ¬ inA g b) {RR : Hp → Hp → Prop} (st : St_cell RR) {h k : Hp} (hR : RR h k) {H : Heap} {locs : List Loc} {ls : Array Slot} (hP : va_P g.1 vwCl (WW g h k) H) (hS : va_S (inA g) s.heap H locs) {x3 : Int32} (i1 : vp_in (x3 + 1) L) (i2 : vp_in (x3 + 2) L) (hl : lv_has ls 4 [(0, .ref b), (1, .ref (g.2.2 203)), (2, .ref (g.2.2 246)), (3, .int x3)])
    (kk : ∀ (h1 k1 : Hp) (H1 : Heap) (locs1 : List Loc), RR h1 k1 → va_P g.1 vwCl (WW g h1 k1) H1 → va_S (inA g) s.heap H1 locs1 → W p l e room_1 s m args below meth c H1 locs1 600000 7302250 Q (F0 m 1432 ls [])) : W p l e room_1 s m args below meth c H locs 600000 7302250 Q (F0 m 616 ls []) := by
  have hx := X.1
  have hb := X.2.1
  obtain ⟨r, h1, k1, hc, hm, hR1⟩ := st h k (xs (x3 + 1).toNatClampNeg) (xs (x3 + 2).toNatClampNeg) hR
  refine lv_aload_n hx hb dL_law_616 rfl (lv_at hl 1 rfl) ?_
  refine lv_aload_n hx hb dL_law_617 rfl (lv_at hl 0 rfl) ?_
  refine lv_iload_n hx hb dL_law_618 rfl (lv_at hl 3 rfl) ?_
  refine lv_iconst (v := 1) hx hb dL_law_619 (by decide) ?_
  refine lv_iadd hx hb dL_law_620 ?_
  refine va_sld hx hb hX hbl hbA hS i1 dL_law_621 ?_
  refine lv_aload_n hx hb dL_law_622 rfl (lv_at hl 0 rfl) ?_
  refine lv_iload_n hx hb dL_law_623 rfl (lv_at hl 3 rfl) ?_
  refine lv_iconst (v := 2) hx hb dL_law_624 (by decide) ?_
  refine lv_iadd hx hb dL_law_625 ?_
  refine va_sld hx hb hX hbl hbA hS i2 dL_law_626 ?_
  refine x_ci (x_runV (As := [.int (xs (x3 + 1).toNatClampNeg), .int (xs (x3 + 2).toNatClampNeg)]) (rest := []) X hP hS 203 (by decide) cl_F rfl (tX6_cell l X.2.2.2.2.2.2.1 hc) mi_L_74 rfl hl.1 rfl (Nat.le_of_ble_eq_true rfl) dL_law_627 ⟨Nat.le_of_ble_eq_true rfl, Nat.le_of_ble_eq_true rfl⟩ ⟨Nat.le_of_ble_eq_true rfl, Nat.le_of_ble_eq_true rfl⟩) hS (fun H locs hP hS => ?_)
  refine lv_aload_n hx hb dL_law_630 rfl (lv_at hl 2 rfl) ?_
  refine lv_aload_n hx hb dL_law_631 rfl (lv_at hl 0 rfl) ?_
  refine lv_iload_n hx hb dL_law_632 rfl (lv_at hl 3 rfl) ?_
  refine lv_iconst (v := 1) hx hb dL_law_633 (by decide) ?_
  refine lv_iadd hx hb dL_law_634 ?_
  refine va_sld hx hb hX hbl hbA hS i1 dL_law_635 ?_
  refine lv_aload_n hx hb dL_law_636 rfl (lv_at hl 0 rfl) ?_
  refine lv_iload_n hx hb dL_law_637 rfl (lv_at hl 3 rfl) ?_
  refine lv_iconst (v := 2) hx hb dL_law_638 (by decide) ?_
  refine lv_iadd hx hb dL_law_639 ?_
  refine va_sld hx hb hX hbl hbA hS i2 dL_law_640 ?_
  refine x_ci (x_runV (As := [.int (xs (x3 + 1).toNatClampNeg), .int (xs (x3 + 2).toNatClampNeg)]) (rest := [.int r]) X hP hS 246 (by decide) cl_M rfl (tX7_cell l X.2.2.2.2.2.2.1 hm) mi_L_77 rfl hl.1 rfl (Nat.le_of_ble_eq_true rfl) dL_law_641 ⟨Nat.le_of_ble_eq_true rfl, Nat.le_of_ble_eq_true rfl⟩ ⟨Nat.le_of_ble_eq_true rfl, Nat.le_of_ble_eq_true rfl⟩) hS (fun H locs hP hS => ?_)
  refine lv_icmp_eq (tgt := 1432) hx hb dL_law_644 (by decide) (fun _ => kk h1 k1 H locs hR1 hP hS) (fun q => absurd rfl q)
def St_stand (RR : Hp → Hp → Prop) : Prop := ∀ (h k : Hp) (a1 : Int32), RR h k → ∃ (r : Int32) (h1 k1 : Hp), fX6_stand a1 h = some (r, h1) ∧ fX7_stand a1 k = some (r, k1) ∧ RR h1 k1
set_option maxRecDepth 100000 in
set_option maxHeartbeats 4000000 in
theorem lw_c_stand {p : Program} {l : Launch} {e : Env} {s : State} {m : MethodId} {args : Array Value} {below : List Frame} {meth : Method} {c : Code} {Q : State → Prop} {g : Gx} (X : Cx p s m args c code 4 RL g) {b L : Nat} {xs : Nat → Int32} (hX : va_X b L xs s s.heap) (hbl : b < s.heap.size) (hbA : ¬ inA g b) {RR : Hp → Hp → Prop} (st : St_stand RR) {h k : Hp} (hR : RR h k) {H : Heap} {locs : List Loc} {ls : Array Slot} (hP : va_P g.1 vwCl (WW g h k) H) (hS : va_S (inA g) s.heap H locs) {x3 : Int32} (i1 : vp_in (x3 + 1) L) (hl : lv_has ls 4 [(0, .ref b), (1, .ref (g.2.2 203)), (2, .ref (g.2.2 246)), (3, .int x3)])
    (kk : ∀ (h1 k1 : Hp) (H1 : Heap) (locs1 : List Loc), RR h1 k1 → va_P g.1 vwCl (WW g h1 k1) H1 → va_S (inA g) s.heap H1 locs1 → W p l e room_1 s m args below meth c H1 locs1 600000 7302250 Q (F0 m 1432 ls [])) : W p l e room_1 s m args below meth c H locs 600000 7302250 Q (F0 m 649 ls []) := by
  have hx := X.1
  have hb := X.2.1
  obtain ⟨r, h1, k1, hc, hm, hR1⟩ := st h k (xs (x3 + 1).toNatClampNeg) hR
  refine lv_aload_n hx hb dL_law_649 rfl (lv_at hl 1 rfl) ?_
  refine lv_aload_n hx hb dL_law_650 rfl (lv_at hl 0 rfl) ?_
  refine lv_iload_n hx hb dL_law_651 rfl (lv_at hl 3 rfl) ?_
  refine lv_iconst (v := 1) hx hb dL_law_652 (by decide) ?_
  refine lv_iadd hx hb dL_law_653 ?_
  refine va_sld hx hb hX hbl hbA hS i1 dL_law_654 ?_
  refine x_ci (x_runV (As := [.int (xs (x3 + 1).toNatClampNeg)]) (rest := []) X hP hS 203 (by decide) cl_F rfl (tX6_stand l X.2.2.2.2.2.2.1 hc) mi_L_78 rfl hl.1 rfl (Nat.le_of_ble_eq_true rfl) dL_law_655 ⟨Nat.le_of_ble_eq_true rfl, Nat.le_of_ble_eq_true rfl⟩ ⟨Nat.le_of_ble_eq_true rfl, Nat.le_of_ble_eq_true rfl⟩) hS (fun H locs hP hS => ?_)
  refine lv_aload_n hx hb dL_law_658 rfl (lv_at hl 2 rfl) ?_
  refine lv_aload_n hx hb dL_law_659 rfl (lv_at hl 0 rfl) ?_
  refine lv_iload_n hx hb dL_law_660 rfl (lv_at hl 3 rfl) ?_
  refine lv_iconst (v := 1) hx hb dL_law_661 (by decide) ?_
  refine lv_iadd hx hb dL_law_662 ?_
  refine va_sld hx hb hX hbl hbA hS i1 dL_law_663 ?_
  refine x_ci (x_runV (As := [.int (xs (x3 + 1).toNatClampNeg)]) (rest := [.int r]) X hP hS 246 (by decide) cl_M rfl (tX7_stand l X.2.2.2.2.2.2.1 hm) mi_L_81 rfl hl.1 rfl (Nat.le_of_ble_eq_true rfl) dL_law_664 ⟨Nat.le_of_ble_eq_true rfl, Nat.le_of_ble_eq_true rfl⟩ ⟨Nat.le_of_ble_eq_true rfl, Nat.le_of_ble_eq_true rfl⟩) hS (fun H locs hP hS => ?_)
  refine lv_icmp_eq (tgt := 1432) hx hb dL_law_667 (by decide) (fun _ => kk h1 k1 H locs hR1 hP hS) (fun q => absurd rfl q)
def St_ahead (RR : Hp → Hp → Prop) : Prop := ∀ (h k : Hp) (a1 a2 a3 : Int32), RR h k → ∃ (r : Int32) (h1 k1 : Hp), fX6_ahead a1 a2 a3 h = some (r, h1) ∧ fX7_ahead a1 a2 a3 k = some (r, k1) ∧ RR h1 k1
set_option maxRecDepth 100000 in
set_option maxHeartbeats 4000000 in
theorem lw_c_ahead {p : Program} {l : Launch} {e : Env} {s : State} {m : MethodId} {args : Array Value} {below : List Frame} {meth : Method} {c : Code} {Q : State → Prop} {g : Gx} (X : Cx p s m args c code 4 RL g) {b L : Nat} {xs : Nat → Int32} (hX : va_X b L xs s s.heap) (hbl : b < s.heap.size) (hbA : ¬ inA g b) {RR : Hp → Hp → Prop} (st : St_ahead RR) {h k : Hp} (hR : RR h k) {H : Heap} {locs : List Loc} {ls : Array Slot} (hP : va_P g.1 vwCl (WW g h k) H) (hS : va_S (inA g) s.heap H locs) {x3 : Int32} (i1 : vp_in (x3 + 1) L) (i2 : vp_in (x3 + 2) L) (i3 : vp_in (x3 + 3) L) (hl : lv_has ls 4 [(0, .ref b), (1, .ref (g.2.2 203)), (2, .ref (g.2.2 246)), (3, .int x3)])
    (kk : ∀ (h1 k1 : Hp) (H1 : Heap) (locs1 : List Loc), RR h1 k1 → va_P g.1 vwCl (WW g h1 k1) H1 → va_S (inA g) s.heap H1 locs1 → W p l e room_1 s m args below meth c H1 locs1 600000 7302250 Q (F0 m 1432 ls [])) : W p l e room_1 s m args below meth c H locs 600000 7302250 Q (F0 m 672 ls []) := by
  have hx := X.1
  have hb := X.2.1
  obtain ⟨r, h1, k1, hc, hm, hR1⟩ := st h k (xs (x3 + 1).toNatClampNeg) (xs (x3 + 2).toNatClampNeg) (xs (x3 + 3).toNatClampNeg) hR
  refine lv_aload_n hx hb dL_law_672 rfl (lv_at hl 1 rfl) ?_
  refine lv_aload_n hx hb dL_law_673 rfl (lv_at hl 0 rfl) ?_
  refine lv_iload_n hx hb dL_law_674 rfl (lv_at hl 3 rfl) ?_
  refine lv_iconst (v := 1) hx hb dL_law_675 (by decide) ?_
  refine lv_iadd hx hb dL_law_676 ?_
  refine va_sld hx hb hX hbl hbA hS i1 dL_law_677 ?_
  refine lv_aload_n hx hb dL_law_678 rfl (lv_at hl 0 rfl) ?_
  refine lv_iload_n hx hb dL_law_679 rfl (lv_at hl 3 rfl) ?_
  refine lv_iconst (v := 2) hx hb dL_law_680 (by decide) ?_
  refine lv_iadd hx hb dL_law_681 ?_
  refine va_sld hx hb hX hbl hbA hS i2 dL_law_682 ?_
  refine lv_aload_n hx hb dL_law_683 rfl (lv_at hl 0 rfl) ?_
  refine lv_iload_n hx hb dL_law_684 rfl (lv_at hl 3 rfl) ?_
  refine lv_iconst (v := 3) hx hb dL_law_685 (by decide) ?_
  refine lv_iadd hx hb dL_law_686 ?_
  refine va_sld hx hb hX hbl hbA hS i3 dL_law_687 ?_
  refine x_ci (x_runV (As := [.int (xs (x3 + 1).toNatClampNeg), .int (xs (x3 + 2).toNatClampNeg), .int (xs (x3 + 3).toNatClampNeg)]) (rest := []) X hP hS 203 (by decide) cl_F rfl (tX6_ahead l X.2.2.2.2.2.2.1 hc) mi_L_82 rfl hl.1 rfl (Nat.le_of_ble_eq_true rfl) dL_law_688 ⟨Nat.le_of_ble_eq_true rfl, Nat.le_of_ble_eq_true rfl⟩ ⟨Nat.le_of_ble_eq_true rfl, Nat.le_of_ble_eq_true rfl⟩) hS (fun H locs hP hS => ?_)
  refine lv_aload_n hx hb dL_law_691 rfl (lv_at hl 2 rfl) ?_
  refine lv_aload_n hx hb dL_law_692 rfl (lv_at hl 0 rfl) ?_
  refine lv_iload_n hx hb dL_law_693 rfl (lv_at hl 3 rfl) ?_
  refine lv_iconst (v := 1) hx hb dL_law_694 (by decide) ?_
  refine lv_iadd hx hb dL_law_695 ?_
  refine va_sld hx hb hX hbl hbA hS i1 dL_law_696 ?_
  refine lv_aload_n hx hb dL_law_697 rfl (lv_at hl 0 rfl) ?_
  refine lv_iload_n hx hb dL_law_698 rfl (lv_at hl 3 rfl) ?_
  refine lv_iconst (v := 2) hx hb dL_law_699 (by decide) ?_
  refine lv_iadd hx hb dL_law_700 ?_
  refine va_sld hx hb hX hbl hbA hS i2 dL_law_701 ?_
  refine lv_aload_n hx hb dL_law_702 rfl (lv_at hl 0 rfl) ?_
  refine lv_iload_n hx hb dL_law_703 rfl (lv_at hl 3 rfl) ?_
  refine lv_iconst (v := 3) hx hb dL_law_704 (by decide) ?_
  refine lv_iadd hx hb dL_law_705 ?_
  refine va_sld hx hb hX hbl hbA hS i3 dL_law_706 ?_
  refine x_ci (x_runV (As := [.int (xs (x3 + 1).toNatClampNeg), .int (xs (x3 + 2).toNatClampNeg), .int (xs (x3 + 3).toNatClampNeg)]) (rest := [.int r]) X hP hS 246 (by decide) cl_M rfl (tX7_ahead l X.2.2.2.2.2.2.1 hm) mi_L_85 rfl hl.1 rfl (Nat.le_of_ble_eq_true rfl) dL_law_707 ⟨Nat.le_of_ble_eq_true rfl, Nat.le_of_ble_eq_true rfl⟩ ⟨Nat.le_of_ble_eq_true rfl, Nat.le_of_ble_eq_true rfl⟩) hS (fun H locs hP hS => ?_)
  refine lv_icmp_eq (tgt := 1432) hx hb dL_law_710 (by decide) (fun _ => kk h1 k1 H locs hR1 hP hS) (fun q => absurd rfl q)
def St_over (RR : Hp → Hp → Prop) : Prop := ∀ (h k : Hp) (a1 a2 : Int32), RR h k → ∃ (r : Int32) (h1 k1 : Hp), fX6_over a1 a2 h = some (r, h1) ∧ fX7_over a1 a2 k = some (r, k1) ∧ RR h1 k1
set_option maxRecDepth 100000 in
set_option maxHeartbeats 4000000 in
theorem lw_c_over {p : Program} {l : Launch} {e : Env} {s : State} {m : MethodId} {args : Array Value} {below : List Frame} {meth : Method} {c : Code} {Q : State → Prop} {g : Gx} (X : Cx p s m args c code 4 RL g) {b L : Nat} {xs : Nat → Int32} (hX : va_X b L xs s s.heap) (hbl : b < s.heap.size) (hbA : ¬ inA g b) {RR : Hp → Hp → Prop} (st : St_over RR) {h k : Hp} (hR : RR h k) {H : Heap} {locs : List Loc} {ls : Array Slot} (hP : va_P g.1 vwCl (WW g h k) H) (hS : va_S (inA g) s.heap H locs) {x3 : Int32} (i1 : vp_in (x3 + 1) L) (i2 : vp_in (x3 + 2) L) (hl : lv_has ls 4 [(0, .ref b), (1, .ref (g.2.2 203)), (2, .ref (g.2.2 246)), (3, .int x3)])
    (kk : ∀ (h1 k1 : Hp) (H1 : Heap) (locs1 : List Loc), RR h1 k1 → va_P g.1 vwCl (WW g h1 k1) H1 → va_S (inA g) s.heap H1 locs1 → W p l e room_1 s m args below meth c H1 locs1 600000 7302250 Q (F0 m 1432 ls [])) : W p l e room_1 s m args below meth c H locs 600000 7302250 Q (F0 m 715 ls []) := by
  have hx := X.1
  have hb := X.2.1
  obtain ⟨r, h1, k1, hc, hm, hR1⟩ := st h k (xs (x3 + 1).toNatClampNeg) (xs (x3 + 2).toNatClampNeg) hR
  refine lv_aload_n hx hb dL_law_715 rfl (lv_at hl 1 rfl) ?_
  refine lv_aload_n hx hb dL_law_716 rfl (lv_at hl 0 rfl) ?_
  refine lv_iload_n hx hb dL_law_717 rfl (lv_at hl 3 rfl) ?_
  refine lv_iconst (v := 1) hx hb dL_law_718 (by decide) ?_
  refine lv_iadd hx hb dL_law_719 ?_
  refine va_sld hx hb hX hbl hbA hS i1 dL_law_720 ?_
  refine lv_aload_n hx hb dL_law_721 rfl (lv_at hl 0 rfl) ?_
  refine lv_iload_n hx hb dL_law_722 rfl (lv_at hl 3 rfl) ?_
  refine lv_iconst (v := 2) hx hb dL_law_723 (by decide) ?_
  refine lv_iadd hx hb dL_law_724 ?_
  refine va_sld hx hb hX hbl hbA hS i2 dL_law_725 ?_
  refine x_ci (x_runV (As := [.int (xs (x3 + 1).toNatClampNeg), .int (xs (x3 + 2).toNatClampNeg)]) (rest := []) X hP hS 203 (by decide) cl_F rfl (tX6_over l X.2.2.2.2.2.2.1 hc) mi_L_86 rfl hl.1 rfl (Nat.le_of_ble_eq_true rfl) dL_law_726 ⟨Nat.le_of_ble_eq_true rfl, Nat.le_of_ble_eq_true rfl⟩ ⟨Nat.le_of_ble_eq_true rfl, Nat.le_of_ble_eq_true rfl⟩) hS (fun H locs hP hS => ?_)
  refine lv_aload_n hx hb dL_law_729 rfl (lv_at hl 2 rfl) ?_
  refine lv_aload_n hx hb dL_law_730 rfl (lv_at hl 0 rfl) ?_
  refine lv_iload_n hx hb dL_law_731 rfl (lv_at hl 3 rfl) ?_
  refine lv_iconst (v := 1) hx hb dL_law_732 (by decide) ?_
  refine lv_iadd hx hb dL_law_733 ?_
  refine va_sld hx hb hX hbl hbA hS i1 dL_law_734 ?_
  refine lv_aload_n hx hb dL_law_735 rfl (lv_at hl 0 rfl) ?_
  refine lv_iload_n hx hb dL_law_736 rfl (lv_at hl 3 rfl) ?_
  refine lv_iconst (v := 2) hx hb dL_law_737 (by decide) ?_
  refine lv_iadd hx hb dL_law_738 ?_
  refine va_sld hx hb hX hbl hbA hS i2 dL_law_739 ?_
  refine x_ci (x_runV (As := [.int (xs (x3 + 1).toNatClampNeg), .int (xs (x3 + 2).toNatClampNeg)]) (rest := [.int r]) X hP hS 246 (by decide) cl_M rfl (tX7_over l X.2.2.2.2.2.2.1 hm) mi_L_89 rfl hl.1 rfl (Nat.le_of_ble_eq_true rfl) dL_law_740 ⟨Nat.le_of_ble_eq_true rfl, Nat.le_of_ble_eq_true rfl⟩ ⟨Nat.le_of_ble_eq_true rfl, Nat.le_of_ble_eq_true rfl⟩) hS (fun H locs hP hS => ?_)
  refine lv_icmp_eq (tgt := 1432) hx hb dL_law_743 (by decide) (fun _ => kk h1 k1 H locs hR1 hP hS) (fun q => absurd rfl q)
def St_when (RR : Hp → Hp → Prop) : Prop := ∀ (h k : Hp) (a1 a2 : Int32), RR h k → ∃ (r : Int32) (h1 k1 : Hp), fX6_when a1 a2 h = some (r, h1) ∧ fX7_when a1 a2 k = some (r, k1) ∧ RR h1 k1
set_option maxRecDepth 100000 in
set_option maxHeartbeats 4000000 in
theorem lw_c_when {p : Program} {l : Launch} {e : Env} {s : State} {m : MethodId} {args : Array Value} {below : List Frame} {meth : Method} {c : Code} {Q : State → Prop} {g : Gx} (X : Cx p s m args c code 4 RL g) {b L : Nat} {xs : Nat → Int32} (hX : va_X b L xs s s.heap) (hbl : b < s.heap.size) (hbA : ¬ inA g b) {RR : Hp → Hp → Prop} (st : St_when RR) {h k : Hp} (hR : RR h k) {H : Heap} {locs : List Loc} {ls : Array Slot} (hP : va_P g.1 vwCl (WW g h k) H) (hS : va_S (inA g) s.heap H locs) {x3 : Int32} (i1 : vp_in (x3 + 1) L) (i2 : vp_in (x3 + 2) L) (hl : lv_has ls 4 [(0, .ref b), (1, .ref (g.2.2 203)), (2, .ref (g.2.2 246)), (3, .int x3)])
    (kk : ∀ (h1 k1 : Hp) (H1 : Heap) (locs1 : List Loc), RR h1 k1 → va_P g.1 vwCl (WW g h1 k1) H1 → va_S (inA g) s.heap H1 locs1 → W p l e room_1 s m args below meth c H1 locs1 600000 7302250 Q (F0 m 1432 ls [])) : W p l e room_1 s m args below meth c H locs 600000 7302250 Q (F0 m 748 ls []) := by
  have hx := X.1
  have hb := X.2.1
  obtain ⟨r, h1, k1, hc, hm, hR1⟩ := st h k (xs (x3 + 1).toNatClampNeg) (xs (x3 + 2).toNatClampNeg) hR
  refine lv_aload_n hx hb dL_law_748 rfl (lv_at hl 1 rfl) ?_
  refine lv_aload_n hx hb dL_law_749 rfl (lv_at hl 0 rfl) ?_
  refine lv_iload_n hx hb dL_law_750 rfl (lv_at hl 3 rfl) ?_
  refine lv_iconst (v := 1) hx hb dL_law_751 (by decide) ?_
  refine lv_iadd hx hb dL_law_752 ?_
  refine va_sld hx hb hX hbl hbA hS i1 dL_law_753 ?_
  refine lv_aload_n hx hb dL_law_754 rfl (lv_at hl 0 rfl) ?_
  refine lv_iload_n hx hb dL_law_755 rfl (lv_at hl 3 rfl) ?_
  refine lv_iconst (v := 2) hx hb dL_law_756 (by decide) ?_
  refine lv_iadd hx hb dL_law_757 ?_
  refine va_sld hx hb hX hbl hbA hS i2 dL_law_758 ?_
  refine x_ci (x_runV (As := [.int (xs (x3 + 1).toNatClampNeg), .int (xs (x3 + 2).toNatClampNeg)]) (rest := []) X hP hS 203 (by decide) cl_F rfl (tX6_when l X.2.2.2.2.2.2.1 hc) mi_L_90 rfl hl.1 rfl (Nat.le_of_ble_eq_true rfl) dL_law_759 ⟨Nat.le_of_ble_eq_true rfl, Nat.le_of_ble_eq_true rfl⟩ ⟨Nat.le_of_ble_eq_true rfl, Nat.le_of_ble_eq_true rfl⟩) hS (fun H locs hP hS => ?_)
  refine lv_aload_n hx hb dL_law_762 rfl (lv_at hl 2 rfl) ?_
  refine lv_aload_n hx hb dL_law_763 rfl (lv_at hl 0 rfl) ?_
  refine lv_iload_n hx hb dL_law_764 rfl (lv_at hl 3 rfl) ?_
  refine lv_iconst (v := 1) hx hb dL_law_765 (by decide) ?_
  refine lv_iadd hx hb dL_law_766 ?_
  refine va_sld hx hb hX hbl hbA hS i1 dL_law_767 ?_
  refine lv_aload_n hx hb dL_law_768 rfl (lv_at hl 0 rfl) ?_
  refine lv_iload_n hx hb dL_law_769 rfl (lv_at hl 3 rfl) ?_
  refine lv_iconst (v := 2) hx hb dL_law_770 (by decide) ?_
  refine lv_iadd hx hb dL_law_771 ?_
  refine va_sld hx hb hX hbl hbA hS i2 dL_law_772 ?_
  refine x_ci (x_runV (As := [.int (xs (x3 + 1).toNatClampNeg), .int (xs (x3 + 2).toNatClampNeg)]) (rest := [.int r]) X hP hS 246 (by decide) cl_M rfl (tX7_when l X.2.2.2.2.2.2.1 hm) mi_L_93 rfl hl.1 rfl (Nat.le_of_ble_eq_true rfl) dL_law_773 ⟨Nat.le_of_ble_eq_true rfl, Nat.le_of_ble_eq_true rfl⟩ ⟨Nat.le_of_ble_eq_true rfl, Nat.le_of_ble_eq_true rfl⟩) hS (fun H locs hP hS => ?_)
  refine lv_icmp_eq (tgt := 1432) hx hb dL_law_776 (by decide) (fun _ => kk h1 k1 H locs hR1 hP hS) (fun q => absurd rfl q)
def St_overlap (RR : Hp → Hp → Prop) : Prop := ∀ (h k : Hp) (a1 : Int32), RR h k → ∃ (r : Int32) (h1 k1 : Hp), fX6_overlap a1 h = some (r, h1) ∧ fX7_overlap a1 k = some (r, k1) ∧ RR h1 k1
set_option maxRecDepth 100000 in
set_option maxHeartbeats 4000000 in
theorem lw_c_overlap {p : Program} {l : Launch} {e : Env} {s : State} {m : MethodId} {args : Array Value} {below : List Frame} {meth : Method} {c : Code} {Q : State → Prop} {g : Gx} (X : Cx p s m args c code 4 RL g) {b L : Nat} {xs : Nat → Int32} (hX : va_X b L xs s s.heap) (hbl : b < s.heap.size) (hbA : ¬ inA g b) {RR : Hp → Hp → Prop} (st : St_overlap RR) {h k : Hp} (hR : RR h k) {H : Heap} {locs : List Loc} {ls : Array Slot} (hP : va_P g.1 vwCl (WW g h k) H) (hS : va_S (inA g) s.heap H locs) {x3 : Int32} (i1 : vp_in (x3 + 1) L) (hl : lv_has ls 4 [(0, .ref b), (1, .ref (g.2.2 203)), (2, .ref (g.2.2 246)), (3, .int x3)])
    (kk : ∀ (h1 k1 : Hp) (H1 : Heap) (locs1 : List Loc), RR h1 k1 → va_P g.1 vwCl (WW g h1 k1) H1 → va_S (inA g) s.heap H1 locs1 → W p l e room_1 s m args below meth c H1 locs1 600000 7302250 Q (F0 m 1432 ls [])) : W p l e room_1 s m args below meth c H locs 600000 7302250 Q (F0 m 781 ls []) := by
  have hx := X.1
  have hb := X.2.1
  obtain ⟨r, h1, k1, hc, hm, hR1⟩ := st h k (xs (x3 + 1).toNatClampNeg) hR
  refine lv_aload_n hx hb dL_law_781 rfl (lv_at hl 1 rfl) ?_
  refine lv_aload_n hx hb dL_law_782 rfl (lv_at hl 0 rfl) ?_
  refine lv_iload_n hx hb dL_law_783 rfl (lv_at hl 3 rfl) ?_
  refine lv_iconst (v := 1) hx hb dL_law_784 (by decide) ?_
  refine lv_iadd hx hb dL_law_785 ?_
  refine va_sld hx hb hX hbl hbA hS i1 dL_law_786 ?_
  refine x_ci (x_runV (As := [.int (xs (x3 + 1).toNatClampNeg)]) (rest := []) X hP hS 203 (by decide) cl_F rfl (tX6_overlap l X.2.2.2.2.2.2.1 hc) mi_L_94 rfl hl.1 rfl (Nat.le_of_ble_eq_true rfl) dL_law_787 ⟨Nat.le_of_ble_eq_true rfl, Nat.le_of_ble_eq_true rfl⟩ ⟨Nat.le_of_ble_eq_true rfl, Nat.le_of_ble_eq_true rfl⟩) hS (fun H locs hP hS => ?_)
  refine lv_aload_n hx hb dL_law_790 rfl (lv_at hl 2 rfl) ?_
  refine lv_aload_n hx hb dL_law_791 rfl (lv_at hl 0 rfl) ?_
  refine lv_iload_n hx hb dL_law_792 rfl (lv_at hl 3 rfl) ?_
  refine lv_iconst (v := 1) hx hb dL_law_793 (by decide) ?_
  refine lv_iadd hx hb dL_law_794 ?_
  refine va_sld hx hb hX hbl hbA hS i1 dL_law_795 ?_
  refine x_ci (x_runV (As := [.int (xs (x3 + 1).toNatClampNeg)]) (rest := [.int r]) X hP hS 246 (by decide) cl_M rfl (tX7_overlap l X.2.2.2.2.2.2.1 hm) mi_L_97 rfl hl.1 rfl (Nat.le_of_ble_eq_true rfl) dL_law_796 ⟨Nat.le_of_ble_eq_true rfl, Nat.le_of_ble_eq_true rfl⟩ ⟨Nat.le_of_ble_eq_true rfl, Nat.le_of_ble_eq_true rfl⟩) hS (fun H locs hP hS => ?_)
  refine lv_icmp_eq (tgt := 1432) hx hb dL_law_799 (by decide) (fun _ => kk h1 k1 H locs hR1 hP hS) (fun q => absurd rfl q)
def St_walk (RR : Hp → Hp → Prop) : Prop := ∀ (h k : Hp) (a1 a2 : Int32), RR h k → ∃ (r : Int32) (h1 k1 : Hp), fX6_walk a1 a2 h = some (r, h1) ∧ fX7_walk a1 a2 k = some (r, k1) ∧ RR h1 k1
set_option maxRecDepth 100000 in
set_option maxHeartbeats 4000000 in
theorem lw_c_walk {p : Program} {l : Launch} {e : Env} {s : State} {m : MethodId} {args : Array Value} {below : List Frame} {meth : Method} {c : Code} {Q : State → Prop} {g : Gx} (X : Cx p s m args c code 4 RL g) {b L : Nat} {xs : Nat → Int32} (hX : va_X b L xs s s.heap) (hbl : b < s.heap.size) (hbA : ¬ inA g b) {RR : Hp → Hp → Prop} (st : St_walk RR) {h k : Hp} (hR : RR h k) {H : Heap} {locs : List Loc} {ls : Array Slot} (hP : va_P g.1 vwCl (WW g h k) H) (hS : va_S (inA g) s.heap H locs) {x3 : Int32} (i1 : vp_in (x3 + 1) L) (i2 : vp_in (x3 + 2) L) (hl : lv_has ls 4 [(0, .ref b), (1, .ref (g.2.2 203)), (2, .ref (g.2.2 246)), (3, .int x3)])
    (kk : ∀ (h1 k1 : Hp) (H1 : Heap) (locs1 : List Loc), RR h1 k1 → va_P g.1 vwCl (WW g h1 k1) H1 → va_S (inA g) s.heap H1 locs1 → W p l e room_1 s m args below meth c H1 locs1 600000 7302250 Q (F0 m 1432 ls [])) : W p l e room_1 s m args below meth c H locs 600000 7302250 Q (F0 m 804 ls []) := by
  have hx := X.1
  have hb := X.2.1
  obtain ⟨r, h1, k1, hc, hm, hR1⟩ := st h k (xs (x3 + 1).toNatClampNeg) (xs (x3 + 2).toNatClampNeg) hR
  refine lv_aload_n hx hb dL_law_804 rfl (lv_at hl 1 rfl) ?_
  refine lv_aload_n hx hb dL_law_805 rfl (lv_at hl 0 rfl) ?_
  refine lv_iload_n hx hb dL_law_806 rfl (lv_at hl 3 rfl) ?_
  refine lv_iconst (v := 1) hx hb dL_law_807 (by decide) ?_
  refine lv_iadd hx hb dL_law_808 ?_
  refine va_sld hx hb hX hbl hbA hS i1 dL_law_809 ?_
  refine lv_aload_n hx hb dL_law_810 rfl (lv_at hl 0 rfl) ?_
  refine lv_iload_n hx hb dL_law_811 rfl (lv_at hl 3 rfl) ?_
  refine lv_iconst (v := 2) hx hb dL_law_812 (by decide) ?_
  refine lv_iadd hx hb dL_law_813 ?_
  refine va_sld hx hb hX hbl hbA hS i2 dL_law_814 ?_
  refine x_ci (x_runV (As := [.int (xs (x3 + 1).toNatClampNeg), .int (xs (x3 + 2).toNatClampNeg)]) (rest := []) X hP hS 203 (by decide) cl_F rfl (tX6_walk l X.2.2.2.2.2.2.1 hc) mi_L_98 rfl hl.1 rfl (Nat.le_of_ble_eq_true rfl) dL_law_815 ⟨Nat.le_of_ble_eq_true rfl, Nat.le_of_ble_eq_true rfl⟩ ⟨Nat.le_of_ble_eq_true rfl, Nat.le_of_ble_eq_true rfl⟩) hS (fun H locs hP hS => ?_)
  refine lv_aload_n hx hb dL_law_818 rfl (lv_at hl 2 rfl) ?_
  refine lv_aload_n hx hb dL_law_819 rfl (lv_at hl 0 rfl) ?_
  refine lv_iload_n hx hb dL_law_820 rfl (lv_at hl 3 rfl) ?_
  refine lv_iconst (v := 1) hx hb dL_law_821 (by decide) ?_
  refine lv_iadd hx hb dL_law_822 ?_
  refine va_sld hx hb hX hbl hbA hS i1 dL_law_823 ?_
  refine lv_aload_n hx hb dL_law_824 rfl (lv_at hl 0 rfl) ?_
  refine lv_iload_n hx hb dL_law_825 rfl (lv_at hl 3 rfl) ?_
  refine lv_iconst (v := 2) hx hb dL_law_826 (by decide) ?_
  refine lv_iadd hx hb dL_law_827 ?_
  refine va_sld hx hb hX hbl hbA hS i2 dL_law_828 ?_
  refine x_ci (x_runV (As := [.int (xs (x3 + 1).toNatClampNeg), .int (xs (x3 + 2).toNatClampNeg)]) (rest := [.int r]) X hP hS 246 (by decide) cl_M rfl (tX7_walk l X.2.2.2.2.2.2.1 hm) mi_L_101 rfl hl.1 rfl (Nat.le_of_ble_eq_true rfl) dL_law_829 ⟨Nat.le_of_ble_eq_true rfl, Nat.le_of_ble_eq_true rfl⟩ ⟨Nat.le_of_ble_eq_true rfl, Nat.le_of_ble_eq_true rfl⟩) hS (fun H locs hP hS => ?_)
  refine lv_icmp_eq (tgt := 1432) hx hb dL_law_832 (by decide) (fun _ => kk h1 k1 H locs hR1 hP hS) (fun q => absurd rfl q)
def St_meet (RR : Hp → Hp → Prop) : Prop := ∀ (h k : Hp) (a1 : Int32), RR h k → ∃ (r : Int32) (h1 k1 : Hp), fX6_meet a1 h = some (r, h1) ∧ fX7_meet a1 k = some (r, k1) ∧ RR h1 k1
set_option maxRecDepth 100000 in
set_option maxHeartbeats 4000000 in
theorem lw_c_meet {p : Program} {l : Launch} {e : Env} {s : State} {m : MethodId} {args : Array Value} {below : List Frame} {meth : Method} {c : Code} {Q : State → Prop} {g : Gx} (X : Cx p s m args c code 4 RL g) {b L : Nat} {xs : Nat → Int32} (hX : va_X b L xs s s.heap) (hbl : b < s.heap.size) (hbA : ¬ inA g b) {RR : Hp → Hp → Prop} (st : St_meet RR) {h k : Hp} (hR : RR h k) {H : Heap} {locs : List Loc} {ls : Array Slot} (hP : va_P g.1 vwCl (WW g h k) H) (hS : va_S (inA g) s.heap H locs) {x3 : Int32} (i1 : vp_in (x3 + 1) L) (hl : lv_has ls 4 [(0, .ref b), (1, .ref (g.2.2 203)), (2, .ref (g.2.2 246)), (3, .int x3)])
    (kk : ∀ (h1 k1 : Hp) (H1 : Heap) (locs1 : List Loc), RR h1 k1 → va_P g.1 vwCl (WW g h1 k1) H1 → va_S (inA g) s.heap H1 locs1 → W p l e room_1 s m args below meth c H1 locs1 600000 7302250 Q (F0 m 1432 ls [])) : W p l e room_1 s m args below meth c H locs 600000 7302250 Q (F0 m 837 ls []) := by
  have hx := X.1
  have hb := X.2.1
  obtain ⟨r, h1, k1, hc, hm, hR1⟩ := st h k (xs (x3 + 1).toNatClampNeg) hR
  refine lv_aload_n hx hb dL_law_837 rfl (lv_at hl 1 rfl) ?_
  refine lv_aload_n hx hb dL_law_838 rfl (lv_at hl 0 rfl) ?_
  refine lv_iload_n hx hb dL_law_839 rfl (lv_at hl 3 rfl) ?_
  refine lv_iconst (v := 1) hx hb dL_law_840 (by decide) ?_
  refine lv_iadd hx hb dL_law_841 ?_
  refine va_sld hx hb hX hbl hbA hS i1 dL_law_842 ?_
  refine x_ci (x_runV (As := [.int (xs (x3 + 1).toNatClampNeg)]) (rest := []) X hP hS 203 (by decide) cl_F rfl (tX6_meet l X.2.2.2.2.2.2.1 hc) mi_L_102 rfl hl.1 rfl (Nat.le_of_ble_eq_true rfl) dL_law_843 ⟨Nat.le_of_ble_eq_true rfl, Nat.le_of_ble_eq_true rfl⟩ ⟨Nat.le_of_ble_eq_true rfl, Nat.le_of_ble_eq_true rfl⟩) hS (fun H locs hP hS => ?_)
  refine lv_aload_n hx hb dL_law_846 rfl (lv_at hl 2 rfl) ?_
  refine lv_aload_n hx hb dL_law_847 rfl (lv_at hl 0 rfl) ?_
  refine lv_iload_n hx hb dL_law_848 rfl (lv_at hl 3 rfl) ?_
  refine lv_iconst (v := 1) hx hb dL_law_849 (by decide) ?_
  refine lv_iadd hx hb dL_law_850 ?_
  refine va_sld hx hb hX hbl hbA hS i1 dL_law_851 ?_
  refine x_ci (x_runV (As := [.int (xs (x3 + 1).toNatClampNeg)]) (rest := [.int r]) X hP hS 246 (by decide) cl_M rfl (tX7_meet l X.2.2.2.2.2.2.1 hm) mi_L_105 rfl hl.1 rfl (Nat.le_of_ble_eq_true rfl) dL_law_852 ⟨Nat.le_of_ble_eq_true rfl, Nat.le_of_ble_eq_true rfl⟩ ⟨Nat.le_of_ble_eq_true rfl, Nat.le_of_ble_eq_true rfl⟩) hS (fun H locs hP hS => ?_)
  refine lv_icmp_eq (tgt := 1432) hx hb dL_law_855 (by decide) (fun _ => kk h1 k1 H locs hR1 hP hS) (fun q => absurd rfl q)
def St_site (RR : Hp → Hp → Prop) : Prop := ∀ (h k : Hp) (a1 a2 : Int32), RR h k → ∃ (r : Int32) (h1 k1 : Hp), fX6_site a1 a2 h = some (r, h1) ∧ fX7_site a1 a2 k = some (r, k1) ∧ RR h1 k1
set_option maxRecDepth 100000 in
set_option maxHeartbeats 4000000 in
theorem lw_c_site {p : Program} {l : Launch} {e : Env} {s : State} {m : MethodId} {args : Array Value} {below : List Frame} {meth : Method} {c : Code} {Q : State → Prop} {g : Gx} (X : Cx p s m args c code 4 RL g) {b L : Nat} {xs : Nat → Int32} (hX : va_X b L xs s s.heap) (hbl : b < s.heap.size) (hbA : ¬ inA g b) {RR : Hp → Hp → Prop} (st : St_site RR) {h k : Hp} (hR : RR h k) {H : Heap} {locs : List Loc} {ls : Array Slot} (hP : va_P g.1 vwCl (WW g h k) H) (hS : va_S (inA g) s.heap H locs) {x3 : Int32} (i1 : vp_in (x3 + 1) L) (i2 : vp_in (x3 + 2) L) (hl : lv_has ls 4 [(0, .ref b), (1, .ref (g.2.2 203)), (2, .ref (g.2.2 246)), (3, .int x3)])
    (kk : ∀ (h1 k1 : Hp) (H1 : Heap) (locs1 : List Loc), RR h1 k1 → va_P g.1 vwCl (WW g h1 k1) H1 → va_S (inA g) s.heap H1 locs1 → W p l e room_1 s m args below meth c H1 locs1 600000 7302250 Q (F0 m 1432 ls [])) : W p l e room_1 s m args below meth c H locs 600000 7302250 Q (F0 m 860 ls []) := by
  have hx := X.1
  have hb := X.2.1
  obtain ⟨r, h1, k1, hc, hm, hR1⟩ := st h k (xs (x3 + 1).toNatClampNeg) (xs (x3 + 2).toNatClampNeg) hR
  refine lv_aload_n hx hb dL_law_860 rfl (lv_at hl 1 rfl) ?_
  refine lv_aload_n hx hb dL_law_861 rfl (lv_at hl 0 rfl) ?_
  refine lv_iload_n hx hb dL_law_862 rfl (lv_at hl 3 rfl) ?_
  refine lv_iconst (v := 1) hx hb dL_law_863 (by decide) ?_
  refine lv_iadd hx hb dL_law_864 ?_
  refine va_sld hx hb hX hbl hbA hS i1 dL_law_865 ?_
  refine lv_aload_n hx hb dL_law_866 rfl (lv_at hl 0 rfl) ?_
  refine lv_iload_n hx hb dL_law_867 rfl (lv_at hl 3 rfl) ?_
  refine lv_iconst (v := 2) hx hb dL_law_868 (by decide) ?_
  refine lv_iadd hx hb dL_law_869 ?_
  refine va_sld hx hb hX hbl hbA hS i2 dL_law_870 ?_
  refine x_ci (x_runV (As := [.int (xs (x3 + 1).toNatClampNeg), .int (xs (x3 + 2).toNatClampNeg)]) (rest := []) X hP hS 203 (by decide) cl_F rfl (tX6_site l X.2.2.2.2.2.2.1 hc) mi_L_106 rfl hl.1 rfl (Nat.le_of_ble_eq_true rfl) dL_law_871 ⟨Nat.le_of_ble_eq_true rfl, Nat.le_of_ble_eq_true rfl⟩ ⟨Nat.le_of_ble_eq_true rfl, Nat.le_of_ble_eq_true rfl⟩) hS (fun H locs hP hS => ?_)
  refine lv_aload_n hx hb dL_law_874 rfl (lv_at hl 2 rfl) ?_
  refine lv_aload_n hx hb dL_law_875 rfl (lv_at hl 0 rfl) ?_
  refine lv_iload_n hx hb dL_law_876 rfl (lv_at hl 3 rfl) ?_
  refine lv_iconst (v := 1) hx hb dL_law_877 (by decide) ?_
  refine lv_iadd hx hb dL_law_878 ?_
  refine va_sld hx hb hX hbl hbA hS i1 dL_law_879 ?_
  refine lv_aload_n hx hb dL_law_880 rfl (lv_at hl 0 rfl) ?_
  refine lv_iload_n hx hb dL_law_881 rfl (lv_at hl 3 rfl) ?_
  refine lv_iconst (v := 2) hx hb dL_law_882 (by decide) ?_
  refine lv_iadd hx hb dL_law_883 ?_
  refine va_sld hx hb hX hbl hbA hS i2 dL_law_884 ?_
  refine x_ci (x_runV (As := [.int (xs (x3 + 1).toNatClampNeg), .int (xs (x3 + 2).toNatClampNeg)]) (rest := [.int r]) X hP hS 246 (by decide) cl_M rfl (tX7_site l X.2.2.2.2.2.2.1 hm) mi_L_109 rfl hl.1 rfl (Nat.le_of_ble_eq_true rfl) dL_law_885 ⟨Nat.le_of_ble_eq_true rfl, Nat.le_of_ble_eq_true rfl⟩ ⟨Nat.le_of_ble_eq_true rfl, Nat.le_of_ble_eq_true rfl⟩) hS (fun H locs hP hS => ?_)
  refine lv_icmp_eq (tgt := 1432) hx hb dL_law_888 (by decide) (fun _ => kk h1 k1 H locs hR1 hP hS) (fun q => absurd rfl q)
def St_waking (RR : Hp → Hp → Prop) : Prop := ∀ (h k : Hp) (a1 a2 : Int32), RR h k → ∃ (r : Int32) (h1 k1 : Hp), fX6_waking a1 a2 h = some (r, h1) ∧ fX7_waking a1 a2 k = some (r, k1) ∧ RR h1 k1
set_option maxRecDepth 100000 in
set_option maxHeartbeats 4000000 in
theorem lw_c_waking {p : Program} {l : Launch} {e : Env} {s : State} {m : MethodId} {args : Array Value} {below : List Frame} {meth : Method} {c : Code} {Q : State → Prop} {g : Gx} (X : Cx p s m args c code 4 RL g) {b L : Nat} {xs : Nat → Int32} (hX : va_X b L xs s s.heap) (hbl : b < s.heap.size) (hbA : ¬ inA g b) {RR : Hp → Hp → Prop} (st : St_waking RR) {h k : Hp} (hR : RR h k) {H : Heap} {locs : List Loc} {ls : Array Slot} (hP : va_P g.1 vwCl (WW g h k) H) (hS : va_S (inA g) s.heap H locs) {x3 : Int32} (i1 : vp_in (x3 + 1) L) (i2 : vp_in (x3 + 2) L) (hl : lv_has ls 4 [(0, .ref b), (1, .ref (g.2.2 203)), (2, .ref (g.2.2 246)), (3, .int x3)])
    (kk : ∀ (h1 k1 : Hp) (H1 : Heap) (locs1 : List Loc), RR h1 k1 → va_P g.1 vwCl (WW g h1 k1) H1 → va_S (inA g) s.heap H1 locs1 → W p l e room_1 s m args below meth c H1 locs1 600000 7302250 Q (F0 m 1432 ls [])) : W p l e room_1 s m args below meth c H locs 600000 7302250 Q (F0 m 893 ls []) := by
  have hx := X.1
  have hb := X.2.1
  obtain ⟨r, h1, k1, hc, hm, hR1⟩ := st h k (xs (x3 + 1).toNatClampNeg) (xs (x3 + 2).toNatClampNeg) hR
  refine lv_aload_n hx hb dL_law_893 rfl (lv_at hl 1 rfl) ?_
  refine lv_aload_n hx hb dL_law_894 rfl (lv_at hl 0 rfl) ?_
  refine lv_iload_n hx hb dL_law_895 rfl (lv_at hl 3 rfl) ?_
  refine lv_iconst (v := 1) hx hb dL_law_896 (by decide) ?_
  refine lv_iadd hx hb dL_law_897 ?_
  refine va_sld hx hb hX hbl hbA hS i1 dL_law_898 ?_
  refine lv_aload_n hx hb dL_law_899 rfl (lv_at hl 0 rfl) ?_
  refine lv_iload_n hx hb dL_law_900 rfl (lv_at hl 3 rfl) ?_
  refine lv_iconst (v := 2) hx hb dL_law_901 (by decide) ?_
  refine lv_iadd hx hb dL_law_902 ?_
  refine va_sld hx hb hX hbl hbA hS i2 dL_law_903 ?_
  refine x_ci (x_runV (As := [.int (xs (x3 + 1).toNatClampNeg), .int (xs (x3 + 2).toNatClampNeg)]) (rest := []) X hP hS 203 (by decide) cl_F rfl (tX6_waking l X.2.2.2.2.2.2.1 hc) mi_L_110 rfl hl.1 rfl (Nat.le_of_ble_eq_true rfl) dL_law_904 ⟨Nat.le_of_ble_eq_true rfl, Nat.le_of_ble_eq_true rfl⟩ ⟨Nat.le_of_ble_eq_true rfl, Nat.le_of_ble_eq_true rfl⟩) hS (fun H locs hP hS => ?_)
  refine lv_aload_n hx hb dL_law_907 rfl (lv_at hl 2 rfl) ?_
  refine lv_aload_n hx hb dL_law_908 rfl (lv_at hl 0 rfl) ?_
  refine lv_iload_n hx hb dL_law_909 rfl (lv_at hl 3 rfl) ?_
  refine lv_iconst (v := 1) hx hb dL_law_910 (by decide) ?_
  refine lv_iadd hx hb dL_law_911 ?_
  refine va_sld hx hb hX hbl hbA hS i1 dL_law_912 ?_
  refine lv_aload_n hx hb dL_law_913 rfl (lv_at hl 0 rfl) ?_
  refine lv_iload_n hx hb dL_law_914 rfl (lv_at hl 3 rfl) ?_
  refine lv_iconst (v := 2) hx hb dL_law_915 (by decide) ?_
  refine lv_iadd hx hb dL_law_916 ?_
  refine va_sld hx hb hX hbl hbA hS i2 dL_law_917 ?_
  refine x_ci (x_runV (As := [.int (xs (x3 + 1).toNatClampNeg), .int (xs (x3 + 2).toNatClampNeg)]) (rest := [.int r]) X hP hS 246 (by decide) cl_M rfl (tX7_waking l X.2.2.2.2.2.2.1 hm) mi_L_113 rfl hl.1 rfl (Nat.le_of_ble_eq_true rfl) dL_law_918 ⟨Nat.le_of_ble_eq_true rfl, Nat.le_of_ble_eq_true rfl⟩ ⟨Nat.le_of_ble_eq_true rfl, Nat.le_of_ble_eq_true rfl⟩) hS (fun H locs hP hS => ?_)
  refine lv_icmp_eq (tgt := 1432) hx hb dL_law_921 (by decide) (fun _ => kk h1 k1 H locs hR1 hP hS) (fun q => absurd rfl q)
def St_meant (RR : Hp → Hp → Prop) : Prop := ∀ (h k : Hp) (a1 a2 : Int32), RR h k → ∃ (r : Int32) (h1 k1 : Hp), fX6_meant a1 a2 h = some (r, h1) ∧ fX7_meant a1 a2 k = some (r, k1) ∧ RR h1 k1
set_option maxRecDepth 100000 in
set_option maxHeartbeats 4000000 in
theorem lw_c_meant {p : Program} {l : Launch} {e : Env} {s : State} {m : MethodId} {args : Array Value} {below : List Frame} {meth : Method} {c : Code} {Q : State → Prop} {g : Gx} (X : Cx p s m args c code 4 RL g) {b L : Nat} {xs : Nat → Int32} (hX : va_X b L xs s s.heap) (hbl : b < s.heap.size) (hbA : ¬ inA g b) {RR : Hp → Hp → Prop} (st : St_meant RR) {h k : Hp} (hR : RR h k) {H : Heap} {locs : List Loc} {ls : Array Slot} (hP : va_P g.1 vwCl (WW g h k) H) (hS : va_S (inA g) s.heap H locs) {x3 : Int32} (i1 : vp_in (x3 + 1) L) (i2 : vp_in (x3 + 2) L) (hl : lv_has ls 4 [(0, .ref b), (1, .ref (g.2.2 203)), (2, .ref (g.2.2 246)), (3, .int x3)])
    (kk : ∀ (h1 k1 : Hp) (H1 : Heap) (locs1 : List Loc), RR h1 k1 → va_P g.1 vwCl (WW g h1 k1) H1 → va_S (inA g) s.heap H1 locs1 → W p l e room_1 s m args below meth c H1 locs1 600000 7302250 Q (F0 m 1432 ls [])) : W p l e room_1 s m args below meth c H locs 600000 7302250 Q (F0 m 926 ls []) := by
  have hx := X.1
  have hb := X.2.1
  obtain ⟨r, h1, k1, hc, hm, hR1⟩ := st h k (xs (x3 + 1).toNatClampNeg) (xs (x3 + 2).toNatClampNeg) hR
  refine lv_aload_n hx hb dL_law_926 rfl (lv_at hl 1 rfl) ?_
  refine lv_aload_n hx hb dL_law_927 rfl (lv_at hl 0 rfl) ?_
  refine lv_iload_n hx hb dL_law_928 rfl (lv_at hl 3 rfl) ?_
  refine lv_iconst (v := 1) hx hb dL_law_929 (by decide) ?_
  refine lv_iadd hx hb dL_law_930 ?_
  refine va_sld hx hb hX hbl hbA hS i1 dL_law_931 ?_
  refine lv_aload_n hx hb dL_law_932 rfl (lv_at hl 0 rfl) ?_
  refine lv_iload_n hx hb dL_law_933 rfl (lv_at hl 3 rfl) ?_
  refine lv_iconst (v := 2) hx hb dL_law_934 (by decide) ?_
  refine lv_iadd hx hb dL_law_935 ?_
  refine va_sld hx hb hX hbl hbA hS i2 dL_law_936 ?_
  refine x_ci (x_runV (As := [.int (xs (x3 + 1).toNatClampNeg), .int (xs (x3 + 2).toNatClampNeg)]) (rest := []) X hP hS 203 (by decide) cl_F rfl (tX6_meant l X.2.2.2.2.2.2.1 hc) mi_L_114 rfl hl.1 rfl (Nat.le_of_ble_eq_true rfl) dL_law_937 ⟨Nat.le_of_ble_eq_true rfl, Nat.le_of_ble_eq_true rfl⟩ ⟨Nat.le_of_ble_eq_true rfl, Nat.le_of_ble_eq_true rfl⟩) hS (fun H locs hP hS => ?_)
  refine lv_aload_n hx hb dL_law_940 rfl (lv_at hl 2 rfl) ?_
  refine lv_aload_n hx hb dL_law_941 rfl (lv_at hl 0 rfl) ?_
  refine lv_iload_n hx hb dL_law_942 rfl (lv_at hl 3 rfl) ?_
  refine lv_iconst (v := 1) hx hb dL_law_943 (by decide) ?_
  refine lv_iadd hx hb dL_law_944 ?_
  refine va_sld hx hb hX hbl hbA hS i1 dL_law_945 ?_
  refine lv_aload_n hx hb dL_law_946 rfl (lv_at hl 0 rfl) ?_
  refine lv_iload_n hx hb dL_law_947 rfl (lv_at hl 3 rfl) ?_
  refine lv_iconst (v := 2) hx hb dL_law_948 (by decide) ?_
  refine lv_iadd hx hb dL_law_949 ?_
  refine va_sld hx hb hX hbl hbA hS i2 dL_law_950 ?_
  refine x_ci (x_runV (As := [.int (xs (x3 + 1).toNatClampNeg), .int (xs (x3 + 2).toNatClampNeg)]) (rest := [.int r]) X hP hS 246 (by decide) cl_M rfl (tX7_meant l X.2.2.2.2.2.2.1 hm) mi_L_117 rfl hl.1 rfl (Nat.le_of_ble_eq_true rfl) dL_law_951 ⟨Nat.le_of_ble_eq_true rfl, Nat.le_of_ble_eq_true rfl⟩ ⟨Nat.le_of_ble_eq_true rfl, Nat.le_of_ble_eq_true rfl⟩) hS (fun H locs hP hS => ?_)
  refine lv_icmp_eq (tgt := 1432) hx hb dL_law_954 (by decide) (fun _ => kk h1 k1 H locs hR1 hP hS) (fun q => absurd rfl q)
def St_share (RR : Hp → Hp → Prop) : Prop := ∀ (h k : Hp) (a1 a2 : Int32), RR h k → ∃ (r : Int32) (h1 k1 : Hp), fX6_share a1 a2 h = some (r, h1) ∧ fX7_share a1 a2 k = some (r, k1) ∧ RR h1 k1
set_option maxRecDepth 100000 in
set_option maxHeartbeats 4000000 in
theorem lw_c_share {p : Program} {l : Launch} {e : Env} {s : State} {m : MethodId} {args : Array Value} {below : List Frame} {meth : Method} {c : Code} {Q : State → Prop} {g : Gx} (X : Cx p s m args c code 4 RL g) {b L : Nat} {xs : Nat → Int32} (hX : va_X b L xs s s.heap) (hbl : b < s.heap.size) (hbA : ¬ inA g b) {RR : Hp → Hp → Prop} (st : St_share RR) {h k : Hp} (hR : RR h k) {H : Heap} {locs : List Loc} {ls : Array Slot} (hP : va_P g.1 vwCl (WW g h k) H) (hS : va_S (inA g) s.heap H locs) {x3 : Int32} (i1 : vp_in (x3 + 1) L) (i2 : vp_in (x3 + 2) L) (hl : lv_has ls 4 [(0, .ref b), (1, .ref (g.2.2 203)), (2, .ref (g.2.2 246)), (3, .int x3)])
    (kk : ∀ (h1 k1 : Hp) (H1 : Heap) (locs1 : List Loc), RR h1 k1 → va_P g.1 vwCl (WW g h1 k1) H1 → va_S (inA g) s.heap H1 locs1 → W p l e room_1 s m args below meth c H1 locs1 600000 7302250 Q (F0 m 1432 ls [])) : W p l e room_1 s m args below meth c H locs 600000 7302250 Q (F0 m 959 ls []) := by
  have hx := X.1
  have hb := X.2.1
  obtain ⟨r, h1, k1, hc, hm, hR1⟩ := st h k (xs (x3 + 1).toNatClampNeg) (xs (x3 + 2).toNatClampNeg) hR
  refine lv_aload_n hx hb dL_law_959 rfl (lv_at hl 1 rfl) ?_
  refine lv_aload_n hx hb dL_law_960 rfl (lv_at hl 0 rfl) ?_
  refine lv_iload_n hx hb dL_law_961 rfl (lv_at hl 3 rfl) ?_
  refine lv_iconst (v := 1) hx hb dL_law_962 (by decide) ?_
  refine lv_iadd hx hb dL_law_963 ?_
  refine va_sld hx hb hX hbl hbA hS i1 dL_law_964 ?_
  refine lv_aload_n hx hb dL_law_965 rfl (lv_at hl 0 rfl) ?_
  refine lv_iload_n hx hb dL_law_966 rfl (lv_at hl 3 rfl) ?_
  refine lv_iconst (v := 2) hx hb dL_law_967 (by decide) ?_
  refine lv_iadd hx hb dL_law_968 ?_
  refine va_sld hx hb hX hbl hbA hS i2 dL_law_969 ?_
  refine x_ci (x_runV (As := [.int (xs (x3 + 1).toNatClampNeg), .int (xs (x3 + 2).toNatClampNeg)]) (rest := []) X hP hS 203 (by decide) cl_F rfl (tX6_share l X.2.2.2.2.2.2.1 hc) mi_L_118 rfl hl.1 rfl (Nat.le_of_ble_eq_true rfl) dL_law_970 ⟨Nat.le_of_ble_eq_true rfl, Nat.le_of_ble_eq_true rfl⟩ ⟨Nat.le_of_ble_eq_true rfl, Nat.le_of_ble_eq_true rfl⟩) hS (fun H locs hP hS => ?_)
  refine lv_aload_n hx hb dL_law_973 rfl (lv_at hl 2 rfl) ?_
  refine lv_aload_n hx hb dL_law_974 rfl (lv_at hl 0 rfl) ?_
  refine lv_iload_n hx hb dL_law_975 rfl (lv_at hl 3 rfl) ?_
  refine lv_iconst (v := 1) hx hb dL_law_976 (by decide) ?_
  refine lv_iadd hx hb dL_law_977 ?_
  refine va_sld hx hb hX hbl hbA hS i1 dL_law_978 ?_
  refine lv_aload_n hx hb dL_law_979 rfl (lv_at hl 0 rfl) ?_
  refine lv_iload_n hx hb dL_law_980 rfl (lv_at hl 3 rfl) ?_
  refine lv_iconst (v := 2) hx hb dL_law_981 (by decide) ?_
  refine lv_iadd hx hb dL_law_982 ?_
  refine va_sld hx hb hX hbl hbA hS i2 dL_law_983 ?_
  refine x_ci (x_runV (As := [.int (xs (x3 + 1).toNatClampNeg), .int (xs (x3 + 2).toNatClampNeg)]) (rest := [.int r]) X hP hS 246 (by decide) cl_M rfl (tX7_share l X.2.2.2.2.2.2.1 hm) mi_L_121 rfl hl.1 rfl (Nat.le_of_ble_eq_true rfl) dL_law_984 ⟨Nat.le_of_ble_eq_true rfl, Nat.le_of_ble_eq_true rfl⟩ ⟨Nat.le_of_ble_eq_true rfl, Nat.le_of_ble_eq_true rfl⟩) hS (fun H locs hP hS => ?_)
  refine lv_icmp_eq (tgt := 1432) hx hb dL_law_987 (by decide) (fun _ => kk h1 k1 H locs hR1 hP hS) (fun q => absurd rfl q)
def St_byTurns (RR : Hp → Hp → Prop) : Prop := ∀ (h k : Hp) (a1 a2 : Int32), RR h k → ∃ (r : Int32) (h1 k1 : Hp), fX6_byTurns a1 a2 h = some (r, h1) ∧ fX7_byTurns a1 a2 k = some (r, k1) ∧ RR h1 k1
set_option maxRecDepth 100000 in
set_option maxHeartbeats 4000000 in
theorem lw_c_byTurns {p : Program} {l : Launch} {e : Env} {s : State} {m : MethodId} {args : Array Value} {below : List Frame} {meth : Method} {c : Code} {Q : State → Prop} {g : Gx} (X : Cx p s m args c code 4 RL g) {b L : Nat} {xs : Nat → Int32} (hX : va_X b L xs s s.heap) (hbl : b < s.heap.size) (hbA : ¬ inA g b) {RR : Hp → Hp → Prop} (st : St_byTurns RR) {h k : Hp} (hR : RR h k) {H : Heap} {locs : List Loc} {ls : Array Slot} (hP : va_P g.1 vwCl (WW g h k) H) (hS : va_S (inA g) s.heap H locs) {x3 : Int32} (i1 : vp_in (x3 + 1) L) (i2 : vp_in (x3 + 2) L) (hl : lv_has ls 4 [(0, .ref b), (1, .ref (g.2.2 203)), (2, .ref (g.2.2 246)), (3, .int x3)])
    (kk : ∀ (h1 k1 : Hp) (H1 : Heap) (locs1 : List Loc), RR h1 k1 → va_P g.1 vwCl (WW g h1 k1) H1 → va_S (inA g) s.heap H1 locs1 → W p l e room_1 s m args below meth c H1 locs1 600000 7302250 Q (F0 m 1432 ls [])) : W p l e room_1 s m args below meth c H locs 600000 7302250 Q (F0 m 992 ls []) := by
  have hx := X.1
  have hb := X.2.1
  obtain ⟨r, h1, k1, hc, hm, hR1⟩ := st h k (xs (x3 + 1).toNatClampNeg) (xs (x3 + 2).toNatClampNeg) hR
  refine lv_aload_n hx hb dL_law_992 rfl (lv_at hl 1 rfl) ?_
  refine lv_aload_n hx hb dL_law_993 rfl (lv_at hl 0 rfl) ?_
  refine lv_iload_n hx hb dL_law_994 rfl (lv_at hl 3 rfl) ?_
  refine lv_iconst (v := 1) hx hb dL_law_995 (by decide) ?_
  refine lv_iadd hx hb dL_law_996 ?_
  refine va_sld hx hb hX hbl hbA hS i1 dL_law_997 ?_
  refine lv_aload_n hx hb dL_law_998 rfl (lv_at hl 0 rfl) ?_
  refine lv_iload_n hx hb dL_law_999 rfl (lv_at hl 3 rfl) ?_
  refine lv_iconst (v := 2) hx hb dL_law_1000 (by decide) ?_
  refine lv_iadd hx hb dL_law_1001 ?_
  refine va_sld hx hb hX hbl hbA hS i2 dL_law_1002 ?_
  refine x_ci (x_runV (As := [.int (xs (x3 + 1).toNatClampNeg), .int (xs (x3 + 2).toNatClampNeg)]) (rest := []) X hP hS 203 (by decide) cl_F rfl (tX6_byTurns l X.2.2.2.2.2.2.1 hc) mi_L_122 rfl hl.1 rfl (Nat.le_of_ble_eq_true rfl) dL_law_1003 ⟨Nat.le_of_ble_eq_true rfl, Nat.le_of_ble_eq_true rfl⟩ ⟨Nat.le_of_ble_eq_true rfl, Nat.le_of_ble_eq_true rfl⟩) hS (fun H locs hP hS => ?_)
  refine lv_aload_n hx hb dL_law_1006 rfl (lv_at hl 2 rfl) ?_
  refine lv_aload_n hx hb dL_law_1007 rfl (lv_at hl 0 rfl) ?_
  refine lv_iload_n hx hb dL_law_1008 rfl (lv_at hl 3 rfl) ?_
  refine lv_iconst (v := 1) hx hb dL_law_1009 (by decide) ?_
  refine lv_iadd hx hb dL_law_1010 ?_
  refine va_sld hx hb hX hbl hbA hS i1 dL_law_1011 ?_
  refine lv_aload_n hx hb dL_law_1012 rfl (lv_at hl 0 rfl) ?_
  refine lv_iload_n hx hb dL_law_1013 rfl (lv_at hl 3 rfl) ?_
  refine lv_iconst (v := 2) hx hb dL_law_1014 (by decide) ?_
  refine lv_iadd hx hb dL_law_1015 ?_
  refine va_sld hx hb hX hbl hbA hS i2 dL_law_1016 ?_
  refine x_ci (x_runV (As := [.int (xs (x3 + 1).toNatClampNeg), .int (xs (x3 + 2).toNatClampNeg)]) (rest := [.int r]) X hP hS 246 (by decide) cl_M rfl (tX7_byTurns l X.2.2.2.2.2.2.1 hm) mi_L_125 rfl hl.1 rfl (Nat.le_of_ble_eq_true rfl) dL_law_1017 ⟨Nat.le_of_ble_eq_true rfl, Nat.le_of_ble_eq_true rfl⟩ ⟨Nat.le_of_ble_eq_true rfl, Nat.le_of_ble_eq_true rfl⟩) hS (fun H locs hP hS => ?_)
  refine lv_icmp_eq (tgt := 1432) hx hb dL_law_1020 (by decide) (fun _ => kk h1 k1 H locs hR1 hP hS) (fun q => absurd rfl q)
def St_who (RR : Hp → Hp → Prop) : Prop := ∀ (h k : Hp) (a1 a2 a3 a4 a5 : Int32), RR h k → ∃ (r : Int32) (h1 k1 : Hp), fX6_who a1 a2 a3 a4 a5 h = some (r, h1) ∧ fX7_who a1 a2 a3 a4 a5 k = some (r, k1) ∧ RR h1 k1
set_option maxRecDepth 100000 in
set_option maxHeartbeats 4000000 in
theorem lw_c_who {p : Program} {l : Launch} {e : Env} {s : State} {m : MethodId} {args : Array Value} {below : List Frame} {meth : Method} {c : Code} {Q : State → Prop} {g : Gx} (X : Cx p s m args c code 4 RL g) {b L : Nat} {xs : Nat → Int32} (hX : va_X b L xs s s.heap) (hbl : b < s.heap.size) (hbA : ¬ inA g b) {RR : Hp → Hp → Prop} (st : St_who RR) {h k : Hp} (hR : RR h k) {H : Heap} {locs : List Loc} {ls : Array Slot} (hP : va_P g.1 vwCl (WW g h k) H) (hS : va_S (inA g) s.heap H locs) {x3 : Int32} (i1 : vp_in (x3 + 1) L) (i2 : vp_in (x3 + 2) L) (i3 : vp_in (x3 + 3) L) (i4 : vp_in (x3 + 4) L) (i5 : vp_in (x3 + 5) L) (hl : lv_has ls 4 [(0, .ref b), (1, .ref (g.2.2 203)), (2, .ref (g.2.2 246)), (3, .int x3)])
    (kk : ∀ (h1 k1 : Hp) (H1 : Heap) (locs1 : List Loc), RR h1 k1 → va_P g.1 vwCl (WW g h1 k1) H1 → va_S (inA g) s.heap H1 locs1 → W p l e room_1 s m args below meth c H1 locs1 600000 7302250 Q (F0 m 1432 ls [])) : W p l e room_1 s m args below meth c H locs 600000 7302250 Q (F0 m 1025 ls []) := by
  have hx := X.1
  have hb := X.2.1
  obtain ⟨r, h1, k1, hc, hm, hR1⟩ := st h k (xs (x3 + 1).toNatClampNeg) (xs (x3 + 2).toNatClampNeg) (xs (x3 + 3).toNatClampNeg) (xs (x3 + 4).toNatClampNeg) (xs (x3 + 5).toNatClampNeg) hR
  refine lv_aload_n hx hb dL_law_1025 rfl (lv_at hl 1 rfl) ?_
  refine lv_aload_n hx hb dL_law_1026 rfl (lv_at hl 0 rfl) ?_
  refine lv_iload_n hx hb dL_law_1027 rfl (lv_at hl 3 rfl) ?_
  refine lv_iconst (v := 1) hx hb dL_law_1028 (by decide) ?_
  refine lv_iadd hx hb dL_law_1029 ?_
  refine va_sld hx hb hX hbl hbA hS i1 dL_law_1030 ?_
  refine lv_aload_n hx hb dL_law_1031 rfl (lv_at hl 0 rfl) ?_
  refine lv_iload_n hx hb dL_law_1032 rfl (lv_at hl 3 rfl) ?_
  refine lv_iconst (v := 2) hx hb dL_law_1033 (by decide) ?_
  refine lv_iadd hx hb dL_law_1034 ?_
  refine va_sld hx hb hX hbl hbA hS i2 dL_law_1035 ?_
  refine lv_aload_n hx hb dL_law_1036 rfl (lv_at hl 0 rfl) ?_
  refine lv_iload_n hx hb dL_law_1037 rfl (lv_at hl 3 rfl) ?_
  refine lv_iconst (v := 3) hx hb dL_law_1038 (by decide) ?_
  refine lv_iadd hx hb dL_law_1039 ?_
  refine va_sld hx hb hX hbl hbA hS i3 dL_law_1040 ?_
  refine lv_aload_n hx hb dL_law_1041 rfl (lv_at hl 0 rfl) ?_
  refine lv_iload_n hx hb dL_law_1042 rfl (lv_at hl 3 rfl) ?_
  refine lv_iconst (v := 4) hx hb dL_law_1043 (by decide) ?_
  refine lv_iadd hx hb dL_law_1044 ?_
  refine va_sld hx hb hX hbl hbA hS i4 dL_law_1045 ?_
  refine lv_aload_n hx hb dL_law_1046 rfl (lv_at hl 0 rfl) ?_
  refine lv_iload_n hx hb dL_law_1047 rfl (lv_at hl 3 rfl) ?_
  refine lv_iconst (v := 5) hx hb dL_law_1048 (by decide) ?_
  refine lv_iadd hx hb dL_law_1049 ?_
  refine va_sld hx hb hX hbl hbA hS i5 dL_law_1050 ?_
  refine x_ci (x_runV (As := [.int (xs (x3 + 1).toNatClampNeg), .int (xs (x3 + 2).toNatClampNeg), .int (xs (x3 + 3).toNatClampNeg), .int (xs (x3 + 4).toNatClampNeg), .int (xs (x3 + 5).toNatClampNeg)]) (rest := []) X hP hS 203 (by decide) cl_F rfl (tX6_who l X.2.2.2.2.2.2.1 hc) mi_L_126 rfl hl.1 rfl (Nat.le_of_ble_eq_true rfl) dL_law_1051 ⟨Nat.le_of_ble_eq_true rfl, Nat.le_of_ble_eq_true rfl⟩ ⟨Nat.le_of_ble_eq_true rfl, Nat.le_of_ble_eq_true rfl⟩) hS (fun H locs hP hS => ?_)
  refine lv_aload_n hx hb dL_law_1054 rfl (lv_at hl 2 rfl) ?_
  refine lv_aload_n hx hb dL_law_1055 rfl (lv_at hl 0 rfl) ?_
  refine lv_iload_n hx hb dL_law_1056 rfl (lv_at hl 3 rfl) ?_
  refine lv_iconst (v := 1) hx hb dL_law_1057 (by decide) ?_
  refine lv_iadd hx hb dL_law_1058 ?_
  refine va_sld hx hb hX hbl hbA hS i1 dL_law_1059 ?_
  refine lv_aload_n hx hb dL_law_1060 rfl (lv_at hl 0 rfl) ?_
  refine lv_iload_n hx hb dL_law_1061 rfl (lv_at hl 3 rfl) ?_
  refine lv_iconst (v := 2) hx hb dL_law_1062 (by decide) ?_
  refine lv_iadd hx hb dL_law_1063 ?_
  refine va_sld hx hb hX hbl hbA hS i2 dL_law_1064 ?_
  refine lv_aload_n hx hb dL_law_1065 rfl (lv_at hl 0 rfl) ?_
  refine lv_iload_n hx hb dL_law_1066 rfl (lv_at hl 3 rfl) ?_
  refine lv_iconst (v := 3) hx hb dL_law_1067 (by decide) ?_
  refine lv_iadd hx hb dL_law_1068 ?_
  refine va_sld hx hb hX hbl hbA hS i3 dL_law_1069 ?_
  refine lv_aload_n hx hb dL_law_1070 rfl (lv_at hl 0 rfl) ?_
  refine lv_iload_n hx hb dL_law_1071 rfl (lv_at hl 3 rfl) ?_
  refine lv_iconst (v := 4) hx hb dL_law_1072 (by decide) ?_
  refine lv_iadd hx hb dL_law_1073 ?_
  refine va_sld hx hb hX hbl hbA hS i4 dL_law_1074 ?_
  refine lv_aload_n hx hb dL_law_1075 rfl (lv_at hl 0 rfl) ?_
  refine lv_iload_n hx hb dL_law_1076 rfl (lv_at hl 3 rfl) ?_
  refine lv_iconst (v := 5) hx hb dL_law_1077 (by decide) ?_
  refine lv_iadd hx hb dL_law_1078 ?_
  refine va_sld hx hb hX hbl hbA hS i5 dL_law_1079 ?_
  refine x_ci (x_runV (As := [.int (xs (x3 + 1).toNatClampNeg), .int (xs (x3 + 2).toNatClampNeg), .int (xs (x3 + 3).toNatClampNeg), .int (xs (x3 + 4).toNatClampNeg), .int (xs (x3 + 5).toNatClampNeg)]) (rest := [.int r]) X hP hS 246 (by decide) cl_M rfl (tX7_who l X.2.2.2.2.2.2.1 hm) mi_L_129 rfl hl.1 rfl (Nat.le_of_ble_eq_true rfl) dL_law_1080 ⟨Nat.le_of_ble_eq_true rfl, Nat.le_of_ble_eq_true rfl⟩ ⟨Nat.le_of_ble_eq_true rfl, Nat.le_of_ble_eq_true rfl⟩) hS (fun H locs hP hS => ?_)
  refine lv_icmp_eq (tgt := 1432) hx hb dL_law_1083 (by decide) (fun _ => kk h1 k1 H locs hR1 hP hS) (fun q => absurd rfl q)
def St_gusts (RR : Hp → Hp → Prop) : Prop := ∀ (h k : Hp) (a1 a2 a3 a4 : Int32), RR h k → ∃ (r : Int32) (h1 k1 : Hp), fX6_gusts a1 a2 a3 a4 h = some (r, h1) ∧ fX7_gusts a1 a2 a3 a4 k = some (r, k1) ∧ RR h1 k1
set_option maxRecDepth 100000 in
set_option maxHeartbeats 4000000 in
theorem lw_c_gusts {p : Program} {l : Launch} {e : Env} {s : State} {m : MethodId} {args : Array Value} {below : List Frame} {meth : Method} {c : Code} {Q : State → Prop} {g : Gx} (X : Cx p s m args c code 4 RL g) {b L : Nat} {xs : Nat → Int32} (hX : va_X b L xs s s.heap) (hbl : b < s.heap.size) (hbA : ¬ inA g b) {RR : Hp → Hp → Prop} (st : St_gusts RR) {h k : Hp} (hR : RR h k) {H : Heap} {locs : List Loc} {ls : Array Slot} (hP : va_P g.1 vwCl (WW g h k) H) (hS : va_S (inA g) s.heap H locs) {x3 : Int32} (i1 : vp_in (x3 + 1) L) (i2 : vp_in (x3 + 2) L) (i3 : vp_in (x3 + 3) L) (i4 : vp_in (x3 + 4) L) (hl : lv_has ls 4 [(0, .ref b), (1, .ref (g.2.2 203)), (2, .ref (g.2.2 246)), (3, .int x3)])
    (kk : ∀ (h1 k1 : Hp) (H1 : Heap) (locs1 : List Loc), RR h1 k1 → va_P g.1 vwCl (WW g h1 k1) H1 → va_S (inA g) s.heap H1 locs1 → W p l e room_1 s m args below meth c H1 locs1 600000 7302250 Q (F0 m 1432 ls [])) : W p l e room_1 s m args below meth c H locs 600000 7302250 Q (F0 m 1088 ls []) := by
  have hx := X.1
  have hb := X.2.1
  obtain ⟨r, h1, k1, hc, hm, hR1⟩ := st h k (xs (x3 + 1).toNatClampNeg) (xs (x3 + 2).toNatClampNeg) (xs (x3 + 3).toNatClampNeg) (xs (x3 + 4).toNatClampNeg) hR
  refine lv_aload_n hx hb dL_law_1088 rfl (lv_at hl 1 rfl) ?_
  refine lv_aload_n hx hb dL_law_1089 rfl (lv_at hl 0 rfl) ?_
  refine lv_iload_n hx hb dL_law_1090 rfl (lv_at hl 3 rfl) ?_
  refine lv_iconst (v := 1) hx hb dL_law_1091 (by decide) ?_
  refine lv_iadd hx hb dL_law_1092 ?_
  refine va_sld hx hb hX hbl hbA hS i1 dL_law_1093 ?_
  refine lv_aload_n hx hb dL_law_1094 rfl (lv_at hl 0 rfl) ?_
  refine lv_iload_n hx hb dL_law_1095 rfl (lv_at hl 3 rfl) ?_
  refine lv_iconst (v := 2) hx hb dL_law_1096 (by decide) ?_
  refine lv_iadd hx hb dL_law_1097 ?_
  refine va_sld hx hb hX hbl hbA hS i2 dL_law_1098 ?_
  refine lv_aload_n hx hb dL_law_1099 rfl (lv_at hl 0 rfl) ?_
  refine lv_iload_n hx hb dL_law_1100 rfl (lv_at hl 3 rfl) ?_
  refine lv_iconst (v := 3) hx hb dL_law_1101 (by decide) ?_
  refine lv_iadd hx hb dL_law_1102 ?_
  refine va_sld hx hb hX hbl hbA hS i3 dL_law_1103 ?_
  refine lv_aload_n hx hb dL_law_1104 rfl (lv_at hl 0 rfl) ?_
  refine lv_iload_n hx hb dL_law_1105 rfl (lv_at hl 3 rfl) ?_
  refine lv_iconst (v := 4) hx hb dL_law_1106 (by decide) ?_
  refine lv_iadd hx hb dL_law_1107 ?_
  refine va_sld hx hb hX hbl hbA hS i4 dL_law_1108 ?_
  refine x_ci (x_runV (As := [.int (xs (x3 + 1).toNatClampNeg), .int (xs (x3 + 2).toNatClampNeg), .int (xs (x3 + 3).toNatClampNeg), .int (xs (x3 + 4).toNatClampNeg)]) (rest := []) X hP hS 203 (by decide) cl_F rfl (tX6_gusts l X.2.2.2.2.2.2.1 hc) mi_L_130 rfl hl.1 rfl (Nat.le_of_ble_eq_true rfl) dL_law_1109 ⟨Nat.le_of_ble_eq_true rfl, Nat.le_of_ble_eq_true rfl⟩ ⟨Nat.le_of_ble_eq_true rfl, Nat.le_of_ble_eq_true rfl⟩) hS (fun H locs hP hS => ?_)
  refine lv_aload_n hx hb dL_law_1112 rfl (lv_at hl 2 rfl) ?_
  refine lv_aload_n hx hb dL_law_1113 rfl (lv_at hl 0 rfl) ?_
  refine lv_iload_n hx hb dL_law_1114 rfl (lv_at hl 3 rfl) ?_
  refine lv_iconst (v := 1) hx hb dL_law_1115 (by decide) ?_
  refine lv_iadd hx hb dL_law_1116 ?_
  refine va_sld hx hb hX hbl hbA hS i1 dL_law_1117 ?_
  refine lv_aload_n hx hb dL_law_1118 rfl (lv_at hl 0 rfl) ?_
  refine lv_iload_n hx hb dL_law_1119 rfl (lv_at hl 3 rfl) ?_
  refine lv_iconst (v := 2) hx hb dL_law_1120 (by decide) ?_
  refine lv_iadd hx hb dL_law_1121 ?_
  refine va_sld hx hb hX hbl hbA hS i2 dL_law_1122 ?_
  refine lv_aload_n hx hb dL_law_1123 rfl (lv_at hl 0 rfl) ?_
  refine lv_iload_n hx hb dL_law_1124 rfl (lv_at hl 3 rfl) ?_
  refine lv_iconst (v := 3) hx hb dL_law_1125 (by decide) ?_
  refine lv_iadd hx hb dL_law_1126 ?_
  refine va_sld hx hb hX hbl hbA hS i3 dL_law_1127 ?_
  refine lv_aload_n hx hb dL_law_1128 rfl (lv_at hl 0 rfl) ?_
  refine lv_iload_n hx hb dL_law_1129 rfl (lv_at hl 3 rfl) ?_
  refine lv_iconst (v := 4) hx hb dL_law_1130 (by decide) ?_
  refine lv_iadd hx hb dL_law_1131 ?_
  refine va_sld hx hb hX hbl hbA hS i4 dL_law_1132 ?_
  refine x_ci (x_runV (As := [.int (xs (x3 + 1).toNatClampNeg), .int (xs (x3 + 2).toNatClampNeg), .int (xs (x3 + 3).toNatClampNeg), .int (xs (x3 + 4).toNatClampNeg)]) (rest := [.int r]) X hP hS 246 (by decide) cl_M rfl (tX7_gusts l X.2.2.2.2.2.2.1 hm) mi_L_134 rfl hl.1 rfl (Nat.le_of_ble_eq_true rfl) dL_law_1133 ⟨Nat.le_of_ble_eq_true rfl, Nat.le_of_ble_eq_true rfl⟩ ⟨Nat.le_of_ble_eq_true rfl, Nat.le_of_ble_eq_true rfl⟩) hS (fun H locs hP hS => ?_)
  refine lv_icmp_eq (tgt := 1432) hx hb dL_law_1136 (by decide) (fun _ => kk h1 k1 H locs hR1 hP hS) (fun q => absurd rfl q)
def St_lift (RR : Hp → Hp → Prop) : Prop := ∀ (h k : Hp) (a1 a2 a3 a4 : Int32), RR h k → ∃ (r : Int64) (h1 k1 : Hp), fX6_lift a1 a2 a3 a4 h = some (r, h1) ∧ fX7_lift a1 a2 a3 a4 k = some (r, k1) ∧ RR h1 k1
set_option maxRecDepth 100000 in
set_option maxHeartbeats 4000000 in
theorem lw_c_lift {p : Program} {l : Launch} {e : Env} {s : State} {m : MethodId} {args : Array Value} {below : List Frame} {meth : Method} {c : Code} {Q : State → Prop} {g : Gx} (X : Cx p s m args c code 4 RL g) {b L : Nat} {xs : Nat → Int32} (hX : va_X b L xs s s.heap) (hbl : b < s.heap.size) (hbA : ¬ inA g b) {RR : Hp → Hp → Prop} (st : St_lift RR) {h k : Hp} (hR : RR h k) {H : Heap} {locs : List Loc} {ls : Array Slot} (hP : va_P g.1 vwCl (WW g h k) H) (hS : va_S (inA g) s.heap H locs) {x3 : Int32} (i1 : vp_in (x3 + 1) L) (i2 : vp_in (x3 + 2) L) (i3 : vp_in (x3 + 3) L) (i4 : vp_in (x3 + 4) L) (hl : lv_has ls 4 [(0, .ref b), (1, .ref (g.2.2 203)), (2, .ref (g.2.2 246)), (3, .int x3)])
    (kk : ∀ (h1 k1 : Hp) (H1 : Heap) (locs1 : List Loc), RR h1 k1 → va_P g.1 vwCl (WW g h1 k1) H1 → va_S (inA g) s.heap H1 locs1 → W p l e room_1 s m args below meth c H1 locs1 600000 7302250 Q (F0 m 1432 ls [])) : W p l e room_1 s m args below meth c H locs 600000 7302250 Q (F0 m 1141 ls []) := by
  have hx := X.1
  have hb := X.2.1
  obtain ⟨r, h1, k1, hc, hm, hR1⟩ := st h k (xs (x3 + 1).toNatClampNeg) (xs (x3 + 2).toNatClampNeg) (xs (x3 + 3).toNatClampNeg) (xs (x3 + 4).toNatClampNeg) hR
  refine lv_aload_n hx hb dL_law_1141 rfl (lv_at hl 1 rfl) ?_
  refine lv_aload_n hx hb dL_law_1142 rfl (lv_at hl 0 rfl) ?_
  refine lv_iload_n hx hb dL_law_1143 rfl (lv_at hl 3 rfl) ?_
  refine lv_iconst (v := 1) hx hb dL_law_1144 (by decide) ?_
  refine lv_iadd hx hb dL_law_1145 ?_
  refine va_sld hx hb hX hbl hbA hS i1 dL_law_1146 ?_
  refine lv_aload_n hx hb dL_law_1147 rfl (lv_at hl 0 rfl) ?_
  refine lv_iload_n hx hb dL_law_1148 rfl (lv_at hl 3 rfl) ?_
  refine lv_iconst (v := 2) hx hb dL_law_1149 (by decide) ?_
  refine lv_iadd hx hb dL_law_1150 ?_
  refine va_sld hx hb hX hbl hbA hS i2 dL_law_1151 ?_
  refine lv_aload_n hx hb dL_law_1152 rfl (lv_at hl 0 rfl) ?_
  refine lv_iload_n hx hb dL_law_1153 rfl (lv_at hl 3 rfl) ?_
  refine lv_iconst (v := 3) hx hb dL_law_1154 (by decide) ?_
  refine lv_iadd hx hb dL_law_1155 ?_
  refine va_sld hx hb hX hbl hbA hS i3 dL_law_1156 ?_
  refine lv_aload_n hx hb dL_law_1157 rfl (lv_at hl 0 rfl) ?_
  refine lv_iload_n hx hb dL_law_1158 rfl (lv_at hl 3 rfl) ?_
  refine lv_iconst (v := 4) hx hb dL_law_1159 (by decide) ?_
  refine lv_iadd hx hb dL_law_1160 ?_
  refine va_sld hx hb hX hbl hbA hS i4 dL_law_1161 ?_
  refine x_cl (x_runV (As := [.int (xs (x3 + 1).toNatClampNeg), .int (xs (x3 + 2).toNatClampNeg), .int (xs (x3 + 3).toNatClampNeg), .int (xs (x3 + 4).toNatClampNeg)]) (rest := []) X hP hS 203 (by decide) cl_F rfl (tX6_lift l X.2.2.2.2.2.2.1 hc) mi_L_135 rfl hl.1 rfl (Nat.le_of_ble_eq_true rfl) dL_law_1162 ⟨Nat.le_of_ble_eq_true rfl, Nat.le_of_ble_eq_true rfl⟩ ⟨Nat.le_of_ble_eq_true rfl, Nat.le_of_ble_eq_true rfl⟩) hS (fun H locs hP hS => ?_)
  refine lv_aload_n hx hb dL_law_1165 rfl (lv_at hl 2 rfl) ?_
  refine lv_aload_n hx hb dL_law_1166 rfl (lv_at hl 0 rfl) ?_
  refine lv_iload_n hx hb dL_law_1167 rfl (lv_at hl 3 rfl) ?_
  refine lv_iconst (v := 1) hx hb dL_law_1168 (by decide) ?_
  refine lv_iadd hx hb dL_law_1169 ?_
  refine va_sld hx hb hX hbl hbA hS i1 dL_law_1170 ?_
  refine lv_aload_n hx hb dL_law_1171 rfl (lv_at hl 0 rfl) ?_
  refine lv_iload_n hx hb dL_law_1172 rfl (lv_at hl 3 rfl) ?_
  refine lv_iconst (v := 2) hx hb dL_law_1173 (by decide) ?_
  refine lv_iadd hx hb dL_law_1174 ?_
  refine va_sld hx hb hX hbl hbA hS i2 dL_law_1175 ?_
  refine lv_aload_n hx hb dL_law_1176 rfl (lv_at hl 0 rfl) ?_
  refine lv_iload_n hx hb dL_law_1177 rfl (lv_at hl 3 rfl) ?_
  refine lv_iconst (v := 3) hx hb dL_law_1178 (by decide) ?_
  refine lv_iadd hx hb dL_law_1179 ?_
  refine va_sld hx hb hX hbl hbA hS i3 dL_law_1180 ?_
  refine lv_aload_n hx hb dL_law_1181 rfl (lv_at hl 0 rfl) ?_
  refine lv_iload_n hx hb dL_law_1182 rfl (lv_at hl 3 rfl) ?_
  refine lv_iconst (v := 4) hx hb dL_law_1183 (by decide) ?_
  refine lv_iadd hx hb dL_law_1184 ?_
  refine va_sld hx hb hX hbl hbA hS i4 dL_law_1185 ?_
  refine x_cl (x_runV (As := [.int (xs (x3 + 1).toNatClampNeg), .int (xs (x3 + 2).toNatClampNeg), .int (xs (x3 + 3).toNatClampNeg), .int (xs (x3 + 4).toNatClampNeg)]) (rest := [.long r]) X hP hS 246 (by decide) cl_M rfl (tX7_lift l X.2.2.2.2.2.2.1 hm) mi_L_139 rfl hl.1 rfl (Nat.le_of_ble_eq_true rfl) dL_law_1186 ⟨Nat.le_of_ble_eq_true rfl, Nat.le_of_ble_eq_true rfl⟩ ⟨Nat.le_of_ble_eq_true rfl, Nat.le_of_ble_eq_true rfl⟩) hS (fun H locs hP hS => ?_)
  refine W.lcmp hx hb dL_law_1189 ?_
  refine lv_if_eq (tgt := 1432) hx hb dL_law_1190 (by decide) (fun _ => kk h1 k1 H locs hR1 hP hS) (fun q => absurd (by simp [lg_cmp]) q)
def St_drawn (RR : Hp → Hp → Prop) : Prop := ∀ (h k : Hp) (a1 a2 a3 : Int32), RR h k → ∃ (r : Int32) (h1 k1 : Hp), fX6_drawn a1 a2 a3 h = some (r, h1) ∧ fX7_drawn a1 a2 a3 k = some (r, k1) ∧ RR h1 k1
set_option maxRecDepth 100000 in
set_option maxHeartbeats 4000000 in
theorem lw_c_drawn {p : Program} {l : Launch} {e : Env} {s : State} {m : MethodId} {args : Array Value} {below : List Frame} {meth : Method} {c : Code} {Q : State → Prop} {g : Gx} (X : Cx p s m args c code 4 RL g) {b L : Nat} {xs : Nat → Int32} (hX : va_X b L xs s s.heap) (hbl : b < s.heap.size) (hbA : ¬ inA g b) {RR : Hp → Hp → Prop} (st : St_drawn RR) {h k : Hp} (hR : RR h k) {H : Heap} {locs : List Loc} {ls : Array Slot} (hP : va_P g.1 vwCl (WW g h k) H) (hS : va_S (inA g) s.heap H locs) {x3 : Int32} (i1 : vp_in (x3 + 1) L) (i2 : vp_in (x3 + 2) L) (i3 : vp_in (x3 + 3) L) (hl : lv_has ls 4 [(0, .ref b), (1, .ref (g.2.2 203)), (2, .ref (g.2.2 246)), (3, .int x3)])
    (kk : ∀ (h1 k1 : Hp) (H1 : Heap) (locs1 : List Loc), RR h1 k1 → va_P g.1 vwCl (WW g h1 k1) H1 → va_S (inA g) s.heap H1 locs1 → W p l e room_1 s m args below meth c H1 locs1 600000 7302250 Q (F0 m 1432 ls [])) : W p l e room_1 s m args below meth c H locs 600000 7302250 Q (F0 m 1195 ls []) := by
  have hx := X.1
  have hb := X.2.1
  obtain ⟨r, h1, k1, hc, hm, hR1⟩ := st h k (xs (x3 + 1).toNatClampNeg) (xs (x3 + 2).toNatClampNeg) (xs (x3 + 3).toNatClampNeg) hR
  refine lv_aload_n hx hb dL_law_1195 rfl (lv_at hl 1 rfl) ?_
  refine lv_aload_n hx hb dL_law_1196 rfl (lv_at hl 0 rfl) ?_
  refine lv_iload_n hx hb dL_law_1197 rfl (lv_at hl 3 rfl) ?_
  refine lv_iconst (v := 1) hx hb dL_law_1198 (by decide) ?_
  refine lv_iadd hx hb dL_law_1199 ?_
  refine va_sld hx hb hX hbl hbA hS i1 dL_law_1200 ?_
  refine lv_aload_n hx hb dL_law_1201 rfl (lv_at hl 0 rfl) ?_
  refine lv_iload_n hx hb dL_law_1202 rfl (lv_at hl 3 rfl) ?_
  refine lv_iconst (v := 2) hx hb dL_law_1203 (by decide) ?_
  refine lv_iadd hx hb dL_law_1204 ?_
  refine va_sld hx hb hX hbl hbA hS i2 dL_law_1205 ?_
  refine lv_aload_n hx hb dL_law_1206 rfl (lv_at hl 0 rfl) ?_
  refine lv_iload_n hx hb dL_law_1207 rfl (lv_at hl 3 rfl) ?_
  refine lv_iconst (v := 3) hx hb dL_law_1208 (by decide) ?_
  refine lv_iadd hx hb dL_law_1209 ?_
  refine va_sld hx hb hX hbl hbA hS i3 dL_law_1210 ?_
  refine x_ci (x_runV (As := [.int (xs (x3 + 1).toNatClampNeg), .int (xs (x3 + 2).toNatClampNeg), .int (xs (x3 + 3).toNatClampNeg)]) (rest := []) X hP hS 203 (by decide) cl_F rfl (tX6_drawn l X.2.2.2.2.2.2.1 hc) mi_L_140 rfl hl.1 rfl (Nat.le_of_ble_eq_true rfl) dL_law_1211 ⟨Nat.le_of_ble_eq_true rfl, Nat.le_of_ble_eq_true rfl⟩ ⟨Nat.le_of_ble_eq_true rfl, Nat.le_of_ble_eq_true rfl⟩) hS (fun H locs hP hS => ?_)
  refine lv_aload_n hx hb dL_law_1214 rfl (lv_at hl 2 rfl) ?_
  refine lv_aload_n hx hb dL_law_1215 rfl (lv_at hl 0 rfl) ?_
  refine lv_iload_n hx hb dL_law_1216 rfl (lv_at hl 3 rfl) ?_
  refine lv_iconst (v := 1) hx hb dL_law_1217 (by decide) ?_
  refine lv_iadd hx hb dL_law_1218 ?_
  refine va_sld hx hb hX hbl hbA hS i1 dL_law_1219 ?_
  refine lv_aload_n hx hb dL_law_1220 rfl (lv_at hl 0 rfl) ?_
  refine lv_iload_n hx hb dL_law_1221 rfl (lv_at hl 3 rfl) ?_
  refine lv_iconst (v := 2) hx hb dL_law_1222 (by decide) ?_
  refine lv_iadd hx hb dL_law_1223 ?_
  refine va_sld hx hb hX hbl hbA hS i2 dL_law_1224 ?_
  refine lv_aload_n hx hb dL_law_1225 rfl (lv_at hl 0 rfl) ?_
  refine lv_iload_n hx hb dL_law_1226 rfl (lv_at hl 3 rfl) ?_
  refine lv_iconst (v := 3) hx hb dL_law_1227 (by decide) ?_
  refine lv_iadd hx hb dL_law_1228 ?_
  refine va_sld hx hb hX hbl hbA hS i3 dL_law_1229 ?_
  refine x_ci (x_runV (As := [.int (xs (x3 + 1).toNatClampNeg), .int (xs (x3 + 2).toNatClampNeg), .int (xs (x3 + 3).toNatClampNeg)]) (rest := [.int r]) X hP hS 246 (by decide) cl_M rfl (tX7_drawn l X.2.2.2.2.2.2.1 hm) mi_L_143 rfl hl.1 rfl (Nat.le_of_ble_eq_true rfl) dL_law_1230 ⟨Nat.le_of_ble_eq_true rfl, Nat.le_of_ble_eq_true rfl⟩ ⟨Nat.le_of_ble_eq_true rfl, Nat.le_of_ble_eq_true rfl⟩) hS (fun H locs hP hS => ?_)
  refine lv_icmp_eq (tgt := 1432) hx hb dL_law_1233 (by decide) (fun _ => kk h1 k1 H locs hR1 hP hS) (fun q => absurd rfl q)
def St_image (RR : Hp → Hp → Prop) : Prop := ∀ (h k : Hp) (a1 : Int32), RR h k → ∃ (r : Int32) (h1 k1 : Hp), fX6_image a1 h = some (r, h1) ∧ fX7_image a1 k = some (r, k1) ∧ RR h1 k1
set_option maxRecDepth 100000 in
set_option maxHeartbeats 4000000 in
theorem lw_c_image {p : Program} {l : Launch} {e : Env} {s : State} {m : MethodId} {args : Array Value} {below : List Frame} {meth : Method} {c : Code} {Q : State → Prop} {g : Gx} (X : Cx p s m args c code 4 RL g) {b L : Nat} {xs : Nat → Int32} (hX : va_X b L xs s s.heap) (hbl : b < s.heap.size) (hbA : ¬ inA g b) {RR : Hp → Hp → Prop} (st : St_image RR) {h k : Hp} (hR : RR h k) {H : Heap} {locs : List Loc} {ls : Array Slot} (hP : va_P g.1 vwCl (WW g h k) H) (hS : va_S (inA g) s.heap H locs) {x3 : Int32} (i1 : vp_in (x3 + 1) L) (hl : lv_has ls 4 [(0, .ref b), (1, .ref (g.2.2 203)), (2, .ref (g.2.2 246)), (3, .int x3)])
    (kk : ∀ (h1 k1 : Hp) (H1 : Heap) (locs1 : List Loc), RR h1 k1 → va_P g.1 vwCl (WW g h1 k1) H1 → va_S (inA g) s.heap H1 locs1 → W p l e room_1 s m args below meth c H1 locs1 600000 7302250 Q (F0 m 1432 ls [])) : W p l e room_1 s m args below meth c H locs 600000 7302250 Q (F0 m 1238 ls []) := by
  have hx := X.1
  have hb := X.2.1
  obtain ⟨r, h1, k1, hc, hm, hR1⟩ := st h k (xs (x3 + 1).toNatClampNeg) hR
  refine lv_aload_n hx hb dL_law_1238 rfl (lv_at hl 1 rfl) ?_
  refine lv_aload_n hx hb dL_law_1239 rfl (lv_at hl 0 rfl) ?_
  refine lv_iload_n hx hb dL_law_1240 rfl (lv_at hl 3 rfl) ?_
  refine lv_iconst (v := 1) hx hb dL_law_1241 (by decide) ?_
  refine lv_iadd hx hb dL_law_1242 ?_
  refine va_sld hx hb hX hbl hbA hS i1 dL_law_1243 ?_
  refine x_ci (x_runV (As := [.int (xs (x3 + 1).toNatClampNeg)]) (rest := []) X hP hS 203 (by decide) cl_F rfl (tX6_image l X.2.2.2.2.2.2.1 hc) mi_L_144 rfl hl.1 rfl (Nat.le_of_ble_eq_true rfl) dL_law_1244 ⟨Nat.le_of_ble_eq_true rfl, Nat.le_of_ble_eq_true rfl⟩ ⟨Nat.le_of_ble_eq_true rfl, Nat.le_of_ble_eq_true rfl⟩) hS (fun H locs hP hS => ?_)
  refine lv_aload_n hx hb dL_law_1247 rfl (lv_at hl 2 rfl) ?_
  refine lv_aload_n hx hb dL_law_1248 rfl (lv_at hl 0 rfl) ?_
  refine lv_iload_n hx hb dL_law_1249 rfl (lv_at hl 3 rfl) ?_
  refine lv_iconst (v := 1) hx hb dL_law_1250 (by decide) ?_
  refine lv_iadd hx hb dL_law_1251 ?_
  refine va_sld hx hb hX hbl hbA hS i1 dL_law_1252 ?_
  refine x_ci (x_runV (As := [.int (xs (x3 + 1).toNatClampNeg)]) (rest := [.int r]) X hP hS 246 (by decide) cl_M rfl (tX7_image l X.2.2.2.2.2.2.1 hm) mi_L_147 rfl hl.1 rfl (Nat.le_of_ble_eq_true rfl) dL_law_1253 ⟨Nat.le_of_ble_eq_true rfl, Nat.le_of_ble_eq_true rfl⟩ ⟨Nat.le_of_ble_eq_true rfl, Nat.le_of_ble_eq_true rfl⟩) hS (fun H locs hP hS => ?_)
  refine lv_icmp_eq (tgt := 1432) hx hb dL_law_1256 (by decide) (fun _ => kk h1 k1 H locs hR1 hP hS) (fun q => absurd rfl q)
def St_restore (RR : Hp → Hp → Prop) : Prop := ∀ (h k : Hp) (a1 : Int32), RR h k → ∃ (r : Int32) (h1 k1 : Hp), fX6_restore a1 h = some (r, h1) ∧ fX7_restore a1 k = some (r, k1) ∧ RR h1 k1
set_option maxRecDepth 100000 in
set_option maxHeartbeats 4000000 in
theorem lw_c_restore {p : Program} {l : Launch} {e : Env} {s : State} {m : MethodId} {args : Array Value} {below : List Frame} {meth : Method} {c : Code} {Q : State → Prop} {g : Gx} (X : Cx p s m args c code 4 RL g) {b L : Nat} {xs : Nat → Int32} (hX : va_X b L xs s s.heap) (hbl : b < s.heap.size) (hbA : ¬ inA g b) {RR : Hp → Hp → Prop} (st : St_restore RR) {h k : Hp} (hR : RR h k) {H : Heap} {locs : List Loc} {ls : Array Slot} (hP : va_P g.1 vwCl (WW g h k) H) (hS : va_S (inA g) s.heap H locs) {x3 : Int32} (i1 : vp_in (x3 + 1) L) (hl : lv_has ls 4 [(0, .ref b), (1, .ref (g.2.2 203)), (2, .ref (g.2.2 246)), (3, .int x3)])
    (kk : ∀ (h1 k1 : Hp) (H1 : Heap) (locs1 : List Loc), RR h1 k1 → va_P g.1 vwCl (WW g h1 k1) H1 → va_S (inA g) s.heap H1 locs1 → W p l e room_1 s m args below meth c H1 locs1 600000 7302250 Q (F0 m 1432 ls [])) : W p l e room_1 s m args below meth c H locs 600000 7302250 Q (F0 m 1261 ls []) := by
  have hx := X.1
  have hb := X.2.1
  obtain ⟨r, h1, k1, hc, hm, hR1⟩ := st h k (xs (x3 + 1).toNatClampNeg) hR
  refine lv_aload_n hx hb dL_law_1261 rfl (lv_at hl 1 rfl) ?_
  refine lv_aload_n hx hb dL_law_1262 rfl (lv_at hl 0 rfl) ?_
  refine lv_iload_n hx hb dL_law_1263 rfl (lv_at hl 3 rfl) ?_
  refine lv_iconst (v := 1) hx hb dL_law_1264 (by decide) ?_
  refine lv_iadd hx hb dL_law_1265 ?_
  refine va_sld hx hb hX hbl hbA hS i1 dL_law_1266 ?_
  refine x_ci (x_runV (As := [.int (xs (x3 + 1).toNatClampNeg)]) (rest := []) X hP hS 203 (by decide) cl_F rfl (tX6_restore l X.2.2.2.2.2.2.1 hc) mi_L_148 rfl hl.1 rfl (Nat.le_of_ble_eq_true rfl) dL_law_1267 ⟨Nat.le_of_ble_eq_true rfl, Nat.le_of_ble_eq_true rfl⟩ ⟨Nat.le_of_ble_eq_true rfl, Nat.le_of_ble_eq_true rfl⟩) hS (fun H locs hP hS => ?_)
  refine lv_aload_n hx hb dL_law_1270 rfl (lv_at hl 2 rfl) ?_
  refine lv_aload_n hx hb dL_law_1271 rfl (lv_at hl 0 rfl) ?_
  refine lv_iload_n hx hb dL_law_1272 rfl (lv_at hl 3 rfl) ?_
  refine lv_iconst (v := 1) hx hb dL_law_1273 (by decide) ?_
  refine lv_iadd hx hb dL_law_1274 ?_
  refine va_sld hx hb hX hbl hbA hS i1 dL_law_1275 ?_
  refine x_ci (x_runV (As := [.int (xs (x3 + 1).toNatClampNeg)]) (rest := [.int r]) X hP hS 246 (by decide) cl_M rfl (tX7_restore l X.2.2.2.2.2.2.1 hm) mi_L_151 rfl hl.1 rfl (Nat.le_of_ble_eq_true rfl) dL_law_1276 ⟨Nat.le_of_ble_eq_true rfl, Nat.le_of_ble_eq_true rfl⟩ ⟨Nat.le_of_ble_eq_true rfl, Nat.le_of_ble_eq_true rfl⟩) hS (fun H locs hP hS => ?_)
  refine lv_icmp_eq (tgt := 1432) hx hb dL_law_1279 (by decide) (fun _ => kk h1 k1 H locs hR1 hP hS) (fun q => absurd rfl q)
def St_kind (RR : Hp → Hp → Prop) : Prop := ∀ (h k : Hp) (a1 : Int32), RR h k → ∃ (r : Int32) (h1 k1 : Hp), fX6_kind a1 h = some (r, h1) ∧ fX7_kind a1 k = some (r, k1) ∧ RR h1 k1
set_option maxRecDepth 100000 in
set_option maxHeartbeats 4000000 in
theorem lw_c_kind {p : Program} {l : Launch} {e : Env} {s : State} {m : MethodId} {args : Array Value} {below : List Frame} {meth : Method} {c : Code} {Q : State → Prop} {g : Gx} (X : Cx p s m args c code 4 RL g) {b L : Nat} {xs : Nat → Int32} (hX : va_X b L xs s s.heap) (hbl : b < s.heap.size) (hbA : ¬ inA g b) {RR : Hp → Hp → Prop} (st : St_kind RR) {h k : Hp} (hR : RR h k) {H : Heap} {locs : List Loc} {ls : Array Slot} (hP : va_P g.1 vwCl (WW g h k) H) (hS : va_S (inA g) s.heap H locs) {x3 : Int32} (i1 : vp_in (x3 + 1) L) (hl : lv_has ls 4 [(0, .ref b), (1, .ref (g.2.2 203)), (2, .ref (g.2.2 246)), (3, .int x3)])
    (kk : ∀ (h1 k1 : Hp) (H1 : Heap) (locs1 : List Loc), RR h1 k1 → va_P g.1 vwCl (WW g h1 k1) H1 → va_S (inA g) s.heap H1 locs1 → W p l e room_1 s m args below meth c H1 locs1 600000 7302250 Q (F0 m 1432 ls [])) : W p l e room_1 s m args below meth c H locs 600000 7302250 Q (F0 m 1284 ls []) := by
  have hx := X.1
  have hb := X.2.1
  obtain ⟨r, h1, k1, hc, hm, hR1⟩ := st h k (xs (x3 + 1).toNatClampNeg) hR
  refine lv_aload_n hx hb dL_law_1284 rfl (lv_at hl 1 rfl) ?_
  refine lv_aload_n hx hb dL_law_1285 rfl (lv_at hl 0 rfl) ?_
  refine lv_iload_n hx hb dL_law_1286 rfl (lv_at hl 3 rfl) ?_
  refine lv_iconst (v := 1) hx hb dL_law_1287 (by decide) ?_
  refine lv_iadd hx hb dL_law_1288 ?_
  refine va_sld hx hb hX hbl hbA hS i1 dL_law_1289 ?_
  refine x_ci (x_runV (As := [.int (xs (x3 + 1).toNatClampNeg)]) (rest := []) X hP hS 203 (by decide) cl_F rfl (tX6_kind l X.2.2.2.2.2.2.1 hc) mi_L_152 rfl hl.1 rfl (Nat.le_of_ble_eq_true rfl) dL_law_1290 ⟨Nat.le_of_ble_eq_true rfl, Nat.le_of_ble_eq_true rfl⟩ ⟨Nat.le_of_ble_eq_true rfl, Nat.le_of_ble_eq_true rfl⟩) hS (fun H locs hP hS => ?_)
  refine lv_aload_n hx hb dL_law_1293 rfl (lv_at hl 2 rfl) ?_
  refine lv_aload_n hx hb dL_law_1294 rfl (lv_at hl 0 rfl) ?_
  refine lv_iload_n hx hb dL_law_1295 rfl (lv_at hl 3 rfl) ?_
  refine lv_iconst (v := 1) hx hb dL_law_1296 (by decide) ?_
  refine lv_iadd hx hb dL_law_1297 ?_
  refine va_sld hx hb hX hbl hbA hS i1 dL_law_1298 ?_
  refine x_ci (x_runV (As := [.int (xs (x3 + 1).toNatClampNeg)]) (rest := [.int r]) X hP hS 246 (by decide) cl_M rfl (tX7_kind l X.2.2.2.2.2.2.1 hm) mi_L_155 rfl hl.1 rfl (Nat.le_of_ble_eq_true rfl) dL_law_1299 ⟨Nat.le_of_ble_eq_true rfl, Nat.le_of_ble_eq_true rfl⟩ ⟨Nat.le_of_ble_eq_true rfl, Nat.le_of_ble_eq_true rfl⟩) hS (fun H locs hP hS => ?_)
  refine lv_icmp_eq (tgt := 1432) hx hb dL_law_1302 (by decide) (fun _ => kk h1 k1 H locs hR1 hP hS) (fun q => absurd rfl q)
def St_as (RR : Hp → Hp → Prop) : Prop := ∀ (h k : Hp) (a1 a2 : Int32), RR h k → ∃ (r : Int32) (h1 k1 : Hp), fX6_as a1 a2 h = some (r, h1) ∧ fX7_as a1 a2 k = some (r, k1) ∧ RR h1 k1
set_option maxRecDepth 100000 in
set_option maxHeartbeats 4000000 in
theorem lw_c_as {p : Program} {l : Launch} {e : Env} {s : State} {m : MethodId} {args : Array Value} {below : List Frame} {meth : Method} {c : Code} {Q : State → Prop} {g : Gx} (X : Cx p s m args c code 4 RL g) {b L : Nat} {xs : Nat → Int32} (hX : va_X b L xs s s.heap) (hbl : b < s.heap.size) (hbA : ¬ inA g b) {RR : Hp → Hp → Prop} (st : St_as RR) {h k : Hp} (hR : RR h k) {H : Heap} {locs : List Loc} {ls : Array Slot} (hP : va_P g.1 vwCl (WW g h k) H) (hS : va_S (inA g) s.heap H locs) {x3 : Int32} (i1 : vp_in (x3 + 1) L) (i2 : vp_in (x3 + 2) L) (hl : lv_has ls 4 [(0, .ref b), (1, .ref (g.2.2 203)), (2, .ref (g.2.2 246)), (3, .int x3)])
    (kk : ∀ (h1 k1 : Hp) (H1 : Heap) (locs1 : List Loc), RR h1 k1 → va_P g.1 vwCl (WW g h1 k1) H1 → va_S (inA g) s.heap H1 locs1 → W p l e room_1 s m args below meth c H1 locs1 600000 7302250 Q (F0 m 1432 ls [])) : W p l e room_1 s m args below meth c H locs 600000 7302250 Q (F0 m 1307 ls []) := by
  have hx := X.1
  have hb := X.2.1
  obtain ⟨r, h1, k1, hc, hm, hR1⟩ := st h k (xs (x3 + 1).toNatClampNeg) (xs (x3 + 2).toNatClampNeg) hR
  refine lv_aload_n hx hb dL_law_1307 rfl (lv_at hl 1 rfl) ?_
  refine lv_aload_n hx hb dL_law_1308 rfl (lv_at hl 0 rfl) ?_
  refine lv_iload_n hx hb dL_law_1309 rfl (lv_at hl 3 rfl) ?_
  refine lv_iconst (v := 1) hx hb dL_law_1310 (by decide) ?_
  refine lv_iadd hx hb dL_law_1311 ?_
  refine va_sld hx hb hX hbl hbA hS i1 dL_law_1312 ?_
  refine lv_aload_n hx hb dL_law_1313 rfl (lv_at hl 0 rfl) ?_
  refine lv_iload_n hx hb dL_law_1314 rfl (lv_at hl 3 rfl) ?_
  refine lv_iconst (v := 2) hx hb dL_law_1315 (by decide) ?_
  refine lv_iadd hx hb dL_law_1316 ?_
  refine va_sld hx hb hX hbl hbA hS i2 dL_law_1317 ?_
  refine x_ci (x_runV (As := [.int (xs (x3 + 1).toNatClampNeg), .int (xs (x3 + 2).toNatClampNeg)]) (rest := []) X hP hS 203 (by decide) cl_F rfl (tX6_as l X.2.2.2.2.2.2.1 hc) mi_L_156 rfl hl.1 rfl (Nat.le_of_ble_eq_true rfl) dL_law_1318 ⟨Nat.le_of_ble_eq_true rfl, Nat.le_of_ble_eq_true rfl⟩ ⟨Nat.le_of_ble_eq_true rfl, Nat.le_of_ble_eq_true rfl⟩) hS (fun H locs hP hS => ?_)
  refine lv_aload_n hx hb dL_law_1321 rfl (lv_at hl 2 rfl) ?_
  refine lv_aload_n hx hb dL_law_1322 rfl (lv_at hl 0 rfl) ?_
  refine lv_iload_n hx hb dL_law_1323 rfl (lv_at hl 3 rfl) ?_
  refine lv_iconst (v := 1) hx hb dL_law_1324 (by decide) ?_
  refine lv_iadd hx hb dL_law_1325 ?_
  refine va_sld hx hb hX hbl hbA hS i1 dL_law_1326 ?_
  refine lv_aload_n hx hb dL_law_1327 rfl (lv_at hl 0 rfl) ?_
  refine lv_iload_n hx hb dL_law_1328 rfl (lv_at hl 3 rfl) ?_
  refine lv_iconst (v := 2) hx hb dL_law_1329 (by decide) ?_
  refine lv_iadd hx hb dL_law_1330 ?_
  refine va_sld hx hb hX hbl hbA hS i2 dL_law_1331 ?_
  refine x_ci (x_runV (As := [.int (xs (x3 + 1).toNatClampNeg), .int (xs (x3 + 2).toNatClampNeg)]) (rest := [.int r]) X hP hS 246 (by decide) cl_M rfl (tX7_as l X.2.2.2.2.2.2.1 hm) mi_L_159 rfl hl.1 rfl (Nat.le_of_ble_eq_true rfl) dL_law_1332 ⟨Nat.le_of_ble_eq_true rfl, Nat.le_of_ble_eq_true rfl⟩ ⟨Nat.le_of_ble_eq_true rfl, Nat.le_of_ble_eq_true rfl⟩) hS (fun H locs hP hS => ?_)
  refine lv_icmp_eq (tgt := 1432) hx hb dL_law_1335 (by decide) (fun _ => kk h1 k1 H locs hR1 hP hS) (fun q => absurd rfl q)
def St_ask (RR : Hp → Hp → Prop) : Prop := ∀ (h k : Hp) (a1 a2 : Int32), RR h k → ∃ (r : Int32) (h1 k1 : Hp), fX6_ask a1 a2 h = some (r, h1) ∧ fX7_ask a1 a2 k = some (r, k1) ∧ RR h1 k1
set_option maxRecDepth 100000 in
set_option maxHeartbeats 4000000 in
theorem lw_c_ask {p : Program} {l : Launch} {e : Env} {s : State} {m : MethodId} {args : Array Value} {below : List Frame} {meth : Method} {c : Code} {Q : State → Prop} {g : Gx} (X : Cx p s m args c code 4 RL g) {b L : Nat} {xs : Nat → Int32} (hX : va_X b L xs s s.heap) (hbl : b < s.heap.size) (hbA : ¬ inA g b) {RR : Hp → Hp → Prop} (st : St_ask RR) {h k : Hp} (hR : RR h k) {H : Heap} {locs : List Loc} {ls : Array Slot} (hP : va_P g.1 vwCl (WW g h k) H) (hS : va_S (inA g) s.heap H locs) {x3 : Int32} (i1 : vp_in (x3 + 1) L) (i2 : vp_in (x3 + 2) L) (hl : lv_has ls 4 [(0, .ref b), (1, .ref (g.2.2 203)), (2, .ref (g.2.2 246)), (3, .int x3)])
    (kk : ∀ (h1 k1 : Hp) (H1 : Heap) (locs1 : List Loc), RR h1 k1 → va_P g.1 vwCl (WW g h1 k1) H1 → va_S (inA g) s.heap H1 locs1 → W p l e room_1 s m args below meth c H1 locs1 600000 7302250 Q (F0 m 1432 ls [])) : W p l e room_1 s m args below meth c H locs 600000 7302250 Q (F0 m 1340 ls []) := by
  have hx := X.1
  have hb := X.2.1
  obtain ⟨r, h1, k1, hc, hm, hR1⟩ := st h k (xs (x3 + 1).toNatClampNeg) (xs (x3 + 2).toNatClampNeg) hR
  refine lv_aload_n hx hb dL_law_1340 rfl (lv_at hl 1 rfl) ?_
  refine lv_aload_n hx hb dL_law_1341 rfl (lv_at hl 0 rfl) ?_
  refine lv_iload_n hx hb dL_law_1342 rfl (lv_at hl 3 rfl) ?_
  refine lv_iconst (v := 1) hx hb dL_law_1343 (by decide) ?_
  refine lv_iadd hx hb dL_law_1344 ?_
  refine va_sld hx hb hX hbl hbA hS i1 dL_law_1345 ?_
  refine lv_aload_n hx hb dL_law_1346 rfl (lv_at hl 0 rfl) ?_
  refine lv_iload_n hx hb dL_law_1347 rfl (lv_at hl 3 rfl) ?_
  refine lv_iconst (v := 2) hx hb dL_law_1348 (by decide) ?_
  refine lv_iadd hx hb dL_law_1349 ?_
  refine va_sld hx hb hX hbl hbA hS i2 dL_law_1350 ?_
  refine x_ci (x_runV (As := [.int (xs (x3 + 1).toNatClampNeg), .int (xs (x3 + 2).toNatClampNeg)]) (rest := []) X hP hS 203 (by decide) cl_F rfl (tX6_ask l X.2.2.2.2.2.2.1 hc) mi_L_160 rfl hl.1 rfl (Nat.le_of_ble_eq_true rfl) dL_law_1351 ⟨Nat.le_of_ble_eq_true rfl, Nat.le_of_ble_eq_true rfl⟩ ⟨Nat.le_of_ble_eq_true rfl, Nat.le_of_ble_eq_true rfl⟩) hS (fun H locs hP hS => ?_)
  refine lv_aload_n hx hb dL_law_1354 rfl (lv_at hl 2 rfl) ?_
  refine lv_aload_n hx hb dL_law_1355 rfl (lv_at hl 0 rfl) ?_
  refine lv_iload_n hx hb dL_law_1356 rfl (lv_at hl 3 rfl) ?_
  refine lv_iconst (v := 1) hx hb dL_law_1357 (by decide) ?_
  refine lv_iadd hx hb dL_law_1358 ?_
  refine va_sld hx hb hX hbl hbA hS i1 dL_law_1359 ?_
  refine lv_aload_n hx hb dL_law_1360 rfl (lv_at hl 0 rfl) ?_
  refine lv_iload_n hx hb dL_law_1361 rfl (lv_at hl 3 rfl) ?_
  refine lv_iconst (v := 2) hx hb dL_law_1362 (by decide) ?_
  refine lv_iadd hx hb dL_law_1363 ?_
  refine va_sld hx hb hX hbl hbA hS i2 dL_law_1364 ?_
  refine x_ci (x_runV (As := [.int (xs (x3 + 1).toNatClampNeg), .int (xs (x3 + 2).toNatClampNeg)]) (rest := [.int r]) X hP hS 246 (by decide) cl_M rfl (tX7_ask l X.2.2.2.2.2.2.1 hm) mi_L_163 rfl hl.1 rfl (Nat.le_of_ble_eq_true rfl) dL_law_1365 ⟨Nat.le_of_ble_eq_true rfl, Nat.le_of_ble_eq_true rfl⟩ ⟨Nat.le_of_ble_eq_true rfl, Nat.le_of_ble_eq_true rfl⟩) hS (fun H locs hP hS => ?_)
  refine lv_icmp_eq (tgt := 1432) hx hb dL_law_1368 (by decide) (fun _ => kk h1 k1 H locs hR1 hP hS) (fun q => absurd rfl q)
def St_trace (RR : Hp → Hp → Prop) : Prop := ∀ (h k : Hp) (a1 : Int32), RR h k → ∃ (r : Int32) (h1 k1 : Hp), fX6_trace a1 h = some (r, h1) ∧ fX7_trace a1 k = some (r, k1) ∧ RR h1 k1
set_option maxRecDepth 100000 in
set_option maxHeartbeats 4000000 in
theorem lw_c_trace {p : Program} {l : Launch} {e : Env} {s : State} {m : MethodId} {args : Array Value} {below : List Frame} {meth : Method} {c : Code} {Q : State → Prop} {g : Gx} (X : Cx p s m args c code 4 RL g) {b L : Nat} {xs : Nat → Int32} (hX : va_X b L xs s s.heap) (hbl : b < s.heap.size) (hbA : ¬ inA g b) {RR : Hp → Hp → Prop} (st : St_trace RR) {h k : Hp} (hR : RR h k) {H : Heap} {locs : List Loc} {ls : Array Slot} (hP : va_P g.1 vwCl (WW g h k) H) (hS : va_S (inA g) s.heap H locs) {x3 : Int32} (i1 : vp_in (x3 + 1) L) (hl : lv_has ls 4 [(0, .ref b), (1, .ref (g.2.2 203)), (2, .ref (g.2.2 246)), (3, .int x3)])
    (kk : ∀ (h1 k1 : Hp) (H1 : Heap) (locs1 : List Loc), RR h1 k1 → va_P g.1 vwCl (WW g h1 k1) H1 → va_S (inA g) s.heap H1 locs1 → W p l e room_1 s m args below meth c H1 locs1 600000 7302250 Q (F0 m 1432 ls [])) : W p l e room_1 s m args below meth c H locs 600000 7302250 Q (F0 m 1373 ls []) := by
  have hx := X.1
  have hb := X.2.1
  obtain ⟨r, h1, k1, hc, hm, hR1⟩ := st h k (xs (x3 + 1).toNatClampNeg) hR
  refine lv_aload_n hx hb dL_law_1373 rfl (lv_at hl 1 rfl) ?_
  refine lv_aload_n hx hb dL_law_1374 rfl (lv_at hl 0 rfl) ?_
  refine lv_iload_n hx hb dL_law_1375 rfl (lv_at hl 3 rfl) ?_
  refine lv_iconst (v := 1) hx hb dL_law_1376 (by decide) ?_
  refine lv_iadd hx hb dL_law_1377 ?_
  refine va_sld hx hb hX hbl hbA hS i1 dL_law_1378 ?_
  refine x_ci (x_runV (As := [.int (xs (x3 + 1).toNatClampNeg)]) (rest := []) X hP hS 203 (by decide) cl_F rfl (tX6_trace l X.2.2.2.2.2.2.1 hc) mi_L_164 rfl hl.1 rfl (Nat.le_of_ble_eq_true rfl) dL_law_1379 ⟨Nat.le_of_ble_eq_true rfl, Nat.le_of_ble_eq_true rfl⟩ ⟨Nat.le_of_ble_eq_true rfl, Nat.le_of_ble_eq_true rfl⟩) hS (fun H locs hP hS => ?_)
  refine lv_aload_n hx hb dL_law_1382 rfl (lv_at hl 2 rfl) ?_
  refine lv_aload_n hx hb dL_law_1383 rfl (lv_at hl 0 rfl) ?_
  refine lv_iload_n hx hb dL_law_1384 rfl (lv_at hl 3 rfl) ?_
  refine lv_iconst (v := 1) hx hb dL_law_1385 (by decide) ?_
  refine lv_iadd hx hb dL_law_1386 ?_
  refine va_sld hx hb hX hbl hbA hS i1 dL_law_1387 ?_
  refine x_ci (x_runV (As := [.int (xs (x3 + 1).toNatClampNeg)]) (rest := [.int r]) X hP hS 246 (by decide) cl_M rfl (tX7_trace l X.2.2.2.2.2.2.1 hm) mi_L_167 rfl hl.1 rfl (Nat.le_of_ble_eq_true rfl) dL_law_1388 ⟨Nat.le_of_ble_eq_true rfl, Nat.le_of_ble_eq_true rfl⟩ ⟨Nat.le_of_ble_eq_true rfl, Nat.le_of_ble_eq_true rfl⟩) hS (fun H locs hP hS => ?_)
  refine lv_icmp_eq (tgt := 1432) hx hb dL_law_1391 (by decide) (fun _ => kk h1 k1 H locs hR1 hP hS) (fun q => absurd rfl q)
def St_count (RR : Hp → Hp → Prop) : Prop := ∀ (h k : Hp) (a1 : Int32), RR h k → ∃ (r : Int32) (h1 k1 : Hp), fX6_count a1 h = some (r, h1) ∧ fX7_count a1 k = some (r, k1) ∧ RR h1 k1
set_option maxRecDepth 100000 in
set_option maxHeartbeats 4000000 in
theorem lw_c_count {p : Program} {l : Launch} {e : Env} {s : State} {m : MethodId} {args : Array Value} {below : List Frame} {meth : Method} {c : Code} {Q : State → Prop} {g : Gx} (X : Cx p s m args c code 4 RL g) {b L : Nat} {xs : Nat → Int32} (hX : va_X b L xs s s.heap) (hbl : b < s.heap.size) (hbA : ¬ inA g b) {RR : Hp → Hp → Prop} (st : St_count RR) {h k : Hp} (hR : RR h k) {H : Heap} {locs : List Loc} {ls : Array Slot} (hP : va_P g.1 vwCl (WW g h k) H) (hS : va_S (inA g) s.heap H locs) {x3 : Int32} (i1 : vp_in (x3 + 1) L) (hl : lv_has ls 4 [(0, .ref b), (1, .ref (g.2.2 203)), (2, .ref (g.2.2 246)), (3, .int x3)])
    (kk : ∀ (h1 k1 : Hp) (H1 : Heap) (locs1 : List Loc), RR h1 k1 → va_P g.1 vwCl (WW g h1 k1) H1 → va_S (inA g) s.heap H1 locs1 → W p l e room_1 s m args below meth c H1 locs1 600000 7302250 Q (F0 m 1432 ls [])) : W p l e room_1 s m args below meth c H locs 600000 7302250 Q (F0 m 1396 ls []) := by
  have hx := X.1
  have hb := X.2.1
  obtain ⟨r, h1, k1, hc, hm, hR1⟩ := st h k (xs (x3 + 1).toNatClampNeg) hR
  refine lv_aload_n hx hb dL_law_1396 rfl (lv_at hl 1 rfl) ?_
  refine lv_aload_n hx hb dL_law_1397 rfl (lv_at hl 0 rfl) ?_
  refine lv_iload_n hx hb dL_law_1398 rfl (lv_at hl 3 rfl) ?_
  refine lv_iconst (v := 1) hx hb dL_law_1399 (by decide) ?_
  refine lv_iadd hx hb dL_law_1400 ?_
  refine va_sld hx hb hX hbl hbA hS i1 dL_law_1401 ?_
  refine x_ci (x_runV (As := [.int (xs (x3 + 1).toNatClampNeg)]) (rest := []) X hP hS 203 (by decide) cl_F rfl (tX6_count l X.2.2.2.2.2.2.1 hc) mi_L_168 rfl hl.1 rfl (Nat.le_of_ble_eq_true rfl) dL_law_1402 ⟨Nat.le_of_ble_eq_true rfl, Nat.le_of_ble_eq_true rfl⟩ ⟨Nat.le_of_ble_eq_true rfl, Nat.le_of_ble_eq_true rfl⟩) hS (fun H locs hP hS => ?_)
  refine lv_aload_n hx hb dL_law_1405 rfl (lv_at hl 2 rfl) ?_
  refine lv_aload_n hx hb dL_law_1406 rfl (lv_at hl 0 rfl) ?_
  refine lv_iload_n hx hb dL_law_1407 rfl (lv_at hl 3 rfl) ?_
  refine lv_iconst (v := 1) hx hb dL_law_1408 (by decide) ?_
  refine lv_iadd hx hb dL_law_1409 ?_
  refine va_sld hx hb hX hbl hbA hS i1 dL_law_1410 ?_
  refine x_ci (x_runV (As := [.int (xs (x3 + 1).toNatClampNeg)]) (rest := [.int r]) X hP hS 246 (by decide) cl_M rfl (tX7_count l X.2.2.2.2.2.2.1 hm) mi_L_171 rfl hl.1 rfl (Nat.le_of_ble_eq_true rfl) dL_law_1411 ⟨Nat.le_of_ble_eq_true rfl, Nat.le_of_ble_eq_true rfl⟩ ⟨Nat.le_of_ble_eq_true rfl, Nat.le_of_ble_eq_true rfl⟩) hS (fun H locs hP hS => ?_)
  refine lv_icmp_eq (tgt := 1432) hx hb dL_law_1414 (by decide) (fun _ => kk h1 k1 H locs hR1 hP hS) (fun q => absurd rfl q)
def St_status (RR : Hp → Hp → Prop) : Prop := ∀ (h k : Hp), RR h k → ∃ (r : Int32) (h1 k1 : Hp), fX6_status  h = some (r, h1) ∧ fX7_status  k = some (r, k1) ∧ RR h1 k1
set_option maxRecDepth 100000 in
set_option maxHeartbeats 4000000 in
theorem lw_c_status {p : Program} {l : Launch} {e : Env} {s : State} {m : MethodId} {args : Array Value} {below : List Frame} {meth : Method} {c : Code} {Q : State → Prop} {g : Gx} (X : Cx p s m args c code 4 RL g) {b L : Nat} {xs : Nat → Int32} (hX : va_X b L xs s s.heap) (hbl : b < s.heap.size) (hbA : ¬ inA g b) {RR : Hp → Hp → Prop} (st : St_status RR) {h k : Hp} (hR : RR h k) {H : Heap} {locs : List Loc} {ls : Array Slot} (hP : va_P g.1 vwCl (WW g h k) H) (hS : va_S (inA g) s.heap H locs) {x3 : Int32} (hl : lv_has ls 4 [(0, .ref b), (1, .ref (g.2.2 203)), (2, .ref (g.2.2 246)), (3, .int x3)])
    (kk : ∀ (h1 k1 : Hp) (H1 : Heap) (locs1 : List Loc), RR h1 k1 → va_P g.1 vwCl (WW g h1 k1) H1 → va_S (inA g) s.heap H1 locs1 → W p l e room_1 s m args below meth c H1 locs1 600000 7302250 Q (F0 m 1432 ls [])) : W p l e room_1 s m args below meth c H locs 600000 7302250 Q (F0 m 1419 ls []) := by
  have hx := X.1
  have hb := X.2.1
  obtain ⟨r, h1, k1, hc, hm, hR1⟩ := st h k  hR
  refine lv_aload_n hx hb dL_law_1419 rfl (lv_at hl 1 rfl) ?_
  refine x_ci (x_runV (As := []) (rest := []) X hP hS 203 (by decide) cl_F rfl (tX6_status l X.2.2.2.2.2.2.1 hc) mi_L_172 rfl hl.1 rfl (Nat.le_of_ble_eq_true rfl) dL_law_1420 ⟨Nat.le_of_ble_eq_true rfl, Nat.le_of_ble_eq_true rfl⟩ ⟨Nat.le_of_ble_eq_true rfl, Nat.le_of_ble_eq_true rfl⟩) hS (fun H locs hP hS => ?_)
  refine lv_aload_n hx hb dL_law_1423 rfl (lv_at hl 2 rfl) ?_
  refine x_ci (x_runV (As := []) (rest := [.int r]) X hP hS 246 (by decide) cl_M rfl (tX7_status l X.2.2.2.2.2.2.1 hm) mi_L_175 rfl hl.1 rfl (Nat.le_of_ble_eq_true rfl) dL_law_1424 ⟨Nat.le_of_ble_eq_true rfl, Nat.le_of_ble_eq_true rfl⟩ ⟨Nat.le_of_ble_eq_true rfl, Nat.le_of_ble_eq_true rfl⟩) hS (fun H locs hP hS => ?_)
  refine lv_icmp_eq (tgt := 1432) hx hb dL_law_1427 (by decide) (fun _ => kk h1 k1 H locs hR1 hP hS) (fun q => absurd rfl q)
