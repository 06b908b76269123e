/-! ===== the constructors ===== -/
theorem wd_76 : Cond.methodLink RX6 1 objectInit ∈ GG := gg_in (List.mem_of_getElem? (i := 76) (by decide +kernel)) rfl
theorem wd_77 : Cond.instanceMethod objectInit ∈ GG := gg_in (List.mem_of_getElem? (i := 77) (by decide +kernel)) rfl
theorem wd_78 : Cond.code objectInit ⟨#[0xb1]⟩ 1 none ∈ GG := gg_in (List.mem_of_getElem? (i := 78) (by decide +kernel)) rfl
theorem wd_79 : Cond.classLink RX6 9 RX5 ∈ GG := gg_in (List.mem_of_getElem? (i := 79) (by decide +kernel)) rfl
theorem wd_81 : Cond.classLink RX6 15 RX4 ∈ GG := gg_in (List.mem_of_getElem? (i := 81) (by decide +kernel)) rfl
theorem wd_82 : Cond.instantiable RX4 8 ∈ GG := gg_in (List.mem_of_getElem? (i := 82) (by decide +kernel)) rfl
theorem wd_84 : Cond.instanceMethod yX4_init ∈ GG := gg_in (List.mem_of_getElem? (i := 84) (by decide +kernel)) rfl
theorem wd_85 : Cond.code yX4_init cX4_init 1 none ∈ GG := gg_in (List.mem_of_getElem? (i := 85) (by decide +kernel)) rfl
theorem wd_86 : Cond.methodLink RX4 3 objectInit ∈ GG := gg_in (List.mem_of_getElem? (i := 86) (by decide +kernel)) rfl
theorem wd_87 : Cond.classLink RX4 9 RX2 ∈ GG := gg_in (List.mem_of_getElem? (i := 87) (by decide +kernel)) rfl
theorem wd_88 : Cond.instantiable RX2 16 ∈ GG := gg_in (List.mem_of_getElem? (i := 88) (by decide +kernel)) rfl
theorem wd_90 : Cond.instanceMethod yX2_init ∈ GG := gg_in (List.mem_of_getElem? (i := 90) (by decide +kernel)) rfl
theorem wd_91 : Cond.code yX2_init cX2_init 1 none ∈ GG := gg_in (List.mem_of_getElem? (i := 91) (by decide +kernel)) rfl
theorem wd_92 : Cond.methodLink RX2 3 objectInit ∈ GG := gg_in (List.mem_of_getElem? (i := 92) (by decide +kernel)) rfl
theorem wd_178 : Cond.arrayClass .int ∈ GG := gg_in (List.mem_of_getElem? (i := 178) (by decide +kernel)) rfl
theorem wd_208 : Cond.classLink RX6 22 RX2 ∈ GG := gg_in (List.mem_of_getElem? (i := 208) (by decide +kernel)) rfl
theorem wd_210 : Cond.classLink RX6 29 RX0 ∈ GG := gg_in (List.mem_of_getElem? (i := 210) (by decide +kernel)) rfl
theorem wd_211 : Cond.instantiable RX0 3 ∈ GG := gg_in (List.mem_of_getElem? (i := 211) (by decide +kernel)) rfl
theorem wd_212 : Cond.methodLink RX6 31 yX0_init ∈ GG := gg_in (List.mem_of_getElem? (i := 212) (by decide +kernel)) rfl
theorem wd_213 : Cond.instanceMethod yX0_init ∈ GG := gg_in (List.mem_of_getElem? (i := 213) (by decide +kernel)) rfl
theorem wd_214 : Cond.code yX0_init cX0_init 2 none ∈ GG := gg_in (List.mem_of_getElem? (i := 214) (by decide +kernel)) rfl
theorem wd_215 : Cond.methodLink RX0 3 objectInit ∈ GG := gg_in (List.mem_of_getElem? (i := 215) (by decide +kernel)) rfl
theorem wd_216 : Cond.classLink RX0 9 RX2 ∈ GG := gg_in (List.mem_of_getElem? (i := 216) (by decide +kernel)) rfl
theorem wd_230 : Cond.classLink RX6 40 RX3 ∈ GG := gg_in (List.mem_of_getElem? (i := 230) (by decide +kernel)) rfl
theorem wd_231 : Cond.instantiable RX3 6 ∈ GG := gg_in (List.mem_of_getElem? (i := 231) (by decide +kernel)) rfl
theorem wd_233 : Cond.instanceMethod yX3_init ∈ GG := gg_in (List.mem_of_getElem? (i := 233) (by decide +kernel)) rfl
theorem wd_234 : Cond.code yX3_init cX3_init 1 none ∈ GG := gg_in (List.mem_of_getElem? (i := 234) (by decide +kernel)) rfl
theorem wd_235 : Cond.methodLink RX3 3 objectInit ∈ GG := gg_in (List.mem_of_getElem? (i := 235) (by decide +kernel)) rfl
theorem wd_236 : Cond.classLink RX3 9 RX2 ∈ GG := gg_in (List.mem_of_getElem? (i := 236) (by decide +kernel)) rfl
theorem wd_238 : Cond.classLink RX3 18 "[[I" ∈ GG := gg_in (List.mem_of_getElem? (i := 238) (by decide +kernel)) rfl
theorem wd_259 : Cond.classLink RX6 47 RX1 ∈ GG := gg_in (List.mem_of_getElem? (i := 259) (by decide +kernel)) rfl
theorem wd_260 : Cond.instantiable RX1 2 ∈ GG := gg_in (List.mem_of_getElem? (i := 260) (by decide +kernel)) rfl
theorem wd_262 : Cond.instanceMethod yX1_init ∈ GG := gg_in (List.mem_of_getElem? (i := 262) (by decide +kernel)) rfl
theorem wd_263 : Cond.code yX1_init cX1_init 1 none ∈ GG := gg_in (List.mem_of_getElem? (i := 263) (by decide +kernel)) rfl
theorem wd_264 : Cond.methodLink RX1 1 objectInit ∈ GG := gg_in (List.mem_of_getElem? (i := 264) (by decide +kernel)) rfl
theorem wd_274 : Cond.instantiable RX5 4 ∈ GG := gg_in (List.mem_of_getElem? (i := 274) (by decide +kernel)) rfl
theorem wd_276 : Cond.instanceMethod yX5_init ∈ GG := gg_in (List.mem_of_getElem? (i := 276) (by decide +kernel)) rfl
theorem wd_277 : Cond.code yX5_init cX5_init 1 none ∈ GG := gg_in (List.mem_of_getElem? (i := 277) (by decide +kernel)) rfl
theorem wd_278 : Cond.methodLink RX5 3 objectInit ∈ GG := gg_in (List.mem_of_getElem? (i := 278) (by decide +kernel)) rfl
theorem wd_882 : Cond.methodLink RX7 1 objectInit ∈ GG := gg_in (List.mem_of_getElem? (i := 882) (by decide +kernel)) rfl
theorem wd_956 : Cond.arrayClass .boolean ∈ GG := gg_in (List.mem_of_getElem? (i := 956) (by decide +kernel)) rfl
def zI (g : Gx) (n : Nat) : va_E := .inl (g.2.1 0, n, .inl (fun _ => 0))
def cEst (g : Gx) (a i : Nat) : va_E := if i = 0 then .inr (2, [.ref (a + 1), .ref (a + 2), .ref (a + 3), .ref (a + 4), .ref (a + 5), .ref (a + 6), .int 0, .int 0, .int 0, .int 0, .int 0, .int 0, .int 0, .int 0, .int 0, .int 0]) else zI g 6
def cRow (g : Gx) (a i : Nat) : va_E := if i = 0 then .inr (5, [.ref (a + 1), .int 1, .int 0, .int 0]) else zI g 40
def cAsk (g : Gx) (a i : Nat) : va_E := if i = 0 then .inr (1, [.ref (a + 1), .int 0]) else zI g 16
def cRdr (g : Gx) (a i : Nat) : va_E := if i = 0 then .inr (4, [.ref (a + 1), .int 0, .int 0, .int 0, .ref (a + 8), .int 0, .int 0, .int 0]) else if i = 8 then zI g 120 else cEst g (a + 1) (i - 1)
def rfP (c : ClassId) (n k : Nat) (f : Nat → Nat) : va_E := .inl (c, n, .inr (.inr (.inr (.inr (fun j => if j < k then some (f j) else none)))))
def cAct' (g : Gx) (k a i : Nat) : va_E := if i = 0 then .inr (0, [.ref (a + 1), .int 0, .int 0]) else if i = 1 then rfP (g.2.1 2) 24 k (fun j => a + 2 + 7 * j) else cEst g (a + 2 + 7 * ((i - 2) / 7)) ((i - 2) % 7)
def cAct (g : Gx) (a i : Nat) : va_E := cAct' g 24 a i
def cFor (g : Gx) (a i : Nat) : va_E := if i = 0 then .inr (3, [.ref (a + 1), .ref (a + 8), .ref (a + 15), .ref (a + 23), .ref (a + 24), .int 0]) else if i < 8 then cEst g (a + 1) (i - 1) else if i = 8 then rfP (g.2.1 4) 6 6 (fun j => a + 9 + j) else if i < 15 then zI g 16 else if i = 15 then rfP (g.2.1 4) 7 7 (fun j => a + 16 + j) else if i < 23 then zI g 16 else if i = 23 then zI g 16 else zI g 12
def cMod (g : Gx) (a i : Nat) : va_E := if i = 0 then .inr (7, [.int 0, .int 0, .ref (a + 1), .ref (a + 2), .ref (a + 3), .ref (a + 4), .ref (a + 5), .ref (a + 6), .ref (a + 7), .int 0, .ref (a + 8), .int 0, .int 0, .int 0, .int 0, .int 0, .int 0, .int 0, .int 0, .ref (a + 9), .ref (a + 10), .ref (a + 11), .ref (a + 12), .int 0]) else if i = 1 then .inl (g.2.1 0, 8, .inl (upd (upd (upd (upd (upd (upd (upd (upd (fun _ => 0) 0 (-1)) 1 (-1)) 2 (-1)) 3 (-1)) 4 (-1)) 5 (-1)) 6 (-1)) 7 (-1))) else if i = 10 then .inl (g.2.1 1, 2, .inl (fun _ => 0)) else zI g (lenM (246 + i))
set_option maxRecDepth 100000 in
set_option maxHeartbeats 4000000 in
theorem k_X2 (l : Launch) {g : Gx} (a : Nat) : KI l yX2_init cX2_init 1 1 g 2 [.null, .null, .null, .null, .null, .null, .int 0, .int 0, .int 0, .int 0, .int 0, .int 0, .int 0, .int 0, .int 0, .int 0] 6 36 7 (cEst g a) a := by
  refine Met.ofW (cc := cX2_init) (maxL := 1) (ret := none) (by decide) rfl ?_
  intro p en s m args below meth c s₁ B hml hv
  obtain ⟨rfl, hSC, hL⟩ := hv
  have X : CB p s m _ c cX2_init 1 RX2 g := ⟨B.exec, B.bytes, hml, findClass_of_methodNamed B.named, fun w hw => atoms_spec (ws := wsy yX2_init cX2_init 1 none) B.pre w (List.mem_cons_of_mem _ hw), hSC⟩
  have hr := B.returns
  have hlocks := B.notSynchronized
  have hin2 : meth.name = "<init>" := (name_of_methodNamed B.named B.method).1
  have hx := X.1
  have hb := X.2.1
  have hS : va_S (fun q => a ≤ q) s.heap s.heap [] := va_S.rf
  have hA : ∀ q, a ≤ q → (fun q => a ≤ q) q := fun _ h => h
  clear hSC B
  have hl := lv_entry ([.ref a]) (n := 1) (Nat.le_of_ble_eq_true rfl)
  rw [lg_entry_eq]
  generalize (lg_sl ([.ref a]) ++ List.replicate (1 - (lg_sl ([.ref a])).length) Slot.unset).toArray = ls at hl ⊢
  have hl : lv_has ls 1 [(0, .ref a)] := hl
  generalize ([.ref a] : List Value).toArray = args at X ⊢
  show W p l en (rmC 1 6 36) s m args below meth c s.heap [] 0 0 (MQ below (va_Qv (fun _ : Unit => True) (fun _ t => Ly g.1 a 7 (cEst g a) t.heap) (fun q => a ≤ q)) args s 6 36 (fun q => a ≤ q)) (F0 m 0 ls [])
  refine lv_aload_n hx hb dX2_init_0 rfl (lv_at hl 0 rfl) ?_
  refine W.objInit hx hb X.2.2.2.1 (X.2.2.2.2.1 _ wd_92) (X.2.2.2.2.1 _ wd_77) (X.2.2.2.2.1 _ wd_78) rfl (by rw [hml]; exact hl.1) rfl dX2_init_1 (Nat.le_of_ble_eq_true rfl) (Nat.le_of_ble_eq_true rfl) ?_
  refine lv_aload_n hx hb dX2_init_4 rfl (lv_at hl 0 rfl) ?_
  refine lv_bipush (v := 6) hx hb dX2_init_5 (by decide) ?_
  refine r_newI X hL hS wd_178 (N := 6) (by decide) rfl (Nat.le_of_ble_eq_true rfl) (Nat.le_of_ble_eq_true rfl) (Nat.le_of_ble_eq_true rfl) dX2_init_7 (fun H hL hS => ?_)
  refine r_putF X hL hS hA (ci := 2) rfl inX2 tyX2_ok nmX2 0 (Nat.le_of_ble_eq_true rfl) rfl 0 (by decide) rfl rfl wd_93 rfl hin2 rfl rfl rfl (Nat.le_of_ble_eq_true rfl) dX2_init_9 (fun H locs hL hS => ?_)
  refine lv_aload_n hx hb dX2_init_12 rfl (lv_at hl 0 rfl) ?_
  refine lv_bipush (v := 6) hx hb dX2_init_13 (by decide) ?_
  refine r_newI X hL hS wd_178 (N := 6) (by decide) rfl (Nat.le_of_ble_eq_true rfl) (Nat.le_of_ble_eq_true rfl) (Nat.le_of_ble_eq_true rfl) dX2_init_15 (fun H hL hS => ?_)
  refine r_putF X hL hS hA (ci := 2) rfl inX2 tyX2_ok nmX2 0 (Nat.le_of_ble_eq_true rfl) rfl 1 (by decide) rfl rfl wd_96 rfl hin2 rfl rfl rfl (Nat.le_of_ble_eq_true rfl) dX2_init_17 (fun H locs hL hS => ?_)
  refine lv_aload_n hx hb dX2_init_20 rfl (lv_at hl 0 rfl) ?_
  refine lv_bipush (v := 6) hx hb dX2_init_21 (by decide) ?_
  refine r_newI X hL hS wd_178 (N := 6) (by decide) rfl (Nat.le_of_ble_eq_true rfl) (Nat.le_of_ble_eq_true rfl) (Nat.le_of_ble_eq_true rfl) dX2_init_23 (fun H hL hS => ?_)
  refine r_putF X hL hS hA (ci := 2) rfl inX2 tyX2_ok nmX2 0 (Nat.le_of_ble_eq_true rfl) rfl 2 (by decide) rfl rfl wd_100 rfl hin2 rfl rfl rfl (Nat.le_of_ble_eq_true rfl) dX2_init_25 (fun H locs hL hS => ?_)
  refine lv_aload_n hx hb dX2_init_28 rfl (lv_at hl 0 rfl) ?_
  refine lv_bipush (v := 6) hx hb dX2_init_29 (by decide) ?_
  refine r_newI X hL hS wd_178 (N := 6) (by decide) rfl (Nat.le_of_ble_eq_true rfl) (Nat.le_of_ble_eq_true rfl) (Nat.le_of_ble_eq_true rfl) dX2_init_31 (fun H hL hS => ?_)
  refine r_putF X hL hS hA (ci := 2) rfl inX2 tyX2_ok nmX2 0 (Nat.le_of_ble_eq_true rfl) rfl 3 (by decide) rfl rfl wd_102 rfl hin2 rfl rfl rfl (Nat.le_of_ble_eq_true rfl) dX2_init_33 (fun H locs hL hS => ?_)
  refine lv_aload_n hx hb dX2_init_36 rfl (lv_at hl 0 rfl) ?_
  refine lv_bipush (v := 6) hx hb dX2_init_37 (by decide) ?_
  refine r_newI X hL hS wd_178 (N := 6) (by decide) rfl (Nat.le_of_ble_eq_true rfl) (Nat.le_of_ble_eq_true rfl) (Nat.le_of_ble_eq_true rfl) dX2_init_39 (fun H hL hS => ?_)
  refine r_putF X hL hS hA (ci := 2) rfl inX2 tyX2_ok nmX2 0 (Nat.le_of_ble_eq_true rfl) rfl 4 (by decide) rfl rfl wd_105 rfl hin2 rfl rfl rfl (Nat.le_of_ble_eq_true rfl) dX2_init_41 (fun H locs hL hS => ?_)
  refine lv_aload_n hx hb dX2_init_44 rfl (lv_at hl 0 rfl) ?_
  refine lv_bipush (v := 6) hx hb dX2_init_45 (by decide) ?_
  refine r_newI X hL hS wd_178 (N := 6) (by decide) rfl (Nat.le_of_ble_eq_true rfl) (Nat.le_of_ble_eq_true rfl) (Nat.le_of_ble_eq_true rfl) dX2_init_47 (fun H hL hS => ?_)
  refine r_putF X hL hS hA (ci := 2) rfl inX2 tyX2_ok nmX2 0 (Nat.le_of_ble_eq_true rfl) rfl 5 (by decide) rfl rfl wd_108 rfl hin2 rfl rfl rfl (Nat.le_of_ble_eq_true rfl) dX2_init_49 (fun H locs hL hS => ?_)
  refine r_vret X hr hlocks (hL.congr (fun i hi => ?_)) hS dX2_init_52
  have hq : i = 0 ∨ i = 1 ∨ i = 2 ∨ i = 3 ∨ i = 4 ∨ i = 5 ∨ i = 6 := by omega
  rcases hq with rfl | rfl | rfl | rfl | rfl | rfl | rfl <;> rfl
set_option maxRecDepth 100000 in
set_option maxHeartbeats 4000000 in
theorem k_X5 (l : Launch) {g : Gx} (a : Nat) : KI l yX5_init cX5_init 1 1 g 5 [.null, .int 0, .int 0, .int 0] 1 40 2 (cRow g a) a := by
  refine Met.ofW (cc := cX5_init) (maxL := 1) (ret := none) (by decide) rfl ?_
  intro p en s m args below meth c s₁ B hml hv
  obtain ⟨rfl, hSC, hL⟩ := hv
  have X : CB p s m _ c cX5_init 1 RX5 g := ⟨B.exec, B.bytes, hml, findClass_of_methodNamed B.named, fun w hw => atoms_spec (ws := wsy yX5_init cX5_init 1 none) B.pre w (List.mem_cons_of_mem _ hw), hSC⟩
  have hr := B.returns
  have hlocks := B.notSynchronized
  have hin2 : meth.name = "<init>" := (name_of_methodNamed B.named B.method).1
  have hx := X.1
  have hb := X.2.1
  have hS : va_S (fun q => a ≤ q) s.heap s.heap [] := va_S.rf
  have hA : ∀ q, a ≤ q → (fun q => a ≤ q) q := fun _ h => h
  clear hSC B
  have hl := lv_entry ([.ref a]) (n := 1) (Nat.le_of_ble_eq_true rfl)
  rw [lg_entry_eq]
  generalize (lg_sl ([.ref a]) ++ List.replicate (1 - (lg_sl ([.ref a])).length) Slot.unset).toArray = ls at hl ⊢
  have hl : lv_has ls 1 [(0, .ref a)] := hl
  generalize ([.ref a] : List Value).toArray = args at X ⊢
  show W p l en (rmC 1 1 40) s m args below meth c s.heap [] 0 0 (MQ below (va_Qv (fun _ : Unit => True) (fun _ t => Ly g.1 a 2 (cRow g a) t.heap) (fun q => a ≤ q)) args s 1 40 (fun q => a ≤ q)) (F0 m 0 ls [])
  refine lv_aload_n hx hb dX5_init_0 rfl (lv_at hl 0 rfl) ?_
  refine W.objInit hx hb X.2.2.2.1 (X.2.2.2.2.1 _ wd_278) (X.2.2.2.2.1 _ wd_77) (X.2.2.2.2.1 _ wd_78) rfl (by rw [hml]; exact hl.1) rfl dX5_init_1 (Nat.le_of_ble_eq_true rfl) (Nat.le_of_ble_eq_true rfl) ?_
  refine lv_aload_n hx hb dX5_init_4 rfl (lv_at hl 0 rfl) ?_
  refine lv_bipush (v := 40) hx hb dX5_init_5 (by decide) ?_
  refine r_newI X hL hS wd_178 (N := 40) (by decide) rfl (Nat.le_of_ble_eq_true rfl) (Nat.le_of_ble_eq_true rfl) (Nat.le_of_ble_eq_true rfl) dX5_init_7 (fun H hL hS => ?_)
  refine r_putF X hL hS hA (ci := 5) rfl inX5 tyX5_ok nmX5 0 (Nat.le_of_ble_eq_true rfl) rfl 0 (by decide) rfl rfl wd_279 rfl hin2 rfl rfl rfl (Nat.le_of_ble_eq_true rfl) dX5_init_9 (fun H locs hL hS => ?_)
  refine lv_aload_n hx hb dX5_init_12 rfl (lv_at hl 0 rfl) ?_
  refine lv_iconst (v := 1) hx hb dX5_init_13 (by decide) ?_
  refine r_putN X hL hS hA (ci := 5) rfl inX5 tyX5_ok nmX5 0 (Nat.le_of_ble_eq_true rfl) rfl 1 (by decide) rfl wd_282 rfl rfl rfl rfl (Nat.le_of_ble_eq_true rfl) dX5_init_14 (fun H locs hL hS => ?_)
  refine r_vret X hr hlocks (hL.congr (fun i hi => ?_)) hS dX5_init_17
  have hq : i = 0 ∨ i = 1 := by omega
  rcases hq with rfl | rfl <;> rfl
set_option maxRecDepth 100000 in
set_option maxHeartbeats 4000000 in
theorem k_X1 (l : Launch) {g : Gx} (a : Nat) : KI l yX1_init cX1_init 1 1 g 1 [.null, .int 0] 1 16 2 (cAsk g a) a := by
  refine Met.ofW (cc := cX1_init) (maxL := 1) (ret := none) (by decide) rfl ?_
  intro p en s m args below meth c s₁ B hml hv
  obtain ⟨rfl, hSC, hL⟩ := hv
  have X : CB p s m _ c cX1_init 1 RX1 g := ⟨B.exec, B.bytes, hml, findClass_of_methodNamed B.named, fun w hw => atoms_spec (ws := wsy yX1_init cX1_init 1 none) B.pre w (List.mem_cons_of_mem _ hw), hSC⟩
  have hr := B.returns
  have hlocks := B.notSynchronized
  have hin2 : meth.name = "<init>" := (name_of_methodNamed B.named B.method).1
  have hx := X.1
  have hb := X.2.1
  have hS : va_S (fun q => a ≤ q) s.heap s.heap [] := va_S.rf
  have hA : ∀ q, a ≤ q → (fun q => a ≤ q) q := fun _ h => h
  clear hSC B
  have hl := lv_entry ([.ref a]) (n := 1) (Nat.le_of_ble_eq_true rfl)
  rw [lg_entry_eq]
  generalize (lg_sl ([.ref a]) ++ List.replicate (1 - (lg_sl ([.ref a])).length) Slot.unset).toArray = ls at hl ⊢
  have hl : lv_has ls 1 [(0, .ref a)] := hl
  generalize ([.ref a] : List Value).toArray = args at X ⊢
  show W p l en (rmC 1 1 16) s m args below meth c s.heap [] 0 0 (MQ below (va_Qv (fun _ : Unit => True) (fun _ t => Ly g.1 a 2 (cAsk g a) t.heap) (fun q => a ≤ q)) args s 1 16 (fun q => a ≤ q)) (F0 m 0 ls [])
  refine lv_aload_n hx hb dX1_init_0 rfl (lv_at hl 0 rfl) ?_
  refine W.objInit hx hb X.2.2.2.1 (X.2.2.2.2.1 _ wd_264) (X.2.2.2.2.1 _ wd_77) (X.2.2.2.2.1 _ wd_78) rfl (by rw [hml]; exact hl.1) rfl dX1_init_1 (Nat.le_of_ble_eq_true rfl) (Nat.le_of_ble_eq_true rfl) ?_
  refine lv_aload_n hx hb dX1_init_4 rfl (lv_at hl 0 rfl) ?_
  refine lv_bipush (v := 16) hx hb dX1_init_5 (by decide) ?_
  refine r_newI X hL hS wd_178 (N := 16) (by decide) rfl (Nat.le_of_ble_eq_true rfl) (Nat.le_of_ble_eq_true rfl) (Nat.le_of_ble_eq_true rfl) dX1_init_7 (fun H hL hS => ?_)
  refine r_putF X hL hS hA (ci := 1) rfl inX1 tyX1_ok nmX1 0 (Nat.le_of_ble_eq_true rfl) rfl 0 (by decide) rfl rfl wd_265 rfl hin2 rfl rfl rfl (Nat.le_of_ble_eq_true rfl) dX1_init_9 (fun H locs hL hS => ?_)
  refine r_vret X hr hlocks (hL.congr (fun i hi => ?_)) hS dX1_init_12
  have hq : i = 0 ∨ i = 1 := by omega
  rcases hq with rfl | rfl <;> rfl
set_option maxRecDepth 100000 in
set_option maxHeartbeats 4000000 in
theorem k_X4 (l : Launch) {g : Gx} (a : Nat) : KI l yX4_init cX4_init 1 2 g 4 [.null, .int 0, .int 0, .int 0, .null, .int 0, .int 0, .int 0] 8 172 9 (cRdr g a) a := by
  refine Met.ofW (cc := cX4_init) (maxL := 1) (ret := none) (by decide) rfl ?_
  intro p en s m args below meth c s₁ B hml hv
  obtain ⟨rfl, hSC, hL⟩ := hv
  have X : CB p s m _ c cX4_init 1 RX4 g := ⟨B.exec, B.bytes, hml, findClass_of_methodNamed B.named, fun w hw => atoms_spec (ws := wsy yX4_init cX4_init 1 none) B.pre w (List.mem_cons_of_mem _ hw), hSC⟩
  have hr := B.returns
  have hlocks := B.notSynchronized
  have hin2 : meth.name = "<init>" := (name_of_methodNamed B.named B.method).1
  have hx := X.1
  have hb := X.2.1
  have hS : va_S (fun q => a ≤ q) s.heap s.heap [] := va_S.rf
  have hA : ∀ q, a ≤ q → (fun q => a ≤ q) q := fun _ h => h
  clear hSC B
  have hl := lv_entry ([.ref a]) (n := 1) (Nat.le_of_ble_eq_true rfl)
  rw [lg_entry_eq]
  generalize (lg_sl ([.ref a]) ++ List.replicate (1 - (lg_sl ([.ref a])).length) Slot.unset).toArray = ls at hl ⊢
  have hl : lv_has ls 1 [(0, .ref a)] := hl
  generalize ([.ref a] : List Value).toArray = args at X ⊢
  show W p l en (rmC 2 8 172) s m args below meth c s.heap [] 0 0 (MQ below (va_Qv (fun _ : Unit => True) (fun _ t => Ly g.1 a 9 (cRdr g a) t.heap) (fun q => a ≤ q)) args s 8 172 (fun q => a ≤ q)) (F0 m 0 ls [])
  refine lv_aload_n hx hb dX4_init_0 rfl (lv_at hl 0 rfl) ?_
  refine W.objInit hx hb X.2.2.2.1 (X.2.2.2.2.1 _ wd_86) (X.2.2.2.2.1 _ wd_77) (X.2.2.2.2.1 _ wd_78) rfl (by rw [hml]; exact hl.1) rfl dX4_init_1 (Nat.le_of_ble_eq_true rfl) (Nat.le_of_ble_eq_true rfl) ?_
  refine lv_aload_n hx hb dX4_init_4 rfl (lv_at hl 0 rfl) ?_
  refine r_new X hL hS (ci := 2) (fs := [.null, .null, .null, .null, .null, .null, .int 0, .int 0, .int 0, .int 0, .int 0, .int 0, .int 0, .int 0, .int 0, .int 0]) rfl inX2 tyX2_ok ⟨wd_87, wd_88, wd_61⟩ (fun j hj => by first | (match j, hj with | 0, _ => rfl | 1, _ => rfl | 2, _ => rfl | 3, _ => rfl | 4, _ => rfl | 5, _ => rfl | 6, _ => rfl | 7, _ => rfl | 8, _ => rfl | 9, _ => rfl | 10, _ => rfl | 11, _ => rfl | 12, _ => rfl | 13, _ => rfl | 14, _ => rfl | 15, _ => rfl | (q + 16), h => exact absurd h (by omega))) (Nat.le_of_ble_eq_true rfl) (Nat.le_of_ble_eq_true rfl) dX4_init_5 (fun H hL hS => ?_)
  refine lv_dup hx hb dX4_init_8 rfl ?_
  refine r_initN X (n := 1) hL hS hA rfl (k_X2 l _) ⟨wd_91, wd_61, wd_90⟩ X.2.2.2.2.2.2.2.2.2.2.1 ⟨by decide +kernel, by decide +kernel, by decide +kernel⟩ rfl hl.1 (Nat.le_of_ble_eq_true rfl) dX4_init_9 ⟨(Nat.le_of_ble_eq_true rfl), (Nat.le_of_ble_eq_true rfl)⟩ ⟨(Nat.le_of_ble_eq_true rfl), (Nat.le_of_ble_eq_true rfl)⟩ (fun H locs hL hS => ?_)
  refine r_putF X hL hS hA (ci := 4) rfl inX4 tyX4_ok nmX4 0 (Nat.le_of_ble_eq_true rfl) rfl 0 (by decide) rfl rfl wd_179 rfl hin2 rfl rfl rfl (Nat.le_of_ble_eq_true rfl) dX4_init_12 (fun H locs hL hS => ?_)
  refine lv_aload_n hx hb dX4_init_15 rfl (lv_at hl 0 rfl) ?_
  refine lv_bipush (v := 120) hx hb dX4_init_16 (by decide) ?_
  refine r_newI X hL hS wd_178 (N := 120) (by decide) rfl (Nat.le_of_ble_eq_true rfl) (Nat.le_of_ble_eq_true rfl) (Nat.le_of_ble_eq_true rfl) dX4_init_18 (fun H hL hS => ?_)
  refine r_putF X hL hS hA (ci := 4) rfl inX4 tyX4_ok nmX4 0 (Nat.le_of_ble_eq_true rfl) rfl 4 (by decide) rfl rfl wd_187 rfl hin2 rfl rfl rfl (Nat.le_of_ble_eq_true rfl) dX4_init_20 (fun H locs hL hS => ?_)
  refine r_vret X hr hlocks (hL.congr (fun i hi => ?_)) hS dX4_init_23
  have hq : i = 0 ∨ i = 1 ∨ i = 2 ∨ i = 3 ∨ i = 4 ∨ i = 5 ∨ i = 6 ∨ i = 7 ∨ i = 8 := by omega
  rcases hq with rfl | rfl | rfl | rfl | rfl | rfl | rfl | rfl | rfl <;> rfl
set_option maxRecDepth 100000 in
set_option maxHeartbeats 4000000 in
theorem k_X3 (l : Launch) {g : Gx} (a : Nat) : KI l yX3_init cX3_init 1 2 g 3 [.null, .null, .null, .null, .null, .int 0] 24 301 25 (cFor g a) a := by
  refine Met.ofW (cc := cX3_init) (maxL := 1) (ret := none) (by decide) rfl ?_
  intro p en s m args below meth c s₁ B hml hv
  obtain ⟨rfl, hSC, hL⟩ := hv
  have X : CB p s m _ c cX3_init 1 RX3 g := ⟨B.exec, B.bytes, hml, findClass_of_methodNamed B.named, fun w hw => atoms_spec (ws := wsy yX3_init cX3_init 1 none) B.pre w (List.mem_cons_of_mem _ hw), hSC⟩
  have hr := B.returns
  have hlocks := B.notSynchronized
  have hin2 : meth.name = "<init>" := (name_of_methodNamed B.named B.method).1
  have hx := X.1
  have hb := X.2.1
  have hS : va_S (fun q => a ≤ q) s.heap s.heap [] := va_S.rf
  have hA : ∀ q, a ≤ q → (fun q => a ≤ q) q := fun _ h => h
  clear hSC B
  have hl := lv_entry ([.ref a]) (n := 1) (Nat.le_of_ble_eq_true rfl)
  rw [lg_entry_eq]
  generalize (lg_sl ([.ref a]) ++ List.replicate (1 - (lg_sl ([.ref a])).length) Slot.unset).toArray = ls at hl ⊢
  have hl : lv_has ls 1 [(0, .ref a)] := hl
  generalize ([.ref a] : List Value).toArray = args at X ⊢
  show W p l en (rmC 2 24 301) s m args below meth c s.heap [] 0 0 (MQ below (va_Qv (fun _ : Unit => True) (fun _ t => Ly g.1 a 25 (cFor g a) t.heap) (fun q => a ≤ q)) args s 24 301 (fun q => a ≤ q)) (F0 m 0 ls [])
  refine lv_aload_n hx hb dX3_init_0 rfl (lv_at hl 0 rfl) ?_
  refine W.objInit hx hb X.2.2.2.1 (X.2.2.2.2.1 _ wd_235) (X.2.2.2.2.1 _ wd_77) (X.2.2.2.2.1 _ wd_78) rfl (by rw [hml]; exact hl.1) rfl dX3_init_1 (Nat.le_of_ble_eq_true rfl) (Nat.le_of_ble_eq_true rfl) ?_
  refine lv_aload_n hx hb dX3_init_4 rfl (lv_at hl 0 rfl) ?_
  refine r_new X hL hS (ci := 2) (fs := [.null, .null, .null, .null, .null, .null, .int 0, .int 0, .int 0, .int 0, .int 0, .int 0, .int 0, .int 0, .int 0, .int 0]) rfl inX2 tyX2_ok ⟨wd_236, wd_88, wd_61⟩ (fun j hj => by first | (match j, hj with | 0, _ => rfl | 1, _ => rfl | 2, _ => rfl | 3, _ => rfl | 4, _ => rfl | 5, _ => rfl | 6, _ => rfl | 7, _ => rfl | 8, _ => rfl | 9, _ => rfl | 10, _ => rfl | 11, _ => rfl | 12, _ => rfl | 13, _ => rfl | 14, _ => rfl | 15, _ => rfl | (q + 16), h => exact absurd h (by omega))) (Nat.le_of_ble_eq_true rfl) (Nat.le_of_ble_eq_true rfl) dX3_init_5 (fun H hL hS => ?_)
  refine lv_dup hx hb dX3_init_8 rfl ?_
  refine r_initN X (n := 1) hL hS hA rfl (k_X2 l _) ⟨wd_91, wd_61, wd_90⟩ X.2.2.2.2.2.2.2.2.2.2.2.2.2.2.1 ⟨by decide +kernel, by decide +kernel, by decide +kernel⟩ rfl hl.1 (Nat.le_of_ble_eq_true rfl) dX3_init_9 ⟨(Nat.le_of_ble_eq_true rfl), (Nat.le_of_ble_eq_true rfl)⟩ ⟨(Nat.le_of_ble_eq_true rfl), (Nat.le_of_ble_eq_true rfl)⟩ (fun H locs hL hS => ?_)
  refine r_putF X hL hS hA (ci := 3) rfl inX3 tyX3_ok nmX3 0 (Nat.le_of_ble_eq_true rfl) rfl 0 (by decide) rfl rfl wd_240 rfl hin2 rfl rfl rfl (Nat.le_of_ble_eq_true rfl) dX3_init_12 (fun H locs hL hS => ?_)
  refine lv_aload_n hx hb dX3_init_15 rfl (lv_at hl 0 rfl) ?_
  refine lv_bipush (v := 6) hx hb dX3_init_16 (by decide) ?_
  refine lv_bipush (v := 16) hx hb dX3_init_18 (by decide) ?_
  refine r_mna X hL hS (N := 6) (K := 16) ⟨wd_238, wd_178⟩ (by decide) (by decide) rfl rfl (Nat.le_of_ble_eq_true rfl) (Nat.le_of_ble_eq_true rfl) (Nat.le_of_ble_eq_true rfl) (Nat.le_of_ble_eq_true rfl) (Nat.le_of_ble_eq_true rfl) dX3_init_20 (fun H hL hS => ?_)
  refine r_putF X hL hS hA (ci := 3) rfl inX3 tyX3_ok nmX3 0 (Nat.le_of_ble_eq_true rfl) rfl 1 (by decide) rfl rfl wd_241 rfl hin2 rfl rfl rfl (Nat.le_of_ble_eq_true rfl) dX3_init_24 (fun H locs hL hS => ?_)
  refine lv_aload_n hx hb dX3_init_27 rfl (lv_at hl 0 rfl) ?_
  refine lv_bipush (v := 7) hx hb dX3_init_28 (by decide) ?_
  refine lv_bipush (v := 16) hx hb dX3_init_30 (by decide) ?_
  refine r_mna X hL hS (N := 7) (K := 16) ⟨wd_238, wd_178⟩ (by decide) (by decide) rfl rfl (Nat.le_of_ble_eq_true rfl) (Nat.le_of_ble_eq_true rfl) (Nat.le_of_ble_eq_true rfl) (Nat.le_of_ble_eq_true rfl) (Nat.le_of_ble_eq_true rfl) dX3_init_32 (fun H hL hS => ?_)
  refine r_putF X hL hS hA (ci := 3) rfl inX3 tyX3_ok nmX3 0 (Nat.le_of_ble_eq_true rfl) rfl 2 (by decide) rfl rfl wd_242 rfl hin2 rfl rfl rfl (Nat.le_of_ble_eq_true rfl) dX3_init_36 (fun H locs hL hS => ?_)
  refine lv_aload_n hx hb dX3_init_39 rfl (lv_at hl 0 rfl) ?_
  refine lv_bipush (v := 16) hx hb dX3_init_40 (by decide) ?_
  refine r_newI X hL hS wd_178 (N := 16) (by decide) rfl (Nat.le_of_ble_eq_true rfl) (Nat.le_of_ble_eq_true rfl) (Nat.le_of_ble_eq_true rfl) dX3_init_42 (fun H hL hS => ?_)
  refine r_putF X hL hS hA (ci := 3) rfl inX3 tyX3_ok nmX3 0 (Nat.le_of_ble_eq_true rfl) rfl 3 (by decide) rfl rfl wd_243 rfl hin2 rfl rfl rfl (Nat.le_of_ble_eq_true rfl) dX3_init_44 (fun H locs hL hS => ?_)
  refine lv_aload_n hx hb dX3_init_47 rfl (lv_at hl 0 rfl) ?_
  refine lv_bipush (v := 12) hx hb dX3_init_48 (by decide) ?_
  refine r_newI X hL hS wd_178 (N := 12) (by decide) rfl (Nat.le_of_ble_eq_true rfl) (Nat.le_of_ble_eq_true rfl) (Nat.le_of_ble_eq_true rfl) dX3_init_50 (fun H hL hS => ?_)
  refine r_putF X hL hS hA (ci := 3) rfl inX3 tyX3_ok nmX3 0 (Nat.le_of_ble_eq_true rfl) rfl 4 (by decide) rfl rfl wd_244 rfl hin2 rfl rfl rfl (Nat.le_of_ble_eq_true rfl) dX3_init_52 (fun H locs hL hS => ?_)
  refine r_vret X hr hlocks (hL.congr (fun i hi => ?_)) hS dX3_init_55
  have hq : i = 0 ∨ i = 1 ∨ i = 2 ∨ i = 3 ∨ i = 4 ∨ i = 5 ∨ i = 6 ∨ i = 7 ∨ i = 8 ∨ i = 9 ∨ i = 10 ∨ i = 11 ∨ i = 12 ∨ i = 13 ∨ i = 14 ∨ i = 15 ∨ i = 16 ∨ i = 17 ∨ i = 18 ∨ i = 19 ∨ i = 20 ∨ i = 21 ∨ i = 22 ∨ i = 23 ∨ i = 24 := by omega
  rcases hq with rfl | rfl | rfl | rfl | rfl | rfl | rfl | rfl | rfl | rfl | rfl | rfl | rfl | rfl | rfl | rfl | rfl | rfl | rfl | rfl | rfl | rfl | rfl | rfl | rfl <;> rfl
set_option maxRecDepth 100000 in
set_option maxHeartbeats 4000000 in
theorem k_X7 (l : Launch) {g : Gx} (a : Nat) : KI l yX7_init cX7_init 1 1 g 7 [.int 0, .int 0, .null, .null, .null, .null, .null, .null, .null, .int 0, .null, .int 0, .int 0, .int 0, .int 0, .int 0, .int 0, .int 0, .int 0, .null, .null, .null, .null, .int 0] 12 2020 13 (cMod g a) a := by
  refine Met.ofW (cc := cX7_init) (maxL := 1) (ret := none) (by decide) rfl ?_
  intro p en s m args below meth c s₁ B hml hv
  obtain ⟨rfl, hSC, hL⟩ := hv
  have X : CB p s m _ c cX7_init 1 RX7 g := ⟨B.exec, B.bytes, hml, findClass_of_methodNamed B.named, fun w hw => atoms_spec (ws := wsy yX7_init cX7_init 1 none) B.pre w (List.mem_cons_of_mem _ hw), hSC⟩
  have hr := B.returns
  have hlocks := B.notSynchronized
  have hin2 : meth.name = "<init>" := (name_of_methodNamed B.named B.method).1
  have hx := X.1
  have hb := X.2.1
  have hS : va_S (fun q => a ≤ q) s.heap s.heap [] := va_S.rf
  have hA : ∀ q, a ≤ q → (fun q => a ≤ q) q := fun _ h => h
  clear hSC B
  have hl := lv_entry ([.ref a]) (n := 1) (Nat.le_of_ble_eq_true rfl)
  rw [lg_entry_eq]
  generalize (lg_sl ([.ref a]) ++ List.replicate (1 - (lg_sl ([.ref a])).length) Slot.unset).toArray = ls at hl ⊢
  have hl : lv_has ls 1 [(0, .ref a)] := hl
  generalize ([.ref a] : List Value).toArray = args at X ⊢
  show W p l en (rmC 1 12 2020) s m args below meth c s.heap [] 0 0 (MQ below (va_Qv (fun _ : Unit => True) (fun _ t => Ly g.1 a 13 (cMod g a) t.heap) (fun q => a ≤ q)) args s 12 2020 (fun q => a ≤ q)) (F0 m 0 ls [])
  refine lv_aload_n hx hb dX7_init_0 rfl (lv_at hl 0 rfl) ?_
  refine W.objInit hx hb X.2.2.2.1 (X.2.2.2.2.1 _ wd_882) (X.2.2.2.2.1 _ wd_77) (X.2.2.2.2.1 _ wd_78) rfl (by rw [hml]; exact hl.1) rfl dX7_init_1 (Nat.le_of_ble_eq_true rfl) (Nat.le_of_ble_eq_true rfl) ?_
  refine lv_aload_n hx hb dX7_init_4 rfl (lv_at hl 0 rfl) ?_
  refine lv_bipush (v := 8) hx hb dX7_init_5 (by decide) ?_
  refine r_newI X hL hS wd_178 (N := 8) (by decide) rfl (Nat.le_of_ble_eq_true rfl) (Nat.le_of_ble_eq_true rfl) (Nat.le_of_ble_eq_true rfl) dX7_init_7 (fun H hL hS => ?_)
  refine lv_dup hx hb dX7_init_9 rfl ?_
  refine lv_iconst (v := 0) hx hb dX7_init_10 (by decide) ?_
  refine lv_iconst (v := -1) hx hb dX7_init_11 (by decide) ?_
  refine r_iast X hL hS hA 1 (Nat.le_of_ble_eq_true rfl) rfl (by decide) dX7_init_12 (fun H locs hL hS => ?_)
  refine lv_dup hx hb dX7_init_13 rfl ?_
  refine lv_iconst (v := 1) hx hb dX7_init_14 (by decide) ?_
  refine lv_iconst (v := -1) hx hb dX7_init_15 (by decide) ?_
  refine r_iast X hL hS hA 1 (Nat.le_of_ble_eq_true rfl) rfl (by decide) dX7_init_16 (fun H locs hL hS => ?_)
  refine lv_dup hx hb dX7_init_17 rfl ?_
  refine lv_iconst (v := 2) hx hb dX7_init_18 (by decide) ?_
  refine lv_iconst (v := -1) hx hb dX7_init_19 (by decide) ?_
  refine r_iast X hL hS hA 1 (Nat.le_of_ble_eq_true rfl) rfl (by decide) dX7_init_20 (fun H locs hL hS => ?_)
  refine lv_dup hx hb dX7_init_21 rfl ?_
  refine lv_iconst (v := 3) hx hb dX7_init_22 (by decide) ?_
  refine lv_iconst (v := -1) hx hb dX7_init_23 (by decide) ?_
  refine r_iast X hL hS hA 1 (Nat.le_of_ble_eq_true rfl) rfl (by decide) dX7_init_24 (fun H locs hL hS => ?_)
  refine lv_dup hx hb dX7_init_25 rfl ?_
  refine lv_iconst (v := 4) hx hb dX7_init_26 (by decide) ?_
  refine lv_iconst (v := -1) hx hb dX7_init_27 (by decide) ?_
  refine r_iast X hL hS hA 1 (Nat.le_of_ble_eq_true rfl) rfl (by decide) dX7_init_28 (fun H locs hL hS => ?_)
  refine lv_dup hx hb dX7_init_29 rfl ?_
  refine lv_iconst (v := 5) hx hb dX7_init_30 (by decide) ?_
  refine lv_iconst (v := -1) hx hb dX7_init_31 (by decide) ?_
  refine r_iast X hL hS hA 1 (Nat.le_of_ble_eq_true rfl) rfl (by decide) dX7_init_32 (fun H locs hL hS => ?_)
  refine lv_dup hx hb dX7_init_33 rfl ?_
  refine lv_bipush (v := 6) hx hb dX7_init_34 (by decide) ?_
  refine lv_iconst (v := -1) hx hb dX7_init_36 (by decide) ?_
  refine r_iast X hL hS hA 1 (Nat.le_of_ble_eq_true rfl) rfl (by decide) dX7_init_37 (fun H locs hL hS => ?_)
  refine lv_dup hx hb dX7_init_38 rfl ?_
  refine lv_bipush (v := 7) hx hb dX7_init_39 (by decide) ?_
  refine lv_iconst (v := -1) hx hb dX7_init_41 (by decide) ?_
  refine r_iast X hL hS hA 1 (Nat.le_of_ble_eq_true rfl) rfl (by decide) dX7_init_42 (fun H locs hL hS => ?_)
  refine r_putF X hL hS hA (ci := 7) rfl inX7 tyX7_ok nmX7 0 (Nat.le_of_ble_eq_true rfl) rfl 2 (by decide) rfl rfl wd_885 rfl hin2 rfl rfl rfl (Nat.le_of_ble_eq_true rfl) dX7_init_43 (fun H locs hL hS => ?_)
  refine lv_aload_n hx hb dX7_init_46 rfl (lv_at hl 0 rfl) ?_
  refine lv_bipush (v := 8) hx hb dX7_init_47 (by decide) ?_
  refine r_newI X hL hS wd_178 (N := 8) (by decide) rfl (Nat.le_of_ble_eq_true rfl) (Nat.le_of_ble_eq_true rfl) (Nat.le_of_ble_eq_true rfl) dX7_init_49 (fun H hL hS => ?_)
  refine r_putF X hL hS hA (ci := 7) rfl inX7 tyX7_ok nmX7 0 (Nat.le_of_ble_eq_true rfl) rfl 3 (by decide) rfl rfl wd_886 rfl hin2 rfl rfl rfl (Nat.le_of_ble_eq_true rfl) dX7_init_51 (fun H locs hL hS => ?_)
  refine lv_aload_n hx hb dX7_init_54 rfl (lv_at hl 0 rfl) ?_
  refine lv_sipush (v := 320) hx hb dX7_init_55 (by decide) ?_
  refine r_newI X hL hS wd_178 (N := 320) (by decide) rfl (Nat.le_of_ble_eq_true rfl) (Nat.le_of_ble_eq_true rfl) (Nat.le_of_ble_eq_true rfl) dX7_init_58 (fun H hL hS => ?_)
  refine r_putF X hL hS hA (ci := 7) rfl inX7 tyX7_ok nmX7 0 (Nat.le_of_ble_eq_true rfl) rfl 4 (by decide) rfl rfl wd_887 rfl hin2 rfl rfl rfl (Nat.le_of_ble_eq_true rfl) dX7_init_60 (fun H locs hL hS => ?_)
  refine lv_aload_n hx hb dX7_init_63 rfl (lv_at hl 0 rfl) ?_
  refine lv_bipush (v := 50) hx hb dX7_init_64 (by decide) ?_
  refine r_newI X hL hS wd_178 (N := 50) (by decide) rfl (Nat.le_of_ble_eq_true rfl) (Nat.le_of_ble_eq_true rfl) (Nat.le_of_ble_eq_true rfl) dX7_init_66 (fun H hL hS => ?_)
  refine r_putF X hL hS hA (ci := 7) rfl inX7 tyX7_ok nmX7 0 (Nat.le_of_ble_eq_true rfl) rfl 5 (by decide) rfl rfl wd_888 rfl hin2 rfl rfl rfl (Nat.le_of_ble_eq_true rfl) dX7_init_68 (fun H locs hL hS => ?_)
  refine lv_aload_n hx hb dX7_init_71 rfl (lv_at hl 0 rfl) ?_
  refine lv_bipush (v := 50) hx hb dX7_init_72 (by decide) ?_
  refine r_newI X hL hS wd_178 (N := 50) (by decide) rfl (Nat.le_of_ble_eq_true rfl) (Nat.le_of_ble_eq_true rfl) (Nat.le_of_ble_eq_true rfl) dX7_init_74 (fun H hL hS => ?_)
  refine r_putF X hL hS hA (ci := 7) rfl inX7 tyX7_ok nmX7 0 (Nat.le_of_ble_eq_true rfl) rfl 6 (by decide) rfl rfl wd_889 rfl hin2 rfl rfl rfl (Nat.le_of_ble_eq_true rfl) dX7_init_76 (fun H locs hL hS => ?_)
  refine lv_aload_n hx hb dX7_init_79 rfl (lv_at hl 0 rfl) ?_
  refine lv_bipush (v := 50) hx hb dX7_init_80 (by decide) ?_
  refine r_newI X hL hS wd_178 (N := 50) (by decide) rfl (Nat.le_of_ble_eq_true rfl) (Nat.le_of_ble_eq_true rfl) (Nat.le_of_ble_eq_true rfl) dX7_init_82 (fun H hL hS => ?_)
  refine r_putF X hL hS hA (ci := 7) rfl inX7 tyX7_ok nmX7 0 (Nat.le_of_ble_eq_true rfl) rfl 7 (by decide) rfl rfl wd_890 rfl hin2 rfl rfl rfl (Nat.le_of_ble_eq_true rfl) dX7_init_84 (fun H locs hL hS => ?_)
  refine lv_aload_n hx hb dX7_init_87 rfl (lv_at hl 0 rfl) ?_
  refine lv_sipush (v := 1200) hx hb dX7_init_88 (by decide) ?_
  refine r_newI X hL hS wd_178 (N := 1200) (by decide) rfl (Nat.le_of_ble_eq_true rfl) (Nat.le_of_ble_eq_true rfl) (Nat.le_of_ble_eq_true rfl) dX7_init_91 (fun H hL hS => ?_)
  refine r_putF X hL hS hA (ci := 7) rfl inX7 tyX7_ok nmX7 0 (Nat.le_of_ble_eq_true rfl) rfl 8 (by decide) rfl rfl wd_891 rfl hin2 rfl rfl rfl (Nat.le_of_ble_eq_true rfl) dX7_init_93 (fun H locs hL hS => ?_)
  refine lv_aload_n hx hb dX7_init_96 rfl (lv_at hl 0 rfl) ?_
  refine lv_bipush (v := 120) hx hb dX7_init_97 (by decide) ?_
  refine r_newI X hL hS wd_178 (N := 120) (by decide) rfl (Nat.le_of_ble_eq_true rfl) (Nat.le_of_ble_eq_true rfl) (Nat.le_of_ble_eq_true rfl) dX7_init_99 (fun H hL hS => ?_)
  refine r_putF X hL hS hA (ci := 7) rfl inX7 tyX7_ok nmX7 0 (Nat.le_of_ble_eq_true rfl) rfl 10 (by decide) rfl rfl wd_893 rfl hin2 rfl rfl rfl (Nat.le_of_ble_eq_true rfl) dX7_init_101 (fun H locs hL hS => ?_)
  refine lv_aload_n hx hb dX7_init_104 rfl (lv_at hl 0 rfl) ?_
  refine lv_bipush (v := 96) hx hb dX7_init_105 (by decide) ?_
  refine r_newI X hL hS wd_178 (N := 96) (by decide) rfl (Nat.le_of_ble_eq_true rfl) (Nat.le_of_ble_eq_true rfl) (Nat.le_of_ble_eq_true rfl) dX7_init_107 (fun H hL hS => ?_)
  refine r_putF X hL hS hA (ci := 7) rfl inX7 tyX7_ok nmX7 0 (Nat.le_of_ble_eq_true rfl) rfl 19 (by decide) rfl rfl wd_902 rfl hin2 rfl rfl rfl (Nat.le_of_ble_eq_true rfl) dX7_init_109 (fun H locs hL hS => ?_)
  refine lv_aload_n hx hb dX7_init_112 rfl (lv_at hl 0 rfl) ?_
  refine lv_iconst (v := 2) hx hb dX7_init_113 (by decide) ?_
  refine r_newZ X hL hS wd_956 (N := 2) (by decide) rfl (Nat.le_of_ble_eq_true rfl) (Nat.le_of_ble_eq_true rfl) (Nat.le_of_ble_eq_true rfl) dX7_init_114 (fun H hL hS => ?_)
  refine r_putF X hL hS hA (ci := 7) rfl inX7 tyX7_ok nmX7 0 (Nat.le_of_ble_eq_true rfl) rfl 20 (by decide) rfl rfl wd_903 rfl hin2 rfl rfl rfl (Nat.le_of_ble_eq_true rfl) dX7_init_116 (fun H locs hL hS => ?_)
  refine lv_aload_n hx hb dX7_init_119 rfl (lv_at hl 0 rfl) ?_
  refine lv_bipush (v := 100) hx hb dX7_init_120 (by decide) ?_
  refine r_newI X hL hS wd_178 (N := 100) (by decide) rfl (Nat.le_of_ble_eq_true rfl) (Nat.le_of_ble_eq_true rfl) (Nat.le_of_ble_eq_true rfl) dX7_init_122 (fun H hL hS => ?_)
  refine r_putF X hL hS hA (ci := 7) rfl inX7 tyX7_ok nmX7 0 (Nat.le_of_ble_eq_true rfl) rfl 21 (by decide) rfl rfl wd_904 rfl hin2 rfl rfl rfl (Nat.le_of_ble_eq_true rfl) dX7_init_124 (fun H locs hL hS => ?_)
  refine lv_aload_n hx hb dX7_init_127 rfl (lv_at hl 0 rfl) ?_
  refine lv_bipush (v := 16) hx hb dX7_init_128 (by decide) ?_
  refine r_newI X hL hS wd_178 (N := 16) (by decide) rfl (Nat.le_of_ble_eq_true rfl) (Nat.le_of_ble_eq_true rfl) (Nat.le_of_ble_eq_true rfl) dX7_init_130 (fun H hL hS => ?_)
  refine r_putF X hL hS hA (ci := 7) rfl inX7 tyX7_ok nmX7 0 (Nat.le_of_ble_eq_true rfl) rfl 22 (by decide) rfl rfl wd_905 rfl hin2 rfl rfl rfl (Nat.le_of_ble_eq_true rfl) dX7_init_132 (fun H locs hL hS => ?_)
  refine r_vret X hr hlocks (hL.congr (fun i hi => ?_)) hS dX7_init_135
  have hq : i = 0 ∨ i = 1 ∨ i = 2 ∨ i = 3 ∨ i = 4 ∨ i = 5 ∨ i = 6 ∨ i = 7 ∨ i = 8 ∨ i = 9 ∨ i = 10 ∨ i = 11 ∨ i = 12 := by omega
  rcases hq with rfl | rfl | rfl | rfl | rfl | rfl | rfl | rfl | rfl | rfl | rfl | rfl | rfl <;> rfl
theorem va_up_at {α : Type} {f : Nat → α} {k : Nat} {v : α} : va_up f k v k = v := by simp [va_up]
theorem glue_lt {n i : Nat} {c c1 : Nat → va_E} (h : i < n) : glue n c c1 i = c i := by simp [glue, h]
theorem glue_ge {n i : Nat} {c c1 : Nat → va_E} (h : ¬ i < n) : glue n c c1 i = c1 (i - n) := by simp [glue, h]
theorem rfP_up {c : ClassId} {n k a : Nat} {f : Nat → Nat} {x : Int32} (hx : x = nI k) (hk : k < 100) (ha : a = f k) : (.inl (c, n, .inr (.inr (.inr (.inr (va_up (fun j => if j < k then some (f j) else none) x.toNatClampNeg (some a)))))) : va_E) = rfP c n (k + 1) f := by
  subst hx
  subst ha
  unfold rfP
  congr 7
  funext j
  rw [nI_clamp (by omega)]
  by_cases h : j = k
  · subst h
    simp [va_up]
  · by_cases h2 : j < k
    · simp [va_up, h, h2, Nat.lt_succ_of_lt h2]
    · simp [va_up, h, h2, show ¬ j < k + 1 by omega]
theorem act_step {g : Gx} {a i : Nat} {E e1 : va_E} (he : e1 = rfP (g.2.1 2) 24 (i + 1) (fun j => a + 2 + 7 * j)) : ∀ q, q < 2 + 7 * i + 7 → va_up (glue (2 + 7 * i) (va_up (cAct' g i a) (2 + 7 * i) E) (cEst g (a + (2 + 7 * i)))) 1 e1 q = cAct' g (i + 1) a q := by
  intro q hq
  subst he
  by_cases h1 : q = 1
  · subst h1
    rw [va_up_at]
    rfl
  · rw [va_up_ne _ _ h1]
    by_cases h2 : q < 2 + 7 * i
    · rw [glue_lt h2, va_up_ne _ _ (by omega)]
      unfold cAct'
      by_cases h0 : q = 0
      · simp only [if_pos h0]
      · simp only [if_neg h0, if_neg h1]
    · rw [glue_ge h2]
      unfold cAct'
      rw [if_neg (by omega), if_neg h1, show (q - 2) / 7 = i by omega, show (q - 2) % 7 = q - (2 + 7 * i) by omega, show a + (2 + 7 * i) = a + 2 + 7 * i by omega]
def cFogS (g : Gx) (fs : List Value) (kr ki a i : Nat) : va_E := if i = 0 then .inr (6, fs) else if i = 1 then rfP (g.2.1 3) 8 kr (fun j => a + 216 + 2 * j) else if i < 11 then cRdr g (a + 2) (i - 2) else if i < 18 then cEst g (a + 11) (i - 11) else if i < 188 then cAct g (a + 18) (i - 18) else if i = 188 then rfP (g.2.1 2) 2 ki (fun j => a + 232 + 7 * j) else if i < 214 then cFor g (a + 189) (i - 189) else if i < 216 then cAsk g (a + 214) (i - 214) else if i < 232 then cRow g (a + 216 + 2 * ((i - 216) / 2)) ((i - 216) % 2) else cEst g (a + 232 + 7 * ((i - 232) / 7)) ((i - 232) % 7)
def fsF (a : Nat) : List Value := [.ref (a + 1), .ref (a + 2), .ref (a + 11), .ref (a + 18), .ref (a + 188), .ref (a + 189), .ref (a + 214), .int 0, .int 0]
def cFog (g : Gx) (a i : Nat) : va_E := cFogS g (fsF a) 8 2 a i
theorem fog_put {g : Gx} {fs : List Value} {kr ki a : Nat} {fs1 : List Value} : ∀ q, va_up (cFogS g fs kr ki a) 0 (.inr (6, fs1)) q = cFogS g fs1 kr ki a q := by
  intro q
  by_cases h : q = 0
  · subst h
    rw [va_up_at]
    rfl
  · rw [va_up_ne _ _ h]
    unfold cFogS
    simp only [if_neg h]
theorem fog_row {g : Gx} {fs : List Value} {ki a i : Nat} {E e1 : va_E} (hi : i < 8) (he : e1 = rfP (g.2.1 3) 8 (i + 1) (fun j => a + 216 + 2 * j)) : ∀ q, q < 216 + 2 * i + 2 → va_up (glue (216 + 2 * i) (va_up (cFogS g fs i ki a) (216 + 2 * i) E) (cRow g (a + (216 + 2 * i)))) 1 e1 q = cFogS g fs (i + 1) ki a q := by
  intro q hq
  subst he
  by_cases h1 : q = 1
  · subst h1
    rw [va_up_at]
    rfl
  · rw [va_up_ne _ _ h1]
    by_cases h2 : q < 216 + 2 * i
    · rw [glue_lt h2, va_up_ne _ _ (by omega)]
      unfold cFogS
      simp only [if_neg h1]
    · rw [glue_ge h2]
      unfold cFogS
      rw [if_neg (by omega), if_neg h1, if_neg (by omega), if_neg (by omega), if_neg (by omega), if_neg (by omega), if_neg (by omega), if_neg (by omega), if_pos (by omega), show (q - 216) / 2 = i by omega, show (q - 216) % 2 = q - (216 + 2 * i) by omega, show a + (216 + 2 * i) = a + 216 + 2 * i by omega]
theorem fog_img {g : Gx} {fs : List Value} {kr a i : Nat} {E e1 : va_E} (hi : i < 2) (he : e1 = rfP (g.2.1 2) 2 (i + 1) (fun j => a + 232 + 7 * j)) : ∀ q, q < 232 + 7 * i + 7 → va_up (glue (232 + 7 * i) (va_up (cFogS g fs kr i a) (232 + 7 * i) E) (cEst g (a + (232 + 7 * i)))) 188 e1 q = cFogS g fs kr (i + 1) a q := by
  intro q hq
  subst he
  by_cases h1 : q = 188
  · subst h1
    rw [va_up_at]
    rfl
  · rw [va_up_ne _ _ h1]
    by_cases h2 : q < 232 + 7 * i
    · rw [glue_lt h2, va_up_ne _ _ (by omega)]
      unfold cFogS
      simp only [if_neg h1]
    · rw [glue_ge h2]
      unfold cFogS
      rw [if_neg (by omega), if_neg (by omega), if_neg (by omega), if_neg (by omega), if_neg (by omega), if_neg (by omega), if_neg (by omega), if_neg (by omega), if_neg (by omega), show (q - 232) / 7 = i by omega, show (q - 232) % 7 = q - (232 + 7 * i) by omega, show a + (232 + 7 * i) = a + 232 + 7 * i by omega]
set_option maxRecDepth 100000 in
set_option maxHeartbeats 4000000 in
theorem k_X0_loop {p : Program} {l : Launch} {en : Env} {s : State} {m : MethodId} {args : Array Value} {below : List Frame} {meth : Method} {c : Code} {g : Gx} {a : Nat} (X : CB p s m args c cX0_init 2 RX0 g) (hr : meth.sig.returnType = none) (hlocks : meth.locks = false) : ∀ (j i : Nat), i + j = 24 → ∀ (x1 : Int32) (H : Heap) (locs : List Loc) (ls : Array Slot), x1 = nI i → Ly g.1 a (2 + 7 * i) (cAct' g i a) H → va_S (fun q => a ≤ q) s.heap H locs → lv_has ls 2 [(0, .ref a), (1, .int x1)] → W p l en (rmC 2 169 1272) s m args below meth c H locs (1 + 7 * i) (24 + 52 * i) (MQ below (va_Qv (fun _ : Unit => True) (fun _ t => Ly g.1 a 170 (cAct g a) t.heap) (fun q => a ≤ q)) args s 169 1272 (fun q => a ≤ q)) (F0 m 15 ls []) := by
  have hx := X.1
  have hb := X.2.1
  have hA : ∀ q, a ≤ q → (fun q => a ≤ q) q := fun _ h => h
  intro j
  induction j with
  | zero =>
    intro i hi x1 H locs ls e1 hL hS hl
    obtain rfl : i = 24 := by omega
    refine lv_iload_n hx hb dX0_init_15 rfl (lv_at hl 1 rfl) ?_
    refine lv_bipush (v := 24) hx hb dX0_init_16 (by decide) ?_
    refine lv_icmp_ge (tgt := 40) hx hb dX0_init_18 (by decide) (fun _ => ?_) (fun q => absurd (by rw [e1]; decide) q)
    exact r_vret X hr hlocks hL hS dX0_init_40
  | succ j ih =>
    intro i hi x1 H locs ls e1 hL hS hl
    refine lv_iload_n hx hb dX0_init_15 rfl (lv_at hl 1 rfl) ?_
    refine lv_bipush (v := 24) hx hb dX0_init_16 (by decide) ?_
    refine lv_icmp_ge (tgt := 40) hx hb dX0_init_18 (by decide) (fun q => absurd q (by rw [e1]; exact nI_ge (b := 24) (by omega) (by decide))) (fun _ => ?_)
    refine lv_aload_n hx hb dX0_init_21 rfl (lv_at hl 0 rfl) ?_
    refine r_get X hL (ci := 0) rfl inX0 0 (by omega) rfl 0 (by decide) rfl wd_219 (v := .ref (a + 1)) rfl dX0_init_22 ?_
    refine lv_iload_n hx hb dX0_init_25 rfl (lv_at hl 1 rfl) ?_
    refine r_new X hL hS (ci := 2) (fs := [.null, .null, .null, .null, .null, .null, .int 0, .int 0, .int 0, .int 0, .int 0, .int 0, .int 0, .int 0, .int 0, .int 0]) rfl inX2 tyX2_ok ⟨wd_216, wd_88, wd_61⟩ (fun j hj => by first | (match j, hj with | 0, _ => rfl | 1, _ => rfl | 2, _ => rfl | 3, _ => rfl | 4, _ => rfl | 5, _ => rfl | 6, _ => rfl | 7, _ => rfl | 8, _ => rfl | 9, _ => rfl | 10, _ => rfl | 11, _ => rfl | 12, _ => rfl | 13, _ => rfl | 14, _ => rfl | 15, _ => rfl | (q + 16), h => exact absurd h (by omega))) (by show _ ≤ 169; omega) (by show _ ≤ 1272; omega) dX0_init_26 (fun H hL hS => ?_)
    refine lv_dup hx hb dX0_init_29 rfl ?_
    refine r_initN X (n := 2 + 7 * i) hL hS hA va_up_at (k_X2 l _) ⟨wd_91, wd_61, wd_90⟩ X.2.2.2.2.2.2.2.2.2.2.2.2.1 ⟨by decide +kernel, by decide +kernel, by decide +kernel⟩ rfl hl.1 (Nat.le_of_ble_eq_true rfl) dX0_init_30 ⟨(Nat.le_of_ble_eq_true rfl), (Nat.le_of_ble_eq_true rfl)⟩ ⟨by show _ ≤ 169; omega, by show _ ≤ 1272; omega⟩ (fun H locs hL hS => ?_)
    refine r_aast X hL hS hA 1 (2 + 7 * i) (by omega) (by omega) (N := 24) (t0 := 2) (r := (RX2, TX2, 16)) ((glue_lt (by omega)).trans ((va_up_ne _ _ (by omega)).trans rfl)) rfl ((glue_ge (by omega)).trans (by rw [Nat.sub_self]; rfl)) (ci := 2) rfl (i := x1) (by rw [e1]; simp only [inb, Bool.and_eq_true, decide_eq_true_eq, nI_toInt (show i < 2 ^ 31 by omega)]; omega) dX0_init_33 (fun H locs hL hS => ?_)
    have hL := hL.congr (act_step (rfP_up e1 (by omega) (by omega)))
    obtain ⟨x2, ex2⟩ : ∃ q : Int32, q = x1 + 1 := ⟨_, rfl⟩
    refine lv_iinc (v := x2) (lv' := [(1, .int x2), (0, .ref a)]) hx hb dX0_init_34 hl (k := 1) rfl (by rw [ex2]; rfl) (by decide) rfl (fun ls hl => ?_)
    refine lv_goto (tgt := 15) hx hb dX0_init_37 (by decide) ?_
    refine W.widen (k := 1 + 7 * (i + 1)) (n := 24 + 52 * (i + 1)) (by omega) (by omega) ?_
    exact ih (i + 1) (by omega) x2 _ _ ls (by rw [ex2, e1]; exact nI_1 i) hL hS (lv_sub hl [1, 0] rfl)
set_option maxRecDepth 100000 in
set_option maxHeartbeats 4000000 in
theorem k_X0 (l : Launch) {g : Gx} (a : Nat) : KI l yX0_init cX0_init 2 2 g 0 [.null, .int 0, .int 0] 169 1272 170 (cAct g a) a := by
  refine Met.ofW (cc := cX0_init) (maxL := 2) (ret := none) (by decide) rfl ?_
  intro p en s m args below meth c s₁ B hml hv
  obtain ⟨rfl, hSC, hL⟩ := hv
  have X : CB p s m _ c cX0_init 2 RX0 g := ⟨B.exec, B.bytes, hml, findClass_of_methodNamed B.named, fun w hw => atoms_spec (ws := wsy yX0_init cX0_init 2 none) B.pre w (List.mem_cons_of_mem _ hw), hSC⟩
  have hr := B.returns
  have hlocks := B.notSynchronized
  have hin2 : meth.name = "<init>" := (name_of_methodNamed B.named B.method).1
  have hx := X.1
  have hb := X.2.1
  have hS : va_S (fun q => a ≤ q) s.heap s.heap [] := va_S.rf
  have hA : ∀ q, a ≤ q → (fun q => a ≤ q) q := fun _ h => h
  clear hSC B
  have hl := lv_entry ([.ref a]) (n := 2) (Nat.le_of_ble_eq_true rfl)
  rw [lg_entry_eq]
  generalize (lg_sl ([.ref a]) ++ List.replicate (2 - (lg_sl ([.ref a])).length) Slot.unset).toArray = ls at hl ⊢
  have hl : lv_has ls 2 [(0, .ref a)] := hl
  generalize ([.ref a] : List Value).toArray = args at X ⊢
  show W p l en (rmC 2 169 1272) s m args below meth c s.heap [] 0 0 (MQ below (va_Qv (fun _ : Unit => True) (fun _ t => Ly g.1 a 170 (cAct g a) t.heap) (fun q => a ≤ q)) args s 169 1272 (fun q => a ≤ q)) (F0 m 0 ls [])
  refine lv_aload_n hx hb dX0_init_0 rfl (lv_at hl 0 rfl) ?_
  refine W.objInit hx hb X.2.2.2.1 (X.2.2.2.2.1 _ wd_215) (X.2.2.2.2.1 _ wd_77) (X.2.2.2.2.1 _ wd_78) rfl (by rw [hml]; exact hl.1) rfl dX0_init_1 (Nat.le_of_ble_eq_true rfl) (Nat.le_of_ble_eq_true rfl) ?_
  refine lv_aload_n hx hb dX0_init_4 rfl (lv_at hl 0 rfl) ?_
  refine lv_bipush (v := 24) hx hb dX0_init_5 (by decide) ?_
  refine r_anew X hL hS (t0 := 2) X.2.2.2.2.2.2.1 rfl wd_216 (N := 24) (by decide) rfl (Nat.le_of_ble_eq_true rfl) (Nat.le_of_ble_eq_true rfl) (Nat.le_of_ble_eq_true rfl) dX0_init_7 (fun H hL hS => ?_)
  refine r_putF X hL hS hA (ci := 0) rfl inX0 tyX0_ok nmX0 0 (Nat.le_of_ble_eq_true rfl) rfl 0 (by decide) rfl rfl wd_219 rfl hin2 rfl rfl rfl (Nat.le_of_ble_eq_true rfl) dX0_init_10 (fun H locs hL hS => ?_)
  refine lv_iconst (v := 0) hx hb dX0_init_13 (by decide) ?_
  refine lv_istore_n (lv' := [(1, .int 0), (0, .ref a)]) hx hb dX0_init_14 rfl hl (by decide) rfl (fun ls hl => ?_)
  exact k_X0_loop X hr hlocks 24 0 rfl 0 _ _ ls nI_0.symm (hL.congr (fun i hi => by rcases (show i = 0 ∨ i = 1 by omega) with rfl | rfl <;> rfl)) hS (lv_sub hl [1, 0] rfl)
set_option maxRecDepth 100000 in
set_option maxHeartbeats 4000000 in
theorem k_X6_img {p : Program} {l : Launch} {en : Env} {s : State} {m : MethodId} {args : Array Value} {below : List Frame} {meth : Method} {c : Code} {g : Gx} {a : Nat} (X : CB p s m args c cX6_init 2 RX6 g) (hr : meth.sig.returnType = none) (hlocks : meth.locks = false) : ∀ (j i : Nat), i + j = 2 → ∀ (x1 : Int32) (H : Heap) (locs : List Loc) (ls : Array Slot), x1 = nI i → Ly g.1 a (232 + 7 * i) (cFogS g (fsF a) 8 i a) H → va_S (fun q => a ≤ q) s.heap H locs → lv_has ls 2 [(0, .ref a), (1, .int x1)] → W p l en (rmC 3 245 2298) s m args below meth c H locs (231 + 7 * i) (2194 + 52 * i) (MQ below (va_Qv (fun _ : Unit => True) (fun _ t => Ly g.1 a 246 (cFog g a) t.heap) (fun q => a ≤ q)) args s 245 2298 (fun q => a ≤ q)) (F0 m 105 ls []) := by
  have hx := X.1
  have hb := X.2.1
  have hA : ∀ q, a ≤ q → (fun q => a ≤ q) q := fun _ h => h
  intro j
  induction j with
  | zero =>
    intro i hi x1 H locs ls e1 hL hS hl
    obtain rfl : i = 2 := by omega
    refine lv_iload_n hx hb dX6_init_105 rfl (lv_at hl 1 rfl) ?_
    refine lv_iconst (v := 2) hx hb dX6_init_106 (by decide) ?_
    refine lv_icmp_ge (tgt := 129) hx hb dX6_init_107 (by decide) (fun _ => ?_) (fun q => absurd (by rw [e1]; decide) q)
    exact r_vret X hr hlocks hL hS dX6_init_129
  | succ j ih =>
    intro i hi x1 H locs ls e1 hL hS hl
    refine lv_iload_n hx hb dX6_init_105 rfl (lv_at hl 1 rfl) ?_
    refine lv_iconst (v := 2) hx hb dX6_init_106 (by decide) ?_
    refine lv_icmp_ge (tgt := 129) hx hb dX6_init_107 (by decide) (fun q => absurd q (by rw [e1]; exact nI_ge (b := 2) (by omega) (by decide))) (fun _ => ?_)
    refine lv_aload_n hx hb dX6_init_110 rfl (lv_at hl 0 rfl) ?_
    refine r_get X hL (ci := 6) rfl inX6 0 (by omega) rfl 4 (by decide) rfl wd_301 (v := .ref (a + 188)) rfl dX6_init_111 ?_
    refine lv_iload_n hx hb dX6_init_114 rfl (lv_at hl 1 rfl) ?_
    refine r_new X hL hS (ci := 2) (fs := [.null, .null, .null, .null, .null, .null, .int 0, .int 0, .int 0, .int 0, .int 0, .int 0, .int 0, .int 0, .int 0, .int 0]) rfl inX2 tyX2_ok ⟨wd_208, wd_88, wd_61⟩ (fun j hj => by first | (match j, hj with | 0, _ => rfl | 1, _ => rfl | 2, _ => rfl | 3, _ => rfl | 4, _ => rfl | 5, _ => rfl | 6, _ => rfl | 7, _ => rfl | 8, _ => rfl | 9, _ => rfl | 10, _ => rfl | 11, _ => rfl | 12, _ => rfl | 13, _ => rfl | 14, _ => rfl | 15, _ => rfl | (q + 16), h => exact absurd h (by omega))) (by show _ ≤ 245; omega) (by show _ ≤ 2298; omega) dX6_init_115 (fun H hL hS => ?_)
    refine lv_dup hx hb dX6_init_118 rfl ?_
    refine r_initN X (n := 232 + 7 * i) hL hS hA va_up_at (k_X2 l _) ⟨wd_91, wd_61, wd_90⟩ X.2.2.2.2.2.2.2.2.2.2.2.1 ⟨by decide +kernel, by decide +kernel, by decide +kernel⟩ rfl hl.1 (Nat.le_of_ble_eq_true rfl) dX6_init_119 ⟨(Nat.le_of_ble_eq_true rfl), (Nat.le_of_ble_eq_true rfl)⟩ ⟨by show _ ≤ 245; omega, by show _ ≤ 2298; omega⟩ (fun H locs hL hS => ?_)
    refine r_aast X hL hS hA 188 (232 + 7 * i) (by omega) (by omega) (N := 2) (t0 := 2) (r := (RX2, TX2, 16)) ((glue_lt (by omega)).trans ((va_up_ne _ _ (by omega)).trans rfl)) rfl ((glue_ge (by omega)).trans (by rw [Nat.sub_self]; rfl)) (ci := 2) rfl (i := x1) (by rw [e1]; simp only [inb, Bool.and_eq_true, decide_eq_true_eq, nI_toInt (show i < 2 ^ 31 by omega)]; omega) dX6_init_122 (fun H locs hL hS => ?_)
    have hL := hL.congr (fog_img (by omega) (rfP_up e1 (by omega) (by omega)))
    obtain ⟨x2, ex2⟩ : ∃ q : Int32, q = x1 + 1 := ⟨_, rfl⟩
    refine lv_iinc (v := x2) (lv' := [(1, .int x2), (0, .ref a)]) hx hb dX6_init_123 hl (k := 1) rfl (by rw [ex2]; rfl) (by decide) rfl (fun ls hl => ?_)
    refine lv_goto (tgt := 105) hx hb dX6_init_126 (by decide) ?_
    refine W.widen (k := 231 + 7 * (i + 1)) (n := 2194 + 52 * (i + 1)) (by omega) (by omega) ?_
    exact ih (i + 1) (by omega) x2 _ _ ls (by rw [ex2, e1]; exact nI_1 i) hL hS (lv_sub hl [1, 0] rfl)
set_option maxRecDepth 100000 in
set_option maxHeartbeats 4000000 in
theorem k_X6_row {p : Program} {l : Launch} {en : Env} {s : State} {m : MethodId} {args : Array Value} {below : List Frame} {meth : Method} {c : Code} {g : Gx} {a : Nat} (X : CB p s m args c cX6_init 2 RX6 g) (hr : meth.sig.returnType = none) (hlocks : meth.locks = false) : ∀ (j i : Nat), i + j = 8 → ∀ (x1 : Int32) (H : Heap) (locs : List Loc) (ls : Array Slot), x1 = nI i → Ly g.1 a (216 + 2 * i) (cFogS g (fsF a) i 0 a) H → va_S (fun q => a ≤ q) s.heap H locs → lv_has ls 2 [(0, .ref a), (1, .int x1)] → W p l en (rmC 3 245 2298) s m args below meth c H locs (215 + 2 * i) (1842 + 44 * i) (MQ below (va_Qv (fun _ : Unit => True) (fun _ t => Ly g.1 a 246 (cFog g a) t.heap) (fun q => a ≤ q)) args s 245 2298 (fun q => a ≤ q)) (F0 m 78 ls []) := by
  have hx := X.1
  have hb := X.2.1
  have hA : ∀ q, a ≤ q → (fun q => a ≤ q) q := fun _ h => h
  intro j
  induction j with
  | zero =>
    intro i hi x1 H locs ls e1 hL hS hl
    obtain rfl : i = 8 := by omega
    refine lv_iload_n hx hb dX6_init_78 rfl (lv_at hl 1 rfl) ?_
    refine lv_bipush (v := 8) hx hb dX6_init_79 (by decide) ?_
    refine lv_icmp_ge (tgt := 103) hx hb dX6_init_81 (by decide) (fun _ => ?_) (fun q => absurd (by rw [e1]; decide) q)
    refine lv_iconst (v := 0) hx hb dX6_init_103 (by decide) ?_
    refine lv_istore_n (lv' := [(1, .int 0), (0, .ref a)]) hx hb dX6_init_104 rfl hl (by decide) rfl (fun ls hl => ?_)
    exact k_X6_img X hr hlocks 2 0 rfl 0 _ _ ls nI_0.symm hL hS (lv_sub hl [1, 0] rfl)
  | succ j ih =>
    intro i hi x1 H locs ls e1 hL hS hl
    refine lv_iload_n hx hb dX6_init_78 rfl (lv_at hl 1 rfl) ?_
    refine lv_bipush (v := 8) hx hb dX6_init_79 (by decide) ?_
    refine lv_icmp_ge (tgt := 103) hx hb dX6_init_81 (by decide) (fun q => absurd q (by rw [e1]; exact nI_ge (b := 8) (by omega) (by decide))) (fun _ => ?_)
    refine lv_aload_n hx hb dX6_init_84 rfl (lv_at hl 0 rfl) ?_
    refine r_get X hL (ci := 6) rfl inX6 0 (by omega) rfl 0 (by decide) rfl wd_297 (v := .ref (a + 1)) rfl dX6_init_85 ?_
    refine lv_iload_n hx hb dX6_init_88 rfl (lv_at hl 1 rfl) ?_
    refine r_new X hL hS (ci := 5) (fs := [.null, .int 0, .int 0, .int 0]) rfl inX5 tyX5_ok ⟨wd_79, wd_274, wd_65⟩ (fun j hj => by first | (match j, hj with | 0, _ => rfl | 1, _ => rfl | 2, _ => rfl | 3, _ => rfl | (q + 4), h => exact absurd h (by omega))) (by show _ ≤ 245; omega) (by show _ ≤ 2298; omega) dX6_init_89 (fun H hL hS => ?_)
    refine lv_dup hx hb dX6_init_92 rfl ?_
    refine r_initN X (n := 216 + 2 * i) hL hS hA va_up_at (k_X5 l _) ⟨wd_277, wd_65, wd_276⟩ X.2.2.2.2.2.2.2.2.2.2.2.2.2.2.2.2 ⟨by decide +kernel, by decide +kernel, by decide +kernel⟩ rfl hl.1 (Nat.le_of_ble_eq_true rfl) dX6_init_93 ⟨(Nat.le_of_ble_eq_true rfl), (Nat.le_of_ble_eq_true rfl)⟩ ⟨by show _ ≤ 245; omega, by show _ ≤ 2298; omega⟩ (fun H locs hL hS => ?_)
    refine r_aast X hL hS hA 1 (216 + 2 * i) (by omega) (by omega) (N := 8) (t0 := 3) (r := (RX5, TX5, 4)) ((glue_lt (by omega)).trans ((va_up_ne _ _ (by omega)).trans rfl)) rfl ((glue_ge (by omega)).trans (by rw [Nat.sub_self]; rfl)) (ci := 5) rfl (i := x1) (by rw [e1]; simp only [inb, Bool.and_eq_true, decide_eq_true_eq, nI_toInt (show i < 2 ^ 31 by omega)]; omega) dX6_init_96 (fun H locs hL hS => ?_)
    have hL := hL.congr (fog_row (by omega) (rfP_up e1 (by omega) (by omega)))
    obtain ⟨x2, ex2⟩ : ∃ q : Int32, q = x1 + 1 := ⟨_, rfl⟩
    refine lv_iinc (v := x2) (lv' := [(1, .int x2), (0, .ref a)]) hx hb dX6_init_97 hl (k := 1) rfl (by rw [ex2]; rfl) (by decide) rfl (fun ls hl => ?_)
    refine lv_goto (tgt := 78) hx hb dX6_init_100 (by decide) ?_
    refine W.widen (k := 215 + 2 * (i + 1)) (n := 1842 + 44 * (i + 1)) (by omega) (by omega) ?_
    exact ih (i + 1) (by omega) x2 _ _ ls (by rw [ex2, e1]; exact nI_1 i) hL hS (lv_sub hl [1, 0] rfl)
set_option maxRecDepth 100000 in
set_option maxHeartbeats 4000000 in
theorem k_X6 (l : Launch) {g : Gx} (a : Nat) : KI l yX6_init cX6_init 2 3 g 6 [.null, .null, .null, .null, .null, .null, .null, .int 0, .int 0] 245 2298 246 (cFog g a) a := by
  refine Met.ofW (cc := cX6_init) (maxL := 2) (ret := none) (by decide) rfl ?_
  intro p en s m args below meth c s₁ B hml hv
  obtain ⟨rfl, hSC, hL⟩ := hv
  have X : CB p s m _ c cX6_init 2 RX6 g := ⟨B.exec, B.bytes, hml, findClass_of_methodNamed B.named, fun w hw => atoms_spec (ws := wsy yX6_init cX6_init 2 none) B.pre w (List.mem_cons_of_mem _ hw), hSC⟩
  have hr := B.returns
  have hlocks := B.notSynchronized
  have hin2 : meth.name = "<init>" := (name_of_methodNamed B.named B.method).1
  have hx := X.1
  have hb := X.2.1
  have hS : va_S (fun q => a ≤ q) s.heap s.heap [] := va_S.rf
  have hA : ∀ q, a ≤ q → (fun q => a ≤ q) q := fun _ h => h
  clear hSC B
  have hl := lv_entry ([.ref a]) (n := 2) (Nat.le_of_ble_eq_true rfl)
  rw [lg_entry_eq]
  generalize (lg_sl ([.ref a]) ++ List.replicate (2 - (lg_sl ([.ref a])).length) Slot.unset).toArray = ls at hl ⊢
  have hl : lv_has ls 2 [(0, .ref a)] := hl
  generalize ([.ref a] : List Value).toArray = args at X ⊢
  show W p l en (rmC 3 245 2298) s m args below meth c s.heap [] 0 0 (MQ below (va_Qv (fun _ : Unit => True) (fun _ t => Ly g.1 a 246 (cFog g a) t.heap) (fun q => a ≤ q)) args s 245 2298 (fun q => a ≤ q)) (F0 m 0 ls [])
  refine lv_aload_n hx hb dX6_init_0 rfl (lv_at hl 0 rfl) ?_
  refine W.objInit hx hb X.2.2.2.1 (X.2.2.2.2.1 _ wd_76) (X.2.2.2.2.1 _ wd_77) (X.2.2.2.2.1 _ wd_78) rfl (by rw [hml]; exact hl.1) rfl dX6_init_1 (Nat.le_of_ble_eq_true rfl) (Nat.le_of_ble_eq_true rfl) ?_
  refine lv_aload_n hx hb dX6_init_4 rfl (lv_at hl 0 rfl) ?_
  refine lv_bipush (v := 8) hx hb dX6_init_5 (by decide) ?_
  refine r_anew X hL hS (t0 := 3) X.2.2.2.2.2.2.2.1 rfl wd_79 (N := 8) (by decide) rfl (Nat.le_of_ble_eq_true rfl) (Nat.le_of_ble_eq_true rfl) (Nat.le_of_ble_eq_true rfl) dX6_init_7 (fun H hL hS => ?_)
  refine r_putF X hL hS hA (ci := 6) rfl inX6 tyX6_ok nmX6 0 (Nat.le_of_ble_eq_true rfl) rfl 0 (by decide) rfl rfl wd_297 rfl hin2 rfl rfl rfl (Nat.le_of_ble_eq_true rfl) dX6_init_10 (fun H locs hL hS => ?_)
  have hL : Ly g.1 a 2 (cFogS g [.ref (a + 1), .null, .null, .null, .null, .null, .null, .int 0, .int 0] 0 0 a) _ := hL.congr (fun i hi => by rcases (show i = 0 ∨ i = 1 by omega) with rfl | rfl <;> rfl)
  refine lv_aload_n hx hb dX6_init_13 rfl (lv_at hl 0 rfl) ?_
  refine r_new X hL hS (ci := 4) (fs := [.null, .int 0, .int 0, .int 0, .null, .int 0, .int 0, .int 0]) rfl inX4 tyX4_ok ⟨wd_81, wd_82, wd_60⟩ (fun j hj => by first | (match j, hj with | 0, _ => rfl | 1, _ => rfl | 2, _ => rfl | 3, _ => rfl | 4, _ => rfl | 5, _ => rfl | 6, _ => rfl | 7, _ => rfl | (q + 8), h => exact absurd h (by omega))) (Nat.le_of_ble_eq_true rfl) (Nat.le_of_ble_eq_true rfl) dX6_init_14 (fun H hL hS => ?_)
  refine lv_dup hx hb dX6_init_17 rfl ?_
  refine r_initN X (n := 2) hL hS hA rfl (k_X4 l _) ⟨wd_85, wd_60, wd_84⟩ X.2.2.2.2.2.2.2.2.2.1 ⟨by decide +kernel, by decide +kernel, by decide +kernel⟩ rfl hl.1 (Nat.le_of_ble_eq_true rfl) dX6_init_18 ⟨(Nat.le_of_ble_eq_true rfl), (Nat.le_of_ble_eq_true rfl)⟩ ⟨(Nat.le_of_ble_eq_true rfl), (Nat.le_of_ble_eq_true rfl)⟩ (fun H locs hL hS => ?_)
  have hL : Ly g.1 a 11 (cFogS g [.ref (a + 1), .null, .null, .null, .null, .null, .null, .int 0, .int 0] 0 0 a) _ := hL.congr (fun i hi => by
        by_cases h : i < 2
        · rw [glue_lt h, va_up_ne _ _ (by omega)]
        · rw [glue_ge h]; unfold cFogS; rw [if_neg (by omega), if_neg (by omega), if_pos (by omega)])
  refine r_putF X hL hS hA (ci := 6) rfl inX6 tyX6_ok nmX6 0 (Nat.le_of_ble_eq_true rfl) rfl 1 (by decide) rfl rfl wd_298 rfl hin2 rfl rfl rfl (Nat.le_of_ble_eq_true rfl) dX6_init_21 (fun H locs hL hS => ?_)
  have hL : Ly g.1 a 11 (cFogS g [.ref (a + 1), .ref (a + 2), .null, .null, .null, .null, .null, .int 0, .int 0] 0 0 a) _ := hL.congr (fun i hi => fog_put i)
  refine lv_aload_n hx hb dX6_init_24 rfl (lv_at hl 0 rfl) ?_
  refine r_new X hL hS (ci := 2) (fs := [.null, .null, .null, .null, .null, .null, .int 0, .int 0, .int 0, .int 0, .int 0, .int 0, .int 0, .int 0, .int 0, .int 0]) rfl inX2 tyX2_ok ⟨wd_208, wd_88, wd_61⟩ (fun j hj => by first | (match j, hj with | 0, _ => rfl | 1, _ => rfl | 2, _ => rfl | 3, _ => rfl | 4, _ => rfl | 5, _ => rfl | 6, _ => rfl | 7, _ => rfl | 8, _ => rfl | 9, _ => rfl | 10, _ => rfl | 11, _ => rfl | 12, _ => rfl | 13, _ => rfl | 14, _ => rfl | 15, _ => rfl | (q + 16), h => exact absurd h (by omega))) (Nat.le_of_ble_eq_true rfl) (Nat.le_of_ble_eq_true rfl) dX6_init_25 (fun H hL hS => ?_)
  refine lv_dup hx hb dX6_init_28 rfl ?_
  refine r_initN X (n := 11) hL hS hA rfl (k_X2 l _) ⟨wd_91, wd_61, wd_90⟩ X.2.2.2.2.2.2.2.2.2.2.2.1 ⟨by decide +kernel, by decide +kernel, by decide +kernel⟩ rfl hl.1 (Nat.le_of_ble_eq_true rfl) dX6_init_29 ⟨(Nat.le_of_ble_eq_true rfl), (Nat.le_of_ble_eq_true rfl)⟩ ⟨(Nat.le_of_ble_eq_true rfl), (Nat.le_of_ble_eq_true rfl)⟩ (fun H locs hL hS => ?_)
  have hL : Ly g.1 a 18 (cFogS g [.ref (a + 1), .ref (a + 2), .null, .null, .null, .null, .null, .int 0, .int 0] 0 0 a) _ := hL.congr (fun i hi => by
        by_cases h : i < 11
        · rw [glue_lt h, va_up_ne _ _ (by omega)]
        · rw [glue_ge h]; unfold cFogS; rw [if_neg (by omega), if_neg (by omega), if_neg (by omega), if_pos (by omega)])
  refine r_putF X hL hS hA (ci := 6) rfl inX6 tyX6_ok nmX6 0 (Nat.le_of_ble_eq_true rfl) rfl 2 (by decide) rfl rfl wd_299 rfl hin2 rfl rfl rfl (Nat.le_of_ble_eq_true rfl) dX6_init_32 (fun H locs hL hS => ?_)
  have hL : Ly g.1 a 18 (cFogS g [.ref (a + 1), .ref (a + 2), .ref (a + 11), .null, .null, .null, .null, .int 0, .int 0] 0 0 a) _ := hL.congr (fun i hi => fog_put i)
  refine lv_aload_n hx hb dX6_init_35 rfl (lv_at hl 0 rfl) ?_
  refine r_new X hL hS (ci := 0) (fs := [.null, .int 0, .int 0]) rfl inX0 tyX0_ok ⟨wd_210, wd_211, wd_62⟩ (fun j hj => by first | (match j, hj with | 0, _ => rfl | 1, _ => rfl | 2, _ => rfl | (q + 3), h => exact absurd h (by omega))) (Nat.le_of_ble_eq_true rfl) (Nat.le_of_ble_eq_true rfl) dX6_init_36 (fun H hL hS => ?_)
  refine lv_dup hx hb dX6_init_39 rfl ?_
  refine r_initP X (n := 18) hL hS hA rfl (k_X0 l _) ⟨wd_214, wd_62, wd_213, wd_212⟩ ⟨by decide +kernel, by decide +kernel, by decide +kernel⟩ rfl hl.1 (Nat.le_of_ble_eq_true rfl) dX6_init_40 ⟨(Nat.le_of_ble_eq_true rfl), (Nat.le_of_ble_eq_true rfl)⟩ ⟨(Nat.le_of_ble_eq_true rfl), (Nat.le_of_ble_eq_true rfl)⟩ (fun H locs hL hS => ?_)
  have hL : Ly g.1 a 188 (cFogS g [.ref (a + 1), .ref (a + 2), .ref (a + 11), .null, .null, .null, .null, .int 0, .int 0] 0 0 a) _ := hL.congr (fun i hi => by
        by_cases h : i < 18
        · rw [glue_lt h, va_up_ne _ _ (by omega)]
        · rw [glue_ge h]; unfold cFogS; rw [if_neg (by omega), if_neg (by omega), if_neg (by omega), if_neg (by omega), if_pos (by omega)])
  refine r_putF X hL hS hA (ci := 6) rfl inX6 tyX6_ok nmX6 0 (Nat.le_of_ble_eq_true rfl) rfl 3 (by decide) rfl rfl wd_300 rfl hin2 rfl rfl rfl (Nat.le_of_ble_eq_true rfl) dX6_init_43 (fun H locs hL hS => ?_)
  have hL : Ly g.1 a 188 (cFogS g [.ref (a + 1), .ref (a + 2), .ref (a + 11), .ref (a + 18), .null, .null, .null, .int 0, .int 0] 0 0 a) _ := hL.congr (fun i hi => fog_put i)
  refine lv_aload_n hx hb dX6_init_46 rfl (lv_at hl 0 rfl) ?_
  refine lv_iconst (v := 2) hx hb dX6_init_47 (by decide) ?_
  refine r_anew X hL hS (t0 := 2) X.2.2.2.2.2.2.1 rfl wd_208 (N := 2) (by decide) rfl (Nat.le_of_ble_eq_true rfl) (Nat.le_of_ble_eq_true rfl) (Nat.le_of_ble_eq_true rfl) dX6_init_48 (fun H hL hS => ?_)
  have hL : Ly g.1 a 189 (cFogS g [.ref (a + 1), .ref (a + 2), .ref (a + 11), .ref (a + 18), .null, .null, .null, .int 0, .int 0] 0 0 a) _ := hL.congr (fun i hi => by
        by_cases h : i = 188
        · subst h; rw [va_up_at]; rfl
        · rw [va_up_ne _ _ h])
  refine r_putF X hL hS hA (ci := 6) rfl inX6 tyX6_ok nmX6 0 (Nat.le_of_ble_eq_true rfl) rfl 4 (by decide) rfl rfl wd_301 rfl hin2 rfl rfl rfl (Nat.le_of_ble_eq_true rfl) dX6_init_51 (fun H locs hL hS => ?_)
  have hL : Ly g.1 a 189 (cFogS g [.ref (a + 1), .ref (a + 2), .ref (a + 11), .ref (a + 18), .ref (a + 188), .null, .null, .int 0, .int 0] 0 0 a) _ := hL.congr (fun i hi => fog_put i)
  refine lv_aload_n hx hb dX6_init_54 rfl (lv_at hl 0 rfl) ?_
  refine r_new X hL hS (ci := 3) (fs := [.null, .null, .null, .null, .null, .int 0]) rfl inX3 tyX3_ok ⟨wd_230, wd_231, wd_63⟩ (fun j hj => by first | (match j, hj with | 0, _ => rfl | 1, _ => rfl | 2, _ => rfl | 3, _ => rfl | 4, _ => rfl | 5, _ => rfl | (q + 6), h => exact absurd h (by omega))) (Nat.le_of_ble_eq_true rfl) (Nat.le_of_ble_eq_true rfl) dX6_init_55 (fun H hL hS => ?_)
  refine lv_dup hx hb dX6_init_58 rfl ?_
  refine r_initN X (n := 189) hL hS hA rfl (k_X3 l _) ⟨wd_234, wd_63, wd_233⟩ X.2.2.2.2.2.2.2.2.2.2.2.2.2.1 ⟨by decide +kernel, by decide +kernel, by decide +kernel⟩ rfl hl.1 (Nat.le_of_ble_eq_true rfl) dX6_init_59 ⟨(Nat.le_of_ble_eq_true rfl), (Nat.le_of_ble_eq_true rfl)⟩ ⟨(Nat.le_of_ble_eq_true rfl), (Nat.le_of_ble_eq_true rfl)⟩ (fun H locs hL hS => ?_)
  have hL : Ly g.1 a 214 (cFogS g [.ref (a + 1), .ref (a + 2), .ref (a + 11), .ref (a + 18), .ref (a + 188), .null, .null, .int 0, .int 0] 0 0 a) _ := hL.congr (fun i hi => by
        by_cases h : i < 189
        · rw [glue_lt h, va_up_ne _ _ (by omega)]
        · rw [glue_ge h]; unfold cFogS; rw [if_neg (by omega), if_neg (by omega), if_neg (by omega), if_neg (by omega), if_neg (by omega), if_neg (by omega), if_pos (by omega)])
  refine r_putF X hL hS hA (ci := 6) rfl inX6 tyX6_ok nmX6 0 (Nat.le_of_ble_eq_true rfl) rfl 5 (by decide) rfl rfl wd_302 rfl hin2 rfl rfl rfl (Nat.le_of_ble_eq_true rfl) dX6_init_62 (fun H locs hL hS => ?_)
  have hL : Ly g.1 a 214 (cFogS g [.ref (a + 1), .ref (a + 2), .ref (a + 11), .ref (a + 18), .ref (a + 188), .ref (a + 189), .null, .int 0, .int 0] 0 0 a) _ := hL.congr (fun i hi => fog_put i)
  refine lv_aload_n hx hb dX6_init_65 rfl (lv_at hl 0 rfl) ?_
  refine r_new X hL hS (ci := 1) (fs := [.null, .int 0]) rfl inX1 tyX1_ok ⟨wd_259, wd_260, wd_64⟩ (fun j hj => by first | (match j, hj with | 0, _ => rfl | 1, _ => rfl | (q + 2), h => exact absurd h (by omega))) (Nat.le_of_ble_eq_true rfl) (Nat.le_of_ble_eq_true rfl) dX6_init_66 (fun H hL hS => ?_)
  refine lv_dup hx hb dX6_init_69 rfl ?_
  refine r_initN X (n := 214) hL hS hA rfl (k_X1 l _) ⟨wd_263, wd_64, wd_262⟩ X.2.2.2.2.2.2.2.2.2.2.2.2.2.2.2.1 ⟨by decide +kernel, by decide +kernel, by decide +kernel⟩ rfl hl.1 (Nat.le_of_ble_eq_true rfl) dX6_init_70 ⟨(Nat.le_of_ble_eq_true rfl), (Nat.le_of_ble_eq_true rfl)⟩ ⟨(Nat.le_of_ble_eq_true rfl), (Nat.le_of_ble_eq_true rfl)⟩ (fun H locs hL hS => ?_)
  have hL : Ly g.1 a 216 (cFogS g [.ref (a + 1), .ref (a + 2), .ref (a + 11), .ref (a + 18), .ref (a + 188), .ref (a + 189), .null, .int 0, .int 0] 0 0 a) _ := hL.congr (fun i hi => by
        by_cases h : i < 214
        · rw [glue_lt h, va_up_ne _ _ (by omega)]
        · rw [glue_ge h]; unfold cFogS; rw [if_neg (by omega), if_neg (by omega), if_neg (by omega), if_neg (by omega), if_neg (by omega), if_neg (by omega), if_neg (by omega), if_pos (by omega)])
  refine r_putF X hL hS hA (ci := 6) rfl inX6 tyX6_ok nmX6 0 (Nat.le_of_ble_eq_true rfl) rfl 6 (by decide) rfl rfl wd_303 rfl hin2 rfl rfl rfl (Nat.le_of_ble_eq_true rfl) dX6_init_73 (fun H locs hL hS => ?_)
  have hL : Ly g.1 a 216 (cFogS g [.ref (a + 1), .ref (a + 2), .ref (a + 11), .ref (a + 18), .ref (a + 188), .ref (a + 189), .ref (a + 214), .int 0, .int 0] 0 0 a) _ := hL.congr (fun i hi => fog_put i)
  refine lv_iconst (v := 0) hx hb dX6_init_76 (by decide) ?_
  refine lv_istore_n (lv' := [(1, .int 0), (0, .ref a)]) hx hb dX6_init_77 rfl hl (by decide) rfl (fun ls hl => ?_)
  exact k_X6_row X hr hlocks 8 0 rfl 0 _ _ ls nI_0.symm hL hS (lv_sub hl [1, 0] rfl)
