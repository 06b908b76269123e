set_option maxRecDepth 100000 in
set_option maxHeartbeats 4000000 in
theorem tX6_isWithin (l : Launch) {g : Gx} (hI : InjG g) {h k h1 : Hp} {a1 : Int32} {a2 : Int32} {a3 : Int32} {r : Int32}   (hf : fX6_isWithin a1 a2 a3 h = some (r, h1)) : CI l yX6_isWithin cX6_isWithin 3 (some .boolean) 0 g [.int a1, .int a2, .int a3] h k h1 k r := by
  refine Met.ofW (cc := cX6_isWithin) (maxL := 3) (ret := (some .boolean)) (by decide) rfl ?_
  intro p en s m args below meth c s₁ B hml hv
  obtain ⟨rfl, hSK, hSH, hP⟩ := hv
  have X : Cx p s m _ c cX6_isWithin 3 RX6 g := ⟨B.exec, B.bytes, hml, findClass_of_methodNamed B.named, fun w hw => atoms_spec (ws := wsy yX6_isWithin cX6_isWithin 3 (some .boolean)) B.pre w (List.mem_cons_of_mem _ hw), hSK, hI, hSH⟩
  have hr := B.returns
  have hlocks := B.notSynchronized
  have hx := X.1
  have hb := X.2.1
  have hS : va_S (inA g) s.heap s.heap [] := va_S.rf
  clear hSK hSH hml B
  have hl := lv_entry ([.int a1, .int a2, .int a3]) (n := 3) (Nat.le_of_ble_eq_true rfl)
  rw [lg_entry_eq]
  generalize (lg_sl ([.int a1, .int a2, .int a3]) ++ List.replicate (3 - (lg_sl ([.int a1, .int a2, .int a3])).length) Slot.unset).toArray = ls at hl ⊢
  have hl : lv_has ls 3 [(0, .int a1), (1, .int a2), (2, .int a3)] := hl
  generalize ([.int a1, .int a2, .int a3] : List Value).toArray = args at X ⊢
  show W p l en (rmD 0) s m args below meth c s.heap [] 0 0 (MQ below (QI g h1 k r) args s 0 0 (inA g)) (F0 m 0 ls [])
  unfold fX6_isWithin at hf
  refine lv_iload_n hx hb dX6_isWithin_0 rfl (lv_at hl 0 rfl) ?_
  refine lv_iload_n hx hb dX6_isWithin_1 rfl (lv_at hl 1 rfl) ?_
  refine lv_icmp_lt (tgt := 14) hx hb dX6_isWithin_2 (by decide) (fun c1 => ?_) (fun c1 => ?_)
  · have hf2 := if_at_t c1 hf
    clear hf
    refine lv_iconst (v := 0) hx hb dX6_isWithin_14 (by decide) ?_
    obtain ⟨rfl, rfl⟩ := ret_inj hf2
    exact x_zret X hr hlocks rfl hP hS dX6_isWithin_15
  · have hf3 := if_at_f c1 hf
    clear hf
    refine lv_iload_n hx hb dX6_isWithin_5 rfl (lv_at hl 0 rfl) ?_
    refine lv_iload_n hx hb dX6_isWithin_6 rfl (lv_at hl 2 rfl) ?_
    refine lv_icmp_gt (tgt := 14) hx hb dX6_isWithin_7 (by decide) (fun c4 => ?_) (fun c4 => ?_)
    · have hf5 := if_at_t c4 hf3
      clear hf3
      refine lv_iconst (v := 0) hx hb dX6_isWithin_14 (by decide) ?_
      obtain ⟨rfl, rfl⟩ := ret_inj hf5
      exact x_zret X hr hlocks rfl hP hS dX6_isWithin_15
    · have hf6 := if_at_f c4 hf3
      clear hf3
      refine lv_iconst (v := 1) hx hb dX6_isWithin_10 (by decide) ?_
      refine lv_goto (tgt := 15) hx hb dX6_isWithin_11 (by decide) ?_
      obtain ⟨rfl, rfl⟩ := ret_inj hf6
      exact x_zret X hr hlocks rfl hP hS dX6_isWithin_15
set_option maxRecDepth 100000 in
set_option maxHeartbeats 4000000 in
theorem tX6_isRow (l : Launch) {g : Gx} (hI : InjG g) {h k h1 : Hp} {a1 : Int32} {r : Int32}   (hf : fX6_isRow a1 h = some (r, h1)) : CI l yX6_isRow cX6_isRow 1 (some .boolean) 1 g [.int a1] h k h1 k r := by
  refine Met.ofW (cc := cX6_isRow) (maxL := 1) (ret := (some .boolean)) (by decide) rfl ?_
  intro p en s m args below meth c s₁ B hml hv
  obtain ⟨rfl, hSK, hSH, hP⟩ := hv
  have X : Cx p s m _ c cX6_isRow 1 RX6 g := ⟨B.exec, B.bytes, hml, findClass_of_methodNamed B.named, fun w hw => atoms_spec (ws := wsy yX6_isRow cX6_isRow 1 (some .boolean)) B.pre w (List.mem_cons_of_mem _ hw), hSK, hI, hSH⟩
  have hr := B.returns
  have hlocks := B.notSynchronized
  have hx := X.1
  have hb := X.2.1
  have hS : va_S (inA g) s.heap s.heap [] := va_S.rf
  clear hSK hSH hml B
  have hl := lv_entry ([.int a1]) (n := 1) (Nat.le_of_ble_eq_true rfl)
  rw [lg_entry_eq]
  generalize (lg_sl ([.int a1]) ++ List.replicate (1 - (lg_sl ([.int a1])).length) Slot.unset).toArray = ls at hl ⊢
  have hl : lv_has ls 1 [(0, .int a1)] := hl
  generalize ([.int a1] : List Value).toArray = args at X ⊢
  show W p l en (rmD 1) s m args below meth c s.heap [] 0 0 (MQ below (QI g h1 k r) args s 0 0 (inA g)) (F0 m 0 ls [])
  unfold fX6_isRow at hf
  refine lv_iload_n hx hb dX6_isRow_0 rfl (lv_at hl 0 rfl) ?_
  refine lv_iconst (v := 0) hx hb dX6_isRow_1 (by decide) ?_
  refine lv_bipush (v := 7) hx hb dX6_isRow_2 (by decide) ?_
  obtain ⟨x1, hh2, hg8, hf7⟩ := bd_some hf
  refine x_ci (x_runS (As := [.int a1, .int (0 : Int32), .int (7 : Int32)]) (rest := []) X hP hS (tX6_isWithin l X.2.2.2.2.2.2.1  hg8) mi_X6_59 rfl hl.1 rfl (Nat.le_of_ble_eq_true rfl) dX6_isRow_4 ⟨Nat.le_of_ble_eq_true rfl, Nat.le_of_ble_eq_true rfl⟩ ⟨Nat.zero_le _, Nat.zero_le _⟩) hS (fun H3 lc4 hP5 hS6 => ?_)
  clear hf hP hS hg8
  obtain ⟨hc9, hf10⟩ := chk_some hf7
  obtain ⟨rfl, rfl⟩ := ret_inj hf10
  exact x_zret X hr hlocks hc9 hP5 hS6 dX6_isRow_7
set_option maxRecDepth 100000 in
set_option maxHeartbeats 4000000 in
theorem tX6_found (l : Launch) {g : Gx} (hI : InjG g) {h k h1 : Hp} {a1 : Int32} {r : Int32}   (hf : fX6_found a1 h = some (r, h1)) : CI l yX6_found cX6_found 2 (some .int) 0 g [.ref (g.2.2 203), .int a1] h k h1 k r := by
  refine Met.ofW (cc := cX6_found) (maxL := 2) (ret := (some .int)) (by decide) rfl ?_
  intro p en s m args below meth c s₁ B hml hv
  obtain ⟨rfl, hSK, hSH, hP⟩ := hv
  have X : Cx p s m _ c cX6_found 2 RX6 g := ⟨B.exec, B.bytes, hml, findClass_of_methodNamed B.named, fun w hw => atoms_spec (ws := wsy yX6_found cX6_found 2 (some .int)) B.pre w (List.mem_cons_of_mem _ hw), hSK, hI, hSH⟩
  have hr := B.returns
  have hlocks := B.notSynchronized
  have hx := X.1
  have hb := X.2.1
  have hS : va_S (inA g) s.heap s.heap [] := va_S.rf
  clear hSK hSH hml B
  have hl := lv_entry ([.ref (g.2.2 203), .int a1]) (n := 2) (Nat.le_of_ble_eq_true rfl)
  rw [lg_entry_eq]
  generalize (lg_sl ([.ref (g.2.2 203), .int a1]) ++ List.replicate (2 - (lg_sl ([.ref (g.2.2 203), .int a1])).length) Slot.unset).toArray = ls at hl ⊢
  have hl : lv_has ls 2 [(0, .ref (g.2.2 203)), (1, .int a1)] := hl
  generalize ([.ref (g.2.2 203), .int a1] : List Value).toArray = args at X ⊢
  show W p l en (rmD 0) s m args below meth c s.heap [] 0 0 (MQ below (QI g h1 k r) args s 0 0 (inA g)) (F0 m 0 ls [])
  unfold fX6_found at hf
  refine lv_aload_n hx hb dX6_found_0 rfl (lv_at hl 0 rfl) ?_
  refine lv_iload_n hx hb dX6_found_1 rfl (lv_at hl 1 rfl) ?_
  refine pX6 X hP hS 8 (by decide) rfl wd_305 rfl rfl rfl rfl seX6_8 dX6_found_2 (fun H1 lc2 hh3 ehh3 hP4 hS5 => ?_)
  have hf6 := lk_at ehh3 hf
  clear hf hP hS
  refine lv_ldcw (v := -1000010) hx hb X.2.2.2.1 (X.2.2.2.2.1 _ wd_340) dX6_found_5 ?_
  refine lv_iload_n hx hb dX6_found_8 rfl (lv_at hl 1 rfl) ?_
  refine lv_isub hx hb dX6_found_9 ?_
  obtain ⟨rfl, rfl⟩ := ret_inj hf6
  exact x_iret X hr hlocks hP4 hS5 dX6_found_10
set_option maxRecDepth 100000 in
set_option maxHeartbeats 4000000 in
theorem wJ7_fill_L5 {p : Program} {l : Launch} {en : Env} {s : State} {m : MethodId} {args : Array Value} {below : List Frame} {meth : Method} {c : Code} {g : Gx} (X : Cx p s m args c cJ7_fill_53178 4 RJ7 g) (hr : meth.sig.returnType = none) (hlocks : meth.locks = false) {k h1 : Hp} {v0 : Nat} {v1 : Int32} {v3 : Int32} (hv0 : isIA v0 = true) 
     :
    ∀ (n : Nat) (v2 : Int32) (h : Hp) (H : Heap) (locs : List Loc) (ls : Array Slot), fJ7_fill_L5 n v0 v1 v2 v3 h = some ((), h1) → va_P g.1 vwCl (WW g h k) H → va_S (inA g) s.heap H locs → lv_has ls 4 [(0, .ref (g.2.2 v0)), (1, .int v1), (2, .int v2), (3, .int v3)] → W p l en (rmD 0) s m args below meth c H locs 0 0 (MQ below (QV g h1 k) args s 0 0 (inA g)) (F0 m 5 ls []) := by
  have hx := X.1
  have hb := X.2.1
  intro n
  induction n with
  | zero => intro v2 h H locs ls  hf; simp only [fJ7_fill_L5, reduceCtorEq] at hf
  | succ n ih =>
    intro v2 h H locs ls  hf hP hS hl
    rw [fJ7_fill_L5] at hf
    refine lv_iload_n hx hb dJ7_fill_53178_5 rfl (lv_at hl 2 rfl) ?_
    refine lv_iload_n hx hb dJ7_fill_53178_6 rfl (lv_at hl 3 rfl) ?_
    refine lv_icmp_ge (tgt := 20) hx hb dJ7_fill_53178_7 (by decide) (fun c7 => ?_) (fun c7 => ?_)
    · have hf8 := if_at_t c7 hf
      clear hf
      obtain ⟨-, rfl⟩ := ret_inj hf8
      exact x_vret X hr hlocks hP hS dJ7_fill_53178_20
    · have hf9 := if_at_f c7 hf
      clear hf
      refine lv_aload_n hx hb dJ7_fill_53178_10 rfl (lv_at hl 0 rfl) ?_
      refine lv_iload_n hx hb dJ7_fill_53178_11 rfl (lv_at hl 2 rfl) ?_
      refine lv_iload_n hx hb dJ7_fill_53178_12 rfl (lv_at hl 1 rfl) ?_
      obtain ⟨hc10, hf11⟩ := chk_some hf9
      refine x_istC X hP hS v0 hv0 hc10 dJ7_fill_53178_13 (fun H12 lc13 hh14 ehh14 hP15 hS16 => ?_)
      have hf17 := lk_at ehh14 hf11
      clear hf11 hP hS
      obtain ⟨x18, ex18⟩ : ∃ q : Int32, q = v2 + (1 : Int32) := ⟨_, rfl⟩
      have hf19 := lk_at ex18 hf17
      clear hf17
      refine lv_iinc (v := x18) (lv' := [(2, .int x18), (0, .ref (g.2.2 v0)), (1, .int v1), (3, .int v3)]) hx hb dJ7_fill_53178_14 hl (k := 2) rfl (by rw [ex18]; rfl) (by decide) rfl (fun ls20 hl21 => ?_)
      clear hl
      refine lv_goto (tgt := 5) hx hb dJ7_fill_53178_17 (by decide) ?_
      exact ih x18 hh14  _ _ _ hf19 hP15 hS16 (lv_sub hl21 [1, 2, 0, 3] rfl)
set_option maxRecDepth 100000 in
set_option maxHeartbeats 4000000 in
theorem tJ7_fill (l : Launch) {g : Gx} (hI : InjG g) {h k h1 : Hp} {a1 : Nat} {a2 : Int32}  (ha1 : isIA a1 = true) (hf : fJ7_fill a1 a2 h = some ((), h1)) : CV l yJ7_fill_53178 cJ7_fill_53178 4 none 0 g [.ref (g.2.2 a1), .int a2] h k h1 k := by
  refine Met.ofW (cc := cJ7_fill_53178) (maxL := 4) (ret := none) (by decide) rfl ?_
  intro p en s m args below meth c s₁ B hml hv
  obtain ⟨rfl, hSK, hSH, hP⟩ := hv
  have X : Cx p s m _ c cJ7_fill_53178 4 RJ7 g := ⟨B.exec, B.bytes, hml, findClass_of_methodNamed B.named, fun w hw => atoms_spec (ws := wsy yJ7_fill_53178 cJ7_fill_53178 4 none) B.pre w (List.mem_cons_of_mem _ hw), hSK, hI, hSH⟩
  have hr := B.returns
  have hlocks := B.notSynchronized
  have hx := X.1
  have hb := X.2.1
  have hS : va_S (inA g) s.heap s.heap [] := va_S.rf
  clear hSK hSH hml B
  have hl := lv_entry ([.ref (g.2.2 a1), .int a2]) (n := 4) (Nat.le_of_ble_eq_true rfl)
  rw [lg_entry_eq]
  generalize (lg_sl ([.ref (g.2.2 a1), .int a2]) ++ List.replicate (4 - (lg_sl ([.ref (g.2.2 a1), .int a2])).length) Slot.unset).toArray = ls at hl ⊢
  have hl : lv_has ls 4 [(0, .ref (g.2.2 a1)), (1, .int a2)] := hl
  generalize ([.ref (g.2.2 a1), .int a2] : List Value).toArray = args at X ⊢
  show W p l en (rmD 0) s m args below meth c s.heap [] 0 0 (MQ below (QV g h1 k) args s 0 0 (inA g)) (F0 m 0 ls [])
  unfold fJ7_fill at hf
  refine lv_iconst (v := 0) hx hb dJ7_fill_53178_0 (by decide) ?_
  refine lv_istore_n (lv' := [(2, .int (0 : Int32)), (0, .ref (g.2.2 a1)), (1, .int a2)]) hx hb dJ7_fill_53178_1 rfl hl (by decide) rfl (fun ls1 hl2 => ?_)
  clear hl
  refine lv_aload_n hx hb dJ7_fill_53178_2 rfl (lv_at hl2 1 rfl) ?_
  refine x_lenC X hP a1 ha1 dJ7_fill_53178_3 ?_
  refine lv_topi (fun x3 ex3 => ?_)
  have hf4 := lk_at ex3 hf
  clear hf
  refine lv_istore_n (lv' := [(3, .int x3), (2, .int (0 : Int32)), (0, .ref (g.2.2 a1)), (1, .int a2)]) hx hb dJ7_fill_53178_4 rfl hl2 (by decide) rfl (fun ls5 hl6 => ?_)
  clear hl2
  refine wJ7_fill_L5 X hr hlocks ha1  4096 (0 : Int32) h _ _ _  hf4 hP hS (lv_sub hl6 [2, 3, 1, 0] rfl)
set_option maxRecDepth 100000 in
set_option maxHeartbeats 4000000 in
theorem tX5_make (l : Launch) {g : Gx} (hI : InjG g) {h k h1 : Hp} {e : Nat} {a1 : Int32} {a2 : Int32}  (he : isR e) (hf : fX5_make e a1 a2 h = some ((), h1)) : CV l yX5_make cX5_make 3 none 1 g [.ref (g.2.2 e), .int a1, .int a2] h k h1 k := by
  refine Met.ofW (cc := cX5_make) (maxL := 3) (ret := none) (by decide) rfl ?_
  intro p en s m args below meth c s₁ B hml hv
  obtain ⟨rfl, hSK, hSH, hP⟩ := hv
  have X : Cx p s m _ c cX5_make 3 RX5 g := ⟨B.exec, B.bytes, hml, findClass_of_methodNamed B.named, fun w hw => atoms_spec (ws := wsy yX5_make cX5_make 3 none) B.pre w (List.mem_cons_of_mem _ hw), hSK, hI, hSH⟩
  have hr := B.returns
  have hlocks := B.notSynchronized
  have hx := X.1
  have hb := X.2.1
  have hS : va_S (inA g) s.heap s.heap [] := va_S.rf
  clear hSK hSH hml B
  have hl := lv_entry ([.ref (g.2.2 e), .int a1, .int a2]) (n := 3) (Nat.le_of_ble_eq_true rfl)
  rw [lg_entry_eq]
  generalize (lg_sl ([.ref (g.2.2 e), .int a1, .int a2]) ++ List.replicate (3 - (lg_sl ([.ref (g.2.2 e), .int a1, .int a2])).length) Slot.unset).toArray = ls at hl ⊢
  have hl : lv_has ls 3 [(0, .ref (g.2.2 e)), (1, .int a1), (2, .int a2)] := hl
  generalize ([.ref (g.2.2 e), .int a1, .int a2] : List Value).toArray = args at X ⊢
  show W p l en (rmD 1) s m args below meth c s.heap [] 0 0 (MQ below (QV g h1 k) args s 0 0 (inA g)) (F0 m 0 ls [])
  unfold fX5_make at hf
  refine lv_aload_n hx hb dX5_make_0 rfl (lv_at hl 0 rfl) ?_
  refine lv_iconst (v := 0) hx hb dX5_make_1 (by decide) ?_
  refine pX5 X hP hS (he) 1 (by decide) rfl wd_282 rfl rfl rfl rfl seX5_1 dX5_make_2 (fun H1 lc2 hh3 ehh3 hP4 hS5 => ?_)
  have hf6 := lk_at ehh3 hf
  clear hf hP hS
  refine lv_aload_n hx hb dX5_make_5 rfl (lv_at hl 0 rfl) ?_
  refine lv_iload_n hx hb dX5_make_6 rfl (lv_at hl 1 rfl) ?_
  refine pX5 X hP4 hS5 (he) 2 (by decide) rfl wd_284 rfl rfl rfl rfl seX5_2 dX5_make_7 (fun H7 lc8 hh9 ehh9 hP10 hS11 => ?_)
  have hf12 := lk_at ehh9 hf6
  clear hf6 hP4 hS5
  refine lv_aload_n hx hb dX5_make_10 rfl (lv_at hl 0 rfl) ?_
  refine lv_iload_n hx hb dX5_make_11 rfl (lv_at hl 2 rfl) ?_
  refine pX5 X hP10 hS11 (he) 3 (by decide) rfl wd_286 rfl rfl rfl rfl seX5_3 dX5_make_12 (fun H13 lc14 hh15 ehh15 hP16 hS17 => ?_)
  have hf18 := lk_at ehh15 hf12
  clear hf12 hP10 hS11
  refine lv_aload_n hx hb dX5_make_15 rfl (lv_at hl 0 rfl) ?_
  refine gX5 X hP16 he 0 (v := .ref (g.2.2 (e + 1))) rfl (by decide) rfl wd_279 dX5_make_16 ?_
  refine lv_iconst (v := 0) hx hb dX5_make_19 (by decide) ?_
  obtain ⟨⟨⟩, hh20, hg26, hf25⟩ := bd_some hf18
  refine x_cv (x_runS (As := [.ref (g.2.2 (e + 1)), .int (0 : Int32)]) (rest := []) X hP16 hS17 (tJ7_fill l X.2.2.2.2.2.2.1 (ia_R he) hg26) mi_X5_26 rfl hl.1 rfl (Nat.le_of_ble_eq_true rfl) dX5_make_20 ⟨Nat.le_of_ble_eq_true rfl, Nat.le_of_ble_eq_true rfl⟩ ⟨Nat.zero_le _, Nat.zero_le _⟩) hS17 (fun H21 lc22 hP23 hS24 => ?_)
  clear hf18 hP16 hS17 hg26
  obtain ⟨-, rfl⟩ := ret_inj hf25
  exact x_vret X hr hlocks hP23 hS24 dX5_make_23
set_option maxRecDepth 100000 in
set_option maxHeartbeats 4000000 in
theorem tX6_well (l : Launch) {g : Gx} (hI : InjG g) {h k h1 : Hp} {a1 : Int32} {r : Int32}   (hf : fX6_well a1 h = some (r, h1)) : CI l yX6_well cX6_well 2 (some .int) 0 g [.ref (g.2.2 203), .int a1] h k h1 k r := by
  refine Met.ofW (cc := cX6_well) (maxL := 2) (ret := (some .int)) (by decide) rfl ?_
  intro p en s m args below meth c s₁ B hml hv
  obtain ⟨rfl, hSK, hSH, hP⟩ := hv
  have X : Cx p s m _ c cX6_well 2 RX6 g := ⟨B.exec, B.bytes, hml, findClass_of_methodNamed B.named, fun w hw => atoms_spec (ws := wsy yX6_well cX6_well 2 (some .int)) B.pre w (List.mem_cons_of_mem _ hw), hSK, hI, hSH⟩
  have hr := B.returns
  have hlocks := B.notSynchronized
  have hx := X.1
  have hb := X.2.1
  have hS : va_S (inA g) s.heap s.heap [] := va_S.rf
  clear hSK hSH hml B
  have hl := lv_entry ([.ref (g.2.2 203), .int a1]) (n := 2) (Nat.le_of_ble_eq_true rfl)
  rw [lg_entry_eq]
  generalize (lg_sl ([.ref (g.2.2 203), .int a1]) ++ List.replicate (2 - (lg_sl ([.ref (g.2.2 203), .int a1])).length) Slot.unset).toArray = ls at hl ⊢
  have hl : lv_has ls 2 [(0, .ref (g.2.2 203)), (1, .int a1)] := hl
  generalize ([.ref (g.2.2 203), .int a1] : List Value).toArray = args at X ⊢
  show W p l en (rmD 0) s m args below meth c s.heap [] 0 0 (MQ below (QI g h1 k r) args s 0 0 (inA g)) (F0 m 0 ls [])
  unfold fX6_well at hf
  refine lv_aload_n hx hb dX6_well_0 rfl (lv_at hl 0 rfl) ?_
  refine lv_iconst (v := 0) hx hb dX6_well_1 (by decide) ?_
  refine pX6 X hP hS 8 (by decide) rfl wd_305 rfl rfl rfl rfl seX6_8 dX6_well_2 (fun H1 lc2 hh3 ehh3 hP4 hS5 => ?_)
  have hf6 := lk_at ehh3 hf
  clear hf hP hS
  refine lv_iload_n hx hb dX6_well_5 rfl (lv_at hl 1 rfl) ?_
  obtain ⟨rfl, rfl⟩ := ret_inj hf6
  exact x_iret X hr hlocks hP4 hS5 dX6_well_6
set_option maxRecDepth 100000 in
set_option maxHeartbeats 4000000 in
theorem tX6_row (l : Launch) {g : Gx} (hI : InjG g) {h k h1 : Hp} {a1 : Int32} {a2 : Int32} {a3 : Int32} {r : Int32}   (hf : fX6_row a1 a2 a3 h = some (r, h1)) : CI l yX6_row cX6_row 4 (some .int) 2 g [.ref (g.2.2 203), .int a1, .int a2, .int a3] h k h1 k r := by
  refine Met.ofW (cc := cX6_row) (maxL := 4) (ret := (some .int)) (by decide) rfl ?_
  intro p en s m args below meth c s₁ B hml hv
  obtain ⟨rfl, hSK, hSH, hP⟩ := hv
  have X : Cx p s m _ c cX6_row 4 RX6 g := ⟨B.exec, B.bytes, hml, findClass_of_methodNamed B.named, fun w hw => atoms_spec (ws := wsy yX6_row cX6_row 4 (some .int)) B.pre w (List.mem_cons_of_mem _ hw), hSK, hI, hSH⟩
  have hr := B.returns
  have hlocks := B.notSynchronized
  have hx := X.1
  have hb := X.2.1
  have hS : va_S (inA g) s.heap s.heap [] := va_S.rf
  clear hSK hSH hml B
  have hl := lv_entry ([.ref (g.2.2 203), .int a1, .int a2, .int a3]) (n := 4) (Nat.le_of_ble_eq_true rfl)
  rw [lg_entry_eq]
  generalize (lg_sl ([.ref (g.2.2 203), .int a1, .int a2, .int a3]) ++ List.replicate (4 - (lg_sl ([.ref (g.2.2 203), .int a1, .int a2, .int a3])).length) Slot.unset).toArray = ls at hl ⊢
  have hl : lv_has ls 4 [(0, .ref (g.2.2 203)), (1, .int a1), (2, .int a2), (3, .int a3)] := hl
  generalize ([.ref (g.2.2 203), .int a1, .int a2, .int a3] : List Value).toArray = args at X ⊢
  show W p l en (rmD 2) s m args below meth c s.heap [] 0 0 (MQ below (QI g h1 k r) args s 0 0 (inA g)) (F0 m 0 ls [])
  unfold fX6_row at hf
  refine lv_iload_n hx hb dX6_row_0 rfl (lv_at hl 1 rfl) ?_
  obtain ⟨x1, hh2, hg8, hf7⟩ := bd_some hf
  refine x_ci (x_runS (As := [.int a1]) (rest := []) X hP hS (tX6_isRow l X.2.2.2.2.2.2.1  hg8) mi_X6_55 rfl hl.1 rfl (Nat.le_of_ble_eq_true rfl) dX6_row_1 ⟨Nat.le_of_ble_eq_true rfl, Nat.le_of_ble_eq_true rfl⟩ ⟨Nat.zero_le _, Nat.zero_le _⟩) hS (fun H3 lc4 hP5 hS6 => ?_)
  clear hf hP hS hg8
  refine lv_if_eq (tgt := 22) hx hb dX6_row_4 (by decide) (fun c9 => ?_) (fun c9 => ?_)
  · have hf10 := if_at_t c9 hf7
    clear hf7
    refine lv_ldc (v := -1000001) hx hb X.2.2.2.1 (X.2.2.2.2.1 _ wd_335) dX6_row_22 ?_
    obtain ⟨rfl, rfl⟩ := ret_inj hf10
    exact x_iret X hr hlocks hP5 hS6 dX6_row_24
  · have hf11 := if_at_f c9 hf7
    clear hf7
    refine lv_iload_n hx hb dX6_row_7 rfl (lv_at hl 2 rfl) ?_
    refine lv_iconst (v := 0) hx hb dX6_row_8 (by decide) ?_
    refine lv_iconst (v := 2) hx hb dX6_row_9 (by decide) ?_
    obtain ⟨x12, hh13, hg19, hf18⟩ := bd_some hf11
    refine x_ci (x_runS (As := [.int a2, .int (0 : Int32), .int (2 : Int32)]) (rest := []) X hP5 hS6 (tX6_isWithin l X.2.2.2.2.2.2.1  hg19) mi_X6_59 rfl hl.1 rfl (Nat.le_of_ble_eq_true rfl) dX6_row_10 ⟨Nat.le_of_ble_eq_true rfl, Nat.le_of_ble_eq_true rfl⟩ ⟨Nat.zero_le _, Nat.zero_le _⟩) hS6 (fun H14 lc15 hP16 hS17 => ?_)
    clear hf11 hP5 hS6 hg19
    refine lv_if_eq (tgt := 22) hx hb dX6_row_13 (by decide) (fun c20 => ?_) (fun c20 => ?_)
    · have hf21 := if_at_t c20 hf18
      clear hf18
      refine lv_ldc (v := -1000001) hx hb X.2.2.2.1 (X.2.2.2.2.1 _ wd_335) dX6_row_22 ?_
      obtain ⟨rfl, rfl⟩ := ret_inj hf21
      exact x_iret X hr hlocks hP16 hS17 dX6_row_24
    · have hf22 := if_at_f c20 hf18
      clear hf18
      refine lv_iload_n hx hb dX6_row_16 rfl (lv_at hl 3 rfl) ?_
      refine lv_bipush (v := 40) hx hb dX6_row_17 (by decide) ?_
      refine lv_icmp_le (tgt := 25) hx hb dX6_row_19 (by decide) (fun c23 => ?_) (fun c23 => ?_)
      · have hf24 := if_at_t c23 hf22
        clear hf22
        refine lv_iload_n hx hb dX6_row_25 rfl (lv_at hl 3 rfl) ?_
        refine lv_if_ge (tgt := 35) hx hb dX6_row_26 (by decide) (fun c25 => ?_) (fun c25 => ?_)
        · have hf26 := if_at_t c25 hf24
          clear hf24
          refine lv_aload_n hx hb dX6_row_35 rfl (lv_at hl 0 rfl) ?_
          refine gX6 X hP16 0 (v := .ref (g.2.2 204)) rfl (by decide) rfl wd_297 dX6_row_36 ?_
          refine lv_iload_n hx hb dX6_row_39 rfl (lv_at hl 1 rfl) ?_
          obtain ⟨hc27, hf28⟩ := chk_some hf26
          refine x_rows X hP16 hc27 dX6_row_40 ?_
          refine lv_iload_n hx hb dX6_row_41 rfl (lv_at hl 2 rfl) ?_
          refine lv_iload_n hx hb dX6_row_42 rfl (lv_at hl 3 rfl) ?_
          obtain ⟨⟨⟩, hh30, hg36, hf35⟩ := bd_some hf28
          refine x_cv (x_runV (As := [.int a2, .int a3]) (rest := []) X hP16 hS17 (230 + 2 * a1.toNatClampNeg) (isR_lt (isR_row hc27)) (cl_R (isR_row hc27)) rfl (tX5_make l X.2.2.2.2.2.2.1 (isR_row hc27) hg36) mi_X6_68 rfl hl.1 rfl (Nat.le_of_ble_eq_true rfl) dX6_row_43 ⟨Nat.le_of_ble_eq_true rfl, Nat.le_of_ble_eq_true rfl⟩ ⟨Nat.zero_le _, Nat.zero_le _⟩) hS17 (fun H31 lc32 hP33 hS34 => ?_)
          clear hf28 hP16 hS17 hg36
          refine lv_aload_n hx hb dX6_row_46 rfl (lv_at hl 0 rfl) ?_
          refine lv_iload_n hx hb dX6_row_47 rfl (lv_at hl 3 rfl) ?_
          obtain ⟨x37, hh38, hg44, hf43⟩ := bd_some hf35
          refine x_ci (x_runV (As := [.int a3]) (rest := []) X hP33 hS34 203 (by decide) cl_F rfl (tX6_well l X.2.2.2.2.2.2.1  hg44) mi_X6_72 rfl hl.1 rfl (Nat.le_of_ble_eq_true rfl) dX6_row_48 ⟨Nat.le_of_ble_eq_true rfl, Nat.le_of_ble_eq_true rfl⟩ ⟨Nat.zero_le _, Nat.zero_le _⟩) hS34 (fun H39 lc40 hP41 hS42 => ?_)
          clear hf35 hP33 hS34 hg44
          obtain ⟨rfl, rfl⟩ := ret_inj hf43
          exact x_iret X hr hlocks hP41 hS42 dX6_row_51
        · have hf45 := if_at_f c25 hf24
          clear hf24
          refine lv_aload_n hx hb dX6_row_29 rfl (lv_at hl 0 rfl) ?_
          refine lv_iconst (v := 4) hx hb dX6_row_30 (by decide) ?_
          obtain ⟨x46, hh47, hg53, hf52⟩ := bd_some hf45
          refine x_ci (x_runV (As := [.int (4 : Int32)]) (rest := []) X hP16 hS17 203 (by decide) cl_F rfl (tX6_found l X.2.2.2.2.2.2.1  hg53) mi_X6_64 rfl hl.1 rfl (Nat.le_of_ble_eq_true rfl) dX6_row_31 ⟨Nat.le_of_ble_eq_true rfl, Nat.le_of_ble_eq_true rfl⟩ ⟨Nat.zero_le _, Nat.zero_le _⟩) hS17 (fun H48 lc49 hP50 hS51 => ?_)
          clear hf45 hP16 hS17 hg53
          obtain ⟨rfl, rfl⟩ := ret_inj hf52
          exact x_iret X hr hlocks hP50 hS51 dX6_row_34
      · have hf54 := if_at_f c23 hf22
        clear hf22
        refine lv_ldc (v := -1000001) hx hb X.2.2.2.1 (X.2.2.2.2.1 _ wd_335) dX6_row_22 ?_
        obtain ⟨rfl, rfl⟩ := ret_inj hf54
        exact x_iret X hr hlocks hP16 hS17 dX6_row_24
set_option maxRecDepth 100000 in
set_option maxHeartbeats 4000000 in
theorem tX5_holds (l : Launch) {g : Gx} (hI : InjG g) {h k h1 : Hp} {e : Nat} {a1 : Int32} {a2 : Int32} {r : Int32}  (he : isR e) (hf : fX5_holds e a1 a2 h = some (r, h1)) : CI l yX5_holds cX5_holds 3 (some .boolean) 0 g [.ref (g.2.2 e), .int a1, .int a2] h k h1 k r := by
  refine Met.ofW (cc := cX5_holds) (maxL := 3) (ret := (some .boolean)) (by decide) rfl ?_
  intro p en s m args below meth c s₁ B hml hv
  obtain ⟨rfl, hSK, hSH, hP⟩ := hv
  have X : Cx p s m _ c cX5_holds 3 RX5 g := ⟨B.exec, B.bytes, hml, findClass_of_methodNamed B.named, fun w hw => atoms_spec (ws := wsy yX5_holds cX5_holds 3 (some .boolean)) B.pre w (List.mem_cons_of_mem _ hw), hSK, hI, hSH⟩
  have hr := B.returns
  have hlocks := B.notSynchronized
  have hx := X.1
  have hb := X.2.1
  have hS : va_S (inA g) s.heap s.heap [] := va_S.rf
  clear hSK hSH hml B
  have hl := lv_entry ([.ref (g.2.2 e), .int a1, .int a2]) (n := 3) (Nat.le_of_ble_eq_true rfl)
  rw [lg_entry_eq]
  generalize (lg_sl ([.ref (g.2.2 e), .int a1, .int a2]) ++ List.replicate (3 - (lg_sl ([.ref (g.2.2 e), .int a1, .int a2])).length) Slot.unset).toArray = ls at hl ⊢
  have hl : lv_has ls 3 [(0, .ref (g.2.2 e)), (1, .int a1), (2, .int a2)] := hl
  generalize ([.ref (g.2.2 e), .int a1, .int a2] : List Value).toArray = args at X ⊢
  show W p l en (rmD 0) s m args below meth c s.heap [] 0 0 (MQ below (QI g h1 k r) args s 0 0 (inA g)) (F0 m 0 ls [])
  unfold fX5_holds at hf
  refine lv_iload_n hx hb dX5_holds_0 rfl (lv_at hl 1 rfl) ?_
  refine lv_if_lt (tgt := 30) hx hb dX5_holds_1 (by decide) (fun c1 => ?_) (fun c1 => ?_)
  · have hf2 := if_at_t c1 hf
    clear hf
    refine lv_iconst (v := 0) hx hb dX5_holds_30 (by decide) ?_
    obtain ⟨rfl, rfl⟩ := ret_inj hf2
    exact x_zret X hr hlocks rfl hP hS dX5_holds_31
  · have hf3 := if_at_f c1 hf
    clear hf
    refine lv_iload_n hx hb dX5_holds_4 rfl (lv_at hl 1 rfl) ?_
    refine lv_aload_n hx hb dX5_holds_5 rfl (lv_at hl 0 rfl) ?_
    refine gX5 X hP he 3 (v := .int (h e 3)) rfl (by decide) rfl wd_286 dX5_holds_6 ?_
    refine lv_icmp_gt (tgt := 30) hx hb dX5_holds_9 (by decide) (fun c4 => ?_) (fun c4 => ?_)
    · have hf5 := if_at_t c4 hf3
      clear hf3
      refine lv_iconst (v := 0) hx hb dX5_holds_30 (by decide) ?_
      obtain ⟨rfl, rfl⟩ := ret_inj hf5
      exact x_zret X hr hlocks rfl hP hS dX5_holds_31
    · have hf6 := if_at_f c4 hf3
      clear hf3
      refine lv_iload_n hx hb dX5_holds_12 rfl (lv_at hl 2 rfl) ?_
      refine lv_if_lt (tgt := 30) hx hb dX5_holds_13 (by decide) (fun c7 => ?_) (fun c7 => ?_)
      · have hf8 := if_at_t c7 hf6
        clear hf6
        refine lv_iconst (v := 0) hx hb dX5_holds_30 (by decide) ?_
        obtain ⟨rfl, rfl⟩ := ret_inj hf8
        exact x_zret X hr hlocks rfl hP hS dX5_holds_31
      · have hf9 := if_at_f c7 hf6
        clear hf6
        refine lv_iload_n hx hb dX5_holds_16 rfl (lv_at hl 2 rfl) ?_
        refine lv_aload_n hx hb dX5_holds_17 rfl (lv_at hl 0 rfl) ?_
        refine gX5 X hP he 3 (v := .int (h e 3)) rfl (by decide) rfl wd_286 dX5_holds_18 ?_
        refine lv_iload_n hx hb dX5_holds_21 rfl (lv_at hl 1 rfl) ?_
        refine lv_isub hx hb dX5_holds_22 ?_
        refine lv_icmp_gt (tgt := 30) hx hb dX5_holds_23 (by decide) (fun c10 => ?_) (fun c10 => ?_)
        · have hf11 := if_at_t c10 hf9
          clear hf9
          refine lv_iconst (v := 0) hx hb dX5_holds_30 (by decide) ?_
          obtain ⟨rfl, rfl⟩ := ret_inj hf11
          exact x_zret X hr hlocks rfl hP hS dX5_holds_31
        · have hf12 := if_at_f c10 hf9
          clear hf9
          refine lv_iconst (v := 1) hx hb dX5_holds_26 (by decide) ?_
          refine lv_goto (tgt := 31) hx hb dX5_holds_27 (by decide) ?_
          obtain ⟨rfl, rfl⟩ := ret_inj hf12
          exact x_zret X hr hlocks rfl hP hS dX5_holds_31
set_option maxRecDepth 100000 in
set_option maxHeartbeats 4000000 in
theorem tX5_lowestBits (l : Launch) {g : Gx} (hI : InjG g) {h k h1 : Hp} {e : Nat} {a1 : Int32} {r : Int32}  (he : isR e) (hf : fX5_lowestBits e a1 h = some (r, h1)) : CI l yX5_lowestBits cX5_lowestBits 2 (some .int) 0 g [.ref (g.2.2 e), .int a1] h k h1 k r := by
  refine Met.ofW (cc := cX5_lowestBits) (maxL := 2) (ret := (some .int)) (by decide) rfl ?_
  intro p en s m args below meth c s₁ B hml hv
  obtain ⟨rfl, hSK, hSH, hP⟩ := hv
  have X : Cx p s m _ c cX5_lowestBits 2 RX5 g := ⟨B.exec, B.bytes, hml, findClass_of_methodNamed B.named, fun w hw => atoms_spec (ws := wsy yX5_lowestBits cX5_lowestBits 2 (some .int)) B.pre w (List.mem_cons_of_mem _ hw), hSK, hI, hSH⟩
  have hr := B.returns
  have hlocks := B.notSynchronized
  have hx := X.1
  have hb := X.2.1
  have hS : va_S (inA g) s.heap s.heap [] := va_S.rf
  clear hSK hSH hml B
  have hl := lv_entry ([.ref (g.2.2 e), .int a1]) (n := 2) (Nat.le_of_ble_eq_true rfl)
  rw [lg_entry_eq]
  generalize (lg_sl ([.ref (g.2.2 e), .int a1]) ++ List.replicate (2 - (lg_sl ([.ref (g.2.2 e), .int a1])).length) Slot.unset).toArray = ls at hl ⊢
  have hl : lv_has ls 2 [(0, .ref (g.2.2 e)), (1, .int a1)] := hl
  generalize ([.ref (g.2.2 e), .int a1] : List Value).toArray = args at X ⊢
  show W p l en (rmD 0) s m args below meth c s.heap [] 0 0 (MQ below (QI g h1 k r) args s 0 0 (inA g)) (F0 m 0 ls [])
  unfold fX5_lowestBits at hf
  refine lv_aload_n hx hb dX5_lowestBits_0 rfl (lv_at hl 0 rfl) ?_
  refine gX5 X hP he 2 (v := .int (h e 2)) rfl (by decide) rfl wd_284 dX5_lowestBits_1 ?_
  refine lv_if_ne (tgt := 10) hx hb dX5_lowestBits_4 (by decide) (fun c1 => ?_) (fun c1 => ?_)
  · have hf2 := if_at_f c1 hf
    clear hf
    refine lv_aload_n hx hb dX5_lowestBits_10 rfl (lv_at hl 0 rfl) ?_
    refine gX5 X hP he 2 (v := .int (h e 2)) rfl (by decide) rfl wd_284 dX5_lowestBits_11 ?_
    refine lv_iconst (v := 1) hx hb dX5_lowestBits_14 (by decide) ?_
    refine lv_icmp_ne (tgt := 23) hx hb dX5_lowestBits_15 (by decide) (fun c3 => ?_) (fun c3 => ?_)
    · have hf4 := if_at_f c3 hf2
      clear hf2
      refine lv_iload_n hx hb dX5_lowestBits_23 rfl (lv_at hl 1 rfl) ?_
      obtain ⟨rfl, rfl⟩ := ret_inj hf4
      exact x_iret X hr hlocks hP hS dX5_lowestBits_24
    · have hf5 := if_at_t c3 hf2
      clear hf2
      refine lv_iload_n hx hb dX5_lowestBits_18 rfl (lv_at hl 1 rfl) ?_
      refine lv_i2s hx hb dX5_lowestBits_19 rfl ?_
      refine lv_goto (tgt := 24) hx hb dX5_lowestBits_20 (by decide) ?_
      obtain ⟨rfl, rfl⟩ := ret_inj hf5
      exact x_iret X hr hlocks hP hS dX5_lowestBits_24
  · have hf6 := if_at_t c1 hf
    clear hf
    refine lv_iload_n hx hb dX5_lowestBits_7 rfl (lv_at hl 1 rfl) ?_
    refine lv_i2b hx hb dX5_lowestBits_8 rfl ?_
    obtain ⟨rfl, rfl⟩ := ret_inj hf6
    exact x_iret X hr hlocks hP hS dX5_lowestBits_9
set_option maxRecDepth 100000 in
set_option maxHeartbeats 4000000 in
theorem tX5_put (l : Launch) {g : Gx} (hI : InjG g) {h k h1 : Hp} {e : Nat} {a1 : Int32} {a2 : Int32} {r : Int32}  (he : isR e) (hf : fX5_put e a1 a2 h = some (r, h1)) : CI l yX5_put cX5_put 3 (some .int) 1 g [.ref (g.2.2 e), .int a1, .int a2] h k h1 k r := by
  refine Met.ofW (cc := cX5_put) (maxL := 3) (ret := (some .int)) (by decide) rfl ?_
  intro p en s m args below meth c s₁ B hml hv
  obtain ⟨rfl, hSK, hSH, hP⟩ := hv
  have X : Cx p s m _ c cX5_put 3 RX5 g := ⟨B.exec, B.bytes, hml, findClass_of_methodNamed B.named, fun w hw => atoms_spec (ws := wsy yX5_put cX5_put 3 (some .int)) B.pre w (List.mem_cons_of_mem _ hw), hSK, hI, hSH⟩
  have hr := B.returns
  have hlocks := B.notSynchronized
  have hx := X.1
  have hb := X.2.1
  have hS : va_S (inA g) s.heap s.heap [] := va_S.rf
  clear hSK hSH hml B
  have hl := lv_entry ([.ref (g.2.2 e), .int a1, .int a2]) (n := 3) (Nat.le_of_ble_eq_true rfl)
  rw [lg_entry_eq]
  generalize (lg_sl ([.ref (g.2.2 e), .int a1, .int a2]) ++ List.replicate (3 - (lg_sl ([.ref (g.2.2 e), .int a1, .int a2])).length) Slot.unset).toArray = ls at hl ⊢
  have hl : lv_has ls 3 [(0, .ref (g.2.2 e)), (1, .int a1), (2, .int a2)] := hl
  generalize ([.ref (g.2.2 e), .int a1, .int a2] : List Value).toArray = args at X ⊢
  show W p l en (rmD 1) s m args below meth c s.heap [] 0 0 (MQ below (QI g h1 k r) args s 0 0 (inA g)) (F0 m 0 ls [])
  unfold fX5_put at hf
  refine lv_aload_n hx hb dX5_put_0 rfl (lv_at hl 0 rfl) ?_
  refine gX5 X hP he 0 (v := .ref (g.2.2 (e + 1))) rfl (by decide) rfl wd_279 dX5_put_1 ?_
  refine lv_iload_n hx hb dX5_put_4 rfl (lv_at hl 1 rfl) ?_
  refine lv_aload_n hx hb dX5_put_5 rfl (lv_at hl 0 rfl) ?_
  refine lv_iload_n hx hb dX5_put_6 rfl (lv_at hl 2 rfl) ?_
  obtain ⟨x1, hh2, hg8, hf7⟩ := bd_some hf
  refine x_ci (x_runV (As := [.int a2]) (rest := [.int a1, .ref (g.2.2 (e + 1))]) X hP hS e (isR_lt he) (cl_R he) rfl (tX5_lowestBits l X.2.2.2.2.2.2.1 he hg8) mi_X5_32 rfl hl.1 rfl (Nat.le_of_ble_eq_true rfl) dX5_put_7 ⟨Nat.le_of_ble_eq_true rfl, Nat.le_of_ble_eq_true rfl⟩ ⟨Nat.zero_le _, Nat.zero_le _⟩) hS (fun H3 lc4 hP5 hS6 => ?_)
  clear hf hP hS hg8
  obtain ⟨hc9, hf10⟩ := chk_some hf7
  refine x_istC X hP5 hS6 (e + 1) (ia_R he) hc9 dX5_put_10 (fun H11 lc12 hh13 ehh13 hP14 hS15 => ?_)
  have hf16 := lk_at ehh13 hf10
  clear hf10 hP5 hS6
  refine lv_aload_n hx hb dX5_put_11 rfl (lv_at hl 0 rfl) ?_
  refine gX5 X hP14 he 0 (v := .ref (g.2.2 (e + 1))) rfl (by decide) rfl wd_279 dX5_put_12 ?_
  refine lv_iload_n hx hb dX5_put_15 rfl (lv_at hl 1 rfl) ?_
  obtain ⟨hc17, hf18⟩ := chk_some hf16
  refine x_ildC X hP14 (e + 1) (ia_R he) hc17 dX5_put_16 ?_
  obtain ⟨rfl, rfl⟩ := ret_inj hf18
  exact x_iret X hr hlocks hP14 hS15 dX5_put_17
set_option maxRecDepth 100000 in
set_option maxHeartbeats 4000000 in
theorem tX6_set (l : Launch) {g : Gx} (hI : InjG g) {h k h1 : Hp} {a1 : Int32} {a2 : Int32} {a3 : Int32} {r : Int32}   (hf : fX6_set a1 a2 a3 h = some (r, h1)) : CI l yX6_set cX6_set 5 (some .int) 2 g [.ref (g.2.2 203), .int a1, .int a2, .int a3] h k h1 k r := by
  refine Met.ofW (cc := cX6_set) (maxL := 5) (ret := (some .int)) (by decide) rfl ?_
  intro p en s m args below meth c s₁ B hml hv
  obtain ⟨rfl, hSK, hSH, hP⟩ := hv
  have X : Cx p s m _ c cX6_set 5 RX6 g := ⟨B.exec, B.bytes, hml, findClass_of_methodNamed B.named, fun w hw => atoms_spec (ws := wsy yX6_set cX6_set 5 (some .int)) B.pre w (List.mem_cons_of_mem _ hw), hSK, hI, hSH⟩
  have hr := B.returns
  have hlocks := B.notSynchronized
  have hx := X.1
  have hb := X.2.1
  have hS : va_S (inA g) s.heap s.heap [] := va_S.rf
  clear hSK hSH hml B
  have hl := lv_entry ([.ref (g.2.2 203), .int a1, .int a2, .int a3]) (n := 5) (Nat.le_of_ble_eq_true rfl)
  rw [lg_entry_eq]
  generalize (lg_sl ([.ref (g.2.2 203), .int a1, .int a2, .int a3]) ++ List.replicate (5 - (lg_sl ([.ref (g.2.2 203), .int a1, .int a2, .int a3])).length) Slot.unset).toArray = ls at hl ⊢
  have hl : lv_has ls 5 [(0, .ref (g.2.2 203)), (1, .int a1), (2, .int a2), (3, .int a3)] := hl
  generalize ([.ref (g.2.2 203), .int a1, .int a2, .int a3] : List Value).toArray = args at X ⊢
  show W p l en (rmD 2) s m args below meth c s.heap [] 0 0 (MQ below (QI g h1 k r) args s 0 0 (inA g)) (F0 m 0 ls [])
  unfold fX6_set at hf
  refine lv_iload_n hx hb dX6_set_0 rfl (lv_at hl 1 rfl) ?_
  obtain ⟨x1, hh2, hg8, hf7⟩ := bd_some hf
  refine x_ci (x_runS (As := [.int a1]) (rest := []) X hP hS (tX6_isRow l X.2.2.2.2.2.2.1  hg8) mi_X6_55 rfl hl.1 rfl (Nat.le_of_ble_eq_true rfl) dX6_set_1 ⟨Nat.le_of_ble_eq_true rfl, Nat.le_of_ble_eq_true rfl⟩ ⟨Nat.zero_le _, Nat.zero_le _⟩) hS (fun H3 lc4 hP5 hS6 => ?_)
  clear hf hP hS hg8
  refine lv_if_ne (tgt := 10) hx hb dX6_set_4 (by decide) (fun c9 => ?_) (fun c9 => ?_)
  · have hf10 := if_at_f c9 hf7
    clear hf7
    refine lv_aload_n hx hb dX6_set_10 rfl (lv_at hl 0 rfl) ?_
    refine gX6 X hP5 0 (v := .ref (g.2.2 204)) rfl (by decide) rfl wd_297 dX6_set_11 ?_
    refine lv_iload_n hx hb dX6_set_14 rfl (lv_at hl 1 rfl) ?_
    obtain ⟨hc11, hf12⟩ := chk_some hf10
    refine x_rows X hP5 hc11 dX6_set_15 ?_
    refine lv_astore (lv' := [(4, .ref (g.2.2 (230 + 2 * a1.toNatClampNeg))), (0, .ref (g.2.2 203)), (1, .int a1), (2, .int a2), (3, .int a3)]) hx hb dX6_set_16 hl (by decide) rfl (fun ls13 hl14 => ?_)
    clear hl
    refine lv_aload hx hb dX6_set_18 (lv_at hl14 0 rfl) ?_
    refine gX5 X hP5 (isR_row hc11) 1 (v := .int (hh2 (230 + 2 * a1.toNatClampNeg) 1)) rfl (by decide) rfl wd_283 dX6_set_20 ?_
    refine lv_if_eq (tgt := 32) hx hb dX6_set_23 (by decide) (fun c15 => ?_) (fun c15 => ?_)
    · have hf16 := if_at_t c15 hf12
      clear hf12
      refine lv_aload hx hb dX6_set_32 (lv_at hl14 0 rfl) ?_
      refine lv_iload_n hx hb dX6_set_34 rfl (lv_at hl14 3 rfl) ?_
      refine lv_iconst (v := 1) hx hb dX6_set_35 (by decide) ?_
      obtain ⟨x17, hh18, hg24, hf23⟩ := bd_some hf16
      refine x_ci (x_runV (As := [.int a2, .int (1 : Int32)]) (rest := []) X hP5 hS6 (230 + 2 * a1.toNatClampNeg) (isR_lt (isR_row hc11)) (cl_R (isR_row hc11)) rfl (tX5_holds l X.2.2.2.2.2.2.1 (isR_row hc11) hg24) mi_X6_79 rfl hl14.1 rfl (Nat.le_of_ble_eq_true rfl) dX6_set_36 ⟨Nat.le_of_ble_eq_true rfl, Nat.le_of_ble_eq_true rfl⟩ ⟨Nat.zero_le _, Nat.zero_le _⟩) hS6 (fun H19 lc20 hP21 hS22 => ?_)
      clear hf16 hP5 hS6 hg24
      refine lv_if_ne (tgt := 48) hx hb dX6_set_39 (by decide) (fun c25 => ?_) (fun c25 => ?_)
      · have hf26 := if_at_f c25 hf23
        clear hf23
        refine lv_aload_n hx hb dX6_set_48 rfl (lv_at hl14 1 rfl) ?_
        refine lv_aload hx hb dX6_set_49 (lv_at hl14 0 rfl) ?_
        refine lv_iload_n hx hb dX6_set_51 rfl (lv_at hl14 3 rfl) ?_
        refine lv_iload_n hx hb dX6_set_52 rfl (lv_at hl14 4 rfl) ?_
        obtain ⟨x27, hh28, hg34, hf33⟩ := bd_some hf26
        refine x_ci (x_runV (As := [.int a2, .int a3]) (rest := [.ref (g.2.2 203)]) X hP21 hS22 (230 + 2 * a1.toNatClampNeg) (isR_lt (isR_row hc11)) (cl_R (isR_row hc11)) rfl (tX5_put l X.2.2.2.2.2.2.1 (isR_row hc11) hg34) mi_X6_83 rfl hl14.1 rfl (Nat.le_of_ble_eq_true rfl) dX6_set_53 ⟨Nat.le_of_ble_eq_true rfl, Nat.le_of_ble_eq_true rfl⟩ ⟨Nat.zero_le _, Nat.zero_le _⟩) hS22 (fun H29 lc30 hP31 hS32 => ?_)
        clear hf26 hP21 hS22 hg34
        obtain ⟨x35, hh36, hg42, hf41⟩ := bd_some hf33
        refine x_ci (x_runV (As := [.int x27]) (rest := []) X hP31 hS32 203 (by decide) cl_F rfl (tX6_well l X.2.2.2.2.2.2.1  hg42) mi_X6_72 rfl hl14.1 rfl (Nat.le_of_ble_eq_true rfl) dX6_set_56 ⟨Nat.le_of_ble_eq_true rfl, Nat.le_of_ble_eq_true rfl⟩ ⟨Nat.zero_le _, Nat.zero_le _⟩) hS32 (fun H37 lc38 hP39 hS40 => ?_)
        clear hf33 hP31 hS32 hg42
        obtain ⟨rfl, rfl⟩ := ret_inj hf41
        exact x_iret X hr hlocks hP39 hS40 dX6_set_59
      · have hf43 := if_at_t c25 hf23
        clear hf23
        refine lv_aload_n hx hb dX6_set_42 rfl (lv_at hl14 1 rfl) ?_
        refine lv_iconst (v := 2) hx hb dX6_set_43 (by decide) ?_
        obtain ⟨x44, hh45, hg51, hf50⟩ := bd_some hf43
        refine x_ci (x_runV (As := [.int (2 : Int32)]) (rest := []) X hP21 hS22 203 (by decide) cl_F rfl (tX6_found l X.2.2.2.2.2.2.1  hg51) mi_X6_64 rfl hl14.1 rfl (Nat.le_of_ble_eq_true rfl) dX6_set_44 ⟨Nat.le_of_ble_eq_true rfl, Nat.le_of_ble_eq_true rfl⟩ ⟨Nat.zero_le _, Nat.zero_le _⟩) hS22 (fun H46 lc47 hP48 hS49 => ?_)
        clear hf43 hP21 hS22 hg51
        obtain ⟨rfl, rfl⟩ := ret_inj hf50
        exact x_iret X hr hlocks hP48 hS49 dX6_set_47
    · have hf52 := if_at_f c15 hf12
      clear hf12
      refine lv_aload_n hx hb dX6_set_26 rfl (lv_at hl14 1 rfl) ?_
      refine lv_iconst (v := 1) hx hb dX6_set_27 (by decide) ?_
      obtain ⟨x53, hh54, hg60, hf59⟩ := bd_some hf52
      refine x_ci (x_runV (As := [.int (1 : Int32)]) (rest := []) X hP5 hS6 203 (by decide) cl_F rfl (tX6_found l X.2.2.2.2.2.2.1  hg60) mi_X6_64 rfl hl14.1 rfl (Nat.le_of_ble_eq_true rfl) dX6_set_28 ⟨Nat.le_of_ble_eq_true rfl, Nat.le_of_ble_eq_true rfl⟩ ⟨Nat.zero_le _, Nat.zero_le _⟩) hS6 (fun H55 lc56 hP57 hS58 => ?_)
      clear hf52 hP5 hS6 hg60
      obtain ⟨rfl, rfl⟩ := ret_inj hf59
      exact x_iret X hr hlocks hP57 hS58 dX6_set_31
  · have hf61 := if_at_t c9 hf7
    clear hf7
    refine lv_ldc (v := -1000001) hx hb X.2.2.2.1 (X.2.2.2.2.1 _ wd_335) dX6_set_7 ?_
    obtain ⟨rfl, rfl⟩ := ret_inj hf61
    exact x_iret X hr hlocks hP5 hS6 dX6_set_9
set_option maxRecDepth 100000 in
set_option maxHeartbeats 4000000 in
theorem tX6_copy (l : Launch) {g : Gx} (hI : InjG g) {h k h1 : Hp} {a1 : Int32} {a2 : Int32} {a3 : Int32} {a4 : Int32} {a5 : Int32} {r : Int32}   (hf : fX6_copy a1 a2 a3 a4 a5 h = some (r, h1)) : CI l yX6_copy cX6_copy 8 (some .int) 2 g [.ref (g.2.2 203), .int a1, .int a2, .int a3, .int a4, .int a5] h k h1 k r := by
  refine Met.ofW (cc := cX6_copy) (maxL := 8) (ret := (some .int)) (by decide) rfl ?_
  intro p en s m args below meth c s₁ B hml hv
  obtain ⟨rfl, hSK, hSH, hP⟩ := hv
  have X : Cx p s m _ c cX6_copy 8 RX6 g := ⟨B.exec, B.bytes, hml, findClass_of_methodNamed B.named, fun w hw => atoms_spec (ws := wsy yX6_copy cX6_copy 8 (some .int)) B.pre w (List.mem_cons_of_mem _ hw), hSK, hI, hSH⟩
  have hr := B.returns
  have hlocks := B.notSynchronized
  have hx := X.1
  have hb := X.2.1
  have hS : va_S (inA g) s.heap s.heap [] := va_S.rf
  clear hSK hSH hml B
  have hl := lv_entry ([.ref (g.2.2 203), .int a1, .int a2, .int a3, .int a4, .int a5]) (n := 8) (Nat.le_of_ble_eq_true rfl)
  rw [lg_entry_eq]
  generalize (lg_sl ([.ref (g.2.2 203), .int a1, .int a2, .int a3, .int a4, .int a5]) ++ List.replicate (8 - (lg_sl ([.ref (g.2.2 203), .int a1, .int a2, .int a3, .int a4, .int a5])).length) Slot.unset).toArray = ls at hl ⊢
  have hl : lv_has ls 8 [(0, .ref (g.2.2 203)), (1, .int a1), (2, .int a2), (3, .int a3), (4, .int a4), (5, .int a5)] := hl
  generalize ([.ref (g.2.2 203), .int a1, .int a2, .int a3, .int a4, .int a5] : List Value).toArray = args at X ⊢
  show W p l en (rmD 2) s m args below meth c s.heap [] 0 0 (MQ below (QI g h1 k r) args s 0 0 (inA g)) (F0 m 0 ls [])
  unfold fX6_copy at hf
  refine lv_iload_n hx hb dX6_copy_0 rfl (lv_at hl 1 rfl) ?_
  obtain ⟨x1, hh2, hg8, hf7⟩ := bd_some hf
  refine x_ci (x_runS (As := [.int a1]) (rest := []) X hP hS (tX6_isRow l X.2.2.2.2.2.2.1  hg8) mi_X6_55 rfl hl.1 rfl (Nat.le_of_ble_eq_true rfl) dX6_copy_1 ⟨Nat.le_of_ble_eq_true rfl, Nat.le_of_ble_eq_true rfl⟩ ⟨Nat.zero_le _, Nat.zero_le _⟩) hS (fun H3 lc4 hP5 hS6 => ?_)
  clear hf hP hS hg8
  refine lv_if_eq (tgt := 14) hx hb dX6_copy_4 (by decide) (fun c9 => ?_) (fun c9 => ?_)
  · have hf10 := if_at_t c9 hf7
    clear hf7
    refine lv_ldc (v := -1000001) hx hb X.2.2.2.1 (X.2.2.2.2.1 _ wd_335) dX6_copy_14 ?_
    obtain ⟨rfl, rfl⟩ := ret_inj hf10
    exact x_iret X hr hlocks hP5 hS6 dX6_copy_16
  · have hf11 := if_at_f c9 hf7
    clear hf7
    refine lv_iload_n hx hb dX6_copy_7 rfl (lv_at hl 3 rfl) ?_
    obtain ⟨x12, hh13, hg19, hf18⟩ := bd_some hf11
    refine x_ci (x_runS (As := [.int a3]) (rest := []) X hP5 hS6 (tX6_isRow l X.2.2.2.2.2.2.1  hg19) mi_X6_55 rfl hl.1 rfl (Nat.le_of_ble_eq_true rfl) dX6_copy_8 ⟨Nat.le_of_ble_eq_true rfl, Nat.le_of_ble_eq_true rfl⟩ ⟨Nat.zero_le _, Nat.zero_le _⟩) hS6 (fun H14 lc15 hP16 hS17 => ?_)
    clear hf11 hP5 hS6 hg19
    refine lv_if_ne (tgt := 17) hx hb dX6_copy_11 (by decide) (fun c20 => ?_) (fun c20 => ?_)
    · have hf21 := if_at_f c20 hf18
      clear hf18
      refine lv_aload_n hx hb dX6_copy_17 rfl (lv_at hl 0 rfl) ?_
      refine gX6 X hP16 0 (v := .ref (g.2.2 204)) rfl (by decide) rfl wd_297 dX6_copy_18 ?_
      refine lv_iload_n hx hb dX6_copy_21 rfl (lv_at hl 1 rfl) ?_
      obtain ⟨hc22, hf23⟩ := chk_some hf21
      refine x_rows X hP16 hc22 dX6_copy_22 ?_
      refine lv_astore (lv' := [(6, .ref (g.2.2 (230 + 2 * a1.toNatClampNeg))), (0, .ref (g.2.2 203)), (1, .int a1), (2, .int a2), (3, .int a3), (4, .int a4), (5, .int a5)]) hx hb dX6_copy_23 hl (by decide) rfl (fun ls24 hl25 => ?_)
      clear hl
      refine lv_aload_n hx hb dX6_copy_25 rfl (lv_at hl25 1 rfl) ?_
      refine gX6 X hP16 0 (v := .ref (g.2.2 204)) rfl (by decide) rfl wd_297 dX6_copy_26 ?_
      refine lv_iload_n hx hb dX6_copy_29 rfl (lv_at hl25 4 rfl) ?_
      obtain ⟨hc26, hf27⟩ := chk_some hf23
      refine x_rows X hP16 hc26 dX6_copy_30 ?_
      refine lv_astore (lv' := [(7, .ref (g.2.2 (230 + 2 * a3.toNatClampNeg))), (6, .ref (g.2.2 (230 + 2 * a1.toNatClampNeg))), (0, .ref (g.2.2 203)), (1, .int a1), (2, .int a2), (3, .int a3), (4, .int a4), (5, .int a5)]) hx hb dX6_copy_31 hl25 (by decide) rfl (fun ls28 hl29 => ?_)
      clear hl25
      refine lv_aload hx hb dX6_copy_33 (lv_at hl29 1 rfl) ?_
      refine gX5 X hP16 (isR_row hc22) 1 (v := .int (hh13 (230 + 2 * a1.toNatClampNeg) 1)) rfl (by decide) rfl wd_283 dX6_copy_35 ?_
      obtain ⟨J49_30, eJ49_30, hf47⟩ := jp_at hf27
      clear hf27
      have hJ49_30 : ∀  (hh31 : Hp) (H32 : Heap) (lc33 : List Loc) (ls34 : Array Slot), J49_30  hh31 = some (r, h1) → va_P g.1 vwCl (WW g hh31 k) H32 → va_S (inA g) s.heap H32 lc33 → lv_has ls34 8 [(0, .ref (g.2.2 203))] → W p l en (rmD 2) s m args below meth c H32 lc33 0 0 (MQ below (QI g h1 k r) args s 0 0 (inA g)) (F0 m 49 ls34 []) := by
        intro  hh31 H32 lc33 ls34 hf38 hP35 hS36 hl37
        clear hf47 hP16 hS17 hl29
        subst eJ49_30
        refine lv_aload_n hx hb dX6_copy_49 rfl (lv_at hl37 0 rfl) ?_
        refine lv_iconst (v := 1) hx hb dX6_copy_50 (by decide) ?_
        obtain ⟨x39, hh40, hg46, hf45⟩ := bd_some hf38
        refine x_ci (x_runV (As := [.int (1 : Int32)]) (rest := []) X hP35 hS36 203 (by decide) cl_F rfl (tX6_found l X.2.2.2.2.2.2.1  hg46) mi_X6_64 rfl hl37.1 rfl (Nat.le_of_ble_eq_true rfl) dX6_copy_51 ⟨Nat.le_of_ble_eq_true rfl, Nat.le_of_ble_eq_true rfl⟩ ⟨Nat.zero_le _, Nat.zero_le _⟩) hS36 (fun H41 lc42 hP43 hS44 => ?_)
        clear hf38 hP35 hS36 hg46
        obtain ⟨rfl, rfl⟩ := ret_inj hf45
        exact x_iret X hr hlocks hP43 hS44 dX6_copy_54
      clear eJ49_30
      refine lv_if_ne (tgt := 49) hx hb dX6_copy_38 (by decide) (fun c48 => ?_) (fun c48 => ?_)
      · have hf49 := if_at_f c48 hf47
        clear hf47
        exact hJ49_30 hh13  _ _ _ hf49 hP16 hS17 (lv_sub hl29 [2] rfl)
      · have hf50 := if_at_t c48 hf47
        clear hf47
        refine lv_aload hx hb dX6_copy_41 (lv_at hl29 0 rfl) ?_
        refine gX5 X hP16 (isR_row hc26) 1 (v := .int (hh13 (230 + 2 * a3.toNatClampNeg) 1)) rfl (by decide) rfl wd_283 dX6_copy_43 ?_
        refine lv_if_eq (tgt := 55) hx hb dX6_copy_46 (by decide) (fun c51 => ?_) (fun c51 => ?_)
        · have hf52 := if_at_t c51 hf50
          clear hf50
          refine lv_aload hx hb dX6_copy_55 (lv_at hl29 1 rfl) ?_
          refine gX5 X hP16 (isR_row hc22) 2 (v := .int (hh13 (230 + 2 * a1.toNatClampNeg) 2)) rfl (by decide) rfl wd_285 dX6_copy_57 ?_
          refine lv_aload hx hb dX6_copy_60 (lv_at hl29 0 rfl) ?_
          refine gX5 X hP16 (isR_row hc26) 2 (v := .int (hh13 (230 + 2 * a3.toNatClampNeg) 2)) rfl (by decide) rfl wd_285 dX6_copy_62 ?_
          refine lv_icmp_eq (tgt := 74) hx hb dX6_copy_65 (by decide) (fun c53 => ?_) (fun c53 => ?_)
          · have hf54 := if_at_t c53 hf52
            clear hf52
            refine lv_aload hx hb dX6_copy_74 (lv_at hl29 1 rfl) ?_
            refine lv_iload_n hx hb dX6_copy_76 rfl (lv_at hl29 4 rfl) ?_
            refine lv_iload hx hb dX6_copy_77 (lv_at hl29 7 rfl) ?_
            obtain ⟨x55, hh56, hg62, hf61⟩ := bd_some hf54
            refine x_ci (x_runV (As := [.int a2, .int a5]) (rest := []) X hP16 hS17 (230 + 2 * a1.toNatClampNeg) (isR_lt (isR_row hc22)) (cl_R (isR_row hc22)) rfl (tX5_holds l X.2.2.2.2.2.2.1 (isR_row hc22) hg62) mi_X6_79 rfl hl29.1 rfl (Nat.le_of_ble_eq_true rfl) dX6_copy_79 ⟨Nat.le_of_ble_eq_true rfl, Nat.le_of_ble_eq_true rfl⟩ ⟨Nat.zero_le _, Nat.zero_le _⟩) hS17 (fun H57 lc58 hP59 hS60 => ?_)
            clear hf54 hP16 hS17 hg62
            obtain ⟨J97_63, eJ97_63, hf80⟩ := jp_at hf61
            clear hf61
            have hJ97_63 : ∀  (hh64 : Hp) (H65 : Heap) (lc66 : List Loc) (ls67 : Array Slot), J97_63  hh64 = some (r, h1) → va_P g.1 vwCl (WW g hh64 k) H65 → va_S (inA g) s.heap H65 lc66 → lv_has ls67 8 [(0, .ref (g.2.2 203))] → W p l en (rmD 2) s m args below meth c H65 lc66 0 0 (MQ below (QI g h1 k r) args s 0 0 (inA g)) (F0 m 97 ls67 []) := by
              intro  hh64 H65 lc66 ls67 hf71 hP68 hS69 hl70
              clear hf80 hP59 hS60 hl29
              subst eJ97_63
              refine lv_aload_n hx hb dX6_copy_97 rfl (lv_at hl70 0 rfl) ?_
              refine lv_iconst (v := 2) hx hb dX6_copy_98 (by decide) ?_
              obtain ⟨x72, hh73, hg79, hf78⟩ := bd_some hf71
              refine x_ci (x_runV (As := [.int (2 : Int32)]) (rest := []) X hP68 hS69 203 (by decide) cl_F rfl (tX6_found l X.2.2.2.2.2.2.1  hg79) mi_X6_64 rfl hl70.1 rfl (Nat.le_of_ble_eq_true rfl) dX6_copy_99 ⟨Nat.le_of_ble_eq_true rfl, Nat.le_of_ble_eq_true rfl⟩ ⟨Nat.zero_le _, Nat.zero_le _⟩) hS69 (fun H74 lc75 hP76 hS77 => ?_)
              clear hf71 hP68 hS69 hg79
              obtain ⟨rfl, rfl⟩ := ret_inj hf78
              exact x_iret X hr hlocks hP76 hS77 dX6_copy_102
            clear eJ97_63
            refine lv_if_eq (tgt := 97) hx hb dX6_copy_82 (by decide) (fun c81 => ?_) (fun c81 => ?_)
            · have hf82 := if_at_t c81 hf80
              clear hf80
              exact hJ97_63 hh56  _ _ _ hf82 hP59 hS60 (lv_sub hl29 [2] rfl)
            · have hf83 := if_at_f c81 hf80
              clear hf80
              refine lv_aload hx hb dX6_copy_85 (lv_at hl29 0 rfl) ?_
              refine lv_iload hx hb dX6_copy_87 (lv_at hl29 6 rfl) ?_
              refine lv_iload hx hb dX6_copy_89 (lv_at hl29 7 rfl) ?_
              obtain ⟨x84, hh85, hg91, hf90⟩ := bd_some hf83
              refine x_ci (x_runV (As := [.int a4, .int a5]) (rest := []) X hP59 hS60 (230 + 2 * a3.toNatClampNeg) (isR_lt (isR_row hc26)) (cl_R (isR_row hc26)) rfl (tX5_holds l X.2.2.2.2.2.2.1 (isR_row hc26) hg91) mi_X6_79 rfl hl29.1 rfl (Nat.le_of_ble_eq_true rfl) dX6_copy_91 ⟨Nat.le_of_ble_eq_true rfl, Nat.le_of_ble_eq_true rfl⟩ ⟨Nat.zero_le _, Nat.zero_le _⟩) hS60 (fun H86 lc87 hP88 hS89 => ?_)
              clear hf83 hP59 hS60 hg91
              refine lv_if_ne (tgt := 103) hx hb dX6_copy_94 (by decide) (fun c92 => ?_) (fun c92 => ?_)
              · have hf93 := if_at_f c92 hf90
                clear hf90
                refine lv_aload hx hb dX6_copy_103 (lv_at hl29 1 rfl) ?_
                refine gX5 X hP88 (isR_row hc22) 0 (v := .ref (g.2.2 ((230 + 2 * a1.toNatClampNeg) + 1))) rfl (by decide) rfl wd_280 dX6_copy_105 ?_
                refine lv_iload_n hx hb dX6_copy_108 rfl (lv_at hl29 4 rfl) ?_
                refine lv_aload hx hb dX6_copy_109 (lv_at hl29 0 rfl) ?_
                refine gX5 X hP88 (isR_row hc26) 0 (v := .ref (g.2.2 ((230 + 2 * a3.toNatClampNeg) + 1))) rfl (by decide) rfl wd_280 dX6_copy_111 ?_
                refine lv_iload hx hb dX6_copy_114 (lv_at hl29 6 rfl) ?_
                refine lv_iload hx hb dX6_copy_116 (lv_at hl29 7 rfl) ?_
                obtain ⟨hc94, hf95⟩ := chk_some hf93
                refine x_cpy X hP88 hS89 ((230 + 2 * a1.toNatClampNeg) + 1) ((230 + 2 * a3.toNatClampNeg) + 1) (ia_R (isR_row hc22)) (ia_R (isR_row hc26)) hl29.1 ⟨wd_372, wd_374, wd_373, wd_68⟩ hc94 (Nat.le_of_ble_eq_true rfl) (Nat.le_of_ble_eq_true rfl) dX6_copy_118 (fun H96 lc97 hh98 ehh98 hP99 hS100 => ?_)
                have hf101 := lk_at ehh98 hf95
                clear hf95 hP88 hS89
                refine lv_aload_n hx hb dX6_copy_121 rfl (lv_at hl29 2 rfl) ?_
                refine lv_iload hx hb dX6_copy_122 (lv_at hl29 7 rfl) ?_
                obtain ⟨x102, hh103, hg109, hf108⟩ := bd_some hf101
                refine x_ci (x_runV (As := [.int a5]) (rest := []) X hP99 hS100 203 (by decide) cl_F rfl (tX6_well l X.2.2.2.2.2.2.1  hg109) mi_X6_72 rfl hl29.1 rfl (Nat.le_of_ble_eq_true rfl) dX6_copy_124 ⟨Nat.le_of_ble_eq_true rfl, Nat.le_of_ble_eq_true rfl⟩ ⟨Nat.zero_le _, Nat.zero_le _⟩) hS100 (fun H104 lc105 hP106 hS107 => ?_)
                clear hf101 hP99 hS100 hg109
                obtain ⟨rfl, rfl⟩ := ret_inj hf108
                exact x_iret X hr hlocks hP106 hS107 dX6_copy_127
              · have hf110 := if_at_t c92 hf90
                clear hf90
                exact hJ97_63 hh85  _ _ _ hf110 hP88 hS89 (lv_sub hl29 [2] rfl)
          · have hf111 := if_at_f c53 hf52
            clear hf52
            refine lv_aload_n hx hb dX6_copy_68 rfl (lv_at hl29 2 rfl) ?_
            refine lv_iconst (v := 5) hx hb dX6_copy_69 (by decide) ?_
            obtain ⟨x112, hh113, hg119, hf118⟩ := bd_some hf111
            refine x_ci (x_runV (As := [.int (5 : Int32)]) (rest := []) X hP16 hS17 203 (by decide) cl_F rfl (tX6_found l X.2.2.2.2.2.2.1  hg119) mi_X6_64 rfl hl29.1 rfl (Nat.le_of_ble_eq_true rfl) dX6_copy_70 ⟨Nat.le_of_ble_eq_true rfl, Nat.le_of_ble_eq_true rfl⟩ ⟨Nat.zero_le _, Nat.zero_le _⟩) hS17 (fun H114 lc115 hP116 hS117 => ?_)
            clear hf111 hP16 hS17 hg119
            obtain ⟨rfl, rfl⟩ := ret_inj hf118
            exact x_iret X hr hlocks hP116 hS117 dX6_copy_73
        · have hf120 := if_at_f c51 hf50
          clear hf50
          exact hJ49_30 hh13  _ _ _ hf120 hP16 hS17 (lv_sub hl29 [2] rfl)
    · have hf121 := if_at_t c20 hf18
      clear hf18
      refine lv_ldc (v := -1000001) hx hb X.2.2.2.1 (X.2.2.2.2.1 _ wd_335) dX6_copy_14 ?_
      obtain ⟨rfl, rfl⟩ := ret_inj hf121
      exact x_iret X hr hlocks hP16 hS17 dX6_copy_16
set_option maxRecDepth 100000 in
set_option maxHeartbeats 4000000 in
theorem tX6_drop (l : Launch) {g : Gx} (hI : InjG g) {h k h1 : Hp} {a1 : Int32} {r : Int32}   (hf : fX6_drop a1 h = some (r, h1)) : CI l yX6_drop cX6_drop 3 (some .int) 2 g [.ref (g.2.2 203), .int a1] h k h1 k r := by
  refine Met.ofW (cc := cX6_drop) (maxL := 3) (ret := (some .int)) (by decide) rfl ?_
  intro p en s m args below meth c s₁ B hml hv
  obtain ⟨rfl, hSK, hSH, hP⟩ := hv
  have X : Cx p s m _ c cX6_drop 3 RX6 g := ⟨B.exec, B.bytes, hml, findClass_of_methodNamed B.named, fun w hw => atoms_spec (ws := wsy yX6_drop cX6_drop 3 (some .int)) B.pre w (List.mem_cons_of_mem _ hw), hSK, hI, hSH⟩
  have hr := B.returns
  have hlocks := B.notSynchronized
  have hx := X.1
  have hb := X.2.1
  have hS : va_S (inA g) s.heap s.heap [] := va_S.rf
  clear hSK hSH hml B
  have hl := lv_entry ([.ref (g.2.2 203), .int a1]) (n := 3) (Nat.le_of_ble_eq_true rfl)
  rw [lg_entry_eq]
  generalize (lg_sl ([.ref (g.2.2 203), .int a1]) ++ List.replicate (3 - (lg_sl ([.ref (g.2.2 203), .int a1])).length) Slot.unset).toArray = ls at hl ⊢
  have hl : lv_has ls 3 [(0, .ref (g.2.2 203)), (1, .int a1)] := hl
  generalize ([.ref (g.2.2 203), .int a1] : List Value).toArray = args at X ⊢
  show W p l en (rmD 2) s m args below meth c s.heap [] 0 0 (MQ below (QI g h1 k r) args s 0 0 (inA g)) (F0 m 0 ls [])
  unfold fX6_drop at hf
  refine lv_iload_n hx hb dX6_drop_0 rfl (lv_at hl 1 rfl) ?_
  obtain ⟨x1, hh2, hg8, hf7⟩ := bd_some hf
  refine x_ci (x_runS (As := [.int a1]) (rest := []) X hP hS (tX6_isRow l X.2.2.2.2.2.2.1  hg8) mi_X6_55 rfl hl.1 rfl (Nat.le_of_ble_eq_true rfl) dX6_drop_1 ⟨Nat.le_of_ble_eq_true rfl, Nat.le_of_ble_eq_true rfl⟩ ⟨Nat.zero_le _, Nat.zero_le _⟩) hS (fun H3 lc4 hP5 hS6 => ?_)
  clear hf hP hS hg8
  refine lv_if_ne (tgt := 10) hx hb dX6_drop_4 (by decide) (fun c9 => ?_) (fun c9 => ?_)
  · have hf10 := if_at_f c9 hf7
    clear hf7
    refine lv_aload_n hx hb dX6_drop_10 rfl (lv_at hl 0 rfl) ?_
    refine gX6 X hP5 0 (v := .ref (g.2.2 204)) rfl (by decide) rfl wd_297 dX6_drop_11 ?_
    refine lv_iload_n hx hb dX6_drop_14 rfl (lv_at hl 1 rfl) ?_
    obtain ⟨hc11, hf12⟩ := chk_some hf10
    refine x_rows X hP5 hc11 dX6_drop_15 ?_
    refine lv_astore_n (lv' := [(2, .ref (g.2.2 (230 + 2 * a1.toNatClampNeg))), (0, .ref (g.2.2 203)), (1, .int a1)]) hx hb dX6_drop_16 rfl hl (by decide) rfl (fun ls13 hl14 => ?_)
    clear hl
    refine lv_aload_n hx hb dX6_drop_17 rfl (lv_at hl14 0 rfl) ?_
    refine gX5 X hP5 (isR_row hc11) 1 (v := .int (hh2 (230 + 2 * a1.toNatClampNeg) 1)) rfl (by decide) rfl wd_283 dX6_drop_18 ?_
    refine lv_if_eq (tgt := 30) hx hb dX6_drop_21 (by decide) (fun c15 => ?_) (fun c15 => ?_)
    · have hf16 := if_at_t c15 hf12
      clear hf12
      refine lv_aload_n hx hb dX6_drop_30 rfl (lv_at hl14 0 rfl) ?_
      refine lv_iconst (v := 1) hx hb dX6_drop_31 (by decide) ?_
      refine pX5 X hP5 hS6 (isR_row hc11) 1 (by decide) rfl wd_283 rfl rfl rfl rfl seX5_1 dX6_drop_32 (fun H17 lc18 hh19 ehh19 hP20 hS21 => ?_)
      have hf22 := lk_at ehh19 hf16
      clear hf16 hP5 hS6
      refine lv_aload_n hx hb dX6_drop_35 rfl (lv_at hl14 1 rfl) ?_
      refine lv_aload_n hx hb dX6_drop_36 rfl (lv_at hl14 0 rfl) ?_
      refine gX5 X hP20 (isR_row hc11) 3 (v := .int (hh19 (230 + 2 * a1.toNatClampNeg) 3)) rfl (by decide) rfl wd_287 dX6_drop_37 ?_
      obtain ⟨x23, hh24, hg30, hf29⟩ := bd_some hf22
      refine x_ci (x_runV (As := [.int (hh19 (230 + 2 * a1.toNatClampNeg) 3)]) (rest := []) X hP20 hS21 203 (by decide) cl_F rfl (tX6_well l X.2.2.2.2.2.2.1  hg30) mi_X6_72 rfl hl14.1 rfl (Nat.le_of_ble_eq_true rfl) dX6_drop_40 ⟨Nat.le_of_ble_eq_true rfl, Nat.le_of_ble_eq_true rfl⟩ ⟨Nat.zero_le _, Nat.zero_le _⟩) hS21 (fun H25 lc26 hP27 hS28 => ?_)
      clear hf22 hP20 hS21 hg30
      obtain ⟨rfl, rfl⟩ := ret_inj hf29
      exact x_iret X hr hlocks hP27 hS28 dX6_drop_43
    · have hf31 := if_at_f c15 hf12
      clear hf12
      refine lv_aload_n hx hb dX6_drop_24 rfl (lv_at hl14 1 rfl) ?_
      refine lv_iconst (v := 1) hx hb dX6_drop_25 (by decide) ?_
      obtain ⟨x32, hh33, hg39, hf38⟩ := bd_some hf31
      refine x_ci (x_runV (As := [.int (1 : Int32)]) (rest := []) X hP5 hS6 203 (by decide) cl_F rfl (tX6_found l X.2.2.2.2.2.2.1  hg39) mi_X6_64 rfl hl14.1 rfl (Nat.le_of_ble_eq_true rfl) dX6_drop_26 ⟨Nat.le_of_ble_eq_true rfl, Nat.le_of_ble_eq_true rfl⟩ ⟨Nat.zero_le _, Nat.zero_le _⟩) hS6 (fun H34 lc35 hP36 hS37 => ?_)
      clear hf31 hP5 hS6 hg39
      obtain ⟨rfl, rfl⟩ := ret_inj hf38
      exact x_iret X hr hlocks hP36 hS37 dX6_drop_29
  · have hf40 := if_at_t c9 hf7
    clear hf7
    refine lv_ldc (v := -1000001) hx hb X.2.2.2.1 (X.2.2.2.2.1 _ wd_335) dX6_drop_7 ?_
    obtain ⟨rfl, rfl⟩ := ret_inj hf40
    exact x_iret X hr hlocks hP5 hS6 dX6_drop_9
set_option maxRecDepth 100000 in
set_option maxHeartbeats 4000000 in
theorem tX4_append (l : Launch) {g : Gx} (hI : InjG g) {h k h1 : Hp} {a1 : Int32}   (hf : fX4_append a1 h = some ((), h1)) : CV l yX4_append cX4_append 2 none 0 g [.ref (g.2.2 205), .int a1] h k h1 k := by
  refine Met.ofW (cc := cX4_append) (maxL := 2) (ret := none) (by decide) rfl ?_
  intro p en s m args below meth c s₁ B hml hv
  obtain ⟨rfl, hSK, hSH, hP⟩ := hv
  have X : Cx p s m _ c cX4_append 2 RX4 g := ⟨B.exec, B.bytes, hml, findClass_of_methodNamed B.named, fun w hw => atoms_spec (ws := wsy yX4_append cX4_append 2 none) B.pre w (List.mem_cons_of_mem _ hw), hSK, hI, hSH⟩
  have hr := B.returns
  have hlocks := B.notSynchronized
  have hx := X.1
  have hb := X.2.1
  have hS : va_S (inA g) s.heap s.heap [] := va_S.rf
  clear hSK hSH hml B
  have hl := lv_entry ([.ref (g.2.2 205), .int a1]) (n := 2) (Nat.le_of_ble_eq_true rfl)
  rw [lg_entry_eq]
  generalize (lg_sl ([.ref (g.2.2 205), .int a1]) ++ List.replicate (2 - (lg_sl ([.ref (g.2.2 205), .int a1])).length) Slot.unset).toArray = ls at hl ⊢
  have hl : lv_has ls 2 [(0, .ref (g.2.2 205)), (1, .int a1)] := hl
  generalize ([.ref (g.2.2 205), .int a1] : List Value).toArray = args at X ⊢
  show W p l en (rmD 0) s m args below meth c s.heap [] 0 0 (MQ below (QV g h1 k) args s 0 0 (inA g)) (F0 m 0 ls [])
  unfold fX4_append at hf
  refine lv_aload_n hx hb dX4_append_0 rfl (lv_at hl 0 rfl) ?_
  refine gX4 X hP 1 (v := .int (h 205 1)) rfl (by decide) rfl wd_181 dX4_append_1 ?_
  refine lv_bipush (v := 120) hx hb dX4_append_4 (by decide) ?_
  refine lv_icmp_ge (tgt := 29) hx hb dX4_append_6 (by decide) (fun c1 => ?_) (fun c1 => ?_)
  · have hf2 := if_at_t c1 hf
    clear hf
    obtain ⟨-, rfl⟩ := ret_inj hf2
    exact x_vret X hr hlocks hP hS dX4_append_29
  · have hf3 := if_at_f c1 hf
    clear hf
    refine lv_aload_n hx hb dX4_append_9 rfl (lv_at hl 0 rfl) ?_
    refine gX4 X hP 4 (v := .ref (g.2.2 206)) rfl (by decide) rfl wd_187 dX4_append_10 ?_
    refine lv_aload_n hx hb dX4_append_13 rfl (lv_at hl 0 rfl) ?_
    refine gX4 X hP 1 (v := .int (h 205 1)) rfl (by decide) rfl wd_181 dX4_append_14 ?_
    refine lv_iload_n hx hb dX4_append_17 rfl (lv_at hl 1 rfl) ?_
    obtain ⟨hc4, hf5⟩ := chk_some hf3
    refine x_istC X hP hS 206 rfl hc4 dX4_append_18 (fun H6 lc7 hh8 ehh8 hP9 hS10 => ?_)
    have hf11 := lk_at ehh8 hf5
    clear hf5 hP hS
    refine lv_aload_n hx hb dX4_append_19 rfl (lv_at hl 0 rfl) ?_
    refine lv_dup hx hb dX4_append_20 rfl ?_
    refine gX4 X hP9 1 (v := .int (hh8 205 1)) rfl (by decide) rfl wd_181 dX4_append_21 ?_
    refine lv_iconst (v := 1) hx hb dX4_append_24 (by decide) ?_
    refine lv_iadd hx hb dX4_append_25 ?_
    refine pX4 X hP9 hS10 1 (by decide) rfl wd_181 rfl rfl rfl rfl seX4_1 dX4_append_26 (fun H12 lc13 hh14 ehh14 hP15 hS16 => ?_)
    have hf17 := lk_at ehh14 hf11
    clear hf11 hP9 hS10
    obtain ⟨-, rfl⟩ := ret_inj hf17
    exact x_vret X hr hlocks hP15 hS16 dX4_append_29
set_option maxRecDepth 100000 in
set_option maxHeartbeats 4000000 in
theorem tX6_feed (l : Launch) {g : Gx} (hI : InjG g) {h k h1 : Hp} {a1 : Int32} {r : Int32}   (hf : fX6_feed a1 h = some (r, h1)) : CI l yX6_feed cX6_feed 2 (some .int) 1 g [.ref (g.2.2 203), .int a1] h k h1 k r := by
  refine Met.ofW (cc := cX6_feed) (maxL := 2) (ret := (some .int)) (by decide) rfl ?_
  intro p en s m args below meth c s₁ B hml hv
  obtain ⟨rfl, hSK, hSH, hP⟩ := hv
  have X : Cx p s m _ c cX6_feed 2 RX6 g := ⟨B.exec, B.bytes, hml, findClass_of_methodNamed B.named, fun w hw => atoms_spec (ws := wsy yX6_feed cX6_feed 2 (some .int)) B.pre w (List.mem_cons_of_mem _ hw), hSK, hI, hSH⟩
  have hr := B.returns
  have hlocks := B.notSynchronized
  have hx := X.1
  have hb := X.2.1
  have hS : va_S (inA g) s.heap s.heap [] := va_S.rf
  clear hSK hSH hml B
  have hl := lv_entry ([.ref (g.2.2 203), .int a1]) (n := 2) (Nat.le_of_ble_eq_true rfl)
  rw [lg_entry_eq]
  generalize (lg_sl ([.ref (g.2.2 203), .int a1]) ++ List.replicate (2 - (lg_sl ([.ref (g.2.2 203), .int a1])).length) Slot.unset).toArray = ls at hl ⊢
  have hl : lv_has ls 2 [(0, .ref (g.2.2 203)), (1, .int a1)] := hl
  generalize ([.ref (g.2.2 203), .int a1] : List Value).toArray = args at X ⊢
  show W p l en (rmD 1) s m args below meth c s.heap [] 0 0 (MQ below (QI g h1 k r) args s 0 0 (inA g)) (F0 m 0 ls [])
  unfold fX6_feed at hf
  refine lv_iload_n hx hb dX6_feed_0 rfl (lv_at hl 1 rfl) ?_
  refine lv_iconst (v := 0) hx hb dX6_feed_1 (by decide) ?_
  refine lv_sipush (v := 255) hx hb dX6_feed_2 (by decide) ?_
  obtain ⟨x1, hh2, hg8, hf7⟩ := bd_some hf
  refine x_ci (x_runS (As := [.int a1, .int (0 : Int32), .int (255 : Int32)]) (rest := []) X hP hS (tX6_isWithin l X.2.2.2.2.2.2.1  hg8) mi_X6_59 rfl hl.1 rfl (Nat.le_of_ble_eq_true rfl) dX6_feed_5 ⟨Nat.le_of_ble_eq_true rfl, Nat.le_of_ble_eq_true rfl⟩ ⟨Nat.zero_le _, Nat.zero_le _⟩) hS (fun H3 lc4 hP5 hS6 => ?_)
  clear hf hP hS hg8
  refine lv_if_ne (tgt := 14) hx hb dX6_feed_8 (by decide) (fun c9 => ?_) (fun c9 => ?_)
  · have hf10 := if_at_f c9 hf7
    clear hf7
    refine lv_aload_n hx hb dX6_feed_14 rfl (lv_at hl 0 rfl) ?_
    refine gX6 X hP5 1 (v := .ref (g.2.2 205)) rfl (by decide) rfl wd_298 dX6_feed_15 ?_
    refine gX4 X hP5 1 (v := .int (hh2 205 1)) rfl (by decide) rfl wd_182 dX6_feed_18 ?_
    refine lv_bipush (v := 120) hx hb dX6_feed_21 (by decide) ?_
    refine lv_icmp_lt (tgt := 29) hx hb dX6_feed_23 (by decide) (fun c11 => ?_) (fun c11 => ?_)
    · have hf12 := if_at_t c11 hf10
      clear hf10
      refine lv_aload_n hx hb dX6_feed_29 rfl (lv_at hl 0 rfl) ?_
      refine gX6 X hP5 1 (v := .ref (g.2.2 205)) rfl (by decide) rfl wd_298 dX6_feed_30 ?_
      refine lv_iload_n hx hb dX6_feed_33 rfl (lv_at hl 1 rfl) ?_
      obtain ⟨⟨⟩, hh14, hg20, hf19⟩ := bd_some hf12
      refine x_cv (x_runV (As := [.int a1]) (rest := []) X hP5 hS6 205 (by decide) cl_Rd rfl (tX4_append l X.2.2.2.2.2.2.1  hg20) mi_X6_108 rfl hl.1 rfl (Nat.le_of_ble_eq_true rfl) dX6_feed_34 ⟨Nat.le_of_ble_eq_true rfl, Nat.le_of_ble_eq_true rfl⟩ ⟨Nat.zero_le _, Nat.zero_le _⟩) hS6 (fun H15 lc16 hP17 hS18 => ?_)
      clear hf12 hP5 hS6 hg20
      refine lv_aload_n hx hb dX6_feed_37 rfl (lv_at hl 0 rfl) ?_
      refine gX6 X hP17 1 (v := .ref (g.2.2 205)) rfl (by decide) rfl wd_298 dX6_feed_38 ?_
      refine gX4 X hP17 1 (v := .int (hh14 205 1)) rfl (by decide) rfl wd_182 dX6_feed_41 ?_
      obtain ⟨rfl, rfl⟩ := ret_inj hf19
      exact x_iret X hr hlocks hP17 hS18 dX6_feed_44
    · have hf21 := if_at_f c11 hf10
      clear hf10
      refine lv_ldc (v := -1000003) hx hb X.2.2.2.1 (X.2.2.2.2.1 _ wd_383) dX6_feed_26 ?_
      obtain ⟨rfl, rfl⟩ := ret_inj hf21
      exact x_iret X hr hlocks hP5 hS6 dX6_feed_28
  · have hf22 := if_at_t c9 hf7
    clear hf7
    refine lv_ldc (v := -1000001) hx hb X.2.2.2.1 (X.2.2.2.2.1 _ wd_335) dX6_feed_11 ?_
    obtain ⟨rfl, rfl⟩ := ret_inj hf22
    exact x_iret X hr hlocks hP5 hS6 dX6_feed_13
set_option maxRecDepth 100000 in
set_option maxHeartbeats 4000000 in
theorem tX2_clear (l : Launch) {g : Gx} (hI : InjG g) {h k h1 : Hp} {e : Nat}  (he : isE e) (hf : fX2_clear e h = some ((), h1)) : CV l yX2_clear cX2_clear 1 none 1 g [.ref (g.2.2 e)] h k h1 k := by
  refine Met.ofW (cc := cX2_clear) (maxL := 1) (ret := none) (by decide) rfl ?_
  intro p en s m args below meth c s₁ B hml hv
  obtain ⟨rfl, hSK, hSH, hP⟩ := hv
  have X : Cx p s m _ c cX2_clear 1 RX2 g := ⟨B.exec, B.bytes, hml, findClass_of_methodNamed B.named, fun w hw => atoms_spec (ws := wsy yX2_clear cX2_clear 1 none) B.pre w (List.mem_cons_of_mem _ hw), hSK, hI, hSH⟩
  have hr := B.returns
  have hlocks := B.notSynchronized
  have hx := X.1
  have hb := X.2.1
  have hS : va_S (inA g) s.heap s.heap [] := va_S.rf
  clear hSK hSH hml B
  have hl := lv_entry ([.ref (g.2.2 e)]) (n := 1) (Nat.le_of_ble_eq_true rfl)
  rw [lg_entry_eq]
  generalize (lg_sl ([.ref (g.2.2 e)]) ++ List.replicate (1 - (lg_sl ([.ref (g.2.2 e)])).length) Slot.unset).toArray = ls at hl ⊢
  have hl : lv_has ls 1 [(0, .ref (g.2.2 e))] := hl
  generalize ([.ref (g.2.2 e)] : List Value).toArray = args at X ⊢
  show W p l en (rmD 1) s m args below meth c s.heap [] 0 0 (MQ below (QV g h1 k) args s 0 0 (inA g)) (F0 m 0 ls [])
  unfold fX2_clear at hf
  refine lv_aload_n hx hb dX2_clear_0 rfl (lv_at hl 0 rfl) ?_
  refine gX2 X hP he 5 (v := .ref (g.2.2 (e + 6))) rfl (by decide) rfl wd_108 dX2_clear_1 ?_
  refine lv_iconst (v := 0) hx hb dX2_clear_4 (by decide) ?_
  obtain ⟨⟨⟩, hh2, hg8, hf7⟩ := bd_some hf
  refine x_cv (x_runS (As := [.ref (g.2.2 (e + 6)), .int (0 : Int32)]) (rest := []) X hP hS (tJ7_fill l X.2.2.2.2.2.2.1 (ia_E6 he) hg8) mi_X2_68 rfl hl.1 rfl (Nat.le_of_ble_eq_true rfl) dX2_clear_5 ⟨Nat.le_of_ble_eq_true rfl, Nat.le_of_ble_eq_true rfl⟩ ⟨Nat.zero_le _, Nat.zero_le _⟩) hS (fun H3 lc4 hP5 hS6 => ?_)
  clear hf hP hS hg8
  refine lv_aload_n hx hb dX2_clear_8 rfl (lv_at hl 0 rfl) ?_
  refine lv_iconst (v := 0) hx hb dX2_clear_9 (by decide) ?_
  refine pX2 X hP5 hS6 (he) 6 (by decide) rfl wd_111 rfl rfl rfl rfl seX2_6 dX2_clear_10 (fun H9 lc10 hh11 ehh11 hP12 hS13 => ?_)
  have hf14 := lk_at ehh11 hf7
  clear hf7 hP5 hS6
  refine lv_aload_n hx hb dX2_clear_13 rfl (lv_at hl 0 rfl) ?_
  refine lv_iconst (v := 0) hx hb dX2_clear_14 (by decide) ?_
  refine pX2 X hP12 hS13 (he) 7 (by decide) rfl wd_114 rfl rfl rfl rfl seX2_7 dX2_clear_15 (fun H15 lc16 hh17 ehh17 hP18 hS19 => ?_)
  have hf20 := lk_at ehh17 hf14
  clear hf14 hP12 hS13
  refine lv_aload_n hx hb dX2_clear_18 rfl (lv_at hl 0 rfl) ?_
  refine lv_iconst (v := 0) hx hb dX2_clear_19 (by decide) ?_
  refine pX2 X hP18 hS19 (he) 11 (by decide) rfl wd_129 rfl rfl rfl rfl seX2_11 dX2_clear_20 (fun H21 lc22 hh23 ehh23 hP24 hS25 => ?_)
  have hf26 := lk_at ehh23 hf20
  clear hf20 hP18 hS19
  refine lv_aload_n hx hb dX2_clear_23 rfl (lv_at hl 0 rfl) ?_
  refine lv_iconst (v := 0) hx hb dX2_clear_24 (by decide) ?_
  refine pX2 X hP24 hS25 (he) 12 (by decide) rfl wd_133 rfl rfl rfl rfl seX2_12 dX2_clear_25 (fun H27 lc28 hh29 ehh29 hP30 hS31 => ?_)
  have hf32 := lk_at ehh29 hf26
  clear hf26 hP24 hS25
  refine lv_aload_n hx hb dX2_clear_28 rfl (lv_at hl 0 rfl) ?_
  refine lv_iconst (v := 0) hx hb dX2_clear_29 (by decide) ?_
  refine pX2 X hP30 hS31 (he) 13 (by decide) rfl wd_137 rfl rfl rfl rfl seX2_13 dX2_clear_30 (fun H33 lc34 hh35 ehh35 hP36 hS37 => ?_)
  have hf38 := lk_at ehh35 hf32
  clear hf32 hP30 hS31
  refine lv_aload_n hx hb dX2_clear_33 rfl (lv_at hl 0 rfl) ?_
  refine lv_iconst (v := 0) hx hb dX2_clear_34 (by decide) ?_
  refine pX2 X hP36 hS37 (he) 14 (by decide) rfl wd_140 rfl rfl rfl rfl seX2_14 dX2_clear_35 (fun H39 lc40 hh41 ehh41 hP42 hS43 => ?_)
  have hf44 := lk_at ehh41 hf38
  clear hf38 hP36 hS37
  refine lv_aload_n hx hb dX2_clear_38 rfl (lv_at hl 0 rfl) ?_
  refine lv_iconst (v := 0) hx hb dX2_clear_39 (by decide) ?_
  refine pX2 X hP42 hS43 (he) 15 (by decide) rfl wd_142 rfl rfl rfl rfl seX2_15 dX2_clear_40 (fun H45 lc46 hh47 ehh47 hP48 hS49 => ?_)
  have hf50 := lk_at ehh47 hf44
  clear hf44 hP42 hS43
  obtain ⟨-, rfl⟩ := ret_inj hf50
  exact x_vret X hr hlocks hP48 hS49 dX2_clear_43
set_option maxRecDepth 100000 in
set_option maxHeartbeats 4000000 in
theorem tX4_isFigure (l : Launch) {g : Gx} (hI : InjG g) {h k h1 : Hp} {a1 : Int32} {r : Int32}   (hf : fX4_isFigure a1 h = some (r, h1)) : CI l yX4_isFigure cX4_isFigure 1 (some .boolean) 1 g [.int a1] h k h1 k r := by
  refine Met.ofW (cc := cX4_isFigure) (maxL := 1) (ret := (some .boolean)) (by decide) rfl ?_
  intro p en s m args below meth c s₁ B hml hv
  obtain ⟨rfl, hSK, hSH, hP⟩ := hv
  have X : Cx p s m _ c cX4_isFigure 1 RX4 g := ⟨B.exec, B.bytes, hml, findClass_of_methodNamed B.named, fun w hw => atoms_spec (ws := wsy yX4_isFigure cX4_isFigure 1 (some .boolean)) B.pre w (List.mem_cons_of_mem _ hw), hSK, hI, hSH⟩
  have hr := B.returns
  have hlocks := B.notSynchronized
  have hx := X.1
  have hb := X.2.1
  have hS : va_S (inA g) s.heap s.heap [] := va_S.rf
  clear hSK hSH hml B
  have hl := lv_entry ([.int a1]) (n := 1) (Nat.le_of_ble_eq_true rfl)
  rw [lg_entry_eq]
  generalize (lg_sl ([.int a1]) ++ List.replicate (1 - (lg_sl ([.int a1])).length) Slot.unset).toArray = ls at hl ⊢
  have hl : lv_has ls 1 [(0, .int a1)] := hl
  generalize ([.int a1] : List Value).toArray = args at X ⊢
  show W p l en (rmD 1) s m args below meth c s.heap [] 0 0 (MQ below (QI g h1 k r) args s 0 0 (inA g)) (F0 m 0 ls [])
  unfold fX4_isFigure at hf
  refine lv_iload_n hx hb dX4_isFigure_0 rfl (lv_at hl 0 rfl) ?_
  refine lv_bipush (v := 48) hx hb dX4_isFigure_1 (by decide) ?_
  refine lv_bipush (v := 57) hx hb dX4_isFigure_3 (by decide) ?_
  obtain ⟨x1, hh2, hg8, hf7⟩ := bd_some hf
  refine x_ci (x_runN (As := [.int a1, .int (48 : Int32), .int (57 : Int32)]) (rest := []) X hP hS (tX6_isWithin l X.2.2.2.2.2.2.1  hg8) mi_X4_97 X.2.2.2.2.2.1.2.1 rfl hl.1 rfl (Nat.le_of_ble_eq_true rfl) dX4_isFigure_5 ⟨Nat.le_of_ble_eq_true rfl, Nat.le_of_ble_eq_true rfl⟩ ⟨Nat.zero_le _, Nat.zero_le _⟩) hS (fun H3 lc4 hP5 hS6 => ?_)
  clear hf hP hS hg8
  obtain ⟨hc9, hf10⟩ := chk_some hf7
  obtain ⟨rfl, rfl⟩ := ret_inj hf10
  exact x_zret X hr hlocks hc9 hP5 hS6 dX4_isFigure_8
set_option maxRecDepth 100000 in
set_option maxHeartbeats 4000000 in
theorem wX4_readFigures_L10 {p : Program} {l : Launch} {en : Env} {s : State} {m : MethodId} {args : Array Value} {below : List Frame} {meth : Method} {c : Code} {g : Gx} (X : Cx p s m args c cX4_readFigures 2 RX4 g) (hr : meth.sig.returnType = none) (hlocks : meth.locks = false) {k h1 : Hp}   {K74 : Hp → Option (Unit × Hp)}
    (hK74 : ∀  (h : Hp) (H : Heap) (locs : List Loc) (ls : Array Slot), K74  h = some ((), h1) → va_P g.1 vwCl (WW g h k) H → va_S (inA g) s.heap H locs → lv_has ls 2 [(0, .ref (g.2.2 205))] → W p l en (rmD 2) s m args below meth c H locs 0 0 (MQ below (QV g h1 k) args s 0 0 (inA g)) (F0 m 74 ls [])) :
    ∀ (n : Nat) (v1 : Int32) (h : Hp) (H : Heap) (locs : List Loc) (ls : Array Slot), fX4_readFigures_L10 K74 n v1 h = some ((), h1) → va_P g.1 vwCl (WW g h k) H → va_S (inA g) s.heap H locs → lv_has ls 2 [(0, .ref (g.2.2 205)), (1, .int v1)] → W p l en (rmD 2) s m args below meth c H locs 0 0 (MQ below (QV g h1 k) args s 0 0 (inA g)) (F0 m 10 ls []) := by
  have hx := X.1
  have hb := X.2.1
  intro n
  induction n with
  | zero => intro v1 h H locs ls  hf; simp only [fX4_readFigures_L10, reduceCtorEq] at hf
  | succ n ih =>
    intro v1 h H locs ls  hf hP hS hl
    rw [fX4_readFigures_L10] at hf
    refine lv_iload_n hx hb dX4_readFigures_10 rfl (lv_at hl 1 rfl) ?_
    refine lv_aload_n hx hb dX4_readFigures_11 rfl (lv_at hl 0 rfl) ?_
    refine gX4 X hP 1 (v := .int (h 205 1)) rfl (by decide) rfl wd_181 dX4_readFigures_12 ?_
    refine lv_icmp_ge (tgt := 74) hx hb dX4_readFigures_15 (by decide) (fun c11 => ?_) (fun c11 => ?_)
    · have hf12 := if_at_t c11 hf
      clear hf
      exact hK74 h  _ _ _ hf12 hP hS (lv_sub hl [0] rfl)
    · have hf13 := if_at_f c11 hf
      clear hf
      refine lv_iload_n hx hb dX4_readFigures_18 rfl (lv_at hl 1 rfl) ?_
      refine lv_aload_n hx hb dX4_readFigures_19 rfl (lv_at hl 0 rfl) ?_
      refine gX4 X hP 3 (v := .int (h 205 3)) rfl (by decide) rfl wd_186 dX4_readFigures_20 ?_
      refine lv_iconst (v := 3) hx hb dX4_readFigures_23 (by decide) ?_
      refine lv_iadd hx hb dX4_readFigures_24 ?_
      refine lv_icmp_ge (tgt := 74) hx hb dX4_readFigures_25 (by decide) (fun c14 => ?_) (fun c14 => ?_)
      · have hf15 := if_at_t c14 hf13
        clear hf13
        exact hK74 h  _ _ _ hf15 hP hS (lv_sub hl [0] rfl)
      · have hf16 := if_at_f c14 hf13
        clear hf13
        refine lv_aload_n hx hb dX4_readFigures_28 rfl (lv_at hl 0 rfl) ?_
        refine gX4 X hP 4 (v := .ref (g.2.2 206)) rfl (by decide) rfl wd_187 dX4_readFigures_29 ?_
        refine lv_iload_n hx hb dX4_readFigures_32 rfl (lv_at hl 1 rfl) ?_
        obtain ⟨hc17, hf18⟩ := chk_some hf16
        refine x_ildC X hP 206 rfl hc17 dX4_readFigures_33 ?_
        obtain ⟨x19, hh20, hg26, hf25⟩ := bd_some hf18
        refine x_ci (x_runS (As := [.int (h 206 v1.toNatClampNeg)]) (rest := []) X hP hS (tX4_isFigure l X.2.2.2.2.2.2.1  hg26) mi_X4_104 rfl hl.1 rfl (Nat.le_of_ble_eq_true rfl) dX4_readFigures_34 ⟨Nat.le_of_ble_eq_true rfl, Nat.le_of_ble_eq_true rfl⟩ ⟨Nat.zero_le _, Nat.zero_le _⟩) hS (fun H21 lc22 hP23 hS24 => ?_)
        clear hf18 hP hS hg26
        refine lv_if_eq (tgt := 74) hx hb dX4_readFigures_37 (by decide) (fun c27 => ?_) (fun c27 => ?_)
        · have hf28 := if_at_t c27 hf25
          clear hf25
          exact hK74 hh20  _ _ _ hf28 hP23 hS24 (lv_sub hl [0] rfl)
        · have hf29 := if_at_f c27 hf25
          clear hf25
          refine lv_aload_n hx hb dX4_readFigures_40 rfl (lv_at hl 0 rfl) ?_
          refine lv_bipush (v := 10) hx hb dX4_readFigures_41 (by decide) ?_
          refine lv_aload_n hx hb dX4_readFigures_43 rfl (lv_at hl 0 rfl) ?_
          refine gX4 X hP23 6 (v := .int (hh20 205 6)) rfl (by decide) rfl wd_189 dX4_readFigures_44 ?_
          refine lv_imul hx hb dX4_readFigures_47 ?_
          refine lv_aload_n hx hb dX4_readFigures_48 rfl (lv_at hl 0 rfl) ?_
          refine gX4 X hP23 4 (v := .ref (g.2.2 206)) rfl (by decide) rfl wd_187 dX4_readFigures_49 ?_
          refine lv_iload_n hx hb dX4_readFigures_52 rfl (lv_at hl 1 rfl) ?_
          obtain ⟨hc30, hf31⟩ := chk_some hf29
          refine x_ildC X hP23 206 rfl hc30 dX4_readFigures_53 ?_
          refine lv_iadd hx hb dX4_readFigures_54 ?_
          refine lv_bipush (v := 48) hx hb dX4_readFigures_55 (by decide) ?_
          refine lv_isub hx hb dX4_readFigures_57 ?_
          refine pX4 X hP23 hS24 6 (by decide) rfl wd_189 rfl rfl rfl rfl seX4_6 dX4_readFigures_58 (fun H32 lc33 hh34 ehh34 hP35 hS36 => ?_)
          have hf37 := lk_at ehh34 hf31
          clear hf31 hP23 hS24
          refine lv_aload_n hx hb dX4_readFigures_61 rfl (lv_at hl 0 rfl) ?_
          refine lv_iload_n hx hb dX4_readFigures_62 rfl (lv_at hl 1 rfl) ?_
          refine lv_iconst (v := 1) hx hb dX4_readFigures_63 (by decide) ?_
          refine lv_iadd hx hb dX4_readFigures_64 ?_
          refine pX4 X hP35 hS36 7 (by decide) rfl wd_190 rfl rfl rfl rfl seX4_7 dX4_readFigures_65 (fun H38 lc39 hh40 ehh40 hP41 hS42 => ?_)
          have hf43 := lk_at ehh40 hf37
          clear hf37 hP35 hS36
          obtain ⟨x44, ex44⟩ : ∃ q : Int32, q = v1 + (1 : Int32) := ⟨_, rfl⟩
          have hf45 := lk_at ex44 hf43
          clear hf43
          refine lv_iinc (v := x44) (lv' := [(1, .int x44), (0, .ref (g.2.2 205))]) hx hb dX4_readFigures_68 hl (k := 1) rfl (by rw [ex44]; rfl) (by decide) rfl (fun ls46 hl47 => ?_)
          clear hl
          refine lv_goto (tgt := 10) hx hb dX4_readFigures_71 (by decide) ?_
          exact ih x44 hh40  _ _ _ hf45 hP41 hS42 (lv_sub hl47 [1, 0] rfl)
set_option maxRecDepth 100000 in
set_option maxHeartbeats 4000000 in
theorem tX4_readFigures (l : Launch) {g : Gx} (hI : InjG g) {h k h1 : Hp}    (hf : fX4_readFigures h = some ((), h1)) : CV l yX4_readFigures cX4_readFigures 2 none 2 g [.ref (g.2.2 205)] h k h1 k := by
  refine Met.ofW (cc := cX4_readFigures) (maxL := 2) (ret := none) (by decide) rfl ?_
  intro p en s m args below meth c s₁ B hml hv
  obtain ⟨rfl, hSK, hSH, hP⟩ := hv
  have X : Cx p s m _ c cX4_readFigures 2 RX4 g := ⟨B.exec, B.bytes, hml, findClass_of_methodNamed B.named, fun w hw => atoms_spec (ws := wsy yX4_readFigures cX4_readFigures 2 none) B.pre w (List.mem_cons_of_mem _ hw), hSK, hI, hSH⟩
  have hr := B.returns
  have hlocks := B.notSynchronized
  have hx := X.1
  have hb := X.2.1
  have hS : va_S (inA g) s.heap s.heap [] := va_S.rf
  clear hSK hSH hml B
  have hl := lv_entry ([.ref (g.2.2 205)]) (n := 2) (Nat.le_of_ble_eq_true rfl)
  rw [lg_entry_eq]
  generalize (lg_sl ([.ref (g.2.2 205)]) ++ List.replicate (2 - (lg_sl ([.ref (g.2.2 205)])).length) Slot.unset).toArray = ls at hl ⊢
  have hl : lv_has ls 2 [(0, .ref (g.2.2 205))] := hl
  generalize ([.ref (g.2.2 205)] : List Value).toArray = args at X ⊢
  show W p l en (rmD 2) s m args below meth c s.heap [] 0 0 (MQ below (QV g h1 k) args s 0 0 (inA g)) (F0 m 0 ls [])
  unfold fX4_readFigures at hf
  refine lv_aload_n hx hb dX4_readFigures_0 rfl (lv_at hl 0 rfl) ?_
  refine lv_iconst (v := 0) hx hb dX4_readFigures_1 (by decide) ?_
  refine pX4 X hP hS 6 (by decide) rfl wd_189 rfl rfl rfl rfl seX4_6 dX4_readFigures_2 (fun H1 lc2 hh3 ehh3 hP4 hS5 => ?_)
  have hf6 := lk_at ehh3 hf
  clear hf hP hS
  refine lv_aload_n hx hb dX4_readFigures_5 rfl (lv_at hl 0 rfl) ?_
  refine gX4 X hP4 3 (v := .int (hh3 205 3)) rfl (by decide) rfl wd_186 dX4_readFigures_6 ?_
  refine lv_topi (fun x7 ex7 => ?_)
  have hf8 := lk_at ex7 hf6
  clear hf6
  refine lv_istore_n (lv' := [(1, .int x7), (0, .ref (g.2.2 205))]) hx hb dX4_readFigures_9 rfl hl (by decide) rfl (fun ls9 hl10 => ?_)
  clear hl
  refine wX4_readFigures_L10 X hr hlocks  ?_ 4096 x7 hh3 _ _ _  hf8 hP4 hS5 (lv_sub hl10 [1, 0] rfl)
  · intro  hh48 H49 lc50 ls51  hf55 hP52 hS53 hl54
    refine lv_aload_n hx hb dX4_readFigures_74 rfl (lv_at hl54 0 rfl) ?_
    refine lv_aload_n hx hb dX4_readFigures_75 rfl (lv_at hl54 0 rfl) ?_
    refine gX4 X hP52 7 (v := .int (hh48 205 7)) rfl (by decide) rfl wd_190 dX4_readFigures_76 ?_
    refine lv_aload_n hx hb dX4_readFigures_79 rfl (lv_at hl54 0 rfl) ?_
    refine gX4 X hP52 3 (v := .int (hh48 205 3)) rfl (by decide) rfl wd_186 dX4_readFigures_80 ?_
    refine lv_isub hx hb dX4_readFigures_83 ?_
    refine lv_iconst (v := 2) hx hb dX4_readFigures_84 (by decide) ?_
    refine lv_icmp_gt (tgt := 94) hx hb dX4_readFigures_85 (by decide) (fun c56 => ?_) (fun c56 => ?_)
    · have hf57 := if_at_t c56 hf55
      clear hf55
      refine lv_sipush (v := 257) hx hb dX4_readFigures_94 (by decide) ?_
      refine pX4 X hP52 hS53 5 (by decide) rfl wd_188 rfl rfl rfl rfl seX4_5 dX4_readFigures_97 (fun H58 lc59 hh60 ehh60 hP61 hS62 => ?_)
      have hf63 := lk_at ehh60 hf57
      clear hf57 hP52 hS53
      obtain ⟨-, rfl⟩ := ret_inj hf63
      exact x_vret X hr hlocks hP61 hS62 dX4_readFigures_100
    · have hf64 := if_at_f c56 hf55
      clear hf55
      refine lv_sipush (v := 256) hx hb dX4_readFigures_88 (by decide) ?_
      refine lv_goto (tgt := 97) hx hb dX4_readFigures_91 (by decide) ?_
      refine pX4 X hP52 hS53 5 (by decide) rfl wd_188 rfl rfl rfl rfl seX4_5 dX4_readFigures_97 (fun H65 lc66 hh67 ehh67 hP68 hS69 => ?_)
      have hf70 := lk_at ehh67 hf64
      clear hf64 hP52 hS53
      obtain ⟨-, rfl⟩ := ret_inj hf70
      exact x_vret X hr hlocks hP68 hS69 dX4_readFigures_100
set_option maxRecDepth 100000 in
set_option maxHeartbeats 4000000 in
theorem tX4_nextToken (l : Launch) {g : Gx} (hI : InjG g) {h k h1 : Hp}    (hf : fX4_nextToken h = some ((), h1)) : CV l yX4_nextToken cX4_nextToken 2 none 3 g [.ref (g.2.2 205)] h k h1 k := by
  refine Met.ofW (cc := cX4_nextToken) (maxL := 2) (ret := none) (by decide) rfl ?_
  intro p en s m args below meth c s₁ B hml hv
  obtain ⟨rfl, hSK, hSH, hP⟩ := hv
  have X : Cx p s m _ c cX4_nextToken 2 RX4 g := ⟨B.exec, B.bytes, hml, findClass_of_methodNamed B.named, fun w hw => atoms_spec (ws := wsy yX4_nextToken cX4_nextToken 2 none) B.pre w (List.mem_cons_of_mem _ hw), hSK, hI, hSH⟩
  have hr := B.returns
  have hlocks := B.notSynchronized
  have hx := X.1
  have hb := X.2.1
  have hS : va_S (inA g) s.heap s.heap [] := va_S.rf
  clear hSK hSH hml B
  have hl := lv_entry ([.ref (g.2.2 205)]) (n := 2) (Nat.le_of_ble_eq_true rfl)
  rw [lg_entry_eq]
  generalize (lg_sl ([.ref (g.2.2 205)]) ++ List.replicate (2 - (lg_sl ([.ref (g.2.2 205)])).length) Slot.unset).toArray = ls at hl ⊢
  have hl : lv_has ls 2 [(0, .ref (g.2.2 205))] := hl
  generalize ([.ref (g.2.2 205)] : List Value).toArray = args at X ⊢
  show W p l en (rmD 3) s m args below meth c s.heap [] 0 0 (MQ below (QV g h1 k) args s 0 0 (inA g)) (F0 m 0 ls [])
  unfold fX4_nextToken at hf
  refine lv_aload_n hx hb dX4_nextToken_0 rfl (lv_at hl 0 rfl) ?_
  refine gX4 X hP 2 (v := .int (h 205 2)) rfl (by decide) rfl wd_183 dX4_nextToken_1 ?_
  refine lv_if_eq (tgt := 8) hx hb dX4_nextToken_4 (by decide) (fun c1 => ?_) (fun c1 => ?_)
  · have hf2 := if_at_t c1 hf
    clear hf
    refine lv_aload_n hx hb dX4_nextToken_8 rfl (lv_at hl 0 rfl) ?_
    refine lv_aload_n hx hb dX4_nextToken_9 rfl (lv_at hl 0 rfl) ?_
    refine gX4 X hP 7 (v := .int (h 205 7)) rfl (by decide) rfl wd_190 dX4_nextToken_10 ?_
    refine pX4 X hP hS 3 (by decide) rfl wd_186 rfl rfl rfl rfl seX4_3 dX4_nextToken_13 (fun H3 lc4 hh5 ehh5 hP6 hS7 => ?_)
    have hf8 := lk_at ehh5 hf2
    clear hf2 hP hS
    refine lv_aload_n hx hb dX4_nextToken_16 rfl (lv_at hl 0 rfl) ?_
    refine gX4 X hP6 3 (v := .int (hh5 205 3)) rfl (by decide) rfl wd_186 dX4_nextToken_17 ?_
    refine lv_aload_n hx hb dX4_nextToken_20 rfl (lv_at hl 0 rfl) ?_
    refine gX4 X hP6 1 (v := .int (hh5 205 1)) rfl (by decide) rfl wd_181 dX4_nextToken_21 ?_
    refine lv_icmp_lt (tgt := 35) hx hb dX4_nextToken_24 (by decide) (fun c9 => ?_) (fun c9 => ?_)
    · have hf10 := if_at_t c9 hf8
      clear hf8
      refine lv_aload_n hx hb dX4_nextToken_35 rfl (lv_at hl 0 rfl) ?_
      refine gX4 X hP6 4 (v := .ref (g.2.2 206)) rfl (by decide) rfl wd_187 dX4_nextToken_36 ?_
      refine lv_aload_n hx hb dX4_nextToken_39 rfl (lv_at hl 0 rfl) ?_
      refine gX4 X hP6 3 (v := .int (hh5 205 3)) rfl (by decide) rfl wd_186 dX4_nextToken_40 ?_
      obtain ⟨hc11, hf12⟩ := chk_some hf10
      refine x_ildC X hP6 206 rfl hc11 dX4_nextToken_43 ?_
      refine lv_topi (fun x13 ex13 => ?_)
      have hf14 := lk_at ex13 hf12
      clear hf12
      refine lv_istore_n (lv' := [(1, .int x13), (0, .ref (g.2.2 205))]) hx hb dX4_nextToken_44 rfl hl (by decide) rfl (fun ls15 hl16 => ?_)
      clear hl
      refine lv_iload_n hx hb dX4_nextToken_45 rfl (lv_at hl16 0 rfl) ?_
      obtain ⟨x17, hh18, hg24, hf23⟩ := bd_some hf14
      refine x_ci (x_runS (As := [.int x13]) (rest := []) X hP6 hS7 (tX4_isFigure l X.2.2.2.2.2.2.1  hg24) mi_X4_104 rfl hl16.1 rfl (Nat.le_of_ble_eq_true rfl) dX4_nextToken_46 ⟨Nat.le_of_ble_eq_true rfl, Nat.le_of_ble_eq_true rfl⟩ ⟨Nat.zero_le _, Nat.zero_le _⟩) hS7 (fun H19 lc20 hP21 hS22 => ?_)
      clear hf14 hP6 hS7 hg24
      refine lv_if_eq (tgt := 57) hx hb dX4_nextToken_49 (by decide) (fun c25 => ?_) (fun c25 => ?_)
      · have hf26 := if_at_t c25 hf23
        clear hf23
        refine lv_aload_n hx hb dX4_nextToken_57 rfl (lv_at hl16 1 rfl) ?_
        refine lv_aload_n hx hb dX4_nextToken_58 rfl (lv_at hl16 1 rfl) ?_
        refine gX4 X hP21 3 (v := .int (hh18 205 3)) rfl (by decide) rfl wd_186 dX4_nextToken_59 ?_
        refine lv_iconst (v := 1) hx hb dX4_nextToken_62 (by decide) ?_
        refine lv_iadd hx hb dX4_nextToken_63 ?_
        refine pX4 X hP21 hS22 7 (by decide) rfl wd_190 rfl rfl rfl rfl seX4_7 dX4_nextToken_64 (fun H27 lc28 hh29 ehh29 hP30 hS31 => ?_)
        have hf32 := lk_at ehh29 hf26
        clear hf26 hP21 hS22
        refine lv_aload_n hx hb dX4_nextToken_67 rfl (lv_at hl16 1 rfl) ?_
        refine lv_iload_n hx hb dX4_nextToken_68 rfl (lv_at hl16 0 rfl) ?_
        refine lv_bipush (v := 97) hx hb dX4_nextToken_69 (by decide) ?_
        refine lv_bipush (v := 122) hx hb dX4_nextToken_71 (by decide) ?_
        obtain ⟨x33, hh34, hg40, hf39⟩ := bd_some hf32
        refine x_ci (x_runN (As := [.int x13, .int (97 : Int32), .int (122 : Int32)]) (rest := [.ref (g.2.2 205)]) X hP30 hS31 (tX6_isWithin l X.2.2.2.2.2.2.1  hg40) mi_X4_97 X.2.2.2.2.2.1.2.1 rfl hl16.1 rfl (Nat.le_of_ble_eq_true rfl) dX4_nextToken_73 ⟨Nat.le_of_ble_eq_true rfl, Nat.le_of_ble_eq_true rfl⟩ ⟨Nat.zero_le _, Nat.zero_le _⟩) hS31 (fun H35 lc36 hP37 hS38 => ?_)
        clear hf32 hP30 hS31 hg40
        refine lv_if_ne (tgt := 91) hx hb dX4_nextToken_76 (by decide) (fun c41 => ?_) (fun c41 => ?_)
        · have hf42 := if_at_f c41 hf39
          clear hf39
          refine lv_iload_n hx hb dX4_nextToken_91 rfl (lv_at hl16 0 rfl) ?_
          refine lv_goto (tgt := 98) hx hb dX4_nextToken_92 (by decide) ?_
          refine pX4 X hP37 hS38 5 (by decide) rfl wd_188 rfl rfl rfl rfl seX4_5 dX4_nextToken_98 (fun H43 lc44 hh45 ehh45 hP46 hS47 => ?_)
          have hf48 := lk_at ehh45 hf42
          clear hf42 hP37 hS38
          obtain ⟨-, rfl⟩ := ret_inj hf48
          exact x_vret X hr hlocks hP46 hS47 dX4_nextToken_101
        · have hf49 := if_at_t c41 hf39
          clear hf39
          refine lv_iload_n hx hb dX4_nextToken_79 rfl (lv_at hl16 0 rfl) ?_
          refine lv_bipush (v := 44) hx hb dX4_nextToken_80 (by decide) ?_
          refine lv_icmp_eq (tgt := 91) hx hb dX4_nextToken_82 (by decide) (fun c50 => ?_) (fun c50 => ?_)
          · have hf51 := if_at_t c50 hf49
            clear hf49
            refine lv_iload_n hx hb dX4_nextToken_91 rfl (lv_at hl16 0 rfl) ?_
            refine lv_goto (tgt := 98) hx hb dX4_nextToken_92 (by decide) ?_
            refine pX4 X hP37 hS38 5 (by decide) rfl wd_188 rfl rfl rfl rfl seX4_5 dX4_nextToken_98 (fun H52 lc53 hh54 ehh54 hP55 hS56 => ?_)
            have hf57 := lk_at ehh54 hf51
            clear hf51 hP37 hS38
            obtain ⟨-, rfl⟩ := ret_inj hf57
            exact x_vret X hr hlocks hP55 hS56 dX4_nextToken_101
          · have hf58 := if_at_f c50 hf49
            clear hf49
            refine lv_iload_n hx hb dX4_nextToken_85 rfl (lv_at hl16 0 rfl) ?_
            refine lv_bipush (v := 59) hx hb dX4_nextToken_86 (by decide) ?_
            refine lv_icmp_ne (tgt := 95) hx hb dX4_nextToken_88 (by decide) (fun c59 => ?_) (fun c59 => ?_)
            · have hf60 := if_at_f c59 hf58
              clear hf58
              refine lv_sipush (v := 257) hx hb dX4_nextToken_95 (by decide) ?_
              refine pX4 X hP37 hS38 5 (by decide) rfl wd_188 rfl rfl rfl rfl seX4_5 dX4_nextToken_98 (fun H61 lc62 hh63 ehh63 hP64 hS65 => ?_)
              have hf66 := lk_at ehh63 hf60
              clear hf60 hP37 hS38
              obtain ⟨-, rfl⟩ := ret_inj hf66
              exact x_vret X hr hlocks hP64 hS65 dX4_nextToken_101
            · have hf67 := if_at_t c59 hf58
              clear hf58
              refine lv_iload_n hx hb dX4_nextToken_91 rfl (lv_at hl16 0 rfl) ?_
              refine lv_goto (tgt := 98) hx hb dX4_nextToken_92 (by decide) ?_
              refine pX4 X hP37 hS38 5 (by decide) rfl wd_188 rfl rfl rfl rfl seX4_5 dX4_nextToken_98 (fun H68 lc69 hh70 ehh70 hP71 hS72 => ?_)
              have hf73 := lk_at ehh70 hf67
              clear hf67 hP37 hS38
              obtain ⟨-, rfl⟩ := ret_inj hf73
              exact x_vret X hr hlocks hP71 hS72 dX4_nextToken_101
      · have hf74 := if_at_f c25 hf23
        clear hf23
        refine lv_aload_n hx hb dX4_nextToken_52 rfl (lv_at hl16 1 rfl) ?_
        obtain ⟨⟨⟩, hh76, hg82, hf81⟩ := bd_some hf74
        refine x_cv (x_runV (As := []) (rest := []) X hP21 hS22 205 (by decide) cl_Rd rfl (tX4_readFigures l X.2.2.2.2.2.2.1  hg82) mi_X4_108 rfl hl16.1 rfl (Nat.le_of_ble_eq_true rfl) dX4_nextToken_53 ⟨Nat.le_of_ble_eq_true rfl, Nat.le_of_ble_eq_true rfl⟩ ⟨Nat.zero_le _, Nat.zero_le _⟩) hS22 (fun H77 lc78 hP79 hS80 => ?_)
        clear hf74 hP21 hS22 hg82
        obtain ⟨-, rfl⟩ := ret_inj hf81
        exact x_vret X hr hlocks hP79 hS80 dX4_nextToken_56
    · have hf83 := if_at_f c9 hf8
      clear hf8
      refine lv_aload_n hx hb dX4_nextToken_27 rfl (lv_at hl 0 rfl) ?_
      refine lv_sipush (v := 258) hx hb dX4_nextToken_28 (by decide) ?_
      refine pX4 X hP6 hS7 5 (by decide) rfl wd_188 rfl rfl rfl rfl seX4_5 dX4_nextToken_31 (fun H84 lc85 hh86 ehh86 hP87 hS88 => ?_)
      have hf89 := lk_at ehh86 hf83
      clear hf83 hP6 hS7
      obtain ⟨-, rfl⟩ := ret_inj hf89
      exact x_vret X hr hlocks hP87 hS88 dX4_nextToken_34
  · have hf90 := if_at_f c1 hf
    clear hf
    obtain ⟨-, rfl⟩ := ret_inj hf90
    exact x_vret X hr hlocks hP hS dX4_nextToken_7
set_option maxRecDepth 100000 in
set_option maxHeartbeats 4000000 in
theorem tX4_fail (l : Launch) {g : Gx} (hI : InjG g) {h k h1 : Hp} {a1 : Int32}   (hf : fX4_fail a1 h = some ((), h1)) : CV l yX4_fail cX4_fail 2 none 0 g [.ref (g.2.2 205), .int a1] h k h1 k := by
  refine Met.ofW (cc := cX4_fail) (maxL := 2) (ret := none) (by decide) rfl ?_
  intro p en s m args below meth c s₁ B hml hv
  obtain ⟨rfl, hSK, hSH, hP⟩ := hv
  have X : Cx p s m _ c cX4_fail 2 RX4 g := ⟨B.exec, B.bytes, hml, findClass_of_methodNamed B.named, fun w hw => atoms_spec (ws := wsy yX4_fail cX4_fail 2 none) B.pre w (List.mem_cons_of_mem _ hw), hSK, hI, hSH⟩
  have hr := B.returns
  have hlocks := B.notSynchronized
  have hx := X.1
  have hb := X.2.1
  have hS : va_S (inA g) s.heap s.heap [] := va_S.rf
  clear hSK hSH hml B
  have hl := lv_entry ([.ref (g.2.2 205), .int a1]) (n := 2) (Nat.le_of_ble_eq_true rfl)
  rw [lg_entry_eq]
  generalize (lg_sl ([.ref (g.2.2 205), .int a1]) ++ List.replicate (2 - (lg_sl ([.ref (g.2.2 205), .int a1])).length) Slot.unset).toArray = ls at hl ⊢
  have hl : lv_has ls 2 [(0, .ref (g.2.2 205)), (1, .int a1)] := hl
  generalize ([.ref (g.2.2 205), .int a1] : List Value).toArray = args at X ⊢
  show W p l en (rmD 0) s m args below meth c s.heap [] 0 0 (MQ below (QV g h1 k) args s 0 0 (inA g)) (F0 m 0 ls [])
  unfold fX4_fail at hf
  refine lv_aload_n hx hb dX4_fail_0 rfl (lv_at hl 0 rfl) ?_
  refine gX4 X hP 2 (v := .int (h 205 2)) rfl (by decide) rfl wd_183 dX4_fail_1 ?_
  refine lv_if_ne (tgt := 12) hx hb dX4_fail_4 (by decide) (fun c1 => ?_) (fun c1 => ?_)
  · have hf2 := if_at_f c1 hf
    clear hf
    obtain ⟨-, rfl⟩ := ret_inj hf2
    exact x_vret X hr hlocks hP hS dX4_fail_12
  · have hf3 := if_at_t c1 hf
    clear hf
    refine lv_aload_n hx hb dX4_fail_7 rfl (lv_at hl 0 rfl) ?_
    refine lv_iload_n hx hb dX4_fail_8 rfl (lv_at hl 1 rfl) ?_
    refine pX4 X hP hS 2 (by decide) rfl wd_183 rfl rfl rfl rfl seX4_2 dX4_fail_9 (fun H4 lc5 hh6 ehh6 hP7 hS8 => ?_)
    have hf9 := lk_at ehh6 hf3
    clear hf3 hP hS
    obtain ⟨-, rfl⟩ := ret_inj hf9
    exact x_vret X hr hlocks hP7 hS8 dX4_fail_12
set_option maxRecDepth 100000 in
set_option maxHeartbeats 4000000 in
theorem tX4_take (l : Launch) {g : Gx} (hI : InjG g) {h k h1 : Hp} {a1 : Int32}   (hf : fX4_take a1 h = some ((), h1)) : CV l yX4_take cX4_take 2 none 4 g [.ref (g.2.2 205), .int a1] h k h1 k := by
  refine Met.ofW (cc := cX4_take) (maxL := 2) (ret := none) (by decide) rfl ?_
  intro p en s m args below meth c s₁ B hml hv
  obtain ⟨rfl, hSK, hSH, hP⟩ := hv
  have X : Cx p s m _ c cX4_take 2 RX4 g := ⟨B.exec, B.bytes, hml, findClass_of_methodNamed B.named, fun w hw => atoms_spec (ws := wsy yX4_take cX4_take 2 none) B.pre w (List.mem_cons_of_mem _ hw), hSK, hI, hSH⟩
  have hr := B.returns
  have hlocks := B.notSynchronized
  have hx := X.1
  have hb := X.2.1
  have hS : va_S (inA g) s.heap s.heap [] := va_S.rf
  clear hSK hSH hml B
  have hl := lv_entry ([.ref (g.2.2 205), .int a1]) (n := 2) (Nat.le_of_ble_eq_true rfl)
  rw [lg_entry_eq]
  generalize (lg_sl ([.ref (g.2.2 205), .int a1]) ++ List.replicate (2 - (lg_sl ([.ref (g.2.2 205), .int a1])).length) Slot.unset).toArray = ls at hl ⊢
  have hl : lv_has ls 2 [(0, .ref (g.2.2 205)), (1, .int a1)] := hl
  generalize ([.ref (g.2.2 205), .int a1] : List Value).toArray = args at X ⊢
  show W p l en (rmD 4) s m args below meth c s.heap [] 0 0 (MQ below (QV g h1 k) args s 0 0 (inA g)) (F0 m 0 ls [])
  unfold fX4_take at hf
  refine lv_aload_n hx hb dX4_take_0 rfl (lv_at hl 0 rfl) ?_
  refine gX4 X hP 2 (v := .int (h 205 2)) rfl (by decide) rfl wd_183 dX4_take_1 ?_
  obtain ⟨J20_1, eJ20_1, hf18⟩ := jp_at hf
  clear hf
  have hJ20_1 : ∀  (hh2 : Hp) (H3 : Heap) (lc4 : List Loc) (ls5 : Array Slot), J20_1  hh2 = some ((), h1) → va_P g.1 vwCl (WW g hh2 k) H3 → va_S (inA g) s.heap H3 lc4 → lv_has ls5 2 [(0, .ref (g.2.2 205))] → W p l en (rmD 4) s m args below meth c H3 lc4 0 0 (MQ below (QV g h1 k) args s 0 0 (inA g)) (F0 m 20 ls5 []) := by
    intro  hh2 H3 lc4 ls5 hf9 hP6 hS7 hl8
    clear hf18 hP hS hl
    subst eJ20_1
    refine lv_aload_n hx hb dX4_take_20 rfl (lv_at hl8 0 rfl) ?_
    obtain ⟨⟨⟩, hh11, hg17, hf16⟩ := bd_some hf9
    refine x_cv (x_runV (As := []) (rest := []) X hP6 hS7 205 (by decide) cl_Rd rfl (tX4_nextToken l X.2.2.2.2.2.2.1  hg17) mi_X4_35 rfl hl8.1 rfl (Nat.le_of_ble_eq_true rfl) dX4_take_21 ⟨Nat.le_of_ble_eq_true rfl, Nat.le_of_ble_eq_true rfl⟩ ⟨Nat.zero_le _, Nat.zero_le _⟩) hS7 (fun H12 lc13 hP14 hS15 => ?_)
    clear hf9 hP6 hS7 hg17
    obtain ⟨-, rfl⟩ := ret_inj hf16
    exact x_vret X hr hlocks hP14 hS15 dX4_take_24
  clear eJ20_1
  refine lv_if_ne (tgt := 20) hx hb dX4_take_4 (by decide) (fun c19 => ?_) (fun c19 => ?_)
  · have hf20 := if_at_f c19 hf18
    clear hf18
    exact hJ20_1 h  _ _ _ hf20 hP hS (lv_sub hl [0] rfl)
  · have hf21 := if_at_t c19 hf18
    clear hf18
    refine lv_aload_n hx hb dX4_take_7 rfl (lv_at hl 0 rfl) ?_
    refine gX4 X hP 5 (v := .int (h 205 5)) rfl (by decide) rfl wd_188 dX4_take_8 ?_
    refine lv_iload_n hx hb dX4_take_11 rfl (lv_at hl 1 rfl) ?_
    refine lv_icmp_eq (tgt := 20) hx hb dX4_take_12 (by decide) (fun c22 => ?_) (fun c22 => ?_)
    · have hf23 := if_at_t c22 hf21
      clear hf21
      exact hJ20_1 h  _ _ _ hf23 hP hS (lv_sub hl [0] rfl)
    · have hf24 := if_at_f c22 hf21
      clear hf21
      refine lv_aload_n hx hb dX4_take_15 rfl (lv_at hl 0 rfl) ?_
      refine lv_iconst (v := 1) hx hb dX4_take_16 (by decide) ?_
      obtain ⟨⟨⟩, hh26, hg32, hf31⟩ := bd_some hf24
      refine x_cv (x_runV (As := [.int (1 : Int32)]) (rest := []) X hP hS 205 (by decide) cl_Rd rfl (tX4_fail l X.2.2.2.2.2.2.1  hg32) mi_X4_77 rfl hl.1 rfl (Nat.le_of_ble_eq_true rfl) dX4_take_17 ⟨Nat.le_of_ble_eq_true rfl, Nat.le_of_ble_eq_true rfl⟩ ⟨Nat.zero_le _, Nat.zero_le _⟩) hS (fun H27 lc28 hP29 hS30 => ?_)
      clear hf24 hP hS hg32
      exact hJ20_1 hh26  _ _ _ hf31 hP29 hS30 (lv_sub hl [0] rfl)
set_option maxRecDepth 100000 in
set_option maxHeartbeats 4000000 in
theorem tX4_takeNumber (l : Launch) {g : Gx} (hI : InjG g) {h k h1 : Hp} {a1 : Int32} {a2 : Int32} {r : Int32}   (hf : fX4_takeNumber a1 a2 h = some (r, h1)) : CI l yX4_takeNumber cX4_takeNumber 4 (some .int) 4 g [.ref (g.2.2 205), .int a1, .int a2] h k h1 k r := by
  refine Met.ofW (cc := cX4_takeNumber) (maxL := 4) (ret := (some .int)) (by decide) rfl ?_
  intro p en s m args below meth c s₁ B hml hv
  obtain ⟨rfl, hSK, hSH, hP⟩ := hv
  have X : Cx p s m _ c cX4_takeNumber 4 RX4 g := ⟨B.exec, B.bytes, hml, findClass_of_methodNamed B.named, fun w hw => atoms_spec (ws := wsy yX4_takeNumber cX4_takeNumber 4 (some .int)) B.pre w (List.mem_cons_of_mem _ hw), hSK, hI, hSH⟩
  have hr := B.returns
  have hlocks := B.notSynchronized
  have hx := X.1
  have hb := X.2.1
  have hS : va_S (inA g) s.heap s.heap [] := va_S.rf
  clear hSK hSH hml B
  have hl := lv_entry ([.ref (g.2.2 205), .int a1, .int a2]) (n := 4) (Nat.le_of_ble_eq_true rfl)
  rw [lg_entry_eq]
  generalize (lg_sl ([.ref (g.2.2 205), .int a1, .int a2]) ++ List.replicate (4 - (lg_sl ([.ref (g.2.2 205), .int a1, .int a2])).length) Slot.unset).toArray = ls at hl ⊢
  have hl : lv_has ls 4 [(0, .ref (g.2.2 205)), (1, .int a1), (2, .int a2)] := hl
  generalize ([.ref (g.2.2 205), .int a1, .int a2] : List Value).toArray = args at X ⊢
  show W p l en (rmD 4) s m args below meth c s.heap [] 0 0 (MQ below (QI g h1 k r) args s 0 0 (inA g)) (F0 m 0 ls [])
  unfold fX4_takeNumber at hf
  refine lv_aload_n hx hb dX4_takeNumber_0 rfl (lv_at hl 0 rfl) ?_
  refine gX4 X hP 2 (v := .int (h 205 2)) rfl (by decide) rfl wd_183 dX4_takeNumber_1 ?_
  obtain ⟨J49_1, eJ49_1, hf25⟩ := jp_at hf
  clear hf
  have hJ49_1 : ∀  (hh2 : Hp) (H3 : Heap) (lc4 : List Loc) (ls5 : Array Slot), J49_1  hh2 = some (r, h1) → va_P g.1 vwCl (WW g hh2 k) H3 → va_S (inA g) s.heap H3 lc4 → lv_has ls5 4 [(0, .ref (g.2.2 205))] → W p l en (rmD 4) s m args below meth c H3 lc4 0 0 (MQ below (QI g h1 k r) args s 0 0 (inA g)) (F0 m 49 ls5 []) := by
    intro  hh2 H3 lc4 ls5 hf9 hP6 hS7 hl8
    clear hf25 hP hS hl
    subst eJ49_1
    refine lv_aload_n hx hb dX4_takeNumber_49 rfl (lv_at hl8 0 rfl) ?_
    refine gX4 X hP6 6 (v := .int (hh2 205 6)) rfl (by decide) rfl wd_189 dX4_takeNumber_50 ?_
    refine lv_topi (fun x10 ex10 => ?_)
    have hf11 := lk_at ex10 hf9
    clear hf9
    refine lv_istore_n (lv' := [(3, .int x10), (0, .ref (g.2.2 205))]) hx hb dX4_takeNumber_53 rfl hl8 (by decide) rfl (fun ls12 hl13 => ?_)
    clear hl8
    refine lv_aload_n hx hb dX4_takeNumber_54 rfl (lv_at hl13 1 rfl) ?_
    obtain ⟨⟨⟩, hh15, hg21, hf20⟩ := bd_some hf11
    refine x_cv (x_runV (As := []) (rest := []) X hP6 hS7 205 (by decide) cl_Rd rfl (tX4_nextToken l X.2.2.2.2.2.2.1  hg21) mi_X4_35 rfl hl13.1 rfl (Nat.le_of_ble_eq_true rfl) dX4_takeNumber_55 ⟨Nat.le_of_ble_eq_true rfl, Nat.le_of_ble_eq_true rfl⟩ ⟨Nat.zero_le _, Nat.zero_le _⟩) hS7 (fun H16 lc17 hP18 hS19 => ?_)
    clear hf11 hP6 hS7 hg21
    refine lv_aload_n hx hb dX4_takeNumber_58 rfl (lv_at hl13 1 rfl) ?_
    refine gX4 X hP18 2 (v := .int (hh15 205 2)) rfl (by decide) rfl wd_183 dX4_takeNumber_59 ?_
    refine lv_if_ne (tgt := 69) hx hb dX4_takeNumber_62 (by decide) (fun c22 => ?_) (fun c22 => ?_)
    · have hf23 := if_at_f c22 hf20
      clear hf20
      refine lv_iconst (v := 0) hx hb dX4_takeNumber_69 (by decide) ?_
      obtain ⟨rfl, rfl⟩ := ret_inj hf23
      exact x_iret X hr hlocks hP18 hS19 dX4_takeNumber_70
    · have hf24 := if_at_t c22 hf20
      clear hf20
      refine lv_iload_n hx hb dX4_takeNumber_65 rfl (lv_at hl13 0 rfl) ?_
      refine lv_goto (tgt := 70) hx hb dX4_takeNumber_66 (by decide) ?_
      obtain ⟨rfl, rfl⟩ := ret_inj hf24
      exact x_iret X hr hlocks hP18 hS19 dX4_takeNumber_70
  clear eJ49_1
  obtain ⟨J25_26, eJ25_26, hf57⟩ := jp_at hf25
  clear hf25
  have hJ25_26 : ∀  (hh27 : Hp) (H28 : Heap) (lc29 : List Loc) (ls30 : Array Slot), J25_26  hh27 = some (r, h1) → va_P g.1 vwCl (WW g hh27 k) H28 → va_S (inA g) s.heap H28 lc29 → lv_has ls30 4 [(0, .ref (g.2.2 205)), (1, .int a1), (2, .int a2)] → W p l en (rmD 4) s m args below meth c H28 lc29 0 0 (MQ below (QI g h1 k r) args s 0 0 (inA g)) (F0 m 25 ls30 []) := by
    intro  hh27 H28 lc29 ls30 hf34 hP31 hS32 hl33
    clear hf57 hP hS hl
    subst eJ25_26
    refine lv_aload_n hx hb dX4_takeNumber_25 rfl (lv_at hl33 0 rfl) ?_
    refine gX4 X hP31 2 (v := .int (hh27 205 2)) rfl (by decide) rfl wd_183 dX4_takeNumber_26 ?_
    refine lv_if_ne (tgt := 49) hx hb dX4_takeNumber_29 (by decide) (fun c35 => ?_) (fun c35 => ?_)
    · have hf36 := if_at_f c35 hf34
      clear hf34
      exact hJ49_1 hh27  _ _ _ hf36 hP31 hS32 (lv_sub hl33 [0] rfl)
    · have hf37 := if_at_t c35 hf34
      clear hf34
      refine lv_aload_n hx hb dX4_takeNumber_32 rfl (lv_at hl33 0 rfl) ?_
      refine gX4 X hP31 6 (v := .int (hh27 205 6)) rfl (by decide) rfl wd_189 dX4_takeNumber_33 ?_
      refine lv_iload_n hx hb dX4_takeNumber_36 rfl (lv_at hl33 1 rfl) ?_
      refine lv_iload_n hx hb dX4_takeNumber_37 rfl (lv_at hl33 2 rfl) ?_
      obtain ⟨x38, hh39, hg45, hf44⟩ := bd_some hf37
      refine x_ci (x_runN (As := [.int (hh27 205 6), .int a1, .int a2]) (rest := []) X hP31 hS32 (tX6_isWithin l X.2.2.2.2.2.2.1  hg45) mi_X4_97 X.2.2.2.2.2.1.2.1 rfl hl33.1 rfl (Nat.le_of_ble_eq_true rfl) dX4_takeNumber_38 ⟨Nat.le_of_ble_eq_true rfl, Nat.le_of_ble_eq_true rfl⟩ ⟨Nat.zero_le _, Nat.zero_le _⟩) hS32 (fun H40 lc41 hP42 hS43 => ?_)
      clear hf37 hP31 hS32 hg45
      refine lv_if_ne (tgt := 49) hx hb dX4_takeNumber_41 (by decide) (fun c46 => ?_) (fun c46 => ?_)
      · have hf47 := if_at_f c46 hf44
        clear hf44
        exact hJ49_1 hh39  _ _ _ hf47 hP42 hS43 (lv_sub hl33 [0] rfl)
      · have hf48 := if_at_t c46 hf44
        clear hf44
        refine lv_aload_n hx hb dX4_takeNumber_44 rfl (lv_at hl33 0 rfl) ?_
        refine lv_iconst (v := 2) hx hb dX4_takeNumber_45 (by decide) ?_
        obtain ⟨⟨⟩, hh50, hg56, hf55⟩ := bd_some hf48
        refine x_cv (x_runV (As := [.int (2 : Int32)]) (rest := []) X hP42 hS43 205 (by decide) cl_Rd rfl (tX4_fail l X.2.2.2.2.2.2.1  hg56) mi_X4_77 rfl hl33.1 rfl (Nat.le_of_ble_eq_true rfl) dX4_takeNumber_46 ⟨Nat.le_of_ble_eq_true rfl, Nat.le_of_ble_eq_true rfl⟩ ⟨Nat.zero_le _, Nat.zero_le _⟩) hS43 (fun H51 lc52 hP53 hS54 => ?_)
        clear hf48 hP42 hS43 hg56
        exact hJ49_1 hh50  _ _ _ hf55 hP53 hS54 (lv_sub hl33 [0] rfl)
  clear eJ25_26
  refine lv_if_ne (tgt := 25) hx hb dX4_takeNumber_4 (by decide) (fun c58 => ?_) (fun c58 => ?_)
  · have hf59 := if_at_f c58 hf57
    clear hf57
    exact hJ25_26 h  _ _ _ hf59 hP hS (lv_sub hl [0, 1, 2] rfl)
  · have hf60 := if_at_t c58 hf57
    clear hf57
    refine lv_aload_n hx hb dX4_takeNumber_7 rfl (lv_at hl 0 rfl) ?_
    refine gX4 X hP 5 (v := .int (h 205 5)) rfl (by decide) rfl wd_188 dX4_takeNumber_8 ?_
    refine lv_sipush (v := 256) hx hb dX4_takeNumber_11 (by decide) ?_
    refine lv_icmp_eq (tgt := 25) hx hb dX4_takeNumber_14 (by decide) (fun c61 => ?_) (fun c61 => ?_)
    · have hf62 := if_at_t c61 hf60
      clear hf60
      exact hJ25_26 h  _ _ _ hf62 hP hS (lv_sub hl [0, 1, 2] rfl)
    · have hf63 := if_at_f c61 hf60
      clear hf60
      refine lv_aload_n hx hb dX4_takeNumber_17 rfl (lv_at hl 0 rfl) ?_
      refine lv_iconst (v := 1) hx hb dX4_takeNumber_18 (by decide) ?_
      obtain ⟨⟨⟩, hh65, hg71, hf70⟩ := bd_some hf63
      refine x_cv (x_runV (As := [.int (1 : Int32)]) (rest := []) X hP hS 205 (by decide) cl_Rd rfl (tX4_fail l X.2.2.2.2.2.2.1  hg71) mi_X4_77 rfl hl.1 rfl (Nat.le_of_ble_eq_true rfl) dX4_takeNumber_19 ⟨Nat.le_of_ble_eq_true rfl, Nat.le_of_ble_eq_true rfl⟩ ⟨Nat.zero_le _, Nat.zero_le _⟩) hS (fun H66 lc67 hP68 hS69 => ?_)
      clear hf63 hP hS hg71
      refine lv_goto (tgt := 49) hx hb dX4_takeNumber_22 (by decide) ?_
      exact hJ49_1 hh65  _ _ _ hf70 hP68 hS69 (lv_sub hl [0] rfl)
set_option maxRecDepth 100000 in
set_option maxHeartbeats 4000000 in
theorem tX4_readLaw (l : Launch) {g : Gx} (hI : InjG g) {h k h1 : Hp}    (hf : fX4_readLaw h = some ((), h1)) : CV l yX4_readLaw cX4_readLaw 1 none 5 g [.ref (g.2.2 205)] h k h1 k := by
  refine Met.ofW (cc := cX4_readLaw) (maxL := 1) (ret := none) (by decide) rfl ?_
  intro p en s m args below meth c s₁ B hml hv
  obtain ⟨rfl, hSK, hSH, hP⟩ := hv
  have X : Cx p s m _ c cX4_readLaw 1 RX4 g := ⟨B.exec, B.bytes, hml, findClass_of_methodNamed B.named, fun w hw => atoms_spec (ws := wsy yX4_readLaw cX4_readLaw 1 none) B.pre w (List.mem_cons_of_mem _ hw), hSK, hI, hSH⟩
  have hr := B.returns
  have hlocks := B.notSynchronized
  have hx := X.1
  have hb := X.2.1
  have hS : va_S (inA g) s.heap s.heap [] := va_S.rf
  clear hSK hSH hml B
  have hl := lv_entry ([.ref (g.2.2 205)]) (n := 1) (Nat.le_of_ble_eq_true rfl)
  rw [lg_entry_eq]
  generalize (lg_sl ([.ref (g.2.2 205)]) ++ List.replicate (1 - (lg_sl ([.ref (g.2.2 205)])).length) Slot.unset).toArray = ls at hl ⊢
  have hl : lv_has ls 1 [(0, .ref (g.2.2 205))] := hl
  generalize ([.ref (g.2.2 205)] : List Value).toArray = args at X ⊢
  show W p l en (rmD 5) s m args below meth c s.heap [] 0 0 (MQ below (QV g h1 k) args s 0 0 (inA g)) (F0 m 0 ls [])
  unfold fX4_readLaw at hf
  refine lv_aload_n hx hb dX4_readLaw_0 rfl (lv_at hl 0 rfl) ?_
  refine lv_bipush (v := 101) hx hb dX4_readLaw_1 (by decide) ?_
  obtain ⟨⟨⟩, hh2, hg8, hf7⟩ := bd_some hf
  refine x_cv (x_runV (As := [.int (101 : Int32)]) (rest := []) X hP hS 205 (by decide) cl_Rd rfl (tX4_take l X.2.2.2.2.2.2.1  hg8) mi_X4_54 rfl hl.1 rfl (Nat.le_of_ble_eq_true rfl) dX4_readLaw_3 ⟨Nat.le_of_ble_eq_true rfl, Nat.le_of_ble_eq_true rfl⟩ ⟨Nat.zero_le _, Nat.zero_le _⟩) hS (fun H3 lc4 hP5 hS6 => ?_)
  clear hf hP hS hg8
  refine lv_aload_n hx hb dX4_readLaw_6 rfl (lv_at hl 0 rfl) ?_
  refine gX4 X hP5 0 (v := .ref (g.2.2 7)) rfl (by decide) rfl wd_179 dX4_readLaw_7 ?_
  refine lv_aload_n hx hb dX4_readLaw_10 rfl (lv_at hl 0 rfl) ?_
  refine lv_bipush (v := 6) hx hb dX4_readLaw_11 (by decide) ?_
  refine lv_bipush (v := 16) hx hb dX4_readLaw_13 (by decide) ?_
  obtain ⟨x9, hh10, hg16, hf15⟩ := bd_some hf7
  refine x_ci (x_runV (As := [.int (6 : Int32), .int (16 : Int32)]) (rest := [.ref (g.2.2 7)]) X hP5 hS6 205 (by decide) cl_Rd rfl (tX4_takeNumber l X.2.2.2.2.2.2.1  hg16) mi_X4_58 rfl hl.1 rfl (Nat.le_of_ble_eq_true rfl) dX4_readLaw_15 ⟨Nat.le_of_ble_eq_true rfl, Nat.le_of_ble_eq_true rfl⟩ ⟨Nat.zero_le _, Nat.zero_le _⟩) hS6 (fun H11 lc12 hP13 hS14 => ?_)
  clear hf7 hP5 hS6 hg16
  refine pX2 X hP13 hS14 (⟨rfl, by decide⟩ : isE 7) 7 (by decide) rfl wd_115 rfl rfl rfl rfl seX2_7 dX4_readLaw_18 (fun H17 lc18 hh19 ehh19 hP20 hS21 => ?_)
  have hf22 := lk_at ehh19 hf15
  clear hf15 hP13 hS14
  refine lv_aload_n hx hb dX4_readLaw_21 rfl (lv_at hl 0 rfl) ?_
  refine lv_bipush (v := 44) hx hb dX4_readLaw_22 (by decide) ?_
  obtain ⟨⟨⟩, hh24, hg30, hf29⟩ := bd_some hf22
  refine x_cv (x_runV (As := [.int (44 : Int32)]) (rest := []) X hP20 hS21 205 (by decide) cl_Rd rfl (tX4_take l X.2.2.2.2.2.2.1  hg30) mi_X4_54 rfl hl.1 rfl (Nat.le_of_ble_eq_true rfl) dX4_readLaw_24 ⟨Nat.le_of_ble_eq_true rfl, Nat.le_of_ble_eq_true rfl⟩ ⟨Nat.zero_le _, Nat.zero_le _⟩) hS21 (fun H25 lc26 hP27 hS28 => ?_)
  clear hf22 hP20 hS21 hg30
  refine lv_aload_n hx hb dX4_readLaw_27 rfl (lv_at hl 0 rfl) ?_
  refine gX4 X hP27 0 (v := .ref (g.2.2 7)) rfl (by decide) rfl wd_179 dX4_readLaw_28 ?_
  refine lv_aload_n hx hb dX4_readLaw_31 rfl (lv_at hl 0 rfl) ?_
  refine lv_iconst (v := 0) hx hb dX4_readLaw_32 (by decide) ?_
  refine lv_aload_n hx hb dX4_readLaw_33 rfl (lv_at hl 0 rfl) ?_
  refine gX4 X hP27 0 (v := .ref (g.2.2 7)) rfl (by decide) rfl wd_179 dX4_readLaw_34 ?_
  refine gX2 X hP27 (⟨rfl, by decide⟩ : isE 7) 7 (v := .int (hh24 7 7)) rfl (by decide) rfl wd_115 dX4_readLaw_37 ?_
  refine lv_iconst (v := 1) hx hb dX4_readLaw_40 (by decide) ?_
  refine lv_isub hx hb dX4_readLaw_41 ?_
  obtain ⟨x31, hh32, hg38, hf37⟩ := bd_some hf29
  refine x_ci (x_runV (As := [.int (0 : Int32), .int ((hh24 7 7) - (1 : Int32))]) (rest := [.ref (g.2.2 7)]) X hP27 hS28 205 (by decide) cl_Rd rfl (tX4_takeNumber l X.2.2.2.2.2.2.1  hg38) mi_X4_58 rfl hl.1 rfl (Nat.le_of_ble_eq_true rfl) dX4_readLaw_42 ⟨Nat.le_of_ble_eq_true rfl, Nat.le_of_ble_eq_true rfl⟩ ⟨Nat.zero_le _, Nat.zero_le _⟩) hS28 (fun H33 lc34 hP35 hS36 => ?_)
  clear hf29 hP27 hS28 hg38
  refine pX2 X hP35 hS36 (⟨rfl, by decide⟩ : isE 7) 8 (by decide) rfl wd_119 rfl rfl rfl rfl seX2_8 dX4_readLaw_45 (fun H39 lc40 hh41 ehh41 hP42 hS43 => ?_)
  have hf44 := lk_at ehh41 hf37
  clear hf37 hP35 hS36
  refine lv_aload_n hx hb dX4_readLaw_48 rfl (lv_at hl 0 rfl) ?_
  refine lv_bipush (v := 44) hx hb dX4_readLaw_49 (by decide) ?_
  obtain ⟨⟨⟩, hh46, hg52, hf51⟩ := bd_some hf44
  refine x_cv (x_runV (As := [.int (44 : Int32)]) (rest := []) X hP42 hS43 205 (by decide) cl_Rd rfl (tX4_take l X.2.2.2.2.2.2.1  hg52) mi_X4_54 rfl hl.1 rfl (Nat.le_of_ble_eq_true rfl) dX4_readLaw_51 ⟨Nat.le_of_ble_eq_true rfl, Nat.le_of_ble_eq_true rfl⟩ ⟨Nat.zero_le _, Nat.zero_le _⟩) hS43 (fun H47 lc48 hP49 hS50 => ?_)
  clear hf44 hP42 hS43 hg52
  refine lv_aload_n hx hb dX4_readLaw_54 rfl (lv_at hl 0 rfl) ?_
  refine gX4 X hP49 0 (v := .ref (g.2.2 7)) rfl (by decide) rfl wd_179 dX4_readLaw_55 ?_
  refine lv_aload_n hx hb dX4_readLaw_58 rfl (lv_at hl 0 rfl) ?_
  refine lv_iconst (v := 0) hx hb dX4_readLaw_59 (by decide) ?_
  refine lv_aload_n hx hb dX4_readLaw_60 rfl (lv_at hl 0 rfl) ?_
  refine gX4 X hP49 0 (v := .ref (g.2.2 7)) rfl (by decide) rfl wd_179 dX4_readLaw_61 ?_
  refine gX2 X hP49 (⟨rfl, by decide⟩ : isE 7) 7 (v := .int (hh46 7 7)) rfl (by decide) rfl wd_115 dX4_readLaw_64 ?_
  refine lv_iconst (v := 1) hx hb dX4_readLaw_67 (by decide) ?_
  refine lv_isub hx hb dX4_readLaw_68 ?_
  obtain ⟨x53, hh54, hg60, hf59⟩ := bd_some hf51
  refine x_ci (x_runV (As := [.int (0 : Int32), .int ((hh46 7 7) - (1 : Int32))]) (rest := [.ref (g.2.2 7)]) X hP49 hS50 205 (by decide) cl_Rd rfl (tX4_takeNumber l X.2.2.2.2.2.2.1  hg60) mi_X4_58 rfl hl.1 rfl (Nat.le_of_ble_eq_true rfl) dX4_readLaw_69 ⟨Nat.le_of_ble_eq_true rfl, Nat.le_of_ble_eq_true rfl⟩ ⟨Nat.zero_le _, Nat.zero_le _⟩) hS50 (fun H55 lc56 hP57 hS58 => ?_)
  clear hf51 hP49 hS50 hg60
  refine pX2 X hP57 hS58 (⟨rfl, by decide⟩ : isE 7) 9 (by decide) rfl wd_123 rfl rfl rfl rfl seX2_9 dX4_readLaw_72 (fun H61 lc62 hh63 ehh63 hP64 hS65 => ?_)
  have hf66 := lk_at ehh63 hf59
  clear hf59 hP57 hS58
  refine lv_aload_n hx hb dX4_readLaw_75 rfl (lv_at hl 0 rfl) ?_
  refine lv_bipush (v := 44) hx hb dX4_readLaw_76 (by decide) ?_
  obtain ⟨⟨⟩, hh68, hg74, hf73⟩ := bd_some hf66
  refine x_cv (x_runV (As := [.int (44 : Int32)]) (rest := []) X hP64 hS65 205 (by decide) cl_Rd rfl (tX4_take l X.2.2.2.2.2.2.1  hg74) mi_X4_54 rfl hl.1 rfl (Nat.le_of_ble_eq_true rfl) dX4_readLaw_78 ⟨Nat.le_of_ble_eq_true rfl, Nat.le_of_ble_eq_true rfl⟩ ⟨Nat.zero_le _, Nat.zero_le _⟩) hS65 (fun H69 lc70 hP71 hS72 => ?_)
  clear hf66 hP64 hS65 hg74
  refine lv_aload_n hx hb dX4_readLaw_81 rfl (lv_at hl 0 rfl) ?_
  refine gX4 X hP71 0 (v := .ref (g.2.2 7)) rfl (by decide) rfl wd_179 dX4_readLaw_82 ?_
  refine lv_aload_n hx hb dX4_readLaw_85 rfl (lv_at hl 0 rfl) ?_
  refine lv_iconst (v := 0) hx hb dX4_readLaw_86 (by decide) ?_
  refine lv_bipush (v := 15) hx hb dX4_readLaw_87 (by decide) ?_
  obtain ⟨x75, hh76, hg82, hf81⟩ := bd_some hf73
  refine x_ci (x_runV (As := [.int (0 : Int32), .int (15 : Int32)]) (rest := [.ref (g.2.2 7)]) X hP71 hS72 205 (by decide) cl_Rd rfl (tX4_takeNumber l X.2.2.2.2.2.2.1  hg82) mi_X4_58 rfl hl.1 rfl (Nat.le_of_ble_eq_true rfl) dX4_readLaw_89 ⟨Nat.le_of_ble_eq_true rfl, Nat.le_of_ble_eq_true rfl⟩ ⟨Nat.zero_le _, Nat.zero_le _⟩) hS72 (fun H77 lc78 hP79 hS80 => ?_)
  clear hf73 hP71 hS72 hg82
  refine pX2 X hP79 hS80 (⟨rfl, by decide⟩ : isE 7) 10 (by decide) rfl wd_127 rfl rfl rfl rfl seX2_10 dX4_readLaw_92 (fun H83 lc84 hh85 ehh85 hP86 hS87 => ?_)
  have hf88 := lk_at ehh85 hf81
  clear hf81 hP79 hS80
  refine lv_aload_n hx hb dX4_readLaw_95 rfl (lv_at hl 0 rfl) ?_
  refine lv_bipush (v := 59) hx hb dX4_readLaw_96 (by decide) ?_
  obtain ⟨⟨⟩, hh90, hg96, hf95⟩ := bd_some hf88
  refine x_cv (x_runV (As := [.int (59 : Int32)]) (rest := []) X hP86 hS87 205 (by decide) cl_Rd rfl (tX4_take l X.2.2.2.2.2.2.1  hg96) mi_X4_54 rfl hl.1 rfl (Nat.le_of_ble_eq_true rfl) dX4_readLaw_98 ⟨Nat.le_of_ble_eq_true rfl, Nat.le_of_ble_eq_true rfl⟩ ⟨Nat.zero_le _, Nat.zero_le _⟩) hS87 (fun H91 lc92 hP93 hS94 => ?_)
  clear hf88 hP86 hS87 hg96
  obtain ⟨-, rfl⟩ := ret_inj hf95
  exact x_vret X hr hlocks hP93 hS94 dX4_readLaw_101
set_option maxRecDepth 100000 in
set_option maxHeartbeats 4000000 in
theorem tX2_addWind (l : Launch) {g : Gx} (hI : InjG g) {h k h1 : Hp} {e : Nat} {a1 : Int32}  (he : isE e) (hf : fX2_addWind e a1 h = some ((), h1)) : CV l yX2_addWind cX2_addWind 2 none 0 g [.ref (g.2.2 e), .int a1] h k h1 k := by
  refine Met.ofW (cc := cX2_addWind) (maxL := 2) (ret := none) (by decide) rfl ?_
  intro p en s m args below meth c s₁ B hml hv
  obtain ⟨rfl, hSK, hSH, hP⟩ := hv
  have X : Cx p s m _ c cX2_addWind 2 RX2 g := ⟨B.exec, B.bytes, hml, findClass_of_methodNamed B.named, fun w hw => atoms_spec (ws := wsy yX2_addWind cX2_addWind 2 none) B.pre w (List.mem_cons_of_mem _ hw), hSK, hI, hSH⟩
  have hr := B.returns
  have hlocks := B.notSynchronized
  have hx := X.1
  have hb := X.2.1
  have hS : va_S (inA g) s.heap s.heap [] := va_S.rf
  clear hSK hSH hml B
  have hl := lv_entry ([.ref (g.2.2 e), .int a1]) (n := 2) (Nat.le_of_ble_eq_true rfl)
  rw [lg_entry_eq]
  generalize (lg_sl ([.ref (g.2.2 e), .int a1]) ++ List.replicate (2 - (lg_sl ([.ref (g.2.2 e), .int a1])).length) Slot.unset).toArray = ls at hl ⊢
  have hl : lv_has ls 2 [(0, .ref (g.2.2 e)), (1, .int a1)] := hl
  generalize ([.ref (g.2.2 e), .int a1] : List Value).toArray = args at X ⊢
  show W p l en (rmD 0) s m args below meth c s.heap [] 0 0 (MQ below (QV g h1 k) args s 0 0 (inA g)) (F0 m 0 ls [])
  unfold fX2_addWind at hf
  refine lv_aload_n hx hb dX2_addWind_0 rfl (lv_at hl 0 rfl) ?_
  refine gX2 X hP he 11 (v := .int (h e 11)) rfl (by decide) rfl wd_129 dX2_addWind_1 ?_
  refine lv_bipush (v := 6) hx hb dX2_addWind_4 (by decide) ?_
  refine lv_icmp_ge (tgt := 29) hx hb dX2_addWind_6 (by decide) (fun c1 => ?_) (fun c1 => ?_)
  · have hf2 := if_at_t c1 hf
    clear hf
    obtain ⟨-, rfl⟩ := ret_inj hf2
    exact x_vret X hr hlocks hP hS dX2_addWind_29
  · have hf3 := if_at_f c1 hf
    clear hf
    refine lv_aload_n hx hb dX2_addWind_9 rfl (lv_at hl 0 rfl) ?_
    refine gX2 X hP he 0 (v := .ref (g.2.2 (e + 1))) rfl (by decide) rfl wd_93 dX2_addWind_10 ?_
    refine lv_aload_n hx hb dX2_addWind_13 rfl (lv_at hl 0 rfl) ?_
    refine gX2 X hP he 11 (v := .int (h e 11)) rfl (by decide) rfl wd_129 dX2_addWind_14 ?_
    refine lv_iload_n hx hb dX2_addWind_17 rfl (lv_at hl 1 rfl) ?_
    obtain ⟨hc4, hf5⟩ := chk_some hf3
    refine x_istC X hP hS (e + 1) (ia_E1 he) hc4 dX2_addWind_18 (fun H6 lc7 hh8 ehh8 hP9 hS10 => ?_)
    have hf11 := lk_at ehh8 hf5
    clear hf5 hP hS
    refine lv_aload_n hx hb dX2_addWind_19 rfl (lv_at hl 0 rfl) ?_
    refine lv_dup hx hb dX2_addWind_20 rfl ?_
    refine gX2 X hP9 he 11 (v := .int (hh8 e 11)) rfl (by decide) rfl wd_129 dX2_addWind_21 ?_
    refine lv_iconst (v := 1) hx hb dX2_addWind_24 (by decide) ?_
    refine lv_iadd hx hb dX2_addWind_25 ?_
    refine pX2 X hP9 hS10 (he) 11 (by decide) rfl wd_129 rfl rfl rfl rfl seX2_11 dX2_addWind_26 (fun H12 lc13 hh14 ehh14 hP15 hS16 => ?_)
    have hf17 := lk_at ehh14 hf11
    clear hf11 hP9 hS10
    obtain ⟨-, rfl⟩ := ret_inj hf17
    exact x_vret X hr hlocks hP15 hS16 dX2_addWind_29
set_option maxRecDepth 100000 in
set_option maxHeartbeats 4000000 in
theorem tX4_readWind (l : Launch) {g : Gx} (hI : InjG g) {h k h1 : Hp}    (hf : fX4_readWind h = some ((), h1)) : CV l yX4_readWind cX4_readWind 1 none 5 g [.ref (g.2.2 205)] h k h1 k := by
  refine Met.ofW (cc := cX4_readWind) (maxL := 1) (ret := none) (by decide) rfl ?_
  intro p en s m args below meth c s₁ B hml hv
  obtain ⟨rfl, hSK, hSH, hP⟩ := hv
  have X : Cx p s m _ c cX4_readWind 1 RX4 g := ⟨B.exec, B.bytes, hml, findClass_of_methodNamed B.named, fun w hw => atoms_spec (ws := wsy yX4_readWind cX4_readWind 1 none) B.pre w (List.mem_cons_of_mem _ hw), hSK, hI, hSH⟩
  have hr := B.returns
  have hlocks := B.notSynchronized
  have hx := X.1
  have hb := X.2.1
  have hS : va_S (inA g) s.heap s.heap [] := va_S.rf
  clear hSK hSH hml B
  have hl := lv_entry ([.ref (g.2.2 205)]) (n := 1) (Nat.le_of_ble_eq_true rfl)
  rw [lg_entry_eq]
  generalize (lg_sl ([.ref (g.2.2 205)]) ++ List.replicate (1 - (lg_sl ([.ref (g.2.2 205)])).length) Slot.unset).toArray = ls at hl ⊢
  have hl : lv_has ls 1 [(0, .ref (g.2.2 205))] := hl
  generalize ([.ref (g.2.2 205)] : List Value).toArray = args at X ⊢
  show W p l en (rmD 5) s m args below meth c s.heap [] 0 0 (MQ below (QV g h1 k) args s 0 0 (inA g)) (F0 m 0 ls [])
  unfold fX4_readWind at hf
  refine lv_aload_n hx hb dX4_readWind_0 rfl (lv_at hl 0 rfl) ?_
  refine gX4 X hP 5 (v := .int (h 205 5)) rfl (by decide) rfl wd_188 dX4_readWind_1 ?_
  refine lv_bipush (v := 103) hx hb dX4_readWind_4 (by decide) ?_
  obtain ⟨J26_1, eJ26_1, hf42⟩ := jp_at hf
  clear hf
  have hJ26_1 : ∀  (hh2 : Hp) (H3 : Heap) (lc4 : List Loc) (ls5 : Array Slot), J26_1  hh2 = some ((), h1) → va_P g.1 vwCl (WW g hh2 k) H3 → va_S (inA g) s.heap H3 lc4 → lv_has ls5 1 [(0, .ref (g.2.2 205))] → W p l en (rmD 5) s m args below meth c H3 lc4 0 0 (MQ below (QV g h1 k) args s 0 0 (inA g)) (F0 m 26 ls5 []) := by
    intro  hh2 H3 lc4 ls5 hf9 hP6 hS7 hl8
    clear hf42 hP hS hl
    subst eJ26_1
    refine lv_aload_n hx hb dX4_readWind_26 rfl (lv_at hl8 0 rfl) ?_
    refine lv_bipush (v := 103) hx hb dX4_readWind_27 (by decide) ?_
    obtain ⟨⟨⟩, hh11, hg17, hf16⟩ := bd_some hf9
    refine x_cv (x_runV (As := [.int (103 : Int32)]) (rest := []) X hP6 hS7 205 (by decide) cl_Rd rfl (tX4_take l X.2.2.2.2.2.2.1  hg17) mi_X4_54 rfl hl8.1 rfl (Nat.le_of_ble_eq_true rfl) dX4_readWind_29 ⟨Nat.le_of_ble_eq_true rfl, Nat.le_of_ble_eq_true rfl⟩ ⟨Nat.zero_le _, Nat.zero_le _⟩) hS7 (fun H12 lc13 hP14 hS15 => ?_)
    clear hf9 hP6 hS7 hg17
    refine lv_aload_n hx hb dX4_readWind_32 rfl (lv_at hl8 0 rfl) ?_
    refine gX4 X hP14 0 (v := .ref (g.2.2 7)) rfl (by decide) rfl wd_179 dX4_readWind_33 ?_
    refine lv_aload_n hx hb dX4_readWind_36 rfl (lv_at hl8 0 rfl) ?_
    refine lv_iconst (v := 0) hx hb dX4_readWind_37 (by decide) ?_
    refine lv_iconst (v := 4) hx hb dX4_readWind_38 (by decide) ?_
    obtain ⟨x18, hh19, hg25, hf24⟩ := bd_some hf16
    refine x_ci (x_runV (As := [.int (0 : Int32), .int (4 : Int32)]) (rest := [.ref (g.2.2 7)]) X hP14 hS15 205 (by decide) cl_Rd rfl (tX4_takeNumber l X.2.2.2.2.2.2.1  hg25) mi_X4_58 rfl hl8.1 rfl (Nat.le_of_ble_eq_true rfl) dX4_readWind_39 ⟨Nat.le_of_ble_eq_true rfl, Nat.le_of_ble_eq_true rfl⟩ ⟨Nat.zero_le _, Nat.zero_le _⟩) hS15 (fun H20 lc21 hP22 hS23 => ?_)
    clear hf16 hP14 hS15 hg25
    obtain ⟨⟨⟩, hh27, hg33, hf32⟩ := bd_some hf24
    refine x_cv (x_runV (As := [.int x18]) (rest := []) X hP22 hS23 7 (by decide) (cl_E (⟨rfl, by decide⟩ : isE 7)) rfl (tX2_addWind l X.2.2.2.2.2.2.1 (⟨rfl, by decide⟩ : isE 7) hg33) mi_X4_80 rfl hl8.1 rfl (Nat.le_of_ble_eq_true rfl) dX4_readWind_42 ⟨Nat.le_of_ble_eq_true rfl, Nat.le_of_ble_eq_true rfl⟩ ⟨Nat.zero_le _, Nat.zero_le _⟩) hS23 (fun H28 lc29 hP30 hS31 => ?_)
    clear hf24 hP22 hS23 hg33
    refine lv_aload_n hx hb dX4_readWind_45 rfl (lv_at hl8 0 rfl) ?_
    refine lv_bipush (v := 59) hx hb dX4_readWind_46 (by decide) ?_
    obtain ⟨⟨⟩, hh35, hg41, hf40⟩ := bd_some hf32
    refine x_cv (x_runV (As := [.int (59 : Int32)]) (rest := []) X hP30 hS31 205 (by decide) cl_Rd rfl (tX4_take l X.2.2.2.2.2.2.1  hg41) mi_X4_54 rfl hl8.1 rfl (Nat.le_of_ble_eq_true rfl) dX4_readWind_48 ⟨Nat.le_of_ble_eq_true rfl, Nat.le_of_ble_eq_true rfl⟩ ⟨Nat.zero_le _, Nat.zero_le _⟩) hS31 (fun H36 lc37 hP38 hS39 => ?_)
    clear hf32 hP30 hS31 hg41
    obtain ⟨-, rfl⟩ := ret_inj hf40
    exact x_vret X hr hlocks hP38 hS39 dX4_readWind_51
  clear eJ26_1
  refine lv_icmp_ne (tgt := 26) hx hb dX4_readWind_6 (by decide) (fun c43 => ?_) (fun c43 => ?_)
  · have hf44 := if_at_f c43 hf42
    clear hf42
    exact hJ26_1 h  _ _ _ hf44 hP hS (lv_sub hl [0] rfl)
  · have hf45 := if_at_t c43 hf42
    clear hf42
    refine lv_aload_n hx hb dX4_readWind_9 rfl (lv_at hl 0 rfl) ?_
    refine gX4 X hP 0 (v := .ref (g.2.2 7)) rfl (by decide) rfl wd_179 dX4_readWind_10 ?_
    refine gX2 X hP (⟨rfl, by decide⟩ : isE 7) 11 (v := .int (h 7 11)) rfl (by decide) rfl wd_130 dX4_readWind_13 ?_
    refine lv_bipush (v := 6) hx hb dX4_readWind_16 (by decide) ?_
    refine lv_icmp_ne (tgt := 26) hx hb dX4_readWind_18 (by decide) (fun c46 => ?_) (fun c46 => ?_)
    · have hf47 := if_at_f c46 hf45
      clear hf45
      exact hJ26_1 h  _ _ _ hf47 hP hS (lv_sub hl [0] rfl)
    · have hf48 := if_at_t c46 hf45
      clear hf45
      refine lv_aload_n hx hb dX4_readWind_21 rfl (lv_at hl 0 rfl) ?_
      refine lv_iconst (v := 3) hx hb dX4_readWind_22 (by decide) ?_
      obtain ⟨⟨⟩, hh50, hg56, hf55⟩ := bd_some hf48
      refine x_cv (x_runV (As := [.int (3 : Int32)]) (rest := []) X hP hS 205 (by decide) cl_Rd rfl (tX4_fail l X.2.2.2.2.2.2.1  hg56) mi_X4_77 rfl hl.1 rfl (Nat.le_of_ble_eq_true rfl) dX4_readWind_23 ⟨Nat.le_of_ble_eq_true rfl, Nat.le_of_ble_eq_true rfl⟩ ⟨Nat.zero_le _, Nat.zero_le _⟩) hS (fun H51 lc52 hP53 hS54 => ?_)
      clear hf48 hP hS hg56
      exact hJ26_1 hh50  _ _ _ hf55 hP53 hS54 (lv_sub hl [0] rfl)
set_option maxRecDepth 100000 in
set_option maxHeartbeats 4000000 in
theorem tX4_kindOfSort (l : Launch) {g : Gx} (hI : InjG g) {h k h1 : Hp} {a1 : Int32} {r : Int32}   (hf : fX4_kindOfSort a1 h = some (r, h1)) : CI l yX4_kindOfSort cX4_kindOfSort 1 (some .int) 0 g [.int a1] h k h1 k r := by
  refine Met.ofW (cc := cX4_kindOfSort) (maxL := 1) (ret := (some .int)) (by decide) rfl ?_
  intro p en s m args below meth c s₁ B hml hv
  obtain ⟨rfl, hSK, hSH, hP⟩ := hv
  have X : Cx p s m _ c cX4_kindOfSort 1 RX4 g := ⟨B.exec, B.bytes, hml, findClass_of_methodNamed B.named, fun w hw => atoms_spec (ws := wsy yX4_kindOfSort cX4_kindOfSort 1 (some .int)) B.pre w (List.mem_cons_of_mem _ hw), hSK, hI, hSH⟩
  have hr := B.returns
  have hlocks := B.notSynchronized
  have hx := X.1
  have hb := X.2.1
  have hS : va_S (inA g) s.heap s.heap [] := va_S.rf
  clear hSK hSH hml B
  have hl := lv_entry ([.int a1]) (n := 1) (Nat.le_of_ble_eq_true rfl)
  rw [lg_entry_eq]
  generalize (lg_sl ([.int a1]) ++ List.replicate (1 - (lg_sl ([.int a1])).length) Slot.unset).toArray = ls at hl ⊢
  have hl : lv_has ls 1 [(0, .int a1)] := hl
  generalize ([.int a1] : List Value).toArray = args at X ⊢
  show W p l en (rmD 0) s m args below meth c s.heap [] 0 0 (MQ below (QI g h1 k r) args s 0 0 (inA g)) (F0 m 0 ls [])
  unfold fX4_kindOfSort at hf
  refine lv_iload_n hx hb dX4_kindOfSort_0 rfl (lv_at hl 0 rfl) ?_
  by_cases c1 : a1 = (98 : Int32)
  · have hf2 := if_at_t c1 hf
    clear hf
    refine lv_lookup (off := 53) (tgt := 54) hx hb dX4_kindOfSort_1 rfl (by rw [c1] <;> rfl) (by decide) ?_
    refine lv_iconst (v := 2) hx hb dX4_kindOfSort_54 (by decide) ?_
    obtain ⟨rfl, rfl⟩ := ret_inj hf2
    exact x_iret X hr hlocks hP hS dX4_kindOfSort_55
  · have hf3 := if_at_f c1 hf
    clear hf
    by_cases c4 : a1 = (104 : Int32)
    · have hf5 := if_at_t c4 hf3
      clear hf3
      refine lv_lookup (off := 57) (tgt := 58) hx hb dX4_kindOfSort_1 rfl (by rw [c4] <;> rfl) (by decide) ?_
      refine lv_iconst (v := 4) hx hb dX4_kindOfSort_58 (by decide) ?_
      obtain ⟨rfl, rfl⟩ := ret_inj hf5
      exact x_iret X hr hlocks hP hS dX4_kindOfSort_59
    · have hf6 := if_at_f c4 hf3
      clear hf3
      by_cases c7 : a1 = (111 : Int32)
      · have hf8 := if_at_t c7 hf6
        clear hf6
        refine lv_lookup (off := 59) (tgt := 60) hx hb dX4_kindOfSort_1 rfl (by rw [c7] <;> rfl) (by decide) ?_
        refine lv_iconst (v := 5) hx hb dX4_kindOfSort_60 (by decide) ?_
        obtain ⟨rfl, rfl⟩ := ret_inj hf8
        exact x_iret X hr hlocks hP hS dX4_kindOfSort_61
      · have hf9 := if_at_f c7 hf6
        clear hf6
        by_cases c10 : a1 = (115 : Int32)
        · have hf11 := if_at_t c10 hf9
          clear hf9
          refine lv_lookup (off := 51) (tgt := 52) hx hb dX4_kindOfSort_1 rfl (by rw [c10] <;> rfl) (by decide) ?_
          refine lv_iconst (v := 1) hx hb dX4_kindOfSort_52 (by decide) ?_
          obtain ⟨rfl, rfl⟩ := ret_inj hf11
          exact x_iret X hr hlocks hP hS dX4_kindOfSort_53
        · have hf12 := if_at_f c10 hf9
          clear hf9
          by_cases c13 : a1 = (119 : Int32)
          · have hf14 := if_at_t c13 hf12
            clear hf12
            refine lv_lookup (off := 55) (tgt := 56) hx hb dX4_kindOfSort_1 rfl (by rw [c13] <;> rfl) (by decide) ?_
            refine lv_iconst (v := 3) hx hb dX4_kindOfSort_56 (by decide) ?_
            obtain ⟨rfl, rfl⟩ := ret_inj hf14
            exact x_iret X hr hlocks hP hS dX4_kindOfSort_57
          · have hf15 := if_at_f c13 hf12
            clear hf12
            have q0 := sw_ne (j := 98) rfl c1
            have q1 := sw_ne (j := 104) rfl c4
            have q2 := sw_ne (j := 111) rfl c7
            have q3 := sw_ne (j := 115) rfl c10
            have q4 := sw_ne (j := 119) rfl c13
            refine lv_lookup (off := 61) (tgt := 62) hx hb dX4_kindOfSort_1 rfl (by simp [Op.lookupswitch.offset, Ne.symm q0, q0, Ne.symm q1, q1, Ne.symm q2, q2, Ne.symm q3, q3, Ne.symm q4, q4]) (by decide) ?_
            clear q0 q1 q2 q3 q4
            refine lv_iconst (v := 0) hx hb dX4_kindOfSort_62 (by decide) ?_
            obtain ⟨rfl, rfl⟩ := ret_inj hf15
            exact x_iret X hr hlocks hP hS dX4_kindOfSort_63
set_option maxRecDepth 100000 in
set_option maxHeartbeats 4000000 in
theorem tX2_admit (l : Launch) {g : Gx} (hI : InjG g) {h k h1 : Hp} {e : Nat} {a1 : Int32} {a2 : Int32} {a3 : Int32}  (he : isE e) (hf : fX2_admit e a1 a2 a3 h = some ((), h1)) : CV l yX2_admit cX2_admit 4 none 0 g [.ref (g.2.2 e), .int a1, .int a2, .int a3] h k h1 k := by
  refine Met.ofW (cc := cX2_admit) (maxL := 4) (ret := none) (by decide) rfl ?_
  intro p en s m args below meth c s₁ B hml hv
  obtain ⟨rfl, hSK, hSH, hP⟩ := hv
  have X : Cx p s m _ c cX2_admit 4 RX2 g := ⟨B.exec, B.bytes, hml, findClass_of_methodNamed B.named, fun w hw => atoms_spec (ws := wsy yX2_admit cX2_admit 4 none) B.pre w (List.mem_cons_of_mem _ hw), hSK, hI, hSH⟩
  have hr := B.returns
  have hlocks := B.notSynchronized
  have hx := X.1
  have hb := X.2.1
  have hS : va_S (inA g) s.heap s.heap [] := va_S.rf
  clear hSK hSH hml B
  have hl := lv_entry ([.ref (g.2.2 e), .int a1, .int a2, .int a3]) (n := 4) (Nat.le_of_ble_eq_true rfl)
  rw [lg_entry_eq]
  generalize (lg_sl ([.ref (g.2.2 e), .int a1, .int a2, .int a3]) ++ List.replicate (4 - (lg_sl ([.ref (g.2.2 e), .int a1, .int a2, .int a3])).length) Slot.unset).toArray = ls at hl ⊢
  have hl : lv_has ls 4 [(0, .ref (g.2.2 e)), (1, .int a1), (2, .int a2), (3, .int a3)] := hl
  generalize ([.ref (g.2.2 e), .int a1, .int a2, .int a3] : List Value).toArray = args at X ⊢
  show W p l en (rmD 0) s m args below meth c s.heap [] 0 0 (MQ below (QV g h1 k) args s 0 0 (inA g)) (F0 m 0 ls [])
  unfold fX2_admit at hf
  refine lv_aload_n hx hb dX2_admit_0 rfl (lv_at hl 0 rfl) ?_
  refine lv_dup hx hb dX2_admit_1 rfl ?_
  refine gX2 X hP he 14 (v := .int (h e 14)) rfl (by decide) rfl wd_140 dX2_admit_2 ?_
  refine lv_iconst (v := 1) hx hb dX2_admit_5 (by decide) ?_
  refine lv_iload_n hx hb dX2_admit_6 rfl (lv_at hl 1 rfl) ?_
  refine x_ishl X dX2_admit_7 ?_
  refine lv_ior hx hb dX2_admit_8 ?_
  refine pX2 X hP hS (he) 14 (by decide) rfl wd_140 rfl rfl rfl rfl seX2_14 dX2_admit_9 (fun H1 lc2 hh3 ehh3 hP4 hS5 => ?_)
  have hf6 := lk_at ehh3 hf
  clear hf hP hS
  refine lv_aload_n hx hb dX2_admit_12 rfl (lv_at hl 0 rfl) ?_
  refine gX2 X hP4 he 2 (v := .ref (g.2.2 (e + 3))) rfl (by decide) rfl wd_100 dX2_admit_13 ?_
  refine lv_iload_n hx hb dX2_admit_16 rfl (lv_at hl 1 rfl) ?_
  refine lv_iload_n hx hb dX2_admit_17 rfl (lv_at hl 2 rfl) ?_
  obtain ⟨hc7, hf8⟩ := chk_some hf6
  refine x_istC X hP4 hS5 (e + 3) (ia_E3 he) hc7 dX2_admit_18 (fun H9 lc10 hh11 ehh11 hP12 hS13 => ?_)
  have hf14 := lk_at ehh11 hf8
  clear hf8 hP4 hS5
  refine lv_aload_n hx hb dX2_admit_19 rfl (lv_at hl 0 rfl) ?_
  refine gX2 X hP12 he 4 (v := .ref (g.2.2 (e + 5))) rfl (by decide) rfl wd_105 dX2_admit_20 ?_
  refine lv_iload_n hx hb dX2_admit_23 rfl (lv_at hl 1 rfl) ?_
  refine lv_iload_n hx hb dX2_admit_24 rfl (lv_at hl 3 rfl) ?_
  obtain ⟨hc15, hf16⟩ := chk_some hf14
  refine x_istC X hP12 hS13 (e + 5) (ia_E5 he) hc15 dX2_admit_25 (fun H17 lc18 hh19 ehh19 hP20 hS21 => ?_)
  have hf22 := lk_at ehh19 hf16
  clear hf16 hP12 hS13
  obtain ⟨-, rfl⟩ := ret_inj hf22
  exact x_vret X hr hlocks hP20 hS21 dX2_admit_26
set_option maxRecDepth 100000 in
set_option maxHeartbeats 4000000 in
theorem tX2_addSheet (l : Launch) {g : Gx} (hI : InjG g) {h k h1 : Hp} {e : Nat} {a1 : Int32} {a2 : Int32} {a3 : Int32} {a4 : Int32}  (he : isE e) (hf : fX2_addSheet e a1 a2 a3 a4 h = some ((), h1)) : CV l yX2_addSheet cX2_addSheet 5 none 1 g [.ref (g.2.2 e), .int a1, .int a2, .int a3, .int a4] h k h1 k := by
  refine Met.ofW (cc := cX2_addSheet) (maxL := 5) (ret := none) (by decide) rfl ?_
  intro p en s m args below meth c s₁ B hml hv
  obtain ⟨rfl, hSK, hSH, hP⟩ := hv
  have X : Cx p s m _ c cX2_addSheet 5 RX2 g := ⟨B.exec, B.bytes, hml, findClass_of_methodNamed B.named, fun w hw => atoms_spec (ws := wsy yX2_addSheet cX2_addSheet 5 none) B.pre w (List.mem_cons_of_mem _ hw), hSK, hI, hSH⟩
  have hr := B.returns
  have hlocks := B.notSynchronized
  have hx := X.1
  have hb := X.2.1
  have hS : va_S (inA g) s.heap s.heap [] := va_S.rf
  clear hSK hSH hml B
  have hl := lv_entry ([.ref (g.2.2 e), .int a1, .int a2, .int a3, .int a4]) (n := 5) (Nat.le_of_ble_eq_true rfl)
  rw [lg_entry_eq]
  generalize (lg_sl ([.ref (g.2.2 e), .int a1, .int a2, .int a3, .int a4]) ++ List.replicate (5 - (lg_sl ([.ref (g.2.2 e), .int a1, .int a2, .int a3, .int a4])).length) Slot.unset).toArray = ls at hl ⊢
  have hl : lv_has ls 5 [(0, .ref (g.2.2 e)), (1, .int a1), (2, .int a2), (3, .int a3), (4, .int a4)] := hl
  generalize ([.ref (g.2.2 e), .int a1, .int a2, .int a3, .int a4] : List Value).toArray = args at X ⊢
  show W p l en (rmD 1) s m args below meth c s.heap [] 0 0 (MQ below (QV g h1 k) args s 0 0 (inA g)) (F0 m 0 ls [])
  unfold fX2_addSheet at hf
  refine lv_aload_n hx hb dX2_addSheet_0 rfl (lv_at hl 0 rfl) ?_
  refine gX2 X hP he 12 (v := .int (h e 12)) rfl (by decide) rfl wd_133 dX2_addSheet_1 ?_
  refine lv_bipush (v := 6) hx hb dX2_addSheet_4 (by decide) ?_
  refine lv_icmp_ge (tgt := 50) hx hb dX2_addSheet_6 (by decide) (fun c1 => ?_) (fun c1 => ?_)
  · have hf2 := if_at_t c1 hf
    clear hf
    obtain ⟨-, rfl⟩ := ret_inj hf2
    exact x_vret X hr hlocks hP hS dX2_addSheet_50
  · have hf3 := if_at_f c1 hf
    clear hf
    refine lv_aload_n hx hb dX2_addSheet_9 rfl (lv_at hl 0 rfl) ?_
    refine gX2 X hP he 1 (v := .ref (g.2.2 (e + 2))) rfl (by decide) rfl wd_96 dX2_addSheet_10 ?_
    refine lv_aload_n hx hb dX2_addSheet_13 rfl (lv_at hl 0 rfl) ?_
    refine gX2 X hP he 12 (v := .int (h e 12)) rfl (by decide) rfl wd_133 dX2_addSheet_14 ?_
    refine lv_iload_n hx hb dX2_addSheet_17 rfl (lv_at hl 1 rfl) ?_
    obtain ⟨hc4, hf5⟩ := chk_some hf3
    refine x_istC X hP hS (e + 2) (ia_E2 he) hc4 dX2_addSheet_18 (fun H6 lc7 hh8 ehh8 hP9 hS10 => ?_)
    have hf11 := lk_at ehh8 hf5
    clear hf5 hP hS
    refine lv_aload_n hx hb dX2_addSheet_19 rfl (lv_at hl 0 rfl) ?_
    refine gX2 X hP9 he 3 (v := .ref (g.2.2 (e + 4))) rfl (by decide) rfl wd_102 dX2_addSheet_20 ?_
    refine lv_aload_n hx hb dX2_addSheet_23 rfl (lv_at hl 0 rfl) ?_
    refine gX2 X hP9 he 12 (v := .int (hh8 e 12)) rfl (by decide) rfl wd_133 dX2_addSheet_24 ?_
    refine lv_iload_n hx hb dX2_addSheet_27 rfl (lv_at hl 3 rfl) ?_
    obtain ⟨hc12, hf13⟩ := chk_some hf11
    refine x_istC X hP9 hS10 (e + 4) (ia_E4 he) hc12 dX2_addSheet_28 (fun H14 lc15 hh16 ehh16 hP17 hS18 => ?_)
    have hf19 := lk_at ehh16 hf13
    clear hf13 hP9 hS10
    refine lv_aload_n hx hb dX2_addSheet_29 rfl (lv_at hl 0 rfl) ?_
    refine lv_aload_n hx hb dX2_addSheet_30 rfl (lv_at hl 0 rfl) ?_
    refine gX2 X hP17 he 12 (v := .int (hh16 e 12)) rfl (by decide) rfl wd_133 dX2_addSheet_31 ?_
    refine lv_iload_n hx hb dX2_addSheet_34 rfl (lv_at hl 2 rfl) ?_
    refine lv_iload hx hb dX2_addSheet_35 (lv_at hl 4 rfl) ?_
    obtain ⟨⟨⟩, hh21, hg27, hf26⟩ := bd_some hf19
    refine x_cv (x_runV (As := [.int (hh16 e 12), .int a2, .int a4]) (rest := []) X hP17 hS18 e (isE_lt he) (cl_E he) rfl (tX2_admit l X.2.2.2.2.2.2.1 he hg27) mi_X2_74 rfl hl.1 rfl (Nat.le_of_ble_eq_true rfl) dX2_addSheet_37 ⟨Nat.le_of_ble_eq_true rfl, Nat.le_of_ble_eq_true rfl⟩ ⟨Nat.zero_le _, Nat.zero_le _⟩) hS18 (fun H22 lc23 hP24 hS25 => ?_)
    clear hf19 hP17 hS18 hg27
    refine lv_aload_n hx hb dX2_addSheet_40 rfl (lv_at hl 0 rfl) ?_
    refine lv_dup hx hb dX2_addSheet_41 rfl ?_
    refine gX2 X hP24 he 12 (v := .int (hh21 e 12)) rfl (by decide) rfl wd_133 dX2_addSheet_42 ?_
    refine lv_iconst (v := 1) hx hb dX2_addSheet_45 (by decide) ?_
    refine lv_iadd hx hb dX2_addSheet_46 ?_
    refine pX2 X hP24 hS25 (he) 12 (by decide) rfl wd_133 rfl rfl rfl rfl seX2_12 dX2_addSheet_47 (fun H28 lc29 hh30 ehh30 hP31 hS32 => ?_)
    have hf33 := lk_at ehh30 hf26
    clear hf26 hP24 hS25
    obtain ⟨-, rfl⟩ := ret_inj hf33
    exact x_vret X hr hlocks hP31 hS32 dX2_addSheet_50
set_option maxRecDepth 100000 in
set_option maxHeartbeats 4000000 in
theorem tX4_readSheet (l : Launch) {g : Gx} (hI : InjG g) {h k h1 : Hp}    (hf : fX4_readSheet h = some ((), h1)) : CV l yX4_readSheet cX4_readSheet 5 none 5 g [.ref (g.2.2 205)] h k h1 k := by
  refine Met.ofW (cc := cX4_readSheet) (maxL := 5) (ret := none) (by decide) rfl ?_
  intro p en s m args below meth c s₁ B hml hv
  obtain ⟨rfl, hSK, hSH, hP⟩ := hv
  have X : Cx p s m _ c cX4_readSheet 5 RX4 g := ⟨B.exec, B.bytes, hml, findClass_of_methodNamed B.named, fun w hw => atoms_spec (ws := wsy yX4_readSheet cX4_readSheet 5 none) B.pre w (List.mem_cons_of_mem _ hw), hSK, hI, hSH⟩
  have hr := B.returns
  have hlocks := B.notSynchronized
  have hx := X.1
  have hb := X.2.1
  have hS : va_S (inA g) s.heap s.heap [] := va_S.rf
  clear hSK hSH hml B
  have hl := lv_entry ([.ref (g.2.2 205)]) (n := 5) (Nat.le_of_ble_eq_true rfl)
  rw [lg_entry_eq]
  generalize (lg_sl ([.ref (g.2.2 205)]) ++ List.replicate (5 - (lg_sl ([.ref (g.2.2 205)])).length) Slot.unset).toArray = ls at hl ⊢
  have hl : lv_has ls 5 [(0, .ref (g.2.2 205))] := hl
  generalize ([.ref (g.2.2 205)] : List Value).toArray = args at X ⊢
  show W p l en (rmD 5) s m args below meth c s.heap [] 0 0 (MQ below (QV g h1 k) args s 0 0 (inA g)) (F0 m 0 ls [])
  unfold fX4_readSheet at hf
  refine lv_aload_n hx hb dX4_readSheet_0 rfl (lv_at hl 0 rfl) ?_
  refine gX4 X hP 5 (v := .int (h 205 5)) rfl (by decide) rfl wd_188 dX4_readSheet_1 ?_
  obtain ⟨x1, hh2, hg8, hf7⟩ := bd_some hf
  refine x_ci (x_runS (As := [.int (h 205 5)]) (rest := []) X hP hS (tX4_kindOfSort l X.2.2.2.2.2.2.1  hg8) mi_X4_83 rfl hl.1 rfl (Nat.le_of_ble_eq_true rfl) dX4_readSheet_4 ⟨Nat.le_of_ble_eq_true rfl, Nat.le_of_ble_eq_true rfl⟩ ⟨Nat.zero_le _, Nat.zero_le _⟩) hS (fun H3 lc4 hP5 hS6 => ?_)
  clear hf hP hS hg8
  refine lv_istore_n (lv' := [(1, .int x1), (0, .ref (g.2.2 205))]) hx hb dX4_readSheet_7 rfl hl (by decide) rfl (fun ls9 hl10 => ?_)
  clear hl
  refine lv_iload_n hx hb dX4_readSheet_8 rfl (lv_at hl10 0 rfl) ?_
  obtain ⟨J37_11, eJ37_11, hf90⟩ := jp_at hf7
  clear hf7
  have hJ37_11 : ∀  (hh12 : Hp) (H13 : Heap) (lc14 : List Loc) (ls15 : Array Slot), J37_11  hh12 = some ((), h1) → va_P g.1 vwCl (WW g hh12 k) H13 → va_S (inA g) s.heap H13 lc14 → lv_has ls15 5 [(0, .ref (g.2.2 205)), (1, .int x1)] → W p l en (rmD 5) s m args below meth c H13 lc14 0 0 (MQ below (QV g h1 k) args s 0 0 (inA g)) (F0 m 37 ls15 []) := by
    intro  hh12 H13 lc14 ls15 hf19 hP16 hS17 hl18
    clear hf90 hP5 hS6 hl10
    subst eJ37_11
    refine lv_aload_n hx hb dX4_readSheet_37 rfl (lv_at hl18 0 rfl) ?_
    refine lv_aload_n hx hb dX4_readSheet_38 rfl (lv_at hl18 0 rfl) ?_
    refine gX4 X hP16 5 (v := .int (hh12 205 5)) rfl (by decide) rfl wd_188 dX4_readSheet_39 ?_
    obtain ⟨⟨⟩, hh21, hg27, hf26⟩ := bd_some hf19
    refine x_cv (x_runV (As := [.int (hh12 205 5)]) (rest := []) X hP16 hS17 205 (by decide) cl_Rd rfl (tX4_take l X.2.2.2.2.2.2.1  hg27) mi_X4_54 rfl hl18.1 rfl (Nat.le_of_ble_eq_true rfl) dX4_readSheet_42 ⟨Nat.le_of_ble_eq_true rfl, Nat.le_of_ble_eq_true rfl⟩ ⟨Nat.zero_le _, Nat.zero_le _⟩) hS17 (fun H22 lc23 hP24 hS25 => ?_)
    clear hf19 hP16 hS17 hg27
    refine lv_aload_n hx hb dX4_readSheet_45 rfl (lv_at hl18 0 rfl) ?_
    refine lv_iconst (v := 0) hx hb dX4_readSheet_46 (by decide) ?_
    refine lv_aload_n hx hb dX4_readSheet_47 rfl (lv_at hl18 0 rfl) ?_
    refine gX4 X hP24 0 (v := .ref (g.2.2 7)) rfl (by decide) rfl wd_179 dX4_readSheet_48 ?_
    refine gX2 X hP24 (⟨rfl, by decide⟩ : isE 7) 7 (v := .int (hh21 7 7)) rfl (by decide) rfl wd_115 dX4_readSheet_51 ?_
    refine lv_iconst (v := 1) hx hb dX4_readSheet_54 (by decide) ?_
    refine lv_isub hx hb dX4_readSheet_55 ?_
    obtain ⟨x28, hh29, hg35, hf34⟩ := bd_some hf26
    refine x_ci (x_runV (As := [.int (0 : Int32), .int ((hh21 7 7) - (1 : Int32))]) (rest := []) X hP24 hS25 205 (by decide) cl_Rd rfl (tX4_takeNumber l X.2.2.2.2.2.2.1  hg35) mi_X4_58 rfl hl18.1 rfl (Nat.le_of_ble_eq_true rfl) dX4_readSheet_56 ⟨Nat.le_of_ble_eq_true rfl, Nat.le_of_ble_eq_true rfl⟩ ⟨Nat.zero_le _, Nat.zero_le _⟩) hS25 (fun H30 lc31 hP32 hS33 => ?_)
    clear hf26 hP24 hS25 hg35
    refine lv_istore_n (lv' := [(2, .int x28), (0, .ref (g.2.2 205)), (1, .int x1)]) hx hb dX4_readSheet_59 rfl hl18 (by decide) rfl (fun ls36 hl37 => ?_)
    clear hl18
    refine lv_aload_n hx hb dX4_readSheet_60 rfl (lv_at hl37 1 rfl) ?_
    refine lv_bipush (v := 44) hx hb dX4_readSheet_61 (by decide) ?_
    obtain ⟨⟨⟩, hh39, hg45, hf44⟩ := bd_some hf34
    refine x_cv (x_runV (As := [.int (44 : Int32)]) (rest := []) X hP32 hS33 205 (by decide) cl_Rd rfl (tX4_take l X.2.2.2.2.2.2.1  hg45) mi_X4_54 rfl hl37.1 rfl (Nat.le_of_ble_eq_true rfl) dX4_readSheet_63 ⟨Nat.le_of_ble_eq_true rfl, Nat.le_of_ble_eq_true rfl⟩ ⟨Nat.zero_le _, Nat.zero_le _⟩) hS33 (fun H40 lc41 hP42 hS43 => ?_)
    clear hf34 hP32 hS33 hg45
    refine lv_aload_n hx hb dX4_readSheet_66 rfl (lv_at hl37 1 rfl) ?_
    refine lv_iconst (v := 1) hx hb dX4_readSheet_67 (by decide) ?_
    refine lv_iconst (v := 5) hx hb dX4_readSheet_68 (by decide) ?_
    obtain ⟨x46, hh47, hg53, hf52⟩ := bd_some hf44
    refine x_ci (x_runV (As := [.int (1 : Int32), .int (5 : Int32)]) (rest := []) X hP42 hS43 205 (by decide) cl_Rd rfl (tX4_takeNumber l X.2.2.2.2.2.2.1  hg53) mi_X4_58 rfl hl37.1 rfl (Nat.le_of_ble_eq_true rfl) dX4_readSheet_69 ⟨Nat.le_of_ble_eq_true rfl, Nat.le_of_ble_eq_true rfl⟩ ⟨Nat.zero_le _, Nat.zero_le _⟩) hS43 (fun H48 lc49 hP50 hS51 => ?_)
    clear hf44 hP42 hS43 hg53
    refine lv_istore_n (lv' := [(3, .int x46), (2, .int x28), (0, .ref (g.2.2 205)), (1, .int x1)]) hx hb dX4_readSheet_72 rfl hl37 (by decide) rfl (fun ls54 hl55 => ?_)
    clear hl37
    refine lv_aload_n hx hb dX4_readSheet_73 rfl (lv_at hl55 2 rfl) ?_
    refine lv_bipush (v := 44) hx hb dX4_readSheet_74 (by decide) ?_
    obtain ⟨⟨⟩, hh57, hg63, hf62⟩ := bd_some hf52
    refine x_cv (x_runV (As := [.int (44 : Int32)]) (rest := []) X hP50 hS51 205 (by decide) cl_Rd rfl (tX4_take l X.2.2.2.2.2.2.1  hg63) mi_X4_54 rfl hl55.1 rfl (Nat.le_of_ble_eq_true rfl) dX4_readSheet_76 ⟨Nat.le_of_ble_eq_true rfl, Nat.le_of_ble_eq_true rfl⟩ ⟨Nat.zero_le _, Nat.zero_le _⟩) hS51 (fun H58 lc59 hP60 hS61 => ?_)
    clear hf52 hP50 hS51 hg63
    refine lv_aload_n hx hb dX4_readSheet_79 rfl (lv_at hl55 2 rfl) ?_
    refine lv_iconst (v := 1) hx hb dX4_readSheet_80 (by decide) ?_
    refine lv_bipush (v := 9) hx hb dX4_readSheet_81 (by decide) ?_
    obtain ⟨x64, hh65, hg71, hf70⟩ := bd_some hf62
    refine x_ci (x_runV (As := [.int (1 : Int32), .int (9 : Int32)]) (rest := []) X hP60 hS61 205 (by decide) cl_Rd rfl (tX4_takeNumber l X.2.2.2.2.2.2.1  hg71) mi_X4_58 rfl hl55.1 rfl (Nat.le_of_ble_eq_true rfl) dX4_readSheet_83 ⟨Nat.le_of_ble_eq_true rfl, Nat.le_of_ble_eq_true rfl⟩ ⟨Nat.zero_le _, Nat.zero_le _⟩) hS61 (fun H66 lc67 hP68 hS69 => ?_)
    clear hf62 hP60 hS61 hg71
    refine lv_istore (lv' := [(4, .int x64), (3, .int x46), (2, .int x28), (0, .ref (g.2.2 205)), (1, .int x1)]) hx hb dX4_readSheet_86 hl55 (by decide) rfl (fun ls72 hl73 => ?_)
    clear hl55
    refine lv_aload_n hx hb dX4_readSheet_88 rfl (lv_at hl73 3 rfl) ?_
    refine lv_bipush (v := 59) hx hb dX4_readSheet_89 (by decide) ?_
    obtain ⟨⟨⟩, hh75, hg81, hf80⟩ := bd_some hf70
    refine x_cv (x_runV (As := [.int (59 : Int32)]) (rest := []) X hP68 hS69 205 (by decide) cl_Rd rfl (tX4_take l X.2.2.2.2.2.2.1  hg81) mi_X4_54 rfl hl73.1 rfl (Nat.le_of_ble_eq_true rfl) dX4_readSheet_91 ⟨Nat.le_of_ble_eq_true rfl, Nat.le_of_ble_eq_true rfl⟩ ⟨Nat.zero_le _, Nat.zero_le _⟩) hS69 (fun H76 lc77 hP78 hS79 => ?_)
    clear hf70 hP68 hS69 hg81
    refine lv_aload_n hx hb dX4_readSheet_94 rfl (lv_at hl73 3 rfl) ?_
    refine gX4 X hP78 0 (v := .ref (g.2.2 7)) rfl (by decide) rfl wd_179 dX4_readSheet_95 ?_
    refine lv_iload_n hx hb dX4_readSheet_98 rfl (lv_at hl73 4 rfl) ?_
    refine lv_iload_n hx hb dX4_readSheet_99 rfl (lv_at hl73 2 rfl) ?_
    refine lv_iload_n hx hb dX4_readSheet_100 rfl (lv_at hl73 1 rfl) ?_
    refine lv_iload hx hb dX4_readSheet_101 (lv_at hl73 0 rfl) ?_
    obtain ⟨⟨⟩, hh83, hg89, hf88⟩ := bd_some hf80
    refine x_cv (x_runV (As := [.int x1, .int x28, .int x46, .int x64]) (rest := []) X hP78 hS79 7 (by decide) (cl_E (⟨rfl, by decide⟩ : isE 7)) rfl (tX2_addSheet l X.2.2.2.2.2.2.1 (⟨rfl, by decide⟩ : isE 7) hg89) mi_X4_90 rfl hl73.1 rfl (Nat.le_of_ble_eq_true rfl) dX4_readSheet_103 ⟨Nat.le_of_ble_eq_true rfl, Nat.le_of_ble_eq_true rfl⟩ ⟨Nat.zero_le _, Nat.zero_le _⟩) hS79 (fun H84 lc85 hP86 hS87 => ?_)
    clear hf80 hP78 hS79 hg89
    obtain ⟨-, rfl⟩ := ret_inj hf88
    exact x_vret X hr hlocks hP86 hS87 dX4_readSheet_106
  clear eJ37_11
  refine lv_if_ne (tgt := 20) hx hb dX4_readSheet_9 (by decide) (fun c91 => ?_) (fun c91 => ?_)
  · have hf92 := if_at_f c91 hf90
    clear hf90
    refine lv_aload_n hx hb dX4_readSheet_20 rfl (lv_at hl10 1 rfl) ?_
    refine gX4 X hP5 0 (v := .ref (g.2.2 7)) rfl (by decide) rfl wd_179 dX4_readSheet_21 ?_
    refine gX2 X hP5 (⟨rfl, by decide⟩ : isE 7) 12 (v := .int (hh2 7 12)) rfl (by decide) rfl wd_134 dX4_readSheet_24 ?_
    refine lv_bipush (v := 6) hx hb dX4_readSheet_27 (by decide) ?_
    refine lv_icmp_ne (tgt := 37) hx hb dX4_readSheet_29 (by decide) (fun c93 => ?_) (fun c93 => ?_)
    · have hf94 := if_at_f c93 hf92
      clear hf92
      exact hJ37_11 hh2  _ _ _ hf94 hP5 hS6 (lv_sub hl10 [1, 0] rfl)
    · have hf95 := if_at_t c93 hf92
      clear hf92
      refine lv_aload_n hx hb dX4_readSheet_32 rfl (lv_at hl10 1 rfl) ?_
      refine lv_iconst (v := 3) hx hb dX4_readSheet_33 (by decide) ?_
      obtain ⟨⟨⟩, hh97, hg103, hf102⟩ := bd_some hf95
      refine x_cv (x_runV (As := [.int (3 : Int32)]) (rest := []) X hP5 hS6 205 (by decide) cl_Rd rfl (tX4_fail l X.2.2.2.2.2.2.1  hg103) mi_X4_77 rfl hl10.1 rfl (Nat.le_of_ble_eq_true rfl) dX4_readSheet_34 ⟨Nat.le_of_ble_eq_true rfl, Nat.le_of_ble_eq_true rfl⟩ ⟨Nat.zero_le _, Nat.zero_le _⟩) hS6 (fun H98 lc99 hP100 hS101 => ?_)
      clear hf95 hP5 hS6 hg103
      exact hJ37_11 hh97  _ _ _ hf102 hP100 hS101 (lv_sub hl10 [1, 0] rfl)
  · have hf104 := if_at_t c91 hf90
    clear hf90
    refine lv_aload_n hx hb dX4_readSheet_12 rfl (lv_at hl10 1 rfl) ?_
    refine lv_iconst (v := 1) hx hb dX4_readSheet_13 (by decide) ?_
    obtain ⟨⟨⟩, hh106, hg112, hf111⟩ := bd_some hf104
    refine x_cv (x_runV (As := [.int (1 : Int32)]) (rest := []) X hP5 hS6 205 (by decide) cl_Rd rfl (tX4_fail l X.2.2.2.2.2.2.1  hg112) mi_X4_77 rfl hl10.1 rfl (Nat.le_of_ble_eq_true rfl) dX4_readSheet_14 ⟨Nat.le_of_ble_eq_true rfl, Nat.le_of_ble_eq_true rfl⟩ ⟨Nat.zero_le _, Nat.zero_le _⟩) hS6 (fun H107 lc108 hP109 hS110 => ?_)
    clear hf104 hP5 hS6 hg112
    refine lv_goto (tgt := 37) hx hb dX4_readSheet_17 (by decide) ?_
    exact hJ37_11 hh106  _ _ _ hf111 hP109 hS110 (lv_sub hl10 [1, 0] rfl)
set_option maxRecDepth 100000 in
set_option maxHeartbeats 4000000 in
theorem wX4_read_L31 {p : Program} {l : Launch} {en : Env} {s : State} {m : MethodId} {args : Array Value} {below : List Frame} {meth : Method} {c : Code} {g : Gx} (X : Cx p s m args c cX4_read 2 RX4 g) (hr : meth.sig.returnType = none) (hlocks : meth.locks = false) {k h1 : Hp}   {K63 : Hp → Option (Unit × Hp)}
    (hK63 : ∀  (h : Hp) (H : Heap) (locs : List Loc) (ls : Array Slot), K63  h = some ((), h1) → va_P g.1 vwCl (WW g h k) H → va_S (inA g) s.heap H locs → lv_has ls 2 [(0, .ref (g.2.2 205))] → W p l en (rmD 6) s m args below meth c H locs 0 0 (MQ below (QV g h1 k) args s 0 0 (inA g)) (F0 m 63 ls [])) :
    ∀ (n : Nat) (v1 : Int32) (h : Hp) (H : Heap) (locs : List Loc) (ls : Array Slot), fX4_read_L31 K63 n v1 h = some ((), h1) → va_P g.1 vwCl (WW g h k) H → va_S (inA g) s.heap H locs → lv_has ls 2 [(0, .ref (g.2.2 205)), (1, .int v1)] → W p l en (rmD 6) s m args below meth c H locs 0 0 (MQ below (QV g h1 k) args s 0 0 (inA g)) (F0 m 31 ls []) := by
  have hx := X.1
  have hb := X.2.1
  intro n
  induction n with
  | zero => intro v1 h H locs ls  hf; simp only [fX4_read_L31, reduceCtorEq] at hf
  | succ n ih =>
    intro v1 h H locs ls  hf hP hS hl
    rw [fX4_read_L31] at hf
    refine lv_iload_n hx hb dX4_read_31 rfl (lv_at hl 1 rfl) ?_
    refine lv_bipush (v := 6) hx hb dX4_read_32 (by decide) ?_
    refine lv_icmp_ge (tgt := 63) hx hb dX4_read_34 (by decide) (fun c47 => ?_) (fun c47 => ?_)
    · have hf48 := if_at_t c47 hf
      clear hf
      exact hK63 h  _ _ _ hf48 hP hS (lv_sub hl [0] rfl)
    · have hf49 := if_at_f c47 hf
      clear hf
      refine lv_aload_n hx hb dX4_read_37 rfl (lv_at hl 0 rfl) ?_
      refine gX4 X hP 2 (v := .int (h 205 2)) rfl (by decide) rfl wd_183 dX4_read_38 ?_
      refine lv_if_ne (tgt := 63) hx hb dX4_read_41 (by decide) (fun c50 => ?_) (fun c50 => ?_)
      · have hf51 := if_at_f c50 hf49
        clear hf49
        exact hK63 h  _ _ _ hf51 hP hS (lv_sub hl [0] rfl)
      · have hf52 := if_at_t c50 hf49
        clear hf49
        refine lv_aload_n hx hb dX4_read_44 rfl (lv_at hl 0 rfl) ?_
        refine gX4 X hP 5 (v := .int (h 205 5)) rfl (by decide) rfl wd_188 dX4_read_45 ?_
        refine lv_bipush (v := 103) hx hb dX4_read_48 (by decide) ?_
        refine lv_icmp_ne (tgt := 63) hx hb dX4_read_50 (by decide) (fun c53 => ?_) (fun c53 => ?_)
        · have hf54 := if_at_f c53 hf52
          clear hf52
          exact hK63 h  _ _ _ hf54 hP hS (lv_sub hl [0] rfl)
        · have hf55 := if_at_t c53 hf52
          clear hf52
          refine lv_aload_n hx hb dX4_read_53 rfl (lv_at hl 0 rfl) ?_
          obtain ⟨⟨⟩, hh57, hg63, hf62⟩ := bd_some hf55
          refine x_cv (x_runV (As := []) (rest := []) X hP hS 205 (by decide) cl_Rd rfl (tX4_readWind l X.2.2.2.2.2.2.1  hg63) mi_X4_41 rfl hl.1 rfl (Nat.le_of_ble_eq_true rfl) dX4_read_54 ⟨Nat.le_of_ble_eq_true rfl, Nat.le_of_ble_eq_true rfl⟩ ⟨Nat.zero_le _, Nat.zero_le _⟩) hS (fun H58 lc59 hP60 hS61 => ?_)
          clear hf55 hP hS hg63
          obtain ⟨x64, ex64⟩ : ∃ q : Int32, q = v1 + (1 : Int32) := ⟨_, rfl⟩
          have hf65 := lk_at ex64 hf62
          clear hf62
          refine lv_iinc (v := x64) (lv' := [(1, .int x64), (0, .ref (g.2.2 205))]) hx hb dX4_read_57 hl (k := 1) rfl (by rw [ex64]; rfl) (by decide) rfl (fun ls66 hl67 => ?_)
          clear hl
          refine lv_goto (tgt := 31) hx hb dX4_read_60 (by decide) ?_
          exact ih x64 hh57  _ _ _ hf65 hP60 hS61 (lv_sub hl67 [1, 0] rfl)
set_option maxRecDepth 100000 in
set_option maxHeartbeats 4000000 in
theorem wX4_read_L69 {p : Program} {l : Launch} {en : Env} {s : State} {m : MethodId} {args : Array Value} {below : List Frame} {meth : Method} {c : Code} {g : Gx} (X : Cx p s m args c cX4_read 2 RX4 g) (hr : meth.sig.returnType = none) (hlocks : meth.locks = false) {k h1 : Hp}   {K102 : Hp → Option (Unit × Hp)}
    (hK102 : ∀  (h : Hp) (H : Heap) (locs : List Loc) (ls : Array Slot), K102  h = some ((), h1) → va_P g.1 vwCl (WW g h k) H → va_S (inA g) s.heap H locs → lv_has ls 2 [(0, .ref (g.2.2 205))] → W p l en (rmD 6) s m args below meth c H locs 0 0 (MQ below (QV g h1 k) args s 0 0 (inA g)) (F0 m 102 ls [])) :
    ∀ (n : Nat) (v1 : Int32) (h : Hp) (H : Heap) (locs : List Loc) (ls : Array Slot), fX4_read_L69 K102 n v1 h = some ((), h1) → va_P g.1 vwCl (WW g h k) H → va_S (inA g) s.heap H locs → lv_has ls 2 [(0, .ref (g.2.2 205)), (1, .int v1)] → W p l en (rmD 6) s m args below meth c H locs 0 0 (MQ below (QV g h1 k) args s 0 0 (inA g)) (F0 m 69 ls []) := by
  have hx := X.1
  have hb := X.2.1
  intro n
  induction n with
  | zero => intro v1 h H locs ls  hf; simp only [fX4_read_L69, reduceCtorEq] at hf
  | succ n ih =>
    intro v1 h H locs ls  hf hP hS hl
    rw [fX4_read_L69] at hf
    refine lv_iload_n hx hb dX4_read_69 rfl (lv_at hl 1 rfl) ?_
    refine lv_bipush (v := 6) hx hb dX4_read_70 (by decide) ?_
    refine lv_icmp_ge (tgt := 102) hx hb dX4_read_72 (by decide) (fun c86 => ?_) (fun c86 => ?_)
    · have hf87 := if_at_t c86 hf
      clear hf
      exact hK102 h  _ _ _ hf87 hP hS (lv_sub hl [0] rfl)
    · have hf88 := if_at_f c86 hf
      clear hf
      refine lv_aload_n hx hb dX4_read_75 rfl (lv_at hl 0 rfl) ?_
      refine gX4 X hP 2 (v := .int (h 205 2)) rfl (by decide) rfl wd_183 dX4_read_76 ?_
      refine lv_if_ne (tgt := 102) hx hb dX4_read_79 (by decide) (fun c89 => ?_) (fun c89 => ?_)
      · have hf90 := if_at_f c89 hf88
        clear hf88
        exact hK102 h  _ _ _ hf90 hP hS (lv_sub hl [0] rfl)
      · have hf91 := if_at_t c89 hf88
        clear hf88
        refine lv_aload_n hx hb dX4_read_82 rfl (lv_at hl 0 rfl) ?_
        refine gX4 X hP 5 (v := .int (h 205 5)) rfl (by decide) rfl wd_188 dX4_read_83 ?_
        refine lv_sipush (v := 258) hx hb dX4_read_86 (by decide) ?_
        refine lv_icmp_eq (tgt := 102) hx hb dX4_read_89 (by decide) (fun c92 => ?_) (fun c92 => ?_)
        · have hf93 := if_at_t c92 hf91
          clear hf91
          exact hK102 h  _ _ _ hf93 hP hS (lv_sub hl [0] rfl)
        · have hf94 := if_at_f c92 hf91
          clear hf91
          refine lv_aload_n hx hb dX4_read_92 rfl (lv_at hl 0 rfl) ?_
          obtain ⟨⟨⟩, hh96, hg102, hf101⟩ := bd_some hf94
          refine x_cv (x_runV (As := []) (rest := []) X hP hS 205 (by decide) cl_Rd rfl (tX4_readSheet l X.2.2.2.2.2.2.1  hg102) mi_X4_47 rfl hl.1 rfl (Nat.le_of_ble_eq_true rfl) dX4_read_93 ⟨Nat.le_of_ble_eq_true rfl, Nat.le_of_ble_eq_true rfl⟩ ⟨Nat.zero_le _, Nat.zero_le _⟩) hS (fun H97 lc98 hP99 hS100 => ?_)
          clear hf94 hP hS hg102
          obtain ⟨x103, ex103⟩ : ∃ q : Int32, q = v1 + (1 : Int32) := ⟨_, rfl⟩
          have hf104 := lk_at ex103 hf101
          clear hf101
          refine lv_iinc (v := x103) (lv' := [(1, .int x103), (0, .ref (g.2.2 205))]) hx hb dX4_read_96 hl (k := 1) rfl (by rw [ex103]; rfl) (by decide) rfl (fun ls105 hl106 => ?_)
          clear hl
          refine lv_goto (tgt := 69) hx hb dX4_read_99 (by decide) ?_
          exact ih x103 hh96  _ _ _ hf104 hP99 hS100 (lv_sub hl106 [1, 0] rfl)
set_option maxRecDepth 100000 in
set_option maxHeartbeats 4000000 in
theorem tX4_read (l : Launch) {g : Gx} (hI : InjG g) {h k h1 : Hp}    (hf : fX4_read h = some ((), h1)) : CV l yX4_read cX4_read 2 none 6 g [.ref (g.2.2 205)] h k h1 k := by
  refine Met.ofW (cc := cX4_read) (maxL := 2) (ret := none) (by decide) rfl ?_
  intro p en s m args below meth c s₁ B hml hv
  obtain ⟨rfl, hSK, hSH, hP⟩ := hv
  have X : Cx p s m _ c cX4_read 2 RX4 g := ⟨B.exec, B.bytes, hml, findClass_of_methodNamed B.named, fun w hw => atoms_spec (ws := wsy yX4_read cX4_read 2 none) B.pre w (List.mem_cons_of_mem _ hw), hSK, hI, hSH⟩
  have hr := B.returns
  have hlocks := B.notSynchronized
  have hx := X.1
  have hb := X.2.1
  have hS : va_S (inA g) s.heap s.heap [] := va_S.rf
  clear hSK hSH hml B
  have hl := lv_entry ([.ref (g.2.2 205)]) (n := 2) (Nat.le_of_ble_eq_true rfl)
  rw [lg_entry_eq]
  generalize (lg_sl ([.ref (g.2.2 205)]) ++ List.replicate (2 - (lg_sl ([.ref (g.2.2 205)])).length) Slot.unset).toArray = ls at hl ⊢
  have hl : lv_has ls 2 [(0, .ref (g.2.2 205))] := hl
  generalize ([.ref (g.2.2 205)] : List Value).toArray = args at X ⊢
  show W p l en (rmD 6) s m args below meth c s.heap [] 0 0 (MQ below (QV g h1 k) args s 0 0 (inA g)) (F0 m 0 ls [])
  unfold fX4_read at hf
  refine lv_aload_n hx hb dX4_read_0 rfl (lv_at hl 0 rfl) ?_
  refine lv_iconst (v := 0) hx hb dX4_read_1 (by decide) ?_
  refine pX4 X hP hS 2 (by decide) rfl wd_183 rfl rfl rfl rfl seX4_2 dX4_read_2 (fun H1 lc2 hh3 ehh3 hP4 hS5 => ?_)
  have hf6 := lk_at ehh3 hf
  clear hf hP hS
  refine lv_aload_n hx hb dX4_read_5 rfl (lv_at hl 0 rfl) ?_
  refine lv_iconst (v := 0) hx hb dX4_read_6 (by decide) ?_
  refine pX4 X hP4 hS5 7 (by decide) rfl wd_190 rfl rfl rfl rfl seX4_7 dX4_read_7 (fun H7 lc8 hh9 ehh9 hP10 hS11 => ?_)
  have hf12 := lk_at ehh9 hf6
  clear hf6 hP4 hS5
  refine lv_aload_n hx hb dX4_read_10 rfl (lv_at hl 0 rfl) ?_
  refine gX4 X hP10 0 (v := .ref (g.2.2 7)) rfl (by decide) rfl wd_179 dX4_read_11 ?_
  obtain ⟨⟨⟩, hh14, hg20, hf19⟩ := bd_some hf12
  refine x_cv (x_runV (As := []) (rest := []) X hP10 hS11 7 (by decide) (cl_E (⟨rfl, by decide⟩ : isE 7)) rfl (tX2_clear l X.2.2.2.2.2.2.1 (⟨rfl, by decide⟩ : isE 7) hg20) mi_X4_32 rfl hl.1 rfl (Nat.le_of_ble_eq_true rfl) dX4_read_14 ⟨Nat.le_of_ble_eq_true rfl, Nat.le_of_ble_eq_true rfl⟩ ⟨Nat.zero_le _, Nat.zero_le _⟩) hS11 (fun H15 lc16 hP17 hS18 => ?_)
  clear hf12 hP10 hS11 hg20
  refine lv_aload_n hx hb dX4_read_17 rfl (lv_at hl 0 rfl) ?_
  obtain ⟨⟨⟩, hh22, hg28, hf27⟩ := bd_some hf19
  refine x_cv (x_runV (As := []) (rest := []) X hP17 hS18 205 (by decide) cl_Rd rfl (tX4_nextToken l X.2.2.2.2.2.2.1  hg28) mi_X4_35 rfl hl.1 rfl (Nat.le_of_ble_eq_true rfl) dX4_read_18 ⟨Nat.le_of_ble_eq_true rfl, Nat.le_of_ble_eq_true rfl⟩ ⟨Nat.zero_le _, Nat.zero_le _⟩) hS18 (fun H23 lc24 hP25 hS26 => ?_)
  clear hf19 hP17 hS18 hg28
  refine lv_aload_n hx hb dX4_read_21 rfl (lv_at hl 0 rfl) ?_
  obtain ⟨⟨⟩, hh30, hg36, hf35⟩ := bd_some hf27
  refine x_cv (x_runV (As := []) (rest := []) X hP25 hS26 205 (by decide) cl_Rd rfl (tX4_readLaw l X.2.2.2.2.2.2.1  hg36) mi_X4_38 rfl hl.1 rfl (Nat.le_of_ble_eq_true rfl) dX4_read_22 ⟨Nat.le_of_ble_eq_true rfl, Nat.le_of_ble_eq_true rfl⟩ ⟨Nat.zero_le _, Nat.zero_le _⟩) hS26 (fun H31 lc32 hP33 hS34 => ?_)
  clear hf27 hP25 hS26 hg36
  refine lv_aload_n hx hb dX4_read_25 rfl (lv_at hl 0 rfl) ?_
  obtain ⟨⟨⟩, hh38, hg44, hf43⟩ := bd_some hf35
  refine x_cv (x_runV (As := []) (rest := []) X hP33 hS34 205 (by decide) cl_Rd rfl (tX4_readWind l X.2.2.2.2.2.2.1  hg44) mi_X4_41 rfl hl.1 rfl (Nat.le_of_ble_eq_true rfl) dX4_read_26 ⟨Nat.le_of_ble_eq_true rfl, Nat.le_of_ble_eq_true rfl⟩ ⟨Nat.zero_le _, Nat.zero_le _⟩) hS34 (fun H39 lc40 hP41 hS42 => ?_)
  clear hf35 hP33 hS34 hg44
  refine lv_iconst (v := 0) hx hb dX4_read_29 (by decide) ?_
  refine lv_istore_n (lv' := [(1, .int (0 : Int32)), (0, .ref (g.2.2 205))]) hx hb dX4_read_30 rfl hl (by decide) rfl (fun ls45 hl46 => ?_)
  clear hl
  refine wX4_read_L31 X hr hlocks  ?_ 4096 (0 : Int32) hh38 _ _ _  hf43 hP41 hS42 (lv_sub hl46 [1, 0] rfl)
  · intro  hh68 H69 lc70 ls71  hf75 hP72 hS73 hl74
    refine lv_aload_n hx hb dX4_read_63 rfl (lv_at hl74 0 rfl) ?_
    obtain ⟨⟨⟩, hh77, hg83, hf82⟩ := bd_some hf75
    refine x_cv (x_runV (As := []) (rest := []) X hP72 hS73 205 (by decide) cl_Rd rfl (tX4_readSheet l X.2.2.2.2.2.2.1  hg83) mi_X4_47 rfl hl74.1 rfl (Nat.le_of_ble_eq_true rfl) dX4_read_64 ⟨Nat.le_of_ble_eq_true rfl, Nat.le_of_ble_eq_true rfl⟩ ⟨Nat.zero_le _, Nat.zero_le _⟩) hS73 (fun H78 lc79 hP80 hS81 => ?_)
    clear hf75 hP72 hS73 hg83
    refine lv_iconst (v := 0) hx hb dX4_read_67 (by decide) ?_
    refine lv_istore_n (lv' := [(1, .int (0 : Int32)), (0, .ref (g.2.2 205))]) hx hb dX4_read_68 rfl hl74 (by decide) rfl (fun ls84 hl85 => ?_)
    clear hl74
    refine wX4_read_L69 X hr hlocks  ?_ 4096 (0 : Int32) hh77 _ _ _  hf82 hP80 hS81 (lv_sub hl85 [1, 0] rfl)
    · intro  hh107 H108 lc109 ls110  hf114 hP111 hS112 hl113
      refine lv_aload_n hx hb dX4_read_102 rfl (lv_at hl113 0 rfl) ?_
      refine gX4 X hP111 0 (v := .ref (g.2.2 7)) rfl (by decide) rfl wd_179 dX4_read_103 ?_
      refine lv_aload_n hx hb dX4_read_106 rfl (lv_at hl113 0 rfl) ?_
      refine gX4 X hP111 2 (v := .int (hh107 205 2)) rfl (by decide) rfl wd_183 dX4_read_107 ?_
      obtain ⟨J118_115, eJ118_115, hf138⟩ := jp_at hf114
      clear hf114
      have hJ118_115 : ∀ (J118_115s0 : Int32) (hh116 : Hp) (H117 : Heap) (lc118 : List Loc) (ls119 : Array Slot), J118_115 J118_115s0 hh116 = some ((), h1) → va_P g.1 vwCl (WW g hh116 k) H117 → va_S (inA g) s.heap H117 lc118 → lv_has ls119 2 [(0, .ref (g.2.2 205))] → W p l en (rmD 6) s m args below meth c H117 lc118 0 0 (MQ below (QV g h1 k) args s 0 0 (inA g)) (F0 m 118 ls119 [.int J118_115s0, .ref (g.2.2 7)]) := by
        intro J118_115s0 hh116 H117 lc118 ls119 hf123 hP120 hS121 hl122
        clear hf138 hP111 hS112 hl113
        subst eJ118_115
        obtain ⟨hc124, hf125⟩ := chk_some hf123
        refine pX2 X hP120 hS121 (⟨rfl, by decide⟩ : isE 7) 6 (by decide) rfl wd_112 rfl rfl (isB_n hc124).1 (isB_n hc124).2 seX2_6 dX4_read_118 (fun H126 lc127 hh128 ehh128 hP129 hS130 => ?_)
        have hf131 := lk_at ehh128 hf125
        clear hf125 hP120 hS121
        refine lv_aload_n hx hb dX4_read_121 rfl (lv_at hl122 0 rfl) ?_
        refine lv_iconst (v := 0) hx hb dX4_read_122 (by decide) ?_
        refine pX4 X hP129 hS130 1 (by decide) rfl wd_181 rfl rfl rfl rfl seX4_1 dX4_read_123 (fun H132 lc133 hh134 ehh134 hP135 hS136 => ?_)
        have hf137 := lk_at ehh134 hf131
        clear hf131 hP129 hS130
        obtain ⟨-, rfl⟩ := ret_inj hf137
        exact x_vret X hr hlocks hP135 hS136 dX4_read_126
      clear eJ118_115
      refine lv_if_ne (tgt := 117) hx hb dX4_read_110 (by decide) (fun c139 => ?_) (fun c139 => ?_)
      · have hf140 := if_at_f c139 hf138
        clear hf138
        refine lv_iconst (v := 0) hx hb dX4_read_117 (by decide) ?_
        exact hJ118_115 (0 : Int32) hh107  _ _ _ hf140 hP111 hS112 (lv_sub hl113 [0] rfl)
      · have hf141 := if_at_t c139 hf138
        clear hf138
        refine lv_iconst (v := 1) hx hb dX4_read_113 (by decide) ?_
        refine lv_goto (tgt := 118) hx hb dX4_read_114 (by decide) ?_
        exact hJ118_115 (1 : Int32) hh107  _ _ _ hf141 hP111 hS112 (lv_sub hl113 [0] rfl)
set_option maxRecDepth 100000 in
set_option maxHeartbeats 4000000 in
theorem tX2_become (l : Launch) {g : Gx} (hI : InjG g) {h k h1 : Hp} {e : Nat} {a1 : Nat}  (he : isE e) (ha1 : isE a1) (hf : fX2_become e a1 h = some ((), h1)) : CV l yX2_become cX2_become 2 none 2 g [.ref (g.2.2 e), .ref (g.2.2 a1)] h k h1 k := by
  refine Met.ofW (cc := cX2_become) (maxL := 2) (ret := none) (by decide) rfl ?_
  intro p en s m args below meth c s₁ B hml hv
  obtain ⟨rfl, hSK, hSH, hP⟩ := hv
  have X : Cx p s m _ c cX2_become 2 RX2 g := ⟨B.exec, B.bytes, hml, findClass_of_methodNamed B.named, fun w hw => atoms_spec (ws := wsy yX2_become cX2_become 2 none) B.pre w (List.mem_cons_of_mem _ hw), hSK, hI, hSH⟩
  have hr := B.returns
  have hlocks := B.notSynchronized
  have hx := X.1
  have hb := X.2.1
  have hS : va_S (inA g) s.heap s.heap [] := va_S.rf
  clear hSK hSH hml B
  have hl := lv_entry ([.ref (g.2.2 e), .ref (g.2.2 a1)]) (n := 2) (Nat.le_of_ble_eq_true rfl)
  rw [lg_entry_eq]
  generalize (lg_sl ([.ref (g.2.2 e), .ref (g.2.2 a1)]) ++ List.replicate (2 - (lg_sl ([.ref (g.2.2 e), .ref (g.2.2 a1)])).length) Slot.unset).toArray = ls at hl ⊢
  have hl : lv_has ls 2 [(0, .ref (g.2.2 e)), (1, .ref (g.2.2 a1))] := hl
  generalize ([.ref (g.2.2 e), .ref (g.2.2 a1)] : List Value).toArray = args at X ⊢
  show W p l en (rmD 2) s m args below meth c s.heap [] 0 0 (MQ below (QV g h1 k) args s 0 0 (inA g)) (F0 m 0 ls [])
  unfold fX2_become at hf
  refine lv_aload_n hx hb dX2_become_0 rfl (lv_at hl 1 rfl) ?_
  refine gX2 X hP ha1 0 (v := .ref (g.2.2 (a1 + 1))) rfl (by decide) rfl wd_93 dX2_become_1 ?_
  refine lv_iconst (v := 0) hx hb dX2_become_4 (by decide) ?_
  refine lv_aload_n hx hb dX2_become_5 rfl (lv_at hl 0 rfl) ?_
  refine gX2 X hP he 0 (v := .ref (g.2.2 (e + 1))) rfl (by decide) rfl wd_93 dX2_become_6 ?_
  refine lv_iconst (v := 0) hx hb dX2_become_9 (by decide) ?_
  refine lv_bipush (v := 6) hx hb dX2_become_10 (by decide) ?_
  obtain ⟨hc1, hf2⟩ := chk_some hf
  refine x_cpy X hP hS (a1 + 1) (e + 1) (ia_E1 ha1) (ia_E1 he) hl.1 ⟨wd_457, wd_374, wd_373, wd_68⟩ hc1 (Nat.le_of_ble_eq_true rfl) (Nat.le_of_ble_eq_true rfl) dX2_become_12 (fun H3 lc4 hh5 ehh5 hP6 hS7 => ?_)
  have hf8 := lk_at ehh5 hf2
  clear hf2 hP hS
  refine lv_aload_n hx hb dX2_become_15 rfl (lv_at hl 1 rfl) ?_
  refine gX2 X hP6 ha1 1 (v := .ref (g.2.2 (a1 + 2))) rfl (by decide) rfl wd_96 dX2_become_16 ?_
  refine lv_iconst (v := 0) hx hb dX2_become_19 (by decide) ?_
  refine lv_aload_n hx hb dX2_become_20 rfl (lv_at hl 0 rfl) ?_
  refine gX2 X hP6 he 1 (v := .ref (g.2.2 (e + 2))) rfl (by decide) rfl wd_96 dX2_become_21 ?_
  refine lv_iconst (v := 0) hx hb dX2_become_24 (by decide) ?_
  refine lv_bipush (v := 6) hx hb dX2_become_25 (by decide) ?_
  obtain ⟨hc9, hf10⟩ := chk_some hf8
  refine x_cpy X hP6 hS7 (a1 + 2) (e + 2) (ia_E2 ha1) (ia_E2 he) hl.1 ⟨wd_457, wd_374, wd_373, wd_68⟩ hc9 (Nat.le_of_ble_eq_true rfl) (Nat.le_of_ble_eq_true rfl) dX2_become_27 (fun H11 lc12 hh13 ehh13 hP14 hS15 => ?_)
  have hf16 := lk_at ehh13 hf10
  clear hf10 hP6 hS7
  refine lv_aload_n hx hb dX2_become_30 rfl (lv_at hl 1 rfl) ?_
  refine gX2 X hP14 ha1 2 (v := .ref (g.2.2 (a1 + 3))) rfl (by decide) rfl wd_100 dX2_become_31 ?_
  refine lv_iconst (v := 0) hx hb dX2_become_34 (by decide) ?_
  refine lv_aload_n hx hb dX2_become_35 rfl (lv_at hl 0 rfl) ?_
  refine gX2 X hP14 he 2 (v := .ref (g.2.2 (e + 3))) rfl (by decide) rfl wd_100 dX2_become_36 ?_
  refine lv_iconst (v := 0) hx hb dX2_become_39 (by decide) ?_
  refine lv_bipush (v := 6) hx hb dX2_become_40 (by decide) ?_
  obtain ⟨hc17, hf18⟩ := chk_some hf16
  refine x_cpy X hP14 hS15 (a1 + 3) (e + 3) (ia_E3 ha1) (ia_E3 he) hl.1 ⟨wd_457, wd_374, wd_373, wd_68⟩ hc17 (Nat.le_of_ble_eq_true rfl) (Nat.le_of_ble_eq_true rfl) dX2_become_42 (fun H19 lc20 hh21 ehh21 hP22 hS23 => ?_)
  have hf24 := lk_at ehh21 hf18
  clear hf18 hP14 hS15
  refine lv_aload_n hx hb dX2_become_45 rfl (lv_at hl 1 rfl) ?_
  refine gX2 X hP22 ha1 3 (v := .ref (g.2.2 (a1 + 4))) rfl (by decide) rfl wd_102 dX2_become_46 ?_
  refine lv_iconst (v := 0) hx hb dX2_become_49 (by decide) ?_
  refine lv_aload_n hx hb dX2_become_50 rfl (lv_at hl 0 rfl) ?_
  refine gX2 X hP22 he 3 (v := .ref (g.2.2 (e + 4))) rfl (by decide) rfl wd_102 dX2_become_51 ?_
  refine lv_iconst (v := 0) hx hb dX2_become_54 (by decide) ?_
  refine lv_bipush (v := 6) hx hb dX2_become_55 (by decide) ?_
  obtain ⟨hc25, hf26⟩ := chk_some hf24
  refine x_cpy X hP22 hS23 (a1 + 4) (e + 4) (ia_E4 ha1) (ia_E4 he) hl.1 ⟨wd_457, wd_374, wd_373, wd_68⟩ hc25 (Nat.le_of_ble_eq_true rfl) (Nat.le_of_ble_eq_true rfl) dX2_become_57 (fun H27 lc28 hh29 ehh29 hP30 hS31 => ?_)
  have hf32 := lk_at ehh29 hf26
  clear hf26 hP22 hS23
  refine lv_aload_n hx hb dX2_become_60 rfl (lv_at hl 1 rfl) ?_
  refine gX2 X hP30 ha1 4 (v := .ref (g.2.2 (a1 + 5))) rfl (by decide) rfl wd_105 dX2_become_61 ?_
  refine lv_iconst (v := 0) hx hb dX2_become_64 (by decide) ?_
  refine lv_aload_n hx hb dX2_become_65 rfl (lv_at hl 0 rfl) ?_
  refine gX2 X hP30 he 4 (v := .ref (g.2.2 (e + 5))) rfl (by decide) rfl wd_105 dX2_become_66 ?_
  refine lv_iconst (v := 0) hx hb dX2_become_69 (by decide) ?_
  refine lv_bipush (v := 6) hx hb dX2_become_70 (by decide) ?_
  obtain ⟨hc33, hf34⟩ := chk_some hf32
  refine x_cpy X hP30 hS31 (a1 + 5) (e + 5) (ia_E5 ha1) (ia_E5 he) hl.1 ⟨wd_457, wd_374, wd_373, wd_68⟩ hc33 (Nat.le_of_ble_eq_true rfl) (Nat.le_of_ble_eq_true rfl) dX2_become_72 (fun H35 lc36 hh37 ehh37 hP38 hS39 => ?_)
  have hf40 := lk_at ehh37 hf34
  clear hf34 hP30 hS31
  refine lv_aload_n hx hb dX2_become_75 rfl (lv_at hl 1 rfl) ?_
  refine gX2 X hP38 ha1 5 (v := .ref (g.2.2 (a1 + 6))) rfl (by decide) rfl wd_108 dX2_become_76 ?_
  refine lv_iconst (v := 0) hx hb dX2_become_79 (by decide) ?_
  refine lv_aload_n hx hb dX2_become_80 rfl (lv_at hl 0 rfl) ?_
  refine gX2 X hP38 he 5 (v := .ref (g.2.2 (e + 6))) rfl (by decide) rfl wd_108 dX2_become_81 ?_
  refine lv_iconst (v := 0) hx hb dX2_become_84 (by decide) ?_
  refine lv_bipush (v := 6) hx hb dX2_become_85 (by decide) ?_
  obtain ⟨hc41, hf42⟩ := chk_some hf40
  refine x_cpy X hP38 hS39 (a1 + 6) (e + 6) (ia_E6 ha1) (ia_E6 he) hl.1 ⟨wd_457, wd_374, wd_373, wd_68⟩ hc41 (Nat.le_of_ble_eq_true rfl) (Nat.le_of_ble_eq_true rfl) dX2_become_87 (fun H43 lc44 hh45 ehh45 hP46 hS47 => ?_)
  have hf48 := lk_at ehh45 hf42
  clear hf42 hP38 hS39
  refine lv_aload_n hx hb dX2_become_90 rfl (lv_at hl 0 rfl) ?_
  refine lv_aload_n hx hb dX2_become_91 rfl (lv_at hl 1 rfl) ?_
  refine gX2 X hP46 ha1 6 (v := .int (hh45 a1 6)) rfl (by decide) rfl wd_111 dX2_become_92 ?_
  obtain ⟨hc49, hf50⟩ := chk_some hf48
  refine pX2 X hP46 hS47 (he) 6 (by decide) rfl wd_111 rfl rfl (isB_n hc49).1 (isB_n hc49).2 seX2_6 dX2_become_95 (fun H51 lc52 hh53 ehh53 hP54 hS55 => ?_)
  have hf56 := lk_at ehh53 hf50
  clear hf50 hP46 hS47
  refine lv_aload_n hx hb dX2_become_98 rfl (lv_at hl 0 rfl) ?_
  refine lv_aload_n hx hb dX2_become_99 rfl (lv_at hl 1 rfl) ?_
  refine gX2 X hP54 ha1 7 (v := .int (hh53 a1 7)) rfl (by decide) rfl wd_114 dX2_become_100 ?_
  refine pX2 X hP54 hS55 (he) 7 (by decide) rfl wd_114 rfl rfl rfl rfl seX2_7 dX2_become_103 (fun H57 lc58 hh59 ehh59 hP60 hS61 => ?_)
  have hf62 := lk_at ehh59 hf56
  clear hf56 hP54 hS55
  refine lv_aload_n hx hb dX2_become_106 rfl (lv_at hl 0 rfl) ?_
  refine lv_aload_n hx hb dX2_become_107 rfl (lv_at hl 1 rfl) ?_
  refine gX2 X hP60 ha1 8 (v := .int (hh59 a1 8)) rfl (by decide) rfl wd_118 dX2_become_108 ?_
  refine pX2 X hP60 hS61 (he) 8 (by decide) rfl wd_118 rfl rfl rfl rfl seX2_8 dX2_become_111 (fun H63 lc64 hh65 ehh65 hP66 hS67 => ?_)
  have hf68 := lk_at ehh65 hf62
  clear hf62 hP60 hS61
  refine lv_aload_n hx hb dX2_become_114 rfl (lv_at hl 0 rfl) ?_
  refine lv_aload_n hx hb dX2_become_115 rfl (lv_at hl 1 rfl) ?_
  refine gX2 X hP66 ha1 9 (v := .int (hh65 a1 9)) rfl (by decide) rfl wd_122 dX2_become_116 ?_
  refine pX2 X hP66 hS67 (he) 9 (by decide) rfl wd_122 rfl rfl rfl rfl seX2_9 dX2_become_119 (fun H69 lc70 hh71 ehh71 hP72 hS73 => ?_)
  have hf74 := lk_at ehh71 hf68
  clear hf68 hP66 hS67
  refine lv_aload_n hx hb dX2_become_122 rfl (lv_at hl 0 rfl) ?_
  refine lv_aload_n hx hb dX2_become_123 rfl (lv_at hl 1 rfl) ?_
  refine gX2 X hP72 ha1 10 (v := .int (hh71 a1 10)) rfl (by decide) rfl wd_126 dX2_become_124 ?_
  refine pX2 X hP72 hS73 (he) 10 (by decide) rfl wd_126 rfl rfl rfl rfl seX2_10 dX2_become_127 (fun H75 lc76 hh77 ehh77 hP78 hS79 => ?_)
  have hf80 := lk_at ehh77 hf74
  clear hf74 hP72 hS73
  refine lv_aload_n hx hb dX2_become_130 rfl (lv_at hl 0 rfl) ?_
  refine lv_aload_n hx hb dX2_become_131 rfl (lv_at hl 1 rfl) ?_
  refine gX2 X hP78 ha1 11 (v := .int (hh77 a1 11)) rfl (by decide) rfl wd_129 dX2_become_132 ?_
  refine pX2 X hP78 hS79 (he) 11 (by decide) rfl wd_129 rfl rfl rfl rfl seX2_11 dX2_become_135 (fun H81 lc82 hh83 ehh83 hP84 hS85 => ?_)
  have hf86 := lk_at ehh83 hf80
  clear hf80 hP78 hS79
  refine lv_aload_n hx hb dX2_become_138 rfl (lv_at hl 0 rfl) ?_
  refine lv_aload_n hx hb dX2_become_139 rfl (lv_at hl 1 rfl) ?_
  refine gX2 X hP84 ha1 12 (v := .int (hh83 a1 12)) rfl (by decide) rfl wd_133 dX2_become_140 ?_
  refine pX2 X hP84 hS85 (he) 12 (by decide) rfl wd_133 rfl rfl rfl rfl seX2_12 dX2_become_143 (fun H87 lc88 hh89 ehh89 hP90 hS91 => ?_)
  have hf92 := lk_at ehh89 hf86
  clear hf86 hP84 hS85
  refine lv_aload_n hx hb dX2_become_146 rfl (lv_at hl 0 rfl) ?_
  refine lv_aload_n hx hb dX2_become_147 rfl (lv_at hl 1 rfl) ?_
  refine gX2 X hP90 ha1 13 (v := .int (hh89 a1 13)) rfl (by decide) rfl wd_137 dX2_become_148 ?_
  refine pX2 X hP90 hS91 (he) 13 (by decide) rfl wd_137 rfl rfl rfl rfl seX2_13 dX2_become_151 (fun H93 lc94 hh95 ehh95 hP96 hS97 => ?_)
  have hf98 := lk_at ehh95 hf92
  clear hf92 hP90 hS91
  refine lv_aload_n hx hb dX2_become_154 rfl (lv_at hl 0 rfl) ?_
  refine lv_aload_n hx hb dX2_become_155 rfl (lv_at hl 1 rfl) ?_
  refine gX2 X hP96 ha1 14 (v := .int (hh95 a1 14)) rfl (by decide) rfl wd_140 dX2_become_156 ?_
  refine pX2 X hP96 hS97 (he) 14 (by decide) rfl wd_140 rfl rfl rfl rfl seX2_14 dX2_become_159 (fun H99 lc100 hh101 ehh101 hP102 hS103 => ?_)
  have hf104 := lk_at ehh101 hf98
  clear hf98 hP96 hS97
  refine lv_aload_n hx hb dX2_become_162 rfl (lv_at hl 0 rfl) ?_
  refine lv_aload_n hx hb dX2_become_163 rfl (lv_at hl 1 rfl) ?_
  refine gX2 X hP102 ha1 15 (v := .int (hh101 a1 15)) rfl (by decide) rfl wd_142 dX2_become_164 ?_
  refine pX2 X hP102 hS103 (he) 15 (by decide) rfl wd_142 rfl rfl rfl rfl seX2_15 dX2_become_167 (fun H105 lc106 hh107 ehh107 hP108 hS109 => ?_)
  have hf110 := lk_at ehh107 hf104
  clear hf104 hP102 hS103
  obtain ⟨-, rfl⟩ := ret_inj hf110
  exact x_vret X hr hlocks hP108 hS109 dX2_become_170
set_option maxRecDepth 100000 in
set_option maxHeartbeats 4000000 in
theorem tX0_forget (l : Launch) {g : Gx} (hI : InjG g) {h k h1 : Hp}    (hf : fX0_forget h = some ((), h1)) : CV l yX0_forget cX0_forget 1 none 0 g [.ref (g.2.2 207)] h k h1 k := by
  refine Met.ofW (cc := cX0_forget) (maxL := 1) (ret := none) (by decide) rfl ?_
  intro p en s m args below meth c s₁ B hml hv
  obtain ⟨rfl, hSK, hSH, hP⟩ := hv
  have X : Cx p s m _ c cX0_forget 1 RX0 g := ⟨B.exec, B.bytes, hml, findClass_of_methodNamed B.named, fun w hw => atoms_spec (ws := wsy yX0_forget cX0_forget 1 none) B.pre w (List.mem_cons_of_mem _ hw), hSK, hI, hSH⟩
  have hr := B.returns
  have hlocks := B.notSynchronized
  have hx := X.1
  have hb := X.2.1
  have hS : va_S (inA g) s.heap s.heap [] := va_S.rf
  clear hSK hSH hml B
  have hl := lv_entry ([.ref (g.2.2 207)]) (n := 1) (Nat.le_of_ble_eq_true rfl)
  rw [lg_entry_eq]
  generalize (lg_sl ([.ref (g.2.2 207)]) ++ List.replicate (1 - (lg_sl ([.ref (g.2.2 207)])).length) Slot.unset).toArray = ls at hl ⊢
  have hl : lv_has ls 1 [(0, .ref (g.2.2 207))] := hl
  generalize ([.ref (g.2.2 207)] : List Value).toArray = args at X ⊢
  show W p l en (rmD 0) s m args below meth c s.heap [] 0 0 (MQ below (QV g h1 k) args s 0 0 (inA g)) (F0 m 0 ls [])
  unfold fX0_forget at hf
  refine lv_aload_n hx hb dX0_forget_0 rfl (lv_at hl 0 rfl) ?_
  refine lv_iconst (v := 0) hx hb dX0_forget_1 (by decide) ?_
  refine pX0 X hP hS 2 (by decide) rfl wd_221 rfl rfl rfl rfl seX0_2 dX0_forget_2 (fun H1 lc2 hh3 ehh3 hP4 hS5 => ?_)
  have hf6 := lk_at ehh3 hf
  clear hf hP hS
  obtain ⟨-, rfl⟩ := ret_inj hf6
  exact x_vret X hr hlocks hP4 hS5 dX0_forget_5
set_option maxRecDepth 100000 in
set_option maxHeartbeats 4000000 in
theorem tX6_estuary (l : Launch) {g : Gx} (hI : InjG g) {h k h1 : Hp}  {r : Int32}   (hf : fX6_estuary h = some (r, h1)) : CI l yX6_estuary cX6_estuary 1 (some .int) 7 g [.ref (g.2.2 203)] h k h1 k r := by
  refine Met.ofW (cc := cX6_estuary) (maxL := 1) (ret := (some .int)) (by decide) rfl ?_
  intro p en s m args below meth c s₁ B hml hv
  obtain ⟨rfl, hSK, hSH, hP⟩ := hv
  have X : Cx p s m _ c cX6_estuary 1 RX6 g := ⟨B.exec, B.bytes, hml, findClass_of_methodNamed B.named, fun w hw => atoms_spec (ws := wsy yX6_estuary cX6_estuary 1 (some .int)) B.pre w (List.mem_cons_of_mem _ hw), hSK, hI, hSH⟩
  have hr := B.returns
  have hlocks := B.notSynchronized
  have hx := X.1
  have hb := X.2.1
  have hS : va_S (inA g) s.heap s.heap [] := va_S.rf
  clear hSK hSH hml B
  have hl := lv_entry ([.ref (g.2.2 203)]) (n := 1) (Nat.le_of_ble_eq_true rfl)
  rw [lg_entry_eq]
  generalize (lg_sl ([.ref (g.2.2 203)]) ++ List.replicate (1 - (lg_sl ([.ref (g.2.2 203)])).length) Slot.unset).toArray = ls at hl ⊢
  have hl : lv_has ls 1 [(0, .ref (g.2.2 203))] := hl
  generalize ([.ref (g.2.2 203)] : List Value).toArray = args at X ⊢
  show W p l en (rmD 7) s m args below meth c s.heap [] 0 0 (MQ below (QI g h1 k r) args s 0 0 (inA g)) (F0 m 0 ls [])
  unfold fX6_estuary at hf
  refine lv_aload_n hx hb dX6_estuary_0 rfl (lv_at hl 0 rfl) ?_
  refine gX6 X hP 1 (v := .ref (g.2.2 205)) rfl (by decide) rfl wd_298 dX6_estuary_1 ?_
  obtain ⟨⟨⟩, hh2, hg8, hf7⟩ := bd_some hf
  refine x_cv (x_runV (As := []) (rest := []) X hP hS 205 (by decide) cl_Rd rfl (tX4_read l X.2.2.2.2.2.2.1  hg8) mi_X6_112 rfl hl.1 rfl (Nat.le_of_ble_eq_true rfl) dX6_estuary_4 ⟨Nat.le_of_ble_eq_true rfl, Nat.le_of_ble_eq_true rfl⟩ ⟨Nat.zero_le _, Nat.zero_le _⟩) hS (fun H3 lc4 hP5 hS6 => ?_)
  clear hf hP hS hg8
  refine lv_aload_n hx hb dX6_estuary_7 rfl (lv_at hl 0 rfl) ?_
  refine gX6 X hP5 1 (v := .ref (g.2.2 205)) rfl (by decide) rfl wd_298 dX6_estuary_8 ?_
  refine gX4 X hP5 2 (v := .int (hh2 205 2)) rfl (by decide) rfl wd_184 dX6_estuary_11 ?_
  refine lv_if_eq (tgt := 39) hx hb dX6_estuary_14 (by decide) (fun c9 => ?_) (fun c9 => ?_)
  · have hf10 := if_at_t c9 hf7
    clear hf7
    refine lv_aload_n hx hb dX6_estuary_39 rfl (lv_at hl 0 rfl) ?_
    refine gX6 X hP5 2 (v := .ref (g.2.2 0)) rfl (by decide) rfl wd_299 dX6_estuary_40 ?_
    refine lv_aload_n hx hb dX6_estuary_43 rfl (lv_at hl 0 rfl) ?_
    refine gX6 X hP5 1 (v := .ref (g.2.2 205)) rfl (by decide) rfl wd_298 dX6_estuary_44 ?_
    refine gX4 X hP5 0 (v := .ref (g.2.2 7)) rfl (by decide) rfl wd_180 dX6_estuary_47 ?_
    obtain ⟨⟨⟩, hh12, hg18, hf17⟩ := bd_some hf10
    refine x_cv (x_runV (As := [.ref (g.2.2 7)]) (rest := []) X hP5 hS6 0 (by decide) (cl_E (⟨rfl, by decide⟩ : isE 0)) rfl (tX2_become l X.2.2.2.2.2.2.1 (⟨rfl, by decide⟩ : isE 0) (⟨rfl, by decide⟩ : isE 7) hg18) mi_X6_128 rfl hl.1 rfl (Nat.le_of_ble_eq_true rfl) dX6_estuary_50 ⟨Nat.le_of_ble_eq_true rfl, Nat.le_of_ble_eq_true rfl⟩ ⟨Nat.zero_le _, Nat.zero_le _⟩) hS6 (fun H13 lc14 hP15 hS16 => ?_)
    clear hf10 hP5 hS6 hg18
    refine lv_aload_n hx hb dX6_estuary_53 rfl (lv_at hl 0 rfl) ?_
    refine gX6 X hP15 3 (v := .ref (g.2.2 207)) rfl (by decide) rfl wd_300 dX6_estuary_54 ?_
    obtain ⟨⟨⟩, hh20, hg26, hf25⟩ := bd_some hf17
    refine x_cv (x_runV (As := []) (rest := []) X hP15 hS16 207 (by decide) cl_Ac rfl (tX0_forget l X.2.2.2.2.2.2.1  hg26) mi_X6_132 rfl hl.1 rfl (Nat.le_of_ble_eq_true rfl) dX6_estuary_57 ⟨Nat.le_of_ble_eq_true rfl, Nat.le_of_ble_eq_true rfl⟩ ⟨Nat.zero_le _, Nat.zero_le _⟩) hS16 (fun H21 lc22 hP23 hS24 => ?_)
    clear hf17 hP15 hS16 hg26
    refine lv_aload_n hx hb dX6_estuary_60 rfl (lv_at hl 0 rfl) ?_
    refine gX6 X hP23 2 (v := .ref (g.2.2 0)) rfl (by decide) rfl wd_299 dX6_estuary_61 ?_
    refine gX2 X hP23 (⟨rfl, by decide⟩ : isE 0) 12 (v := .int (hh20 0 12)) rfl (by decide) rfl wd_135 dX6_estuary_64 ?_
    obtain ⟨rfl, rfl⟩ := ret_inj hf25
    exact x_iret X hr hlocks hP23 hS24 dX6_estuary_67
  · have hf27 := if_at_f c9 hf7
    clear hf7
    refine lv_aload_n hx hb dX6_estuary_17 rfl (lv_at hl 0 rfl) ?_
    refine lv_aload_n hx hb dX6_estuary_18 rfl (lv_at hl 0 rfl) ?_
    refine gX6 X hP5 1 (v := .ref (g.2.2 205)) rfl (by decide) rfl wd_298 dX6_estuary_19 ?_
    refine gX4 X hP5 2 (v := .int (hh2 205 2)) rfl (by decide) rfl wd_184 dX6_estuary_22 ?_
    refine pX6 X hP5 hS6 7 (by decide) rfl wd_304 rfl rfl rfl rfl seX6_7 dX6_estuary_25 (fun H28 lc29 hh30 ehh30 hP31 hS32 => ?_)
    have hf33 := lk_at ehh30 hf27
    clear hf27 hP5 hS6
    refine lv_ldc (v := -1000100) hx hb X.2.2.2.1 (X.2.2.2.2.1 _ wd_452) dX6_estuary_28 ?_
    refine lv_aload_n hx hb dX6_estuary_30 rfl (lv_at hl 0 rfl) ?_
    refine gX6 X hP31 1 (v := .ref (g.2.2 205)) rfl (by decide) rfl wd_298 dX6_estuary_31 ?_
    refine gX4 X hP31 3 (v := .int (hh30 205 3)) rfl (by decide) rfl wd_185 dX6_estuary_34 ?_
    refine lv_isub hx hb dX6_estuary_37 ?_
    obtain ⟨rfl, rfl⟩ := ret_inj hf33
    exact x_iret X hr hlocks hP31 hS32 dX6_estuary_38
set_option maxRecDepth 100000 in
set_option maxHeartbeats 4000000 in
theorem tX6_fault (l : Launch) {g : Gx} (hI : InjG g) {h k h1 : Hp}  {r : Int32}   (hf : fX6_fault h = some (r, h1)) : CI l yX6_fault cX6_fault 1 (some .int) 0 g [.ref (g.2.2 203)] h k h1 k r := by
  refine Met.ofW (cc := cX6_fault) (maxL := 1) (ret := (some .int)) (by decide) rfl ?_
  intro p en s m args below meth c s₁ B hml hv
  obtain ⟨rfl, hSK, hSH, hP⟩ := hv
  have X : Cx p s m _ c cX6_fault 1 RX6 g := ⟨B.exec, B.bytes, hml, findClass_of_methodNamed B.named, fun w hw => atoms_spec (ws := wsy yX6_fault cX6_fault 1 (some .int)) B.pre w (List.mem_cons_of_mem _ hw), hSK, hI, hSH⟩
  have hr := B.returns
  have hlocks := B.notSynchronized
  have hx := X.1
  have hb := X.2.1
  have hS : va_S (inA g) s.heap s.heap [] := va_S.rf
  clear hSK hSH hml B
  have hl := lv_entry ([.ref (g.2.2 203)]) (n := 1) (Nat.le_of_ble_eq_true rfl)
  rw [lg_entry_eq]
  generalize (lg_sl ([.ref (g.2.2 203)]) ++ List.replicate (1 - (lg_sl ([.ref (g.2.2 203)])).length) Slot.unset).toArray = ls at hl ⊢
  have hl : lv_has ls 1 [(0, .ref (g.2.2 203))] := hl
  generalize ([.ref (g.2.2 203)] : List Value).toArray = args at X ⊢
  show W p l en (rmD 0) s m args below meth c s.heap [] 0 0 (MQ below (QI g h1 k r) args s 0 0 (inA g)) (F0 m 0 ls [])
  unfold fX6_fault at hf
  refine lv_aload_n hx hb dX6_fault_0 rfl (lv_at hl 0 rfl) ?_
  refine gX6 X hP 7 (v := .int (h 203 7)) rfl (by decide) rfl wd_304 dX6_fault_1 ?_
  obtain ⟨rfl, rfl⟩ := ret_inj hf
  exact x_iret X hr hlocks hP hS dX6_fault_4
set_option maxRecDepth 100000 in
set_option maxHeartbeats 4000000 in
theorem tX0_takeBack (l : Launch) {g : Gx} (hI : InjG g) {h k h1 : Hp} {a1 : Nat}  (ha1 : isE a1) (hf : fX0_takeBack a1 h = some ((), h1)) : CV l yX0_takeBack cX0_takeBack 2 none 3 g [.ref (g.2.2 207), .ref (g.2.2 a1)] h k h1 k := by
  refine Met.ofW (cc := cX0_takeBack) (maxL := 2) (ret := none) (by decide) rfl ?_
  intro p en s m args below meth c s₁ B hml hv
  obtain ⟨rfl, hSK, hSH, hP⟩ := hv
  have X : Cx p s m _ c cX0_takeBack 2 RX0 g := ⟨B.exec, B.bytes, hml, findClass_of_methodNamed B.named, fun w hw => atoms_spec (ws := wsy yX0_takeBack cX0_takeBack 2 none) B.pre w (List.mem_cons_of_mem _ hw), hSK, hI, hSH⟩
  have hr := B.returns
  have hlocks := B.notSynchronized
  have hx := X.1
  have hb := X.2.1
  have hS : va_S (inA g) s.heap s.heap [] := va_S.rf
  clear hSK hSH hml B
  have hl := lv_entry ([.ref (g.2.2 207), .ref (g.2.2 a1)]) (n := 2) (Nat.le_of_ble_eq_true rfl)
  rw [lg_entry_eq]
  generalize (lg_sl ([.ref (g.2.2 207), .ref (g.2.2 a1)]) ++ List.replicate (2 - (lg_sl ([.ref (g.2.2 207), .ref (g.2.2 a1)])).length) Slot.unset).toArray = ls at hl ⊢
  have hl : lv_has ls 2 [(0, .ref (g.2.2 207)), (1, .ref (g.2.2 a1))] := hl
  generalize ([.ref (g.2.2 207), .ref (g.2.2 a1)] : List Value).toArray = args at X ⊢
  show W p l en (rmD 3) s m args below meth c s.heap [] 0 0 (MQ below (QV g h1 k) args s 0 0 (inA g)) (F0 m 0 ls [])
  unfold fX0_takeBack at hf
  refine lv_aload_n hx hb dX0_takeBack_0 rfl (lv_at hl 0 rfl) ?_
  refine lv_aload_n hx hb dX0_takeBack_1 rfl (lv_at hl 0 rfl) ?_
  refine gX0 X hP 1 (v := .int (h 207 1)) rfl (by decide) rfl wd_220 dX0_takeBack_2 ?_
  refine lv_bipush (v := 24) hx hb dX0_takeBack_5 (by decide) ?_
  refine lv_iadd hx hb dX0_takeBack_7 ?_
  refine lv_iconst (v := 1) hx hb dX0_takeBack_8 (by decide) ?_
  refine lv_isub hx hb dX0_takeBack_9 ?_
  refine lv_bipush (v := 24) hx hb dX0_takeBack_10 (by decide) ?_
  refine x_irem X dX0_takeBack_12 (by decide) ?_
  refine pX0 X hP hS 1 (by decide) rfl wd_220 rfl rfl rfl rfl seX0_1 dX0_takeBack_13 (fun H1 lc2 hh3 ehh3 hP4 hS5 => ?_)
  have hf6 := lk_at ehh3 hf
  clear hf hP hS
  refine lv_aload_n hx hb dX0_takeBack_16 rfl (lv_at hl 0 rfl) ?_
  refine lv_dup hx hb dX0_takeBack_17 rfl ?_
  refine gX0 X hP4 2 (v := .int (hh3 207 2)) rfl (by decide) rfl wd_221 dX0_takeBack_18 ?_
  refine lv_iconst (v := 1) hx hb dX0_takeBack_21 (by decide) ?_
  refine lv_isub hx hb dX0_takeBack_22 ?_
  refine pX0 X hP4 hS5 2 (by decide) rfl wd_221 rfl rfl rfl rfl seX0_2 dX0_takeBack_23 (fun H7 lc8 hh9 ehh9 hP10 hS11 => ?_)
  have hf12 := lk_at ehh9 hf6
  clear hf6 hP4 hS5
  refine lv_aload_n hx hb dX0_takeBack_26 rfl (lv_at hl 1 rfl) ?_
  refine lv_aload_n hx hb dX0_takeBack_27 rfl (lv_at hl 0 rfl) ?_
  refine gX0 X hP10 0 (v := .ref (g.2.2 208)) rfl (by decide) rfl wd_219 dX0_takeBack_28 ?_
  refine lv_aload_n hx hb dX0_takeBack_31 rfl (lv_at hl 0 rfl) ?_
  refine gX0 X hP10 1 (v := .int (hh9 207 1)) rfl (by decide) rfl wd_220 dX0_takeBack_32 ?_
  obtain ⟨hc13, hf14⟩ := chk_some hf12
  refine x_before X hP10 hc13 dX0_takeBack_35 ?_
  obtain ⟨⟨⟩, hh16, hg22, hf21⟩ := bd_some hf14
  refine x_cv (x_runV (As := [.ref (g.2.2 (35 + 7 * (hh9 207 1).toNatClampNeg))]) (rest := []) X hP10 hS11 a1 (isE_lt ha1) (cl_E ha1) rfl (tX2_become l X.2.2.2.2.2.2.1 ha1 (isE_act hc13) hg22) mi_X0_22 rfl hl.1 rfl (Nat.le_of_ble_eq_true rfl) dX0_takeBack_36 ⟨Nat.le_of_ble_eq_true rfl, Nat.le_of_ble_eq_true rfl⟩ ⟨Nat.zero_le _, Nat.zero_le _⟩) hS11 (fun H17 lc18 hP19 hS20 => ?_)
  clear hf14 hP10 hS11 hg22
  obtain ⟨-, rfl⟩ := ret_inj hf21
  exact x_vret X hr hlocks hP19 hS20 dX0_takeBack_39
set_option maxRecDepth 100000 in
set_option maxHeartbeats 4000000 in
theorem tX6_undo (l : Launch) {g : Gx} (hI : InjG g) {h k h1 : Hp}  {r : Int32}   (hf : fX6_undo h = some (r, h1)) : CI l yX6_undo cX6_undo 1 (some .int) 4 g [.ref (g.2.2 203)] h k h1 k r := by
  refine Met.ofW (cc := cX6_undo) (maxL := 1) (ret := (some .int)) (by decide) rfl ?_
  intro p en s m args below meth c s₁ B hml hv
  obtain ⟨rfl, hSK, hSH, hP⟩ := hv
  have X : Cx p s m _ c cX6_undo 1 RX6 g := ⟨B.exec, B.bytes, hml, findClass_of_methodNamed B.named, fun w hw => atoms_spec (ws := wsy yX6_undo cX6_undo 1 (some .int)) B.pre w (List.mem_cons_of_mem _ hw), hSK, hI, hSH⟩
  have hr := B.returns
  have hlocks := B.notSynchronized
  have hx := X.1
  have hb := X.2.1
  have hS : va_S (inA g) s.heap s.heap [] := va_S.rf
  clear hSK hSH hml B
  have hl := lv_entry ([.ref (g.2.2 203)]) (n := 1) (Nat.le_of_ble_eq_true rfl)
  rw [lg_entry_eq]
  generalize (lg_sl ([.ref (g.2.2 203)]) ++ List.replicate (1 - (lg_sl ([.ref (g.2.2 203)])).length) Slot.unset).toArray = ls at hl ⊢
  have hl : lv_has ls 1 [(0, .ref (g.2.2 203))] := hl
  generalize ([.ref (g.2.2 203)] : List Value).toArray = args at X ⊢
  show W p l en (rmD 4) s m args below meth c s.heap [] 0 0 (MQ below (QI g h1 k r) args s 0 0 (inA g)) (F0 m 0 ls [])
  unfold fX6_undo at hf
  refine lv_aload_n hx hb dX6_undo_0 rfl (lv_at hl 0 rfl) ?_
  refine gX6 X hP 3 (v := .ref (g.2.2 207)) rfl (by decide) rfl wd_300 dX6_undo_1 ?_
  refine gX0 X hP 2 (v := .int (h 207 2)) rfl (by decide) rfl wd_222 dX6_undo_4 ?_
  refine lv_if_ne (tgt := 13) hx hb dX6_undo_7 (by decide) (fun c1 => ?_) (fun c1 => ?_)
  · have hf2 := if_at_f c1 hf
    clear hf
    refine lv_aload_n hx hb dX6_undo_13 rfl (lv_at hl 0 rfl) ?_
    refine gX6 X hP 3 (v := .ref (g.2.2 207)) rfl (by decide) rfl wd_300 dX6_undo_14 ?_
    refine lv_aload_n hx hb dX6_undo_17 rfl (lv_at hl 0 rfl) ?_
    refine gX6 X hP 2 (v := .ref (g.2.2 0)) rfl (by decide) rfl wd_299 dX6_undo_18 ?_
    obtain ⟨⟨⟩, hh4, hg10, hf9⟩ := bd_some hf2
    refine x_cv (x_runV (As := [.ref (g.2.2 0)]) (rest := []) X hP hS 207 (by decide) cl_Ac rfl (tX0_takeBack l X.2.2.2.2.2.2.1 (⟨rfl, by decide⟩ : isE 0) hg10) mi_X6_142 rfl hl.1 rfl (Nat.le_of_ble_eq_true rfl) dX6_undo_21 ⟨Nat.le_of_ble_eq_true rfl, Nat.le_of_ble_eq_true rfl⟩ ⟨Nat.zero_le _, Nat.zero_le _⟩) hS (fun H5 lc6 hP7 hS8 => ?_)
    clear hf2 hP hS hg10
    refine lv_aload_n hx hb dX6_undo_24 rfl (lv_at hl 0 rfl) ?_
    refine gX6 X hP7 3 (v := .ref (g.2.2 207)) rfl (by decide) rfl wd_300 dX6_undo_25 ?_
    refine gX0 X hP7 2 (v := .int (hh4 207 2)) rfl (by decide) rfl wd_222 dX6_undo_28 ?_
    obtain ⟨rfl, rfl⟩ := ret_inj hf9
    exact x_iret X hr hlocks hP7 hS8 dX6_undo_31
  · have hf11 := if_at_t c1 hf
    clear hf
    refine lv_ldc (v := -1000002) hx hb X.2.2.2.1 (X.2.2.2.2.1 _ wd_470) dX6_undo_10 ?_
    obtain ⟨rfl, rfl⟩ := ret_inj hf11
    exact x_iret X hr hlocks hP hS dX6_undo_12
set_option maxRecDepth 100000 in
set_option maxHeartbeats 4000000 in
theorem tX0_keep (l : Launch) {g : Gx} (hI : InjG g) {h k h1 : Hp} {a1 : Nat}  (ha1 : isE a1) (hf : fX0_keep a1 h = some ((), h1)) : CV l yX0_keep cX0_keep 2 none 3 g [.ref (g.2.2 207), .ref (g.2.2 a1)] h k h1 k := by
  refine Met.ofW (cc := cX0_keep) (maxL := 2) (ret := none) (by decide) rfl ?_
  intro p en s m args below meth c s₁ B hml hv
  obtain ⟨rfl, hSK, hSH, hP⟩ := hv
  have X : Cx p s m _ c cX0_keep 2 RX0 g := ⟨B.exec, B.bytes, hml, findClass_of_methodNamed B.named, fun w hw => atoms_spec (ws := wsy yX0_keep cX0_keep 2 none) B.pre w (List.mem_cons_of_mem _ hw), hSK, hI, hSH⟩
  have hr := B.returns
  have hlocks := B.notSynchronized
  have hx := X.1
  have hb := X.2.1
  have hS : va_S (inA g) s.heap s.heap [] := va_S.rf
  clear hSK hSH hml B
  have hl := lv_entry ([.ref (g.2.2 207), .ref (g.2.2 a1)]) (n := 2) (Nat.le_of_ble_eq_true rfl)
  rw [lg_entry_eq]
  generalize (lg_sl ([.ref (g.2.2 207), .ref (g.2.2 a1)]) ++ List.replicate (2 - (lg_sl ([.ref (g.2.2 207), .ref (g.2.2 a1)])).length) Slot.unset).toArray = ls at hl ⊢
  have hl : lv_has ls 2 [(0, .ref (g.2.2 207)), (1, .ref (g.2.2 a1))] := hl
  generalize ([.ref (g.2.2 207), .ref (g.2.2 a1)] : List Value).toArray = args at X ⊢
  show W p l en (rmD 3) s m args below meth c s.heap [] 0 0 (MQ below (QV g h1 k) args s 0 0 (inA g)) (F0 m 0 ls [])
  unfold fX0_keep at hf
  refine lv_aload_n hx hb dX0_keep_0 rfl (lv_at hl 0 rfl) ?_
  refine gX0 X hP 0 (v := .ref (g.2.2 208)) rfl (by decide) rfl wd_219 dX0_keep_1 ?_
  refine lv_aload_n hx hb dX0_keep_4 rfl (lv_at hl 0 rfl) ?_
  refine gX0 X hP 1 (v := .int (h 207 1)) rfl (by decide) rfl wd_220 dX0_keep_5 ?_
  obtain ⟨hc1, hf2⟩ := chk_some hf
  refine x_before X hP hc1 dX0_keep_8 ?_
  refine lv_aload_n hx hb dX0_keep_9 rfl (lv_at hl 1 rfl) ?_
  obtain ⟨⟨⟩, hh4, hg10, hf9⟩ := bd_some hf2
  refine x_cv (x_runV (As := [.ref (g.2.2 a1)]) (rest := []) X hP hS (35 + 7 * (h 207 1).toNatClampNeg) (isE_lt (isE_act hc1)) (cl_E (isE_act hc1)) rfl (tX2_become l X.2.2.2.2.2.2.1 (isE_act hc1) ha1 hg10) mi_X0_22 rfl hl.1 rfl (Nat.le_of_ble_eq_true rfl) dX0_keep_10 ⟨Nat.le_of_ble_eq_true rfl, Nat.le_of_ble_eq_true rfl⟩ ⟨Nat.zero_le _, Nat.zero_le _⟩) hS (fun H5 lc6 hP7 hS8 => ?_)
  clear hf2 hP hS hg10
  refine lv_aload_n hx hb dX0_keep_13 rfl (lv_at hl 0 rfl) ?_
  refine lv_aload_n hx hb dX0_keep_14 rfl (lv_at hl 0 rfl) ?_
  refine gX0 X hP7 1 (v := .int (hh4 207 1)) rfl (by decide) rfl wd_220 dX0_keep_15 ?_
  refine lv_iconst (v := 1) hx hb dX0_keep_18 (by decide) ?_
  refine lv_iadd hx hb dX0_keep_19 ?_
  refine lv_bipush (v := 24) hx hb dX0_keep_20 (by decide) ?_
  refine x_irem X dX0_keep_22 (by decide) ?_
  refine pX0 X hP7 hS8 1 (by decide) rfl wd_220 rfl rfl rfl rfl seX0_1 dX0_keep_23 (fun H11 lc12 hh13 ehh13 hP14 hS15 => ?_)
  have hf16 := lk_at ehh13 hf9
  clear hf9 hP7 hS8
  refine lv_aload_n hx hb dX0_keep_26 rfl (lv_at hl 0 rfl) ?_
  refine lv_aload_n hx hb dX0_keep_27 rfl (lv_at hl 0 rfl) ?_
  refine gX0 X hP14 2 (v := .int (hh13 207 2)) rfl (by decide) rfl wd_221 dX0_keep_28 ?_
  refine lv_iconst (v := 1) hx hb dX0_keep_31 (by decide) ?_
  refine lv_iadd hx hb dX0_keep_32 ?_
  refine lv_bipush (v := 24) hx hb dX0_keep_33 (by decide) ?_
  refine x_mmin X hl.1 ⟨wd_484, wd_485, wd_69, wd_486⟩ ⟨Nat.le_of_ble_eq_true rfl, Nat.le_of_ble_eq_true rfl⟩ ⟨Nat.zero_le _, Nat.zero_le _⟩ dX0_keep_35 ?_
  refine pX0 X hP14 hS15 2 (by decide) rfl wd_221 rfl rfl rfl rfl seX0_2 dX0_keep_38 (fun H17 lc18 hh19 ehh19 hP20 hS21 => ?_)
  have hf22 := lk_at ehh19 hf16
  clear hf16 hP14 hS15
  obtain ⟨-, rfl⟩ := ret_inj hf22
  exact x_vret X hr hlocks hP20 hS21 dX0_keep_41
set_option maxRecDepth 100000 in
set_option maxHeartbeats 4000000 in
theorem tX2_windOfHour (l : Launch) {g : Gx} (hI : InjG g) {h k h1 : Hp} {e : Nat} {r : Int32}  (he : isE e) (hf : fX2_windOfHour e h = some (r, h1)) : CI l yX2_windOfHour cX2_windOfHour 1 (some .int) 0 g [.ref (g.2.2 e)] h k h1 k r := by
  refine Met.ofW (cc := cX2_windOfHour) (maxL := 1) (ret := (some .int)) (by decide) rfl ?_
  intro p en s m args below meth c s₁ B hml hv
  obtain ⟨rfl, hSK, hSH, hP⟩ := hv
  have X : Cx p s m _ c cX2_windOfHour 1 RX2 g := ⟨B.exec, B.bytes, hml, findClass_of_methodNamed B.named, fun w hw => atoms_spec (ws := wsy yX2_windOfHour cX2_windOfHour 1 (some .int)) B.pre w (List.mem_cons_of_mem _ hw), hSK, hI, hSH⟩
  have hr := B.returns
  have hlocks := B.notSynchronized
  have hx := X.1
  have hb := X.2.1
  have hS : va_S (inA g) s.heap s.heap [] := va_S.rf
  clear hSK hSH hml B
  have hl := lv_entry ([.ref (g.2.2 e)]) (n := 1) (Nat.le_of_ble_eq_true rfl)
  rw [lg_entry_eq]
  generalize (lg_sl ([.ref (g.2.2 e)]) ++ List.replicate (1 - (lg_sl ([.ref (g.2.2 e)])).length) Slot.unset).toArray = ls at hl ⊢
  have hl : lv_has ls 1 [(0, .ref (g.2.2 e))] := hl
  generalize ([.ref (g.2.2 e)] : List Value).toArray = args at X ⊢
  show W p l en (rmD 0) s m args below meth c s.heap [] 0 0 (MQ below (QI g h1 k r) args s 0 0 (inA g)) (F0 m 0 ls [])
  unfold fX2_windOfHour at hf
  refine lv_aload_n hx hb dX2_windOfHour_0 rfl (lv_at hl 0 rfl) ?_
  refine gX2 X hP he 11 (v := .int (h e 11)) rfl (by decide) rfl wd_129 dX2_windOfHour_1 ?_
  refine lv_if_ne (tgt := 11) hx hb dX2_windOfHour_4 (by decide) (fun c1 => ?_) (fun c1 => ?_)
  · have hf2 := if_at_f c1 hf
    clear hf
    refine lv_aload_n hx hb dX2_windOfHour_11 rfl (lv_at hl 0 rfl) ?_
    refine gX2 X hP he 13 (v := .int (h e 13)) rfl (by decide) rfl wd_137 dX2_windOfHour_12 ?_
    refine lv_aload_n hx hb dX2_windOfHour_15 rfl (lv_at hl 0 rfl) ?_
    refine gX2 X hP he 11 (v := .int (h e 11)) rfl (by decide) rfl wd_129 dX2_windOfHour_16 ?_
    obtain ⟨hc3, hf4⟩ := chk_some hf2
    refine x_irem X dX2_windOfHour_19 (nz_in hc3) ?_
    obtain ⟨rfl, rfl⟩ := ret_inj hf4
    exact x_iret X hr hlocks hP hS dX2_windOfHour_20
  · have hf5 := if_at_t c1 hf
    clear hf
    refine lv_iconst (v := 0) hx hb dX2_windOfHour_7 (by decide) ?_
    refine lv_goto (tgt := 20) hx hb dX2_windOfHour_8 (by decide) ?_
    obtain ⟨rfl, rfl⟩ := ret_inj hf5
    exact x_iret X hr hlocks hP hS dX2_windOfHour_20
set_option maxRecDepth 100000 in
set_option maxHeartbeats 4000000 in
theorem tX2_gust (l : Launch) {g : Gx} (hI : InjG g) {h k h1 : Hp} {e : Nat} {r : Int32}  (he : isE e) (hf : fX2_gust e h = some (r, h1)) : CI l yX2_gust cX2_gust 1 (some .int) 1 g [.ref (g.2.2 e)] h k h1 k r := by
  refine Met.ofW (cc := cX2_gust) (maxL := 1) (ret := (some .int)) (by decide) rfl ?_
  intro p en s m args below meth c s₁ B hml hv
  obtain ⟨rfl, hSK, hSH, hP⟩ := hv
  have X : Cx p s m _ c cX2_gust 1 RX2 g := ⟨B.exec, B.bytes, hml, findClass_of_methodNamed B.named, fun w hw => atoms_spec (ws := wsy yX2_gust cX2_gust 1 (some .int)) B.pre w (List.mem_cons_of_mem _ hw), hSK, hI, hSH⟩
  have hr := B.returns
  have hlocks := B.notSynchronized
  have hx := X.1
  have hb := X.2.1
  have hS : va_S (inA g) s.heap s.heap [] := va_S.rf
  clear hSK hSH hml B
  have hl := lv_entry ([.ref (g.2.2 e)]) (n := 1) (Nat.le_of_ble_eq_true rfl)
  rw [lg_entry_eq]
  generalize (lg_sl ([.ref (g.2.2 e)]) ++ List.replicate (1 - (lg_sl ([.ref (g.2.2 e)])).length) Slot.unset).toArray = ls at hl ⊢
  have hl : lv_has ls 1 [(0, .ref (g.2.2 e))] := hl
  generalize ([.ref (g.2.2 e)] : List Value).toArray = args at X ⊢
  show W p l en (rmD 1) s m args below meth c s.heap [] 0 0 (MQ below (QI g h1 k r) args s 0 0 (inA g)) (F0 m 0 ls [])
  unfold fX2_gust at hf
  refine lv_aload_n hx hb dX2_gust_0 rfl (lv_at hl 0 rfl) ?_
  refine gX2 X hP he 0 (v := .ref (g.2.2 (e + 1))) rfl (by decide) rfl wd_93 dX2_gust_1 ?_
  refine lv_aload_n hx hb dX2_gust_4 rfl (lv_at hl 0 rfl) ?_
  obtain ⟨x1, hh2, hg8, hf7⟩ := bd_some hf
  refine x_ci (x_runV (As := []) (rest := [.ref (g.2.2 (e + 1))]) X hP hS e (isE_lt he) (cl_E he) rfl (tX2_windOfHour l X.2.2.2.2.2.2.1 he hg8) mi_X2_78 rfl hl.1 rfl (Nat.le_of_ble_eq_true rfl) dX2_gust_5 ⟨Nat.le_of_ble_eq_true rfl, Nat.le_of_ble_eq_true rfl⟩ ⟨Nat.zero_le _, Nat.zero_le _⟩) hS (fun H3 lc4 hP5 hS6 => ?_)
  clear hf hP hS hg8
  obtain ⟨hc9, hf10⟩ := chk_some hf7
  refine x_ildC X hP5 (e + 1) (ia_E1 he) hc9 dX2_gust_8 ?_
  obtain ⟨rfl, rfl⟩ := ret_inj hf10
  exact x_iret X hr hlocks hP5 hS6 dX2_gust_9
set_option maxRecDepth 100000 in
set_option maxHeartbeats 4000000 in
theorem tX2_isIn (l : Launch) {g : Gx} (hI : InjG g) {h k h1 : Hp} {e : Nat} {a1 : Int32} {r : Int32}  (he : isE e) (hf : fX2_isIn e a1 h = some (r, h1)) : CI l yX2_isIn cX2_isIn 2 (some .boolean) 0 g [.ref (g.2.2 e), .int a1] h k h1 k r := by
  refine Met.ofW (cc := cX2_isIn) (maxL := 2) (ret := (some .boolean)) (by decide) rfl ?_
  intro p en s m args below meth c s₁ B hml hv
  obtain ⟨rfl, hSK, hSH, hP⟩ := hv
  have X : Cx p s m _ c cX2_isIn 2 RX2 g := ⟨B.exec, B.bytes, hml, findClass_of_methodNamed B.named, fun w hw => atoms_spec (ws := wsy yX2_isIn cX2_isIn 2 (some .boolean)) B.pre w (List.mem_cons_of_mem _ hw), hSK, hI, hSH⟩
  have hr := B.returns
  have hlocks := B.notSynchronized
  have hx := X.1
  have hb := X.2.1
  have hS : va_S (inA g) s.heap s.heap [] := va_S.rf
  clear hSK hSH hml B
  have hl := lv_entry ([.ref (g.2.2 e), .int a1]) (n := 2) (Nat.le_of_ble_eq_true rfl)
  rw [lg_entry_eq]
  generalize (lg_sl ([.ref (g.2.2 e), .int a1]) ++ List.replicate (2 - (lg_sl ([.ref (g.2.2 e), .int a1])).length) Slot.unset).toArray = ls at hl ⊢
  have hl : lv_has ls 2 [(0, .ref (g.2.2 e)), (1, .int a1)] := hl
  generalize ([.ref (g.2.2 e), .int a1] : List Value).toArray = args at X ⊢
  show W p l en (rmD 0) s m args below meth c s.heap [] 0 0 (MQ below (QI g h1 k r) args s 0 0 (inA g)) (F0 m 0 ls [])
  unfold fX2_isIn at hf
  refine lv_aload_n hx hb dX2_isIn_0 rfl (lv_at hl 0 rfl) ?_
  refine gX2 X hP he 14 (v := .int (h e 14)) rfl (by decide) rfl wd_140 dX2_isIn_1 ?_
  refine lv_iload_n hx hb dX2_isIn_4 rfl (lv_at hl 1 rfl) ?_
  refine x_ishr X dX2_isIn_5 ?_
  refine lv_iconst (v := 1) hx hb dX2_isIn_6 (by decide) ?_
  refine lv_iand hx hb dX2_isIn_7 ?_
  refine lv_if_eq (tgt := 15) hx hb dX2_isIn_8 (by decide) (fun c1 => ?_) (fun c1 => ?_)
  · have hf2 := if_at_t c1 hf
    clear hf
    refine lv_iconst (v := 0) hx hb dX2_isIn_15 (by decide) ?_
    obtain ⟨rfl, rfl⟩ := ret_inj hf2
    exact x_zret X hr hlocks rfl hP hS dX2_isIn_16
  · have hf3 := if_at_f c1 hf
    clear hf
    refine lv_iconst (v := 1) hx hb dX2_isIn_11 (by decide) ?_
    refine lv_goto (tgt := 16) hx hb dX2_isIn_12 (by decide) ?_
    obtain ⟨rfl, rfl⟩ := ret_inj hf3
    exact x_zret X hr hlocks rfl hP hS dX2_isIn_16
set_option maxRecDepth 100000 in
set_option maxHeartbeats 4000000 in
theorem tX2_cellsDrifted (l : Launch) {g : Gx} (hI : InjG g) {h k h1 : Hp} {a1 : Int32} {a2 : Int32} {r : Int32}   (hf : fX2_cellsDrifted a1 a2 h = some (r, h1)) : CI l yX2_cellsDrifted cX2_cellsDrifted 2 (some .int) 0 g [.int a1, .int a2] h k h1 k r := by
  refine Met.ofW (cc := cX2_cellsDrifted) (maxL := 2) (ret := (some .int)) (by decide) rfl ?_
  intro p en s m args below meth c s₁ B hml hv
  obtain ⟨rfl, hSK, hSH, hP⟩ := hv
  have X : Cx p s m _ c cX2_cellsDrifted 2 RX2 g := ⟨B.exec, B.bytes, hml, findClass_of_methodNamed B.named, fun w hw => atoms_spec (ws := wsy yX2_cellsDrifted cX2_cellsDrifted 2 (some .int)) B.pre w (List.mem_cons_of_mem _ hw), hSK, hI, hSH⟩
  have hr := B.returns
  have hlocks := B.notSynchronized
  have hx := X.1
  have hb := X.2.1
  have hS : va_S (inA g) s.heap s.heap [] := va_S.rf
  clear hSK hSH hml B
  have hl := lv_entry ([.int a1, .int a2]) (n := 2) (Nat.le_of_ble_eq_true rfl)
  rw [lg_entry_eq]
  generalize (lg_sl ([.int a1, .int a2]) ++ List.replicate (2 - (lg_sl ([.int a1, .int a2])).length) Slot.unset).toArray = ls at hl ⊢
  have hl : lv_has ls 2 [(0, .int a1), (1, .int a2)] := hl
  generalize ([.int a1, .int a2] : List Value).toArray = args at X ⊢
  show W p l en (rmD 0) s m args below meth c s.heap [] 0 0 (MQ below (QI g h1 k r) args s 0 0 (inA g)) (F0 m 0 ls [])
  unfold fX2_cellsDrifted at hf
  refine lv_iload_n hx hb dX2_cellsDrifted_0 rfl (lv_at hl 0 rfl) ?_
  by_cases c1 : a1 = (2 : Int32)
  · have hf2 := if_at_t c1 hf
    clear hf
    refine lv_tableIn (tgt := 32) hx hb dX2_cellsDrifted_1 (by rw [c1]; decide) (by rw [c1]; decide) (by rw [c1]; rfl) (by decide) ?_
    refine lv_iload_n hx hb dX2_cellsDrifted_32 rfl (lv_at hl 1 rfl) ?_
    refine lv_iconst (v := 2) hx hb dX2_cellsDrifted_33 (by decide) ?_
    refine lv_idiv hx hb dX2_cellsDrifted_34 (by decide) ?_
    obtain ⟨rfl, rfl⟩ := ret_inj hf2
    exact x_iret X hr hlocks hP hS dX2_cellsDrifted_35
  · have hf3 := if_at_f c1 hf
    clear hf
    by_cases c4 : a1 = (3 : Int32)
    · have hf5 := if_at_t c4 hf3
      clear hf3
      refine lv_tableIn (tgt := 36) hx hb dX2_cellsDrifted_1 (by rw [c4]; decide) (by rw [c4]; decide) (by rw [c4]; rfl) (by decide) ?_
      refine lv_iload_n hx hb dX2_cellsDrifted_36 rfl (lv_at hl 1 rfl) ?_
      refine lv_iconst (v := 2) hx hb dX2_cellsDrifted_37 (by decide) ?_
      refine lv_imul hx hb dX2_cellsDrifted_38 ?_
      obtain ⟨rfl, rfl⟩ := ret_inj hf5
      exact x_iret X hr hlocks hP hS dX2_cellsDrifted_39
    · have hf6 := if_at_f c4 hf3
      clear hf3
      by_cases c7 : a1 = (4 : Int32)
      · have hf8 := if_at_t c7 hf6
        clear hf6
        refine lv_tableIn (tgt := 40) hx hb dX2_cellsDrifted_1 (by rw [c7]; decide) (by rw [c7]; decide) (by rw [c7]; rfl) (by decide) ?_
        refine lv_iconst (v := -1) hx hb dX2_cellsDrifted_40 (by decide) ?_
        obtain ⟨rfl, rfl⟩ := ret_inj hf8
        exact x_iret X hr hlocks hP hS dX2_cellsDrifted_41
      · have hf9 := if_at_f c7 hf6
        clear hf6
        by_cases c10 : a1 = (5 : Int32)
        · have hf11 := if_at_t c10 hf9
          clear hf9
          refine lv_tableIn (tgt := 42) hx hb dX2_cellsDrifted_1 (by rw [c10]; decide) (by rw [c10]; decide) (by rw [c10]; rfl) (by decide) ?_
          refine lv_iconst (v := 0) hx hb dX2_cellsDrifted_42 (by decide) ?_
          obtain ⟨rfl, rfl⟩ := ret_inj hf11
          exact x_iret X hr hlocks hP hS dX2_cellsDrifted_43
        · have hf12 := if_at_f c10 hf9
          clear hf9
          have q0 := sw_ne (j := 2) rfl c1
          have q1 := sw_ne (j := 3) rfl c4
          have q2 := sw_ne (j := 4) rfl c7
          have q3 := sw_ne (j := 5) rfl c10
          refine lv_tableOut (tgt := 44) hx hb dX2_cellsDrifted_1 (by omega) (by decide) ?_
          clear q0 q1 q2 q3
          refine lv_iload_n hx hb dX2_cellsDrifted_44 rfl (lv_at hl 1 rfl) ?_
          obtain ⟨rfl, rfl⟩ := ret_inj hf12
          exact x_iret X hr hlocks hP hS dX2_cellsDrifted_45
set_option maxRecDepth 100000 in
set_option maxHeartbeats 4000000 in
theorem tX2_thickened (l : Launch) {g : Gx} (hI : InjG g) {h k h1 : Hp} {e : Nat} {a1 : Int32} {a2 : Int32} {r : Int32}  (he : isE e) (hf : fX2_thickened e a1 a2 h = some (r, h1)) : CI l yX2_thickened cX2_thickened 4 (some .int) 0 g [.ref (g.2.2 e), .int a1, .int a2] h k h1 k r := by
  refine Met.ofW (cc := cX2_thickened) (maxL := 4) (ret := (some .int)) (by decide) rfl ?_
  intro p en s m args below meth c s₁ B hml hv
  obtain ⟨rfl, hSK, hSH, hP⟩ := hv
  have X : Cx p s m _ c cX2_thickened 4 RX2 g := ⟨B.exec, B.bytes, hml, findClass_of_methodNamed B.named, fun w hw => atoms_spec (ws := wsy yX2_thickened cX2_thickened 4 (some .int)) B.pre w (List.mem_cons_of_mem _ hw), hSK, hI, hSH⟩
  have hr := B.returns
  have hlocks := B.notSynchronized
  have hx := X.1
  have hb := X.2.1
  have hS : va_S (inA g) s.heap s.heap [] := va_S.rf
  clear hSK hSH hml B
  have hl := lv_entry ([.ref (g.2.2 e), .int a1, .int a2]) (n := 4) (Nat.le_of_ble_eq_true rfl)
  rw [lg_entry_eq]
  generalize (lg_sl ([.ref (g.2.2 e), .int a1, .int a2]) ++ List.replicate (4 - (lg_sl ([.ref (g.2.2 e), .int a1, .int a2])).length) Slot.unset).toArray = ls at hl ⊢
  have hl : lv_has ls 4 [(0, .ref (g.2.2 e)), (1, .int a1), (2, .int a2)] := hl
  generalize ([.ref (g.2.2 e), .int a1, .int a2] : List Value).toArray = args at X ⊢
  show W p l en (rmD 0) s m args below meth c s.heap [] 0 0 (MQ below (QI g h1 k r) args s 0 0 (inA g)) (F0 m 0 ls [])
  unfold fX2_thickened at hf
  refine lv_aload_n hx hb dX2_thickened_0 rfl (lv_at hl 0 rfl) ?_
  refine gX2 X hP he 13 (v := .int (h e 13)) rfl (by decide) rfl wd_137 dX2_thickened_1 ?_
  refine lv_iconst (v := 2) hx hb dX2_thickened_4 (by decide) ?_
  refine x_irem X dX2_thickened_5 (by decide) ?_
  obtain ⟨J14_1, eJ14_1, hf27⟩ := jp_at hf
  clear hf
  have hJ14_1 : ∀ (J14_1s0 : Int32) (hh2 : Hp) (H3 : Heap) (lc4 : List Loc) (ls5 : Array Slot), J14_1 J14_1s0 hh2 = some (r, h1) → va_P g.1 vwCl (WW g hh2 k) H3 → va_S (inA g) s.heap H3 lc4 → lv_has ls5 4 [(1, .int a1), (2, .int a2)] → W p l en (rmD 0) s m args below meth c H3 lc4 0 0 (MQ below (QI g h1 k r) args s 0 0 (inA g)) (F0 m 14 ls5 [.int J14_1s0]) := by
    intro J14_1s0 hh2 H3 lc4 ls5 hf9 hP6 hS7 hl8
    clear hf27 hP hS hl
    subst eJ14_1
    refine lv_istore_n (lv' := [(3, .int J14_1s0), (1, .int a1), (2, .int a2)]) hx hb dX2_thickened_14 rfl hl8 (by decide) rfl (fun ls10 hl11 => ?_)
    clear hl8
    refine lv_iload_n hx hb dX2_thickened_15 rfl (lv_at hl11 1 rfl) ?_
    by_cases c12 : a1 = (3 : Int32)
    · have hf13 := if_at_t c12 hf9
      clear hf9
      refine lv_tableIn (tgt := 44) hx hb dX2_thickened_16 (by rw [c12]; decide) (by rw [c12]; decide) (by rw [c12]; rfl) (by decide) ?_
      refine lv_iload_n hx hb dX2_thickened_44 rfl (lv_at hl11 0 rfl) ?_
      refine lv_iconst (v := 1) hx hb dX2_thickened_45 (by decide) ?_
      refine lv_isub hx hb dX2_thickened_46 ?_
      obtain ⟨rfl, rfl⟩ := ret_inj hf13
      exact x_iret X hr hlocks hP6 hS7 dX2_thickened_47
    · have hf14 := if_at_f c12 hf9
      clear hf9
      by_cases c15 : a1 = (4 : Int32)
      · have hf16 := if_at_t c15 hf14
        clear hf14
        refine lv_tableIn (tgt := 48) hx hb dX2_thickened_16 (by rw [c15]; decide) (by rw [c15]; decide) (by rw [c15]; rfl) (by decide) ?_
        refine lv_iload_n hx hb dX2_thickened_48 rfl (lv_at hl11 2 rfl) ?_
        refine lv_if_eq (tgt := 56) hx hb dX2_thickened_49 (by decide) (fun c18 => ?_) (fun c18 => ?_)
        · have hf19 := if_at_t c18 hf16
          clear hf16
          refine lv_iconst (v := -1) hx hb dX2_thickened_56 (by decide) ?_
          obtain ⟨rfl, rfl⟩ := ret_inj hf19
          exact x_iret X hr hlocks hP6 hS7 dX2_thickened_57
        · have hf20 := if_at_f c18 hf16
          clear hf16
          refine lv_iconst (v := 0) hx hb dX2_thickened_52 (by decide) ?_
          refine lv_goto (tgt := 57) hx hb dX2_thickened_53 (by decide) ?_
          obtain ⟨rfl, rfl⟩ := ret_inj hf20
          exact x_iret X hr hlocks hP6 hS7 dX2_thickened_57
      · have hf17 := if_at_f c15 hf14
        clear hf14
        by_cases c21 : a1 = (5 : Int32)
        · have hf22 := if_at_t c21 hf17
          clear hf17
          refine lv_tableIn (tgt := 58) hx hb dX2_thickened_16 (by rw [c21]; decide) (by rw [c21]; decide) (by rw [c21]; rfl) (by decide) ?_
          refine lv_iload_n hx hb dX2_thickened_58 rfl (lv_at hl11 2 rfl) ?_
          refine lv_if_eq (tgt := 66) hx hb dX2_thickened_59 (by decide) (fun c24 => ?_) (fun c24 => ?_)
          · have hf25 := if_at_t c24 hf22
            clear hf22
            refine lv_iconst (v := -1) hx hb dX2_thickened_66 (by decide) ?_
            obtain ⟨rfl, rfl⟩ := ret_inj hf25
            exact x_iret X hr hlocks hP6 hS7 dX2_thickened_67
          · have hf26 := if_at_f c24 hf22
            clear hf22
            refine lv_iconst (v := 1) hx hb dX2_thickened_62 (by decide) ?_
            refine lv_goto (tgt := 67) hx hb dX2_thickened_63 (by decide) ?_
            obtain ⟨rfl, rfl⟩ := ret_inj hf26
            exact x_iret X hr hlocks hP6 hS7 dX2_thickened_67
        · have hf23 := if_at_f c21 hf17
          clear hf17
          have q0 := sw_ne (j := 3) rfl c12
          have q1 := sw_ne (j := 4) rfl c15
          have q2 := sw_ne (j := 5) rfl c21
          refine lv_tableOut (tgt := 68) hx hb dX2_thickened_16 (by omega) (by decide) ?_
          clear q0 q1 q2
          refine lv_iload_n hx hb dX2_thickened_68 rfl (lv_at hl11 0 rfl) ?_
          obtain ⟨rfl, rfl⟩ := ret_inj hf23
          exact x_iret X hr hlocks hP6 hS7 dX2_thickened_69
  clear eJ14_1
  refine lv_if_ne (tgt := 13) hx hb dX2_thickened_6 (by decide) (fun c28 => ?_) (fun c28 => ?_)
  · have hf29 := if_at_f c28 hf27
    clear hf27
    refine lv_iconst (v := -1) hx hb dX2_thickened_13 (by decide) ?_
    exact hJ14_1 (-1 : Int32) h  _ _ _ hf29 hP hS (lv_sub hl [1, 2] rfl)
  · have hf30 := if_at_t c28 hf27
    clear hf27
    refine lv_iconst (v := 0) hx hb dX2_thickened_9 (by decide) ?_
    refine lv_goto (tgt := 14) hx hb dX2_thickened_10 (by decide) ?_
    exact hJ14_1 (0 : Int32) h  _ _ _ hf30 hP hS (lv_sub hl [1, 2] rfl)
