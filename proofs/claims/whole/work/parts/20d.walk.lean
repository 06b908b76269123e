set_option maxRecDepth 100000 in
set_option maxHeartbeats 4000000 in
theorem wX6_commonDivisor_L4 {p : Program} {l : Launch} {en : Env} {s : State} {m : MethodId} {args : Array Value} {below : List Frame} {meth : Method} {c : Code} {g : Gx} (X : Cx p s m args c cX6_commonDivisor 4 RX6 g) (hr : meth.sig.returnType = (some .int)) (hlocks : meth.locks = false) {k h1 : Hp} {r : Int32} {v0 : Int32} {v1 : Int32}  
     :
    ∀ (n : Nat) (v2 : Int32) (v3 : Int32) (h : Hp) (H : Heap) (locs : List Loc) (ls : Array Slot), fX6_commonDivisor_L4 n v0 v1 v2 v3 h = some (r, h1) → va_P g.1 vwCl (WW g h k) H → va_S (inA g) s.heap H locs → lv_has ls 4 [(0, .int v0), (1, .int v1), (2, .int v2), (3, .int v3)] → W p l en (rmD 0) s m args below meth c H locs 0 0 (MQ below (QI g h1 k r) args s 0 0 (inA g)) (F0 m 4 ls []) := by
  have hx := X.1
  have hb := X.2.1
  intro n
  induction n with
  | zero => intro v2 v3 h H locs ls  hf; simp only [fX6_commonDivisor_L4, reduceCtorEq] at hf
  | succ n ih =>
    intro v2 v3 h H locs ls  hf hP hS hl
    rw [fX6_commonDivisor_L4] at hf
    refine lv_iload_n hx hb dX6_commonDivisor_4 rfl (lv_at hl 3 rfl) ?_
    refine lv_iload_n hx hb dX6_commonDivisor_5 rfl (lv_at hl 1 rfl) ?_
    refine lv_icmp_gt (tgt := 29) hx hb dX6_commonDivisor_6 (by decide) (fun c5 => ?_) (fun c5 => ?_)
    · have hf6 := if_at_t c5 hf
      clear hf
      refine lv_iload_n hx hb dX6_commonDivisor_29 rfl (lv_at hl 2 rfl) ?_
      obtain ⟨rfl, rfl⟩ := ret_inj hf6
      exact x_iret X hr hlocks hP hS dX6_commonDivisor_30
    · have hf7 := if_at_f c5 hf
      clear hf
      refine lv_iload_n hx hb dX6_commonDivisor_9 rfl (lv_at hl 0 rfl) ?_
      refine lv_iload_n hx hb dX6_commonDivisor_10 rfl (lv_at hl 3 rfl) ?_
      obtain ⟨hc8, hf9⟩ := chk_some hf7
      refine x_irem X dX6_commonDivisor_11 (nz_in hc8) ?_
      obtain ⟨J23_10, eJ23_10, hf23⟩ := jp_at hf9
      clear hf9
      have hJ23_10 : ∀ (J23_10v2 : Int32) (hh11 : Hp) (H12 : Heap) (lc13 : List Loc) (ls14 : Array Slot), J23_10 J23_10v2 hh11 = some (r, h1) → va_P g.1 vwCl (WW g hh11 k) H12 → va_S (inA g) s.heap H12 lc13 → lv_has ls14 4 [(0, .int v0), (1, .int v1), (2, .int J23_10v2), (3, .int v3)] → W p l en (rmD 0) s m args below meth c H12 lc13 0 0 (MQ below (QI g h1 k r) args s 0 0 (inA g)) (F0 m 23 ls14 []) := by
        intro J23_10v2 hh11 H12 lc13 ls14 hf18 hP15 hS16 hl17
        clear hf23 hP hS hl
        subst eJ23_10
        obtain ⟨x19, ex19⟩ : ∃ q : Int32, q = v3 + (1 : Int32) := ⟨_, rfl⟩
        have hf20 := lk_at ex19 hf18
        clear hf18
        refine lv_iinc (v := x19) (lv' := [(3, .int x19), (0, .int v0), (1, .int v1), (2, .int J23_10v2)]) hx hb dX6_commonDivisor_23 hl17 (k := 3) rfl (by rw [ex19]; rfl) (by decide) rfl (fun ls21 hl22 => ?_)
        clear hl17
        refine lv_goto (tgt := 4) hx hb dX6_commonDivisor_26 (by decide) ?_
        exact ih J23_10v2 x19 hh11  _ _ _ hf20 hP15 hS16 (lv_sub hl22 [1, 2, 3, 0] rfl)
      clear eJ23_10
      refine lv_if_ne (tgt := 23) hx hb dX6_commonDivisor_12 (by decide) (fun c24 => ?_) (fun c24 => ?_)
      · have hf25 := if_at_f c24 hf23
        clear hf23
        exact hJ23_10 v2 h  _ _ _ hf25 hP hS (lv_sub hl [0, 1, 2, 3] rfl)
      · have hf26 := if_at_t c24 hf23
        clear hf23
        refine lv_iload_n hx hb dX6_commonDivisor_15 rfl (lv_at hl 1 rfl) ?_
        refine lv_iload_n hx hb dX6_commonDivisor_16 rfl (lv_at hl 3 rfl) ?_
        obtain ⟨hc27, hf28⟩ := chk_some hf26
        refine x_irem X dX6_commonDivisor_17 (nz_in hc27) ?_
        refine lv_if_ne (tgt := 23) hx hb dX6_commonDivisor_18 (by decide) (fun c29 => ?_) (fun c29 => ?_)
        · have hf30 := if_at_f c29 hf28
          clear hf28
          exact hJ23_10 v2 h  _ _ _ hf30 hP hS (lv_sub hl [0, 1, 2, 3] rfl)
        · have hf31 := if_at_t c29 hf28
          clear hf28
          refine lv_iload_n hx hb dX6_commonDivisor_21 rfl (lv_at hl 3 rfl) ?_
          refine lv_istore_n (lv' := [(2, .int v3), (0, .int v0), (1, .int v1), (3, .int v3)]) hx hb dX6_commonDivisor_22 rfl hl (by decide) rfl (fun ls32 hl33 => ?_)
          clear hl
          exact hJ23_10 v3 h  _ _ _ hf31 hP hS (lv_sub hl33 [1, 2, 0, 3] rfl)
set_option maxRecDepth 100000 in
set_option maxHeartbeats 4000000 in
theorem tX6_commonDivisor (l : Launch) {g : Gx} (hI : InjG g) {h k h1 : Hp} {a1 : Int32} {a2 : Int32} {r : Int32}   (hf : fX6_commonDivisor a1 a2 h = some (r, h1)) : CI l yX6_commonDivisor cX6_commonDivisor 4 (some .int) 0 g [.int a1, .int a2] h k h1 k r := by
  refine Met.ofW (cc := cX6_commonDivisor) (maxL := 4) (ret := (some .int)) (by decide) rfl ?_
  intro p en s m args below meth c s₁ B hml hv
  obtain ⟨rfl, hSK, hSH, hP⟩ := hv
  have X : Cx p s m _ c cX6_commonDivisor 4 RX6 g := ⟨B.exec, B.bytes, hml, findClass_of_methodNamed B.named, fun w hw => atoms_spec (ws := wsy yX6_commonDivisor cX6_commonDivisor 4 (some .int)) B.pre w (List.mem_cons_of_mem _ hw), hSK, hI, hSH⟩
  have hr := B.returns
  have hlocks := B.notSynchronized
  have hx := X.1
  have hb := X.2.1
  have hS : va_S (inA g) s.heap s.heap [] := va_S.rf
  clear hSK hSH hml B
  have hl := lv_entry ([.int a1, .int a2]) (n := 4) (Nat.le_of_ble_eq_true rfl)
  rw [lg_entry_eq]
  generalize (lg_sl ([.int a1, .int a2]) ++ List.replicate (4 - (lg_sl ([.int a1, .int a2])).length) Slot.unset).toArray = ls at hl ⊢
  have hl : lv_has ls 4 [(0, .int a1), (1, .int a2)] := hl
  generalize ([.int a1, .int a2] : List Value).toArray = args at X ⊢
  show W p l en (rmD 0) s m args below meth c s.heap [] 0 0 (MQ below (QI g h1 k r) args s 0 0 (inA g)) (F0 m 0 ls [])
  unfold fX6_commonDivisor at hf
  refine lv_iconst (v := 1) hx hb dX6_commonDivisor_0 (by decide) ?_
  refine lv_istore_n (lv' := [(2, .int (1 : Int32)), (0, .int a1), (1, .int a2)]) hx hb dX6_commonDivisor_1 rfl hl (by decide) rfl (fun ls1 hl2 => ?_)
  clear hl
  refine lv_iconst (v := 2) hx hb dX6_commonDivisor_2 (by decide) ?_
  refine lv_istore_n (lv' := [(3, .int (2 : Int32)), (2, .int (1 : Int32)), (0, .int a1), (1, .int a2)]) hx hb dX6_commonDivisor_3 rfl hl2 (by decide) rfl (fun ls3 hl4 => ?_)
  clear hl2
  refine wX6_commonDivisor_L4 X hr hlocks   4096 (1 : Int32) (2 : Int32) h _ _ _  hf hP hS (lv_sub hl4 [2, 3, 1, 0] rfl)
set_option maxRecDepth 100000 in
set_option maxHeartbeats 4000000 in
theorem wX6_power_L5 {p : Program} {l : Launch} {en : Env} {s : State} {m : MethodId} {args : Array Value} {below : List Frame} {meth : Method} {c : Code} {g : Gx} (X : Cx p s m args c cX6_power 5 RX6 g) (hr : meth.sig.returnType = (some .long)) (hlocks : meth.locks = false) {k h1 : Hp} {r : Int64} {v0 : Int32} {v1 : Int32}  
     :
    ∀ (n : Nat) (v2 : Int64) (v4 : Int32) (h : Hp) (H : Heap) (locs : List Loc) (ls : Array Slot), fX6_power_L5 n v0 v1 v2 v4 h = some (r, h1) → va_P g.1 vwCl (WW g h k) H → va_S (inA g) s.heap H locs → lv_has ls 5 [(0, .int v0), (1, .int v1), (2, .long v2), (4, .int v4)] → W p l en (rmD 0) s m args below meth c H locs 0 0 (MQ below (QL g h1 k r) args s 0 0 (inA g)) (F0 m 5 ls []) := by
  have hx := X.1
  have hb := X.2.1
  intro n
  induction n with
  | zero => intro v2 v4 h H locs ls  hf; simp only [fX6_power_L5, reduceCtorEq] at hf
  | succ n ih =>
    intro v2 v4 h H locs ls  hf hP hS hl
    rw [fX6_power_L5] at hf
    refine lv_iload hx hb dX6_power_5 (lv_at hl 3 rfl) ?_
    refine lv_iload_n hx hb dX6_power_7 rfl (lv_at hl 1 rfl) ?_
    refine lv_icmp_ge (tgt := 22) hx hb dX6_power_8 (by decide) (fun c5 => ?_) (fun c5 => ?_)
    · have hf6 := if_at_t c5 hf
      clear hf
      refine lv_lload_n hx hb dX6_power_22 rfl (lv_at hl 2 rfl) ?_
      obtain ⟨rfl, rfl⟩ := ret_inj hf6
      exact x_lret X hr hlocks hP hS dX6_power_23
    · have hf7 := if_at_f c5 hf
      clear hf
      refine lv_lload_n hx hb dX6_power_11 rfl (lv_at hl 2 rfl) ?_
      refine lv_iload_n hx hb dX6_power_12 rfl (lv_at hl 0 rfl) ?_
      refine lv_i2l hx hb dX6_power_13 rfl ?_
      refine lv_lmul hx hb dX6_power_14 ?_
      refine lv_topl (fun x8 ex8 => ?_)
      have hf9 := lk_at ex8 hf7
      clear hf7
      refine lv_lstore_n (lv' := [(2, .long x8), (0, .int v0), (1, .int v1), (4, .int v4)]) hx hb dX6_power_15 rfl hl (by decide) rfl (fun ls10 hl11 => ?_)
      clear hl
      obtain ⟨x12, ex12⟩ : ∃ q : Int32, q = v4 + (1 : Int32) := ⟨_, rfl⟩
      have hf13 := lk_at ex12 hf9
      clear hf9
      refine lv_iinc (v := x12) (lv' := [(4, .int x12), (2, .long x8), (0, .int v0), (1, .int v1)]) hx hb dX6_power_16 hl11 (k := 3) rfl (by rw [ex12]; rfl) (by decide) rfl (fun ls14 hl15 => ?_)
      clear hl11
      refine lv_goto (tgt := 5) hx hb dX6_power_19 (by decide) ?_
      exact ih x8 x12 h  _ _ _ hf13 hP hS (lv_sub hl15 [2, 3, 1, 0] rfl)
set_option maxRecDepth 100000 in
set_option maxHeartbeats 4000000 in
theorem tX6_power (l : Launch) {g : Gx} (hI : InjG g) {h k h1 : Hp} {a1 : Int32} {a2 : Int32} {r : Int64}   (hf : fX6_power a1 a2 h = some (r, h1)) : CL l yX6_power cX6_power 5 (some .long) 0 g [.int a1, .int a2] h k h1 k r := by
  refine Met.ofW (cc := cX6_power) (maxL := 5) (ret := (some .long)) (by decide) rfl ?_
  intro p en s m args below meth c s₁ B hml hv
  obtain ⟨rfl, hSK, hSH, hP⟩ := hv
  have X : Cx p s m _ c cX6_power 5 RX6 g := ⟨B.exec, B.bytes, hml, findClass_of_methodNamed B.named, fun w hw => atoms_spec (ws := wsy yX6_power cX6_power 5 (some .long)) B.pre w (List.mem_cons_of_mem _ hw), hSK, hI, hSH⟩
  have hr := B.returns
  have hlocks := B.notSynchronized
  have hx := X.1
  have hb := X.2.1
  have hS : va_S (inA g) s.heap s.heap [] := va_S.rf
  clear hSK hSH hml B
  have hl := lv_entry ([.int a1, .int a2]) (n := 5) (Nat.le_of_ble_eq_true rfl)
  rw [lg_entry_eq]
  generalize (lg_sl ([.int a1, .int a2]) ++ List.replicate (5 - (lg_sl ([.int a1, .int a2])).length) Slot.unset).toArray = ls at hl ⊢
  have hl : lv_has ls 5 [(0, .int a1), (1, .int a2)] := hl
  generalize ([.int a1, .int a2] : List Value).toArray = args at X ⊢
  show W p l en (rmD 0) s m args below meth c s.heap [] 0 0 (MQ below (QL g h1 k r) args s 0 0 (inA g)) (F0 m 0 ls [])
  unfold fX6_power at hf
  refine lv_lconst (v := 1) hx hb dX6_power_0 (by decide) ?_
  refine lv_lstore_n (lv' := [(2, .long (1 : Int64)), (0, .int a1), (1, .int a2)]) hx hb dX6_power_1 rfl hl (by decide) rfl (fun ls1 hl2 => ?_)
  clear hl
  refine lv_iconst (v := 0) hx hb dX6_power_2 (by decide) ?_
  refine lv_istore (lv' := [(4, .int (0 : Int32)), (2, .long (1 : Int64)), (0, .int a1), (1, .int a2)]) hx hb dX6_power_3 hl2 (by decide) rfl (fun ls3 hl4 => ?_)
  clear hl2
  refine wX6_power_L5 X hr hlocks   4096 (1 : Int64) (0 : Int32) h _ _ _  hf hP hS (lv_sub hl4 [2, 3, 1, 0] rfl)
set_option maxRecDepth 100000 in
set_option maxHeartbeats 4000000 in
theorem tX6_lift (l : Launch) {g : Gx} (hI : InjG g) {h k h1 : Hp} {a1 : Int32} {a2 : Int32} {a3 : Int32} {a4 : Int32} {r : Int64}   (hf : fX6_lift a1 a2 a3 a4 h = some (r, h1)) : CL l yX6_lift cX6_lift 7 (some .long) 5 g [.ref (g.2.2 203), .int a1, .int a2, .int a3, .int a4] h k h1 k r := by
  refine Met.ofW (cc := cX6_lift) (maxL := 7) (ret := (some .long)) (by decide) rfl ?_
  intro p en s m args below meth c s₁ B hml hv
  obtain ⟨rfl, hSK, hSH, hP⟩ := hv
  have X : Cx p s m _ c cX6_lift 7 RX6 g := ⟨B.exec, B.bytes, hml, findClass_of_methodNamed B.named, fun w hw => atoms_spec (ws := wsy yX6_lift cX6_lift 7 (some .long)) B.pre w (List.mem_cons_of_mem _ hw), hSK, hI, hSH⟩
  have hr := B.returns
  have hlocks := B.notSynchronized
  have hx := X.1
  have hb := X.2.1
  have hS : va_S (inA g) s.heap s.heap [] := va_S.rf
  clear hSK hSH hml B
  have hl := lv_entry ([.ref (g.2.2 203), .int a1, .int a2, .int a3, .int a4]) (n := 7) (Nat.le_of_ble_eq_true rfl)
  rw [lg_entry_eq]
  generalize (lg_sl ([.ref (g.2.2 203), .int a1, .int a2, .int a3, .int a4]) ++ List.replicate (7 - (lg_sl ([.ref (g.2.2 203), .int a1, .int a2, .int a3, .int a4])).length) Slot.unset).toArray = ls at hl ⊢
  have hl : lv_has ls 7 [(0, .ref (g.2.2 203)), (1, .int a1), (2, .int a2), (3, .int a3), (4, .int a4)] := hl
  generalize ([.ref (g.2.2 203), .int a1, .int a2, .int a3, .int a4] : List Value).toArray = args at X ⊢
  show W p l en (rmD 5) s m args below meth c s.heap [] 0 0 (MQ below (QL g h1 k r) args s 0 0 (inA g)) (F0 m 0 ls [])
  unfold fX6_lift at hf
  refine lv_aload_n hx hb dX6_lift_0 rfl (lv_at hl 0 rfl) ?_
  refine gX6 X hP 2 (v := .ref (g.2.2 0)) rfl (by decide) rfl wd_299 dX6_lift_1 ?_
  refine lv_iload_n hx hb dX6_lift_4 rfl (lv_at hl 1 rfl) ?_
  obtain ⟨x1, hh2, hg8, hf7⟩ := bd_some hf
  refine x_ci (x_runV (As := [.int a1]) (rest := []) X hP hS 0 (by decide) (cl_E (⟨rfl, by decide⟩ : isE 0)) rfl (tX2_isCell l X.2.2.2.2.2.2.1 (⟨rfl, by decide⟩ : isE 0) hg8) mi_X6_163 rfl hl.1 rfl (Nat.le_of_ble_eq_true rfl) dX6_lift_5 ⟨Nat.le_of_ble_eq_true rfl, Nat.le_of_ble_eq_true rfl⟩ ⟨Nat.zero_le _, Nat.zero_le _⟩) hS (fun H3 lc4 hP5 hS6 => ?_)
  clear hf hP hS hg8
  refine lv_if_eq (tgt := 38) hx hb dX6_lift_8 (by decide) (fun c9 => ?_) (fun c9 => ?_)
  · have hf10 := if_at_t c9 hf7
    clear hf7
    refine lv_ldc2 (v := -1000001) hx hb X.2.2.2.1 (X.2.2.2.2.1 _ wd_788) dX6_lift_38 ?_
    obtain ⟨rfl, rfl⟩ := ret_inj hf10
    exact x_lret X hr hlocks hP5 hS6 dX6_lift_41
  · have hf11 := if_at_f c9 hf7
    clear hf7
    refine lv_iload_n hx hb dX6_lift_11 rfl (lv_at hl 2 rfl) ?_
    obtain ⟨x12, hh13, hg19, hf18⟩ := bd_some hf11
    refine x_ci (x_runS (As := [.int a2]) (rest := []) X hP5 hS6 (tX6_isFar l X.2.2.2.2.2.2.1  hg19) mi_X6_222 rfl hl.1 rfl (Nat.le_of_ble_eq_true rfl) dX6_lift_12 ⟨Nat.le_of_ble_eq_true rfl, Nat.le_of_ble_eq_true rfl⟩ ⟨Nat.zero_le _, Nat.zero_le _⟩) hS6 (fun H14 lc15 hP16 hS17 => ?_)
    clear hf11 hP5 hS6 hg19
    refine lv_if_eq (tgt := 38) hx hb dX6_lift_15 (by decide) (fun c20 => ?_) (fun c20 => ?_)
    · have hf21 := if_at_t c20 hf18
      clear hf18
      refine lv_ldc2 (v := -1000001) hx hb X.2.2.2.1 (X.2.2.2.2.1 _ wd_788) dX6_lift_38 ?_
      obtain ⟨rfl, rfl⟩ := ret_inj hf21
      exact x_lret X hr hlocks hP16 hS17 dX6_lift_41
    · have hf22 := if_at_f c20 hf18
      clear hf18
      refine lv_iload_n hx hb dX6_lift_18 rfl (lv_at hl 3 rfl) ?_
      refine lv_iconst (v := 0) hx hb dX6_lift_19 (by decide) ?_
      refine lv_bipush (v := 10) hx hb dX6_lift_20 (by decide) ?_
      obtain ⟨x23, hh24, hg30, hf29⟩ := bd_some hf22
      refine x_ci (x_runS (As := [.int a3, .int (0 : Int32), .int (10 : Int32)]) (rest := []) X hP16 hS17 (tX6_isWithin l X.2.2.2.2.2.2.1  hg30) mi_X6_59 rfl hl.1 rfl (Nat.le_of_ble_eq_true rfl) dX6_lift_22 ⟨Nat.le_of_ble_eq_true rfl, Nat.le_of_ble_eq_true rfl⟩ ⟨Nat.zero_le _, Nat.zero_le _⟩) hS17 (fun H25 lc26 hP27 hS28 => ?_)
      clear hf22 hP16 hS17 hg30
      refine lv_if_eq (tgt := 38) hx hb dX6_lift_25 (by decide) (fun c31 => ?_) (fun c31 => ?_)
      · have hf32 := if_at_t c31 hf29
        clear hf29
        refine lv_ldc2 (v := -1000001) hx hb X.2.2.2.1 (X.2.2.2.2.1 _ wd_788) dX6_lift_38 ?_
        obtain ⟨rfl, rfl⟩ := ret_inj hf32
        exact x_lret X hr hlocks hP27 hS28 dX6_lift_41
      · have hf33 := if_at_f c31 hf29
        clear hf29
        refine lv_iload hx hb dX6_lift_28 (lv_at hl 4 rfl) ?_
        refine lv_iconst (v := 0) hx hb dX6_lift_30 (by decide) ?_
        refine lv_iconst (v := 1) hx hb dX6_lift_31 (by decide) ?_
        obtain ⟨x34, hh35, hg41, hf40⟩ := bd_some hf33
        refine x_ci (x_runS (As := [.int a4, .int (0 : Int32), .int (1 : Int32)]) (rest := []) X hP27 hS28 (tX6_isWithin l X.2.2.2.2.2.2.1  hg41) mi_X6_59 rfl hl.1 rfl (Nat.le_of_ble_eq_true rfl) dX6_lift_32 ⟨Nat.le_of_ble_eq_true rfl, Nat.le_of_ble_eq_true rfl⟩ ⟨Nat.zero_le _, Nat.zero_le _⟩) hS28 (fun H36 lc37 hP38 hS39 => ?_)
        clear hf33 hP27 hS28 hg41
        refine lv_if_ne (tgt := 42) hx hb dX6_lift_35 (by decide) (fun c42 => ?_) (fun c42 => ?_)
        · have hf43 := if_at_f c42 hf40
          clear hf40
          refine lv_aload_n hx hb dX6_lift_42 rfl (lv_at hl 0 rfl) ?_
          refine gX6 X hP38 5 (v := .ref (g.2.2 210)) rfl (by decide) rfl wd_302 dX6_lift_43 ?_
          refine lv_aload_n hx hb dX6_lift_46 rfl (lv_at hl 0 rfl) ?_
          refine gX6 X hP38 2 (v := .ref (g.2.2 0)) rfl (by decide) rfl wd_299 dX6_lift_47 ?_
          refine lv_iload_n hx hb dX6_lift_50 rfl (lv_at hl 2 rfl) ?_
          obtain ⟨x44, hh45, hg51, hf50⟩ := bd_some hf43
          refine x_cr (x_runV (As := [.ref (g.2.2 0), .int a2]) (rest := []) X hP38 hS39 210 (by decide) cl_Fo rfl (tX3_behind l X.2.2.2.2.2.2.1 (⟨rfl, by decide⟩ : isE 0) hg51) mi_X6_225 rfl hl.1 rfl (Nat.le_of_ble_eq_true rfl) dX6_lift_51 ⟨Nat.le_of_ble_eq_true rfl, Nat.le_of_ble_eq_true rfl⟩ ⟨Nat.zero_le _, Nat.zero_le _⟩) hS39 (fun H46 lc47 hP48 hS49 => ?_)
          clear hf43 hP38 hS39 hg51
          obtain ⟨hc52, hf53⟩ := chk_some hf50
          refine lv_iload_n hx hb dX6_lift_54 rfl (lv_at hl 1 rfl) ?_
          obtain ⟨x54, hh55, hg61, hf60⟩ := bd_some hf53
          refine x_ci (x_runV (As := [.int a1]) (rest := []) X hP48 hS49 x44 (isE_lt (isEb_in hc52)) (cl_E (isEb_in hc52)) rfl (tX2_sheetsOn l X.2.2.2.2.2.2.1 (isEb_in hc52) hg61) mi_X6_206 rfl hl.1 rfl (Nat.le_of_ble_eq_true rfl) dX6_lift_55 ⟨Nat.le_of_ble_eq_true rfl, Nat.le_of_ble_eq_true rfl⟩ ⟨Nat.zero_le _, Nat.zero_le _⟩) hS49 (fun H56 lc57 hP58 hS59 => ?_)
          clear hf53 hP48 hS49 hg61
          obtain ⟨x62, hh63, hg69, hf68⟩ := bd_some hf60
          refine x_ci (x_runS (As := [.int x54]) (rest := []) X hP58 hS59 (tJ6_bitCount l X.2.2.2.2.2.2.1  hg69) mi_X6_256 rfl hl.1 rfl (Nat.le_of_ble_eq_true rfl) dX6_lift_58 ⟨Nat.le_of_ble_eq_true rfl, Nat.le_of_ble_eq_true rfl⟩ ⟨Nat.zero_le _, Nat.zero_le _⟩) hS59 (fun H64 lc65 hP66 hS67 => ?_)
          clear hf60 hP58 hS59 hg69
          refine lv_istore (lv' := [(5, .int x62), (0, .ref (g.2.2 203)), (1, .int a1), (2, .int a2), (3, .int a3), (4, .int a4)]) hx hb dX6_lift_61 hl (by decide) rfl (fun ls70 hl71 => ?_)
          clear hl
          refine lv_iload_n hx hb dX6_lift_63 rfl (lv_at hl71 4 rfl) ?_
          refine lv_bipush (v := 10) hx hb dX6_lift_64 (by decide) ?_
          obtain ⟨x72, hh73, hg79, hf78⟩ := bd_some hf68
          refine x_ci (x_runS (As := [.int a3, .int (10 : Int32)]) (rest := []) X hP66 hS67 (tX6_commonDivisor l X.2.2.2.2.2.2.1  hg79) mi_X6_276 rfl hl71.1 rfl (Nat.le_of_ble_eq_true rfl) dX6_lift_66 ⟨Nat.le_of_ble_eq_true rfl, Nat.le_of_ble_eq_true rfl⟩ ⟨Nat.zero_le _, Nat.zero_le _⟩) hS67 (fun H74 lc75 hP76 hS77 => ?_)
          clear hf68 hP66 hS67 hg79
          refine lv_istore (lv' := [(6, .int x72), (5, .int x62), (0, .ref (g.2.2 203)), (1, .int a1), (2, .int a2), (3, .int a3), (4, .int a4)]) hx hb dX6_lift_69 hl71 (by decide) rfl (fun ls80 hl81 => ?_)
          clear hl71
          refine lv_iload hx hb dX6_lift_71 (lv_at hl81 6 rfl) ?_
          obtain ⟨J82_82, eJ82_82, hf101⟩ := jp_at hf78
          clear hf78
          have hJ82_82 : ∀ (J82_82s0 : Int32) (hh83 : Hp) (H84 : Heap) (lc85 : List Loc) (ls86 : Array Slot), J82_82 J82_82s0 hh83 = some (r, h1) → va_P g.1 vwCl (WW g hh83 k) H84 → va_S (inA g) s.heap H84 lc85 → lv_has ls86 7 [(5, .int x62), (6, .int x72)] → W p l en (rmD 5) s m args below meth c H84 lc85 0 0 (MQ below (QL g h1 k r) args s 0 0 (inA g)) (F0 m 82 ls86 [.int J82_82s0]) := by
            intro J82_82s0 hh83 H84 lc85 ls86 hf90 hP87 hS88 hl89
            clear hf101 hP76 hS77 hl81
            subst eJ82_82
            refine lv_iload hx hb dX6_lift_82 (lv_at hl89 1 rfl) ?_
            obtain ⟨hc91, hf92⟩ := chk_some hf90
            refine lv_idiv hx hb dX6_lift_84 (nz_in hc91) ?_
            refine lv_iload hx hb dX6_lift_85 (lv_at hl89 0 rfl) ?_
            obtain ⟨x93, hh94, hg100, hf99⟩ := bd_some hf92
            refine x_cl (x_runS (As := [.int (J82_82s0 / x72), .int x62]) (rest := []) X hP87 hS88 (tX6_power l X.2.2.2.2.2.2.1  hg100) mi_X6_279 rfl hl89.1 rfl (Nat.le_of_ble_eq_true rfl) dX6_lift_87 ⟨Nat.le_of_ble_eq_true rfl, Nat.le_of_ble_eq_true rfl⟩ ⟨Nat.zero_le _, Nat.zero_le _⟩) hS88 (fun H95 lc96 hP97 hS98 => ?_)
            clear hf92 hP87 hS88 hg100
            obtain ⟨rfl, rfl⟩ := ret_inj hf99
            exact x_lret X hr hlocks hP97 hS98 dX6_lift_90
          clear eJ82_82
          refine lv_if_ne (tgt := 80) hx hb dX6_lift_73 (by decide) (fun c102 => ?_) (fun c102 => ?_)
          · have hf103 := if_at_f c102 hf101
            clear hf101
            refine lv_bipush (v := 10) hx hb dX6_lift_80 (by decide) ?_
            exact hJ82_82 (10 : Int32) hh73  _ _ _ hf103 hP76 hS77 (lv_sub hl81 [1, 0] rfl)
          · have hf104 := if_at_t c102 hf101
            clear hf101
            refine lv_iload_n hx hb dX6_lift_76 rfl (lv_at hl81 5 rfl) ?_
            refine lv_goto (tgt := 82) hx hb dX6_lift_77 (by decide) ?_
            exact hJ82_82 a3 hh73  _ _ _ hf104 hP76 hS77 (lv_sub hl81 [1, 0] rfl)
        · have hf105 := if_at_t c42 hf40
          clear hf40
          refine lv_ldc2 (v := -1000001) hx hb X.2.2.2.1 (X.2.2.2.2.1 _ wd_788) dX6_lift_38 ?_
          obtain ⟨rfl, rfl⟩ := ret_inj hf105
          exact x_lret X hr hlocks hP38 hS39 dX6_lift_41
set_option maxRecDepth 100000 in
set_option maxHeartbeats 4000000 in
theorem tX3_drawOne (l : Launch) {g : Gx} (hI : InjG g) {h k h1 : Hp} {a1 : Int32}   (hf : fX3_drawOne a1 h = some ((), h1)) : CV l yX3_drawOne cX3_drawOne 3 none 1 g [.ref (g.2.2 210), .int a1] h k h1 k := by
  refine Met.ofW (cc := cX3_drawOne) (maxL := 3) (ret := none) (by decide) rfl ?_
  intro p en s m args below meth c s₁ B hml hv
  obtain ⟨rfl, hSK, hSH, hP⟩ := hv
  have X : Cx p s m _ c cX3_drawOne 3 RX3 g := ⟨B.exec, B.bytes, hml, findClass_of_methodNamed B.named, fun w hw => atoms_spec (ws := wsy yX3_drawOne cX3_drawOne 3 none) B.pre w (List.mem_cons_of_mem _ hw), hSK, hI, hSH⟩
  have hr := B.returns
  have hlocks := B.notSynchronized
  have hx := X.1
  have hb := X.2.1
  have hS : va_S (inA g) s.heap s.heap [] := va_S.rf
  clear hSK hSH hml B
  have hl := lv_entry ([.ref (g.2.2 210), .int a1]) (n := 3) (Nat.le_of_ble_eq_true rfl)
  rw [lg_entry_eq]
  generalize (lg_sl ([.ref (g.2.2 210), .int a1]) ++ List.replicate (3 - (lg_sl ([.ref (g.2.2 210), .int a1])).length) Slot.unset).toArray = ls at hl ⊢
  have hl : lv_has ls 3 [(0, .ref (g.2.2 210)), (1, .int a1)] := hl
  generalize ([.ref (g.2.2 210), .int a1] : List Value).toArray = args at X ⊢
  show W p l en (rmD 1) s m args below meth c s.heap [] 0 0 (MQ below (QV g h1 k) args s 0 0 (inA g)) (F0 m 0 ls [])
  unfold fX3_drawOne at hf
  refine lv_aload_n hx hb dX3_drawOne_0 rfl (lv_at hl 0 rfl) ?_
  refine gX3 X hP 0 (v := .ref (g.2.2 14)) rfl (by decide) rfl wd_240 dX3_drawOne_1 ?_
  refine gX2 X hP (⟨rfl, by decide⟩ : isE 14) 11 (v := .int (h 14 11)) rfl (by decide) rfl wd_131 dX3_drawOne_4 ?_
  refine lv_if_le (tgt := 30) hx hb dX3_drawOne_7 (by decide) (fun c1 => ?_) (fun c1 => ?_)
  · have hf2 := if_at_t c1 hf
    clear hf
    obtain ⟨-, rfl⟩ := ret_inj hf2
    exact x_vret X hr hlocks hP hS dX3_drawOne_30
  · have hf3 := if_at_f c1 hf
    clear hf
    refine lv_aload_n hx hb dX3_drawOne_10 rfl (lv_at hl 0 rfl) ?_
    refine gX3 X hP 0 (v := .ref (g.2.2 14)) rfl (by decide) rfl wd_240 dX3_drawOne_11 ?_
    refine gX2 X hP (⟨rfl, by decide⟩ : isE 14) 12 (v := .int (h 14 12)) rfl (by decide) rfl wd_136 dX3_drawOne_14 ?_
    refine lv_if_le (tgt := 30) hx hb dX3_drawOne_17 (by decide) (fun c4 => ?_) (fun c4 => ?_)
    · have hf5 := if_at_t c4 hf3
      clear hf3
      obtain ⟨-, rfl⟩ := ret_inj hf5
      exact x_vret X hr hlocks hP hS dX3_drawOne_30
    · have hf6 := if_at_f c4 hf3
      clear hf3
      refine lv_aload_n hx hb dX3_drawOne_20 rfl (lv_at hl 0 rfl) ?_
      refine gX3 X hP 0 (v := .ref (g.2.2 14)) rfl (by decide) rfl wd_240 dX3_drawOne_21 ?_
      refine gX2 X hP (⟨rfl, by decide⟩ : isE 14) 7 (v := .int (h 14 7)) rfl (by decide) rfl wd_116 dX3_drawOne_24 ?_
      refine lv_if_gt (tgt := 31) hx hb dX3_drawOne_27 (by decide) (fun c7 => ?_) (fun c7 => ?_)
      · have hf8 := if_at_t c7 hf6
        clear hf6
        refine lv_iload_n hx hb dX3_drawOne_31 rfl (lv_at hl 1 rfl) ?_
        refine lv_iconst (v := 3) hx hb dX3_drawOne_32 (by decide) ?_
        refine x_irem X dX3_drawOne_33 (by decide) ?_
        obtain ⟨J57_9, eJ57_9, hf45⟩ := jp_at hf8
        clear hf8
        have hJ57_9 : ∀  (hh10 : Hp) (H11 : Heap) (lc12 : List Loc) (ls13 : Array Slot), J57_9  hh10 = some ((), h1) → va_P g.1 vwCl (WW g hh10 k) H11 → va_S (inA g) s.heap H11 lc12 → lv_has ls13 3 [(0, .ref (g.2.2 210)), (1, .int a1)] → W p l en (rmD 1) s m args below meth c H11 lc12 0 0 (MQ below (QV g h1 k) args s 0 0 (inA g)) (F0 m 57 ls13 []) := by
          intro  hh10 H11 lc12 ls13 hf17 hP14 hS15 hl16
          clear hf45 hP hS hl
          subst eJ57_9
          refine lv_iload_n hx hb dX3_drawOne_57 rfl (lv_at hl16 1 rfl) ?_
          refine lv_aload_n hx hb dX3_drawOne_58 rfl (lv_at hl16 0 rfl) ?_
          refine gX3 X hP14 0 (v := .ref (g.2.2 14)) rfl (by decide) rfl wd_240 dX3_drawOne_59 ?_
          refine gX2 X hP14 (⟨rfl, by decide⟩ : isE 14) 12 (v := .int (hh10 14 12)) rfl (by decide) rfl wd_136 dX3_drawOne_62 ?_
          obtain ⟨hc18, hf19⟩ := chk_some hf17
          refine x_irem X dX3_drawOne_65 (nz_in hc18) ?_
          refine lv_topi (fun x20 ex20 => ?_)
          have hf21 := lk_at ex20 hf19
          clear hf19
          refine lv_istore_n (lv' := [(2, .int x20), (0, .ref (g.2.2 210)), (1, .int a1)]) hx hb dX3_drawOne_66 rfl hl16 (by decide) rfl (fun ls22 hl23 => ?_)
          clear hl16
          refine lv_aload_n hx hb dX3_drawOne_67 rfl (lv_at hl23 1 rfl) ?_
          refine gX3 X hP14 0 (v := .ref (g.2.2 14)) rfl (by decide) rfl wd_240 dX3_drawOne_68 ?_
          refine lv_iload_n hx hb dX3_drawOne_71 rfl (lv_at hl23 0 rfl) ?_
          obtain ⟨x24, hh25, hg31, hf30⟩ := bd_some hf21
          refine x_ci (x_runV (As := [.int x20]) (rest := []) X hP14 hS15 14 (by decide) (cl_E (⟨rfl, by decide⟩ : isE 14)) rfl (tX2_isIn l X.2.2.2.2.2.2.1 (⟨rfl, by decide⟩ : isE 14) hg31) mi_X3_40 rfl hl23.1 rfl (Nat.le_of_ble_eq_true rfl) dX3_drawOne_72 ⟨Nat.le_of_ble_eq_true rfl, Nat.le_of_ble_eq_true rfl⟩ ⟨Nat.zero_le _, Nat.zero_le _⟩) hS15 (fun H26 lc27 hP28 hS29 => ?_)
          clear hf21 hP14 hS15 hg31
          refine lv_if_ne (tgt := 101) hx hb dX3_drawOne_75 (by decide) (fun c32 => ?_) (fun c32 => ?_)
          · have hf33 := if_at_f c32 hf30
            clear hf30
            obtain ⟨-, rfl⟩ := ret_inj hf33
            exact x_vret X hr hlocks hP28 hS29 dX3_drawOne_101
          · have hf34 := if_at_t c32 hf30
            clear hf30
            refine lv_aload_n hx hb dX3_drawOne_78 rfl (lv_at hl23 1 rfl) ?_
            refine gX3 X hP28 0 (v := .ref (g.2.2 14)) rfl (by decide) rfl wd_240 dX3_drawOne_79 ?_
            refine lv_iload_n hx hb dX3_drawOne_82 rfl (lv_at hl23 0 rfl) ?_
            refine lv_iload_n hx hb dX3_drawOne_83 rfl (lv_at hl23 2 rfl) ?_
            refine lv_aload_n hx hb dX3_drawOne_84 rfl (lv_at hl23 1 rfl) ?_
            refine gX3 X hP28 0 (v := .ref (g.2.2 14)) rfl (by decide) rfl wd_240 dX3_drawOne_85 ?_
            refine gX2 X hP28 (⟨rfl, by decide⟩ : isE 14) 7 (v := .int (hh25 14 7)) rfl (by decide) rfl wd_116 dX3_drawOne_88 ?_
            obtain ⟨hc35, hf36⟩ := chk_some hf34
            refine x_irem X dX3_drawOne_91 (nz_in hc35) ?_
            refine lv_iload_n hx hb dX3_drawOne_92 rfl (lv_at hl23 2 rfl) ?_
            refine lv_bipush (v := 9) hx hb dX3_drawOne_93 (by decide) ?_
            refine x_irem X dX3_drawOne_95 (by decide) ?_
            refine lv_iconst (v := 1) hx hb dX3_drawOne_96 (by decide) ?_
            refine lv_iadd hx hb dX3_drawOne_97 ?_
            obtain ⟨⟨⟩, hh38, hg44, hf43⟩ := bd_some hf36
            refine x_cv (x_runV (As := [.int x20, .int (irm a1 (hh25 14 7)), .int ((irm a1 (9 : Int32)) + (1 : Int32))]) (rest := []) X hP28 hS29 14 (by decide) (cl_E (⟨rfl, by decide⟩ : isE 14)) rfl (tX2_admit l X.2.2.2.2.2.2.1 (⟨rfl, by decide⟩ : isE 14) hg44) mi_X3_187 rfl hl23.1 rfl (Nat.le_of_ble_eq_true rfl) dX3_drawOne_98 ⟨Nat.le_of_ble_eq_true rfl, Nat.le_of_ble_eq_true rfl⟩ ⟨Nat.zero_le _, Nat.zero_le _⟩) hS29 (fun H39 lc40 hP41 hS42 => ?_)
            clear hf36 hP28 hS29 hg44
            obtain ⟨-, rfl⟩ := ret_inj hf43
            exact x_vret X hr hlocks hP41 hS42 dX3_drawOne_101
        clear eJ57_9
        refine lv_if_ne (tgt := 57) hx hb dX3_drawOne_34 (by decide) (fun c46 => ?_) (fun c46 => ?_)
        · have hf47 := if_at_f c46 hf45
          clear hf45
          exact hJ57_9 h  _ _ _ hf47 hP hS (lv_sub hl [0, 1] rfl)
        · have hf48 := if_at_t c46 hf45
          clear hf45
          refine lv_aload_n hx hb dX3_drawOne_37 rfl (lv_at hl 0 rfl) ?_
          refine gX3 X hP 0 (v := .ref (g.2.2 14)) rfl (by decide) rfl wd_240 dX3_drawOne_38 ?_
          refine gX2 X hP (⟨rfl, by decide⟩ : isE 14) 0 (v := .ref (g.2.2 15)) rfl (by decide) rfl wd_95 dX3_drawOne_41 ?_
          refine lv_iload_n hx hb dX3_drawOne_44 rfl (lv_at hl 1 rfl) ?_
          refine lv_aload_n hx hb dX3_drawOne_45 rfl (lv_at hl 0 rfl) ?_
          refine gX3 X hP 0 (v := .ref (g.2.2 14)) rfl (by decide) rfl wd_240 dX3_drawOne_46 ?_
          refine gX2 X hP (⟨rfl, by decide⟩ : isE 14) 11 (v := .int (h 14 11)) rfl (by decide) rfl wd_131 dX3_drawOne_49 ?_
          obtain ⟨hc49, hf50⟩ := chk_some hf48
          refine x_irem X dX3_drawOne_52 (nz_in hc49) ?_
          refine lv_iload_n hx hb dX3_drawOne_53 rfl (lv_at hl 1 rfl) ?_
          refine lv_iconst (v := 5) hx hb dX3_drawOne_54 (by decide) ?_
          refine x_irem X dX3_drawOne_55 (by decide) ?_
          obtain ⟨hc51, hf52⟩ := chk_some hf50
          refine x_istC X hP hS 15 rfl hc51 dX3_drawOne_56 (fun H53 lc54 hh55 ehh55 hP56 hS57 => ?_)
          have hf58 := lk_at ehh55 hf52
          clear hf52 hP hS
          exact hJ57_9 hh55  _ _ _ hf58 hP56 hS57 (lv_sub hl [0, 1] rfl)
      · have hf59 := if_at_f c7 hf6
        clear hf6
        obtain ⟨-, rfl⟩ := ret_inj hf59
        exact x_vret X hr hlocks hP hS dX3_drawOne_30
set_option maxRecDepth 100000 in
set_option maxHeartbeats 4000000 in
theorem wX3_drawYears_L18 {p : Program} {l : Launch} {en : Env} {s : State} {m : MethodId} {args : Array Value} {below : List Frame} {meth : Method} {c : Code} {g : Gx} (X : Cx p s m args c cX3_drawYears 9 RX3 g) (hr : meth.sig.returnType = (some .int)) (hlocks : meth.locks = false) {k h1 : Hp} {r : Int32} {v2 : Int32} {v4 : Int32}  {K75 : Int32 → Hp → Option (Int32 × Hp)}
    (hK75 : ∀ (v7 : Int32) (h : Hp) (H : Heap) (locs : List Loc) (ls : Array Slot), K75 v7 h = some (r, h1) → va_P g.1 vwCl (WW g h k) H → va_S (inA g) s.heap H locs → lv_has ls 9 [(0, .ref (g.2.2 210)), (4, .int v4), (7, .int v7)] → W p l en (rmD 4) s m args below meth c H locs 0 0 (MQ below (QI g h1 k r) args s 0 0 (inA g)) (F0 m 75 ls [])) :
    ∀ (n : Nat) (v5 : Int64) (v7 : Int32) (v8 : Int32) (h : Hp) (H : Heap) (locs : List Loc) (ls : Array Slot), fX3_drawYears_L18 K75 n v2 v4 v5 v7 v8 h = some (r, h1) → va_P g.1 vwCl (WW g h k) H → va_S (inA g) s.heap H locs → lv_has ls 9 [(0, .ref (g.2.2 210)), (2, .int v2), (4, .int v4), (5, .long v5), (7, .int v7), (8, .int v8)] → W p l en (rmD 4) s m args below meth c H locs 0 0 (MQ below (QI g h1 k r) args s 0 0 (inA g)) (F0 m 18 ls []) := by
  have hx := X.1
  have hb := X.2.1
  intro n
  induction n with
  | zero => intro v5 v7 v8 h H locs ls  hf; simp only [fX3_drawYears_L18, reduceCtorEq] at hf
  | succ n ih =>
    intro v5 v7 v8 h H locs ls  hf hP hS hl
    rw [fX3_drawYears_L18] at hf
    refine lv_iload hx hb dX3_drawYears_18 (lv_at hl 5 rfl) ?_
    refine lv_iload_n hx hb dX3_drawYears_20 rfl (lv_at hl 1 rfl) ?_
    refine lv_icmp_ge (tgt := 75) hx hb dX3_drawYears_21 (by decide) (fun c17 => ?_) (fun c17 => ?_)
    · have hf18 := if_at_t c17 hf
      clear hf
      exact hK75 v7 h  _ _ _ hf18 hP hS (lv_sub hl [0, 2, 4] rfl)
    · have hf19 := if_at_f c17 hf
      clear hf
      refine lv_lload hx hb dX3_drawYears_24 (lv_at hl 3 rfl) ?_
      refine lv_ldc2 (v := 16807) hx hb X.2.2.2.1 (X.2.2.2.2.1 _ wd_804) dX3_drawYears_26 ?_
      refine lv_lmul hx hb dX3_drawYears_29 ?_
      refine lv_ldc2 (v := 2147483647) hx hb X.2.2.2.1 (X.2.2.2.2.1 _ wd_805) dX3_drawYears_30 ?_
      refine x_lrem X dX3_drawYears_33 (by decide) ?_
      refine lv_topl (fun x20 ex20 => ?_)
      have hf21 := lk_at ex20 hf19
      clear hf19
      refine lv_lstore (lv' := [(5, .long x20), (0, .ref (g.2.2 210)), (2, .int v2), (4, .int v4), (7, .int v7), (8, .int v8)]) hx hb dX3_drawYears_34 hl (by decide) rfl (fun ls22 hl23 => ?_)
      clear hl
      refine lv_aload_n hx hb dX3_drawYears_36 rfl (lv_at hl23 1 rfl) ?_
      refine lv_lload hx hb dX3_drawYears_37 (lv_at hl23 0 rfl) ?_
      refine lv_l2i hx hb dX3_drawYears_39 rfl ?_
      obtain ⟨⟨⟩, hh25, hg31, hf30⟩ := bd_some hf21
      refine x_cv (x_runV (As := [.int x20.toInt32]) (rest := []) X hP hS 210 (by decide) cl_Fo rfl (tX3_drawOne l X.2.2.2.2.2.2.1  hg31) mi_X3_174 rfl hl23.1 rfl (Nat.le_of_ble_eq_true rfl) dX3_drawYears_40 ⟨Nat.le_of_ble_eq_true rfl, Nat.le_of_ble_eq_true rfl⟩ ⟨Nat.zero_le _, Nat.zero_le _⟩) hS (fun H26 lc27 hP28 hS29 => ?_)
      clear hf21 hP hS hg31
      refine lv_aload_n hx hb dX3_drawYears_43 rfl (lv_at hl23 1 rfl) ?_
      refine gX3 X hP28 0 (v := .ref (g.2.2 14)) rfl (by decide) rfl wd_240 dX3_drawYears_44 ?_
      obtain ⟨⟨⟩, hh33, hg39, hf38⟩ := bd_some hf30
      refine x_cv (x_runV (As := []) (rest := []) X hP28 hS29 14 (by decide) (cl_E (⟨rfl, by decide⟩ : isE 14)) rfl (tX2_passHour l X.2.2.2.2.2.2.1 (⟨rfl, by decide⟩ : isE 14) hg39) mi_X3_37 rfl hl23.1 rfl (Nat.le_of_ble_eq_true rfl) dX3_drawYears_47 ⟨Nat.le_of_ble_eq_true rfl, Nat.le_of_ble_eq_true rfl⟩ ⟨Nat.zero_le _, Nat.zero_le _⟩) hS29 (fun H34 lc35 hP36 hS37 => ?_)
      clear hf30 hP28 hS29 hg39
      refine lv_iload hx hb dX3_drawYears_50 (lv_at hl23 4 rfl) ?_
      refine lv_aload_n hx hb dX3_drawYears_52 rfl (lv_at hl23 1 rfl) ?_
      refine gX3 X hP36 0 (v := .ref (g.2.2 14)) rfl (by decide) rfl wd_240 dX3_drawYears_53 ?_
      refine lv_aload_n hx hb dX3_drawYears_56 rfl (lv_at hl23 1 rfl) ?_
      refine gX3 X hP36 0 (v := .ref (g.2.2 14)) rfl (by decide) rfl wd_240 dX3_drawYears_57 ?_
      refine gX2 X hP36 (⟨rfl, by decide⟩ : isE 14) 8 (v := .int (hh33 14 8)) rfl (by decide) rfl wd_120 dX3_drawYears_60 ?_
      obtain ⟨x40, hh41, hg47, hf46⟩ := bd_some hf38
      refine x_ci (x_runV (As := [.int (hh33 14 8)]) (rest := [.int v7]) X hP36 hS37 14 (by decide) (cl_E (⟨rfl, by decide⟩ : isE 14)) rfl (tX2_thicknessOver l X.2.2.2.2.2.2.1 (⟨rfl, by decide⟩ : isE 14) hg47) mi_X3_80 rfl hl23.1 rfl (Nat.le_of_ble_eq_true rfl) dX3_drawYears_63 ⟨Nat.le_of_ble_eq_true rfl, Nat.le_of_ble_eq_true rfl⟩ ⟨Nat.zero_le _, Nat.zero_le _⟩) hS37 (fun H42 lc43 hP44 hS45 => ?_)
      clear hf38 hP36 hS37 hg47
      refine lv_iadd hx hb dX3_drawYears_66 ?_
      refine lv_topi (fun x48 ex48 => ?_)
      have hf49 := lk_at ex48 hf46
      clear hf46
      refine lv_istore (lv' := [(7, .int x48), (5, .long x20), (0, .ref (g.2.2 210)), (2, .int v2), (4, .int v4), (8, .int v8)]) hx hb dX3_drawYears_67 hl23 (by decide) rfl (fun ls50 hl51 => ?_)
      clear hl23
      obtain ⟨x52, ex52⟩ : ∃ q : Int32, q = v8 + (1 : Int32) := ⟨_, rfl⟩
      have hf53 := lk_at ex52 hf49
      clear hf49
      refine lv_iinc (v := x52) (lv' := [(8, .int x52), (7, .int x48), (5, .long x20), (0, .ref (g.2.2 210)), (2, .int v2), (4, .int v4)]) hx hb dX3_drawYears_69 hl51 (k := 5) rfl (by rw [ex52]; rfl) (by decide) rfl (fun ls54 hl55 => ?_)
      clear hl51
      refine lv_goto (tgt := 18) hx hb dX3_drawYears_72 (by decide) ?_
      exact ih x20 x48 x52 hh41  _ _ _ hf53 hP44 hS45 (lv_sub hl55 [3, 4, 5, 2, 1, 0] rfl)
set_option maxRecDepth 100000 in
set_option maxHeartbeats 4000000 in
theorem tX3_drawYears (l : Launch) {g : Gx} (hI : InjG g) {h k h1 : Hp} {a1 : Nat} {a2 : Int32} {a3 : Int32} {a4 : Int32} {r : Int32}  (ha1 : isE a1) (hf : fX3_drawYears a1 a2 a3 a4 h = some (r, h1)) : CI l yX3_drawYears cX3_drawYears 9 (some .int) 4 g [.ref (g.2.2 210), .ref (g.2.2 a1), .int a2, .int a3, .int a4] h k h1 k r := by
  refine Met.ofW (cc := cX3_drawYears) (maxL := 9) (ret := (some .int)) (by decide) rfl ?_
  intro p en s m args below meth c s₁ B hml hv
  obtain ⟨rfl, hSK, hSH, hP⟩ := hv
  have X : Cx p s m _ c cX3_drawYears 9 RX3 g := ⟨B.exec, B.bytes, hml, findClass_of_methodNamed B.named, fun w hw => atoms_spec (ws := wsy yX3_drawYears cX3_drawYears 9 (some .int)) B.pre w (List.mem_cons_of_mem _ hw), hSK, hI, hSH⟩
  have hr := B.returns
  have hlocks := B.notSynchronized
  have hx := X.1
  have hb := X.2.1
  have hS : va_S (inA g) s.heap s.heap [] := va_S.rf
  clear hSK hSH hml B
  have hl := lv_entry ([.ref (g.2.2 210), .ref (g.2.2 a1), .int a2, .int a3, .int a4]) (n := 9) (Nat.le_of_ble_eq_true rfl)
  rw [lg_entry_eq]
  generalize (lg_sl ([.ref (g.2.2 210), .ref (g.2.2 a1), .int a2, .int a3, .int a4]) ++ List.replicate (9 - (lg_sl ([.ref (g.2.2 210), .ref (g.2.2 a1), .int a2, .int a3, .int a4])).length) Slot.unset).toArray = ls at hl ⊢
  have hl : lv_has ls 9 [(0, .ref (g.2.2 210)), (1, .ref (g.2.2 a1)), (2, .int a2), (3, .int a3), (4, .int a4)] := hl
  generalize ([.ref (g.2.2 210), .ref (g.2.2 a1), .int a2, .int a3, .int a4] : List Value).toArray = args at X ⊢
  show W p l en (rmD 4) s m args below meth c s.heap [] 0 0 (MQ below (QI g h1 k r) args s 0 0 (inA g)) (F0 m 0 ls [])
  unfold fX3_drawYears at hf
  refine lv_aload_n hx hb dX3_drawYears_0 rfl (lv_at hl 0 rfl) ?_
  refine gX3 X hP 0 (v := .ref (g.2.2 14)) rfl (by decide) rfl wd_240 dX3_drawYears_1 ?_
  refine lv_aload_n hx hb dX3_drawYears_4 rfl (lv_at hl 1 rfl) ?_
  obtain ⟨⟨⟩, hh2, hg8, hf7⟩ := bd_some hf
  refine x_cv (x_runV (As := [.ref (g.2.2 a1)]) (rest := []) X hP hS 14 (by decide) (cl_E (⟨rfl, by decide⟩ : isE 14)) rfl (tX2_become l X.2.2.2.2.2.2.1 (⟨rfl, by decide⟩ : isE 14) ha1 hg8) mi_X3_33 rfl hl.1 rfl (Nat.le_of_ble_eq_true rfl) dX3_drawYears_5 ⟨Nat.le_of_ble_eq_true rfl, Nat.le_of_ble_eq_true rfl⟩ ⟨Nat.zero_le _, Nat.zero_le _⟩) hS (fun H3 lc4 hP5 hS6 => ?_)
  clear hf hP hS hg8
  refine lv_iload_n hx hb dX3_drawYears_8 rfl (lv_at hl 3 rfl) ?_
  refine lv_i2l hx hb dX3_drawYears_9 rfl ?_
  refine lv_topl (fun x9 ex9 => ?_)
  have hf10 := lk_at ex9 hf7
  clear hf7
  refine lv_lstore (lv' := [(5, .long x9), (0, .ref (g.2.2 210)), (1, .ref (g.2.2 a1)), (2, .int a2), (3, .int a3), (4, .int a4)]) hx hb dX3_drawYears_10 hl (by decide) rfl (fun ls11 hl12 => ?_)
  clear hl
  refine lv_iconst (v := 0) hx hb dX3_drawYears_12 (by decide) ?_
  refine lv_istore (lv' := [(7, .int (0 : Int32)), (5, .long x9), (0, .ref (g.2.2 210)), (1, .ref (g.2.2 a1)), (2, .int a2), (3, .int a3), (4, .int a4)]) hx hb dX3_drawYears_13 hl12 (by decide) rfl (fun ls13 hl14 => ?_)
  clear hl12
  refine lv_iconst (v := 0) hx hb dX3_drawYears_15 (by decide) ?_
  refine lv_istore (lv' := [(8, .int (0 : Int32)), (7, .int (0 : Int32)), (5, .long x9), (0, .ref (g.2.2 210)), (1, .ref (g.2.2 a1)), (2, .int a2), (3, .int a3), (4, .int a4)]) hx hb dX3_drawYears_16 hl14 (by decide) rfl (fun ls15 hl16 => ?_)
  clear hl14
  refine wX3_drawYears_L18 X hr hlocks  ?_ 4096 x9 (0 : Int32) (0 : Int32) hh2 _ _ _  hf10 hP5 hS6 (lv_sub hl16 [3, 5, 7, 2, 1, 0] rfl)
  · intro x56 hh57 H58 lc59 ls60  hf64 hP61 hS62 hl63
    refine lv_iload hx hb dX3_drawYears_75 (lv_at hl63 1 rfl) ?_
    refine lv_if_ne (tgt := 90) hx hb dX3_drawYears_77 (by decide) (fun c65 => ?_) (fun c65 => ?_)
    · have hf66 := if_at_f c65 hf64
      clear hf64
      refine lv_iload hx hb dX3_drawYears_90 (lv_at hl63 2 rfl) ?_
      obtain ⟨rfl, rfl⟩ := ret_inj hf66
      exact x_iret X hr hlocks hP61 hS62 dX3_drawYears_92
    · have hf67 := if_at_t c65 hf64
      clear hf64
      refine lv_aload_n hx hb dX3_drawYears_80 rfl (lv_at hl63 0 rfl) ?_
      refine gX3 X hP61 0 (v := .ref (g.2.2 14)) rfl (by decide) rfl wd_240 dX3_drawYears_81 ?_
      refine gX2 X hP61 (⟨rfl, by decide⟩ : isE 14) 15 (v := .int (hh57 14 15)) rfl (by decide) rfl wd_144 dX3_drawYears_84 ?_
      refine lv_goto (tgt := 92) hx hb dX3_drawYears_87 (by decide) ?_
      obtain ⟨rfl, rfl⟩ := ret_inj hf67
      exact x_iret X hr hlocks hP61 hS62 dX3_drawYears_92
set_option maxRecDepth 100000 in
set_option maxHeartbeats 4000000 in
theorem tX6_drawn (l : Launch) {g : Gx} (hI : InjG g) {h k h1 : Hp} {a1 : Int32} {a2 : Int32} {a3 : Int32} {r : Int32}   (hf : fX6_drawn a1 a2 a3 h = some (r, h1)) : CI l yX6_drawn cX6_drawn 4 (some .int) 5 g [.ref (g.2.2 203), .int a1, .int a2, .int a3] h k h1 k r := by
  refine Met.ofW (cc := cX6_drawn) (maxL := 4) (ret := (some .int)) (by decide) rfl ?_
  intro p en s m args below meth c s₁ B hml hv
  obtain ⟨rfl, hSK, hSH, hP⟩ := hv
  have X : Cx p s m _ c cX6_drawn 4 RX6 g := ⟨B.exec, B.bytes, hml, findClass_of_methodNamed B.named, fun w hw => atoms_spec (ws := wsy yX6_drawn cX6_drawn 4 (some .int)) B.pre w (List.mem_cons_of_mem _ hw), hSK, hI, hSH⟩
  have hr := B.returns
  have hlocks := B.notSynchronized
  have hx := X.1
  have hb := X.2.1
  have hS : va_S (inA g) s.heap s.heap [] := va_S.rf
  clear hSK hSH hml B
  have hl := lv_entry ([.ref (g.2.2 203), .int a1, .int a2, .int a3]) (n := 4) (Nat.le_of_ble_eq_true rfl)
  rw [lg_entry_eq]
  generalize (lg_sl ([.ref (g.2.2 203), .int a1, .int a2, .int a3]) ++ List.replicate (4 - (lg_sl ([.ref (g.2.2 203), .int a1, .int a2, .int a3])).length) Slot.unset).toArray = ls at hl ⊢
  have hl : lv_has ls 4 [(0, .ref (g.2.2 203)), (1, .int a1), (2, .int a2), (3, .int a3)] := hl
  generalize ([.ref (g.2.2 203), .int a1, .int a2, .int a3] : List Value).toArray = args at X ⊢
  show W p l en (rmD 5) s m args below meth c s.heap [] 0 0 (MQ below (QI g h1 k r) args s 0 0 (inA g)) (F0 m 0 ls [])
  unfold fX6_drawn at hf
  refine lv_aload_n hx hb dX6_drawn_0 rfl (lv_at hl 0 rfl) ?_
  refine gX6 X hP 2 (v := .ref (g.2.2 0)) rfl (by decide) rfl wd_299 dX6_drawn_1 ?_
  refine gX2 X hP (⟨rfl, by decide⟩ : isE 0) 6 (v := .int (h 0 6)) rfl (by decide) rfl wd_113 dX6_drawn_4 ?_
  refine lv_if_ne (tgt := 13) hx hb dX6_drawn_7 (by decide) (fun c1 => ?_) (fun c1 => ?_)
  · have hf2 := if_at_f c1 hf
    clear hf
    refine lv_iload_n hx hb dX6_drawn_13 rfl (lv_at hl 1 rfl) ?_
    obtain ⟨x3, hh4, hg10, hf9⟩ := bd_some hf2
    refine x_ci (x_runS (As := [.int a1]) (rest := []) X hP hS (tX6_isFar l X.2.2.2.2.2.2.1  hg10) mi_X6_222 rfl hl.1 rfl (Nat.le_of_ble_eq_true rfl) dX6_drawn_14 ⟨Nat.le_of_ble_eq_true rfl, Nat.le_of_ble_eq_true rfl⟩ ⟨Nat.zero_le _, Nat.zero_le _⟩) hS (fun H5 lc6 hP7 hS8 => ?_)
    clear hf2 hP hS hg10
    refine lv_if_eq (tgt := 40) hx hb dX6_drawn_17 (by decide) (fun c11 => ?_) (fun c11 => ?_)
    · have hf12 := if_at_t c11 hf9
      clear hf9
      refine lv_ldc (v := -1000001) hx hb X.2.2.2.1 (X.2.2.2.2.1 _ wd_335) dX6_drawn_40 ?_
      obtain ⟨rfl, rfl⟩ := ret_inj hf12
      exact x_iret X hr hlocks hP7 hS8 dX6_drawn_42
    · have hf13 := if_at_f c11 hf9
      clear hf9
      refine lv_iload_n hx hb dX6_drawn_20 rfl (lv_at hl 2 rfl) ?_
      refine lv_iconst (v := 1) hx hb dX6_drawn_21 (by decide) ?_
      refine lv_ldcw (v := 999999) hx hb X.2.2.2.1 (X.2.2.2.2.1 _ wd_799) dX6_drawn_22 ?_
      obtain ⟨x14, hh15, hg21, hf20⟩ := bd_some hf13
      refine x_ci (x_runS (As := [.int a2, .int (1 : Int32), .int (999999 : Int32)]) (rest := []) X hP7 hS8 (tX6_isWithin l X.2.2.2.2.2.2.1  hg21) mi_X6_59 rfl hl.1 rfl (Nat.le_of_ble_eq_true rfl) dX6_drawn_25 ⟨Nat.le_of_ble_eq_true rfl, Nat.le_of_ble_eq_true rfl⟩ ⟨Nat.zero_le _, Nat.zero_le _⟩) hS8 (fun H16 lc17 hP18 hS19 => ?_)
      clear hf13 hP7 hS8 hg21
      refine lv_if_eq (tgt := 40) hx hb dX6_drawn_28 (by decide) (fun c22 => ?_) (fun c22 => ?_)
      · have hf23 := if_at_t c22 hf20
        clear hf20
        refine lv_ldc (v := -1000001) hx hb X.2.2.2.1 (X.2.2.2.2.1 _ wd_335) dX6_drawn_40 ?_
        obtain ⟨rfl, rfl⟩ := ret_inj hf23
        exact x_iret X hr hlocks hP18 hS19 dX6_drawn_42
      · have hf24 := if_at_f c22 hf20
        clear hf20
        refine lv_iload_n hx hb dX6_drawn_31 rfl (lv_at hl 3 rfl) ?_
        refine lv_iconst (v := 0) hx hb dX6_drawn_32 (by decide) ?_
        refine lv_iconst (v := 1) hx hb dX6_drawn_33 (by decide) ?_
        obtain ⟨x25, hh26, hg32, hf31⟩ := bd_some hf24
        refine x_ci (x_runS (As := [.int a3, .int (0 : Int32), .int (1 : Int32)]) (rest := []) X hP18 hS19 (tX6_isWithin l X.2.2.2.2.2.2.1  hg32) mi_X6_59 rfl hl.1 rfl (Nat.le_of_ble_eq_true rfl) dX6_drawn_34 ⟨Nat.le_of_ble_eq_true rfl, Nat.le_of_ble_eq_true rfl⟩ ⟨Nat.zero_le _, Nat.zero_le _⟩) hS19 (fun H27 lc28 hP29 hS30 => ?_)
        clear hf24 hP18 hS19 hg32
        refine lv_if_ne (tgt := 43) hx hb dX6_drawn_37 (by decide) (fun c33 => ?_) (fun c33 => ?_)
        · have hf34 := if_at_f c33 hf31
          clear hf31
          refine lv_aload_n hx hb dX6_drawn_43 rfl (lv_at hl 0 rfl) ?_
          refine gX6 X hP29 5 (v := .ref (g.2.2 210)) rfl (by decide) rfl wd_302 dX6_drawn_44 ?_
          refine lv_aload_n hx hb dX6_drawn_47 rfl (lv_at hl 0 rfl) ?_
          refine gX6 X hP29 2 (v := .ref (g.2.2 0)) rfl (by decide) rfl wd_299 dX6_drawn_48 ?_
          refine lv_iload_n hx hb dX6_drawn_51 rfl (lv_at hl 1 rfl) ?_
          refine lv_iload_n hx hb dX6_drawn_52 rfl (lv_at hl 2 rfl) ?_
          refine lv_iload_n hx hb dX6_drawn_53 rfl (lv_at hl 3 rfl) ?_
          obtain ⟨x35, hh36, hg42, hf41⟩ := bd_some hf34
          refine x_ci (x_runV (As := [.ref (g.2.2 0), .int a1, .int a2, .int a3]) (rest := []) X hP29 hS30 210 (by decide) cl_Fo rfl (tX3_drawYears l X.2.2.2.2.2.2.1 (⟨rfl, by decide⟩ : isE 0) hg42) mi_X6_284 rfl hl.1 rfl (Nat.le_of_ble_eq_true rfl) dX6_drawn_54 ⟨Nat.le_of_ble_eq_true rfl, Nat.le_of_ble_eq_true rfl⟩ ⟨Nat.zero_le _, Nat.zero_le _⟩) hS30 (fun H37 lc38 hP39 hS40 => ?_)
          clear hf34 hP29 hS30 hg42
          obtain ⟨rfl, rfl⟩ := ret_inj hf41
          exact x_iret X hr hlocks hP39 hS40 dX6_drawn_57
        · have hf43 := if_at_t c33 hf31
          clear hf31
          refine lv_ldc (v := -1000001) hx hb X.2.2.2.1 (X.2.2.2.2.1 _ wd_335) dX6_drawn_40 ?_
          obtain ⟨rfl, rfl⟩ := ret_inj hf43
          exact x_iret X hr hlocks hP29 hS30 dX6_drawn_42
  · have hf44 := if_at_t c1 hf
    clear hf
    refine lv_ldc (v := -1000002) hx hb X.2.2.2.1 (X.2.2.2.2.1 _ wd_470) dX6_drawn_10 ?_
    obtain ⟨rfl, rfl⟩ := ret_inj hf44
    exact x_iret X hr hlocks hP hS dX6_drawn_12
set_option maxRecDepth 100000 in
set_option maxHeartbeats 4000000 in
theorem tX6_image (l : Launch) {g : Gx} (hI : InjG g) {h k h1 : Hp} {a1 : Int32} {r : Int32}   (hf : fX6_image a1 h = some (r, h1)) : CI l yX6_image cX6_image 2 (some .int) 3 g [.ref (g.2.2 203), .int a1] h k h1 k r := by
  refine Met.ofW (cc := cX6_image) (maxL := 2) (ret := (some .int)) (by decide) rfl ?_
  intro p en s m args below meth c s₁ B hml hv
  obtain ⟨rfl, hSK, hSH, hP⟩ := hv
  have X : Cx p s m _ c cX6_image 2 RX6 g := ⟨B.exec, B.bytes, hml, findClass_of_methodNamed B.named, fun w hw => atoms_spec (ws := wsy yX6_image cX6_image 2 (some .int)) B.pre w (List.mem_cons_of_mem _ hw), hSK, hI, hSH⟩
  have hr := B.returns
  have hlocks := B.notSynchronized
  have hx := X.1
  have hb := X.2.1
  have hS : va_S (inA g) s.heap s.heap [] := va_S.rf
  clear hSK hSH hml B
  have hl := lv_entry ([.ref (g.2.2 203), .int a1]) (n := 2) (Nat.le_of_ble_eq_true rfl)
  rw [lg_entry_eq]
  generalize (lg_sl ([.ref (g.2.2 203), .int a1]) ++ List.replicate (2 - (lg_sl ([.ref (g.2.2 203), .int a1])).length) Slot.unset).toArray = ls at hl ⊢
  have hl : lv_has ls 2 [(0, .ref (g.2.2 203)), (1, .int a1)] := hl
  generalize ([.ref (g.2.2 203), .int a1] : List Value).toArray = args at X ⊢
  show W p l en (rmD 3) s m args below meth c s.heap [] 0 0 (MQ below (QI g h1 k r) args s 0 0 (inA g)) (F0 m 0 ls [])
  unfold fX6_image at hf
  refine lv_iload_n hx hb dX6_image_0 rfl (lv_at hl 1 rfl) ?_
  refine lv_iconst (v := 0) hx hb dX6_image_1 (by decide) ?_
  refine lv_iconst (v := 1) hx hb dX6_image_2 (by decide) ?_
  obtain ⟨x1, hh2, hg8, hf7⟩ := bd_some hf
  refine x_ci (x_runS (As := [.int a1, .int (0 : Int32), .int (1 : Int32)]) (rest := []) X hP hS (tX6_isWithin l X.2.2.2.2.2.2.1  hg8) mi_X6_59 rfl hl.1 rfl (Nat.le_of_ble_eq_true rfl) dX6_image_3 ⟨Nat.le_of_ble_eq_true rfl, Nat.le_of_ble_eq_true rfl⟩ ⟨Nat.zero_le _, Nat.zero_le _⟩) hS (fun H3 lc4 hP5 hS6 => ?_)
  clear hf hP hS hg8
  refine lv_if_ne (tgt := 12) hx hb dX6_image_6 (by decide) (fun c9 => ?_) (fun c9 => ?_)
  · have hf10 := if_at_f c9 hf7
    clear hf7
    refine lv_aload_n hx hb dX6_image_12 rfl (lv_at hl 0 rfl) ?_
    refine gX6 X hP5 2 (v := .ref (g.2.2 0)) rfl (by decide) rfl wd_299 dX6_image_13 ?_
    refine gX2 X hP5 (⟨rfl, by decide⟩ : isE 0) 6 (v := .int (hh2 0 6)) rfl (by decide) rfl wd_113 dX6_image_16 ?_
    refine lv_if_ne (tgt := 25) hx hb dX6_image_19 (by decide) (fun c11 => ?_) (fun c11 => ?_)
    · have hf12 := if_at_f c11 hf10
      clear hf10
      refine lv_aload_n hx hb dX6_image_25 rfl (lv_at hl 0 rfl) ?_
      refine gX6 X hP5 4 (v := .ref (g.2.2 209)) rfl (by decide) rfl wd_301 dX6_image_26 ?_
      refine lv_iload_n hx hb dX6_image_29 rfl (lv_at hl 1 rfl) ?_
      obtain ⟨hc13, hf14⟩ := chk_some hf12
      refine x_images X hP5 hc13 dX6_image_30 ?_
      refine lv_aload_n hx hb dX6_image_31 rfl (lv_at hl 0 rfl) ?_
      refine gX6 X hP5 2 (v := .ref (g.2.2 0)) rfl (by decide) rfl wd_299 dX6_image_32 ?_
      obtain ⟨⟨⟩, hh16, hg22, hf21⟩ := bd_some hf14
      refine x_cv (x_runV (As := [.ref (g.2.2 0)]) (rest := []) X hP5 hS6 (21 + 7 * a1.toNatClampNeg) (isE_lt (isE_img hc13)) (cl_E (isE_img hc13)) rfl (tX2_become l X.2.2.2.2.2.2.1 (isE_img hc13) (⟨rfl, by decide⟩ : isE 0) hg22) mi_X6_128 rfl hl.1 rfl (Nat.le_of_ble_eq_true rfl) dX6_image_35 ⟨Nat.le_of_ble_eq_true rfl, Nat.le_of_ble_eq_true rfl⟩ ⟨Nat.zero_le _, Nat.zero_le _⟩) hS6 (fun H17 lc18 hP19 hS20 => ?_)
      clear hf14 hP5 hS6 hg22
      refine lv_iconst (v := 1) hx hb dX6_image_38 (by decide) ?_
      obtain ⟨rfl, rfl⟩ := ret_inj hf21
      exact x_iret X hr hlocks hP19 hS20 dX6_image_39
    · have hf23 := if_at_t c11 hf10
      clear hf10
      refine lv_ldc (v := -1000002) hx hb X.2.2.2.1 (X.2.2.2.2.1 _ wd_470) dX6_image_22 ?_
      obtain ⟨rfl, rfl⟩ := ret_inj hf23
      exact x_iret X hr hlocks hP5 hS6 dX6_image_24
  · have hf24 := if_at_t c9 hf7
    clear hf7
    refine lv_ldc (v := -1000001) hx hb X.2.2.2.1 (X.2.2.2.2.1 _ wd_335) dX6_image_9 ?_
    obtain ⟨rfl, rfl⟩ := ret_inj hf24
    exact x_iret X hr hlocks hP5 hS6 dX6_image_11
set_option maxRecDepth 100000 in
set_option maxHeartbeats 4000000 in
theorem tX6_restore (l : Launch) {g : Gx} (hI : InjG g) {h k h1 : Hp} {a1 : Int32} {r : Int32}   (hf : fX6_restore a1 h = some (r, h1)) : CI l yX6_restore cX6_restore 2 (some .int) 3 g [.ref (g.2.2 203), .int a1] h k h1 k r := by
  refine Met.ofW (cc := cX6_restore) (maxL := 2) (ret := (some .int)) (by decide) rfl ?_
  intro p en s m args below meth c s₁ B hml hv
  obtain ⟨rfl, hSK, hSH, hP⟩ := hv
  have X : Cx p s m _ c cX6_restore 2 RX6 g := ⟨B.exec, B.bytes, hml, findClass_of_methodNamed B.named, fun w hw => atoms_spec (ws := wsy yX6_restore cX6_restore 2 (some .int)) B.pre w (List.mem_cons_of_mem _ hw), hSK, hI, hSH⟩
  have hr := B.returns
  have hlocks := B.notSynchronized
  have hx := X.1
  have hb := X.2.1
  have hS : va_S (inA g) s.heap s.heap [] := va_S.rf
  clear hSK hSH hml B
  have hl := lv_entry ([.ref (g.2.2 203), .int a1]) (n := 2) (Nat.le_of_ble_eq_true rfl)
  rw [lg_entry_eq]
  generalize (lg_sl ([.ref (g.2.2 203), .int a1]) ++ List.replicate (2 - (lg_sl ([.ref (g.2.2 203), .int a1])).length) Slot.unset).toArray = ls at hl ⊢
  have hl : lv_has ls 2 [(0, .ref (g.2.2 203)), (1, .int a1)] := hl
  generalize ([.ref (g.2.2 203), .int a1] : List Value).toArray = args at X ⊢
  show W p l en (rmD 3) s m args below meth c s.heap [] 0 0 (MQ below (QI g h1 k r) args s 0 0 (inA g)) (F0 m 0 ls [])
  unfold fX6_restore at hf
  refine lv_iload_n hx hb dX6_restore_0 rfl (lv_at hl 1 rfl) ?_
  refine lv_iconst (v := 0) hx hb dX6_restore_1 (by decide) ?_
  refine lv_iconst (v := 1) hx hb dX6_restore_2 (by decide) ?_
  obtain ⟨x1, hh2, hg8, hf7⟩ := bd_some hf
  refine x_ci (x_runS (As := [.int a1, .int (0 : Int32), .int (1 : Int32)]) (rest := []) X hP hS (tX6_isWithin l X.2.2.2.2.2.2.1  hg8) mi_X6_59 rfl hl.1 rfl (Nat.le_of_ble_eq_true rfl) dX6_restore_3 ⟨Nat.le_of_ble_eq_true rfl, Nat.le_of_ble_eq_true rfl⟩ ⟨Nat.zero_le _, Nat.zero_le _⟩) hS (fun H3 lc4 hP5 hS6 => ?_)
  clear hf hP hS hg8
  refine lv_if_ne (tgt := 12) hx hb dX6_restore_6 (by decide) (fun c9 => ?_) (fun c9 => ?_)
  · have hf10 := if_at_f c9 hf7
    clear hf7
    refine lv_aload_n hx hb dX6_restore_12 rfl (lv_at hl 0 rfl) ?_
    refine gX6 X hP5 4 (v := .ref (g.2.2 209)) rfl (by decide) rfl wd_301 dX6_restore_13 ?_
    refine lv_iload_n hx hb dX6_restore_16 rfl (lv_at hl 1 rfl) ?_
    obtain ⟨hc11, hf12⟩ := chk_some hf10
    refine x_images X hP5 hc11 dX6_restore_17 ?_
    refine gX2 X hP5 (isE_img hc11) 6 (v := .int (hh2 (21 + 7 * a1.toNatClampNeg) 6)) rfl (by decide) rfl wd_113 dX6_restore_18 ?_
    refine lv_if_ne (tgt := 27) hx hb dX6_restore_21 (by decide) (fun c13 => ?_) (fun c13 => ?_)
    · have hf14 := if_at_f c13 hf12
      clear hf12
      refine lv_aload_n hx hb dX6_restore_27 rfl (lv_at hl 0 rfl) ?_
      refine gX6 X hP5 2 (v := .ref (g.2.2 0)) rfl (by decide) rfl wd_299 dX6_restore_28 ?_
      refine lv_aload_n hx hb dX6_restore_31 rfl (lv_at hl 0 rfl) ?_
      refine gX6 X hP5 4 (v := .ref (g.2.2 209)) rfl (by decide) rfl wd_301 dX6_restore_32 ?_
      refine lv_iload_n hx hb dX6_restore_35 rfl (lv_at hl 1 rfl) ?_
      obtain ⟨hc15, hf16⟩ := chk_some hf14
      refine x_images X hP5 hc15 dX6_restore_36 ?_
      obtain ⟨⟨⟩, hh18, hg24, hf23⟩ := bd_some hf16
      refine x_cv (x_runV (As := [.ref (g.2.2 (21 + 7 * a1.toNatClampNeg))]) (rest := []) X hP5 hS6 0 (by decide) (cl_E (⟨rfl, by decide⟩ : isE 0)) rfl (tX2_become l X.2.2.2.2.2.2.1 (⟨rfl, by decide⟩ : isE 0) (isE_img hc15) hg24) mi_X6_128 rfl hl.1 rfl (Nat.le_of_ble_eq_true rfl) dX6_restore_37 ⟨Nat.le_of_ble_eq_true rfl, Nat.le_of_ble_eq_true rfl⟩ ⟨Nat.zero_le _, Nat.zero_le _⟩) hS6 (fun H19 lc20 hP21 hS22 => ?_)
      clear hf16 hP5 hS6 hg24
      refine lv_aload_n hx hb dX6_restore_40 rfl (lv_at hl 0 rfl) ?_
      refine gX6 X hP21 3 (v := .ref (g.2.2 207)) rfl (by decide) rfl wd_300 dX6_restore_41 ?_
      obtain ⟨⟨⟩, hh26, hg32, hf31⟩ := bd_some hf23
      refine x_cv (x_runV (As := []) (rest := []) X hP21 hS22 207 (by decide) cl_Ac rfl (tX0_forget l X.2.2.2.2.2.2.1  hg32) mi_X6_132 rfl hl.1 rfl (Nat.le_of_ble_eq_true rfl) dX6_restore_44 ⟨Nat.le_of_ble_eq_true rfl, Nat.le_of_ble_eq_true rfl⟩ ⟨Nat.zero_le _, Nat.zero_le _⟩) hS22 (fun H27 lc28 hP29 hS30 => ?_)
      clear hf23 hP21 hS22 hg32
      refine lv_iconst (v := 1) hx hb dX6_restore_47 (by decide) ?_
      obtain ⟨rfl, rfl⟩ := ret_inj hf31
      exact x_iret X hr hlocks hP29 hS30 dX6_restore_48
    · have hf33 := if_at_t c13 hf12
      clear hf12
      refine lv_ldc (v := -1000002) hx hb X.2.2.2.1 (X.2.2.2.2.1 _ wd_470) dX6_restore_24 ?_
      obtain ⟨rfl, rfl⟩ := ret_inj hf33
      exact x_iret X hr hlocks hP5 hS6 dX6_restore_26
  · have hf34 := if_at_t c9 hf7
    clear hf7
    refine lv_ldc (v := -1000001) hx hb X.2.2.2.1 (X.2.2.2.2.1 _ wd_335) dX6_restore_9 ?_
    obtain ⟨rfl, rfl⟩ := ret_inj hf34
    exact x_iret X hr hlocks hP5 hS6 dX6_restore_11
set_option maxRecDepth 100000 in
set_option maxHeartbeats 4000000 in
theorem tX6_kind (l : Launch) {g : Gx} (hI : InjG g) {h k h1 : Hp} {a1 : Int32} {r : Int32}   (hf : fX6_kind a1 h = some (r, h1)) : CI l yX6_kind cX6_kind 2 (some .int) 1 g [.ref (g.2.2 203), .int a1] h k h1 k r := by
  refine Met.ofW (cc := cX6_kind) (maxL := 2) (ret := (some .int)) (by decide) rfl ?_
  intro p en s m args below meth c s₁ B hml hv
  obtain ⟨rfl, hSK, hSH, hP⟩ := hv
  have X : Cx p s m _ c cX6_kind 2 RX6 g := ⟨B.exec, B.bytes, hml, findClass_of_methodNamed B.named, fun w hw => atoms_spec (ws := wsy yX6_kind cX6_kind 2 (some .int)) B.pre w (List.mem_cons_of_mem _ hw), hSK, hI, hSH⟩
  have hr := B.returns
  have hlocks := B.notSynchronized
  have hx := X.1
  have hb := X.2.1
  have hS : va_S (inA g) s.heap s.heap [] := va_S.rf
  clear hSK hSH hml B
  have hl := lv_entry ([.ref (g.2.2 203), .int a1]) (n := 2) (Nat.le_of_ble_eq_true rfl)
  rw [lg_entry_eq]
  generalize (lg_sl ([.ref (g.2.2 203), .int a1]) ++ List.replicate (2 - (lg_sl ([.ref (g.2.2 203), .int a1])).length) Slot.unset).toArray = ls at hl ⊢
  have hl : lv_has ls 2 [(0, .ref (g.2.2 203)), (1, .int a1)] := hl
  generalize ([.ref (g.2.2 203), .int a1] : List Value).toArray = args at X ⊢
  show W p l en (rmD 1) s m args below meth c s.heap [] 0 0 (MQ below (QI g h1 k r) args s 0 0 (inA g)) (F0 m 0 ls [])
  unfold fX6_kind at hf
  refine lv_aload_n hx hb dX6_kind_0 rfl (lv_at hl 0 rfl) ?_
  refine gX6 X hP 2 (v := .ref (g.2.2 0)) rfl (by decide) rfl wd_299 dX6_kind_1 ?_
  refine lv_iload_n hx hb dX6_kind_4 rfl (lv_at hl 1 rfl) ?_
  obtain ⟨x1, hh2, hg8, hf7⟩ := bd_some hf
  refine x_ci (x_runV (As := [.int a1]) (rest := []) X hP hS 0 (by decide) (cl_E (⟨rfl, by decide⟩ : isE 0)) rfl (tX2_isSheet l X.2.2.2.2.2.2.1 (⟨rfl, by decide⟩ : isE 0) hg8) mi_X6_175 rfl hl.1 rfl (Nat.le_of_ble_eq_true rfl) dX6_kind_5 ⟨Nat.le_of_ble_eq_true rfl, Nat.le_of_ble_eq_true rfl⟩ ⟨Nat.zero_le _, Nat.zero_le _⟩) hS (fun H3 lc4 hP5 hS6 => ?_)
  clear hf hP hS hg8
  refine lv_if_eq (tgt := 23) hx hb dX6_kind_8 (by decide) (fun c9 => ?_) (fun c9 => ?_)
  · have hf10 := if_at_t c9 hf7
    clear hf7
    refine lv_ldc (v := -1000001) hx hb X.2.2.2.1 (X.2.2.2.2.1 _ wd_335) dX6_kind_23 ?_
    obtain ⟨rfl, rfl⟩ := ret_inj hf10
    exact x_iret X hr hlocks hP5 hS6 dX6_kind_25
  · have hf11 := if_at_f c9 hf7
    clear hf7
    refine lv_aload_n hx hb dX6_kind_11 rfl (lv_at hl 0 rfl) ?_
    refine gX6 X hP5 2 (v := .ref (g.2.2 0)) rfl (by decide) rfl wd_299 dX6_kind_12 ?_
    refine gX2 X hP5 (⟨rfl, by decide⟩ : isE 0) 1 (v := .ref (g.2.2 2)) rfl (by decide) rfl wd_99 dX6_kind_15 ?_
    refine lv_iload_n hx hb dX6_kind_18 rfl (lv_at hl 1 rfl) ?_
    obtain ⟨hc12, hf13⟩ := chk_some hf11
    refine x_ildC X hP5 2 rfl hc12 dX6_kind_19 ?_
    refine lv_goto (tgt := 25) hx hb dX6_kind_20 (by decide) ?_
    obtain ⟨rfl, rfl⟩ := ret_inj hf13
    exact x_iret X hr hlocks hP5 hS6 dX6_kind_25
set_option maxRecDepth 100000 in
set_option maxHeartbeats 4000000 in
theorem tX6_widerKind (l : Launch) {g : Gx} (hI : InjG g) {h k h1 : Hp} {a1 : Int32} {r : Int32}   (hf : fX6_widerKind a1 h = some (r, h1)) : CI l yX6_widerKind cX6_widerKind 1 (some .int) 0 g [.int a1] h k h1 k r := by
  refine Met.ofW (cc := cX6_widerKind) (maxL := 1) (ret := (some .int)) (by decide) rfl ?_
  intro p en s m args below meth c s₁ B hml hv
  obtain ⟨rfl, hSK, hSH, hP⟩ := hv
  have X : Cx p s m _ c cX6_widerKind 1 RX6 g := ⟨B.exec, B.bytes, hml, findClass_of_methodNamed B.named, fun w hw => atoms_spec (ws := wsy yX6_widerKind cX6_widerKind 1 (some .int)) B.pre w (List.mem_cons_of_mem _ hw), hSK, hI, hSH⟩
  have hr := B.returns
  have hlocks := B.notSynchronized
  have hx := X.1
  have hb := X.2.1
  have hS : va_S (inA g) s.heap s.heap [] := va_S.rf
  clear hSK hSH hml B
  have hl := lv_entry ([.int a1]) (n := 1) (Nat.le_of_ble_eq_true rfl)
  rw [lg_entry_eq]
  generalize (lg_sl ([.int a1]) ++ List.replicate (1 - (lg_sl ([.int a1])).length) Slot.unset).toArray = ls at hl ⊢
  have hl : lv_has ls 1 [(0, .int a1)] := hl
  generalize ([.int a1] : List Value).toArray = args at X ⊢
  show W p l en (rmD 0) s m args below meth c s.heap [] 0 0 (MQ below (QI g h1 k r) args s 0 0 (inA g)) (F0 m 0 ls [])
  unfold fX6_widerKind at hf
  refine lv_iload_n hx hb dX6_widerKind_0 rfl (lv_at hl 0 rfl) ?_
  by_cases c1 : a1 = (2 : Int32)
  · have hf2 := if_at_t c1 hf
    clear hf
    refine lv_tableIn (tgt := 32) hx hb dX6_widerKind_1 (by rw [c1]; decide) (by rw [c1]; decide) (by rw [c1]; rfl) (by decide) ?_
    refine lv_iconst (v := 1) hx hb dX6_widerKind_32 (by decide) ?_
    obtain ⟨rfl, rfl⟩ := ret_inj hf2
    exact x_iret X hr hlocks hP hS dX6_widerKind_33
  · have hf3 := if_at_f c1 hf
    clear hf
    by_cases c4 : a1 = (3 : Int32)
    · have hf5 := if_at_t c4 hf3
      clear hf3
      refine lv_tableIn (tgt := 32) hx hb dX6_widerKind_1 (by rw [c4]; decide) (by rw [c4]; decide) (by rw [c4]; rfl) (by decide) ?_
      refine lv_iconst (v := 1) hx hb dX6_widerKind_32 (by decide) ?_
      obtain ⟨rfl, rfl⟩ := ret_inj hf5
      exact x_iret X hr hlocks hP hS dX6_widerKind_33
    · have hf6 := if_at_f c4 hf3
      clear hf3
      by_cases c7 : a1 = (4 : Int32)
      · have hf8 := if_at_t c7 hf6
        clear hf6
        refine lv_tableIn (tgt := 36) hx hb dX6_widerKind_1 (by rw [c7]; decide) (by rw [c7]; decide) (by rw [c7]; rfl) (by decide) ?_
        refine lv_iconst (v := 0) hx hb dX6_widerKind_36 (by decide) ?_
        obtain ⟨rfl, rfl⟩ := ret_inj hf8
        exact x_iret X hr hlocks hP hS dX6_widerKind_37
      · have hf9 := if_at_f c7 hf6
        clear hf6
        by_cases c10 : a1 = (5 : Int32)
        · have hf11 := if_at_t c10 hf9
          clear hf9
          refine lv_tableIn (tgt := 34) hx hb dX6_widerKind_1 (by rw [c10]; decide) (by rw [c10]; decide) (by rw [c10]; rfl) (by decide) ?_
          refine lv_iconst (v := 4) hx hb dX6_widerKind_34 (by decide) ?_
          obtain ⟨rfl, rfl⟩ := ret_inj hf11
          exact x_iret X hr hlocks hP hS dX6_widerKind_35
        · have hf12 := if_at_f c10 hf9
          clear hf9
          have q0 := sw_ne (j := 2) rfl c1
          have q1 := sw_ne (j := 3) rfl c4
          have q2 := sw_ne (j := 4) rfl c7
          have q3 := sw_ne (j := 5) rfl c10
          refine lv_tableOut (tgt := 36) hx hb dX6_widerKind_1 (by omega) (by decide) ?_
          clear q0 q1 q2 q3
          refine lv_iconst (v := 0) hx hb dX6_widerKind_36 (by decide) ?_
          obtain ⟨rfl, rfl⟩ := ret_inj hf12
          exact x_iret X hr hlocks hP hS dX6_widerKind_37
set_option maxRecDepth 100000 in
set_option maxHeartbeats 4000000 in
theorem tX6_isA (l : Launch) {g : Gx} (hI : InjG g) {h k h1 : Hp} {a1 : Int32} {a2 : Int32} {r : Int32}   (hf : fX6_isA a1 a2 h = some (r, h1)) : CI l yX6_isA cX6_isA 2 (some .boolean) 1 g [.int a1, .int a2] h k h1 k r := by
  refine Met.ofW (cc := cX6_isA) (maxL := 2) (ret := (some .boolean)) (by decide) rfl ?_
  intro p en s m args below meth c s₁ B hml hv
  obtain ⟨rfl, hSK, hSH, hP⟩ := hv
  have X : Cx p s m _ c cX6_isA 2 RX6 g := ⟨B.exec, B.bytes, hml, findClass_of_methodNamed B.named, fun w hw => atoms_spec (ws := wsy yX6_isA cX6_isA 2 (some .boolean)) B.pre w (List.mem_cons_of_mem _ hw), hSK, hI, hSH⟩
  have hr := B.returns
  have hlocks := B.notSynchronized
  have hx := X.1
  have hb := X.2.1
  have hS : va_S (inA g) s.heap s.heap [] := va_S.rf
  clear hSK hSH hml B
  have hl := lv_entry ([.int a1, .int a2]) (n := 2) (Nat.le_of_ble_eq_true rfl)
  rw [lg_entry_eq]
  generalize (lg_sl ([.int a1, .int a2]) ++ List.replicate (2 - (lg_sl ([.int a1, .int a2])).length) Slot.unset).toArray = ls at hl ⊢
  have hl : lv_has ls 2 [(0, .int a1), (1, .int a2)] := hl
  generalize ([.int a1, .int a2] : List Value).toArray = args at X ⊢
  show W p l en (rmD 1) s m args below meth c s.heap [] 0 0 (MQ below (QI g h1 k r) args s 0 0 (inA g)) (F0 m 0 ls [])
  unfold fX6_isA at hf
  refine lv_iload_n hx hb dX6_isA_0 rfl (lv_at hl 1 rfl) ?_
  refine lv_iload_n hx hb dX6_isA_1 rfl (lv_at hl 0 rfl) ?_
  refine lv_icmp_eq (tgt := 17) hx hb dX6_isA_2 (by decide) (fun c1 => ?_) (fun c1 => ?_)
  · have hf2 := if_at_t c1 hf
    clear hf
    refine lv_iconst (v := 1) hx hb dX6_isA_17 (by decide) ?_
    refine lv_goto (tgt := 22) hx hb dX6_isA_18 (by decide) ?_
    obtain ⟨rfl, rfl⟩ := ret_inj hf2
    exact x_zret X hr hlocks rfl hP hS dX6_isA_22
  · have hf3 := if_at_f c1 hf
    clear hf
    refine lv_iload_n hx hb dX6_isA_5 rfl (lv_at hl 1 rfl) ?_
    refine lv_iload_n hx hb dX6_isA_6 rfl (lv_at hl 0 rfl) ?_
    obtain ⟨x4, hh5, hg11, hf10⟩ := bd_some hf3
    refine x_ci (x_runS (As := [.int a1]) (rest := [.int a2]) X hP hS (tX6_widerKind l X.2.2.2.2.2.2.1  hg11) mi_X6_320 rfl hl.1 rfl (Nat.le_of_ble_eq_true rfl) dX6_isA_7 ⟨Nat.le_of_ble_eq_true rfl, Nat.le_of_ble_eq_true rfl⟩ ⟨Nat.zero_le _, Nat.zero_le _⟩) hS (fun H6 lc7 hP8 hS9 => ?_)
    clear hf3 hP hS hg11
    refine lv_icmp_eq (tgt := 17) hx hb dX6_isA_10 (by decide) (fun c12 => ?_) (fun c12 => ?_)
    · have hf13 := if_at_t c12 hf10
      clear hf10
      refine lv_iconst (v := 1) hx hb dX6_isA_17 (by decide) ?_
      refine lv_goto (tgt := 22) hx hb dX6_isA_18 (by decide) ?_
      obtain ⟨rfl, rfl⟩ := ret_inj hf13
      exact x_zret X hr hlocks rfl hP8 hS9 dX6_isA_22
    · have hf14 := if_at_f c12 hf10
      clear hf10
      refine lv_iload_n hx hb dX6_isA_13 rfl (lv_at hl 1 rfl) ?_
      refine lv_if_ne (tgt := 21) hx hb dX6_isA_14 (by decide) (fun c15 => ?_) (fun c15 => ?_)
      · have hf16 := if_at_f c15 hf14
        clear hf14
        refine lv_iconst (v := 0) hx hb dX6_isA_21 (by decide) ?_
        obtain ⟨rfl, rfl⟩ := ret_inj hf16
        exact x_zret X hr hlocks rfl hP8 hS9 dX6_isA_22
      · have hf17 := if_at_t c15 hf14
        clear hf14
        refine lv_iconst (v := 1) hx hb dX6_isA_17 (by decide) ?_
        refine lv_goto (tgt := 22) hx hb dX6_isA_18 (by decide) ?_
        obtain ⟨rfl, rfl⟩ := ret_inj hf17
        exact x_zret X hr hlocks rfl hP8 hS9 dX6_isA_22
set_option maxRecDepth 100000 in
set_option maxHeartbeats 4000000 in
theorem tX6_as (l : Launch) {g : Gx} (hI : InjG g) {h k h1 : Hp} {a1 : Int32} {a2 : Int32} {r : Int32}   (hf : fX6_as a1 a2 h = some (r, h1)) : CI l yX6_as cX6_as 3 (some .int) 2 g [.ref (g.2.2 203), .int a1, .int a2] h k h1 k r := by
  refine Met.ofW (cc := cX6_as) (maxL := 3) (ret := (some .int)) (by decide) rfl ?_
  intro p en s m args below meth c s₁ B hml hv
  obtain ⟨rfl, hSK, hSH, hP⟩ := hv
  have X : Cx p s m _ c cX6_as 3 RX6 g := ⟨B.exec, B.bytes, hml, findClass_of_methodNamed B.named, fun w hw => atoms_spec (ws := wsy yX6_as cX6_as 3 (some .int)) B.pre w (List.mem_cons_of_mem _ hw), hSK, hI, hSH⟩
  have hr := B.returns
  have hlocks := B.notSynchronized
  have hx := X.1
  have hb := X.2.1
  have hS : va_S (inA g) s.heap s.heap [] := va_S.rf
  clear hSK hSH hml B
  have hl := lv_entry ([.ref (g.2.2 203), .int a1, .int a2]) (n := 3) (Nat.le_of_ble_eq_true rfl)
  rw [lg_entry_eq]
  generalize (lg_sl ([.ref (g.2.2 203), .int a1, .int a2]) ++ List.replicate (3 - (lg_sl ([.ref (g.2.2 203), .int a1, .int a2])).length) Slot.unset).toArray = ls at hl ⊢
  have hl : lv_has ls 3 [(0, .ref (g.2.2 203)), (1, .int a1), (2, .int a2)] := hl
  generalize ([.ref (g.2.2 203), .int a1, .int a2] : List Value).toArray = args at X ⊢
  show W p l en (rmD 2) s m args below meth c s.heap [] 0 0 (MQ below (QI g h1 k r) args s 0 0 (inA g)) (F0 m 0 ls [])
  unfold fX6_as at hf
  refine lv_aload_n hx hb dX6_as_0 rfl (lv_at hl 0 rfl) ?_
  refine gX6 X hP 2 (v := .ref (g.2.2 0)) rfl (by decide) rfl wd_299 dX6_as_1 ?_
  refine lv_iload_n hx hb dX6_as_4 rfl (lv_at hl 1 rfl) ?_
  obtain ⟨x1, hh2, hg8, hf7⟩ := bd_some hf
  refine x_ci (x_runV (As := [.int a1]) (rest := []) X hP hS 0 (by decide) (cl_E (⟨rfl, by decide⟩ : isE 0)) rfl (tX2_isSheet l X.2.2.2.2.2.2.1 (⟨rfl, by decide⟩ : isE 0) hg8) mi_X6_175 rfl hl.1 rfl (Nat.le_of_ble_eq_true rfl) dX6_as_5 ⟨Nat.le_of_ble_eq_true rfl, Nat.le_of_ble_eq_true rfl⟩ ⟨Nat.zero_le _, Nat.zero_le _⟩) hS (fun H3 lc4 hP5 hS6 => ?_)
  clear hf hP hS hg8
  refine lv_if_eq (tgt := 20) hx hb dX6_as_8 (by decide) (fun c9 => ?_) (fun c9 => ?_)
  · have hf10 := if_at_t c9 hf7
    clear hf7
    refine lv_ldc (v := -1000001) hx hb X.2.2.2.1 (X.2.2.2.2.1 _ wd_335) dX6_as_20 ?_
    obtain ⟨rfl, rfl⟩ := ret_inj hf10
    exact x_iret X hr hlocks hP5 hS6 dX6_as_22
  · have hf11 := if_at_f c9 hf7
    clear hf7
    refine lv_iload_n hx hb dX6_as_11 rfl (lv_at hl 2 rfl) ?_
    refine lv_iconst (v := 0) hx hb dX6_as_12 (by decide) ?_
    refine lv_iconst (v := 5) hx hb dX6_as_13 (by decide) ?_
    obtain ⟨x12, hh13, hg19, hf18⟩ := bd_some hf11
    refine x_ci (x_runS (As := [.int a2, .int (0 : Int32), .int (5 : Int32)]) (rest := []) X hP5 hS6 (tX6_isWithin l X.2.2.2.2.2.2.1  hg19) mi_X6_59 rfl hl.1 rfl (Nat.le_of_ble_eq_true rfl) dX6_as_14 ⟨Nat.le_of_ble_eq_true rfl, Nat.le_of_ble_eq_true rfl⟩ ⟨Nat.zero_le _, Nat.zero_le _⟩) hS6 (fun H14 lc15 hP16 hS17 => ?_)
    clear hf11 hP5 hS6 hg19
    refine lv_if_ne (tgt := 23) hx hb dX6_as_17 (by decide) (fun c20 => ?_) (fun c20 => ?_)
    · have hf21 := if_at_f c20 hf18
      clear hf18
      refine lv_aload_n hx hb dX6_as_23 rfl (lv_at hl 0 rfl) ?_
      refine gX6 X hP16 2 (v := .ref (g.2.2 0)) rfl (by decide) rfl wd_299 dX6_as_24 ?_
      refine gX2 X hP16 (⟨rfl, by decide⟩ : isE 0) 1 (v := .ref (g.2.2 2)) rfl (by decide) rfl wd_99 dX6_as_27 ?_
      refine lv_iload_n hx hb dX6_as_30 rfl (lv_at hl 1 rfl) ?_
      obtain ⟨hc22, hf23⟩ := chk_some hf21
      refine x_ildC X hP16 2 rfl hc22 dX6_as_31 ?_
      refine lv_iload_n hx hb dX6_as_32 rfl (lv_at hl 2 rfl) ?_
      obtain ⟨x24, hh25, hg31, hf30⟩ := bd_some hf23
      refine x_ci (x_runS (As := [.int (hh13 2 a1.toNatClampNeg), .int a2]) (rest := []) X hP16 hS17 (tX6_isA l X.2.2.2.2.2.2.1  hg31) mi_X6_291 rfl hl.1 rfl (Nat.le_of_ble_eq_true rfl) dX6_as_33 ⟨Nat.le_of_ble_eq_true rfl, Nat.le_of_ble_eq_true rfl⟩ ⟨Nat.zero_le _, Nat.zero_le _⟩) hS17 (fun H26 lc27 hP28 hS29 => ?_)
      clear hf23 hP16 hS17 hg31
      refine lv_if_ne (tgt := 45) hx hb dX6_as_36 (by decide) (fun c32 => ?_) (fun c32 => ?_)
      · have hf33 := if_at_f c32 hf30
        clear hf30
        refine lv_aload_n hx hb dX6_as_45 rfl (lv_at hl 0 rfl) ?_
        refine lv_iload_n hx hb dX6_as_46 rfl (lv_at hl 1 rfl) ?_
        obtain ⟨x34, hh35, hg41, hf40⟩ := bd_some hf33
        refine x_ci (x_runV (As := [.int a1]) (rest := []) X hP28 hS29 203 (by decide) cl_F rfl (tX6_well l X.2.2.2.2.2.2.1  hg41) mi_X6_72 rfl hl.1 rfl (Nat.le_of_ble_eq_true rfl) dX6_as_47 ⟨Nat.le_of_ble_eq_true rfl, Nat.le_of_ble_eq_true rfl⟩ ⟨Nat.zero_le _, Nat.zero_le _⟩) hS29 (fun H36 lc37 hP38 hS39 => ?_)
        clear hf33 hP28 hS29 hg41
        obtain ⟨rfl, rfl⟩ := ret_inj hf40
        exact x_iret X hr hlocks hP38 hS39 dX6_as_50
      · have hf42 := if_at_t c32 hf30
        clear hf30
        refine lv_aload_n hx hb dX6_as_39 rfl (lv_at hl 0 rfl) ?_
        refine lv_iconst (v := 3) hx hb dX6_as_40 (by decide) ?_
        obtain ⟨x43, hh44, hg50, hf49⟩ := bd_some hf42
        refine x_ci (x_runV (As := [.int (3 : Int32)]) (rest := []) X hP28 hS29 203 (by decide) cl_F rfl (tX6_found l X.2.2.2.2.2.2.1  hg50) mi_X6_64 rfl hl.1 rfl (Nat.le_of_ble_eq_true rfl) dX6_as_41 ⟨Nat.le_of_ble_eq_true rfl, Nat.le_of_ble_eq_true rfl⟩ ⟨Nat.zero_le _, Nat.zero_le _⟩) hS29 (fun H45 lc46 hP47 hS48 => ?_)
        clear hf42 hP28 hS29 hg50
        obtain ⟨rfl, rfl⟩ := ret_inj hf49
        exact x_iret X hr hlocks hP47 hS48 dX6_as_44
    · have hf51 := if_at_t c20 hf18
      clear hf18
      refine lv_ldc (v := -1000001) hx hb X.2.2.2.1 (X.2.2.2.2.1 _ wd_335) dX6_as_20 ?_
      obtain ⟨rfl, rfl⟩ := ret_inj hf51
      exact x_iret X hr hlocks hP16 hS17 dX6_as_22
set_option maxRecDepth 100000 in
set_option maxHeartbeats 4000000 in
theorem tX1_nearestBody (l : Launch) {g : Gx} (hI : InjG g) {h k h1 : Hp} {a1 : Int32} {a2 : Int32} {r : Int32}   (hf : fX1_nearestBody a1 a2 h = some (r, h1)) : CI l yX1_nearestBody cX1_nearestBody 3 (some .int) 1 g [.int a1, .int a2] h k h1 k r := by
  refine Met.ofW (cc := cX1_nearestBody) (maxL := 3) (ret := (some .int)) (by decide) rfl ?_
  intro p en s m args below meth c s₁ B hml hv
  obtain ⟨rfl, hSK, hSH, hP⟩ := hv
  have X : Cx p s m _ c cX1_nearestBody 3 RX1 g := ⟨B.exec, B.bytes, hml, findClass_of_methodNamed B.named, fun w hw => atoms_spec (ws := wsy yX1_nearestBody cX1_nearestBody 3 (some .int)) B.pre w (List.mem_cons_of_mem _ hw), hSK, hI, hSH⟩
  have hr := B.returns
  have hlocks := B.notSynchronized
  have hx := X.1
  have hb := X.2.1
  have hS : va_S (inA g) s.heap s.heap [] := va_S.rf
  clear hSK hSH hml B
  have hl := lv_entry ([.int a1, .int a2]) (n := 3) (Nat.le_of_ble_eq_true rfl)
  rw [lg_entry_eq]
  generalize (lg_sl ([.int a1, .int a2]) ++ List.replicate (3 - (lg_sl ([.int a1, .int a2])).length) Slot.unset).toArray = ls at hl ⊢
  have hl : lv_has ls 3 [(0, .int a1), (1, .int a2)] := hl
  generalize ([.int a1, .int a2] : List Value).toArray = args at X ⊢
  show W p l en (rmD 1) s m args below meth c s.heap [] 0 0 (MQ below (QI g h1 k r) args s 0 0 (inA g)) (F0 m 0 ls [])
  unfold fX1_nearestBody at hf
  refine lv_iload_n hx hb dX1_nearestBody_0 rfl (lv_at hl 1 rfl) ?_
  refine lv_if_ne (tgt := 10) hx hb dX1_nearestBody_1 (by decide) (fun c1 => ?_) (fun c1 => ?_)
  · have hf2 := if_at_f c1 hf
    clear hf
    refine va_gets hx hb X.2.2.2.2.2.2.2.2.1 hS X.2.2.2.1 (X.2.2.2.2.1 _ wd_850) (fun _ q => q) dX1_nearestBody_10 ?_
    refine lv_astore_n (lv' := [(2, .ref (g.2.2 261)), (0, .int a1), (1, .int a2)]) hx hb dX1_nearestBody_13 rfl hl (by decide) rfl (fun ls3 hl4 => ?_)
    clear hl
    refine lv_aload_n hx hb dX1_nearestBody_14 rfl (lv_at hl4 0 rfl) ?_
    refine lv_iload_n hx hb dX1_nearestBody_15 rfl (lv_at hl4 1 rfl) ?_
    obtain ⟨hc5, hf6⟩ := chk_some hf2
    refine va_ti hx hb X.2.2.2.2.2.2.2.2.2 hS (inb_in hc5) rfl dX1_nearestBody_16 ?_
    refine lv_if_eq (tgt := 26) hx hb dX1_nearestBody_17 (by decide) (fun c7 => ?_) (fun c7 => ?_)
    · have hf8 := if_at_t c7 hf6
      clear hf6
      refine lv_aload_n hx hb dX1_nearestBody_26 rfl (lv_at hl4 0 rfl) ?_
      refine lv_iload_n hx hb dX1_nearestBody_27 rfl (lv_at hl4 1 rfl) ?_
      obtain ⟨x9, hh10, hg16, hf15⟩ := bd_some hf8
      refine x_ci (x_runN (As := [.int a1]) (rest := [.ref (g.2.2 261)]) X hP hS (tX6_widerKind l X.2.2.2.2.2.2.1  hg16) mi_X1_40 X.2.2.2.2.2.1.2.2 rfl hl4.1 rfl (Nat.le_of_ble_eq_true rfl) dX1_nearestBody_28 ⟨Nat.le_of_ble_eq_true rfl, Nat.le_of_ble_eq_true rfl⟩ ⟨Nat.zero_le _, Nat.zero_le _⟩) hS (fun H11 lc12 hP13 hS14 => ?_)
      clear hf8 hP hS hg16
      obtain ⟨hc17, hf18⟩ := chk_some hf15
      refine va_ti hx hb X.2.2.2.2.2.2.2.2.2 hS14 (inb_in hc17) rfl dX1_nearestBody_31 ?_
      obtain ⟨rfl, rfl⟩ := ret_inj hf18
      exact x_iret X hr hlocks hP13 hS14 dX1_nearestBody_32
    · have hf19 := if_at_f c7 hf6
      clear hf6
      refine lv_aload_n hx hb dX1_nearestBody_20 rfl (lv_at hl4 0 rfl) ?_
      refine lv_iload_n hx hb dX1_nearestBody_21 rfl (lv_at hl4 1 rfl) ?_
      obtain ⟨hc20, hf21⟩ := chk_some hf19
      refine va_ti hx hb X.2.2.2.2.2.2.2.2.2 hS (inb_in hc20) rfl dX1_nearestBody_22 ?_
      refine lv_goto (tgt := 32) hx hb dX1_nearestBody_23 (by decide) ?_
      obtain ⟨rfl, rfl⟩ := ret_inj hf21
      exact x_iret X hr hlocks hP hS dX1_nearestBody_32
  · have hf22 := if_at_t c1 hf
    clear hf
    refine va_gets hx hb X.2.2.2.2.2.2.2.1.1 hS X.2.2.2.1 (X.2.2.2.2.1 _ wd_848) (fun _ q => q) dX1_nearestBody_4 ?_
    refine lv_goto (tgt := 13) hx hb dX1_nearestBody_7 (by decide) ?_
    refine lv_astore_n (lv' := [(2, .ref (g.2.2 260)), (0, .int a1), (1, .int a2)]) hx hb dX1_nearestBody_13 rfl hl (by decide) rfl (fun ls23 hl24 => ?_)
    clear hl
    refine lv_aload_n hx hb dX1_nearestBody_14 rfl (lv_at hl24 0 rfl) ?_
    refine lv_iload_n hx hb dX1_nearestBody_15 rfl (lv_at hl24 1 rfl) ?_
    obtain ⟨hc25, hf26⟩ := chk_some hf22
    refine va_ti hx hb X.2.2.2.2.2.2.2.1.2 hS (inb_in hc25) rfl dX1_nearestBody_16 ?_
    refine lv_if_eq (tgt := 26) hx hb dX1_nearestBody_17 (by decide) (fun c27 => ?_) (fun c27 => ?_)
    · have hf28 := if_at_t c27 hf26
      clear hf26
      refine lv_aload_n hx hb dX1_nearestBody_26 rfl (lv_at hl24 0 rfl) ?_
      refine lv_iload_n hx hb dX1_nearestBody_27 rfl (lv_at hl24 1 rfl) ?_
      obtain ⟨x29, hh30, hg36, hf35⟩ := bd_some hf28
      refine x_ci (x_runN (As := [.int a1]) (rest := [.ref (g.2.2 260)]) X hP hS (tX6_widerKind l X.2.2.2.2.2.2.1  hg36) mi_X1_40 X.2.2.2.2.2.1.2.2 rfl hl24.1 rfl (Nat.le_of_ble_eq_true rfl) dX1_nearestBody_28 ⟨Nat.le_of_ble_eq_true rfl, Nat.le_of_ble_eq_true rfl⟩ ⟨Nat.zero_le _, Nat.zero_le _⟩) hS (fun H31 lc32 hP33 hS34 => ?_)
      clear hf28 hP hS hg36
      obtain ⟨hc37, hf38⟩ := chk_some hf35
      refine va_ti hx hb X.2.2.2.2.2.2.2.1.2 hS34 (inb_in hc37) rfl dX1_nearestBody_31 ?_
      obtain ⟨rfl, rfl⟩ := ret_inj hf38
      exact x_iret X hr hlocks hP33 hS34 dX1_nearestBody_32
    · have hf39 := if_at_f c27 hf26
      clear hf26
      refine lv_aload_n hx hb dX1_nearestBody_20 rfl (lv_at hl24 0 rfl) ?_
      refine lv_iload_n hx hb dX1_nearestBody_21 rfl (lv_at hl24 1 rfl) ?_
      obtain ⟨hc40, hf41⟩ := chk_some hf39
      refine va_ti hx hb X.2.2.2.2.2.2.2.1.2 hS (inb_in hc40) rfl dX1_nearestBody_22 ?_
      refine lv_goto (tgt := 32) hx hb dX1_nearestBody_23 (by decide) ?_
      obtain ⟨rfl, rfl⟩ := ret_inj hf41
      exact x_iret X hr hlocks hP hS dX1_nearestBody_32
set_option maxRecDepth 100000 in
set_option maxHeartbeats 4000000 in
theorem tX1_leave (l : Launch) {g : Gx} (hI : InjG g) {h k h1 : Hp} {a1 : Int32}   (hf : fX1_leave a1 h = some ((), h1)) : CV l yX1_leave cX1_leave 2 none 0 g [.ref (g.2.2 228), .int a1] h k h1 k := by
  refine Met.ofW (cc := cX1_leave) (maxL := 2) (ret := none) (by decide) rfl ?_
  intro p en s m args below meth c s₁ B hml hv
  obtain ⟨rfl, hSK, hSH, hP⟩ := hv
  have X : Cx p s m _ c cX1_leave 2 RX1 g := ⟨B.exec, B.bytes, hml, findClass_of_methodNamed B.named, fun w hw => atoms_spec (ws := wsy yX1_leave cX1_leave 2 none) B.pre w (List.mem_cons_of_mem _ hw), hSK, hI, hSH⟩
  have hr := B.returns
  have hlocks := B.notSynchronized
  have hx := X.1
  have hb := X.2.1
  have hS : va_S (inA g) s.heap s.heap [] := va_S.rf
  clear hSK hSH hml B
  have hl := lv_entry ([.ref (g.2.2 228), .int a1]) (n := 2) (Nat.le_of_ble_eq_true rfl)
  rw [lg_entry_eq]
  generalize (lg_sl ([.ref (g.2.2 228), .int a1]) ++ List.replicate (2 - (lg_sl ([.ref (g.2.2 228), .int a1])).length) Slot.unset).toArray = ls at hl ⊢
  have hl : lv_has ls 2 [(0, .ref (g.2.2 228)), (1, .int a1)] := hl
  generalize ([.ref (g.2.2 228), .int a1] : List Value).toArray = args at X ⊢
  show W p l en (rmD 0) s m args below meth c s.heap [] 0 0 (MQ below (QV g h1 k) args s 0 0 (inA g)) (F0 m 0 ls [])
  unfold fX1_leave at hf
  refine lv_aload_n hx hb dX1_leave_0 rfl (lv_at hl 0 rfl) ?_
  refine gX1 X hP 1 (v := .int (h 228 1)) rfl (by decide) rfl wd_267 dX1_leave_1 ?_
  refine lv_aload_n hx hb dX1_leave_4 rfl (lv_at hl 0 rfl) ?_
  refine gX1 X hP 0 (v := .ref (g.2.2 229)) rfl (by decide) rfl wd_265 dX1_leave_5 ?_
  refine x_lenC X hP 229 rfl dX1_leave_8 ?_
  refine lv_icmp_ge (tgt := 32) hx hb dX1_leave_9 (by decide) (fun c1 => ?_) (fun c1 => ?_)
  · have hf2 := if_at_t c1 hf
    clear hf
    obtain ⟨-, rfl⟩ := ret_inj hf2
    exact x_vret X hr hlocks hP hS dX1_leave_32
  · have hf3 := if_at_f c1 hf
    clear hf
    refine lv_aload_n hx hb dX1_leave_12 rfl (lv_at hl 0 rfl) ?_
    refine gX1 X hP 0 (v := .ref (g.2.2 229)) rfl (by decide) rfl wd_265 dX1_leave_13 ?_
    refine lv_aload_n hx hb dX1_leave_16 rfl (lv_at hl 0 rfl) ?_
    refine gX1 X hP 1 (v := .int (h 228 1)) rfl (by decide) rfl wd_267 dX1_leave_17 ?_
    refine lv_iload_n hx hb dX1_leave_20 rfl (lv_at hl 1 rfl) ?_
    obtain ⟨hc4, hf5⟩ := chk_some hf3
    refine x_istC X hP hS 229 rfl hc4 dX1_leave_21 (fun H6 lc7 hh8 ehh8 hP9 hS10 => ?_)
    have hf11 := lk_at ehh8 hf5
    clear hf5 hP hS
    refine lv_aload_n hx hb dX1_leave_22 rfl (lv_at hl 0 rfl) ?_
    refine lv_dup hx hb dX1_leave_23 rfl ?_
    refine gX1 X hP9 1 (v := .int (hh8 228 1)) rfl (by decide) rfl wd_267 dX1_leave_24 ?_
    refine lv_iconst (v := 1) hx hb dX1_leave_27 (by decide) ?_
    refine lv_iadd hx hb dX1_leave_28 ?_
    refine pX1 X hP9 hS10 1 (by decide) rfl wd_267 rfl rfl rfl rfl seX1_1 dX1_leave_29 (fun H12 lc13 hh14 ehh14 hP15 hS16 => ?_)
    have hf17 := lk_at ehh14 hf11
    clear hf11 hP9 hS10
    obtain ⟨-, rfl⟩ := ret_inj hf17
    exact x_vret X hr hlocks hP15 hS16 dX1_leave_32
set_option maxRecDepth 100000 in
set_option maxHeartbeats 4000000 in
theorem tX1_begin_o (l : Launch) {g : Gx} (hI : InjG g) {k : Hp} (d0 : Nat) (hd0 : 3 ≤ d0) (F_answer : Nat → Int32 → Int32 → Int32 → Hp → Option (Int32 × Hp)) (F_begin : Int32 → Nat → Int32 → Int32 → Hp → Option (Int32 × Hp)) (hF_answer : ∀ (b0 : Nat) (b1 : Int32) (b2 : Int32) (b3 : Int32) (h h1 : Hp) (r : Int32), isE b0 → F_answer b0 b1 b2 b3 h = some (r, h1) → CI l yX1_answer cX1_answer 5 (some .int) d0 g [.ref (g.2.2 228), .ref (g.2.2 b0), .int b1, .int b2, .int b3] h k h1 k r) (hF_begin : ∀ (b0 : Int32) (b1 : Nat) (b2 : Int32) (b3 : Int32) (h h1 : Hp) (r : Int32), isE b1 → F_begin b0 b1 b2 b3 h = some (r, h1) → CI l yX1_begin cX1_begin 6 (some .int) d0 g [.ref (g.2.2 228), .int b0, .ref (g.2.2 b1), .int b2, .int b3] h k h1 k r) {h h1 : Hp} {a1 : Int32} {a2 : Nat} {a3 : Int32} {a4 : Int32} {r : Int32}  (ha2 : isE a2) (hf : fX1_begin_o F_answer F_begin a1 a2 a3 a4 h = some (r, h1)) : CI l yX1_begin cX1_begin 6 (some .int) (d0 + 1) g [.ref (g.2.2 228), .int a1, .ref (g.2.2 a2), .int a3, .int a4] h k h1 k r := by
  refine Met.ofW (cc := cX1_begin) (maxL := 6) (ret := (some .int)) (by decide) rfl ?_
  intro p en s m args below meth c s₁ B hml hv
  obtain ⟨rfl, hSK, hSH, hP⟩ := hv
  have X : Cx p s m _ c cX1_begin 6 RX1 g := ⟨B.exec, B.bytes, hml, findClass_of_methodNamed B.named, fun w hw => atoms_spec (ws := wsy yX1_begin cX1_begin 6 (some .int)) B.pre w (List.mem_cons_of_mem _ hw), hSK, hI, hSH⟩
  have hr := B.returns
  have hlocks := B.notSynchronized
  have hx := X.1
  have hb := X.2.1
  have hS : va_S (inA g) s.heap s.heap [] := va_S.rf
  clear hSK hSH hml B
  have hl := lv_entry ([.ref (g.2.2 228), .int a1, .ref (g.2.2 a2), .int a3, .int a4]) (n := 6) (Nat.le_of_ble_eq_true rfl)
  rw [lg_entry_eq]
  generalize (lg_sl ([.ref (g.2.2 228), .int a1, .ref (g.2.2 a2), .int a3, .int a4]) ++ List.replicate (6 - (lg_sl ([.ref (g.2.2 228), .int a1, .ref (g.2.2 a2), .int a3, .int a4])).length) Slot.unset).toArray = ls at hl ⊢
  have hl : lv_has ls 6 [(0, .ref (g.2.2 228)), (1, .int a1), (2, .ref (g.2.2 a2)), (3, .int a3), (4, .int a4)] := hl
  generalize ([.ref (g.2.2 228), .int a1, .ref (g.2.2 a2), .int a3, .int a4] : List Value).toArray = args at X ⊢
  show W p l en (rmD (d0 + 1)) s m args below meth c s.heap [] 0 0 (MQ below (QI g h1 k r) args s 0 0 (inA g)) (F0 m 0 ls [])
  unfold fX1_begin_o at hf
  refine lv_iload hx hb dX1_begin_0 (lv_at hl 4 rfl) ?_
  refine lv_bipush (v := 16) hx hb dX1_begin_2 (by decide) ?_
  refine lv_icmp_le (tgt := 9) hx hb dX1_begin_4 (by decide) (fun c1 => ?_) (fun c1 => ?_)
  · have hf2 := if_at_t c1 hf
    clear hf
    refine lv_aload_n hx hb dX1_begin_9 rfl (lv_at hl 0 rfl) ?_
    refine lv_iload_n hx hb dX1_begin_10 rfl (lv_at hl 1 rfl) ?_
    obtain ⟨⟨⟩, hh4, hg10, hf9⟩ := bd_some hf2
    refine x_cv (x_runV (As := [.int a1]) (rest := []) X hP hS 228 (by decide) cl_As rfl (tX1_leave l X.2.2.2.2.2.2.1  hg10) mi_X1_46 rfl hl.1 rfl (Nat.le_of_ble_eq_true rfl) dX1_begin_11 ⟨by show _ ≤ d0 + 1 + 1; omega, by show _ ≤ 42 * (d0 + 1 + 1); omega⟩ ⟨Nat.zero_le _, Nat.zero_le _⟩) hS (fun H5 lc6 hP7 hS8 => ?_)
    clear hf2 hP hS hg10
    refine lv_iload hx hb dX1_begin_14 (lv_at hl 4 rfl) ?_
    refine lv_iconst (v := 1) hx hb dX1_begin_16 (by decide) ?_
    refine lv_iadd hx hb dX1_begin_17 ?_
    refine lv_topi (fun x11 ex11 => ?_)
    have hf12 := lk_at ex11 hf9
    clear hf9
    refine lv_istore (lv' := [(5, .int x11), (0, .ref (g.2.2 228)), (1, .int a1), (2, .ref (g.2.2 a2)), (3, .int a3), (4, .int a4)]) hx hb dX1_begin_18 hl (by decide) rfl (fun ls13 hl14 => ?_)
    clear hl
    refine lv_iload_n hx hb dX1_begin_20 rfl (lv_at hl14 2 rfl) ?_
    by_cases c15 : a1 = (10 : Int32)
    · have hf16 := if_at_t c15 hf12
      clear hf12
      refine lv_tableIn (tgt := 96) hx hb dX1_begin_21 (by rw [c15]; decide) (by rw [c15]; decide) (by rw [c15]; rfl) (by decide) ?_
      refine lv_aload_n hx hb dX1_begin_96 rfl (lv_at hl14 3 rfl) ?_
      refine gX2 X hP7 ha2 3 (v := .ref (g.2.2 (a2 + 4))) rfl (by decide) rfl wd_103 dX1_begin_97 ?_
      refine lv_iload_n hx hb dX1_begin_100 rfl (lv_at hl14 4 rfl) ?_
      obtain ⟨hc18, hf19⟩ := chk_some hf16
      refine x_ildC X hP7 (a2 + 4) (ia_E4 ha2) hc18 dX1_begin_101 ?_
      obtain ⟨rfl, rfl⟩ := ret_inj hf19
      exact x_iret X hr hlocks hP7 hS8 dX1_begin_102
    · have hf17 := if_at_f c15 hf12
      clear hf12
      by_cases c20 : a1 = (11 : Int32)
      · have hf21 := if_at_t c20 hf17
        clear hf17
        refine lv_tableIn (tgt := 103) hx hb dX1_begin_21 (by rw [c20]; decide) (by rw [c20]; decide) (by rw [c20]; rfl) (by decide) ?_
        refine lv_aload_n hx hb dX1_begin_103 rfl (lv_at hl14 1 rfl) ?_
        refine lv_bipush (v := 10) hx hb dX1_begin_104 (by decide) ?_
        refine lv_aload_n hx hb dX1_begin_106 rfl (lv_at hl14 3 rfl) ?_
        refine lv_iload_n hx hb dX1_begin_107 rfl (lv_at hl14 4 rfl) ?_
        refine lv_iload hx hb dX1_begin_108 (lv_at hl14 0 rfl) ?_
        obtain ⟨x23, hh24, hg30, hf29⟩ := bd_some hf21
        refine x_ci (x_runV (As := [.int (10 : Int32), .ref (g.2.2 a2), .int a3, .int x11]) (rest := []) X hP7 hS8 228 (by decide) cl_As rfl (hF_begin (10 : Int32) a2 a3 x11 _ _ _ ha2 hg30) mi_X1_30 rfl hl14.1 rfl (Nat.le_of_ble_eq_true rfl) dX1_begin_110 ⟨by show _ ≤ d0 + 1 + 1; omega, by show _ ≤ 42 * (d0 + 1 + 1); omega⟩ ⟨Nat.zero_le _, Nat.zero_le _⟩) hS8 (fun H25 lc26 hP27 hS28 => ?_)
        clear hf21 hP7 hS8 hg30
        refine lv_aload_n hx hb dX1_begin_113 rfl (lv_at hl14 1 rfl) ?_
        refine lv_aload_n hx hb dX1_begin_114 rfl (lv_at hl14 3 rfl) ?_
        refine lv_iload_n hx hb dX1_begin_115 rfl (lv_at hl14 4 rfl) ?_
        refine lv_iconst (v := 1) hx hb dX1_begin_116 (by decide) ?_
        refine lv_iload hx hb dX1_begin_117 (lv_at hl14 0 rfl) ?_
        obtain ⟨x31, hh32, hg38, hf37⟩ := bd_some hf29
        refine x_ci (x_runV (As := [.ref (g.2.2 a2), .int a3, .int (1 : Int32), .int x11]) (rest := [.int x23]) X hP27 hS28 228 (by decide) cl_As rfl (hF_answer a2 a3 (1 : Int32) x11 _ _ _ ha2 hg38) mi_X1_17 rfl hl14.1 rfl (Nat.le_of_ble_eq_true rfl) dX1_begin_119 ⟨by show _ ≤ d0 + 1 + 1; omega, by show _ ≤ 42 * (d0 + 1 + 1); omega⟩ ⟨Nat.zero_le _, Nat.zero_le _⟩) hS28 (fun H33 lc34 hP35 hS36 => ?_)
        clear hf29 hP27 hS28 hg38
        refine lv_iadd hx hb dX1_begin_122 ?_
        obtain ⟨rfl, rfl⟩ := ret_inj hf37
        exact x_iret X hr hlocks hP35 hS36 dX1_begin_123
      · have hf22 := if_at_f c20 hf17
        clear hf17
        by_cases c39 : a1 = (12 : Int32)
        · have hf40 := if_at_t c39 hf22
          clear hf22
          refine lv_tableIn (tgt := 124) hx hb dX1_begin_21 (by rw [c39]; decide) (by rw [c39]; decide) (by rw [c39]; rfl) (by decide) ?_
          refine lv_aload_n hx hb dX1_begin_124 rfl (lv_at hl14 1 rfl) ?_
          refine lv_bipush (v := 11) hx hb dX1_begin_125 (by decide) ?_
          refine lv_aload_n hx hb dX1_begin_127 rfl (lv_at hl14 3 rfl) ?_
          refine lv_iload_n hx hb dX1_begin_128 rfl (lv_at hl14 4 rfl) ?_
          refine lv_iload hx hb dX1_begin_129 (lv_at hl14 0 rfl) ?_
          obtain ⟨x42, hh43, hg49, hf48⟩ := bd_some hf40
          refine x_ci (x_runV (As := [.int (11 : Int32), .ref (g.2.2 a2), .int a3, .int x11]) (rest := []) X hP7 hS8 228 (by decide) cl_As rfl (hF_begin (11 : Int32) a2 a3 x11 _ _ _ ha2 hg49) mi_X1_30 rfl hl14.1 rfl (Nat.le_of_ble_eq_true rfl) dX1_begin_131 ⟨by show _ ≤ d0 + 1 + 1; omega, by show _ ≤ 42 * (d0 + 1 + 1); omega⟩ ⟨Nat.zero_le _, Nat.zero_le _⟩) hS8 (fun H44 lc45 hP46 hS47 => ?_)
          clear hf40 hP7 hS8 hg49
          refine lv_ineg hx hb dX1_begin_134 ?_
          obtain ⟨rfl, rfl⟩ := ret_inj hf48
          exact x_iret X hr hlocks hP46 hS47 dX1_begin_135
        · have hf41 := if_at_f c39 hf22
          clear hf22
          by_cases c50 : a1 = (13 : Int32)
          · have hf51 := if_at_t c50 hf41
            clear hf41
            refine lv_tableIn (tgt := 136) hx hb dX1_begin_21 (by rw [c50]; decide) (by rw [c50]; decide) (by rw [c50]; rfl) (by decide) ?_
            refine lv_aload_n hx hb dX1_begin_136 rfl (lv_at hl14 1 rfl) ?_
            refine lv_bipush (v := 10) hx hb dX1_begin_137 (by decide) ?_
            refine lv_aload_n hx hb dX1_begin_139 rfl (lv_at hl14 3 rfl) ?_
            refine lv_iload_n hx hb dX1_begin_140 rfl (lv_at hl14 4 rfl) ?_
            refine lv_iload hx hb dX1_begin_141 (lv_at hl14 0 rfl) ?_
            obtain ⟨x53, hh54, hg60, hf59⟩ := bd_some hf51
            refine x_ci (x_runV (As := [.int (10 : Int32), .ref (g.2.2 a2), .int a3, .int x11]) (rest := []) X hP7 hS8 228 (by decide) cl_As rfl (hF_begin (10 : Int32) a2 a3 x11 _ _ _ ha2 hg60) mi_X1_30 rfl hl14.1 rfl (Nat.le_of_ble_eq_true rfl) dX1_begin_143 ⟨by show _ ≤ d0 + 1 + 1; omega, by show _ ≤ 42 * (d0 + 1 + 1); omega⟩ ⟨Nat.zero_le _, Nat.zero_le _⟩) hS8 (fun H55 lc56 hP57 hS58 => ?_)
            clear hf51 hP7 hS8 hg60
            refine lv_bipush (v := 100) hx hb dX1_begin_146 (by decide) ?_
            refine lv_isub hx hb dX1_begin_148 ?_
            obtain ⟨rfl, rfl⟩ := ret_inj hf59
            exact x_iret X hr hlocks hP57 hS58 dX1_begin_149
          · have hf52 := if_at_f c50 hf41
            clear hf41
            by_cases c61 : a1 = (14 : Int32)
            · have hf62 := if_at_t c61 hf52
              clear hf52
              refine lv_tableIn (tgt := 150) hx hb dX1_begin_21 (by rw [c61]; decide) (by rw [c61]; decide) (by rw [c61]; rfl) (by decide) ?_
              refine lv_iconst (v := 2) hx hb dX1_begin_150 (by decide) ?_
              refine lv_aload_n hx hb dX1_begin_151 rfl (lv_at hl14 1 rfl) ?_
              refine lv_bipush (v := 13) hx hb dX1_begin_152 (by decide) ?_
              refine lv_aload_n hx hb dX1_begin_154 rfl (lv_at hl14 3 rfl) ?_
              refine lv_iload_n hx hb dX1_begin_155 rfl (lv_at hl14 4 rfl) ?_
              refine lv_iload hx hb dX1_begin_156 (lv_at hl14 0 rfl) ?_
              obtain ⟨x64, hh65, hg71, hf70⟩ := bd_some hf62
              refine x_ci (x_runV (As := [.int (13 : Int32), .ref (g.2.2 a2), .int a3, .int x11]) (rest := [.int (2 : Int32)]) X hP7 hS8 228 (by decide) cl_As rfl (hF_begin (13 : Int32) a2 a3 x11 _ _ _ ha2 hg71) mi_X1_30 rfl hl14.1 rfl (Nat.le_of_ble_eq_true rfl) dX1_begin_158 ⟨by show _ ≤ d0 + 1 + 1; omega, by show _ ≤ 42 * (d0 + 1 + 1); omega⟩ ⟨Nat.zero_le _, Nat.zero_le _⟩) hS8 (fun H66 lc67 hP68 hS69 => ?_)
              clear hf62 hP7 hS8 hg71
              refine lv_imul hx hb dX1_begin_161 ?_
              obtain ⟨rfl, rfl⟩ := ret_inj hf70
              exact x_iret X hr hlocks hP68 hS69 dX1_begin_162
            · have hf63 := if_at_f c61 hf52
              clear hf52
              by_cases c72 : a1 = (15 : Int32)
              · have hf73 := if_at_t c72 hf63
                clear hf63
                refine lv_tableIn (tgt := 232) hx hb dX1_begin_21 (by rw [c72]; decide) (by rw [c72]; decide) (by rw [c72]; rfl) (by decide) ?_
                refine lv_iconst (v := 0) hx hb dX1_begin_232 (by decide) ?_
                obtain ⟨rfl, rfl⟩ := ret_inj hf73
                exact x_iret X hr hlocks hP7 hS8 dX1_begin_233
              · have hf74 := if_at_f c72 hf63
                clear hf63
                by_cases c75 : a1 = (16 : Int32)
                · have hf76 := if_at_t c75 hf74
                  clear hf74
                  refine lv_tableIn (tgt := 232) hx hb dX1_begin_21 (by rw [c75]; decide) (by rw [c75]; decide) (by rw [c75]; rfl) (by decide) ?_
                  refine lv_iconst (v := 0) hx hb dX1_begin_232 (by decide) ?_
                  obtain ⟨rfl, rfl⟩ := ret_inj hf76
                  exact x_iret X hr hlocks hP7 hS8 dX1_begin_233
                · have hf77 := if_at_f c75 hf74
                  clear hf74
                  by_cases c78 : a1 = (17 : Int32)
                  · have hf79 := if_at_t c78 hf77
                    clear hf77
                    refine lv_tableIn (tgt := 232) hx hb dX1_begin_21 (by rw [c78]; decide) (by rw [c78]; decide) (by rw [c78]; rfl) (by decide) ?_
                    refine lv_iconst (v := 0) hx hb dX1_begin_232 (by decide) ?_
                    obtain ⟨rfl, rfl⟩ := ret_inj hf79
                    exact x_iret X hr hlocks hP7 hS8 dX1_begin_233
                  · have hf80 := if_at_f c78 hf77
                    clear hf77
                    by_cases c81 : a1 = (18 : Int32)
                    · have hf82 := if_at_t c81 hf80
                      clear hf80
                      refine lv_tableIn (tgt := 232) hx hb dX1_begin_21 (by rw [c81]; decide) (by rw [c81]; decide) (by rw [c81]; rfl) (by decide) ?_
                      refine lv_iconst (v := 0) hx hb dX1_begin_232 (by decide) ?_
                      obtain ⟨rfl, rfl⟩ := ret_inj hf82
                      exact x_iret X hr hlocks hP7 hS8 dX1_begin_233
                    · have hf83 := if_at_f c81 hf80
                      clear hf80
                      by_cases c84 : a1 = (19 : Int32)
                      · have hf85 := if_at_t c84 hf83
                        clear hf83
                        refine lv_tableIn (tgt := 232) hx hb dX1_begin_21 (by rw [c84]; decide) (by rw [c84]; decide) (by rw [c84]; rfl) (by decide) ?_
                        refine lv_iconst (v := 0) hx hb dX1_begin_232 (by decide) ?_
                        obtain ⟨rfl, rfl⟩ := ret_inj hf85
                        exact x_iret X hr hlocks hP7 hS8 dX1_begin_233
                      · have hf86 := if_at_f c84 hf83
                        clear hf83
                        by_cases c87 : a1 = (20 : Int32)
                        · have hf88 := if_at_t c87 hf86
                          clear hf86
                          refine lv_tableIn (tgt := 163) hx hb dX1_begin_21 (by rw [c87]; decide) (by rw [c87]; decide) (by rw [c87]; rfl) (by decide) ?_
                          refine lv_iload_n hx hb dX1_begin_163 rfl (lv_at hl14 4 rfl) ?_
                          obtain ⟨rfl, rfl⟩ := ret_inj hf88
                          exact x_iret X hr hlocks hP7 hS8 dX1_begin_164
                        · have hf89 := if_at_f c87 hf86
                          clear hf86
                          by_cases c90 : a1 = (21 : Int32)
                          · have hf91 := if_at_t c90 hf89
                            clear hf89
                            refine lv_tableIn (tgt := 165) hx hb dX1_begin_21 (by rw [c90]; decide) (by rw [c90]; decide) (by rw [c90]; rfl) (by decide) ?_
                            refine lv_aload_n hx hb dX1_begin_165 rfl (lv_at hl14 1 rfl) ?_
                            refine lv_bipush (v := 20) hx hb dX1_begin_166 (by decide) ?_
                            refine lv_aload_n hx hb dX1_begin_168 rfl (lv_at hl14 3 rfl) ?_
                            refine lv_iload_n hx hb dX1_begin_169 rfl (lv_at hl14 4 rfl) ?_
                            refine lv_iload hx hb dX1_begin_170 (lv_at hl14 0 rfl) ?_
                            obtain ⟨x93, hh94, hg100, hf99⟩ := bd_some hf91
                            refine x_ci (x_runV (As := [.int (20 : Int32), .ref (g.2.2 a2), .int a3, .int x11]) (rest := []) X hP7 hS8 228 (by decide) cl_As rfl (hF_begin (20 : Int32) a2 a3 x11 _ _ _ ha2 hg100) mi_X1_30 rfl hl14.1 rfl (Nat.le_of_ble_eq_true rfl) dX1_begin_172 ⟨by show _ ≤ d0 + 1 + 1; omega, by show _ ≤ 42 * (d0 + 1 + 1); omega⟩ ⟨Nat.zero_le _, Nat.zero_le _⟩) hS8 (fun H95 lc96 hP97 hS98 => ?_)
                            clear hf91 hP7 hS8 hg100
                            refine lv_aload_n hx hb dX1_begin_175 rfl (lv_at hl14 3 rfl) ?_
                            refine gX2 X hP97 ha2 4 (v := .ref (g.2.2 (a2 + 5))) rfl (by decide) rfl wd_106 dX1_begin_176 ?_
                            refine lv_iload_n hx hb dX1_begin_179 rfl (lv_at hl14 4 rfl) ?_
                            obtain ⟨hc101, hf102⟩ := chk_some hf99
                            refine x_ildC X hP97 (a2 + 5) (ia_E5 ha2) hc101 dX1_begin_180 ?_
                            refine lv_iadd hx hb dX1_begin_181 ?_
                            obtain ⟨rfl, rfl⟩ := ret_inj hf102
                            exact x_iret X hr hlocks hP97 hS98 dX1_begin_182
                          · have hf92 := if_at_f c90 hf89
                            clear hf89
                            by_cases c103 : a1 = (22 : Int32)
                            · have hf104 := if_at_t c103 hf92
                              clear hf92
                              refine lv_tableIn (tgt := 183) hx hb dX1_begin_21 (by rw [c103]; decide) (by rw [c103]; decide) (by rw [c103]; rfl) (by decide) ?_
                              refine lv_aload_n hx hb dX1_begin_183 rfl (lv_at hl14 1 rfl) ?_
                              refine lv_bipush (v := 21) hx hb dX1_begin_184 (by decide) ?_
                              refine lv_aload_n hx hb dX1_begin_186 rfl (lv_at hl14 3 rfl) ?_
                              refine lv_iload_n hx hb dX1_begin_187 rfl (lv_at hl14 4 rfl) ?_
                              refine lv_iload hx hb dX1_begin_188 (lv_at hl14 0 rfl) ?_
                              obtain ⟨x106, hh107, hg113, hf112⟩ := bd_some hf104
                              refine x_ci (x_runV (As := [.int (21 : Int32), .ref (g.2.2 a2), .int a3, .int x11]) (rest := []) X hP7 hS8 228 (by decide) cl_As rfl (hF_begin (21 : Int32) a2 a3 x11 _ _ _ ha2 hg113) mi_X1_30 rfl hl14.1 rfl (Nat.le_of_ble_eq_true rfl) dX1_begin_190 ⟨by show _ ≤ d0 + 1 + 1; omega, by show _ ≤ 42 * (d0 + 1 + 1); omega⟩ ⟨Nat.zero_le _, Nat.zero_le _⟩) hS8 (fun H108 lc109 hP110 hS111 => ?_)
                              clear hf104 hP7 hS8 hg113
                              refine lv_sipush (v := 1000) hx hb dX1_begin_193 (by decide) ?_
                              refine lv_isub hx hb dX1_begin_196 ?_
                              obtain ⟨rfl, rfl⟩ := ret_inj hf112
                              exact x_iret X hr hlocks hP110 hS111 dX1_begin_197
                            · have hf105 := if_at_f c103 hf92
                              clear hf92
                              by_cases c114 : a1 = (23 : Int32)
                              · have hf115 := if_at_t c114 hf105
                                clear hf105
                                refine lv_tableIn (tgt := 198) hx hb dX1_begin_21 (by rw [c114]; decide) (by rw [c114]; decide) (by rw [c114]; rfl) (by decide) ?_
                                refine lv_aload_n hx hb dX1_begin_198 rfl (lv_at hl14 1 rfl) ?_
                                refine lv_bipush (v := 20) hx hb dX1_begin_199 (by decide) ?_
                                refine lv_aload_n hx hb dX1_begin_201 rfl (lv_at hl14 3 rfl) ?_
                                refine lv_iload_n hx hb dX1_begin_202 rfl (lv_at hl14 4 rfl) ?_
                                refine lv_iload hx hb dX1_begin_203 (lv_at hl14 0 rfl) ?_
                                obtain ⟨x117, hh118, hg124, hf123⟩ := bd_some hf115
                                refine x_ci (x_runV (As := [.int (20 : Int32), .ref (g.2.2 a2), .int a3, .int x11]) (rest := []) X hP7 hS8 228 (by decide) cl_As rfl (hF_begin (20 : Int32) a2 a3 x11 _ _ _ ha2 hg124) mi_X1_30 rfl hl14.1 rfl (Nat.le_of_ble_eq_true rfl) dX1_begin_205 ⟨by show _ ≤ d0 + 1 + 1; omega, by show _ ≤ 42 * (d0 + 1 + 1); omega⟩ ⟨Nat.zero_le _, Nat.zero_le _⟩) hS8 (fun H119 lc120 hP121 hS122 => ?_)
                                clear hf115 hP7 hS8 hg124
                                refine lv_aload_n hx hb dX1_begin_208 rfl (lv_at hl14 1 rfl) ?_
                                refine lv_aload_n hx hb dX1_begin_209 rfl (lv_at hl14 3 rfl) ?_
                                refine lv_iload_n hx hb dX1_begin_210 rfl (lv_at hl14 4 rfl) ?_
                                refine lv_iconst (v := 0) hx hb dX1_begin_211 (by decide) ?_
                                refine lv_iload hx hb dX1_begin_212 (lv_at hl14 0 rfl) ?_
                                obtain ⟨x125, hh126, hg132, hf131⟩ := bd_some hf123
                                refine x_ci (x_runV (As := [.ref (g.2.2 a2), .int a3, .int (0 : Int32), .int x11]) (rest := [.int x117]) X hP121 hS122 228 (by decide) cl_As rfl (hF_answer a2 a3 (0 : Int32) x11 _ _ _ ha2 hg132) mi_X1_17 rfl hl14.1 rfl (Nat.le_of_ble_eq_true rfl) dX1_begin_214 ⟨by show _ ≤ d0 + 1 + 1; omega, by show _ ≤ 42 * (d0 + 1 + 1); omega⟩ ⟨Nat.zero_le _, Nat.zero_le _⟩) hS122 (fun H127 lc128 hP129 hS130 => ?_)
                                clear hf123 hP121 hS122 hg132
                                refine lv_isub hx hb dX1_begin_217 ?_
                                obtain ⟨rfl, rfl⟩ := ret_inj hf131
                                exact x_iret X hr hlocks hP129 hS130 dX1_begin_218
                              · have hf116 := if_at_f c114 hf105
                                clear hf105
                                by_cases c133 : a1 = (24 : Int32)
                                · have hf134 := if_at_t c133 hf116
                                  clear hf116
                                  refine lv_tableIn (tgt := 219) hx hb dX1_begin_21 (by rw [c133]; decide) (by rw [c133]; decide) (by rw [c133]; rfl) (by decide) ?_
                                  refine lv_iconst (v := 2) hx hb dX1_begin_219 (by decide) ?_
                                  refine lv_aload_n hx hb dX1_begin_220 rfl (lv_at hl14 1 rfl) ?_
                                  refine lv_bipush (v := 21) hx hb dX1_begin_221 (by decide) ?_
                                  refine lv_aload_n hx hb dX1_begin_223 rfl (lv_at hl14 3 rfl) ?_
                                  refine lv_iload_n hx hb dX1_begin_224 rfl (lv_at hl14 4 rfl) ?_
                                  refine lv_iload hx hb dX1_begin_225 (lv_at hl14 0 rfl) ?_
                                  obtain ⟨x136, hh137, hg143, hf142⟩ := bd_some hf134
                                  refine x_ci (x_runV (As := [.int (21 : Int32), .ref (g.2.2 a2), .int a3, .int x11]) (rest := [.int (2 : Int32)]) X hP7 hS8 228 (by decide) cl_As rfl (hF_begin (21 : Int32) a2 a3 x11 _ _ _ ha2 hg143) mi_X1_30 rfl hl14.1 rfl (Nat.le_of_ble_eq_true rfl) dX1_begin_227 ⟨by show _ ≤ d0 + 1 + 1; omega, by show _ ≤ 42 * (d0 + 1 + 1); omega⟩ ⟨Nat.zero_le _, Nat.zero_le _⟩) hS8 (fun H138 lc139 hP140 hS141 => ?_)
                                  clear hf134 hP7 hS8 hg143
                                  refine lv_imul hx hb dX1_begin_230 ?_
                                  obtain ⟨rfl, rfl⟩ := ret_inj hf142
                                  exact x_iret X hr hlocks hP140 hS141 dX1_begin_231
                                · have hf135 := if_at_f c133 hf116
                                  clear hf116
                                  have q0 := sw_ne (j := 10) rfl c15
                                  have q1 := sw_ne (j := 11) rfl c20
                                  have q2 := sw_ne (j := 12) rfl c39
                                  have q3 := sw_ne (j := 13) rfl c50
                                  have q4 := sw_ne (j := 14) rfl c61
                                  have q5 := sw_ne (j := 15) rfl c72
                                  have q6 := sw_ne (j := 16) rfl c75
                                  have q7 := sw_ne (j := 17) rfl c78
                                  have q8 := sw_ne (j := 18) rfl c81
                                  have q9 := sw_ne (j := 19) rfl c84
                                  have q10 := sw_ne (j := 20) rfl c87
                                  have q11 := sw_ne (j := 21) rfl c90
                                  have q12 := sw_ne (j := 22) rfl c103
                                  have q13 := sw_ne (j := 23) rfl c114
                                  have q14 := sw_ne (j := 24) rfl c133
                                  refine lv_tableOut (tgt := 232) hx hb dX1_begin_21 (by omega) (by decide) ?_
                                  clear q0 q1 q2 q3 q4 q5 q6 q7 q8 q9 q10 q11 q12 q13 q14
                                  refine lv_iconst (v := 0) hx hb dX1_begin_232 (by decide) ?_
                                  obtain ⟨rfl, rfl⟩ := ret_inj hf135
                                  exact x_iret X hr hlocks hP7 hS8 dX1_begin_233
  · have hf144 := if_at_f c1 hf
    clear hf
    refine lv_iconst (v := 0) hx hb dX1_begin_7 (by decide) ?_
    obtain ⟨rfl, rfl⟩ := ret_inj hf144
    exact x_iret X hr hlocks hP hS dX1_begin_8
set_option maxRecDepth 100000 in
set_option maxHeartbeats 4000000 in
theorem tX1_answer_o (l : Launch) {g : Gx} (hI : InjG g) {k : Hp} (d0 : Nat) (hd0 : 3 ≤ d0) (F_begin : Int32 → Nat → Int32 → Int32 → Hp → Option (Int32 × Hp)) (hF_begin : ∀ (b0 : Int32) (b1 : Nat) (b2 : Int32) (b3 : Int32) (h h1 : Hp) (r : Int32), isE b1 → F_begin b0 b1 b2 b3 h = some (r, h1) → CI l yX1_begin cX1_begin 6 (some .int) d0 g [.ref (g.2.2 228), .int b0, .ref (g.2.2 b1), .int b2, .int b3] h k h1 k r) {h h1 : Hp} {a1 : Nat} {a2 : Int32} {a3 : Int32} {a4 : Int32} {r : Int32}  (ha1 : isE a1) (hf : fX1_answer_o F_begin a1 a2 a3 a4 h = some (r, h1)) : CI l yX1_answer cX1_answer 5 (some .int) (d0 + 1) g [.ref (g.2.2 228), .ref (g.2.2 a1), .int a2, .int a3, .int a4] h k h1 k r := by
  refine Met.ofW (cc := cX1_answer) (maxL := 5) (ret := (some .int)) (by decide) rfl ?_
  intro p en s m args below meth c s₁ B hml hv
  obtain ⟨rfl, hSK, hSH, hP⟩ := hv
  have X : Cx p s m _ c cX1_answer 5 RX1 g := ⟨B.exec, B.bytes, hml, findClass_of_methodNamed B.named, fun w hw => atoms_spec (ws := wsy yX1_answer cX1_answer 5 (some .int)) B.pre w (List.mem_cons_of_mem _ hw), hSK, hI, hSH⟩
  have hr := B.returns
  have hlocks := B.notSynchronized
  have hx := X.1
  have hb := X.2.1
  have hS : va_S (inA g) s.heap s.heap [] := va_S.rf
  clear hSK hSH hml B
  have hl := lv_entry ([.ref (g.2.2 228), .ref (g.2.2 a1), .int a2, .int a3, .int a4]) (n := 5) (Nat.le_of_ble_eq_true rfl)
  rw [lg_entry_eq]
  generalize (lg_sl ([.ref (g.2.2 228), .ref (g.2.2 a1), .int a2, .int a3, .int a4]) ++ List.replicate (5 - (lg_sl ([.ref (g.2.2 228), .ref (g.2.2 a1), .int a2, .int a3, .int a4])).length) Slot.unset).toArray = ls at hl ⊢
  have hl : lv_has ls 5 [(0, .ref (g.2.2 228)), (1, .ref (g.2.2 a1)), (2, .int a2), (3, .int a3), (4, .int a4)] := hl
  generalize ([.ref (g.2.2 228), .ref (g.2.2 a1), .int a2, .int a3, .int a4] : List Value).toArray = args at X ⊢
  show W p l en (rmD (d0 + 1)) s m args below meth c s.heap [] 0 0 (MQ below (QI g h1 k r) args s 0 0 (inA g)) (F0 m 0 ls [])
  unfold fX1_answer_o at hf
  refine lv_aload_n hx hb dX1_answer_0 rfl (lv_at hl 0 rfl) ?_
  refine lv_aload_n hx hb dX1_answer_1 rfl (lv_at hl 1 rfl) ?_
  refine gX2 X hP ha1 1 (v := .ref (g.2.2 (a1 + 2))) rfl (by decide) rfl wd_97 dX1_answer_2 ?_
  refine lv_iload_n hx hb dX1_answer_5 rfl (lv_at hl 2 rfl) ?_
  obtain ⟨hc1, hf2⟩ := chk_some hf
  refine x_ildC X hP (a1 + 2) (ia_E2 ha1) hc1 dX1_answer_6 ?_
  refine lv_iload_n hx hb dX1_answer_7 rfl (lv_at hl 3 rfl) ?_
  obtain ⟨x3, hh4, hg10, hf9⟩ := bd_some hf2
  refine x_ci (x_runS (As := [.int (h (a1 + 2) a2.toNatClampNeg), .int a3]) (rest := [.ref (g.2.2 228)]) X hP hS (tX1_nearestBody l X.2.2.2.2.2.2.1  hg10) mi_X1_26 rfl hl.1 rfl (Nat.le_of_ble_eq_true rfl) dX1_answer_8 ⟨by show _ ≤ d0 + 1 + 1; omega, by show _ ≤ 42 * (d0 + 1 + 1); omega⟩ ⟨Nat.zero_le _, Nat.zero_le _⟩) hS (fun H5 lc6 hP7 hS8 => ?_)
  clear hf2 hP hS hg10
  refine lv_aload_n hx hb dX1_answer_11 rfl (lv_at hl 1 rfl) ?_
  refine lv_iload_n hx hb dX1_answer_12 rfl (lv_at hl 2 rfl) ?_
  refine lv_iload hx hb dX1_answer_13 (lv_at hl 4 rfl) ?_
  refine lv_iconst (v := 1) hx hb dX1_answer_15 (by decide) ?_
  refine lv_iadd hx hb dX1_answer_16 ?_
  obtain ⟨x11, hh12, hg18, hf17⟩ := bd_some hf9
  refine x_ci (x_runV (As := [.int x3, .ref (g.2.2 a1), .int a2, .int (a4 + (1 : Int32))]) (rest := []) X hP7 hS8 228 (by decide) cl_As rfl (hF_begin x3 a1 a2 (a4 + (1 : Int32)) _ _ _ ha1 hg18) mi_X1_30 rfl hl.1 rfl (Nat.le_of_ble_eq_true rfl) dX1_answer_17 ⟨by show _ ≤ d0 + 1 + 1; omega, by show _ ≤ 42 * (d0 + 1 + 1); omega⟩ ⟨Nat.zero_le _, Nat.zero_le _⟩) hS8 (fun H13 lc14 hP15 hS16 => ?_)
  clear hf9 hP7 hS8 hg18
  obtain ⟨rfl, rfl⟩ := ret_inj hf17
  exact x_iret X hr hlocks hP15 hS16 dX1_answer_20
theorem tX1_asks (l : Launch) {g : Gx} (hI : InjG g) : ∀ (n d : Nat), 2 * n + 3 ≤ d → ∀ {h k h1 : Hp} {a1 : Int32} {a2 : Nat} {a3 a4 r : Int32}, isE a2 → fX1_asks n a1 a2 a3 a4 h = some (r, h1) → CI l yX1_begin cX1_begin 6 (some .int) d g [.ref (g.2.2 228), .int a1, .ref (g.2.2 a2), .int a3, .int a4] h k h1 k r := by
  intro n
  induction n with
  | zero => intro d _ h k h1 a1 a2 a3 a4 r _ hf; simp only [fX1_asks, reduceCtorEq] at hf
  | succ n ih =>
    intro d hd h k h1 a1 a2 a3 a4 r he hf
    obtain ⟨d, rfl⟩ : ∃ q, d = q + 2 := ⟨d - 2, by omega⟩
    rw [fX1_asks] at hf
    exact tX1_begin_o l hI (d + 1) (by omega) _ _ (fun b0 b1 b2 b3 h h1 r he hg => tX1_answer_o l hI d (by omega) _ (fun b0 b1 b2 b3 h h1 r he hg => ih d (by omega) he hg) he hg) (fun b0 b1 b2 b3 h h1 r he hg => ih (d + 1) (by omega) he hg) he hf
theorem tX1_answer (l : Launch) {g : Gx} (hI : InjG g) {h k h1 : Hp} {a1 : Nat} {a2 a3 a4 r : Int32} (ha1 : isE a1) (hf : fX1_answer a1 a2 a3 a4 h = some (r, h1)) : CI l yX1_answer cX1_answer 5 (some .int) 24 g [.ref (g.2.2 228), .ref (g.2.2 a1), .int a2, .int a3, .int a4] h k h1 k r := tX1_answer_o l hI 23 (by decide) _ (fun b0 b1 b2 b3 h h1 r he hg => tX1_asks l hI 8 23 (by decide) he hg) ha1 hf
set_option maxRecDepth 100000 in
set_option maxHeartbeats 4000000 in
theorem tX1_askOf (l : Launch) {g : Gx} (hI : InjG g) {h k h1 : Hp} {a1 : Nat} {a2 : Int32} {a3 : Int32} {r : Int32}  (ha1 : isE a1) (hf : fX1_askOf a1 a2 a3 h = some (r, h1)) : CI l yX1_askOf cX1_askOf 4 (some .int) 25 g [.ref (g.2.2 228), .ref (g.2.2 a1), .int a2, .int a3] h k h1 k r := by
  refine Met.ofW (cc := cX1_askOf) (maxL := 4) (ret := (some .int)) (by decide) rfl ?_
  intro p en s m args below meth c s₁ B hml hv
  obtain ⟨rfl, hSK, hSH, hP⟩ := hv
  have X : Cx p s m _ c cX1_askOf 4 RX1 g := ⟨B.exec, B.bytes, hml, findClass_of_methodNamed B.named, fun w hw => atoms_spec (ws := wsy yX1_askOf cX1_askOf 4 (some .int)) B.pre w (List.mem_cons_of_mem _ hw), hSK, hI, hSH⟩
  have hr := B.returns
  have hlocks := B.notSynchronized
  have hx := X.1
  have hb := X.2.1
  have hS : va_S (inA g) s.heap s.heap [] := va_S.rf
  clear hSK hSH hml B
  have hl := lv_entry ([.ref (g.2.2 228), .ref (g.2.2 a1), .int a2, .int a3]) (n := 4) (Nat.le_of_ble_eq_true rfl)
  rw [lg_entry_eq]
  generalize (lg_sl ([.ref (g.2.2 228), .ref (g.2.2 a1), .int a2, .int a3]) ++ List.replicate (4 - (lg_sl ([.ref (g.2.2 228), .ref (g.2.2 a1), .int a2, .int a3])).length) Slot.unset).toArray = ls at hl ⊢
  have hl : lv_has ls 4 [(0, .ref (g.2.2 228)), (1, .ref (g.2.2 a1)), (2, .int a2), (3, .int a3)] := hl
  generalize ([.ref (g.2.2 228), .ref (g.2.2 a1), .int a2, .int a3] : List Value).toArray = args at X ⊢
  show W p l en (rmD 25) s m args below meth c s.heap [] 0 0 (MQ below (QI g h1 k r) args s 0 0 (inA g)) (F0 m 0 ls [])
  unfold fX1_askOf at hf
  refine lv_aload_n hx hb dX1_askOf_0 rfl (lv_at hl 0 rfl) ?_
  refine lv_iconst (v := 0) hx hb dX1_askOf_1 (by decide) ?_
  refine pX1 X hP hS 1 (by decide) rfl wd_267 rfl rfl rfl rfl seX1_1 dX1_askOf_2 (fun H1 lc2 hh3 ehh3 hP4 hS5 => ?_)
  have hf6 := lk_at ehh3 hf
  clear hf hP hS
  refine lv_aload_n hx hb dX1_askOf_5 rfl (lv_at hl 0 rfl) ?_
  refine lv_aload_n hx hb dX1_askOf_6 rfl (lv_at hl 1 rfl) ?_
  refine lv_iload_n hx hb dX1_askOf_7 rfl (lv_at hl 2 rfl) ?_
  refine lv_iload_n hx hb dX1_askOf_8 rfl (lv_at hl 3 rfl) ?_
  refine lv_iconst (v := 0) hx hb dX1_askOf_9 (by decide) ?_
  obtain ⟨x7, hh8, hg14, hf13⟩ := bd_some hf6
  refine x_ci (x_runV (As := [.ref (g.2.2 a1), .int a2, .int a3, .int (0 : Int32)]) (rest := []) X hP4 hS5 228 (by decide) cl_As rfl (tX1_answer l X.2.2.2.2.2.2.1 ha1 hg14) mi_X1_17 rfl hl.1 rfl (Nat.le_of_ble_eq_true rfl) dX1_askOf_10 ⟨Nat.le_of_ble_eq_true rfl, Nat.le_of_ble_eq_true rfl⟩ ⟨Nat.zero_le _, Nat.zero_le _⟩) hS5 (fun H9 lc10 hP11 hS12 => ?_)
  clear hf6 hP4 hS5 hg14
  obtain ⟨rfl, rfl⟩ := ret_inj hf13
  exact x_iret X hr hlocks hP11 hS12 dX1_askOf_13
set_option maxRecDepth 100000 in
set_option maxHeartbeats 4000000 in
theorem tX6_ask (l : Launch) {g : Gx} (hI : InjG g) {h k h1 : Hp} {a1 : Int32} {a2 : Int32} {r : Int32}   (hf : fX6_ask a1 a2 h = some (r, h1)) : CI l yX6_ask cX6_ask 3 (some .int) 26 g [.ref (g.2.2 203), .int a1, .int a2] h k h1 k r := by
  refine Met.ofW (cc := cX6_ask) (maxL := 3) (ret := (some .int)) (by decide) rfl ?_
  intro p en s m args below meth c s₁ B hml hv
  obtain ⟨rfl, hSK, hSH, hP⟩ := hv
  have X : Cx p s m _ c cX6_ask 3 RX6 g := ⟨B.exec, B.bytes, hml, findClass_of_methodNamed B.named, fun w hw => atoms_spec (ws := wsy yX6_ask cX6_ask 3 (some .int)) B.pre w (List.mem_cons_of_mem _ hw), hSK, hI, hSH⟩
  have hr := B.returns
  have hlocks := B.notSynchronized
  have hx := X.1
  have hb := X.2.1
  have hS : va_S (inA g) s.heap s.heap [] := va_S.rf
  clear hSK hSH hml B
  have hl := lv_entry ([.ref (g.2.2 203), .int a1, .int a2]) (n := 3) (Nat.le_of_ble_eq_true rfl)
  rw [lg_entry_eq]
  generalize (lg_sl ([.ref (g.2.2 203), .int a1, .int a2]) ++ List.replicate (3 - (lg_sl ([.ref (g.2.2 203), .int a1, .int a2])).length) Slot.unset).toArray = ls at hl ⊢
  have hl : lv_has ls 3 [(0, .ref (g.2.2 203)), (1, .int a1), (2, .int a2)] := hl
  generalize ([.ref (g.2.2 203), .int a1, .int a2] : List Value).toArray = args at X ⊢
  show W p l en (rmD 26) s m args below meth c s.heap [] 0 0 (MQ below (QI g h1 k r) args s 0 0 (inA g)) (F0 m 0 ls [])
  unfold fX6_ask at hf
  refine lv_aload_n hx hb dX6_ask_0 rfl (lv_at hl 0 rfl) ?_
  refine gX6 X hP 2 (v := .ref (g.2.2 0)) rfl (by decide) rfl wd_299 dX6_ask_1 ?_
  refine lv_iload_n hx hb dX6_ask_4 rfl (lv_at hl 1 rfl) ?_
  obtain ⟨x1, hh2, hg8, hf7⟩ := bd_some hf
  refine x_ci (x_runV (As := [.int a1]) (rest := []) X hP hS 0 (by decide) (cl_E (⟨rfl, by decide⟩ : isE 0)) rfl (tX2_isSheet l X.2.2.2.2.2.2.1 (⟨rfl, by decide⟩ : isE 0) hg8) mi_X6_175 rfl hl.1 rfl (Nat.le_of_ble_eq_true rfl) dX6_ask_5 ⟨Nat.le_of_ble_eq_true rfl, Nat.le_of_ble_eq_true rfl⟩ ⟨Nat.zero_le _, Nat.zero_le _⟩) hS (fun H3 lc4 hP5 hS6 => ?_)
  clear hf hP hS hg8
  refine lv_if_eq (tgt := 20) hx hb dX6_ask_8 (by decide) (fun c9 => ?_) (fun c9 => ?_)
  · have hf10 := if_at_t c9 hf7
    clear hf7
    refine lv_ldc (v := -1000001) hx hb X.2.2.2.1 (X.2.2.2.2.1 _ wd_335) dX6_ask_20 ?_
    obtain ⟨rfl, rfl⟩ := ret_inj hf10
    exact x_iret X hr hlocks hP5 hS6 dX6_ask_22
  · have hf11 := if_at_f c9 hf7
    clear hf7
    refine lv_iload_n hx hb dX6_ask_11 rfl (lv_at hl 2 rfl) ?_
    refine lv_iconst (v := 0) hx hb dX6_ask_12 (by decide) ?_
    refine lv_iconst (v := 1) hx hb dX6_ask_13 (by decide) ?_
    obtain ⟨x12, hh13, hg19, hf18⟩ := bd_some hf11
    refine x_ci (x_runS (As := [.int a2, .int (0 : Int32), .int (1 : Int32)]) (rest := []) X hP5 hS6 (tX6_isWithin l X.2.2.2.2.2.2.1  hg19) mi_X6_59 rfl hl.1 rfl (Nat.le_of_ble_eq_true rfl) dX6_ask_14 ⟨Nat.le_of_ble_eq_true rfl, Nat.le_of_ble_eq_true rfl⟩ ⟨Nat.zero_le _, Nat.zero_le _⟩) hS6 (fun H14 lc15 hP16 hS17 => ?_)
    clear hf11 hP5 hS6 hg19
    refine lv_if_ne (tgt := 23) hx hb dX6_ask_17 (by decide) (fun c20 => ?_) (fun c20 => ?_)
    · have hf21 := if_at_f c20 hf18
      clear hf18
      refine lv_aload_n hx hb dX6_ask_23 rfl (lv_at hl 0 rfl) ?_
      refine gX6 X hP16 6 (v := .ref (g.2.2 228)) rfl (by decide) rfl wd_303 dX6_ask_24 ?_
      refine lv_aload_n hx hb dX6_ask_27 rfl (lv_at hl 0 rfl) ?_
      refine gX6 X hP16 2 (v := .ref (g.2.2 0)) rfl (by decide) rfl wd_299 dX6_ask_28 ?_
      refine lv_iload_n hx hb dX6_ask_31 rfl (lv_at hl 1 rfl) ?_
      refine lv_iload_n hx hb dX6_ask_32 rfl (lv_at hl 2 rfl) ?_
      obtain ⟨x22, hh23, hg29, hf28⟩ := bd_some hf21
      refine x_ci (x_runV (As := [.ref (g.2.2 0), .int a1, .int a2]) (rest := []) X hP16 hS17 228 (by decide) cl_As rfl (tX1_askOf l X.2.2.2.2.2.2.1 (⟨rfl, by decide⟩ : isE 0) hg29) mi_X6_294 rfl hl.1 rfl (Nat.le_of_ble_eq_true rfl) dX6_ask_33 ⟨Nat.le_of_ble_eq_true rfl, Nat.le_of_ble_eq_true rfl⟩ ⟨Nat.zero_le _, Nat.zero_le _⟩) hS17 (fun H24 lc25 hP26 hS27 => ?_)
      clear hf21 hP16 hS17 hg29
      obtain ⟨rfl, rfl⟩ := ret_inj hf28
      exact x_iret X hr hlocks hP26 hS27 dX6_ask_36
    · have hf30 := if_at_t c20 hf18
      clear hf18
      refine lv_ldc (v := -1000001) hx hb X.2.2.2.1 (X.2.2.2.2.1 _ wd_335) dX6_ask_20 ?_
      obtain ⟨rfl, rfl⟩ := ret_inj hf30
      exact x_iret X hr hlocks hP16 hS17 dX6_ask_22
set_option maxRecDepth 100000 in
set_option maxHeartbeats 4000000 in
theorem tX6_trace (l : Launch) {g : Gx} (hI : InjG g) {h k h1 : Hp} {a1 : Int32} {r : Int32}   (hf : fX6_trace a1 h = some (r, h1)) : CI l yX6_trace cX6_trace 2 (some .int) 1 g [.ref (g.2.2 203), .int a1] h k h1 k r := by
  refine Met.ofW (cc := cX6_trace) (maxL := 2) (ret := (some .int)) (by decide) rfl ?_
  intro p en s m args below meth c s₁ B hml hv
  obtain ⟨rfl, hSK, hSH, hP⟩ := hv
  have X : Cx p s m _ c cX6_trace 2 RX6 g := ⟨B.exec, B.bytes, hml, findClass_of_methodNamed B.named, fun w hw => atoms_spec (ws := wsy yX6_trace cX6_trace 2 (some .int)) B.pre w (List.mem_cons_of_mem _ hw), hSK, hI, hSH⟩
  have hr := B.returns
  have hlocks := B.notSynchronized
  have hx := X.1
  have hb := X.2.1
  have hS : va_S (inA g) s.heap s.heap [] := va_S.rf
  clear hSK hSH hml B
  have hl := lv_entry ([.ref (g.2.2 203), .int a1]) (n := 2) (Nat.le_of_ble_eq_true rfl)
  rw [lg_entry_eq]
  generalize (lg_sl ([.ref (g.2.2 203), .int a1]) ++ List.replicate (2 - (lg_sl ([.ref (g.2.2 203), .int a1])).length) Slot.unset).toArray = ls at hl ⊢
  have hl : lv_has ls 2 [(0, .ref (g.2.2 203)), (1, .int a1)] := hl
  generalize ([.ref (g.2.2 203), .int a1] : List Value).toArray = args at X ⊢
  show W p l en (rmD 1) s m args below meth c s.heap [] 0 0 (MQ below (QI g h1 k r) args s 0 0 (inA g)) (F0 m 0 ls [])
  unfold fX6_trace at hf
  refine lv_iload_n hx hb dX6_trace_0 rfl (lv_at hl 1 rfl) ?_
  refine lv_iconst (v := 0) hx hb dX6_trace_1 (by decide) ?_
  refine lv_aload_n hx hb dX6_trace_2 rfl (lv_at hl 0 rfl) ?_
  refine gX6 X hP 6 (v := .ref (g.2.2 228)) rfl (by decide) rfl wd_303 dX6_trace_3 ?_
  refine gX1 X hP 1 (v := .int (h 228 1)) rfl (by decide) rfl wd_268 dX6_trace_6 ?_
  refine lv_iconst (v := 1) hx hb dX6_trace_9 (by decide) ?_
  refine lv_isub hx hb dX6_trace_10 ?_
  obtain ⟨x1, hh2, hg8, hf7⟩ := bd_some hf
  refine x_ci (x_runS (As := [.int a1, .int (0 : Int32), .int ((h 228 1) - (1 : Int32))]) (rest := []) X hP hS (tX6_isWithin l X.2.2.2.2.2.2.1  hg8) mi_X6_59 rfl hl.1 rfl (Nat.le_of_ble_eq_true rfl) dX6_trace_11 ⟨Nat.le_of_ble_eq_true rfl, Nat.le_of_ble_eq_true rfl⟩ ⟨Nat.zero_le _, Nat.zero_le _⟩) hS (fun H3 lc4 hP5 hS6 => ?_)
  clear hf hP hS hg8
  refine lv_if_eq (tgt := 29) hx hb dX6_trace_14 (by decide) (fun c9 => ?_) (fun c9 => ?_)
  · have hf10 := if_at_t c9 hf7
    clear hf7
    refine lv_ldc (v := -1000000) hx hb X.2.2.2.1 (X.2.2.2.2.1 _ wd_643) dX6_trace_29 ?_
    obtain ⟨rfl, rfl⟩ := ret_inj hf10
    exact x_iret X hr hlocks hP5 hS6 dX6_trace_31
  · have hf11 := if_at_f c9 hf7
    clear hf7
    refine lv_aload_n hx hb dX6_trace_17 rfl (lv_at hl 0 rfl) ?_
    refine gX6 X hP5 6 (v := .ref (g.2.2 228)) rfl (by decide) rfl wd_303 dX6_trace_18 ?_
    refine gX1 X hP5 0 (v := .ref (g.2.2 229)) rfl (by decide) rfl wd_266 dX6_trace_21 ?_
    refine lv_iload_n hx hb dX6_trace_24 rfl (lv_at hl 1 rfl) ?_
    obtain ⟨hc12, hf13⟩ := chk_some hf11
    refine x_ildC X hP5 229 rfl hc12 dX6_trace_25 ?_
    refine lv_goto (tgt := 31) hx hb dX6_trace_26 (by decide) ?_
    obtain ⟨rfl, rfl⟩ := ret_inj hf13
    exact x_iret X hr hlocks hP5 hS6 dX6_trace_31
set_option maxRecDepth 100000 in
set_option maxHeartbeats 4000000 in
theorem wX6_rowsThere_L4 {p : Program} {l : Launch} {en : Env} {s : State} {m : MethodId} {args : Array Value} {below : List Frame} {meth : Method} {c : Code} {g : Gx} (X : Cx p s m args c cX6_rowsThere 3 RX6 g) (hr : meth.sig.returnType = (some .int)) (hlocks : meth.locks = false) {k h1 : Hp} {r : Int32}   
     :
    ∀ (n : Nat) (v1 : Int32) (v2 : Int32) (h : Hp) (H : Heap) (locs : List Loc) (ls : Array Slot), fX6_rowsThere_L4 n v1 v2 h = some (r, h1) → va_P g.1 vwCl (WW g h k) H → va_S (inA g) s.heap H locs → lv_has ls 3 [(0, .ref (g.2.2 203)), (1, .int v1), (2, .int v2)] → W p l en (rmD 0) s m args below meth c H locs 0 0 (MQ below (QI g h1 k r) args s 0 0 (inA g)) (F0 m 4 ls []) := by
  have hx := X.1
  have hb := X.2.1
  intro n
  induction n with
  | zero => intro v1 v2 h H locs ls  hf; simp only [fX6_rowsThere_L4, reduceCtorEq] at hf
  | succ n ih =>
    intro v1 v2 h H locs ls  hf hP hS hl
    rw [fX6_rowsThere_L4] at hf
    refine lv_iload_n hx hb dX6_rowsThere_4 rfl (lv_at hl 2 rfl) ?_
    refine lv_bipush (v := 8) hx hb dX6_rowsThere_5 (by decide) ?_
    refine lv_icmp_ge (tgt := 36) hx hb dX6_rowsThere_7 (by decide) (fun c5 => ?_) (fun c5 => ?_)
    · have hf6 := if_at_t c5 hf
      clear hf
      refine lv_iload_n hx hb dX6_rowsThere_36 rfl (lv_at hl 1 rfl) ?_
      obtain ⟨rfl, rfl⟩ := ret_inj hf6
      exact x_iret X hr hlocks hP hS dX6_rowsThere_37
    · have hf7 := if_at_f c5 hf
      clear hf
      refine lv_iload_n hx hb dX6_rowsThere_10 rfl (lv_at hl 1 rfl) ?_
      refine lv_aload_n hx hb dX6_rowsThere_11 rfl (lv_at hl 0 rfl) ?_
      refine gX6 X hP 0 (v := .ref (g.2.2 204)) rfl (by decide) rfl wd_297 dX6_rowsThere_12 ?_
      refine lv_iload_n hx hb dX6_rowsThere_15 rfl (lv_at hl 2 rfl) ?_
      obtain ⟨hc8, hf9⟩ := chk_some hf7
      refine x_rows X hP hc8 dX6_rowsThere_16 ?_
      refine gX5 X hP (isR_row hc8) 1 (v := .int (h (230 + 2 * v2.toNatClampNeg) 1)) rfl (by decide) rfl wd_283 dX6_rowsThere_17 ?_
      obtain ⟨J28_10, eJ28_10, hf27⟩ := jp_at hf9
      clear hf9
      have hJ28_10 : ∀ (J28_10s0 : Int32) (hh11 : Hp) (H12 : Heap) (lc13 : List Loc) (ls14 : Array Slot), J28_10 J28_10s0 hh11 = some (r, h1) → va_P g.1 vwCl (WW g hh11 k) H12 → va_S (inA g) s.heap H12 lc13 → lv_has ls14 3 [(0, .ref (g.2.2 203)), (2, .int v2)] → W p l en (rmD 0) s m args below meth c H12 lc13 0 0 (MQ below (QI g h1 k r) args s 0 0 (inA g)) (F0 m 28 ls14 [.int J28_10s0, .int v1]) := by
        intro J28_10s0 hh11 H12 lc13 ls14 hf18 hP15 hS16 hl17
        clear hf27 hP hS hl
        subst eJ28_10
        refine lv_iadd hx hb dX6_rowsThere_28 ?_
        refine lv_topi (fun x19 ex19 => ?_)
        have hf20 := lk_at ex19 hf18
        clear hf18
        refine lv_istore_n (lv' := [(1, .int x19), (0, .ref (g.2.2 203)), (2, .int v2)]) hx hb dX6_rowsThere_29 rfl hl17 (by decide) rfl (fun ls21 hl22 => ?_)
        clear hl17
        obtain ⟨x23, ex23⟩ : ∃ q : Int32, q = v2 + (1 : Int32) := ⟨_, rfl⟩
        have hf24 := lk_at ex23 hf20
        clear hf20
        refine lv_iinc (v := x23) (lv' := [(2, .int x23), (1, .int x19), (0, .ref (g.2.2 203))]) hx hb dX6_rowsThere_30 hl22 (k := 2) rfl (by rw [ex23]; rfl) (by decide) rfl (fun ls25 hl26 => ?_)
        clear hl22
        refine lv_goto (tgt := 4) hx hb dX6_rowsThere_33 (by decide) ?_
        exact ih x19 x23 hh11  _ _ _ hf24 hP15 hS16 (lv_sub hl26 [2, 1, 0] rfl)
      clear eJ28_10
      refine lv_if_eq (tgt := 27) hx hb dX6_rowsThere_20 (by decide) (fun c28 => ?_) (fun c28 => ?_)
      · have hf29 := if_at_t c28 hf27
        clear hf27
        refine lv_iconst (v := 1) hx hb dX6_rowsThere_27 (by decide) ?_
        exact hJ28_10 (1 : Int32) h  _ _ _ hf29 hP hS (lv_sub hl [0, 2] rfl)
      · have hf30 := if_at_f c28 hf27
        clear hf27
        refine lv_iconst (v := 0) hx hb dX6_rowsThere_23 (by decide) ?_
        refine lv_goto (tgt := 28) hx hb dX6_rowsThere_24 (by decide) ?_
        exact hJ28_10 (0 : Int32) h  _ _ _ hf30 hP hS (lv_sub hl [0, 2] rfl)
set_option maxRecDepth 100000 in
set_option maxHeartbeats 4000000 in
theorem tX6_rowsThere (l : Launch) {g : Gx} (hI : InjG g) {h k h1 : Hp}  {r : Int32}   (hf : fX6_rowsThere h = some (r, h1)) : CI l yX6_rowsThere cX6_rowsThere 3 (some .int) 0 g [.ref (g.2.2 203)] h k h1 k r := by
  refine Met.ofW (cc := cX6_rowsThere) (maxL := 3) (ret := (some .int)) (by decide) rfl ?_
  intro p en s m args below meth c s₁ B hml hv
  obtain ⟨rfl, hSK, hSH, hP⟩ := hv
  have X : Cx p s m _ c cX6_rowsThere 3 RX6 g := ⟨B.exec, B.bytes, hml, findClass_of_methodNamed B.named, fun w hw => atoms_spec (ws := wsy yX6_rowsThere cX6_rowsThere 3 (some .int)) B.pre w (List.mem_cons_of_mem _ hw), hSK, hI, hSH⟩
  have hr := B.returns
  have hlocks := B.notSynchronized
  have hx := X.1
  have hb := X.2.1
  have hS : va_S (inA g) s.heap s.heap [] := va_S.rf
  clear hSK hSH hml B
  have hl := lv_entry ([.ref (g.2.2 203)]) (n := 3) (Nat.le_of_ble_eq_true rfl)
  rw [lg_entry_eq]
  generalize (lg_sl ([.ref (g.2.2 203)]) ++ List.replicate (3 - (lg_sl ([.ref (g.2.2 203)])).length) Slot.unset).toArray = ls at hl ⊢
  have hl : lv_has ls 3 [(0, .ref (g.2.2 203))] := hl
  generalize ([.ref (g.2.2 203)] : List Value).toArray = args at X ⊢
  show W p l en (rmD 0) s m args below meth c s.heap [] 0 0 (MQ below (QI g h1 k r) args s 0 0 (inA g)) (F0 m 0 ls [])
  unfold fX6_rowsThere at hf
  refine lv_iconst (v := 0) hx hb dX6_rowsThere_0 (by decide) ?_
  refine lv_istore_n (lv' := [(1, .int (0 : Int32)), (0, .ref (g.2.2 203))]) hx hb dX6_rowsThere_1 rfl hl (by decide) rfl (fun ls1 hl2 => ?_)
  clear hl
  refine lv_iconst (v := 0) hx hb dX6_rowsThere_2 (by decide) ?_
  refine lv_istore_n (lv' := [(2, .int (0 : Int32)), (1, .int (0 : Int32)), (0, .ref (g.2.2 203))]) hx hb dX6_rowsThere_3 rfl hl2 (by decide) rfl (fun ls3 hl4 => ?_)
  clear hl2
  refine wX6_rowsThere_L4 X hr hlocks   4096 (0 : Int32) (0 : Int32) h _ _ _  hf hP hS (lv_sub hl4 [2, 1, 0] rfl)
set_option maxRecDepth 100000 in
set_option maxHeartbeats 4000000 in
theorem tX6_count (l : Launch) {g : Gx} (hI : InjG g) {h k h1 : Hp} {a1 : Int32} {r : Int32}   (hf : fX6_count a1 h = some (r, h1)) : CI l yX6_count cX6_count 2 (some .int) 1 g [.ref (g.2.2 203), .int a1] h k h1 k r := by
  refine Met.ofW (cc := cX6_count) (maxL := 2) (ret := (some .int)) (by decide) rfl ?_
  intro p en s m args below meth c s₁ B hml hv
  obtain ⟨rfl, hSK, hSH, hP⟩ := hv
  have X : Cx p s m _ c cX6_count 2 RX6 g := ⟨B.exec, B.bytes, hml, findClass_of_methodNamed B.named, fun w hw => atoms_spec (ws := wsy yX6_count cX6_count 2 (some .int)) B.pre w (List.mem_cons_of_mem _ hw), hSK, hI, hSH⟩
  have hr := B.returns
  have hlocks := B.notSynchronized
  have hx := X.1
  have hb := X.2.1
  have hS : va_S (inA g) s.heap s.heap [] := va_S.rf
  clear hSK hSH hml B
  have hl := lv_entry ([.ref (g.2.2 203), .int a1]) (n := 2) (Nat.le_of_ble_eq_true rfl)
  rw [lg_entry_eq]
  generalize (lg_sl ([.ref (g.2.2 203), .int a1]) ++ List.replicate (2 - (lg_sl ([.ref (g.2.2 203), .int a1])).length) Slot.unset).toArray = ls at hl ⊢
  have hl : lv_has ls 2 [(0, .ref (g.2.2 203)), (1, .int a1)] := hl
  generalize ([.ref (g.2.2 203), .int a1] : List Value).toArray = args at X ⊢
  show W p l en (rmD 1) s m args below meth c s.heap [] 0 0 (MQ below (QI g h1 k r) args s 0 0 (inA g)) (F0 m 0 ls [])
  unfold fX6_count at hf
  refine lv_iload_n hx hb dX6_count_0 rfl (lv_at hl 1 rfl) ?_
  by_cases c1 : a1 = (0 : Int32)
  · have hf2 := if_at_t c1 hf
    clear hf
    refine lv_tableIn (tgt := 48) hx hb dX6_count_1 (by rw [c1]; decide) (by rw [c1]; decide) (by rw [c1]; rfl) (by decide) ?_
    refine lv_aload_n hx hb dX6_count_48 rfl (lv_at hl 0 rfl) ?_
    obtain ⟨x4, hh5, hg11, hf10⟩ := bd_some hf2
    refine x_ci (x_runV (As := []) (rest := []) X hP hS 203 (by decide) cl_F rfl (tX6_rowsThere l X.2.2.2.2.2.2.1  hg11) mi_X6_303 rfl hl.1 rfl (Nat.le_of_ble_eq_true rfl) dX6_count_49 ⟨Nat.le_of_ble_eq_true rfl, Nat.le_of_ble_eq_true rfl⟩ ⟨Nat.zero_le _, Nat.zero_le _⟩) hS (fun H6 lc7 hP8 hS9 => ?_)
    clear hf2 hP hS hg11
    obtain ⟨rfl, rfl⟩ := ret_inj hf10
    exact x_iret X hr hlocks hP8 hS9 dX6_count_52
  · have hf3 := if_at_f c1 hf
    clear hf
    by_cases c12 : a1 = (1 : Int32)
    · have hf13 := if_at_t c12 hf3
      clear hf3
      refine lv_tableIn (tgt := 53) hx hb dX6_count_1 (by rw [c12]; decide) (by rw [c12]; decide) (by rw [c12]; rfl) (by decide) ?_
      refine lv_aload_n hx hb dX6_count_53 rfl (lv_at hl 0 rfl) ?_
      refine gX6 X hP 2 (v := .ref (g.2.2 0)) rfl (by decide) rfl wd_299 dX6_count_54 ?_
      refine gX2 X hP (⟨rfl, by decide⟩ : isE 0) 12 (v := .int (h 0 12)) rfl (by decide) rfl wd_135 dX6_count_57 ?_
      obtain ⟨rfl, rfl⟩ := ret_inj hf13
      exact x_iret X hr hlocks hP hS dX6_count_60
    · have hf14 := if_at_f c12 hf3
      clear hf3
      by_cases c15 : a1 = (2 : Int32)
      · have hf16 := if_at_t c15 hf14
        clear hf14
        refine lv_tableIn (tgt := 61) hx hb dX6_count_1 (by rw [c15]; decide) (by rw [c15]; decide) (by rw [c15]; rfl) (by decide) ?_
        refine lv_aload_n hx hb dX6_count_61 rfl (lv_at hl 0 rfl) ?_
        refine gX6 X hP 2 (v := .ref (g.2.2 0)) rfl (by decide) rfl wd_299 dX6_count_62 ?_
        refine gX2 X hP (⟨rfl, by decide⟩ : isE 0) 11 (v := .int (h 0 11)) rfl (by decide) rfl wd_132 dX6_count_65 ?_
        obtain ⟨rfl, rfl⟩ := ret_inj hf16
        exact x_iret X hr hlocks hP hS dX6_count_68
      · have hf17 := if_at_f c15 hf14
        clear hf14
        by_cases c18 : a1 = (3 : Int32)
        · have hf19 := if_at_t c18 hf17
          clear hf17
          refine lv_tableIn (tgt := 69) hx hb dX6_count_1 (by rw [c18]; decide) (by rw [c18]; decide) (by rw [c18]; rfl) (by decide) ?_
          refine lv_aload_n hx hb dX6_count_69 rfl (lv_at hl 0 rfl) ?_
          refine gX6 X hP 2 (v := .ref (g.2.2 0)) rfl (by decide) rfl wd_299 dX6_count_70 ?_
          refine gX2 X hP (⟨rfl, by decide⟩ : isE 0) 13 (v := .int (h 0 13)) rfl (by decide) rfl wd_138 dX6_count_73 ?_
          obtain ⟨rfl, rfl⟩ := ret_inj hf19
          exact x_iret X hr hlocks hP hS dX6_count_76
        · have hf20 := if_at_f c18 hf17
          clear hf17
          by_cases c21 : a1 = (4 : Int32)
          · have hf22 := if_at_t c21 hf20
            clear hf20
            refine lv_tableIn (tgt := 77) hx hb dX6_count_1 (by rw [c21]; decide) (by rw [c21]; decide) (by rw [c21]; rfl) (by decide) ?_
            refine lv_aload_n hx hb dX6_count_77 rfl (lv_at hl 0 rfl) ?_
            refine gX6 X hP 2 (v := .ref (g.2.2 0)) rfl (by decide) rfl wd_299 dX6_count_78 ?_
            refine gX2 X hP (⟨rfl, by decide⟩ : isE 0) 15 (v := .int (h 0 15)) rfl (by decide) rfl wd_143 dX6_count_81 ?_
            obtain ⟨rfl, rfl⟩ := ret_inj hf22
            exact x_iret X hr hlocks hP hS dX6_count_84
          · have hf23 := if_at_f c21 hf20
            clear hf20
            by_cases c24 : a1 = (5 : Int32)
            · have hf25 := if_at_t c24 hf23
              clear hf23
              refine lv_tableIn (tgt := 85) hx hb dX6_count_1 (by rw [c24]; decide) (by rw [c24]; decide) (by rw [c24]; rfl) (by decide) ?_
              refine lv_aload_n hx hb dX6_count_85 rfl (lv_at hl 0 rfl) ?_
              refine gX6 X hP 2 (v := .ref (g.2.2 0)) rfl (by decide) rfl wd_299 dX6_count_86 ?_
              refine gX2 X hP (⟨rfl, by decide⟩ : isE 0) 14 (v := .int (h 0 14)) rfl (by decide) rfl wd_141 dX6_count_89 ?_
              obtain ⟨x27, hh28, hg34, hf33⟩ := bd_some hf25
              refine x_ci (x_runS (As := [.int (h 0 14)]) (rest := []) X hP hS (tJ6_bitCount l X.2.2.2.2.2.2.1  hg34) mi_X6_256 rfl hl.1 rfl (Nat.le_of_ble_eq_true rfl) dX6_count_92 ⟨Nat.le_of_ble_eq_true rfl, Nat.le_of_ble_eq_true rfl⟩ ⟨Nat.zero_le _, Nat.zero_le _⟩) hS (fun H29 lc30 hP31 hS32 => ?_)
              clear hf25 hP hS hg34
              obtain ⟨rfl, rfl⟩ := ret_inj hf33
              exact x_iret X hr hlocks hP31 hS32 dX6_count_95
            · have hf26 := if_at_f c24 hf23
              clear hf23
              by_cases c35 : a1 = (6 : Int32)
              · have hf36 := if_at_t c35 hf26
                clear hf26
                refine lv_tableIn (tgt := 96) hx hb dX6_count_1 (by rw [c35]; decide) (by rw [c35]; decide) (by rw [c35]; rfl) (by decide) ?_
                refine lv_aload_n hx hb dX6_count_96 rfl (lv_at hl 0 rfl) ?_
                refine gX6 X hP 3 (v := .ref (g.2.2 207)) rfl (by decide) rfl wd_300 dX6_count_97 ?_
                refine gX0 X hP 2 (v := .int (h 207 2)) rfl (by decide) rfl wd_222 dX6_count_100 ?_
                obtain ⟨rfl, rfl⟩ := ret_inj hf36
                exact x_iret X hr hlocks hP hS dX6_count_103
              · have hf37 := if_at_f c35 hf26
                clear hf26
                by_cases c38 : a1 = (7 : Int32)
                · have hf39 := if_at_t c38 hf37
                  clear hf37
                  refine lv_tableIn (tgt := 104) hx hb dX6_count_1 (by rw [c38]; decide) (by rw [c38]; decide) (by rw [c38]; rfl) (by decide) ?_
                  refine lv_aload_n hx hb dX6_count_104 rfl (lv_at hl 0 rfl) ?_
                  refine gX6 X hP 1 (v := .ref (g.2.2 205)) rfl (by decide) rfl wd_298 dX6_count_105 ?_
                  refine gX4 X hP 1 (v := .int (h 205 1)) rfl (by decide) rfl wd_182 dX6_count_108 ?_
                  obtain ⟨rfl, rfl⟩ := ret_inj hf39
                  exact x_iret X hr hlocks hP hS dX6_count_111
                · have hf40 := if_at_f c38 hf37
                  clear hf37
                  have q0 := sw_ne (j := 0) rfl c1
                  have q1 := sw_ne (j := 1) rfl c12
                  have q2 := sw_ne (j := 2) rfl c15
                  have q3 := sw_ne (j := 3) rfl c18
                  have q4 := sw_ne (j := 4) rfl c21
                  have q5 := sw_ne (j := 5) rfl c24
                  have q6 := sw_ne (j := 6) rfl c35
                  have q7 := sw_ne (j := 7) rfl c38
                  refine lv_tableOut (tgt := 112) hx hb dX6_count_1 (by omega) (by decide) ?_
                  clear q0 q1 q2 q3 q4 q5 q6 q7
                  refine lv_ldc (v := -1000001) hx hb X.2.2.2.1 (X.2.2.2.2.1 _ wd_335) dX6_count_112 ?_
                  obtain ⟨rfl, rfl⟩ := ret_inj hf40
                  exact x_iret X hr hlocks hP hS dX6_count_114
set_option maxRecDepth 100000 in
set_option maxHeartbeats 4000000 in
theorem tX6_status (l : Launch) {g : Gx} (hI : InjG g) {h k h1 : Hp}  {r : Int32}   (hf : fX6_status h = some (r, h1)) : CI l yX6_status cX6_status 1 (some .int) 0 g [.ref (g.2.2 203)] h k h1 k r := by
  refine Met.ofW (cc := cX6_status) (maxL := 1) (ret := (some .int)) (by decide) rfl ?_
  intro p en s m args below meth c s₁ B hml hv
  obtain ⟨rfl, hSK, hSH, hP⟩ := hv
  have X : Cx p s m _ c cX6_status 1 RX6 g := ⟨B.exec, B.bytes, hml, findClass_of_methodNamed B.named, fun w hw => atoms_spec (ws := wsy yX6_status cX6_status 1 (some .int)) B.pre w (List.mem_cons_of_mem _ hw), hSK, hI, hSH⟩
  have hr := B.returns
  have hlocks := B.notSynchronized
  have hx := X.1
  have hb := X.2.1
  have hS : va_S (inA g) s.heap s.heap [] := va_S.rf
  clear hSK hSH hml B
  have hl := lv_entry ([.ref (g.2.2 203)]) (n := 1) (Nat.le_of_ble_eq_true rfl)
  rw [lg_entry_eq]
  generalize (lg_sl ([.ref (g.2.2 203)]) ++ List.replicate (1 - (lg_sl ([.ref (g.2.2 203)])).length) Slot.unset).toArray = ls at hl ⊢
  have hl : lv_has ls 1 [(0, .ref (g.2.2 203))] := hl
  generalize ([.ref (g.2.2 203)] : List Value).toArray = args at X ⊢
  show W p l en (rmD 0) s m args below meth c s.heap [] 0 0 (MQ below (QI g h1 k r) args s 0 0 (inA g)) (F0 m 0 ls [])
  unfold fX6_status at hf
  refine lv_aload_n hx hb dX6_status_0 rfl (lv_at hl 0 rfl) ?_
  refine gX6 X hP 8 (v := .int (h 203 8)) rfl (by decide) rfl wd_305 dX6_status_1 ?_
  obtain ⟨rfl, rfl⟩ := ret_inj hf
  exact x_iret X hr hlocks hP hS dX6_status_4
