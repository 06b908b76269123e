set_option maxRecDepth 100000 in
set_option maxHeartbeats 4000000 in
theorem tX7_in (l : Launch) {g : Gx} (hI : InjG g) {h k k1 : Hp} {a1 : Int64} {a2 : Int64} {a3 : Int64} {r : Int32}   (hf : fX7_in a1 a2 a3 k = some (r, k1)) : CI l yX7_in cX7_in 6 (some .boolean) 0 g [.long a1, .long a2, .long a3] h k h k1 r := by
  refine Met.ofW (cc := cX7_in) (maxL := 6) (ret := (some .boolean)) (by decide) rfl ?_
  intro p en s m args below meth c s₁ B hml hv
  obtain ⟨rfl, hSK, hSH, hP⟩ := hv
  have X : Cx p s m _ c cX7_in 6 RX7 g := ⟨B.exec, B.bytes, hml, findClass_of_methodNamed B.named, fun w hw => atoms_spec (ws := wsy yX7_in cX7_in 6 (some .boolean)) B.pre w (List.mem_cons_of_mem _ hw), hSK, hI, hSH⟩
  have hr := B.returns
  have hlocks := B.notSynchronized
  have hx := X.1
  have hb := X.2.1
  have hS : va_S (inA g) s.heap s.heap [] := va_S.rf
  clear hSK hSH hml B
  have hl := lv_entry ([.long a1, .long a2, .long a3]) (n := 6) (Nat.le_of_ble_eq_true rfl)
  rw [lg_entry_eq]
  generalize (lg_sl ([.long a1, .long a2, .long a3]) ++ List.replicate (6 - (lg_sl ([.long a1, .long a2, .long a3])).length) Slot.unset).toArray = ls at hl ⊢
  have hl : lv_has ls 6 [(0, .long a1), (2, .long a2), (4, .long a3)] := hl
  generalize ([.long a1, .long a2, .long a3] : List Value).toArray = args at X ⊢
  show W p l en (rmD 0) s m args below meth c s.heap [] 0 0 (MQ below (QI g h k1 r) args s 0 0 (inA g)) (F0 m 0 ls [])
  unfold fX7_in at hf
  refine lv_lload_n hx hb dX7_in_0 rfl (lv_at hl 0 rfl) ?_
  refine lv_lload_n hx hb dX7_in_1 rfl (lv_at hl 1 rfl) ?_
  refine W.lcmp hx hb dX7_in_2 ?_
  refine lv_if_lt (tgt := 17) hx hb dX7_in_3 (by decide) (fun c1 => ?_) (fun c1 => ?_)
  · have hf2 := if_at_t c1 hf
    clear hf
    refine lv_iconst (v := 0) hx hb dX7_in_17 (by decide) ?_
    obtain ⟨rfl, rfl⟩ := ret_inj hf2
    exact x_zret X hr hlocks rfl hP hS dX7_in_18
  · have hf3 := if_at_f c1 hf
    clear hf
    refine lv_lload_n hx hb dX7_in_6 rfl (lv_at hl 0 rfl) ?_
    refine lv_lload hx hb dX7_in_7 (lv_at hl 2 rfl) ?_
    refine W.lcmp hx hb dX7_in_9 ?_
    refine lv_if_gt (tgt := 17) hx hb dX7_in_10 (by decide) (fun c4 => ?_) (fun c4 => ?_)
    · have hf5 := if_at_t c4 hf3
      clear hf3
      refine lv_iconst (v := 0) hx hb dX7_in_17 (by decide) ?_
      obtain ⟨rfl, rfl⟩ := ret_inj hf5
      exact x_zret X hr hlocks rfl hP hS dX7_in_18
    · have hf6 := if_at_f c4 hf3
      clear hf3
      refine lv_iconst (v := 1) hx hb dX7_in_13 (by decide) ?_
      refine lv_goto (tgt := 18) hx hb dX7_in_14 (by decide) ?_
      obtain ⟨rfl, rfl⟩ := ret_inj hf6
      exact x_zret X hr hlocks rfl hP hS dX7_in_18
set_option maxRecDepth 100000 in
set_option maxHeartbeats 4000000 in
theorem tX7_finding (l : Launch) {g : Gx} (hI : InjG g) {h k k1 : Hp} {a1 : Int32} {r : Int32}   (hf : fX7_finding a1 k = some (r, k1)) : CI l yX7_finding cX7_finding 2 (some .int) 0 g [.ref (g.2.2 246), .int a1] h k h k1 r := by
  refine Met.ofW (cc := cX7_finding) (maxL := 2) (ret := (some .int)) (by decide) rfl ?_
  intro p en s m args below meth c s₁ B hml hv
  obtain ⟨rfl, hSK, hSH, hP⟩ := hv
  have X : Cx p s m _ c cX7_finding 2 RX7 g := ⟨B.exec, B.bytes, hml, findClass_of_methodNamed B.named, fun w hw => atoms_spec (ws := wsy yX7_finding cX7_finding 2 (some .int)) B.pre w (List.mem_cons_of_mem _ hw), hSK, hI, hSH⟩
  have hr := B.returns
  have hlocks := B.notSynchronized
  have hx := X.1
  have hb := X.2.1
  have hS : va_S (inA g) s.heap s.heap [] := va_S.rf
  clear hSK hSH hml B
  have hl := lv_entry ([.ref (g.2.2 246), .int a1]) (n := 2) (Nat.le_of_ble_eq_true rfl)
  rw [lg_entry_eq]
  generalize (lg_sl ([.ref (g.2.2 246), .int a1]) ++ List.replicate (2 - (lg_sl ([.ref (g.2.2 246), .int a1])).length) Slot.unset).toArray = ls at hl ⊢
  have hl : lv_has ls 2 [(0, .ref (g.2.2 246)), (1, .int a1)] := hl
  generalize ([.ref (g.2.2 246), .int a1] : List Value).toArray = args at X ⊢
  show W p l en (rmD 0) s m args below meth c s.heap [] 0 0 (MQ below (QI g h k1 r) args s 0 0 (inA g)) (F0 m 0 ls [])
  unfold fX7_finding at hf
  refine lv_aload_n hx hb dX7_finding_0 rfl (lv_at hl 0 rfl) ?_
  refine lv_iload_n hx hb dX7_finding_1 rfl (lv_at hl 1 rfl) ?_
  refine pX7 X hP hS 1 (by decide) rfl wd_884 rfl rfl rfl rfl seX7_1 dX7_finding_2 (fun H1 lc2 kk3 ekk3 hP4 hS5 => ?_)
  have hf6 := lk_at ekk3 hf
  clear hf hP hS
  refine lv_ldc (v := -1000010) hx hb X.2.2.2.1 (X.2.2.2.2.1 _ wd_974) dX7_finding_5 ?_
  refine lv_iload_n hx hb dX7_finding_7 rfl (lv_at hl 1 rfl) ?_
  refine lv_isub hx hb dX7_finding_8 ?_
  obtain ⟨rfl, rfl⟩ := ret_inj hf6
  exact x_iret X hr hlocks hP4 hS5 dX7_finding_9
set_option maxRecDepth 100000 in
set_option maxHeartbeats 4000000 in
theorem tX7_isRow (l : Launch) {g : Gx} (hI : InjG g) {h k k1 : Hp} {a1 : Int32} {r : Int32}   (hf : fX7_isRow a1 k = some (r, k1)) : CI l yX7_isRow cX7_isRow 1 (some .boolean) 1 g [.int a1] h k h k1 r := by
  refine Met.ofW (cc := cX7_isRow) (maxL := 1) (ret := (some .boolean)) (by decide) rfl ?_
  intro p en s m args below meth c s₁ B hml hv
  obtain ⟨rfl, hSK, hSH, hP⟩ := hv
  have X : Cx p s m _ c cX7_isRow 1 RX7 g := ⟨B.exec, B.bytes, hml, findClass_of_methodNamed B.named, fun w hw => atoms_spec (ws := wsy yX7_isRow cX7_isRow 1 (some .boolean)) B.pre w (List.mem_cons_of_mem _ hw), hSK, hI, hSH⟩
  have hr := B.returns
  have hlocks := B.notSynchronized
  have hx := X.1
  have hb := X.2.1
  have hS : va_S (inA g) s.heap s.heap [] := va_S.rf
  clear hSK hSH hml B
  have hl := lv_entry ([.int a1]) (n := 1) (Nat.le_of_ble_eq_true rfl)
  rw [lg_entry_eq]
  generalize (lg_sl ([.int a1]) ++ List.replicate (1 - (lg_sl ([.int a1])).length) Slot.unset).toArray = ls at hl ⊢
  have hl : lv_has ls 1 [(0, .int a1)] := hl
  generalize ([.int a1] : List Value).toArray = args at X ⊢
  show W p l en (rmD 1) s m args below meth c s.heap [] 0 0 (MQ below (QI g h k1 r) args s 0 0 (inA g)) (F0 m 0 ls [])
  unfold fX7_isRow at hf
  refine lv_iload_n hx hb dX7_isRow_0 rfl (lv_at hl 0 rfl) ?_
  refine lv_i2l hx hb dX7_isRow_1 rfl ?_
  refine lv_lconst (v := 0) hx hb dX7_isRow_2 (by decide) ?_
  refine lv_ldc2 (v := 7) hx hb X.2.2.2.1 (X.2.2.2.2.1 _ wd_964) dX7_isRow_3 ?_
  obtain ⟨x1, kk2, hg8, hf7⟩ := bd_some hf
  refine x_ci (x_runS (As := [.long a1.toInt64, .long (0 : Int64), .long (7 : Int64)]) (rest := []) X hP hS (tX7_in l X.2.2.2.2.2.2.1  hg8) mi_X7_57 rfl hl.1 rfl (Nat.le_of_ble_eq_true rfl) dX7_isRow_6 ⟨Nat.le_of_ble_eq_true rfl, Nat.le_of_ble_eq_true rfl⟩ ⟨Nat.zero_le _, Nat.zero_le _⟩) hS (fun H3 lc4 hP5 hS6 => ?_)
  clear hf hP hS hg8
  obtain ⟨hc9, hf10⟩ := chk_some hf7
  obtain ⟨rfl, rfl⟩ := ret_inj hf10
  exact x_zret X hr hlocks hc9 hP5 hS6 dX7_isRow_9
set_option maxRecDepth 100000 in
set_option maxHeartbeats 4000000 in
theorem wX7_row_L65 {p : Program} {l : Launch} {en : Env} {s : State} {m : MethodId} {args : Array Value} {below : List Frame} {meth : Method} {c : Code} {g : Gx} (X : Cx p s m args c cX7_row 5 RX7 g) (hr : meth.sig.returnType = (some .int)) (hlocks : meth.locks = false) {h k1 : Hp} {r : Int32} {v1 : Int32} {v3 : Int32}  
     :
    ∀ (n : Nat) (v4 : Int32) (k : Hp) (H : Heap) (locs : List Loc) (ls : Array Slot), fX7_row_L65 n v1 v3 v4 k = some (r, k1) → va_P g.1 vwCl (WW g h k) H → va_S (inA g) s.heap H locs → lv_has ls 5 [(0, .ref (g.2.2 246)), (1, .int v1), (3, .int v3), (4, .int v4)] → W p l en (rmD 2) s m args below meth c H locs 0 0 (MQ below (QI g h k1 r) args s 0 0 (inA g)) (F0 m 65 ls []) := by
  have hx := X.1
  have hb := X.2.1
  intro n
  induction n with
  | zero => intro v4 k H locs ls  hf; simp only [fX7_row_L65, reduceCtorEq] at hf
  | succ n ih =>
    intro v4 k H locs ls  hf hP hS hl
    rw [fX7_row_L65] at hf
    refine lv_iload hx hb dX7_row_65 (lv_at hl 3 rfl) ?_
    refine lv_bipush (v := 40) hx hb dX7_row_67 (by decide) ?_
    refine lv_icmp_ge (tgt := 91) hx hb dX7_row_69 (by decide) (fun c57 => ?_) (fun c57 => ?_)
    · have hf58 := if_at_t c57 hf
      clear hf
      refine lv_iload_n hx hb dX7_row_91 rfl (lv_at hl 2 rfl) ?_
      obtain ⟨rfl, rfl⟩ := ret_inj hf58
      exact x_iret X hr hlocks hP hS dX7_row_92
    · have hf59 := if_at_f c57 hf
      clear hf
      refine lv_aload_n hx hb dX7_row_72 rfl (lv_at hl 0 rfl) ?_
      refine gX7 X hP 4 (v := .ref (g.2.2 249)) rfl (by decide) rfl wd_887 dX7_row_73 ?_
      refine lv_bipush (v := 40) hx hb dX7_row_76 (by decide) ?_
      refine lv_iload_n hx hb dX7_row_78 rfl (lv_at hl 1 rfl) ?_
      refine lv_imul hx hb dX7_row_79 ?_
      refine lv_iload hx hb dX7_row_80 (lv_at hl 3 rfl) ?_
      refine lv_iadd hx hb dX7_row_82 ?_
      refine lv_iconst (v := 0) hx hb dX7_row_83 (by decide) ?_
      obtain ⟨hc60, hf61⟩ := chk_some hf59
      refine x_istM X hP hS 249 rfl hc60 dX7_row_84 (fun H62 lc63 kk64 ekk64 hP65 hS66 => ?_)
      have hf67 := lk_at ekk64 hf61
      clear hf61 hP hS
      obtain ⟨x68, ex68⟩ : ∃ q : Int32, q = v4 + (1 : Int32) := ⟨_, rfl⟩
      have hf69 := lk_at ex68 hf67
      clear hf67
      refine lv_iinc (v := x68) (lv' := [(4, .int x68), (0, .ref (g.2.2 246)), (1, .int v1), (3, .int v3)]) hx hb dX7_row_85 hl (k := 3) rfl (by rw [ex68]; rfl) (by decide) rfl (fun ls70 hl71 => ?_)
      clear hl
      refine lv_goto (tgt := 65) hx hb dX7_row_88 (by decide) ?_
      exact ih x68 kk64  _ _ _ hf69 hP65 hS66 (lv_sub hl71 [1, 2, 3, 0] rfl)
set_option maxRecDepth 100000 in
set_option maxHeartbeats 4000000 in
theorem tX7_row (l : Launch) {g : Gx} (hI : InjG g) {h k k1 : Hp} {a1 : Int32} {a2 : Int32} {a3 : Int32} {r : Int32}   (hf : fX7_row a1 a2 a3 k = some (r, k1)) : CI l yX7_row cX7_row 5 (some .int) 2 g [.ref (g.2.2 246), .int a1, .int a2, .int a3] h k h k1 r := by
  refine Met.ofW (cc := cX7_row) (maxL := 5) (ret := (some .int)) (by decide) rfl ?_
  intro p en s m args below meth c s₁ B hml hv
  obtain ⟨rfl, hSK, hSH, hP⟩ := hv
  have X : Cx p s m _ c cX7_row 5 RX7 g := ⟨B.exec, B.bytes, hml, findClass_of_methodNamed B.named, fun w hw => atoms_spec (ws := wsy yX7_row cX7_row 5 (some .int)) B.pre w (List.mem_cons_of_mem _ hw), hSK, hI, hSH⟩
  have hr := B.returns
  have hlocks := B.notSynchronized
  have hx := X.1
  have hb := X.2.1
  have hS : va_S (inA g) s.heap s.heap [] := va_S.rf
  clear hSK hSH hml B
  have hl := lv_entry ([.ref (g.2.2 246), .int a1, .int a2, .int a3]) (n := 5) (Nat.le_of_ble_eq_true rfl)
  rw [lg_entry_eq]
  generalize (lg_sl ([.ref (g.2.2 246), .int a1, .int a2, .int a3]) ++ List.replicate (5 - (lg_sl ([.ref (g.2.2 246), .int a1, .int a2, .int a3])).length) Slot.unset).toArray = ls at hl ⊢
  have hl : lv_has ls 5 [(0, .ref (g.2.2 246)), (1, .int a1), (2, .int a2), (3, .int a3)] := hl
  generalize ([.ref (g.2.2 246), .int a1, .int a2, .int a3] : List Value).toArray = args at X ⊢
  show W p l en (rmD 2) s m args below meth c s.heap [] 0 0 (MQ below (QI g h k1 r) args s 0 0 (inA g)) (F0 m 0 ls [])
  unfold fX7_row at hf
  refine lv_aload_n hx hb dX7_row_0 rfl (lv_at hl 0 rfl) ?_
  refine lv_iconst (v := 0) hx hb dX7_row_1 (by decide) ?_
  refine pX7 X hP hS 0 (by decide) rfl wd_883 rfl rfl rfl rfl seX7_0 dX7_row_2 (fun H1 lc2 kk3 ekk3 hP4 hS5 => ?_)
  have hf6 := lk_at ekk3 hf
  clear hf hP hS
  refine lv_iload_n hx hb dX7_row_5 rfl (lv_at hl 1 rfl) ?_
  obtain ⟨x7, kk8, hg14, hf13⟩ := bd_some hf6
  refine x_ci (x_runS (As := [.int a1]) (rest := []) X hP4 hS5 (tX7_isRow l X.2.2.2.2.2.2.1  hg14) mi_X7_61 rfl hl.1 rfl (Nat.le_of_ble_eq_true rfl) dX7_row_6 ⟨Nat.le_of_ble_eq_true rfl, Nat.le_of_ble_eq_true rfl⟩ ⟨Nat.zero_le _, Nat.zero_le _⟩) hS5 (fun H9 lc10 hP11 hS12 => ?_)
  clear hf6 hP4 hS5 hg14
  refine lv_if_eq (tgt := 30) hx hb dX7_row_9 (by decide) (fun c15 => ?_) (fun c15 => ?_)
  · have hf16 := if_at_t c15 hf13
    clear hf13
    refine lv_ldc (v := -1000001) hx hb X.2.2.2.1 (X.2.2.2.2.1 _ wd_969) dX7_row_30 ?_
    obtain ⟨rfl, rfl⟩ := ret_inj hf16
    exact x_iret X hr hlocks hP11 hS12 dX7_row_32
  · have hf17 := if_at_f c15 hf13
    clear hf13
    refine lv_iload_n hx hb dX7_row_12 rfl (lv_at hl 2 rfl) ?_
    refine lv_i2l hx hb dX7_row_13 rfl ?_
    refine lv_lconst (v := 0) hx hb dX7_row_14 (by decide) ?_
    refine lv_ldc2 (v := 2) hx hb X.2.2.2.1 (X.2.2.2.2.1 _ wd_968) dX7_row_15 ?_
    obtain ⟨x18, kk19, hg25, hf24⟩ := bd_some hf17
    refine x_ci (x_runS (As := [.long a2.toInt64, .long (0 : Int64), .long (2 : Int64)]) (rest := []) X hP11 hS12 (tX7_in l X.2.2.2.2.2.2.1  hg25) mi_X7_57 rfl hl.1 rfl (Nat.le_of_ble_eq_true rfl) dX7_row_18 ⟨Nat.le_of_ble_eq_true rfl, Nat.le_of_ble_eq_true rfl⟩ ⟨Nat.zero_le _, Nat.zero_le _⟩) hS12 (fun H20 lc21 hP22 hS23 => ?_)
    clear hf17 hP11 hS12 hg25
    refine lv_if_eq (tgt := 30) hx hb dX7_row_21 (by decide) (fun c26 => ?_) (fun c26 => ?_)
    · have hf27 := if_at_t c26 hf24
      clear hf24
      refine lv_ldc (v := -1000001) hx hb X.2.2.2.1 (X.2.2.2.2.1 _ wd_969) dX7_row_30 ?_
      obtain ⟨rfl, rfl⟩ := ret_inj hf27
      exact x_iret X hr hlocks hP22 hS23 dX7_row_32
    · have hf28 := if_at_f c26 hf24
      clear hf24
      refine lv_iload_n hx hb dX7_row_24 rfl (lv_at hl 3 rfl) ?_
      refine lv_bipush (v := 40) hx hb dX7_row_25 (by decide) ?_
      refine lv_icmp_le (tgt := 33) hx hb dX7_row_27 (by decide) (fun c29 => ?_) (fun c29 => ?_)
      · have hf30 := if_at_t c29 hf28
        clear hf28
        refine lv_aload_n hx hb dX7_row_33 rfl (lv_at hl 0 rfl) ?_
        refine lv_iconst (v := 0) hx hb dX7_row_34 (by decide) ?_
        refine pX7 X hP22 hS23 1 (by decide) rfl wd_884 rfl rfl rfl rfl seX7_1 dX7_row_35 (fun H31 lc32 kk33 ekk33 hP34 hS35 => ?_)
        have hf36 := lk_at ekk33 hf30
        clear hf30 hP22 hS23
        refine lv_iload_n hx hb dX7_row_38 rfl (lv_at hl 3 rfl) ?_
        refine lv_if_ge (tgt := 48) hx hb dX7_row_39 (by decide) (fun c37 => ?_) (fun c37 => ?_)
        · have hf38 := if_at_t c37 hf36
          clear hf36
          refine lv_aload_n hx hb dX7_row_48 rfl (lv_at hl 0 rfl) ?_
          refine gX7 X hP34 2 (v := .ref (g.2.2 247)) rfl (by decide) rfl wd_885 dX7_row_49 ?_
          refine lv_iload_n hx hb dX7_row_52 rfl (lv_at hl 1 rfl) ?_
          refine lv_iload_n hx hb dX7_row_53 rfl (lv_at hl 2 rfl) ?_
          obtain ⟨hc39, hf40⟩ := chk_some hf38
          refine x_istM X hP34 hS35 247 rfl hc39 dX7_row_54 (fun H41 lc42 kk43 ekk43 hP44 hS45 => ?_)
          have hf46 := lk_at ekk43 hf40
          clear hf40 hP34 hS35
          refine lv_aload_n hx hb dX7_row_55 rfl (lv_at hl 0 rfl) ?_
          refine gX7 X hP44 3 (v := .ref (g.2.2 248)) rfl (by decide) rfl wd_886 dX7_row_56 ?_
          refine lv_iload_n hx hb dX7_row_59 rfl (lv_at hl 1 rfl) ?_
          refine lv_iload_n hx hb dX7_row_60 rfl (lv_at hl 3 rfl) ?_
          obtain ⟨hc47, hf48⟩ := chk_some hf46
          refine x_istM X hP44 hS45 248 rfl hc47 dX7_row_61 (fun H49 lc50 kk51 ekk51 hP52 hS53 => ?_)
          have hf54 := lk_at ekk51 hf48
          clear hf48 hP44 hS45
          refine lv_iconst (v := 0) hx hb dX7_row_62 (by decide) ?_
          refine lv_istore (lv' := [(4, .int (0 : Int32)), (0, .ref (g.2.2 246)), (1, .int a1), (2, .int a2), (3, .int a3)]) hx hb dX7_row_63 hl (by decide) rfl (fun ls55 hl56 => ?_)
          clear hl
          refine wX7_row_L65 X hr hlocks   4096 (0 : Int32) kk51 _ _ _  hf54 hP52 hS53 (lv_sub hl56 [1, 2, 4, 0] rfl)
        · have hf72 := if_at_f c37 hf36
          clear hf36
          refine lv_aload_n hx hb dX7_row_42 rfl (lv_at hl 0 rfl) ?_
          refine lv_iconst (v := 4) hx hb dX7_row_43 (by decide) ?_
          obtain ⟨x73, kk74, hg80, hf79⟩ := bd_some hf72
          refine x_ci (x_runV (As := [.int (4 : Int32)]) (rest := []) X hP34 hS35 246 (by decide) cl_M rfl (tX7_finding l X.2.2.2.2.2.2.1  hg80) mi_X7_68 rfl hl.1 rfl (Nat.le_of_ble_eq_true rfl) dX7_row_44 ⟨Nat.le_of_ble_eq_true rfl, Nat.le_of_ble_eq_true rfl⟩ ⟨Nat.zero_le _, Nat.zero_le _⟩) hS35 (fun H75 lc76 hP77 hS78 => ?_)
          clear hf72 hP34 hS35 hg80
          obtain ⟨rfl, rfl⟩ := ret_inj hf79
          exact x_iret X hr hlocks hP77 hS78 dX7_row_47
      · have hf81 := if_at_f c29 hf28
        clear hf28
        refine lv_ldc (v := -1000001) hx hb X.2.2.2.1 (X.2.2.2.2.1 _ wd_969) dX7_row_30 ?_
        obtain ⟨rfl, rfl⟩ := ret_inj hf81
        exact x_iret X hr hlocks hP22 hS23 dX7_row_32
set_option maxRecDepth 100000 in
set_option maxHeartbeats 4000000 in
theorem tX7_set (l : Launch) {g : Gx} (hI : InjG g) {h k k1 : Hp} {a1 : Int32} {a2 : Int32} {a3 : Int32} {r : Int32}   (hf : fX7_set a1 a2 a3 k = some (r, k1)) : CI l yX7_set cX7_set 4 (some .int) 2 g [.ref (g.2.2 246), .int a1, .int a2, .int a3] h k h k1 r := by
  refine Met.ofW (cc := cX7_set) (maxL := 4) (ret := (some .int)) (by decide) rfl ?_
  intro p en s m args below meth c s₁ B hml hv
  obtain ⟨rfl, hSK, hSH, hP⟩ := hv
  have X : Cx p s m _ c cX7_set 4 RX7 g := ⟨B.exec, B.bytes, hml, findClass_of_methodNamed B.named, fun w hw => atoms_spec (ws := wsy yX7_set cX7_set 4 (some .int)) B.pre w (List.mem_cons_of_mem _ hw), hSK, hI, hSH⟩
  have hr := B.returns
  have hlocks := B.notSynchronized
  have hx := X.1
  have hb := X.2.1
  have hS : va_S (inA g) s.heap s.heap [] := va_S.rf
  clear hSK hSH hml B
  have hl := lv_entry ([.ref (g.2.2 246), .int a1, .int a2, .int a3]) (n := 4) (Nat.le_of_ble_eq_true rfl)
  rw [lg_entry_eq]
  generalize (lg_sl ([.ref (g.2.2 246), .int a1, .int a2, .int a3]) ++ List.replicate (4 - (lg_sl ([.ref (g.2.2 246), .int a1, .int a2, .int a3])).length) Slot.unset).toArray = ls at hl ⊢
  have hl : lv_has ls 4 [(0, .ref (g.2.2 246)), (1, .int a1), (2, .int a2), (3, .int a3)] := hl
  generalize ([.ref (g.2.2 246), .int a1, .int a2, .int a3] : List Value).toArray = args at X ⊢
  show W p l en (rmD 2) s m args below meth c s.heap [] 0 0 (MQ below (QI g h k1 r) args s 0 0 (inA g)) (F0 m 0 ls [])
  unfold fX7_set at hf
  refine lv_aload_n hx hb dX7_set_0 rfl (lv_at hl 0 rfl) ?_
  refine lv_iconst (v := 0) hx hb dX7_set_1 (by decide) ?_
  refine pX7 X hP hS 0 (by decide) rfl wd_883 rfl rfl rfl rfl seX7_0 dX7_set_2 (fun H1 lc2 kk3 ekk3 hP4 hS5 => ?_)
  have hf6 := lk_at ekk3 hf
  clear hf hP hS
  refine lv_iload_n hx hb dX7_set_5 rfl (lv_at hl 1 rfl) ?_
  obtain ⟨x7, kk8, hg14, hf13⟩ := bd_some hf6
  refine x_ci (x_runS (As := [.int a1]) (rest := []) X hP4 hS5 (tX7_isRow l X.2.2.2.2.2.2.1  hg14) mi_X7_61 rfl hl.1 rfl (Nat.le_of_ble_eq_true rfl) dX7_set_6 ⟨Nat.le_of_ble_eq_true rfl, Nat.le_of_ble_eq_true rfl⟩ ⟨Nat.zero_le _, Nat.zero_le _⟩) hS5 (fun H9 lc10 hP11 hS12 => ?_)
  clear hf6 hP4 hS5 hg14
  refine lv_if_ne (tgt := 15) hx hb dX7_set_9 (by decide) (fun c15 => ?_) (fun c15 => ?_)
  · have hf16 := if_at_f c15 hf13
    clear hf13
    refine lv_aload_n hx hb dX7_set_15 rfl (lv_at hl 0 rfl) ?_
    refine lv_iconst (v := 0) hx hb dX7_set_16 (by decide) ?_
    refine pX7 X hP11 hS12 1 (by decide) rfl wd_884 rfl rfl rfl rfl seX7_1 dX7_set_17 (fun H17 lc18 kk19 ekk19 hP20 hS21 => ?_)
    have hf22 := lk_at ekk19 hf16
    clear hf16 hP11 hS12
    refine lv_aload_n hx hb dX7_set_20 rfl (lv_at hl 0 rfl) ?_
    refine gX7 X hP20 2 (v := .ref (g.2.2 247)) rfl (by decide) rfl wd_885 dX7_set_21 ?_
    refine lv_iload_n hx hb dX7_set_24 rfl (lv_at hl 1 rfl) ?_
    obtain ⟨hc23, hf24⟩ := chk_some hf22
    refine x_ildM X hP20 247 rfl hc23 dX7_set_25 ?_
    refine lv_if_ge (tgt := 35) hx hb dX7_set_26 (by decide) (fun c25 => ?_) (fun c25 => ?_)
    · have hf26 := if_at_t c25 hf24
      clear hf24
      refine lv_iload_n hx hb dX7_set_35 rfl (lv_at hl 2 rfl) ?_
      refine lv_i2l hx hb dX7_set_36 rfl ?_
      refine lv_lconst (v := 0) hx hb dX7_set_37 (by decide) ?_
      refine lv_aload_n hx hb dX7_set_38 rfl (lv_at hl 0 rfl) ?_
      refine gX7 X hP20 3 (v := .ref (g.2.2 248)) rfl (by decide) rfl wd_886 dX7_set_39 ?_
      refine lv_iload_n hx hb dX7_set_42 rfl (lv_at hl 1 rfl) ?_
      obtain ⟨hc27, hf28⟩ := chk_some hf26
      refine x_ildM X hP20 248 rfl hc27 dX7_set_43 ?_
      refine lv_iconst (v := 1) hx hb dX7_set_44 (by decide) ?_
      refine lv_isub hx hb dX7_set_45 ?_
      refine lv_i2l hx hb dX7_set_46 rfl ?_
      obtain ⟨x29, kk30, hg36, hf35⟩ := bd_some hf28
      refine x_ci (x_runS (As := [.long a2.toInt64, .long (0 : Int64), .long (((kk19 248 a1.toNatClampNeg) - (1 : Int32)).toInt64)]) (rest := []) X hP20 hS21 (tX7_in l X.2.2.2.2.2.2.1  hg36) mi_X7_57 rfl hl.1 rfl (Nat.le_of_ble_eq_true rfl) dX7_set_47 ⟨Nat.le_of_ble_eq_true rfl, Nat.le_of_ble_eq_true rfl⟩ ⟨Nat.zero_le _, Nat.zero_le _⟩) hS21 (fun H31 lc32 hP33 hS34 => ?_)
      clear hf28 hP20 hS21 hg36
      refine lv_if_ne (tgt := 59) hx hb dX7_set_50 (by decide) (fun c37 => ?_) (fun c37 => ?_)
      · have hf38 := if_at_f c37 hf35
        clear hf35
        refine lv_aload_n hx hb dX7_set_59 rfl (lv_at hl 0 rfl) ?_
        refine gX7 X hP33 4 (v := .ref (g.2.2 249)) rfl (by decide) rfl wd_887 dX7_set_60 ?_
        refine lv_bipush (v := 40) hx hb dX7_set_63 (by decide) ?_
        refine lv_iload_n hx hb dX7_set_65 rfl (lv_at hl 1 rfl) ?_
        refine lv_imul hx hb dX7_set_66 ?_
        refine lv_iload_n hx hb dX7_set_67 rfl (lv_at hl 2 rfl) ?_
        refine lv_iadd hx hb dX7_set_68 ?_
        refine lv_aload_n hx hb dX7_set_69 rfl (lv_at hl 0 rfl) ?_
        refine gX7 X hP33 2 (v := .ref (g.2.2 247)) rfl (by decide) rfl wd_885 dX7_set_70 ?_
        refine lv_iload_n hx hb dX7_set_73 rfl (lv_at hl 1 rfl) ?_
        obtain ⟨hc39, hf40⟩ := chk_some hf38
        refine x_ildM X hP33 247 rfl hc39 dX7_set_74 ?_
        obtain ⟨J99_41, eJ99_41, hf60⟩ := jp_at hf40
        clear hf40
        have hJ99_41 : ∀ (J99_41s0 : Int32) (kk42 : Hp) (H43 : Heap) (lc44 : List Loc) (ls45 : Array Slot), J99_41 J99_41s0 kk42 = some (r, k1) → va_P g.1 vwCl (WW g h kk42) H43 → va_S (inA g) s.heap H43 lc44 → lv_has ls45 4 [(0, .ref (g.2.2 246)), (1, .int a1), (2, .int a2)] → W p l en (rmD 2) s m args below meth c H43 lc44 0 0 (MQ below (QI g h k1 r) args s 0 0 (inA g)) (F0 m 99 ls45 [.int J99_41s0, .int (((40 : Int32) * a1) + a2), .ref (g.2.2 249)]) := by
          intro J99_41s0 kk42 H43 lc44 ls45 hf49 hP46 hS47 hl48
          clear hf60 hP33 hS34 hl
          subst eJ99_41
          obtain ⟨hc50, hf51⟩ := chk_some hf49
          refine x_istM X hP46 hS47 249 rfl hc50 dX7_set_99 (fun H52 lc53 kk54 ekk54 hP55 hS56 => ?_)
          have hf57 := lk_at ekk54 hf51
          clear hf51 hP46 hS47
          refine lv_aload_n hx hb dX7_set_100 rfl (lv_at hl48 0 rfl) ?_
          refine gX7 X hP55 4 (v := .ref (g.2.2 249)) rfl (by decide) rfl wd_887 dX7_set_101 ?_
          refine lv_bipush (v := 40) hx hb dX7_set_104 (by decide) ?_
          refine lv_iload_n hx hb dX7_set_106 rfl (lv_at hl48 1 rfl) ?_
          refine lv_imul hx hb dX7_set_107 ?_
          refine lv_iload_n hx hb dX7_set_108 rfl (lv_at hl48 2 rfl) ?_
          refine lv_iadd hx hb dX7_set_109 ?_
          obtain ⟨hc58, hf59⟩ := chk_some hf57
          refine x_ildM X hP55 249 rfl hc58 dX7_set_110 ?_
          obtain ⟨rfl, rfl⟩ := ret_inj hf59
          exact x_iret X hr hlocks hP55 hS56 dX7_set_111
        clear eJ99_41
        refine lv_if_ne (tgt := 83) hx hb dX7_set_75 (by decide) (fun c61 => ?_) (fun c61 => ?_)
        · have hf62 := if_at_f c61 hf60
          clear hf60
          refine lv_aload_n hx hb dX7_set_83 rfl (lv_at hl 0 rfl) ?_
          refine gX7 X hP33 2 (v := .ref (g.2.2 247)) rfl (by decide) rfl wd_885 dX7_set_84 ?_
          refine lv_iload_n hx hb dX7_set_87 rfl (lv_at hl 1 rfl) ?_
          obtain ⟨hc63, hf64⟩ := chk_some hf62
          refine x_ildM X hP33 247 rfl hc63 dX7_set_88 ?_
          refine lv_iconst (v := 1) hx hb dX7_set_89 (by decide) ?_
          refine lv_icmp_ne (tgt := 98) hx hb dX7_set_90 (by decide) (fun c65 => ?_) (fun c65 => ?_)
          · have hf66 := if_at_f c65 hf64
            clear hf64
            refine lv_iload_n hx hb dX7_set_98 rfl (lv_at hl 3 rfl) ?_
            exact hJ99_41 a3 kk30  _ _ _ hf66 hP33 hS34 (lv_sub hl [0, 1, 2] rfl)
          · have hf67 := if_at_t c65 hf64
            clear hf64
            refine lv_iload_n hx hb dX7_set_93 rfl (lv_at hl 3 rfl) ?_
            refine lv_i2s hx hb dX7_set_94 rfl ?_
            refine lv_goto (tgt := 99) hx hb dX7_set_95 (by decide) ?_
            exact hJ99_41 a3.toInt16.toInt32 kk30  _ _ _ hf67 hP33 hS34 (lv_sub hl [0, 1, 2] rfl)
        · have hf68 := if_at_t c61 hf60
          clear hf60
          refine lv_iload_n hx hb dX7_set_78 rfl (lv_at hl 3 rfl) ?_
          refine lv_i2b hx hb dX7_set_79 rfl ?_
          refine lv_goto (tgt := 99) hx hb dX7_set_80 (by decide) ?_
          exact hJ99_41 a3.toInt8.toInt32 kk30  _ _ _ hf68 hP33 hS34 (lv_sub hl [0, 1, 2] rfl)
      · have hf69 := if_at_t c37 hf35
        clear hf35
        refine lv_aload_n hx hb dX7_set_53 rfl (lv_at hl 0 rfl) ?_
        refine lv_iconst (v := 2) hx hb dX7_set_54 (by decide) ?_
        obtain ⟨x70, kk71, hg77, hf76⟩ := bd_some hf69
        refine x_ci (x_runV (As := [.int (2 : Int32)]) (rest := []) X hP33 hS34 246 (by decide) cl_M rfl (tX7_finding l X.2.2.2.2.2.2.1  hg77) mi_X7_68 rfl hl.1 rfl (Nat.le_of_ble_eq_true rfl) dX7_set_55 ⟨Nat.le_of_ble_eq_true rfl, Nat.le_of_ble_eq_true rfl⟩ ⟨Nat.zero_le _, Nat.zero_le _⟩) hS34 (fun H72 lc73 hP74 hS75 => ?_)
        clear hf69 hP33 hS34 hg77
        obtain ⟨rfl, rfl⟩ := ret_inj hf76
        exact x_iret X hr hlocks hP74 hS75 dX7_set_58
    · have hf78 := if_at_f c25 hf24
      clear hf24
      refine lv_aload_n hx hb dX7_set_29 rfl (lv_at hl 0 rfl) ?_
      refine lv_iconst (v := 1) hx hb dX7_set_30 (by decide) ?_
      obtain ⟨x79, kk80, hg86, hf85⟩ := bd_some hf78
      refine x_ci (x_runV (As := [.int (1 : Int32)]) (rest := []) X hP20 hS21 246 (by decide) cl_M rfl (tX7_finding l X.2.2.2.2.2.2.1  hg86) mi_X7_68 rfl hl.1 rfl (Nat.le_of_ble_eq_true rfl) dX7_set_31 ⟨Nat.le_of_ble_eq_true rfl, Nat.le_of_ble_eq_true rfl⟩ ⟨Nat.zero_le _, Nat.zero_le _⟩) hS21 (fun H81 lc82 hP83 hS84 => ?_)
      clear hf78 hP20 hS21 hg86
      obtain ⟨rfl, rfl⟩ := ret_inj hf85
      exact x_iret X hr hlocks hP83 hS84 dX7_set_34
  · have hf87 := if_at_t c15 hf13
    clear hf13
    refine lv_ldc (v := -1000001) hx hb X.2.2.2.1 (X.2.2.2.2.1 _ wd_969) dX7_set_12 ?_
    obtain ⟨rfl, rfl⟩ := ret_inj hf87
    exact x_iret X hr hlocks hP11 hS12 dX7_set_14
set_option maxRecDepth 100000 in
set_option maxHeartbeats 4000000 in
theorem wX7_copy_L143 {p : Program} {l : Launch} {en : Env} {s : State} {m : MethodId} {args : Array Value} {below : List Frame} {meth : Method} {c : Code} {g : Gx} (X : Cx p s m args c cX7_copy 9 RX7 g) (hr : meth.sig.returnType = (some .int)) (hlocks : meth.locks = false) {h k1 : Hp} {r : Int32} {v1 : Int32} {v2 : Int32} {v3 : Int32} {v4 : Int32} {v5 : Int32} {v6 : Int32}  
     :
    ∀ (n : Nat) (v7 : Int32) (k : Hp) (H : Heap) (locs : List Loc) (ls : Array Slot), fX7_copy_L143 n v1 v2 v3 v4 v5 v6 v7 k = some (r, k1) → va_P g.1 vwCl (WW g h k) H → va_S (inA g) s.heap H locs → lv_has ls 9 [(0, .ref (g.2.2 246)), (1, .int v1), (2, .int v2), (3, .int v3), (4, .int v4), (5, .int v5), (6, .int v6), (7, .int v7)] → W p l en (rmD 2) s m args below meth c H locs 0 0 (MQ below (QI g h k1 r) args s 0 0 (inA g)) (F0 m 143 ls []) := by
  have hx := X.1
  have hb := X.2.1
  intro n
  induction n with
  | zero => intro v7 k H locs ls  hf; simp only [fX7_copy_L143, reduceCtorEq] at hf
  | succ n ih =>
    intro v7 k H locs ls  hf hP hS hl
    rw [fX7_copy_L143] at hf
    refine lv_iload hx hb dX7_copy_143 (lv_at hl 7 rfl) ?_
    refine lv_iload hx hb dX7_copy_145 (lv_at hl 5 rfl) ?_
    refine lv_icmp_ge (tgt := 204) hx hb dX7_copy_147 (by decide) (fun c116 => ?_) (fun c116 => ?_)
    · have hf117 := if_at_t c116 hf
      clear hf
      refine lv_iload hx hb dX7_copy_204 (lv_at hl 5 rfl) ?_
      obtain ⟨rfl, rfl⟩ := ret_inj hf117
      exact x_iret X hr hlocks hP hS dX7_copy_206
    · have hf118 := if_at_f c116 hf
      clear hf
      refine lv_iload hx hb dX7_copy_150 (lv_at hl 6 rfl) ?_
      obtain ⟨J167_119, eJ167_119, hf144⟩ := jp_at hf118
      clear hf118
      have hJ167_119 : ∀ (J167_119s0 : Int32) (kk120 : Hp) (H121 : Heap) (lc122 : List Loc) (ls123 : Array Slot), J167_119 J167_119s0 kk120 = some (r, k1) → va_P g.1 vwCl (WW g h kk120) H121 → va_S (inA g) s.heap H121 lc122 → lv_has ls123 9 [(0, .ref (g.2.2 246)), (1, .int v1), (2, .int v2), (3, .int v3), (4, .int v4), (5, .int v5), (6, .int v6), (7, .int v7)] → W p l en (rmD 2) s m args below meth c H121 lc122 0 0 (MQ below (QI g h k1 r) args s 0 0 (inA g)) (F0 m 167 ls123 [.int J167_119s0]) := by
        intro J167_119s0 kk120 H121 lc122 ls123 hf127 hP124 hS125 hl126
        clear hf144 hP hS hl
        subst eJ167_119
        refine lv_istore (lv' := [(8, .int J167_119s0), (0, .ref (g.2.2 246)), (1, .int v1), (2, .int v2), (3, .int v3), (4, .int v4), (5, .int v5), (6, .int v6), (7, .int v7)]) hx hb dX7_copy_167 hl126 (by decide) rfl (fun ls128 hl129 => ?_)
        clear hl126
        refine lv_aload_n hx hb dX7_copy_169 rfl (lv_at hl129 1 rfl) ?_
        refine gX7 X hP124 4 (v := .ref (g.2.2 249)) rfl (by decide) rfl wd_887 dX7_copy_170 ?_
        refine lv_bipush (v := 40) hx hb dX7_copy_173 (by decide) ?_
        refine lv_iload_n hx hb dX7_copy_175 rfl (lv_at hl129 4 rfl) ?_
        refine lv_imul hx hb dX7_copy_176 ?_
        refine lv_iload hx hb dX7_copy_177 (lv_at hl129 5 rfl) ?_
        refine lv_iadd hx hb dX7_copy_179 ?_
        refine lv_iload hx hb dX7_copy_180 (lv_at hl129 0 rfl) ?_
        refine lv_iadd hx hb dX7_copy_182 ?_
        refine lv_aload_n hx hb dX7_copy_183 rfl (lv_at hl129 1 rfl) ?_
        refine gX7 X hP124 4 (v := .ref (g.2.2 249)) rfl (by decide) rfl wd_887 dX7_copy_184 ?_
        refine lv_bipush (v := 40) hx hb dX7_copy_187 (by decide) ?_
        refine lv_iload_n hx hb dX7_copy_189 rfl (lv_at hl129 2 rfl) ?_
        refine lv_imul hx hb dX7_copy_190 ?_
        refine lv_iload_n hx hb dX7_copy_191 rfl (lv_at hl129 3 rfl) ?_
        refine lv_iadd hx hb dX7_copy_192 ?_
        refine lv_iload hx hb dX7_copy_193 (lv_at hl129 0 rfl) ?_
        refine lv_iadd hx hb dX7_copy_195 ?_
        obtain ⟨hc130, hf131⟩ := chk_some hf127
        refine x_ildM X hP124 249 rfl hc130 dX7_copy_196 ?_
        obtain ⟨hc132, hf133⟩ := chk_some hf131
        refine x_istM X hP124 hS125 249 rfl hc132 dX7_copy_197 (fun H134 lc135 kk136 ekk136 hP137 hS138 => ?_)
        have hf139 := lk_at ekk136 hf133
        clear hf133 hP124 hS125
        obtain ⟨x140, ex140⟩ : ∃ q : Int32, q = v7 + (1 : Int32) := ⟨_, rfl⟩
        have hf141 := lk_at ex140 hf139
        clear hf139
        refine lv_iinc (v := x140) (lv' := [(7, .int x140), (8, .int J167_119s0), (0, .ref (g.2.2 246)), (1, .int v1), (2, .int v2), (3, .int v3), (4, .int v4), (5, .int v5), (6, .int v6)]) hx hb dX7_copy_198 hl129 (k := 8) rfl (by rw [ex140]; rfl) (by decide) rfl (fun ls142 hl143 => ?_)
        clear hl129
        refine lv_goto (tgt := 143) hx hb dX7_copy_201 (by decide) ?_
        exact ih x140 kk136  _ _ _ hf141 hP137 hS138 (lv_sub hl143 [2, 3, 4, 5, 6, 7, 8, 0] rfl)
      clear eJ167_119
      refine lv_if_eq (tgt := 160) hx hb dX7_copy_152 (by decide) (fun c145 => ?_) (fun c145 => ?_)
      · have hf146 := if_at_t c145 hf144
        clear hf144
        refine lv_iload hx hb dX7_copy_160 (lv_at hl 5 rfl) ?_
        refine lv_iconst (v := 1) hx hb dX7_copy_162 (by decide) ?_
        refine lv_isub hx hb dX7_copy_163 ?_
        refine lv_iload hx hb dX7_copy_164 (lv_at hl 7 rfl) ?_
        refine lv_isub hx hb dX7_copy_166 ?_
        exact hJ167_119 ((v5 - (1 : Int32)) - v7) k  _ _ _ hf146 hP hS (lv_sub hl [0, 1, 2, 3, 4, 5, 6, 7] rfl)
      · have hf147 := if_at_f c145 hf144
        clear hf144
        refine lv_iload hx hb dX7_copy_155 (lv_at hl 7 rfl) ?_
        refine lv_goto (tgt := 167) hx hb dX7_copy_157 (by decide) ?_
        exact hJ167_119 v7 k  _ _ _ hf147 hP hS (lv_sub hl [0, 1, 2, 3, 4, 5, 6, 7] rfl)
set_option maxRecDepth 100000 in
set_option maxHeartbeats 4000000 in
theorem tX7_copy (l : Launch) {g : Gx} (hI : InjG g) {h k k1 : Hp} {a1 : Int32} {a2 : Int32} {a3 : Int32} {a4 : Int32} {a5 : Int32} {r : Int32}   (hf : fX7_copy a1 a2 a3 a4 a5 k = some (r, k1)) : CI l yX7_copy cX7_copy 9 (some .int) 2 g [.ref (g.2.2 246), .int a1, .int a2, .int a3, .int a4, .int a5] h k h k1 r := by
  refine Met.ofW (cc := cX7_copy) (maxL := 9) (ret := (some .int)) (by decide) rfl ?_
  intro p en s m args below meth c s₁ B hml hv
  obtain ⟨rfl, hSK, hSH, hP⟩ := hv
  have X : Cx p s m _ c cX7_copy 9 RX7 g := ⟨B.exec, B.bytes, hml, findClass_of_methodNamed B.named, fun w hw => atoms_spec (ws := wsy yX7_copy cX7_copy 9 (some .int)) B.pre w (List.mem_cons_of_mem _ hw), hSK, hI, hSH⟩
  have hr := B.returns
  have hlocks := B.notSynchronized
  have hx := X.1
  have hb := X.2.1
  have hS : va_S (inA g) s.heap s.heap [] := va_S.rf
  clear hSK hSH hml B
  have hl := lv_entry ([.ref (g.2.2 246), .int a1, .int a2, .int a3, .int a4, .int a5]) (n := 9) (Nat.le_of_ble_eq_true rfl)
  rw [lg_entry_eq]
  generalize (lg_sl ([.ref (g.2.2 246), .int a1, .int a2, .int a3, .int a4, .int a5]) ++ List.replicate (9 - (lg_sl ([.ref (g.2.2 246), .int a1, .int a2, .int a3, .int a4, .int a5])).length) Slot.unset).toArray = ls at hl ⊢
  have hl : lv_has ls 9 [(0, .ref (g.2.2 246)), (1, .int a1), (2, .int a2), (3, .int a3), (4, .int a4), (5, .int a5)] := hl
  generalize ([.ref (g.2.2 246), .int a1, .int a2, .int a3, .int a4, .int a5] : List Value).toArray = args at X ⊢
  show W p l en (rmD 2) s m args below meth c s.heap [] 0 0 (MQ below (QI g h k1 r) args s 0 0 (inA g)) (F0 m 0 ls [])
  unfold fX7_copy at hf
  refine lv_aload_n hx hb dX7_copy_0 rfl (lv_at hl 0 rfl) ?_
  refine lv_iconst (v := 0) hx hb dX7_copy_1 (by decide) ?_
  refine pX7 X hP hS 0 (by decide) rfl wd_883 rfl rfl rfl rfl seX7_0 dX7_copy_2 (fun H1 lc2 kk3 ekk3 hP4 hS5 => ?_)
  have hf6 := lk_at ekk3 hf
  clear hf hP hS
  refine lv_iload_n hx hb dX7_copy_5 rfl (lv_at hl 1 rfl) ?_
  obtain ⟨x7, kk8, hg14, hf13⟩ := bd_some hf6
  refine x_ci (x_runS (As := [.int a1]) (rest := []) X hP4 hS5 (tX7_isRow l X.2.2.2.2.2.2.1  hg14) mi_X7_61 rfl hl.1 rfl (Nat.le_of_ble_eq_true rfl) dX7_copy_6 ⟨Nat.le_of_ble_eq_true rfl, Nat.le_of_ble_eq_true rfl⟩ ⟨Nat.zero_le _, Nat.zero_le _⟩) hS5 (fun H9 lc10 hP11 hS12 => ?_)
  clear hf6 hP4 hS5 hg14
  refine lv_if_eq (tgt := 19) hx hb dX7_copy_9 (by decide) (fun c15 => ?_) (fun c15 => ?_)
  · have hf16 := if_at_t c15 hf13
    clear hf13
    refine lv_ldc (v := -1000001) hx hb X.2.2.2.1 (X.2.2.2.2.1 _ wd_969) dX7_copy_19 ?_
    obtain ⟨rfl, rfl⟩ := ret_inj hf16
    exact x_iret X hr hlocks hP11 hS12 dX7_copy_21
  · have hf17 := if_at_f c15 hf13
    clear hf13
    refine lv_iload_n hx hb dX7_copy_12 rfl (lv_at hl 3 rfl) ?_
    obtain ⟨x18, kk19, hg25, hf24⟩ := bd_some hf17
    refine x_ci (x_runS (As := [.int a3]) (rest := []) X hP11 hS12 (tX7_isRow l X.2.2.2.2.2.2.1  hg25) mi_X7_61 rfl hl.1 rfl (Nat.le_of_ble_eq_true rfl) dX7_copy_13 ⟨Nat.le_of_ble_eq_true rfl, Nat.le_of_ble_eq_true rfl⟩ ⟨Nat.zero_le _, Nat.zero_le _⟩) hS12 (fun H20 lc21 hP22 hS23 => ?_)
    clear hf17 hP11 hS12 hg25
    refine lv_if_ne (tgt := 22) hx hb dX7_copy_16 (by decide) (fun c26 => ?_) (fun c26 => ?_)
    · have hf27 := if_at_f c26 hf24
      clear hf24
      refine lv_aload_n hx hb dX7_copy_22 rfl (lv_at hl 0 rfl) ?_
      refine lv_iconst (v := 0) hx hb dX7_copy_23 (by decide) ?_
      refine pX7 X hP22 hS23 1 (by decide) rfl wd_884 rfl rfl rfl rfl seX7_1 dX7_copy_24 (fun H28 lc29 kk30 ekk30 hP31 hS32 => ?_)
      have hf33 := lk_at ekk30 hf27
      clear hf27 hP22 hS23
      refine lv_aload_n hx hb dX7_copy_27 rfl (lv_at hl 0 rfl) ?_
      refine gX7 X hP31 2 (v := .ref (g.2.2 247)) rfl (by decide) rfl wd_885 dX7_copy_28 ?_
      refine lv_iload_n hx hb dX7_copy_31 rfl (lv_at hl 1 rfl) ?_
      obtain ⟨hc34, hf35⟩ := chk_some hf33
      refine x_ildM X hP31 247 rfl hc34 dX7_copy_32 ?_
      obtain ⟨J45_36, eJ45_36, hf53⟩ := jp_at hf35
      clear hf35
      have hJ45_36 : ∀  (kk37 : Hp) (H38 : Heap) (lc39 : List Loc) (ls40 : Array Slot), J45_36  kk37 = some (r, k1) → va_P g.1 vwCl (WW g h kk37) H38 → va_S (inA g) s.heap H38 lc39 → lv_has ls40 9 [(0, .ref (g.2.2 246))] → W p l en (rmD 2) s m args below meth c H38 lc39 0 0 (MQ below (QI g h k1 r) args s 0 0 (inA g)) (F0 m 45 ls40 []) := by
        intro  kk37 H38 lc39 ls40 hf44 hP41 hS42 hl43
        clear hf53 hP31 hS32 hl
        subst eJ45_36
        refine lv_aload_n hx hb dX7_copy_45 rfl (lv_at hl43 0 rfl) ?_
        refine lv_iconst (v := 1) hx hb dX7_copy_46 (by decide) ?_
        obtain ⟨x45, kk46, hg52, hf51⟩ := bd_some hf44
        refine x_ci (x_runV (As := [.int (1 : Int32)]) (rest := []) X hP41 hS42 246 (by decide) cl_M rfl (tX7_finding l X.2.2.2.2.2.2.1  hg52) mi_X7_68 rfl hl43.1 rfl (Nat.le_of_ble_eq_true rfl) dX7_copy_47 ⟨Nat.le_of_ble_eq_true rfl, Nat.le_of_ble_eq_true rfl⟩ ⟨Nat.zero_le _, Nat.zero_le _⟩) hS42 (fun H47 lc48 hP49 hS50 => ?_)
        clear hf44 hP41 hS42 hg52
        obtain ⟨rfl, rfl⟩ := ret_inj hf51
        exact x_iret X hr hlocks hP49 hS50 dX7_copy_50
      clear eJ45_36
      refine lv_if_lt (tgt := 45) hx hb dX7_copy_33 (by decide) (fun c54 => ?_) (fun c54 => ?_)
      · have hf55 := if_at_t c54 hf53
        clear hf53
        exact hJ45_36 kk30  _ _ _ hf55 hP31 hS32 (lv_sub hl [0] rfl)
      · have hf56 := if_at_f c54 hf53
        clear hf53
        refine lv_aload_n hx hb dX7_copy_36 rfl (lv_at hl 0 rfl) ?_
        refine gX7 X hP31 2 (v := .ref (g.2.2 247)) rfl (by decide) rfl wd_885 dX7_copy_37 ?_
        refine lv_iload_n hx hb dX7_copy_40 rfl (lv_at hl 3 rfl) ?_
        obtain ⟨hc57, hf58⟩ := chk_some hf56
        refine x_ildM X hP31 247 rfl hc57 dX7_copy_41 ?_
        refine lv_if_ge (tgt := 51) hx hb dX7_copy_42 (by decide) (fun c59 => ?_) (fun c59 => ?_)
        · have hf60 := if_at_t c59 hf58
          clear hf58
          refine lv_aload_n hx hb dX7_copy_51 rfl (lv_at hl 0 rfl) ?_
          refine gX7 X hP31 2 (v := .ref (g.2.2 247)) rfl (by decide) rfl wd_885 dX7_copy_52 ?_
          refine lv_iload_n hx hb dX7_copy_55 rfl (lv_at hl 1 rfl) ?_
          obtain ⟨hc61, hf62⟩ := chk_some hf60
          refine x_ildM X hP31 247 rfl hc61 dX7_copy_56 ?_
          refine lv_aload_n hx hb dX7_copy_57 rfl (lv_at hl 0 rfl) ?_
          refine gX7 X hP31 2 (v := .ref (g.2.2 247)) rfl (by decide) rfl wd_885 dX7_copy_58 ?_
          refine lv_iload_n hx hb dX7_copy_61 rfl (lv_at hl 3 rfl) ?_
          obtain ⟨hc63, hf64⟩ := chk_some hf62
          refine x_ildM X hP31 247 rfl hc63 dX7_copy_62 ?_
          refine lv_icmp_eq (tgt := 72) hx hb dX7_copy_63 (by decide) (fun c65 => ?_) (fun c65 => ?_)
          · have hf66 := if_at_t c65 hf64
            clear hf64
            refine lv_iload_n hx hb dX7_copy_72 rfl (lv_at hl 2 rfl) ?_
            obtain ⟨J121_67, eJ121_67, hf84⟩ := jp_at hf66
            clear hf66
            have hJ121_67 : ∀  (kk68 : Hp) (H69 : Heap) (lc70 : List Loc) (ls71 : Array Slot), J121_67  kk68 = some (r, k1) → va_P g.1 vwCl (WW g h kk68) H69 → va_S (inA g) s.heap H69 lc70 → lv_has ls71 9 [(0, .ref (g.2.2 246))] → W p l en (rmD 2) s m args below meth c H69 lc70 0 0 (MQ below (QI g h k1 r) args s 0 0 (inA g)) (F0 m 121 ls71 []) := by
              intro  kk68 H69 lc70 ls71 hf75 hP72 hS73 hl74
              clear hf84 hP31 hS32 hl
              subst eJ121_67
              refine lv_aload_n hx hb dX7_copy_121 rfl (lv_at hl74 0 rfl) ?_
              refine lv_iconst (v := 2) hx hb dX7_copy_122 (by decide) ?_
              obtain ⟨x76, kk77, hg83, hf82⟩ := bd_some hf75
              refine x_ci (x_runV (As := [.int (2 : Int32)]) (rest := []) X hP72 hS73 246 (by decide) cl_M rfl (tX7_finding l X.2.2.2.2.2.2.1  hg83) mi_X7_68 rfl hl74.1 rfl (Nat.le_of_ble_eq_true rfl) dX7_copy_123 ⟨Nat.le_of_ble_eq_true rfl, Nat.le_of_ble_eq_true rfl⟩ ⟨Nat.zero_le _, Nat.zero_le _⟩) hS73 (fun H78 lc79 hP80 hS81 => ?_)
              clear hf75 hP72 hS73 hg83
              obtain ⟨rfl, rfl⟩ := ret_inj hf82
              exact x_iret X hr hlocks hP80 hS81 dX7_copy_126
            clear eJ121_67
            refine lv_if_lt (tgt := 121) hx hb dX7_copy_73 (by decide) (fun c85 => ?_) (fun c85 => ?_)
            · have hf86 := if_at_t c85 hf84
              clear hf84
              exact hJ121_67 kk30  _ _ _ hf86 hP31 hS32 (lv_sub hl [0] rfl)
            · have hf87 := if_at_f c85 hf84
              clear hf84
              refine lv_iload hx hb dX7_copy_76 (lv_at hl 4 rfl) ?_
              refine lv_if_lt (tgt := 121) hx hb dX7_copy_78 (by decide) (fun c88 => ?_) (fun c88 => ?_)
              · have hf89 := if_at_t c88 hf87
                clear hf87
                exact hJ121_67 kk30  _ _ _ hf89 hP31 hS32 (lv_sub hl [0] rfl)
              · have hf90 := if_at_f c88 hf87
                clear hf87
                refine lv_iload hx hb dX7_copy_81 (lv_at hl 5 rfl) ?_
                refine lv_if_lt (tgt := 121) hx hb dX7_copy_83 (by decide) (fun c91 => ?_) (fun c91 => ?_)
                · have hf92 := if_at_t c91 hf90
                  clear hf90
                  exact hJ121_67 kk30  _ _ _ hf92 hP31 hS32 (lv_sub hl [0] rfl)
                · have hf93 := if_at_f c91 hf90
                  clear hf90
                  refine lv_iload_n hx hb dX7_copy_86 rfl (lv_at hl 2 rfl) ?_
                  refine lv_i2l hx hb dX7_copy_87 rfl ?_
                  refine lv_iload hx hb dX7_copy_88 (lv_at hl 5 rfl) ?_
                  refine lv_i2l hx hb dX7_copy_90 rfl ?_
                  refine lv_ladd hx hb dX7_copy_91 ?_
                  refine lv_aload_n hx hb dX7_copy_92 rfl (lv_at hl 0 rfl) ?_
                  refine gX7 X hP31 3 (v := .ref (g.2.2 248)) rfl (by decide) rfl wd_886 dX7_copy_93 ?_
                  refine lv_iload_n hx hb dX7_copy_96 rfl (lv_at hl 1 rfl) ?_
                  obtain ⟨hc94, hf95⟩ := chk_some hf93
                  refine x_ildM X hP31 248 rfl hc94 dX7_copy_97 ?_
                  refine lv_i2l hx hb dX7_copy_98 rfl ?_
                  refine W.lcmp hx hb dX7_copy_99 ?_
                  refine lv_if_gt (tgt := 121) hx hb dX7_copy_100 (by decide) (fun c96 => ?_) (fun c96 => ?_)
                  · have hf97 := if_at_t c96 hf95
                    clear hf95
                    exact hJ121_67 kk30  _ _ _ hf97 hP31 hS32 (lv_sub hl [0] rfl)
                  · have hf98 := if_at_f c96 hf95
                    clear hf95
                    refine lv_iload hx hb dX7_copy_103 (lv_at hl 4 rfl) ?_
                    refine lv_i2l hx hb dX7_copy_105 rfl ?_
                    refine lv_iload hx hb dX7_copy_106 (lv_at hl 5 rfl) ?_
                    refine lv_i2l hx hb dX7_copy_108 rfl ?_
                    refine lv_ladd hx hb dX7_copy_109 ?_
                    refine lv_aload_n hx hb dX7_copy_110 rfl (lv_at hl 0 rfl) ?_
                    refine gX7 X hP31 3 (v := .ref (g.2.2 248)) rfl (by decide) rfl wd_886 dX7_copy_111 ?_
                    refine lv_iload_n hx hb dX7_copy_114 rfl (lv_at hl 3 rfl) ?_
                    obtain ⟨hc99, hf100⟩ := chk_some hf98
                    refine x_ildM X hP31 248 rfl hc99 dX7_copy_115 ?_
                    refine lv_i2l hx hb dX7_copy_116 rfl ?_
                    refine W.lcmp hx hb dX7_copy_117 ?_
                    refine lv_if_le (tgt := 127) hx hb dX7_copy_118 (by decide) (fun c101 => ?_) (fun c101 => ?_)
                    · have hf102 := if_at_t c101 hf100
                      clear hf100
                      refine lv_iload_n hx hb dX7_copy_127 rfl (lv_at hl 2 rfl) ?_
                      refine lv_iload hx hb dX7_copy_128 (lv_at hl 4 rfl) ?_
                      obtain ⟨J138_103, eJ138_103, hf148⟩ := jp_at hf102
                      clear hf102
                      have hJ138_103 : ∀ (J138_103s0 : Int32) (kk104 : Hp) (H105 : Heap) (lc106 : List Loc) (ls107 : Array Slot), J138_103 J138_103s0 kk104 = some (r, k1) → va_P g.1 vwCl (WW g h kk104) H105 → va_S (inA g) s.heap H105 lc106 → lv_has ls107 9 [(0, .ref (g.2.2 246)), (1, .int a1), (2, .int a2), (3, .int a3), (4, .int a4), (5, .int a5)] → W p l en (rmD 2) s m args below meth c H105 lc106 0 0 (MQ below (QI g h k1 r) args s 0 0 (inA g)) (F0 m 138 ls107 [.int J138_103s0]) := by
                        intro J138_103s0 kk104 H105 lc106 ls107 hf111 hP108 hS109 hl110
                        clear hf148 hP31 hS32 hl
                        subst eJ138_103
                        refine lv_istore (lv' := [(6, .int J138_103s0), (0, .ref (g.2.2 246)), (1, .int a1), (2, .int a2), (3, .int a3), (4, .int a4), (5, .int a5)]) hx hb dX7_copy_138 hl110 (by decide) rfl (fun ls112 hl113 => ?_)
                        clear hl110
                        refine lv_iconst (v := 0) hx hb dX7_copy_140 (by decide) ?_
                        refine lv_istore (lv' := [(7, .int (0 : Int32)), (6, .int J138_103s0), (0, .ref (g.2.2 246)), (1, .int a1), (2, .int a2), (3, .int a3), (4, .int a4), (5, .int a5)]) hx hb dX7_copy_141 hl113 (by decide) rfl (fun ls114 hl115 => ?_)
                        clear hl113
                        refine wX7_copy_L143 X hr hlocks   4096 (0 : Int32) kk104 _ _ _  hf111 hP108 hS109 (lv_sub hl115 [2, 3, 4, 5, 6, 7, 1, 0] rfl)
                      clear eJ138_103
                      refine lv_icmp_lt (tgt := 137) hx hb dX7_copy_130 (by decide) (fun c149 => ?_) (fun c149 => ?_)
                      · have hf150 := if_at_t c149 hf148
                        clear hf148
                        refine lv_iconst (v := 0) hx hb dX7_copy_137 (by decide) ?_
                        exact hJ138_103 (0 : Int32) kk30  _ _ _ hf150 hP31 hS32 (lv_sub hl [0, 1, 2, 3, 4, 5] rfl)
                      · have hf151 := if_at_f c149 hf148
                        clear hf148
                        refine lv_iconst (v := 1) hx hb dX7_copy_133 (by decide) ?_
                        refine lv_goto (tgt := 138) hx hb dX7_copy_134 (by decide) ?_
                        exact hJ138_103 (1 : Int32) kk30  _ _ _ hf151 hP31 hS32 (lv_sub hl [0, 1, 2, 3, 4, 5] rfl)
                    · have hf152 := if_at_f c101 hf100
                      clear hf100
                      exact hJ121_67 kk30  _ _ _ hf152 hP31 hS32 (lv_sub hl [0] rfl)
          · have hf153 := if_at_f c65 hf64
            clear hf64
            refine lv_aload_n hx hb dX7_copy_66 rfl (lv_at hl 0 rfl) ?_
            refine lv_iconst (v := 5) hx hb dX7_copy_67 (by decide) ?_
            obtain ⟨x154, kk155, hg161, hf160⟩ := bd_some hf153
            refine x_ci (x_runV (As := [.int (5 : Int32)]) (rest := []) X hP31 hS32 246 (by decide) cl_M rfl (tX7_finding l X.2.2.2.2.2.2.1  hg161) mi_X7_68 rfl hl.1 rfl (Nat.le_of_ble_eq_true rfl) dX7_copy_68 ⟨Nat.le_of_ble_eq_true rfl, Nat.le_of_ble_eq_true rfl⟩ ⟨Nat.zero_le _, Nat.zero_le _⟩) hS32 (fun H156 lc157 hP158 hS159 => ?_)
            clear hf153 hP31 hS32 hg161
            obtain ⟨rfl, rfl⟩ := ret_inj hf160
            exact x_iret X hr hlocks hP158 hS159 dX7_copy_71
        · have hf162 := if_at_f c59 hf58
          clear hf58
          exact hJ45_36 kk30  _ _ _ hf162 hP31 hS32 (lv_sub hl [0] rfl)
    · have hf163 := if_at_t c26 hf24
      clear hf24
      refine lv_ldc (v := -1000001) hx hb X.2.2.2.1 (X.2.2.2.2.1 _ wd_969) dX7_copy_19 ?_
      obtain ⟨rfl, rfl⟩ := ret_inj hf163
      exact x_iret X hr hlocks hP22 hS23 dX7_copy_21
set_option maxRecDepth 100000 in
set_option maxHeartbeats 4000000 in
theorem tX7_drop (l : Launch) {g : Gx} (hI : InjG g) {h k k1 : Hp} {a1 : Int32} {r : Int32}   (hf : fX7_drop a1 k = some (r, k1)) : CI l yX7_drop cX7_drop 2 (some .int) 2 g [.ref (g.2.2 246), .int a1] h k h k1 r := by
  refine Met.ofW (cc := cX7_drop) (maxL := 2) (ret := (some .int)) (by decide) rfl ?_
  intro p en s m args below meth c s₁ B hml hv
  obtain ⟨rfl, hSK, hSH, hP⟩ := hv
  have X : Cx p s m _ c cX7_drop 2 RX7 g := ⟨B.exec, B.bytes, hml, findClass_of_methodNamed B.named, fun w hw => atoms_spec (ws := wsy yX7_drop cX7_drop 2 (some .int)) B.pre w (List.mem_cons_of_mem _ hw), hSK, hI, hSH⟩
  have hr := B.returns
  have hlocks := B.notSynchronized
  have hx := X.1
  have hb := X.2.1
  have hS : va_S (inA g) s.heap s.heap [] := va_S.rf
  clear hSK hSH hml B
  have hl := lv_entry ([.ref (g.2.2 246), .int a1]) (n := 2) (Nat.le_of_ble_eq_true rfl)
  rw [lg_entry_eq]
  generalize (lg_sl ([.ref (g.2.2 246), .int a1]) ++ List.replicate (2 - (lg_sl ([.ref (g.2.2 246), .int a1])).length) Slot.unset).toArray = ls at hl ⊢
  have hl : lv_has ls 2 [(0, .ref (g.2.2 246)), (1, .int a1)] := hl
  generalize ([.ref (g.2.2 246), .int a1] : List Value).toArray = args at X ⊢
  show W p l en (rmD 2) s m args below meth c s.heap [] 0 0 (MQ below (QI g h k1 r) args s 0 0 (inA g)) (F0 m 0 ls [])
  unfold fX7_drop at hf
  refine lv_aload_n hx hb dX7_drop_0 rfl (lv_at hl 0 rfl) ?_
  refine lv_iconst (v := 0) hx hb dX7_drop_1 (by decide) ?_
  refine pX7 X hP hS 0 (by decide) rfl wd_883 rfl rfl rfl rfl seX7_0 dX7_drop_2 (fun H1 lc2 kk3 ekk3 hP4 hS5 => ?_)
  have hf6 := lk_at ekk3 hf
  clear hf hP hS
  refine lv_iload_n hx hb dX7_drop_5 rfl (lv_at hl 1 rfl) ?_
  obtain ⟨x7, kk8, hg14, hf13⟩ := bd_some hf6
  refine x_ci (x_runS (As := [.int a1]) (rest := []) X hP4 hS5 (tX7_isRow l X.2.2.2.2.2.2.1  hg14) mi_X7_61 rfl hl.1 rfl (Nat.le_of_ble_eq_true rfl) dX7_drop_6 ⟨Nat.le_of_ble_eq_true rfl, Nat.le_of_ble_eq_true rfl⟩ ⟨Nat.zero_le _, Nat.zero_le _⟩) hS5 (fun H9 lc10 hP11 hS12 => ?_)
  clear hf6 hP4 hS5 hg14
  refine lv_if_ne (tgt := 15) hx hb dX7_drop_9 (by decide) (fun c15 => ?_) (fun c15 => ?_)
  · have hf16 := if_at_f c15 hf13
    clear hf13
    refine lv_aload_n hx hb dX7_drop_15 rfl (lv_at hl 0 rfl) ?_
    refine lv_iconst (v := 0) hx hb dX7_drop_16 (by decide) ?_
    refine pX7 X hP11 hS12 1 (by decide) rfl wd_884 rfl rfl rfl rfl seX7_1 dX7_drop_17 (fun H17 lc18 kk19 ekk19 hP20 hS21 => ?_)
    have hf22 := lk_at ekk19 hf16
    clear hf16 hP11 hS12
    refine lv_aload_n hx hb dX7_drop_20 rfl (lv_at hl 0 rfl) ?_
    refine gX7 X hP20 2 (v := .ref (g.2.2 247)) rfl (by decide) rfl wd_885 dX7_drop_21 ?_
    refine lv_iload_n hx hb dX7_drop_24 rfl (lv_at hl 1 rfl) ?_
    obtain ⟨hc23, hf24⟩ := chk_some hf22
    refine x_ildM X hP20 247 rfl hc23 dX7_drop_25 ?_
    refine lv_if_ge (tgt := 35) hx hb dX7_drop_26 (by decide) (fun c25 => ?_) (fun c25 => ?_)
    · have hf26 := if_at_t c25 hf24
      clear hf24
      refine lv_aload_n hx hb dX7_drop_35 rfl (lv_at hl 0 rfl) ?_
      refine gX7 X hP20 2 (v := .ref (g.2.2 247)) rfl (by decide) rfl wd_885 dX7_drop_36 ?_
      refine lv_iload_n hx hb dX7_drop_39 rfl (lv_at hl 1 rfl) ?_
      refine lv_iconst (v := -1) hx hb dX7_drop_40 (by decide) ?_
      obtain ⟨hc27, hf28⟩ := chk_some hf26
      refine x_istM X hP20 hS21 247 rfl hc27 dX7_drop_41 (fun H29 lc30 kk31 ekk31 hP32 hS33 => ?_)
      have hf34 := lk_at ekk31 hf28
      clear hf28 hP20 hS21
      refine lv_aload_n hx hb dX7_drop_42 rfl (lv_at hl 0 rfl) ?_
      refine gX7 X hP32 3 (v := .ref (g.2.2 248)) rfl (by decide) rfl wd_886 dX7_drop_43 ?_
      refine lv_iload_n hx hb dX7_drop_46 rfl (lv_at hl 1 rfl) ?_
      obtain ⟨hc35, hf36⟩ := chk_some hf34
      refine x_ildM X hP32 248 rfl hc35 dX7_drop_47 ?_
      obtain ⟨rfl, rfl⟩ := ret_inj hf36
      exact x_iret X hr hlocks hP32 hS33 dX7_drop_48
    · have hf37 := if_at_f c25 hf24
      clear hf24
      refine lv_aload_n hx hb dX7_drop_29 rfl (lv_at hl 0 rfl) ?_
      refine lv_iconst (v := 1) hx hb dX7_drop_30 (by decide) ?_
      obtain ⟨x38, kk39, hg45, hf44⟩ := bd_some hf37
      refine x_ci (x_runV (As := [.int (1 : Int32)]) (rest := []) X hP20 hS21 246 (by decide) cl_M rfl (tX7_finding l X.2.2.2.2.2.2.1  hg45) mi_X7_68 rfl hl.1 rfl (Nat.le_of_ble_eq_true rfl) dX7_drop_31 ⟨Nat.le_of_ble_eq_true rfl, Nat.le_of_ble_eq_true rfl⟩ ⟨Nat.zero_le _, Nat.zero_le _⟩) hS21 (fun H40 lc41 hP42 hS43 => ?_)
      clear hf37 hP20 hS21 hg45
      obtain ⟨rfl, rfl⟩ := ret_inj hf44
      exact x_iret X hr hlocks hP42 hS43 dX7_drop_34
  · have hf46 := if_at_t c15 hf13
    clear hf13
    refine lv_ldc (v := -1000001) hx hb X.2.2.2.1 (X.2.2.2.2.1 _ wd_969) dX7_drop_12 ?_
    obtain ⟨rfl, rfl⟩ := ret_inj hf46
    exact x_iret X hr hlocks hP11 hS12 dX7_drop_14
set_option maxRecDepth 100000 in
set_option maxHeartbeats 4000000 in
theorem tX7_feed (l : Launch) {g : Gx} (hI : InjG g) {h k k1 : Hp} {a1 : Int32} {r : Int32}   (hf : fX7_feed a1 k = some (r, k1)) : CI l yX7_feed cX7_feed 2 (some .int) 1 g [.ref (g.2.2 246), .int a1] h k h k1 r := by
  refine Met.ofW (cc := cX7_feed) (maxL := 2) (ret := (some .int)) (by decide) rfl ?_
  intro p en s m args below meth c s₁ B hml hv
  obtain ⟨rfl, hSK, hSH, hP⟩ := hv
  have X : Cx p s m _ c cX7_feed 2 RX7 g := ⟨B.exec, B.bytes, hml, findClass_of_methodNamed B.named, fun w hw => atoms_spec (ws := wsy yX7_feed cX7_feed 2 (some .int)) B.pre w (List.mem_cons_of_mem _ hw), hSK, hI, hSH⟩
  have hr := B.returns
  have hlocks := B.notSynchronized
  have hx := X.1
  have hb := X.2.1
  have hS : va_S (inA g) s.heap s.heap [] := va_S.rf
  clear hSK hSH hml B
  have hl := lv_entry ([.ref (g.2.2 246), .int a1]) (n := 2) (Nat.le_of_ble_eq_true rfl)
  rw [lg_entry_eq]
  generalize (lg_sl ([.ref (g.2.2 246), .int a1]) ++ List.replicate (2 - (lg_sl ([.ref (g.2.2 246), .int a1])).length) Slot.unset).toArray = ls at hl ⊢
  have hl : lv_has ls 2 [(0, .ref (g.2.2 246)), (1, .int a1)] := hl
  generalize ([.ref (g.2.2 246), .int a1] : List Value).toArray = args at X ⊢
  show W p l en (rmD 1) s m args below meth c s.heap [] 0 0 (MQ below (QI g h k1 r) args s 0 0 (inA g)) (F0 m 0 ls [])
  unfold fX7_feed at hf
  refine lv_aload_n hx hb dX7_feed_0 rfl (lv_at hl 0 rfl) ?_
  refine lv_iconst (v := 0) hx hb dX7_feed_1 (by decide) ?_
  refine pX7 X hP hS 0 (by decide) rfl wd_883 rfl rfl rfl rfl seX7_0 dX7_feed_2 (fun H1 lc2 kk3 ekk3 hP4 hS5 => ?_)
  have hf6 := lk_at ekk3 hf
  clear hf hP hS
  refine lv_iload_n hx hb dX7_feed_5 rfl (lv_at hl 1 rfl) ?_
  refine lv_i2l hx hb dX7_feed_6 rfl ?_
  refine lv_lconst (v := 0) hx hb dX7_feed_7 (by decide) ?_
  refine lv_ldc2 (v := 255) hx hb X.2.2.2.1 (X.2.2.2.2.1 _ wd_991) dX7_feed_8 ?_
  obtain ⟨x7, kk8, hg14, hf13⟩ := bd_some hf6
  refine x_ci (x_runS (As := [.long a1.toInt64, .long (0 : Int64), .long (255 : Int64)]) (rest := []) X hP4 hS5 (tX7_in l X.2.2.2.2.2.2.1  hg14) mi_X7_57 rfl hl.1 rfl (Nat.le_of_ble_eq_true rfl) dX7_feed_11 ⟨Nat.le_of_ble_eq_true rfl, Nat.le_of_ble_eq_true rfl⟩ ⟨Nat.zero_le _, Nat.zero_le _⟩) hS5 (fun H9 lc10 hP11 hS12 => ?_)
  clear hf6 hP4 hS5 hg14
  refine lv_if_ne (tgt := 20) hx hb dX7_feed_14 (by decide) (fun c15 => ?_) (fun c15 => ?_)
  · have hf16 := if_at_f c15 hf13
    clear hf13
    refine lv_aload_n hx hb dX7_feed_20 rfl (lv_at hl 0 rfl) ?_
    refine gX7 X hP11 11 (v := .int (kk8 246 11)) rfl (by decide) rfl wd_894 dX7_feed_21 ?_
    refine lv_bipush (v := 120) hx hb dX7_feed_24 (by decide) ?_
    refine lv_icmp_ne (tgt := 32) hx hb dX7_feed_26 (by decide) (fun c17 => ?_) (fun c17 => ?_)
    · have hf18 := if_at_f c17 hf16
      clear hf16
      refine lv_aload_n hx hb dX7_feed_32 rfl (lv_at hl 0 rfl) ?_
      refine gX7 X hP11 10 (v := .ref (g.2.2 254)) rfl (by decide) rfl wd_893 dX7_feed_33 ?_
      refine lv_aload_n hx hb dX7_feed_36 rfl (lv_at hl 0 rfl) ?_
      refine gX7 X hP11 11 (v := .int (kk8 246 11)) rfl (by decide) rfl wd_894 dX7_feed_37 ?_
      refine lv_iload_n hx hb dX7_feed_40 rfl (lv_at hl 1 rfl) ?_
      obtain ⟨hc19, hf20⟩ := chk_some hf18
      refine x_istM X hP11 hS12 254 rfl hc19 dX7_feed_41 (fun H21 lc22 kk23 ekk23 hP24 hS25 => ?_)
      have hf26 := lk_at ekk23 hf20
      clear hf20 hP11 hS12
      refine lv_aload_n hx hb dX7_feed_42 rfl (lv_at hl 0 rfl) ?_
      refine lv_dup hx hb dX7_feed_43 rfl ?_
      refine gX7 X hP24 11 (v := .int (kk23 246 11)) rfl (by decide) rfl wd_894 dX7_feed_44 ?_
      refine lv_iconst (v := 1) hx hb dX7_feed_47 (by decide) ?_
      refine lv_iadd hx hb dX7_feed_48 ?_
      refine pX7 X hP24 hS25 11 (by decide) rfl wd_894 rfl rfl rfl rfl seX7_11 dX7_feed_49 (fun H27 lc28 kk29 ekk29 hP30 hS31 => ?_)
      have hf32 := lk_at ekk29 hf26
      clear hf26 hP24 hS25
      refine lv_aload_n hx hb dX7_feed_52 rfl (lv_at hl 0 rfl) ?_
      refine gX7 X hP30 11 (v := .int (kk29 246 11)) rfl (by decide) rfl wd_894 dX7_feed_53 ?_
      obtain ⟨rfl, rfl⟩ := ret_inj hf32
      exact x_iret X hr hlocks hP30 hS31 dX7_feed_56
    · have hf33 := if_at_t c17 hf16
      clear hf16
      refine lv_ldc (v := -1000003) hx hb X.2.2.2.1 (X.2.2.2.2.1 _ wd_992) dX7_feed_29 ?_
      obtain ⟨rfl, rfl⟩ := ret_inj hf33
      exact x_iret X hr hlocks hP11 hS12 dX7_feed_31
  · have hf34 := if_at_t c15 hf13
    clear hf13
    refine lv_ldc (v := -1000001) hx hb X.2.2.2.1 (X.2.2.2.2.1 _ wd_969) dX7_feed_17 ?_
    obtain ⟨rfl, rfl⟩ := ret_inj hf34
    exact x_iret X hr hlocks hP11 hS12 dX7_feed_19
set_option maxRecDepth 100000 in
set_option maxHeartbeats 4000000 in
theorem tX7_bad (l : Launch) {g : Gx} (hI : InjG g) {h k k1 : Hp} {a1 : Int32}   (hf : fX7_bad a1 k = some ((), k1)) : CV l yX7_bad cX7_bad 2 none 0 g [.ref (g.2.2 246), .int a1] h k h k1 := by
  refine Met.ofW (cc := cX7_bad) (maxL := 2) (ret := none) (by decide) rfl ?_
  intro p en s m args below meth c s₁ B hml hv
  obtain ⟨rfl, hSK, hSH, hP⟩ := hv
  have X : Cx p s m _ c cX7_bad 2 RX7 g := ⟨B.exec, B.bytes, hml, findClass_of_methodNamed B.named, fun w hw => atoms_spec (ws := wsy yX7_bad cX7_bad 2 none) B.pre w (List.mem_cons_of_mem _ hw), hSK, hI, hSH⟩
  have hr := B.returns
  have hlocks := B.notSynchronized
  have hx := X.1
  have hb := X.2.1
  have hS : va_S (inA g) s.heap s.heap [] := va_S.rf
  clear hSK hSH hml B
  have hl := lv_entry ([.ref (g.2.2 246), .int a1]) (n := 2) (Nat.le_of_ble_eq_true rfl)
  rw [lg_entry_eq]
  generalize (lg_sl ([.ref (g.2.2 246), .int a1]) ++ List.replicate (2 - (lg_sl ([.ref (g.2.2 246), .int a1])).length) Slot.unset).toArray = ls at hl ⊢
  have hl : lv_has ls 2 [(0, .ref (g.2.2 246)), (1, .int a1)] := hl
  generalize ([.ref (g.2.2 246), .int a1] : List Value).toArray = args at X ⊢
  show W p l en (rmD 0) s m args below meth c s.heap [] 0 0 (MQ below (QV g h k1) args s 0 0 (inA g)) (F0 m 0 ls [])
  unfold fX7_bad at hf
  refine lv_aload_n hx hb dX7_bad_0 rfl (lv_at hl 0 rfl) ?_
  refine gX7 X hP 16 (v := .int (k 246 16)) rfl (by decide) rfl wd_899 dX7_bad_1 ?_
  refine lv_if_ne (tgt := 20) hx hb dX7_bad_4 (by decide) (fun c1 => ?_) (fun c1 => ?_)
  · have hf2 := if_at_f c1 hf
    clear hf
    obtain ⟨-, rfl⟩ := ret_inj hf2
    exact x_vret X hr hlocks hP hS dX7_bad_20
  · have hf3 := if_at_t c1 hf
    clear hf
    refine lv_aload_n hx hb dX7_bad_7 rfl (lv_at hl 0 rfl) ?_
    refine lv_iload_n hx hb dX7_bad_8 rfl (lv_at hl 1 rfl) ?_
    refine pX7 X hP hS 16 (by decide) rfl wd_899 rfl rfl rfl rfl seX7_16 dX7_bad_9 (fun H4 lc5 kk6 ekk6 hP7 hS8 => ?_)
    have hf9 := lk_at ekk6 hf3
    clear hf3 hP hS
    refine lv_aload_n hx hb dX7_bad_12 rfl (lv_at hl 0 rfl) ?_
    refine lv_aload_n hx hb dX7_bad_13 rfl (lv_at hl 0 rfl) ?_
    refine gX7 X hP7 13 (v := .int (kk6 246 13)) rfl (by decide) rfl wd_896 dX7_bad_14 ?_
    refine pX7 X hP7 hS8 17 (by decide) rfl wd_900 rfl rfl rfl rfl seX7_17 dX7_bad_17 (fun H10 lc11 kk12 ekk12 hP13 hS14 => ?_)
    have hf15 := lk_at ekk12 hf9
    clear hf9 hP7 hS8
    obtain ⟨-, rfl⟩ := ret_inj hf15
    exact x_vret X hr hlocks hP13 hS14 dX7_bad_20
set_option maxRecDepth 100000 in
set_option maxHeartbeats 4000000 in
theorem wX7_nextToken_L165 {p : Program} {l : Launch} {en : Env} {s : State} {m : MethodId} {args : Array Value} {below : List Frame} {meth : Method} {c : Code} {g : Gx} (X : Cx p s m args c cX7_nextToken 1 RX7 g) (hr : meth.sig.returnType = none) (hlocks : meth.locks = false) {h k1 : Hp}   {K255 : Hp → Option (Unit × Hp)}
    (hK255 : ∀  (k : Hp) (H : Heap) (locs : List Loc) (ls : Array Slot), K255  k = some ((), k1) → va_P g.1 vwCl (WW g h k) H → va_S (inA g) s.heap H locs → lv_has ls 1 [(0, .ref (g.2.2 246))] → W p l en (rmD 1) s m args below meth c H locs 0 0 (MQ below (QV g h k1) args s 0 0 (inA g)) (F0 m 255 ls [])) :
    ∀ (n : Nat) (k : Hp) (H : Heap) (locs : List Loc) (ls : Array Slot), fX7_nextToken_L165 K255 n  k = some ((), k1) → va_P g.1 vwCl (WW g h k) H → va_S (inA g) s.heap H locs → lv_has ls 1 [(0, .ref (g.2.2 246))] → W p l en (rmD 1) s m args below meth c H locs 0 0 (MQ below (QV g h k1) args s 0 0 (inA g)) (F0 m 165 ls []) := by
  have hx := X.1
  have hb := X.2.1
  intro n
  induction n with
  | zero => intro  k H locs ls  hf; simp only [fX7_nextToken_L165, reduceCtorEq] at hf
  | succ n ih =>
    intro  k H locs ls  hf hP hS hl
    rw [fX7_nextToken_L165] at hf
    refine lv_aload_n hx hb dX7_nextToken_165 rfl (lv_at hl 0 rfl) ?_
    refine gX7 X hP 12 (v := .int (k 246 12)) rfl (by decide) rfl wd_895 dX7_nextToken_166 ?_
    refine lv_aload_n hx hb dX7_nextToken_169 rfl (lv_at hl 0 rfl) ?_
    refine gX7 X hP 11 (v := .int (k 246 11)) rfl (by decide) rfl wd_894 dX7_nextToken_170 ?_
    refine lv_icmp_ge (tgt := 255) hx hb dX7_nextToken_173 (by decide) (fun c61 => ?_) (fun c61 => ?_)
    · have hf62 := if_at_t c61 hf
      clear hf
      exact hK255 k  _ _ _ hf62 hP hS (lv_sub hl [0] rfl)
    · have hf63 := if_at_f c61 hf
      clear hf
      refine lv_aload_n hx hb dX7_nextToken_176 rfl (lv_at hl 0 rfl) ?_
      refine gX7 X hP 10 (v := .ref (g.2.2 254)) rfl (by decide) rfl wd_893 dX7_nextToken_177 ?_
      refine lv_aload_n hx hb dX7_nextToken_180 rfl (lv_at hl 0 rfl) ?_
      refine gX7 X hP 12 (v := .int (k 246 12)) rfl (by decide) rfl wd_895 dX7_nextToken_181 ?_
      obtain ⟨hc64, hf65⟩ := chk_some hf63
      refine x_ildM X hP 254 rfl hc64 dX7_nextToken_184 ?_
      refine lv_i2l hx hb dX7_nextToken_185 rfl ?_
      refine lv_ldc2 (v := 48) hx hb X.2.2.2.1 (X.2.2.2.2.1 _ wd_1012) dX7_nextToken_186 ?_
      refine lv_ldc2 (v := 57) hx hb X.2.2.2.1 (X.2.2.2.2.1 _ wd_1013) dX7_nextToken_189 ?_
      obtain ⟨x66, kk67, hg73, hf72⟩ := bd_some hf65
      refine x_ci (x_runS (As := [.long ((k 254 (k 246 12).toNatClampNeg).toInt64), .long (48 : Int64), .long (57 : Int64)]) (rest := []) X hP hS (tX7_in l X.2.2.2.2.2.2.1  hg73) mi_X7_57 rfl hl.1 rfl (Nat.le_of_ble_eq_true rfl) dX7_nextToken_192 ⟨Nat.le_of_ble_eq_true rfl, Nat.le_of_ble_eq_true rfl⟩ ⟨Nat.zero_le _, Nat.zero_le _⟩) hS (fun H68 lc69 hP70 hS71 => ?_)
      clear hf65 hP hS hg73
      refine lv_if_eq (tgt := 255) hx hb dX7_nextToken_195 (by decide) (fun c74 => ?_) (fun c74 => ?_)
      · have hf75 := if_at_t c74 hf72
        clear hf72
        exact hK255 kk67  _ _ _ hf75 hP70 hS71 (lv_sub hl [0] rfl)
      · have hf76 := if_at_f c74 hf72
        clear hf72
        refine lv_aload_n hx hb dX7_nextToken_198 rfl (lv_at hl 0 rfl) ?_
        refine lv_aload_n hx hb dX7_nextToken_199 rfl (lv_at hl 0 rfl) ?_
        refine gX7 X hP70 12 (v := .int (kk67 246 12)) rfl (by decide) rfl wd_895 dX7_nextToken_200 ?_
        refine lv_aload_n hx hb dX7_nextToken_203 rfl (lv_at hl 0 rfl) ?_
        refine gX7 X hP70 13 (v := .int (kk67 246 13)) rfl (by decide) rfl wd_896 dX7_nextToken_204 ?_
        refine lv_isub hx hb dX7_nextToken_207 ?_
        refine lv_iconst (v := 2) hx hb dX7_nextToken_208 (by decide) ?_
        obtain ⟨J239_77, eJ239_77, hf98⟩ := jp_at hf76
        clear hf76
        have hJ239_77 : ∀ (J239_77s0 : Int32) (kk78 : Hp) (H79 : Heap) (lc80 : List Loc) (ls81 : Array Slot), J239_77 J239_77s0 kk78 = some ((), k1) → va_P g.1 vwCl (WW g h kk78) H79 → va_S (inA g) s.heap H79 lc80 → lv_has ls81 1 [(0, .ref (g.2.2 246))] → W p l en (rmD 1) s m args below meth c H79 lc80 0 0 (MQ below (QV g h k1) args s 0 0 (inA g)) (F0 m 239 ls81 [.int J239_77s0, .ref (g.2.2 246)]) := by
          intro J239_77s0 kk78 H79 lc80 ls81 hf85 hP82 hS83 hl84
          clear hf98 hP70 hS71 hl
          subst eJ239_77
          refine pX7 X hP82 hS83 15 (by decide) rfl wd_898 rfl rfl rfl rfl seX7_15 dX7_nextToken_239 (fun H86 lc87 kk88 ekk88 hP89 hS90 => ?_)
          have hf91 := lk_at ekk88 hf85
          clear hf85 hP82 hS83
          refine lv_aload_n hx hb dX7_nextToken_242 rfl (lv_at hl84 0 rfl) ?_
          refine lv_dup hx hb dX7_nextToken_243 rfl ?_
          refine gX7 X hP89 12 (v := .int (kk88 246 12)) rfl (by decide) rfl wd_895 dX7_nextToken_244 ?_
          refine lv_iconst (v := 1) hx hb dX7_nextToken_247 (by decide) ?_
          refine lv_iadd hx hb dX7_nextToken_248 ?_
          refine pX7 X hP89 hS90 12 (by decide) rfl wd_895 rfl rfl rfl rfl seX7_12 dX7_nextToken_249 (fun H92 lc93 kk94 ekk94 hP95 hS96 => ?_)
          have hf97 := lk_at ekk94 hf91
          clear hf91 hP89 hS90
          refine lv_goto (tgt := 165) hx hb dX7_nextToken_252 (by decide) ?_
          exact ih kk94  _ _ _ hf97 hP95 hS96 (lv_sub hl84 [0] rfl)
        clear eJ239_77
        refine lv_icmp_ge (tgt := 235) hx hb dX7_nextToken_209 (by decide) (fun c99 => ?_) (fun c99 => ?_)
        · have hf100 := if_at_t c99 hf98
          clear hf98
          refine lv_aload_n hx hb dX7_nextToken_235 rfl (lv_at hl 0 rfl) ?_
          refine gX7 X hP70 15 (v := .int (kk67 246 15)) rfl (by decide) rfl wd_898 dX7_nextToken_236 ?_
          exact hJ239_77 (kk67 246 15) kk67  _ _ _ hf100 hP70 hS71 (lv_sub hl [0] rfl)
        · have hf101 := if_at_f c99 hf98
          clear hf98
          refine lv_bipush (v := 10) hx hb dX7_nextToken_212 (by decide) ?_
          refine lv_aload_n hx hb dX7_nextToken_214 rfl (lv_at hl 0 rfl) ?_
          refine gX7 X hP70 15 (v := .int (kk67 246 15)) rfl (by decide) rfl wd_898 dX7_nextToken_215 ?_
          refine lv_imul hx hb dX7_nextToken_218 ?_
          refine lv_aload_n hx hb dX7_nextToken_219 rfl (lv_at hl 0 rfl) ?_
          refine gX7 X hP70 10 (v := .ref (g.2.2 254)) rfl (by decide) rfl wd_893 dX7_nextToken_220 ?_
          refine lv_aload_n hx hb dX7_nextToken_223 rfl (lv_at hl 0 rfl) ?_
          refine gX7 X hP70 12 (v := .int (kk67 246 12)) rfl (by decide) rfl wd_895 dX7_nextToken_224 ?_
          obtain ⟨hc102, hf103⟩ := chk_some hf101
          refine x_ildM X hP70 254 rfl hc102 dX7_nextToken_227 ?_
          refine lv_iadd hx hb dX7_nextToken_228 ?_
          refine lv_bipush (v := 48) hx hb dX7_nextToken_229 (by decide) ?_
          refine lv_isub hx hb dX7_nextToken_231 ?_
          refine lv_goto (tgt := 239) hx hb dX7_nextToken_232 (by decide) ?_
          exact hJ239_77 ((((10 : Int32) * (kk67 246 15)) + (kk67 254 (kk67 246 12).toNatClampNeg)) - (48 : Int32)) kk67  _ _ _ hf103 hP70 hS71 (lv_sub hl [0] rfl)
set_option maxRecDepth 100000 in
set_option maxHeartbeats 4000000 in
theorem tX7_nextToken (l : Launch) {g : Gx} (hI : InjG g) {h k k1 : Hp}    (hf : fX7_nextToken k = some ((), k1)) : CV l yX7_nextToken cX7_nextToken 1 none 1 g [.ref (g.2.2 246)] h k h k1 := by
  refine Met.ofW (cc := cX7_nextToken) (maxL := 1) (ret := none) (by decide) rfl ?_
  intro p en s m args below meth c s₁ B hml hv
  obtain ⟨rfl, hSK, hSH, hP⟩ := hv
  have X : Cx p s m _ c cX7_nextToken 1 RX7 g := ⟨B.exec, B.bytes, hml, findClass_of_methodNamed B.named, fun w hw => atoms_spec (ws := wsy yX7_nextToken cX7_nextToken 1 none) B.pre w (List.mem_cons_of_mem _ hw), hSK, hI, hSH⟩
  have hr := B.returns
  have hlocks := B.notSynchronized
  have hx := X.1
  have hb := X.2.1
  have hS : va_S (inA g) s.heap s.heap [] := va_S.rf
  clear hSK hSH hml B
  have hl := lv_entry ([.ref (g.2.2 246)]) (n := 1) (Nat.le_of_ble_eq_true rfl)
  rw [lg_entry_eq]
  generalize (lg_sl ([.ref (g.2.2 246)]) ++ List.replicate (1 - (lg_sl ([.ref (g.2.2 246)])).length) Slot.unset).toArray = ls at hl ⊢
  have hl : lv_has ls 1 [(0, .ref (g.2.2 246))] := hl
  generalize ([.ref (g.2.2 246)] : List Value).toArray = args at X ⊢
  show W p l en (rmD 1) s m args below meth c s.heap [] 0 0 (MQ below (QV g h k1) args s 0 0 (inA g)) (F0 m 0 ls [])
  unfold fX7_nextToken at hf
  refine lv_aload_n hx hb dX7_nextToken_0 rfl (lv_at hl 0 rfl) ?_
  refine lv_aload_n hx hb dX7_nextToken_1 rfl (lv_at hl 0 rfl) ?_
  refine gX7 X hP 12 (v := .int (k 246 12)) rfl (by decide) rfl wd_895 dX7_nextToken_2 ?_
  refine pX7 X hP hS 13 (by decide) rfl wd_896 rfl rfl rfl rfl seX7_13 dX7_nextToken_5 (fun H1 lc2 kk3 ekk3 hP4 hS5 => ?_)
  have hf6 := lk_at ekk3 hf
  clear hf hP hS
  refine lv_aload_n hx hb dX7_nextToken_8 rfl (lv_at hl 0 rfl) ?_
  refine lv_aload_n hx hb dX7_nextToken_9 rfl (lv_at hl 0 rfl) ?_
  refine gX7 X hP4 12 (v := .int (kk3 246 12)) rfl (by decide) rfl wd_895 dX7_nextToken_10 ?_
  refine lv_aload_n hx hb dX7_nextToken_13 rfl (lv_at hl 0 rfl) ?_
  refine gX7 X hP4 11 (v := .int (kk3 246 11)) rfl (by decide) rfl wd_894 dX7_nextToken_14 ?_
  obtain ⟨J34_7, eJ34_7, hf173⟩ := jp_at hf6
  clear hf6
  have hJ34_7 : ∀ (J34_7s0 : Int32) (kk8 : Hp) (H9 : Heap) (lc10 : List Loc) (ls11 : Array Slot), J34_7 J34_7s0 kk8 = some ((), k1) → va_P g.1 vwCl (WW g h kk8) H9 → va_S (inA g) s.heap H9 lc10 → lv_has ls11 1 [(0, .ref (g.2.2 246))] → W p l en (rmD 1) s m args below meth c H9 lc10 0 0 (MQ below (QV g h k1) args s 0 0 (inA g)) (F0 m 34 ls11 [.int J34_7s0, .ref (g.2.2 246)]) := by
    intro J34_7s0 kk8 H9 lc10 ls11 hf15 hP12 hS13 hl14
    clear hf173 hP4 hS5 hl
    subst eJ34_7
    refine pX7 X hP12 hS13 15 (by decide) rfl wd_898 rfl rfl rfl rfl seX7_15 dX7_nextToken_34 (fun H16 lc17 kk18 ekk18 hP19 hS20 => ?_)
    have hf21 := lk_at ekk18 hf15
    clear hf15 hP12 hS13
    refine lv_aload_n hx hb dX7_nextToken_37 rfl (lv_at hl14 0 rfl) ?_
    refine lv_aload_n hx hb dX7_nextToken_38 rfl (lv_at hl14 0 rfl) ?_
    refine gX7 X hP19 12 (v := .int (kk18 246 12)) rfl (by decide) rfl wd_895 dX7_nextToken_39 ?_
    refine lv_aload_n hx hb dX7_nextToken_42 rfl (lv_at hl14 0 rfl) ?_
    refine gX7 X hP19 11 (v := .int (kk18 246 11)) rfl (by decide) rfl wd_894 dX7_nextToken_43 ?_
    obtain ⟨J118_22, eJ118_22, hf131⟩ := jp_at hf21
    clear hf21
    have hJ118_22 : ∀ (J118_22s0 : Int32) (kk23 : Hp) (H24 : Heap) (lc25 : List Loc) (ls26 : Array Slot), J118_22 J118_22s0 kk23 = some ((), k1) → va_P g.1 vwCl (WW g h kk23) H24 → va_S (inA g) s.heap H24 lc25 → lv_has ls26 1 [(0, .ref (g.2.2 246))] → W p l en (rmD 1) s m args below meth c H24 lc25 0 0 (MQ below (QV g h k1) args s 0 0 (inA g)) (F0 m 118 ls26 [.int J118_22s0, .ref (g.2.2 246)]) := by
      intro J118_22s0 kk23 H24 lc25 ls26 hf30 hP27 hS28 hl29
      clear hf131 hP19 hS20 hl14
      subst eJ118_22
      refine pX7 X hP27 hS28 14 (by decide) rfl wd_897 rfl rfl rfl rfl seX7_14 dX7_nextToken_118 (fun H31 lc32 kk33 ekk33 hP34 hS35 => ?_)
      have hf36 := lk_at ekk33 hf30
      clear hf30 hP27 hS28
      refine lv_aload_n hx hb dX7_nextToken_121 rfl (lv_at hl29 0 rfl) ?_
      refine lv_dup hx hb dX7_nextToken_122 rfl ?_
      refine gX7 X hP34 12 (v := .int (kk33 246 12)) rfl (by decide) rfl wd_895 dX7_nextToken_123 ?_
      refine lv_aload_n hx hb dX7_nextToken_126 rfl (lv_at hl29 0 rfl) ?_
      refine gX7 X hP34 12 (v := .int (kk33 246 12)) rfl (by decide) rfl wd_895 dX7_nextToken_127 ?_
      refine lv_aload_n hx hb dX7_nextToken_130 rfl (lv_at hl29 0 rfl) ?_
      refine gX7 X hP34 11 (v := .int (kk33 246 11)) rfl (by decide) rfl wd_894 dX7_nextToken_131 ?_
      obtain ⟨J142_37, eJ142_37, hf127⟩ := jp_at hf36
      clear hf36
      have hJ142_37 : ∀ (J142_37s0 : Int32) (kk38 : Hp) (H39 : Heap) (lc40 : List Loc) (ls41 : Array Slot), J142_37 J142_37s0 kk38 = some ((), k1) → va_P g.1 vwCl (WW g h kk38) H39 → va_S (inA g) s.heap H39 lc40 → lv_has ls41 1 [(0, .ref (g.2.2 246))] → W p l en (rmD 1) s m args below meth c H39 lc40 0 0 (MQ below (QV g h k1) args s 0 0 (inA g)) (F0 m 142 ls41 [.int J142_37s0, .int (kk33 246 12), .ref (g.2.2 246)]) := by
        intro J142_37s0 kk38 H39 lc40 ls41 hf45 hP42 hS43 hl44
        clear hf127 hP34 hS35 hl29
        subst eJ142_37
        refine lv_iadd hx hb dX7_nextToken_142 ?_
        refine pX7 X hP42 hS43 12 (by decide) rfl wd_895 rfl rfl rfl rfl seX7_12 dX7_nextToken_143 (fun H46 lc47 kk48 ekk48 hP49 hS50 => ?_)
        have hf51 := lk_at ekk48 hf45
        clear hf45 hP42 hS43
        refine lv_aload_n hx hb dX7_nextToken_146 rfl (lv_at hl44 0 rfl) ?_
        refine gX7 X hP49 14 (v := .int (kk48 246 14)) rfl (by decide) rfl wd_897 dX7_nextToken_147 ?_
        refine lv_iconst (v := 3) hx hb dX7_nextToken_150 (by decide) ?_
        refine lv_icmp_ne (tgt := 277) hx hb dX7_nextToken_151 (by decide) (fun c52 => ?_) (fun c52 => ?_)
        · have hf53 := if_at_f c52 hf51
          clear hf51
          obtain ⟨-, rfl⟩ := ret_inj hf53
          exact x_vret X hr hlocks hP49 hS50 dX7_nextToken_277
        · have hf54 := if_at_t c52 hf51
          clear hf51
          refine lv_aload_n hx hb dX7_nextToken_154 rfl (lv_at hl44 0 rfl) ?_
          refine lv_dup hx hb dX7_nextToken_155 rfl ?_
          refine gX7 X hP49 15 (v := .int (kk48 246 15)) rfl (by decide) rfl wd_898 dX7_nextToken_156 ?_
          refine lv_bipush (v := 48) hx hb dX7_nextToken_159 (by decide) ?_
          refine lv_isub hx hb dX7_nextToken_161 ?_
          refine pX7 X hP49 hS50 15 (by decide) rfl wd_898 rfl rfl rfl rfl seX7_15 dX7_nextToken_162 (fun H55 lc56 kk57 ekk57 hP58 hS59 => ?_)
          have hf60 := lk_at ekk57 hf54
          clear hf54 hP49 hS50
          refine wX7_nextToken_L165 X hr hlocks  ?_ 4096  kk57 _ _ _  hf60 hP58 hS59 (lv_sub hl44 [0] rfl)
          · intro  kk104 H105 lc106 ls107  hf111 hP108 hS109 hl110
            refine lv_aload_n hx hb dX7_nextToken_255 rfl (lv_at hl110 0 rfl) ?_
            refine lv_aload_n hx hb dX7_nextToken_256 rfl (lv_at hl110 0 rfl) ?_
            refine gX7 X hP108 12 (v := .int (kk104 246 12)) rfl (by decide) rfl wd_895 dX7_nextToken_257 ?_
            refine lv_aload_n hx hb dX7_nextToken_260 rfl (lv_at hl110 0 rfl) ?_
            refine gX7 X hP108 13 (v := .int (kk104 246 13)) rfl (by decide) rfl wd_896 dX7_nextToken_261 ?_
            refine lv_isub hx hb dX7_nextToken_264 ?_
            refine lv_iconst (v := 2) hx hb dX7_nextToken_265 (by decide) ?_
            refine lv_icmp_le (tgt := 273) hx hb dX7_nextToken_266 (by decide) (fun c112 => ?_) (fun c112 => ?_)
            · have hf113 := if_at_t c112 hf111
              clear hf111
              refine lv_iconst (v := 3) hx hb dX7_nextToken_273 (by decide) ?_
              refine pX7 X hP108 hS109 14 (by decide) rfl wd_897 rfl rfl rfl rfl seX7_14 dX7_nextToken_274 (fun H114 lc115 kk116 ekk116 hP117 hS118 => ?_)
              have hf119 := lk_at ekk116 hf113
              clear hf113 hP108 hS109
              obtain ⟨-, rfl⟩ := ret_inj hf119
              exact x_vret X hr hlocks hP117 hS118 dX7_nextToken_277
            · have hf120 := if_at_f c112 hf111
              clear hf111
              refine lv_iconst (v := 0) hx hb dX7_nextToken_269 (by decide) ?_
              refine lv_goto (tgt := 274) hx hb dX7_nextToken_270 (by decide) ?_
              refine pX7 X hP108 hS109 14 (by decide) rfl wd_897 rfl rfl rfl rfl seX7_14 dX7_nextToken_274 (fun H121 lc122 kk123 ekk123 hP124 hS125 => ?_)
              have hf126 := lk_at ekk123 hf120
              clear hf120 hP108 hS109
              obtain ⟨-, rfl⟩ := ret_inj hf126
              exact x_vret X hr hlocks hP124 hS125 dX7_nextToken_277
      clear eJ142_37
      refine lv_icmp_ge (tgt := 141) hx hb dX7_nextToken_134 (by decide) (fun c128 => ?_) (fun c128 => ?_)
      · have hf129 := if_at_t c128 hf127
        clear hf127
        refine lv_iconst (v := 0) hx hb dX7_nextToken_141 (by decide) ?_
        exact hJ142_37 (0 : Int32) kk33  _ _ _ hf129 hP34 hS35 (lv_sub hl29 [0] rfl)
      · have hf130 := if_at_f c128 hf127
        clear hf127
        refine lv_iconst (v := 1) hx hb dX7_nextToken_137 (by decide) ?_
        refine lv_goto (tgt := 142) hx hb dX7_nextToken_138 (by decide) ?_
        exact hJ142_37 (1 : Int32) kk33  _ _ _ hf130 hP34 hS35 (lv_sub hl29 [0] rfl)
    clear eJ118_22
    refine lv_icmp_ne (tgt := 53) hx hb dX7_nextToken_46 (by decide) (fun c132 => ?_) (fun c132 => ?_)
    · have hf133 := if_at_f c132 hf131
      clear hf131
      refine lv_aload_n hx hb dX7_nextToken_53 rfl (lv_at hl14 0 rfl) ?_
      refine gX7 X hP19 15 (v := .int (kk18 246 15)) rfl (by decide) rfl wd_898 dX7_nextToken_54 ?_
      refine lv_i2l hx hb dX7_nextToken_57 rfl ?_
      refine lv_ldc2 (v := 97) hx hb X.2.2.2.1 (X.2.2.2.2.1 _ wd_1010) dX7_nextToken_58 ?_
      refine lv_ldc2 (v := 122) hx hb X.2.2.2.1 (X.2.2.2.2.1 _ wd_1011) dX7_nextToken_61 ?_
      obtain ⟨x134, kk135, hg141, hf140⟩ := bd_some hf133
      refine x_ci (x_runS (As := [.long ((kk18 246 15).toInt64), .long (97 : Int64), .long (122 : Int64)]) (rest := [.ref (g.2.2 246)]) X hP19 hS20 (tX7_in l X.2.2.2.2.2.2.1  hg141) mi_X7_57 rfl hl14.1 rfl (Nat.le_of_ble_eq_true rfl) dX7_nextToken_64 ⟨Nat.le_of_ble_eq_true rfl, Nat.le_of_ble_eq_true rfl⟩ ⟨Nat.zero_le _, Nat.zero_le _⟩) hS20 (fun H136 lc137 hP138 hS139 => ?_)
      clear hf133 hP19 hS20 hg141
      refine lv_if_eq (tgt := 74) hx hb dX7_nextToken_67 (by decide) (fun c142 => ?_) (fun c142 => ?_)
      · have hf143 := if_at_t c142 hf140
        clear hf140
        refine lv_aload_n hx hb dX7_nextToken_74 rfl (lv_at hl14 0 rfl) ?_
        refine gX7 X hP138 15 (v := .int (kk135 246 15)) rfl (by decide) rfl wd_898 dX7_nextToken_75 ?_
        refine lv_i2l hx hb dX7_nextToken_78 rfl ?_
        refine lv_ldc2 (v := 48) hx hb X.2.2.2.1 (X.2.2.2.2.1 _ wd_1012) dX7_nextToken_79 ?_
        refine lv_ldc2 (v := 57) hx hb X.2.2.2.1 (X.2.2.2.2.1 _ wd_1013) dX7_nextToken_82 ?_
        obtain ⟨x144, kk145, hg151, hf150⟩ := bd_some hf143
        refine x_ci (x_runS (As := [.long ((kk135 246 15).toInt64), .long (48 : Int64), .long (57 : Int64)]) (rest := [.ref (g.2.2 246)]) X hP138 hS139 (tX7_in l X.2.2.2.2.2.2.1  hg151) mi_X7_57 rfl hl14.1 rfl (Nat.le_of_ble_eq_true rfl) dX7_nextToken_85 ⟨Nat.le_of_ble_eq_true rfl, Nat.le_of_ble_eq_true rfl⟩ ⟨Nat.zero_le _, Nat.zero_le _⟩) hS139 (fun H146 lc147 hP148 hS149 => ?_)
        clear hf143 hP138 hS139 hg151
        refine lv_if_eq (tgt := 95) hx hb dX7_nextToken_88 (by decide) (fun c152 => ?_) (fun c152 => ?_)
        · have hf153 := if_at_t c152 hf150
          clear hf150
          refine lv_aload_n hx hb dX7_nextToken_95 rfl (lv_at hl14 0 rfl) ?_
          refine gX7 X hP148 15 (v := .int (kk145 246 15)) rfl (by decide) rfl wd_898 dX7_nextToken_96 ?_
          refine lv_bipush (v := 44) hx hb dX7_nextToken_99 (by decide) ?_
          obtain ⟨J113_154, eJ113_154, hf163⟩ := jp_at hf153
          clear hf153
          have hJ113_154 : ∀  (kk155 : Hp) (H156 : Heap) (lc157 : List Loc) (ls158 : Array Slot), J113_154  kk155 = some ((), k1) → va_P g.1 vwCl (WW g h kk155) H156 → va_S (inA g) s.heap H156 lc157 → lv_has ls158 1 [(0, .ref (g.2.2 246))] → W p l en (rmD 1) s m args below meth c H156 lc157 0 0 (MQ below (QV g h k1) args s 0 0 (inA g)) (F0 m 113 ls158 [.ref (g.2.2 246)]) := by
            intro  kk155 H156 lc157 ls158 hf162 hP159 hS160 hl161
            clear hf163 hP148 hS149 hl14
            subst eJ113_154
            refine lv_iconst (v := 4) hx hb dX7_nextToken_113 (by decide) ?_
            refine lv_goto (tgt := 118) hx hb dX7_nextToken_114 (by decide) ?_
            exact hJ118_22 (4 : Int32) kk155  _ _ _ hf162 hP159 hS160 (lv_sub hl161 [0] rfl)
          clear eJ113_154
          refine lv_icmp_eq (tgt := 113) hx hb dX7_nextToken_101 (by decide) (fun c164 => ?_) (fun c164 => ?_)
          · have hf165 := if_at_t c164 hf163
            clear hf163
            exact hJ113_154 kk145  _ _ _ hf165 hP148 hS149 (lv_sub hl14 [0] rfl)
          · have hf166 := if_at_f c164 hf163
            clear hf163
            refine lv_aload_n hx hb dX7_nextToken_104 rfl (lv_at hl14 0 rfl) ?_
            refine gX7 X hP148 15 (v := .int (kk145 246 15)) rfl (by decide) rfl wd_898 dX7_nextToken_105 ?_
            refine lv_bipush (v := 59) hx hb dX7_nextToken_108 (by decide) ?_
            refine lv_icmp_ne (tgt := 117) hx hb dX7_nextToken_110 (by decide) (fun c167 => ?_) (fun c167 => ?_)
            · have hf168 := if_at_f c167 hf166
              clear hf166
              refine lv_iconst (v := 0) hx hb dX7_nextToken_117 (by decide) ?_
              exact hJ118_22 (0 : Int32) kk145  _ _ _ hf168 hP148 hS149 (lv_sub hl14 [0] rfl)
            · have hf169 := if_at_t c167 hf166
              clear hf166
              exact hJ113_154 kk145  _ _ _ hf169 hP148 hS149 (lv_sub hl14 [0] rfl)
        · have hf170 := if_at_f c152 hf150
          clear hf150
          refine lv_iconst (v := 3) hx hb dX7_nextToken_91 (by decide) ?_
          refine lv_goto (tgt := 118) hx hb dX7_nextToken_92 (by decide) ?_
          exact hJ118_22 (3 : Int32) kk145  _ _ _ hf170 hP148 hS149 (lv_sub hl14 [0] rfl)
      · have hf171 := if_at_f c142 hf140
        clear hf140
        refine lv_iconst (v := 2) hx hb dX7_nextToken_70 (by decide) ?_
        refine lv_goto (tgt := 118) hx hb dX7_nextToken_71 (by decide) ?_
        exact hJ118_22 (2 : Int32) kk135  _ _ _ hf171 hP138 hS139 (lv_sub hl14 [0] rfl)
    · have hf172 := if_at_t c132 hf131
      clear hf131
      refine lv_iconst (v := 1) hx hb dX7_nextToken_49 (by decide) ?_
      refine lv_goto (tgt := 118) hx hb dX7_nextToken_50 (by decide) ?_
      exact hJ118_22 (1 : Int32) kk18  _ _ _ hf172 hP19 hS20 (lv_sub hl14 [0] rfl)
  clear eJ34_7
  refine lv_icmp_ge (tgt := 32) hx hb dX7_nextToken_17 (by decide) (fun c174 => ?_) (fun c174 => ?_)
  · have hf175 := if_at_t c174 hf173
    clear hf173
    refine lv_ldc (v := -1000000) hx hb X.2.2.2.1 (X.2.2.2.2.1 _ wd_1009) dX7_nextToken_32 ?_
    exact hJ34_7 (-1000000 : Int32) kk3  _ _ _ hf175 hP4 hS5 (lv_sub hl [0] rfl)
  · have hf176 := if_at_f c174 hf173
    clear hf173
    refine lv_aload_n hx hb dX7_nextToken_20 rfl (lv_at hl 0 rfl) ?_
    refine gX7 X hP4 10 (v := .ref (g.2.2 254)) rfl (by decide) rfl wd_893 dX7_nextToken_21 ?_
    refine lv_aload_n hx hb dX7_nextToken_24 rfl (lv_at hl 0 rfl) ?_
    refine gX7 X hP4 12 (v := .int (kk3 246 12)) rfl (by decide) rfl wd_895 dX7_nextToken_25 ?_
    obtain ⟨hc177, hf178⟩ := chk_some hf176
    refine x_ildM X hP4 254 rfl hc177 dX7_nextToken_28 ?_
    refine lv_goto (tgt := 34) hx hb dX7_nextToken_29 (by decide) ?_
    exact hJ34_7 (kk3 254 (kk3 246 12).toNatClampNeg) kk3  _ _ _ hf178 hP4 hS5 (lv_sub hl [0] rfl)
set_option maxRecDepth 100000 in
set_option maxHeartbeats 4000000 in
theorem tX7_must (l : Launch) {g : Gx} (hI : InjG g) {h k k1 : Hp} {a1 : Int32}   (hf : fX7_must a1 k = some ((), k1)) : CV l yX7_must cX7_must 2 none 2 g [.ref (g.2.2 246), .int a1] h k h k1 := by
  refine Met.ofW (cc := cX7_must) (maxL := 2) (ret := none) (by decide) rfl ?_
  intro p en s m args below meth c s₁ B hml hv
  obtain ⟨rfl, hSK, hSH, hP⟩ := hv
  have X : Cx p s m _ c cX7_must 2 RX7 g := ⟨B.exec, B.bytes, hml, findClass_of_methodNamed B.named, fun w hw => atoms_spec (ws := wsy yX7_must cX7_must 2 none) B.pre w (List.mem_cons_of_mem _ hw), hSK, hI, hSH⟩
  have hr := B.returns
  have hlocks := B.notSynchronized
  have hx := X.1
  have hb := X.2.1
  have hS : va_S (inA g) s.heap s.heap [] := va_S.rf
  clear hSK hSH hml B
  have hl := lv_entry ([.ref (g.2.2 246), .int a1]) (n := 2) (Nat.le_of_ble_eq_true rfl)
  rw [lg_entry_eq]
  generalize (lg_sl ([.ref (g.2.2 246), .int a1]) ++ List.replicate (2 - (lg_sl ([.ref (g.2.2 246), .int a1])).length) Slot.unset).toArray = ls at hl ⊢
  have hl : lv_has ls 2 [(0, .ref (g.2.2 246)), (1, .int a1)] := hl
  generalize ([.ref (g.2.2 246), .int a1] : List Value).toArray = args at X ⊢
  show W p l en (rmD 2) s m args below meth c s.heap [] 0 0 (MQ below (QV g h k1) args s 0 0 (inA g)) (F0 m 0 ls [])
  unfold fX7_must at hf
  refine lv_iload_n hx hb dX7_must_0 rfl (lv_at hl 1 rfl) ?_
  obtain ⟨J9_1, eJ9_1, hf21⟩ := jp_at hf
  clear hf
  have hJ9_1 : ∀  (kk2 : Hp) (H3 : Heap) (lc4 : List Loc) (ls5 : Array Slot), J9_1  kk2 = some ((), k1) → va_P g.1 vwCl (WW g h kk2) H3 → va_S (inA g) s.heap H3 lc4 → lv_has ls5 2 [(0, .ref (g.2.2 246))] → W p l en (rmD 2) s m args below meth c H3 lc4 0 0 (MQ below (QV g h k1) args s 0 0 (inA g)) (F0 m 9 ls5 []) := by
    intro  kk2 H3 lc4 ls5 hf9 hP6 hS7 hl8
    clear hf21 hP hS hl
    subst eJ9_1
    refine lv_aload_n hx hb dX7_must_9 rfl (lv_at hl8 0 rfl) ?_
    refine gX7 X hP6 16 (v := .int (kk2 246 16)) rfl (by decide) rfl wd_899 dX7_must_10 ?_
    refine lv_if_ne (tgt := 20) hx hb dX7_must_13 (by decide) (fun c10 => ?_) (fun c10 => ?_)
    · have hf11 := if_at_f c10 hf9
      clear hf9
      obtain ⟨-, rfl⟩ := ret_inj hf11
      exact x_vret X hr hlocks hP6 hS7 dX7_must_20
    · have hf12 := if_at_t c10 hf9
      clear hf9
      refine lv_aload_n hx hb dX7_must_16 rfl (lv_at hl8 0 rfl) ?_
      obtain ⟨⟨⟩, kk14, hg20, hf19⟩ := bd_some hf12
      refine x_cv (x_runV (As := []) (rest := []) X hP6 hS7 246 (by decide) cl_M rfl (tX7_nextToken l X.2.2.2.2.2.2.1  hg20) mi_X7_109 rfl hl8.1 rfl (Nat.le_of_ble_eq_true rfl) dX7_must_17 ⟨Nat.le_of_ble_eq_true rfl, Nat.le_of_ble_eq_true rfl⟩ ⟨Nat.zero_le _, Nat.zero_le _⟩) hS7 (fun H15 lc16 hP17 hS18 => ?_)
      clear hf12 hP6 hS7 hg20
      obtain ⟨-, rfl⟩ := ret_inj hf19
      exact x_vret X hr hlocks hP17 hS18 dX7_must_20
  clear eJ9_1
  refine lv_if_ne (tgt := 9) hx hb dX7_must_1 (by decide) (fun c22 => ?_) (fun c22 => ?_)
  · have hf23 := if_at_f c22 hf21
    clear hf21
    exact hJ9_1 k  _ _ _ hf23 hP hS (lv_sub hl [0] rfl)
  · have hf24 := if_at_t c22 hf21
    clear hf21
    refine lv_aload_n hx hb dX7_must_4 rfl (lv_at hl 0 rfl) ?_
    refine lv_iconst (v := 1) hx hb dX7_must_5 (by decide) ?_
    obtain ⟨⟨⟩, kk26, hg32, hf31⟩ := bd_some hf24
    refine x_cv (x_runV (As := [.int (1 : Int32)]) (rest := []) X hP hS 246 (by decide) cl_M rfl (tX7_bad l X.2.2.2.2.2.2.1  hg32) mi_X7_105 rfl hl.1 rfl (Nat.le_of_ble_eq_true rfl) dX7_must_6 ⟨Nat.le_of_ble_eq_true rfl, Nat.le_of_ble_eq_true rfl⟩ ⟨Nat.zero_le _, Nat.zero_le _⟩) hS (fun H27 lc28 hP29 hS30 => ?_)
    clear hf24 hP hS hg32
    exact hJ9_1 kk26  _ _ _ hf31 hP29 hS30 (lv_sub hl [0] rfl)
set_option maxRecDepth 100000 in
set_option maxHeartbeats 4000000 in
theorem tX7_isLetter (l : Launch) {g : Gx} (hI : InjG g) {h k k1 : Hp} {a1 : Int32} {r : Int32}   (hf : fX7_isLetter a1 k = some (r, k1)) : CI l yX7_isLetter cX7_isLetter 2 (some .boolean) 0 g [.ref (g.2.2 246), .int a1] h k h k1 r := by
  refine Met.ofW (cc := cX7_isLetter) (maxL := 2) (ret := (some .boolean)) (by decide) rfl ?_
  intro p en s m args below meth c s₁ B hml hv
  obtain ⟨rfl, hSK, hSH, hP⟩ := hv
  have X : Cx p s m _ c cX7_isLetter 2 RX7 g := ⟨B.exec, B.bytes, hml, findClass_of_methodNamed B.named, fun w hw => atoms_spec (ws := wsy yX7_isLetter cX7_isLetter 2 (some .boolean)) B.pre w (List.mem_cons_of_mem _ hw), hSK, hI, hSH⟩
  have hr := B.returns
  have hlocks := B.notSynchronized
  have hx := X.1
  have hb := X.2.1
  have hS : va_S (inA g) s.heap s.heap [] := va_S.rf
  clear hSK hSH hml B
  have hl := lv_entry ([.ref (g.2.2 246), .int a1]) (n := 2) (Nat.le_of_ble_eq_true rfl)
  rw [lg_entry_eq]
  generalize (lg_sl ([.ref (g.2.2 246), .int a1]) ++ List.replicate (2 - (lg_sl ([.ref (g.2.2 246), .int a1])).length) Slot.unset).toArray = ls at hl ⊢
  have hl : lv_has ls 2 [(0, .ref (g.2.2 246)), (1, .int a1)] := hl
  generalize ([.ref (g.2.2 246), .int a1] : List Value).toArray = args at X ⊢
  show W p l en (rmD 0) s m args below meth c s.heap [] 0 0 (MQ below (QI g h k1 r) args s 0 0 (inA g)) (F0 m 0 ls [])
  unfold fX7_isLetter at hf
  refine lv_aload_n hx hb dX7_isLetter_0 rfl (lv_at hl 0 rfl) ?_
  refine gX7 X hP 16 (v := .int (k 246 16)) rfl (by decide) rfl wd_899 dX7_isLetter_1 ?_
  refine lv_if_ne (tgt := 27) hx hb dX7_isLetter_4 (by decide) (fun c1 => ?_) (fun c1 => ?_)
  · have hf2 := if_at_f c1 hf
    clear hf
    refine lv_iconst (v := 0) hx hb dX7_isLetter_27 (by decide) ?_
    obtain ⟨rfl, rfl⟩ := ret_inj hf2
    exact x_zret X hr hlocks rfl hP hS dX7_isLetter_28
  · have hf3 := if_at_t c1 hf
    clear hf
    refine lv_aload_n hx hb dX7_isLetter_7 rfl (lv_at hl 0 rfl) ?_
    refine gX7 X hP 14 (v := .int (k 246 14)) rfl (by decide) rfl wd_897 dX7_isLetter_8 ?_
    refine lv_iconst (v := 2) hx hb dX7_isLetter_11 (by decide) ?_
    refine lv_icmp_ne (tgt := 27) hx hb dX7_isLetter_12 (by decide) (fun c4 => ?_) (fun c4 => ?_)
    · have hf5 := if_at_f c4 hf3
      clear hf3
      refine lv_iconst (v := 0) hx hb dX7_isLetter_27 (by decide) ?_
      obtain ⟨rfl, rfl⟩ := ret_inj hf5
      exact x_zret X hr hlocks rfl hP hS dX7_isLetter_28
    · have hf6 := if_at_t c4 hf3
      clear hf3
      refine lv_aload_n hx hb dX7_isLetter_15 rfl (lv_at hl 0 rfl) ?_
      refine gX7 X hP 15 (v := .int (k 246 15)) rfl (by decide) rfl wd_898 dX7_isLetter_16 ?_
      refine lv_iload_n hx hb dX7_isLetter_19 rfl (lv_at hl 1 rfl) ?_
      refine lv_icmp_ne (tgt := 27) hx hb dX7_isLetter_20 (by decide) (fun c7 => ?_) (fun c7 => ?_)
      · have hf8 := if_at_f c7 hf6
        clear hf6
        refine lv_iconst (v := 0) hx hb dX7_isLetter_27 (by decide) ?_
        obtain ⟨rfl, rfl⟩ := ret_inj hf8
        exact x_zret X hr hlocks rfl hP hS dX7_isLetter_28
      · have hf9 := if_at_t c7 hf6
        clear hf6
        refine lv_iconst (v := 1) hx hb dX7_isLetter_23 (by decide) ?_
        refine lv_goto (tgt := 28) hx hb dX7_isLetter_24 (by decide) ?_
        obtain ⟨rfl, rfl⟩ := ret_inj hf9
        exact x_zret X hr hlocks rfl hP hS dX7_isLetter_28
set_option maxRecDepth 100000 in
set_option maxHeartbeats 4000000 in
theorem tX7_number (l : Launch) {g : Gx} (hI : InjG g) {h k k1 : Hp} {a1 : Int32} {a2 : Int32} {r : Int32}   (hf : fX7_number a1 a2 k = some (r, k1)) : CI l yX7_number cX7_number 4 (some .int) 3 g [.ref (g.2.2 246), .int a1, .int a2] h k h k1 r := by
  refine Met.ofW (cc := cX7_number) (maxL := 4) (ret := (some .int)) (by decide) rfl ?_
  intro p en s m args below meth c s₁ B hml hv
  obtain ⟨rfl, hSK, hSH, hP⟩ := hv
  have X : Cx p s m _ c cX7_number 4 RX7 g := ⟨B.exec, B.bytes, hml, findClass_of_methodNamed B.named, fun w hw => atoms_spec (ws := wsy yX7_number cX7_number 4 (some .int)) B.pre w (List.mem_cons_of_mem _ hw), hSK, hI, hSH⟩
  have hr := B.returns
  have hlocks := B.notSynchronized
  have hx := X.1
  have hb := X.2.1
  have hS : va_S (inA g) s.heap s.heap [] := va_S.rf
  clear hSK hSH hml B
  have hl := lv_entry ([.ref (g.2.2 246), .int a1, .int a2]) (n := 4) (Nat.le_of_ble_eq_true rfl)
  rw [lg_entry_eq]
  generalize (lg_sl ([.ref (g.2.2 246), .int a1, .int a2]) ++ List.replicate (4 - (lg_sl ([.ref (g.2.2 246), .int a1, .int a2])).length) Slot.unset).toArray = ls at hl ⊢
  have hl : lv_has ls 4 [(0, .ref (g.2.2 246)), (1, .int a1), (2, .int a2)] := hl
  generalize ([.ref (g.2.2 246), .int a1, .int a2] : List Value).toArray = args at X ⊢
  show W p l en (rmD 3) s m args below meth c s.heap [] 0 0 (MQ below (QI g h k1 r) args s 0 0 (inA g)) (F0 m 0 ls [])
  unfold fX7_number at hf
  refine lv_aload_n hx hb dX7_number_0 rfl (lv_at hl 0 rfl) ?_
  refine gX7 X hP 16 (v := .int (k 246 16)) rfl (by decide) rfl wd_899 dX7_number_1 ?_
  obtain ⟨J20_1, eJ20_1, hf65⟩ := jp_at hf
  clear hf
  have hJ20_1 : ∀  (kk2 : Hp) (H3 : Heap) (lc4 : List Loc) (ls5 : Array Slot), J20_1  kk2 = some (r, k1) → va_P g.1 vwCl (WW g h kk2) H3 → va_S (inA g) s.heap H3 lc4 → lv_has ls5 4 [(0, .ref (g.2.2 246)), (1, .int a1), (2, .int a2)] → W p l en (rmD 3) s m args below meth c H3 lc4 0 0 (MQ below (QI g h k1 r) args s 0 0 (inA g)) (F0 m 20 ls5 []) := by
    intro  kk2 H3 lc4 ls5 hf9 hP6 hS7 hl8
    clear hf65 hP hS hl
    subst eJ20_1
    refine lv_aload_n hx hb dX7_number_20 rfl (lv_at hl8 0 rfl) ?_
    refine gX7 X hP6 16 (v := .int (kk2 246 16)) rfl (by decide) rfl wd_899 dX7_number_21 ?_
    obtain ⟨J47_10, eJ47_10, hf42⟩ := jp_at hf9
    clear hf9
    have hJ47_10 : ∀  (kk11 : Hp) (H12 : Heap) (lc13 : List Loc) (ls14 : Array Slot), J47_10  kk11 = some (r, k1) → va_P g.1 vwCl (WW g h kk11) H12 → va_S (inA g) s.heap H12 lc13 → lv_has ls14 4 [(0, .ref (g.2.2 246)), (1, .int a1)] → W p l en (rmD 3) s m args below meth c H12 lc13 0 0 (MQ below (QI g h k1 r) args s 0 0 (inA g)) (F0 m 47 ls14 []) := by
      intro  kk11 H12 lc13 ls14 hf18 hP15 hS16 hl17
      clear hf42 hP6 hS7 hl8
      subst eJ47_10
      refine lv_aload_n hx hb dX7_number_47 rfl (lv_at hl17 0 rfl) ?_
      refine gX7 X hP15 16 (v := .int (kk11 246 16)) rfl (by decide) rfl wd_899 dX7_number_48 ?_
      obtain ⟨J62_19, eJ62_19, hf38⟩ := jp_at hf18
      clear hf18
      have hJ62_19 : ∀ (J62_19s0 : Int32) (kk20 : Hp) (H21 : Heap) (lc22 : List Loc) (ls23 : Array Slot), J62_19 J62_19s0 kk20 = some (r, k1) → va_P g.1 vwCl (WW g h kk20) H21 → va_S (inA g) s.heap H21 lc22 → lv_has ls23 4 [(0, .ref (g.2.2 246))] → W p l en (rmD 3) s m args below meth c H21 lc22 0 0 (MQ below (QI g h k1 r) args s 0 0 (inA g)) (F0 m 62 ls23 [.int J62_19s0]) := by
        intro J62_19s0 kk20 H21 lc22 ls23 hf27 hP24 hS25 hl26
        clear hf38 hP15 hS16 hl17
        subst eJ62_19
        refine lv_istore_n (lv' := [(3, .int J62_19s0), (0, .ref (g.2.2 246))]) hx hb dX7_number_62 rfl hl26 (by decide) rfl (fun ls28 hl29 => ?_)
        clear hl26
        refine lv_aload_n hx hb dX7_number_63 rfl (lv_at hl29 1 rfl) ?_
        refine lv_iconst (v := 1) hx hb dX7_number_64 (by decide) ?_
        obtain ⟨⟨⟩, kk31, hg37, hf36⟩ := bd_some hf27
        refine x_cv (x_runV (As := [.int (1 : Int32)]) (rest := []) X hP24 hS25 246 (by decide) cl_M rfl (tX7_must l X.2.2.2.2.2.2.1  hg37) mi_X7_112 rfl hl29.1 rfl (Nat.le_of_ble_eq_true rfl) dX7_number_65 ⟨Nat.le_of_ble_eq_true rfl, Nat.le_of_ble_eq_true rfl⟩ ⟨Nat.zero_le _, Nat.zero_le _⟩) hS25 (fun H32 lc33 hP34 hS35 => ?_)
        clear hf27 hP24 hS25 hg37
        refine lv_iload_n hx hb dX7_number_68 rfl (lv_at hl29 0 rfl) ?_
        obtain ⟨rfl, rfl⟩ := ret_inj hf36
        exact x_iret X hr hlocks hP34 hS35 dX7_number_69
      clear eJ62_19
      refine lv_if_ne (tgt := 61) hx hb dX7_number_51 (by decide) (fun c39 => ?_) (fun c39 => ?_)
      · have hf40 := if_at_f c39 hf38
        clear hf38
        refine lv_iload_n hx hb dX7_number_61 rfl (lv_at hl17 1 rfl) ?_
        exact hJ62_19 a1 kk11  _ _ _ hf40 hP15 hS16 (lv_sub hl17 [0] rfl)
      · have hf41 := if_at_t c39 hf38
        clear hf38
        refine lv_aload_n hx hb dX7_number_54 rfl (lv_at hl17 0 rfl) ?_
        refine gX7 X hP15 15 (v := .int (kk11 246 15)) rfl (by decide) rfl wd_898 dX7_number_55 ?_
        refine lv_goto (tgt := 62) hx hb dX7_number_58 (by decide) ?_
        exact hJ62_19 (kk11 246 15) kk11  _ _ _ hf41 hP15 hS16 (lv_sub hl17 [0] rfl)
    clear eJ47_10
    refine lv_if_ne (tgt := 47) hx hb dX7_number_24 (by decide) (fun c43 => ?_) (fun c43 => ?_)
    · have hf44 := if_at_f c43 hf42
      clear hf42
      exact hJ47_10 kk2  _ _ _ hf44 hP6 hS7 (lv_sub hl8 [0, 1] rfl)
    · have hf45 := if_at_t c43 hf42
      clear hf42
      refine lv_aload_n hx hb dX7_number_27 rfl (lv_at hl8 0 rfl) ?_
      refine gX7 X hP6 15 (v := .int (kk2 246 15)) rfl (by decide) rfl wd_898 dX7_number_28 ?_
      refine lv_i2l hx hb dX7_number_31 rfl ?_
      refine lv_iload_n hx hb dX7_number_32 rfl (lv_at hl8 1 rfl) ?_
      refine lv_i2l hx hb dX7_number_33 rfl ?_
      refine lv_iload_n hx hb dX7_number_34 rfl (lv_at hl8 2 rfl) ?_
      refine lv_i2l hx hb dX7_number_35 rfl ?_
      obtain ⟨x46, kk47, hg53, hf52⟩ := bd_some hf45
      refine x_ci (x_runS (As := [.long ((kk2 246 15).toInt64), .long a1.toInt64, .long a2.toInt64]) (rest := []) X hP6 hS7 (tX7_in l X.2.2.2.2.2.2.1  hg53) mi_X7_57 rfl hl8.1 rfl (Nat.le_of_ble_eq_true rfl) dX7_number_36 ⟨Nat.le_of_ble_eq_true rfl, Nat.le_of_ble_eq_true rfl⟩ ⟨Nat.zero_le _, Nat.zero_le _⟩) hS7 (fun H48 lc49 hP50 hS51 => ?_)
      clear hf45 hP6 hS7 hg53
      refine lv_if_ne (tgt := 47) hx hb dX7_number_39 (by decide) (fun c54 => ?_) (fun c54 => ?_)
      · have hf55 := if_at_f c54 hf52
        clear hf52
        exact hJ47_10 kk47  _ _ _ hf55 hP50 hS51 (lv_sub hl8 [0, 1] rfl)
      · have hf56 := if_at_t c54 hf52
        clear hf52
        refine lv_aload_n hx hb dX7_number_42 rfl (lv_at hl8 0 rfl) ?_
        refine lv_iconst (v := 2) hx hb dX7_number_43 (by decide) ?_
        obtain ⟨⟨⟩, kk58, hg64, hf63⟩ := bd_some hf56
        refine x_cv (x_runV (As := [.int (2 : Int32)]) (rest := []) X hP50 hS51 246 (by decide) cl_M rfl (tX7_bad l X.2.2.2.2.2.2.1  hg64) mi_X7_105 rfl hl8.1 rfl (Nat.le_of_ble_eq_true rfl) dX7_number_44 ⟨Nat.le_of_ble_eq_true rfl, Nat.le_of_ble_eq_true rfl⟩ ⟨Nat.zero_le _, Nat.zero_le _⟩) hS51 (fun H59 lc60 hP61 hS62 => ?_)
        clear hf56 hP50 hS51 hg64
        exact hJ47_10 kk58  _ _ _ hf63 hP61 hS62 (lv_sub hl8 [0, 1] rfl)
  clear eJ20_1
  refine lv_if_ne (tgt := 20) hx hb dX7_number_4 (by decide) (fun c66 => ?_) (fun c66 => ?_)
  · have hf67 := if_at_f c66 hf65
    clear hf65
    exact hJ20_1 k  _ _ _ hf67 hP hS (lv_sub hl [0, 1, 2] rfl)
  · have hf68 := if_at_t c66 hf65
    clear hf65
    refine lv_aload_n hx hb dX7_number_7 rfl (lv_at hl 0 rfl) ?_
    refine gX7 X hP 14 (v := .int (k 246 14)) rfl (by decide) rfl wd_897 dX7_number_8 ?_
    refine lv_iconst (v := 3) hx hb dX7_number_11 (by decide) ?_
    refine lv_icmp_eq (tgt := 20) hx hb dX7_number_12 (by decide) (fun c69 => ?_) (fun c69 => ?_)
    · have hf70 := if_at_t c69 hf68
      clear hf68
      exact hJ20_1 k  _ _ _ hf70 hP hS (lv_sub hl [0, 1, 2] rfl)
    · have hf71 := if_at_f c69 hf68
      clear hf68
      refine lv_aload_n hx hb dX7_number_15 rfl (lv_at hl 0 rfl) ?_
      refine lv_iconst (v := 1) hx hb dX7_number_16 (by decide) ?_
      obtain ⟨⟨⟩, kk73, hg79, hf78⟩ := bd_some hf71
      refine x_cv (x_runV (As := [.int (1 : Int32)]) (rest := []) X hP hS 246 (by decide) cl_M rfl (tX7_bad l X.2.2.2.2.2.2.1  hg79) mi_X7_105 rfl hl.1 rfl (Nat.le_of_ble_eq_true rfl) dX7_number_17 ⟨Nat.le_of_ble_eq_true rfl, Nat.le_of_ble_eq_true rfl⟩ ⟨Nat.zero_le _, Nat.zero_le _⟩) hS (fun H74 lc75 hP76 hS77 => ?_)
      clear hf71 hP hS hg79
      exact hJ20_1 kk73  _ _ _ hf78 hP76 hS77 (lv_sub hl [0, 1, 2] rfl)
set_option maxRecDepth 100000 in
set_option maxHeartbeats 4000000 in
theorem tX7_mustSign (l : Launch) {g : Gx} (hI : InjG g) {h k k1 : Hp} {a1 : Int32}   (hf : fX7_mustSign a1 k = some ((), k1)) : CV l yX7_mustSign cX7_mustSign 2 none 3 g [.ref (g.2.2 246), .int a1] h k h k1 := by
  refine Met.ofW (cc := cX7_mustSign) (maxL := 2) (ret := none) (by decide) rfl ?_
  intro p en s m args below meth c s₁ B hml hv
  obtain ⟨rfl, hSK, hSH, hP⟩ := hv
  have X : Cx p s m _ c cX7_mustSign 2 RX7 g := ⟨B.exec, B.bytes, hml, findClass_of_methodNamed B.named, fun w hw => atoms_spec (ws := wsy yX7_mustSign cX7_mustSign 2 none) B.pre w (List.mem_cons_of_mem _ hw), hSK, hI, hSH⟩
  have hr := B.returns
  have hlocks := B.notSynchronized
  have hx := X.1
  have hb := X.2.1
  have hS : va_S (inA g) s.heap s.heap [] := va_S.rf
  clear hSK hSH hml B
  have hl := lv_entry ([.ref (g.2.2 246), .int a1]) (n := 2) (Nat.le_of_ble_eq_true rfl)
  rw [lg_entry_eq]
  generalize (lg_sl ([.ref (g.2.2 246), .int a1]) ++ List.replicate (2 - (lg_sl ([.ref (g.2.2 246), .int a1])).length) Slot.unset).toArray = ls at hl ⊢
  have hl : lv_has ls 2 [(0, .ref (g.2.2 246)), (1, .int a1)] := hl
  generalize ([.ref (g.2.2 246), .int a1] : List Value).toArray = args at X ⊢
  show W p l en (rmD 3) s m args below meth c s.heap [] 0 0 (MQ below (QV g h k1) args s 0 0 (inA g)) (F0 m 0 ls [])
  unfold fX7_mustSign at hf
  refine lv_aload_n hx hb dX7_mustSign_0 rfl (lv_at hl 0 rfl) ?_
  refine lv_aload_n hx hb dX7_mustSign_1 rfl (lv_at hl 0 rfl) ?_
  refine gX7 X hP 14 (v := .int (k 246 14)) rfl (by decide) rfl wd_897 dX7_mustSign_2 ?_
  refine lv_iconst (v := 4) hx hb dX7_mustSign_5 (by decide) ?_
  obtain ⟨J22_1, eJ22_1, hf18⟩ := jp_at hf
  clear hf
  have hJ22_1 : ∀ (J22_1s0 : Int32) (kk2 : Hp) (H3 : Heap) (lc4 : List Loc) (ls5 : Array Slot), J22_1 J22_1s0 kk2 = some ((), k1) → va_P g.1 vwCl (WW g h kk2) H3 → va_S (inA g) s.heap H3 lc4 → lv_has ls5 2 [] → W p l en (rmD 3) s m args below meth c H3 lc4 0 0 (MQ below (QV g h k1) args s 0 0 (inA g)) (F0 m 22 ls5 [.int J22_1s0, .ref (g.2.2 246)]) := by
    intro J22_1s0 kk2 H3 lc4 ls5 hf9 hP6 hS7 hl8
    clear hf18 hP hS hl
    subst eJ22_1
    obtain ⟨⟨⟩, kk11, hg17, hf16⟩ := bd_some hf9
    refine x_cv (x_runV (As := [.int J22_1s0]) (rest := []) X hP6 hS7 246 (by decide) cl_M rfl (tX7_must l X.2.2.2.2.2.2.1  hg17) mi_X7_112 rfl hl8.1 rfl (Nat.le_of_ble_eq_true rfl) dX7_mustSign_22 ⟨Nat.le_of_ble_eq_true rfl, Nat.le_of_ble_eq_true rfl⟩ ⟨Nat.zero_le _, Nat.zero_le _⟩) hS7 (fun H12 lc13 hP14 hS15 => ?_)
    clear hf9 hP6 hS7 hg17
    obtain ⟨-, rfl⟩ := ret_inj hf16
    exact x_vret X hr hlocks hP14 hS15 dX7_mustSign_25
  clear eJ22_1
  obtain ⟨J21_19, eJ21_19, hf28⟩ := jp_at hf18
  clear hf18
  have hJ21_19 : ∀  (kk20 : Hp) (H21 : Heap) (lc22 : List Loc) (ls23 : Array Slot), J21_19  kk20 = some ((), k1) → va_P g.1 vwCl (WW g h kk20) H21 → va_S (inA g) s.heap H21 lc22 → lv_has ls23 2 [] → W p l en (rmD 3) s m args below meth c H21 lc22 0 0 (MQ below (QV g h k1) args s 0 0 (inA g)) (F0 m 21 ls23 [.ref (g.2.2 246)]) := by
    intro  kk20 H21 lc22 ls23 hf27 hP24 hS25 hl26
    clear hf28 hP hS hl
    subst eJ21_19
    refine lv_iconst (v := 0) hx hb dX7_mustSign_21 (by decide) ?_
    exact hJ22_1 (0 : Int32) kk20  _ _ _ hf27 hP24 hS25 (lv_sub hl26 [] rfl)
  clear eJ21_19
  refine lv_icmp_ne (tgt := 21) hx hb dX7_mustSign_6 (by decide) (fun c29 => ?_) (fun c29 => ?_)
  · have hf30 := if_at_f c29 hf28
    clear hf28
    exact hJ21_19 k  _ _ _ hf30 hP hS (lv_sub hl [] rfl)
  · have hf31 := if_at_t c29 hf28
    clear hf28
    refine lv_aload_n hx hb dX7_mustSign_9 rfl (lv_at hl 0 rfl) ?_
    refine gX7 X hP 15 (v := .int (k 246 15)) rfl (by decide) rfl wd_898 dX7_mustSign_10 ?_
    refine lv_iload_n hx hb dX7_mustSign_13 rfl (lv_at hl 1 rfl) ?_
    refine lv_icmp_ne (tgt := 21) hx hb dX7_mustSign_14 (by decide) (fun c32 => ?_) (fun c32 => ?_)
    · have hf33 := if_at_f c32 hf31
      clear hf31
      exact hJ21_19 k  _ _ _ hf33 hP hS (lv_sub hl [] rfl)
    · have hf34 := if_at_t c32 hf31
      clear hf31
      refine lv_iconst (v := 1) hx hb dX7_mustSign_17 (by decide) ?_
      refine lv_goto (tgt := 22) hx hb dX7_mustSign_18 (by decide) ?_
      exact hJ22_1 (1 : Int32) k  _ _ _ hf34 hP hS (lv_sub hl [] rfl)
set_option maxRecDepth 100000 in
set_option maxHeartbeats 4000000 in
theorem tX7_begin (l : Launch) {g : Gx} (hI : InjG g) {h k k1 : Hp}    (hf : fX7_begin k = some ((), k1)) : CV l yX7_begin cX7_begin 1 none 2 g [.ref (g.2.2 246)] h k h k1 := by
  refine Met.ofW (cc := cX7_begin) (maxL := 1) (ret := none) (by decide) rfl ?_
  intro p en s m args below meth c s₁ B hml hv
  obtain ⟨rfl, hSK, hSH, hP⟩ := hv
  have X : Cx p s m _ c cX7_begin 1 RX7 g := ⟨B.exec, B.bytes, hml, findClass_of_methodNamed B.named, fun w hw => atoms_spec (ws := wsy yX7_begin cX7_begin 1 none) B.pre w (List.mem_cons_of_mem _ hw), hSK, hI, hSH⟩
  have hr := B.returns
  have hlocks := B.notSynchronized
  have hx := X.1
  have hb := X.2.1
  have hS : va_S (inA g) s.heap s.heap [] := va_S.rf
  clear hSK hSH hml B
  have hl := lv_entry ([.ref (g.2.2 246)]) (n := 1) (Nat.le_of_ble_eq_true rfl)
  rw [lg_entry_eq]
  generalize (lg_sl ([.ref (g.2.2 246)]) ++ List.replicate (1 - (lg_sl ([.ref (g.2.2 246)])).length) Slot.unset).toArray = ls at hl ⊢
  have hl : lv_has ls 1 [(0, .ref (g.2.2 246))] := hl
  generalize ([.ref (g.2.2 246)] : List Value).toArray = args at X ⊢
  show W p l en (rmD 2) s m args below meth c s.heap [] 0 0 (MQ below (QV g h k1) args s 0 0 (inA g)) (F0 m 0 ls [])
  unfold fX7_begin at hf
  refine lv_aload_n hx hb dX7_begin_0 rfl (lv_at hl 0 rfl) ?_
  refine lv_iconst (v := 0) hx hb dX7_begin_1 (by decide) ?_
  refine pX7 X hP hS 12 (by decide) rfl wd_895 rfl rfl rfl rfl seX7_12 dX7_begin_2 (fun H1 lc2 kk3 ekk3 hP4 hS5 => ?_)
  have hf6 := lk_at ekk3 hf
  clear hf hP hS
  refine lv_aload_n hx hb dX7_begin_5 rfl (lv_at hl 0 rfl) ?_
  refine lv_iconst (v := 0) hx hb dX7_begin_6 (by decide) ?_
  refine pX7 X hP4 hS5 16 (by decide) rfl wd_899 rfl rfl rfl rfl seX7_16 dX7_begin_7 (fun H7 lc8 kk9 ekk9 hP10 hS11 => ?_)
  have hf12 := lk_at ekk9 hf6
  clear hf6 hP4 hS5
  refine lv_aload_n hx hb dX7_begin_10 rfl (lv_at hl 0 rfl) ?_
  obtain ⟨⟨⟩, kk14, hg20, hf19⟩ := bd_some hf12
  refine x_cv (x_runV (As := []) (rest := []) X hP10 hS11 246 (by decide) cl_M rfl (tX7_nextToken l X.2.2.2.2.2.2.1  hg20) mi_X7_109 rfl hl.1 rfl (Nat.le_of_ble_eq_true rfl) dX7_begin_11 ⟨Nat.le_of_ble_eq_true rfl, Nat.le_of_ble_eq_true rfl⟩ ⟨Nat.zero_le _, Nat.zero_le _⟩) hS11 (fun H15 lc16 hP17 hS18 => ?_)
  clear hf12 hP10 hS11 hg20
  obtain ⟨-, rfl⟩ := ret_inj hf19
  exact x_vret X hr hlocks hP17 hS18 dX7_begin_14
set_option maxRecDepth 100000 in
set_option maxHeartbeats 4000000 in
theorem tX7_failed (l : Launch) {g : Gx} (hI : InjG g) {h k k1 : Hp}  {r : Int32}   (hf : fX7_failed k = some (r, k1)) : CI l yX7_failed cX7_failed 1 (some .boolean) 1 g [.ref (g.2.2 246)] h k h k1 r := by
  refine Met.ofW (cc := cX7_failed) (maxL := 1) (ret := (some .boolean)) (by decide) rfl ?_
  intro p en s m args below meth c s₁ B hml hv
  obtain ⟨rfl, hSK, hSH, hP⟩ := hv
  have X : Cx p s m _ c cX7_failed 1 RX7 g := ⟨B.exec, B.bytes, hml, findClass_of_methodNamed B.named, fun w hw => atoms_spec (ws := wsy yX7_failed cX7_failed 1 (some .boolean)) B.pre w (List.mem_cons_of_mem _ hw), hSK, hI, hSH⟩
  have hr := B.returns
  have hlocks := B.notSynchronized
  have hx := X.1
  have hb := X.2.1
  have hS : va_S (inA g) s.heap s.heap [] := va_S.rf
  clear hSK hSH hml B
  have hl := lv_entry ([.ref (g.2.2 246)]) (n := 1) (Nat.le_of_ble_eq_true rfl)
  rw [lg_entry_eq]
  generalize (lg_sl ([.ref (g.2.2 246)]) ++ List.replicate (1 - (lg_sl ([.ref (g.2.2 246)])).length) Slot.unset).toArray = ls at hl ⊢
  have hl : lv_has ls 1 [(0, .ref (g.2.2 246))] := hl
  generalize ([.ref (g.2.2 246)] : List Value).toArray = args at X ⊢
  show W p l en (rmD 1) s m args below meth c s.heap [] 0 0 (MQ below (QI g h k1 r) args s 0 0 (inA g)) (F0 m 0 ls [])
  unfold fX7_failed at hf
  refine lv_aload_n hx hb dX7_failed_0 rfl (lv_at hl 0 rfl) ?_
  refine gX7 X hP 16 (v := .int (k 246 16)) rfl (by decide) rfl wd_899 dX7_failed_1 ?_
  obtain ⟨J20_1, eJ20_1, hf38⟩ := jp_at hf
  clear hf
  have hJ20_1 : ∀  (kk2 : Hp) (H3 : Heap) (lc4 : List Loc) (ls5 : Array Slot), J20_1  kk2 = some (r, k1) → va_P g.1 vwCl (WW g h kk2) H3 → va_S (inA g) s.heap H3 lc4 → lv_has ls5 1 [(0, .ref (g.2.2 246))] → W p l en (rmD 1) s m args below meth c H3 lc4 0 0 (MQ below (QI g h k1 r) args s 0 0 (inA g)) (F0 m 20 ls5 []) := by
    intro  kk2 H3 lc4 ls5 hf9 hP6 hS7 hl8
    clear hf38 hP hS hl
    subst eJ20_1
    refine lv_aload_n hx hb dX7_failed_20 rfl (lv_at hl8 0 rfl) ?_
    refine lv_iconst (v := 0) hx hb dX7_failed_21 (by decide) ?_
    refine pX7 X hP6 hS7 11 (by decide) rfl wd_894 rfl rfl rfl rfl seX7_11 dX7_failed_22 (fun H10 lc11 kk12 ekk12 hP13 hS14 => ?_)
    have hf15 := lk_at ekk12 hf9
    clear hf9 hP6 hS7
    refine lv_aload_n hx hb dX7_failed_25 rfl (lv_at hl8 0 rfl) ?_
    refine lv_aload_n hx hb dX7_failed_26 rfl (lv_at hl8 0 rfl) ?_
    refine gX7 X hP13 16 (v := .int (kk12 246 16)) rfl (by decide) rfl wd_899 dX7_failed_27 ?_
    obtain ⟨J44_16, eJ44_16, hf34⟩ := jp_at hf15
    clear hf15
    have hJ44_16 : ∀ (J44_16s0 : Int32) (kk17 : Hp) (H18 : Heap) (lc19 : List Loc) (ls20 : Array Slot), J44_16 J44_16s0 kk17 = some (r, k1) → va_P g.1 vwCl (WW g h kk17) H18 → va_S (inA g) s.heap H18 lc19 → lv_has ls20 1 [(0, .ref (g.2.2 246))] → W p l en (rmD 1) s m args below meth c H18 lc19 0 0 (MQ below (QI g h k1 r) args s 0 0 (inA g)) (F0 m 44 ls20 [.int J44_16s0, .ref (g.2.2 246)]) := by
      intro J44_16s0 kk17 H18 lc19 ls20 hf24 hP21 hS22 hl23
      clear hf34 hP13 hS14 hl8
      subst eJ44_16
      refine pX7 X hP21 hS22 18 (by decide) rfl wd_901 rfl rfl rfl rfl seX7_18 dX7_failed_44 (fun H25 lc26 kk27 ekk27 hP28 hS29 => ?_)
      have hf30 := lk_at ekk27 hf24
      clear hf24 hP21 hS22
      refine lv_aload_n hx hb dX7_failed_47 rfl (lv_at hl23 0 rfl) ?_
      refine gX7 X hP28 16 (v := .int (kk27 246 16)) rfl (by decide) rfl wd_899 dX7_failed_48 ?_
      refine lv_if_le (tgt := 58) hx hb dX7_failed_51 (by decide) (fun c31 => ?_) (fun c31 => ?_)
      · have hf32 := if_at_t c31 hf30
        clear hf30
        refine lv_iconst (v := 0) hx hb dX7_failed_58 (by decide) ?_
        obtain ⟨rfl, rfl⟩ := ret_inj hf32
        exact x_zret X hr hlocks rfl hP28 hS29 dX7_failed_59
      · have hf33 := if_at_f c31 hf30
        clear hf30
        refine lv_iconst (v := 1) hx hb dX7_failed_54 (by decide) ?_
        refine lv_goto (tgt := 59) hx hb dX7_failed_55 (by decide) ?_
        obtain ⟨rfl, rfl⟩ := ret_inj hf33
        exact x_zret X hr hlocks rfl hP28 hS29 dX7_failed_59
    clear eJ44_16
    refine lv_if_le (tgt := 40) hx hb dX7_failed_30 (by decide) (fun c35 => ?_) (fun c35 => ?_)
    · have hf36 := if_at_t c35 hf34
      clear hf34
      refine lv_aload_n hx hb dX7_failed_40 rfl (lv_at hl8 0 rfl) ?_
      refine gX7 X hP13 18 (v := .int (kk12 246 18)) rfl (by decide) rfl wd_901 dX7_failed_41 ?_
      exact hJ44_16 (kk12 246 18) kk12  _ _ _ hf36 hP13 hS14 (lv_sub hl8 [0] rfl)
    · have hf37 := if_at_f c35 hf34
      clear hf34
      refine lv_aload_n hx hb dX7_failed_33 rfl (lv_at hl8 0 rfl) ?_
      refine gX7 X hP13 16 (v := .int (kk12 246 16)) rfl (by decide) rfl wd_899 dX7_failed_34 ?_
      refine lv_goto (tgt := 44) hx hb dX7_failed_37 (by decide) ?_
      exact hJ44_16 (kk12 246 16) kk12  _ _ _ hf37 hP13 hS14 (lv_sub hl8 [0] rfl)
  clear eJ20_1
  refine lv_if_ne (tgt := 20) hx hb dX7_failed_4 (by decide) (fun c39 => ?_) (fun c39 => ?_)
  · have hf40 := if_at_f c39 hf38
    clear hf38
    exact hJ20_1 k  _ _ _ hf40 hP hS (lv_sub hl [0] rfl)
  · have hf41 := if_at_t c39 hf38
    clear hf38
    refine lv_aload_n hx hb dX7_failed_7 rfl (lv_at hl 0 rfl) ?_
    refine gX7 X hP 14 (v := .int (k 246 14)) rfl (by decide) rfl wd_897 dX7_failed_8 ?_
    refine lv_iconst (v := 1) hx hb dX7_failed_11 (by decide) ?_
    refine lv_icmp_eq (tgt := 20) hx hb dX7_failed_12 (by decide) (fun c42 => ?_) (fun c42 => ?_)
    · have hf43 := if_at_t c42 hf41
      clear hf41
      exact hJ20_1 k  _ _ _ hf43 hP hS (lv_sub hl [0] rfl)
    · have hf44 := if_at_f c42 hf41
      clear hf41
      refine lv_aload_n hx hb dX7_failed_15 rfl (lv_at hl 0 rfl) ?_
      refine lv_iconst (v := 1) hx hb dX7_failed_16 (by decide) ?_
      obtain ⟨⟨⟩, kk46, hg52, hf51⟩ := bd_some hf44
      refine x_cv (x_runV (As := [.int (1 : Int32)]) (rest := []) X hP hS 246 (by decide) cl_M rfl (tX7_bad l X.2.2.2.2.2.2.1  hg52) mi_X7_105 rfl hl.1 rfl (Nat.le_of_ble_eq_true rfl) dX7_failed_17 ⟨Nat.le_of_ble_eq_true rfl, Nat.le_of_ble_eq_true rfl⟩ ⟨Nat.zero_le _, Nat.zero_le _⟩) hS (fun H47 lc48 hP49 hS50 => ?_)
      clear hf44 hP hS hg52
      exact hJ20_1 kk46  _ _ _ hf51 hP49 hS50 (lv_sub hl [0] rfl)
set_option maxRecDepth 100000 in
set_option maxHeartbeats 4000000 in
theorem tX7_fault (l : Launch) {g : Gx} (hI : InjG g) {h k k1 : Hp}  {r : Int32}   (hf : fX7_fault k = some (r, k1)) : CI l yX7_fault cX7_fault 1 (some .int) 0 g [.ref (g.2.2 246)] h k h k1 r := by
  refine Met.ofW (cc := cX7_fault) (maxL := 1) (ret := (some .int)) (by decide) rfl ?_
  intro p en s m args below meth c s₁ B hml hv
  obtain ⟨rfl, hSK, hSH, hP⟩ := hv
  have X : Cx p s m _ c cX7_fault 1 RX7 g := ⟨B.exec, B.bytes, hml, findClass_of_methodNamed B.named, fun w hw => atoms_spec (ws := wsy yX7_fault cX7_fault 1 (some .int)) B.pre w (List.mem_cons_of_mem _ hw), hSK, hI, hSH⟩
  have hr := B.returns
  have hlocks := B.notSynchronized
  have hx := X.1
  have hb := X.2.1
  have hS : va_S (inA g) s.heap s.heap [] := va_S.rf
  clear hSK hSH hml B
  have hl := lv_entry ([.ref (g.2.2 246)]) (n := 1) (Nat.le_of_ble_eq_true rfl)
  rw [lg_entry_eq]
  generalize (lg_sl ([.ref (g.2.2 246)]) ++ List.replicate (1 - (lg_sl ([.ref (g.2.2 246)])).length) Slot.unset).toArray = ls at hl ⊢
  have hl : lv_has ls 1 [(0, .ref (g.2.2 246))] := hl
  generalize ([.ref (g.2.2 246)] : List Value).toArray = args at X ⊢
  show W p l en (rmD 0) s m args below meth c s.heap [] 0 0 (MQ below (QI g h k1 r) args s 0 0 (inA g)) (F0 m 0 ls [])
  unfold fX7_fault at hf
  refine lv_aload_n hx hb dX7_fault_0 rfl (lv_at hl 0 rfl) ?_
  refine lv_iconst (v := 0) hx hb dX7_fault_1 (by decide) ?_
  refine pX7 X hP hS 0 (by decide) rfl wd_883 rfl rfl rfl rfl seX7_0 dX7_fault_2 (fun H1 lc2 kk3 ekk3 hP4 hS5 => ?_)
  have hf6 := lk_at ekk3 hf
  clear hf hP hS
  refine lv_aload_n hx hb dX7_fault_5 rfl (lv_at hl 0 rfl) ?_
  refine gX7 X hP4 18 (v := .int (kk3 246 18)) rfl (by decide) rfl wd_901 dX7_fault_6 ?_
  obtain ⟨rfl, rfl⟩ := ret_inj hf6
  exact x_iret X hr hlocks hP4 hS5 dX7_fault_9
set_option maxRecDepth 100000 in
set_option maxHeartbeats 4000000 in
theorem tX7_kindBy (l : Launch) {g : Gx} (hI : InjG g) {h k k1 : Hp} {a1 : Int32} {r : Int32}   (hf : fX7_kindBy a1 k = some (r, k1)) : CI l yX7_kindBy cX7_kindBy 1 (some .int) 0 g [.int a1] h k h k1 r := by
  refine Met.ofW (cc := cX7_kindBy) (maxL := 1) (ret := (some .int)) (by decide) rfl ?_
  intro p en s m args below meth c s₁ B hml hv
  obtain ⟨rfl, hSK, hSH, hP⟩ := hv
  have X : Cx p s m _ c cX7_kindBy 1 RX7 g := ⟨B.exec, B.bytes, hml, findClass_of_methodNamed B.named, fun w hw => atoms_spec (ws := wsy yX7_kindBy cX7_kindBy 1 (some .int)) B.pre w (List.mem_cons_of_mem _ hw), hSK, hI, hSH⟩
  have hr := B.returns
  have hlocks := B.notSynchronized
  have hx := X.1
  have hb := X.2.1
  have hS : va_S (inA g) s.heap s.heap [] := va_S.rf
  clear hSK hSH hml B
  have hl := lv_entry ([.int a1]) (n := 1) (Nat.le_of_ble_eq_true rfl)
  rw [lg_entry_eq]
  generalize (lg_sl ([.int a1]) ++ List.replicate (1 - (lg_sl ([.int a1])).length) Slot.unset).toArray = ls at hl ⊢
  have hl : lv_has ls 1 [(0, .int a1)] := hl
  generalize ([.int a1] : List Value).toArray = args at X ⊢
  show W p l en (rmD 0) s m args below meth c s.heap [] 0 0 (MQ below (QI g h k1 r) args s 0 0 (inA g)) (F0 m 0 ls [])
  unfold fX7_kindBy at hf
  refine lv_iload_n hx hb dX7_kindBy_0 rfl (lv_at hl 0 rfl) ?_
  refine lv_bipush (v := 115) hx hb dX7_kindBy_1 (by decide) ?_
  refine lv_icmp_ne (tgt := 10) hx hb dX7_kindBy_3 (by decide) (fun c1 => ?_) (fun c1 => ?_)
  · have hf2 := if_at_f c1 hf
    clear hf
    refine lv_iload_n hx hb dX7_kindBy_10 rfl (lv_at hl 0 rfl) ?_
    refine lv_bipush (v := 98) hx hb dX7_kindBy_11 (by decide) ?_
    refine lv_icmp_ne (tgt := 20) hx hb dX7_kindBy_13 (by decide) (fun c3 => ?_) (fun c3 => ?_)
    · have hf4 := if_at_f c3 hf2
      clear hf2
      refine lv_iload_n hx hb dX7_kindBy_20 rfl (lv_at hl 0 rfl) ?_
      refine lv_bipush (v := 119) hx hb dX7_kindBy_21 (by decide) ?_
      refine lv_icmp_ne (tgt := 30) hx hb dX7_kindBy_23 (by decide) (fun c5 => ?_) (fun c5 => ?_)
      · have hf6 := if_at_f c5 hf4
        clear hf4
        refine lv_iload_n hx hb dX7_kindBy_30 rfl (lv_at hl 0 rfl) ?_
        refine lv_bipush (v := 104) hx hb dX7_kindBy_31 (by decide) ?_
        refine lv_icmp_ne (tgt := 40) hx hb dX7_kindBy_33 (by decide) (fun c7 => ?_) (fun c7 => ?_)
        · have hf8 := if_at_f c7 hf6
          clear hf6
          refine lv_iload_n hx hb dX7_kindBy_40 rfl (lv_at hl 0 rfl) ?_
          refine lv_bipush (v := 111) hx hb dX7_kindBy_41 (by decide) ?_
          refine lv_icmp_ne (tgt := 50) hx hb dX7_kindBy_43 (by decide) (fun c9 => ?_) (fun c9 => ?_)
          · have hf10 := if_at_f c9 hf8
            clear hf8
            refine lv_ldc (v := -1000000) hx hb X.2.2.2.1 (X.2.2.2.2.1 _ wd_1009) dX7_kindBy_50 ?_
            obtain ⟨rfl, rfl⟩ := ret_inj hf10
            exact x_iret X hr hlocks hP hS dX7_kindBy_52
          · have hf11 := if_at_t c9 hf8
            clear hf8
            refine lv_iconst (v := 5) hx hb dX7_kindBy_46 (by decide) ?_
            refine lv_goto (tgt := 52) hx hb dX7_kindBy_47 (by decide) ?_
            obtain ⟨rfl, rfl⟩ := ret_inj hf11
            exact x_iret X hr hlocks hP hS dX7_kindBy_52
        · have hf12 := if_at_t c7 hf6
          clear hf6
          refine lv_iconst (v := 4) hx hb dX7_kindBy_36 (by decide) ?_
          refine lv_goto (tgt := 52) hx hb dX7_kindBy_37 (by decide) ?_
          obtain ⟨rfl, rfl⟩ := ret_inj hf12
          exact x_iret X hr hlocks hP hS dX7_kindBy_52
      · have hf13 := if_at_t c5 hf4
        clear hf4
        refine lv_iconst (v := 3) hx hb dX7_kindBy_26 (by decide) ?_
        refine lv_goto (tgt := 52) hx hb dX7_kindBy_27 (by decide) ?_
        obtain ⟨rfl, rfl⟩ := ret_inj hf13
        exact x_iret X hr hlocks hP hS dX7_kindBy_52
    · have hf14 := if_at_t c3 hf2
      clear hf2
      refine lv_iconst (v := 2) hx hb dX7_kindBy_16 (by decide) ?_
      refine lv_goto (tgt := 52) hx hb dX7_kindBy_17 (by decide) ?_
      obtain ⟨rfl, rfl⟩ := ret_inj hf14
      exact x_iret X hr hlocks hP hS dX7_kindBy_52
  · have hf15 := if_at_t c1 hf
    clear hf
    refine lv_iconst (v := 1) hx hb dX7_kindBy_6 (by decide) ?_
    refine lv_goto (tgt := 52) hx hb dX7_kindBy_7 (by decide) ?_
    obtain ⟨rfl, rfl⟩ := ret_inj hf15
    exact x_iret X hr hlocks hP hS dX7_kindBy_52
set_option maxRecDepth 100000 in
set_option maxHeartbeats 4000000 in
theorem tX7_isSort (l : Launch) {g : Gx} (hI : InjG g) {h k k1 : Hp}  {r : Int32}   (hf : fX7_isSort k = some (r, k1)) : CI l yX7_isSort cX7_isSort 1 (some .boolean) 1 g [.ref (g.2.2 246)] h k h k1 r := by
  refine Met.ofW (cc := cX7_isSort) (maxL := 1) (ret := (some .boolean)) (by decide) rfl ?_
  intro p en s m args below meth c s₁ B hml hv
  obtain ⟨rfl, hSK, hSH, hP⟩ := hv
  have X : Cx p s m _ c cX7_isSort 1 RX7 g := ⟨B.exec, B.bytes, hml, findClass_of_methodNamed B.named, fun w hw => atoms_spec (ws := wsy yX7_isSort cX7_isSort 1 (some .boolean)) B.pre w (List.mem_cons_of_mem _ hw), hSK, hI, hSH⟩
  have hr := B.returns
  have hlocks := B.notSynchronized
  have hx := X.1
  have hb := X.2.1
  have hS : va_S (inA g) s.heap s.heap [] := va_S.rf
  clear hSK hSH hml B
  have hl := lv_entry ([.ref (g.2.2 246)]) (n := 1) (Nat.le_of_ble_eq_true rfl)
  rw [lg_entry_eq]
  generalize (lg_sl ([.ref (g.2.2 246)]) ++ List.replicate (1 - (lg_sl ([.ref (g.2.2 246)])).length) Slot.unset).toArray = ls at hl ⊢
  have hl : lv_has ls 1 [(0, .ref (g.2.2 246))] := hl
  generalize ([.ref (g.2.2 246)] : List Value).toArray = args at X ⊢
  show W p l en (rmD 1) s m args below meth c s.heap [] 0 0 (MQ below (QI g h k1 r) args s 0 0 (inA g)) (F0 m 0 ls [])
  unfold fX7_isSort at hf
  refine lv_aload_n hx hb dX7_isSort_0 rfl (lv_at hl 0 rfl) ?_
  refine gX7 X hP 16 (v := .int (k 246 16)) rfl (by decide) rfl wd_899 dX7_isSort_1 ?_
  refine lv_if_ne (tgt := 31) hx hb dX7_isSort_4 (by decide) (fun c1 => ?_) (fun c1 => ?_)
  · have hf2 := if_at_f c1 hf
    clear hf
    refine lv_iconst (v := 0) hx hb dX7_isSort_31 (by decide) ?_
    obtain ⟨rfl, rfl⟩ := ret_inj hf2
    exact x_zret X hr hlocks rfl hP hS dX7_isSort_32
  · have hf3 := if_at_t c1 hf
    clear hf
    refine lv_aload_n hx hb dX7_isSort_7 rfl (lv_at hl 0 rfl) ?_
    refine gX7 X hP 14 (v := .int (k 246 14)) rfl (by decide) rfl wd_897 dX7_isSort_8 ?_
    refine lv_iconst (v := 2) hx hb dX7_isSort_11 (by decide) ?_
    refine lv_icmp_ne (tgt := 31) hx hb dX7_isSort_12 (by decide) (fun c4 => ?_) (fun c4 => ?_)
    · have hf5 := if_at_f c4 hf3
      clear hf3
      refine lv_iconst (v := 0) hx hb dX7_isSort_31 (by decide) ?_
      obtain ⟨rfl, rfl⟩ := ret_inj hf5
      exact x_zret X hr hlocks rfl hP hS dX7_isSort_32
    · have hf6 := if_at_t c4 hf3
      clear hf3
      refine lv_aload_n hx hb dX7_isSort_15 rfl (lv_at hl 0 rfl) ?_
      refine gX7 X hP 15 (v := .int (k 246 15)) rfl (by decide) rfl wd_898 dX7_isSort_16 ?_
      obtain ⟨x7, kk8, hg14, hf13⟩ := bd_some hf6
      refine x_ci (x_runS (As := [.int (k 246 15)]) (rest := []) X hP hS (tX7_kindBy l X.2.2.2.2.2.2.1  hg14) mi_X7_119 rfl hl.1 rfl (Nat.le_of_ble_eq_true rfl) dX7_isSort_19 ⟨Nat.le_of_ble_eq_true rfl, Nat.le_of_ble_eq_true rfl⟩ ⟨Nat.zero_le _, Nat.zero_le _⟩) hS (fun H9 lc10 hP11 hS12 => ?_)
      clear hf6 hP hS hg14
      refine lv_ldc (v := -1000000) hx hb X.2.2.2.1 (X.2.2.2.2.1 _ wd_1009) dX7_isSort_22 ?_
      refine lv_icmp_eq (tgt := 31) hx hb dX7_isSort_24 (by decide) (fun c15 => ?_) (fun c15 => ?_)
      · have hf16 := if_at_t c15 hf13
        clear hf13
        refine lv_iconst (v := 0) hx hb dX7_isSort_31 (by decide) ?_
        obtain ⟨rfl, rfl⟩ := ret_inj hf16
        exact x_zret X hr hlocks rfl hP11 hS12 dX7_isSort_32
      · have hf17 := if_at_f c15 hf13
        clear hf13
        refine lv_iconst (v := 1) hx hb dX7_isSort_27 (by decide) ?_
        refine lv_goto (tgt := 32) hx hb dX7_isSort_28 (by decide) ?_
        obtain ⟨rfl, rfl⟩ := ret_inj hf17
        exact x_zret X hr hlocks rfl hP11 hS12 dX7_isSort_32
set_option maxRecDepth 100000 in
set_option maxHeartbeats 4000000 in
theorem tX7_readWind (l : Launch) {g : Gx} (hI : InjG g) {h k k1 : Hp}    (hf : fX7_readWind k = some ((), k1)) : CV l yX7_readWind cX7_readWind 2 none 4 g [.ref (g.2.2 246)] h k h k1 := by
  refine Met.ofW (cc := cX7_readWind) (maxL := 2) (ret := none) (by decide) rfl ?_
  intro p en s m args below meth c s₁ B hml hv
  obtain ⟨rfl, hSK, hSH, hP⟩ := hv
  have X : Cx p s m _ c cX7_readWind 2 RX7 g := ⟨B.exec, B.bytes, hml, findClass_of_methodNamed B.named, fun w hw => atoms_spec (ws := wsy yX7_readWind cX7_readWind 2 none) B.pre w (List.mem_cons_of_mem _ hw), hSK, hI, hSH⟩
  have hr := B.returns
  have hlocks := B.notSynchronized
  have hx := X.1
  have hb := X.2.1
  have hS : va_S (inA g) s.heap s.heap [] := va_S.rf
  clear hSK hSH hml B
  have hl := lv_entry ([.ref (g.2.2 246)]) (n := 2) (Nat.le_of_ble_eq_true rfl)
  rw [lg_entry_eq]
  generalize (lg_sl ([.ref (g.2.2 246)]) ++ List.replicate (2 - (lg_sl ([.ref (g.2.2 246)])).length) Slot.unset).toArray = ls at hl ⊢
  have hl : lv_has ls 2 [(0, .ref (g.2.2 246))] := hl
  generalize ([.ref (g.2.2 246)] : List Value).toArray = args at X ⊢
  show W p l en (rmD 4) s m args below meth c s.heap [] 0 0 (MQ below (QV g h k1) args s 0 0 (inA g)) (F0 m 0 ls [])
  unfold fX7_readWind at hf
  refine lv_aload_n hx hb dX7_readWind_0 rfl (lv_at hl 0 rfl) ?_
  refine lv_bipush (v := 103) hx hb dX7_readWind_1 (by decide) ?_
  obtain ⟨x1, kk2, hg8, hf7⟩ := bd_some hf
  refine x_ci (x_runV (As := [.int (103 : Int32)]) (rest := []) X hP hS 246 (by decide) cl_M rfl (tX7_isLetter l X.2.2.2.2.2.2.1  hg8) mi_X7_122 rfl hl.1 rfl (Nat.le_of_ble_eq_true rfl) dX7_readWind_3 ⟨Nat.le_of_ble_eq_true rfl, Nat.le_of_ble_eq_true rfl⟩ ⟨Nat.zero_le _, Nat.zero_le _⟩) hS (fun H3 lc4 hP5 hS6 => ?_)
  clear hf hP hS hg8
  obtain ⟨J25_9, eJ25_9, hf75⟩ := jp_at hf7
  clear hf7
  have hJ25_9 : ∀  (kk10 : Hp) (H11 : Heap) (lc12 : List Loc) (ls13 : Array Slot), J25_9  kk10 = some ((), k1) → va_P g.1 vwCl (WW g h kk10) H11 → va_S (inA g) s.heap H11 lc12 → lv_has ls13 2 [(0, .ref (g.2.2 246))] → W p l en (rmD 4) s m args below meth c H11 lc12 0 0 (MQ below (QV g h k1) args s 0 0 (inA g)) (F0 m 25 ls13 []) := by
    intro  kk10 H11 lc12 ls13 hf17 hP14 hS15 hl16
    clear hf75 hP5 hS6 hl
    subst eJ25_9
    refine lv_aload_n hx hb dX7_readWind_25 rfl (lv_at hl16 0 rfl) ?_
    refine lv_aload_n hx hb dX7_readWind_26 rfl (lv_at hl16 0 rfl) ?_
    refine lv_bipush (v := 103) hx hb dX7_readWind_27 (by decide) ?_
    obtain ⟨x18, kk19, hg25, hf24⟩ := bd_some hf17
    refine x_ci (x_runV (As := [.int (103 : Int32)]) (rest := [.ref (g.2.2 246)]) X hP14 hS15 246 (by decide) cl_M rfl (tX7_isLetter l X.2.2.2.2.2.2.1  hg25) mi_X7_122 rfl hl16.1 rfl (Nat.le_of_ble_eq_true rfl) dX7_readWind_29 ⟨Nat.le_of_ble_eq_true rfl, Nat.le_of_ble_eq_true rfl⟩ ⟨Nat.zero_le _, Nat.zero_le _⟩) hS15 (fun H20 lc21 hP22 hS23 => ?_)
    clear hf17 hP14 hS15 hg25
    obtain ⟨⟨⟩, kk27, hg33, hf32⟩ := bd_some hf24
    refine x_cv (x_runV (As := [.int x18]) (rest := []) X hP22 hS23 246 (by decide) cl_M rfl (tX7_must l X.2.2.2.2.2.2.1  hg33) mi_X7_112 rfl hl16.1 rfl (Nat.le_of_ble_eq_true rfl) dX7_readWind_32 ⟨Nat.le_of_ble_eq_true rfl, Nat.le_of_ble_eq_true rfl⟩ ⟨Nat.zero_le _, Nat.zero_le _⟩) hS23 (fun H28 lc29 hP30 hS31 => ?_)
    clear hf24 hP22 hS23 hg33
    refine lv_aload_n hx hb dX7_readWind_35 rfl (lv_at hl16 0 rfl) ?_
    refine lv_iconst (v := 0) hx hb dX7_readWind_36 (by decide) ?_
    refine lv_iconst (v := 4) hx hb dX7_readWind_37 (by decide) ?_
    obtain ⟨x34, kk35, hg41, hf40⟩ := bd_some hf32
    refine x_ci (x_runV (As := [.int (0 : Int32), .int (4 : Int32)]) (rest := []) X hP30 hS31 246 (by decide) cl_M rfl (tX7_number l X.2.2.2.2.2.2.1  hg41) mi_X7_125 rfl hl16.1 rfl (Nat.le_of_ble_eq_true rfl) dX7_readWind_38 ⟨Nat.le_of_ble_eq_true rfl, Nat.le_of_ble_eq_true rfl⟩ ⟨Nat.zero_le _, Nat.zero_le _⟩) hS31 (fun H36 lc37 hP38 hS39 => ?_)
    clear hf32 hP30 hS31 hg41
    refine lv_istore_n (lv' := [(1, .int x34), (0, .ref (g.2.2 246))]) hx hb dX7_readWind_41 rfl hl16 (by decide) rfl (fun ls42 hl43 => ?_)
    clear hl16
    refine lv_aload_n hx hb dX7_readWind_42 rfl (lv_at hl43 1 rfl) ?_
    refine lv_bipush (v := 59) hx hb dX7_readWind_43 (by decide) ?_
    obtain ⟨⟨⟩, kk45, hg51, hf50⟩ := bd_some hf40
    refine x_cv (x_runV (As := [.int (59 : Int32)]) (rest := []) X hP38 hS39 246 (by decide) cl_M rfl (tX7_mustSign l X.2.2.2.2.2.2.1  hg51) mi_X7_129 rfl hl43.1 rfl (Nat.le_of_ble_eq_true rfl) dX7_readWind_45 ⟨Nat.le_of_ble_eq_true rfl, Nat.le_of_ble_eq_true rfl⟩ ⟨Nat.zero_le _, Nat.zero_le _⟩) hS39 (fun H46 lc47 hP48 hS49 => ?_)
    clear hf40 hP38 hS39 hg51
    refine lv_aload_n hx hb dX7_readWind_48 rfl (lv_at hl43 1 rfl) ?_
    refine gX7 X hP48 16 (v := .int (kk45 246 16)) rfl (by decide) rfl wd_899 dX7_readWind_49 ?_
    refine lv_if_ne (tgt := 80) hx hb dX7_readWind_52 (by decide) (fun c52 => ?_) (fun c52 => ?_)
    · have hf53 := if_at_f c52 hf50
      clear hf50
      obtain ⟨-, rfl⟩ := ret_inj hf53
      exact x_vret X hr hlocks hP48 hS49 dX7_readWind_80
    · have hf54 := if_at_t c52 hf50
      clear hf50
      refine lv_aload_n hx hb dX7_readWind_55 rfl (lv_at hl43 1 rfl) ?_
      refine gX7 X hP48 6 (v := .ref (g.2.2 251)) rfl (by decide) rfl wd_889 dX7_readWind_56 ?_
      refine lv_bipush (v := 8) hx hb dX7_readWind_59 (by decide) ?_
      refine lv_aload_n hx hb dX7_readWind_61 rfl (lv_at hl43 1 rfl) ?_
      refine gX7 X hP48 6 (v := .ref (g.2.2 251)) rfl (by decide) rfl wd_889 dX7_readWind_62 ?_
      refine lv_iconst (v := 1) hx hb dX7_readWind_65 (by decide) ?_
      obtain ⟨hc55, hf56⟩ := chk_some hf54
      refine x_ildM X hP48 251 rfl hc55 dX7_readWind_66 ?_
      refine lv_iadd hx hb dX7_readWind_67 ?_
      refine lv_iload_n hx hb dX7_readWind_68 rfl (lv_at hl43 0 rfl) ?_
      obtain ⟨hc57, hf58⟩ := chk_some hf56
      refine x_istM X hP48 hS49 251 rfl hc57 dX7_readWind_69 (fun H59 lc60 kk61 ekk61 hP62 hS63 => ?_)
      have hf64 := lk_at ekk61 hf58
      clear hf58 hP48 hS49
      refine lv_aload_n hx hb dX7_readWind_70 rfl (lv_at hl43 1 rfl) ?_
      refine gX7 X hP62 6 (v := .ref (g.2.2 251)) rfl (by decide) rfl wd_889 dX7_readWind_71 ?_
      refine lv_iconst (v := 1) hx hb dX7_readWind_74 (by decide) ?_
      refine lv_dup2_11 hx hb dX7_readWind_75 rfl rfl ?_
      obtain ⟨hc65, hf66⟩ := chk_some hf64
      refine x_ildM X hP62 251 rfl hc65 dX7_readWind_76 ?_
      refine lv_iconst (v := 1) hx hb dX7_readWind_77 (by decide) ?_
      refine lv_iadd hx hb dX7_readWind_78 ?_
      obtain ⟨hc67, hf68⟩ := chk_some hf66
      refine x_istM X hP62 hS63 251 rfl hc67 dX7_readWind_79 (fun H69 lc70 kk71 ekk71 hP72 hS73 => ?_)
      have hf74 := lk_at ekk71 hf68
      clear hf68 hP62 hS63
      obtain ⟨-, rfl⟩ := ret_inj hf74
      exact x_vret X hr hlocks hP72 hS73 dX7_readWind_80
  clear eJ25_9
  refine lv_if_eq (tgt := 25) hx hb dX7_readWind_6 (by decide) (fun c76 => ?_) (fun c76 => ?_)
  · have hf77 := if_at_t c76 hf75
    clear hf75
    exact hJ25_9 kk2  _ _ _ hf77 hP5 hS6 (lv_sub hl [0] rfl)
  · have hf78 := if_at_f c76 hf75
    clear hf75
    refine lv_aload_n hx hb dX7_readWind_9 rfl (lv_at hl 0 rfl) ?_
    refine gX7 X hP5 6 (v := .ref (g.2.2 251)) rfl (by decide) rfl wd_889 dX7_readWind_10 ?_
    refine lv_iconst (v := 1) hx hb dX7_readWind_13 (by decide) ?_
    obtain ⟨hc79, hf80⟩ := chk_some hf78
    refine x_ildM X hP5 251 rfl hc79 dX7_readWind_14 ?_
    refine lv_bipush (v := 6) hx hb dX7_readWind_15 (by decide) ?_
    refine lv_icmp_ne (tgt := 25) hx hb dX7_readWind_17 (by decide) (fun c81 => ?_) (fun c81 => ?_)
    · have hf82 := if_at_f c81 hf80
      clear hf80
      exact hJ25_9 kk2  _ _ _ hf82 hP5 hS6 (lv_sub hl [0] rfl)
    · have hf83 := if_at_t c81 hf80
      clear hf80
      refine lv_aload_n hx hb dX7_readWind_20 rfl (lv_at hl 0 rfl) ?_
      refine lv_iconst (v := 3) hx hb dX7_readWind_21 (by decide) ?_
      obtain ⟨⟨⟩, kk85, hg91, hf90⟩ := bd_some hf83
      refine x_cv (x_runV (As := [.int (3 : Int32)]) (rest := []) X hP5 hS6 246 (by decide) cl_M rfl (tX7_bad l X.2.2.2.2.2.2.1  hg91) mi_X7_105 rfl hl.1 rfl (Nat.le_of_ble_eq_true rfl) dX7_readWind_22 ⟨Nat.le_of_ble_eq_true rfl, Nat.le_of_ble_eq_true rfl⟩ ⟨Nat.zero_le _, Nat.zero_le _⟩) hS6 (fun H86 lc87 hP88 hS89 => ?_)
      clear hf83 hP5 hS6 hg91
      exact hJ25_9 kk85  _ _ _ hf90 hP88 hS89 (lv_sub hl [0] rfl)
set_option maxRecDepth 100000 in
set_option maxHeartbeats 4000000 in
theorem tX7_readSheet (l : Launch) {g : Gx} (hI : InjG g) {h k k1 : Hp}    (hf : fX7_readSheet k = some ((), k1)) : CV l yX7_readSheet cX7_readSheet 6 none 4 g [.ref (g.2.2 246)] h k h k1 := by
  refine Met.ofW (cc := cX7_readSheet) (maxL := 6) (ret := none) (by decide) rfl ?_
  intro p en s m args below meth c s₁ B hml hv
  obtain ⟨rfl, hSK, hSH, hP⟩ := hv
  have X : Cx p s m _ c cX7_readSheet 6 RX7 g := ⟨B.exec, B.bytes, hml, findClass_of_methodNamed B.named, fun w hw => atoms_spec (ws := wsy yX7_readSheet cX7_readSheet 6 none) B.pre w (List.mem_cons_of_mem _ hw), hSK, hI, hSH⟩
  have hr := B.returns
  have hlocks := B.notSynchronized
  have hx := X.1
  have hb := X.2.1
  have hS : va_S (inA g) s.heap s.heap [] := va_S.rf
  clear hSK hSH hml B
  have hl := lv_entry ([.ref (g.2.2 246)]) (n := 6) (Nat.le_of_ble_eq_true rfl)
  rw [lg_entry_eq]
  generalize (lg_sl ([.ref (g.2.2 246)]) ++ List.replicate (6 - (lg_sl ([.ref (g.2.2 246)])).length) Slot.unset).toArray = ls at hl ⊢
  have hl : lv_has ls 6 [(0, .ref (g.2.2 246))] := hl
  generalize ([.ref (g.2.2 246)] : List Value).toArray = args at X ⊢
  show W p l en (rmD 4) s m args below meth c s.heap [] 0 0 (MQ below (QV g h k1) args s 0 0 (inA g)) (F0 m 0 ls [])
  unfold fX7_readSheet at hf
  refine lv_aload_n hx hb dX7_readSheet_0 rfl (lv_at hl 0 rfl) ?_
  refine gX7 X hP 15 (v := .int (k 246 15)) rfl (by decide) rfl wd_898 dX7_readSheet_1 ?_
  obtain ⟨x1, kk2, hg8, hf7⟩ := bd_some hf
  refine x_ci (x_runS (As := [.int (k 246 15)]) (rest := []) X hP hS (tX7_kindBy l X.2.2.2.2.2.2.1  hg8) mi_X7_119 rfl hl.1 rfl (Nat.le_of_ble_eq_true rfl) dX7_readSheet_4 ⟨Nat.le_of_ble_eq_true rfl, Nat.le_of_ble_eq_true rfl⟩ ⟨Nat.zero_le _, Nat.zero_le _⟩) hS (fun H3 lc4 hP5 hS6 => ?_)
  clear hf hP hS hg8
  refine lv_istore_n (lv' := [(1, .int x1), (0, .ref (g.2.2 246))]) hx hb dX7_readSheet_7 rfl hl (by decide) rfl (fun ls9 hl10 => ?_)
  clear hl
  refine lv_aload_n hx hb dX7_readSheet_8 rfl (lv_at hl10 1 rfl) ?_
  refine gX7 X hP5 6 (v := .ref (g.2.2 251)) rfl (by decide) rfl wd_889 dX7_readSheet_9 ?_
  refine lv_iconst (v := 0) hx hb dX7_readSheet_12 (by decide) ?_
  obtain ⟨hc11, hf12⟩ := chk_some hf7
  refine x_ildM X hP5 251 rfl hc11 dX7_readSheet_13 ?_
  refine lv_bipush (v := 6) hx hb dX7_readSheet_14 (by decide) ?_
  obtain ⟨J24_13, eJ24_13, hf153⟩ := jp_at hf12
  clear hf12
  have hJ24_13 : ∀  (kk14 : Hp) (H15 : Heap) (lc16 : List Loc) (ls17 : Array Slot), J24_13  kk14 = some ((), k1) → va_P g.1 vwCl (WW g h kk14) H15 → va_S (inA g) s.heap H15 lc16 → lv_has ls17 6 [(0, .ref (g.2.2 246)), (1, .int x1)] → W p l en (rmD 4) s m args below meth c H15 lc16 0 0 (MQ below (QV g h k1) args s 0 0 (inA g)) (F0 m 24 ls17 []) := by
    intro  kk14 H15 lc16 ls17 hf21 hP18 hS19 hl20
    clear hf153 hP5 hS6 hl10
    subst eJ24_13
    refine lv_aload_n hx hb dX7_readSheet_24 rfl (lv_at hl20 0 rfl) ?_
    refine lv_iconst (v := 1) hx hb dX7_readSheet_25 (by decide) ?_
    obtain ⟨⟨⟩, kk23, hg29, hf28⟩ := bd_some hf21
    refine x_cv (x_runV (As := [.int (1 : Int32)]) (rest := []) X hP18 hS19 246 (by decide) cl_M rfl (tX7_must l X.2.2.2.2.2.2.1  hg29) mi_X7_112 rfl hl20.1 rfl (Nat.le_of_ble_eq_true rfl) dX7_readSheet_26 ⟨Nat.le_of_ble_eq_true rfl, Nat.le_of_ble_eq_true rfl⟩ ⟨Nat.zero_le _, Nat.zero_le _⟩) hS19 (fun H24 lc25 hP26 hS27 => ?_)
    clear hf21 hP18 hS19 hg29
    refine lv_aload_n hx hb dX7_readSheet_29 rfl (lv_at hl20 0 rfl) ?_
    refine lv_iconst (v := 0) hx hb dX7_readSheet_30 (by decide) ?_
    refine lv_aload_n hx hb dX7_readSheet_31 rfl (lv_at hl20 0 rfl) ?_
    refine gX7 X hP26 6 (v := .ref (g.2.2 251)) rfl (by decide) rfl wd_889 dX7_readSheet_32 ?_
    refine lv_iconst (v := 2) hx hb dX7_readSheet_35 (by decide) ?_
    obtain ⟨hc30, hf31⟩ := chk_some hf28
    refine x_ildM X hP26 251 rfl hc30 dX7_readSheet_36 ?_
    refine lv_iconst (v := 1) hx hb dX7_readSheet_37 (by decide) ?_
    refine lv_isub hx hb dX7_readSheet_38 ?_
    obtain ⟨x32, kk33, hg39, hf38⟩ := bd_some hf31
    refine x_ci (x_runV (As := [.int (0 : Int32), .int ((kk23 251 (2 : Int32).toNatClampNeg) - (1 : Int32))]) (rest := []) X hP26 hS27 246 (by decide) cl_M rfl (tX7_number l X.2.2.2.2.2.2.1  hg39) mi_X7_125 rfl hl20.1 rfl (Nat.le_of_ble_eq_true rfl) dX7_readSheet_39 ⟨Nat.le_of_ble_eq_true rfl, Nat.le_of_ble_eq_true rfl⟩ ⟨Nat.zero_le _, Nat.zero_le _⟩) hS27 (fun H34 lc35 hP36 hS37 => ?_)
    clear hf31 hP26 hS27 hg39
    refine lv_istore_n (lv' := [(2, .int x32), (0, .ref (g.2.2 246)), (1, .int x1)]) hx hb dX7_readSheet_42 rfl hl20 (by decide) rfl (fun ls40 hl41 => ?_)
    clear hl20
    refine lv_aload_n hx hb dX7_readSheet_43 rfl (lv_at hl41 1 rfl) ?_
    refine lv_bipush (v := 44) hx hb dX7_readSheet_44 (by decide) ?_
    obtain ⟨⟨⟩, kk43, hg49, hf48⟩ := bd_some hf38
    refine x_cv (x_runV (As := [.int (44 : Int32)]) (rest := []) X hP36 hS37 246 (by decide) cl_M rfl (tX7_mustSign l X.2.2.2.2.2.2.1  hg49) mi_X7_129 rfl hl41.1 rfl (Nat.le_of_ble_eq_true rfl) dX7_readSheet_46 ⟨Nat.le_of_ble_eq_true rfl, Nat.le_of_ble_eq_true rfl⟩ ⟨Nat.zero_le _, Nat.zero_le _⟩) hS37 (fun H44 lc45 hP46 hS47 => ?_)
    clear hf38 hP36 hS37 hg49
    refine lv_aload_n hx hb dX7_readSheet_49 rfl (lv_at hl41 1 rfl) ?_
    refine lv_iconst (v := 1) hx hb dX7_readSheet_50 (by decide) ?_
    refine lv_iconst (v := 5) hx hb dX7_readSheet_51 (by decide) ?_
    obtain ⟨x50, kk51, hg57, hf56⟩ := bd_some hf48
    refine x_ci (x_runV (As := [.int (1 : Int32), .int (5 : Int32)]) (rest := []) X hP46 hS47 246 (by decide) cl_M rfl (tX7_number l X.2.2.2.2.2.2.1  hg57) mi_X7_125 rfl hl41.1 rfl (Nat.le_of_ble_eq_true rfl) dX7_readSheet_52 ⟨Nat.le_of_ble_eq_true rfl, Nat.le_of_ble_eq_true rfl⟩ ⟨Nat.zero_le _, Nat.zero_le _⟩) hS47 (fun H52 lc53 hP54 hS55 => ?_)
    clear hf48 hP46 hS47 hg57
    refine lv_istore_n (lv' := [(3, .int x50), (2, .int x32), (0, .ref (g.2.2 246)), (1, .int x1)]) hx hb dX7_readSheet_55 rfl hl41 (by decide) rfl (fun ls58 hl59 => ?_)
    clear hl41
    refine lv_aload_n hx hb dX7_readSheet_56 rfl (lv_at hl59 2 rfl) ?_
    refine lv_bipush (v := 44) hx hb dX7_readSheet_57 (by decide) ?_
    obtain ⟨⟨⟩, kk61, hg67, hf66⟩ := bd_some hf56
    refine x_cv (x_runV (As := [.int (44 : Int32)]) (rest := []) X hP54 hS55 246 (by decide) cl_M rfl (tX7_mustSign l X.2.2.2.2.2.2.1  hg67) mi_X7_129 rfl hl59.1 rfl (Nat.le_of_ble_eq_true rfl) dX7_readSheet_59 ⟨Nat.le_of_ble_eq_true rfl, Nat.le_of_ble_eq_true rfl⟩ ⟨Nat.zero_le _, Nat.zero_le _⟩) hS55 (fun H62 lc63 hP64 hS65 => ?_)
    clear hf56 hP54 hS55 hg67
    refine lv_aload_n hx hb dX7_readSheet_62 rfl (lv_at hl59 2 rfl) ?_
    refine lv_iconst (v := 1) hx hb dX7_readSheet_63 (by decide) ?_
    refine lv_bipush (v := 9) hx hb dX7_readSheet_64 (by decide) ?_
    obtain ⟨x68, kk69, hg75, hf74⟩ := bd_some hf66
    refine x_ci (x_runV (As := [.int (1 : Int32), .int (9 : Int32)]) (rest := []) X hP64 hS65 246 (by decide) cl_M rfl (tX7_number l X.2.2.2.2.2.2.1  hg75) mi_X7_125 rfl hl59.1 rfl (Nat.le_of_ble_eq_true rfl) dX7_readSheet_66 ⟨Nat.le_of_ble_eq_true rfl, Nat.le_of_ble_eq_true rfl⟩ ⟨Nat.zero_le _, Nat.zero_le _⟩) hS65 (fun H70 lc71 hP72 hS73 => ?_)
    clear hf66 hP64 hS65 hg75
    refine lv_istore (lv' := [(4, .int x68), (3, .int x50), (2, .int x32), (0, .ref (g.2.2 246)), (1, .int x1)]) hx hb dX7_readSheet_69 hl59 (by decide) rfl (fun ls76 hl77 => ?_)
    clear hl59
    refine lv_aload_n hx hb dX7_readSheet_71 rfl (lv_at hl77 3 rfl) ?_
    refine lv_bipush (v := 59) hx hb dX7_readSheet_72 (by decide) ?_
    obtain ⟨⟨⟩, kk79, hg85, hf84⟩ := bd_some hf74
    refine x_cv (x_runV (As := [.int (59 : Int32)]) (rest := []) X hP72 hS73 246 (by decide) cl_M rfl (tX7_mustSign l X.2.2.2.2.2.2.1  hg85) mi_X7_129 rfl hl77.1 rfl (Nat.le_of_ble_eq_true rfl) dX7_readSheet_74 ⟨Nat.le_of_ble_eq_true rfl, Nat.le_of_ble_eq_true rfl⟩ ⟨Nat.zero_le _, Nat.zero_le _⟩) hS73 (fun H80 lc81 hP82 hS83 => ?_)
    clear hf74 hP72 hS73 hg85
    refine lv_aload_n hx hb dX7_readSheet_77 rfl (lv_at hl77 3 rfl) ?_
    refine gX7 X hP82 16 (v := .int (kk79 246 16)) rfl (by decide) rfl wd_899 dX7_readSheet_78 ?_
    refine lv_if_ne (tgt := 167) hx hb dX7_readSheet_81 (by decide) (fun c86 => ?_) (fun c86 => ?_)
    · have hf87 := if_at_f c86 hf84
      clear hf84
      obtain ⟨-, rfl⟩ := ret_inj hf87
      exact x_vret X hr hlocks hP82 hS83 dX7_readSheet_167
    · have hf88 := if_at_t c86 hf84
      clear hf84
      refine lv_bipush (v := 14) hx hb dX7_readSheet_84 (by decide) ?_
      refine lv_bipush (v := 6) hx hb dX7_readSheet_86 (by decide) ?_
      refine lv_aload_n hx hb dX7_readSheet_88 rfl (lv_at hl77 3 rfl) ?_
      refine gX7 X hP82 6 (v := .ref (g.2.2 251)) rfl (by decide) rfl wd_889 dX7_readSheet_89 ?_
      refine lv_iconst (v := 0) hx hb dX7_readSheet_92 (by decide) ?_
      obtain ⟨hc89, hf90⟩ := chk_some hf88
      refine x_ildM X hP82 251 rfl hc89 dX7_readSheet_93 ?_
      refine lv_imul hx hb dX7_readSheet_94 ?_
      refine lv_iadd hx hb dX7_readSheet_95 ?_
      refine lv_topi (fun x91 ex91 => ?_)
      have hf92 := lk_at ex91 hf90
      clear hf90
      refine lv_istore (lv' := [(5, .int x91), (4, .int x68), (3, .int x50), (2, .int x32), (0, .ref (g.2.2 246)), (1, .int x1)]) hx hb dX7_readSheet_96 hl77 (by decide) rfl (fun ls93 hl94 => ?_)
      clear hl77
      refine lv_aload_n hx hb dX7_readSheet_98 rfl (lv_at hl94 4 rfl) ?_
      refine gX7 X hP82 6 (v := .ref (g.2.2 251)) rfl (by decide) rfl wd_889 dX7_readSheet_99 ?_
      refine lv_iload hx hb dX7_readSheet_102 (lv_at hl94 0 rfl) ?_
      refine lv_iload_n hx hb dX7_readSheet_104 rfl (lv_at hl94 5 rfl) ?_
      obtain ⟨hc95, hf96⟩ := chk_some hf92
      refine x_istM X hP82 hS83 251 rfl hc95 dX7_readSheet_105 (fun H97 lc98 kk99 ekk99 hP100 hS101 => ?_)
      have hf102 := lk_at ekk99 hf96
      clear hf96 hP82 hS83
      refine lv_aload_n hx hb dX7_readSheet_106 rfl (lv_at hl94 4 rfl) ?_
      refine gX7 X hP100 6 (v := .ref (g.2.2 251)) rfl (by decide) rfl wd_889 dX7_readSheet_107 ?_
      refine lv_iload hx hb dX7_readSheet_110 (lv_at hl94 0 rfl) ?_
      refine lv_iconst (v := 1) hx hb dX7_readSheet_112 (by decide) ?_
      refine lv_iadd hx hb dX7_readSheet_113 ?_
      refine lv_iload_n hx hb dX7_readSheet_114 rfl (lv_at hl94 3 rfl) ?_
      obtain ⟨hc103, hf104⟩ := chk_some hf102
      refine x_istM X hP100 hS101 251 rfl hc103 dX7_readSheet_115 (fun H105 lc106 kk107 ekk107 hP108 hS109 => ?_)
      have hf110 := lk_at ekk107 hf104
      clear hf104 hP100 hS101
      refine lv_aload_n hx hb dX7_readSheet_116 rfl (lv_at hl94 4 rfl) ?_
      refine gX7 X hP108 6 (v := .ref (g.2.2 251)) rfl (by decide) rfl wd_889 dX7_readSheet_117 ?_
      refine lv_iload hx hb dX7_readSheet_120 (lv_at hl94 0 rfl) ?_
      refine lv_iconst (v := 2) hx hb dX7_readSheet_122 (by decide) ?_
      refine lv_iadd hx hb dX7_readSheet_123 ?_
      refine lv_iload_n hx hb dX7_readSheet_124 rfl (lv_at hl94 2 rfl) ?_
      obtain ⟨hc111, hf112⟩ := chk_some hf110
      refine x_istM X hP108 hS109 251 rfl hc111 dX7_readSheet_125 (fun H113 lc114 kk115 ekk115 hP116 hS117 => ?_)
      have hf118 := lk_at ekk115 hf112
      clear hf112 hP108 hS109
      refine lv_aload_n hx hb dX7_readSheet_126 rfl (lv_at hl94 4 rfl) ?_
      refine gX7 X hP116 6 (v := .ref (g.2.2 251)) rfl (by decide) rfl wd_889 dX7_readSheet_127 ?_
      refine lv_iload hx hb dX7_readSheet_130 (lv_at hl94 0 rfl) ?_
      refine lv_iconst (v := 3) hx hb dX7_readSheet_132 (by decide) ?_
      refine lv_iadd hx hb dX7_readSheet_133 ?_
      refine lv_iload hx hb dX7_readSheet_134 (lv_at hl94 1 rfl) ?_
      obtain ⟨hc119, hf120⟩ := chk_some hf118
      refine x_istM X hP116 hS117 251 rfl hc119 dX7_readSheet_136 (fun H121 lc122 kk123 ekk123 hP124 hS125 => ?_)
      have hf126 := lk_at ekk123 hf120
      clear hf120 hP116 hS117
      refine lv_aload_n hx hb dX7_readSheet_137 rfl (lv_at hl94 4 rfl) ?_
      refine gX7 X hP124 6 (v := .ref (g.2.2 251)) rfl (by decide) rfl wd_889 dX7_readSheet_138 ?_
      refine lv_iload hx hb dX7_readSheet_141 (lv_at hl94 0 rfl) ?_
      refine lv_iconst (v := 4) hx hb dX7_readSheet_143 (by decide) ?_
      refine lv_iadd hx hb dX7_readSheet_144 ?_
      refine lv_iconst (v := 0) hx hb dX7_readSheet_145 (by decide) ?_
      obtain ⟨hc127, hf128⟩ := chk_some hf126
      refine x_istM X hP124 hS125 251 rfl hc127 dX7_readSheet_146 (fun H129 lc130 kk131 ekk131 hP132 hS133 => ?_)
      have hf134 := lk_at ekk131 hf128
      clear hf128 hP124 hS125
      refine lv_aload_n hx hb dX7_readSheet_147 rfl (lv_at hl94 4 rfl) ?_
      refine gX7 X hP132 6 (v := .ref (g.2.2 251)) rfl (by decide) rfl wd_889 dX7_readSheet_148 ?_
      refine lv_iload hx hb dX7_readSheet_151 (lv_at hl94 0 rfl) ?_
      refine lv_iconst (v := 5) hx hb dX7_readSheet_153 (by decide) ?_
      refine lv_iadd hx hb dX7_readSheet_154 ?_
      refine lv_iconst (v := 1) hx hb dX7_readSheet_155 (by decide) ?_
      obtain ⟨hc135, hf136⟩ := chk_some hf134
      refine x_istM X hP132 hS133 251 rfl hc135 dX7_readSheet_156 (fun H137 lc138 kk139 ekk139 hP140 hS141 => ?_)
      have hf142 := lk_at ekk139 hf136
      clear hf136 hP132 hS133
      refine lv_aload_n hx hb dX7_readSheet_157 rfl (lv_at hl94 4 rfl) ?_
      refine gX7 X hP140 6 (v := .ref (g.2.2 251)) rfl (by decide) rfl wd_889 dX7_readSheet_158 ?_
      refine lv_iconst (v := 0) hx hb dX7_readSheet_161 (by decide) ?_
      refine lv_dup2_11 hx hb dX7_readSheet_162 rfl rfl ?_
      obtain ⟨hc143, hf144⟩ := chk_some hf142
      refine x_ildM X hP140 251 rfl hc143 dX7_readSheet_163 ?_
      refine lv_iconst (v := 1) hx hb dX7_readSheet_164 (by decide) ?_
      refine lv_iadd hx hb dX7_readSheet_165 ?_
      obtain ⟨hc145, hf146⟩ := chk_some hf144
      refine x_istM X hP140 hS141 251 rfl hc145 dX7_readSheet_166 (fun H147 lc148 kk149 ekk149 hP150 hS151 => ?_)
      have hf152 := lk_at ekk149 hf146
      clear hf146 hP140 hS141
      obtain ⟨-, rfl⟩ := ret_inj hf152
      exact x_vret X hr hlocks hP150 hS151 dX7_readSheet_167
  clear eJ24_13
  refine lv_icmp_ne (tgt := 24) hx hb dX7_readSheet_16 (by decide) (fun c154 => ?_) (fun c154 => ?_)
  · have hf155 := if_at_f c154 hf153
    clear hf153
    exact hJ24_13 kk2  _ _ _ hf155 hP5 hS6 (lv_sub hl10 [1, 0] rfl)
  · have hf156 := if_at_t c154 hf153
    clear hf153
    refine lv_aload_n hx hb dX7_readSheet_19 rfl (lv_at hl10 1 rfl) ?_
    refine lv_iconst (v := 3) hx hb dX7_readSheet_20 (by decide) ?_
    obtain ⟨⟨⟩, kk158, hg164, hf163⟩ := bd_some hf156
    refine x_cv (x_runV (As := [.int (3 : Int32)]) (rest := []) X hP5 hS6 246 (by decide) cl_M rfl (tX7_bad l X.2.2.2.2.2.2.1  hg164) mi_X7_105 rfl hl10.1 rfl (Nat.le_of_ble_eq_true rfl) dX7_readSheet_21 ⟨Nat.le_of_ble_eq_true rfl, Nat.le_of_ble_eq_true rfl⟩ ⟨Nat.zero_le _, Nat.zero_le _⟩) hS6 (fun H159 lc160 hP161 hS162 => ?_)
    clear hf156 hP5 hS6 hg164
    exact hJ24_13 kk158  _ _ _ hf163 hP161 hS162 (lv_sub hl10 [1, 0] rfl)
set_option maxRecDepth 100000 in
set_option maxHeartbeats 4000000 in
theorem wX7_estuary_L11 {p : Program} {l : Launch} {en : Env} {s : State} {m : MethodId} {args : Array Value} {below : List Frame} {meth : Method} {c : Code} {g : Gx} (X : Cx p s m args c cX7_estuary 2 RX7 g) (hr : meth.sig.returnType = (some .int)) (hlocks : meth.locks = false) {h k1 : Hp} {r : Int32}   {K30 : Hp → Option (Int32 × Hp)}
    (hK30 : ∀  (k : Hp) (H : Heap) (locs : List Loc) (ls : Array Slot), K30  k = some (r, k1) → va_P g.1 vwCl (WW g h k) H → va_S (inA g) s.heap H locs → lv_has ls 2 [(0, .ref (g.2.2 246))] → W p l en (rmD 5) s m args below meth c H locs 0 0 (MQ below (QI g h k1 r) args s 0 0 (inA g)) (F0 m 30 ls [])) :
    ∀ (n : Nat) (v1 : Int32) (k : Hp) (H : Heap) (locs : List Loc) (ls : Array Slot), fX7_estuary_L11 K30 n v1 k = some (r, k1) → va_P g.1 vwCl (WW g h k) H → va_S (inA g) s.heap H locs → lv_has ls 2 [(0, .ref (g.2.2 246)), (1, .int v1)] → W p l en (rmD 5) s m args below meth c H locs 0 0 (MQ below (QI g h k1 r) args s 0 0 (inA g)) (F0 m 11 ls []) := by
  have hx := X.1
  have hb := X.2.1
  intro n
  induction n with
  | zero => intro v1 k H locs ls  hf; simp only [fX7_estuary_L11, reduceCtorEq] at hf
  | succ n ih =>
    intro v1 k H locs ls  hf hP hS hl
    rw [fX7_estuary_L11] at hf
    refine lv_iload_n hx hb dX7_estuary_11 rfl (lv_at hl 1 rfl) ?_
    refine lv_bipush (v := 50) hx hb dX7_estuary_12 (by decide) ?_
    refine lv_icmp_ge (tgt := 30) hx hb dX7_estuary_14 (by decide) (fun c17 => ?_) (fun c17 => ?_)
    · have hf18 := if_at_t c17 hf
      clear hf
      exact hK30 k  _ _ _ hf18 hP hS (lv_sub hl [0] rfl)
    · have hf19 := if_at_f c17 hf
      clear hf
      refine lv_aload_n hx hb dX7_estuary_17 rfl (lv_at hl 0 rfl) ?_
      refine gX7 X hP 6 (v := .ref (g.2.2 251)) rfl (by decide) rfl wd_889 dX7_estuary_18 ?_
      refine lv_iload_n hx hb dX7_estuary_21 rfl (lv_at hl 1 rfl) ?_
      refine lv_iconst (v := 0) hx hb dX7_estuary_22 (by decide) ?_
      obtain ⟨hc20, hf21⟩ := chk_some hf19
      refine x_istM X hP hS 251 rfl hc20 dX7_estuary_23 (fun H22 lc23 kk24 ekk24 hP25 hS26 => ?_)
      have hf27 := lk_at ekk24 hf21
      clear hf21 hP hS
      obtain ⟨x28, ex28⟩ : ∃ q : Int32, q = v1 + (1 : Int32) := ⟨_, rfl⟩
      have hf29 := lk_at ex28 hf27
      clear hf27
      refine lv_iinc (v := x28) (lv' := [(1, .int x28), (0, .ref (g.2.2 246))]) hx hb dX7_estuary_24 hl (k := 1) rfl (by rw [ex28]; rfl) (by decide) rfl (fun ls30 hl31 => ?_)
      clear hl
      refine lv_goto (tgt := 11) hx hb dX7_estuary_27 (by decide) ?_
      exact ih x28 kk24  _ _ _ hf29 hP25 hS26 (lv_sub hl31 [1, 0] rfl)
set_option maxRecDepth 100000 in
set_option maxHeartbeats 4000000 in
theorem wX7_estuary_L133 {p : Program} {l : Launch} {en : Env} {s : State} {m : MethodId} {args : Array Value} {below : List Frame} {meth : Method} {c : Code} {g : Gx} (X : Cx p s m args c cX7_estuary 2 RX7 g) (hr : meth.sig.returnType = (some .int)) (hlocks : meth.locks = false) {h k1 : Hp} {r : Int32}   {K149 : Hp → Option (Int32 × Hp)}
    (hK149 : ∀  (k : Hp) (H : Heap) (locs : List Loc) (ls : Array Slot), K149  k = some (r, k1) → va_P g.1 vwCl (WW g h k) H → va_S (inA g) s.heap H locs → lv_has ls 2 [(0, .ref (g.2.2 246))] → W p l en (rmD 5) s m args below meth c H locs 0 0 (MQ below (QI g h k1 r) args s 0 0 (inA g)) (F0 m 149 ls [])) :
    ∀ (n : Nat) (k : Hp) (H : Heap) (locs : List Loc) (ls : Array Slot), fX7_estuary_L133 K149 n  k = some (r, k1) → va_P g.1 vwCl (WW g h k) H → va_S (inA g) s.heap H locs → lv_has ls 2 [(0, .ref (g.2.2 246))] → W p l en (rmD 5) s m args below meth c H locs 0 0 (MQ below (QI g h k1 r) args s 0 0 (inA g)) (F0 m 133 ls []) := by
  have hx := X.1
  have hb := X.2.1
  intro n
  induction n with
  | zero => intro  k H locs ls  hf; simp only [fX7_estuary_L133, reduceCtorEq] at hf
  | succ n ih =>
    intro  k H locs ls  hf hP hS hl
    rw [fX7_estuary_L133] at hf
    refine lv_aload_n hx hb dX7_estuary_133 rfl (lv_at hl 0 rfl) ?_
    refine lv_bipush (v := 103) hx hb dX7_estuary_134 (by decide) ?_
    obtain ⟨x164, kk165, hg171, hf170⟩ := bd_some hf
    refine x_ci (x_runV (As := [.int (103 : Int32)]) (rest := []) X hP hS 246 (by decide) cl_M rfl (tX7_isLetter l X.2.2.2.2.2.2.1  hg171) mi_X7_122 rfl hl.1 rfl (Nat.le_of_ble_eq_true rfl) dX7_estuary_136 ⟨Nat.le_of_ble_eq_true rfl, Nat.le_of_ble_eq_true rfl⟩ ⟨Nat.zero_le _, Nat.zero_le _⟩) hS (fun H166 lc167 hP168 hS169 => ?_)
    clear hf hP hS hg171
    refine lv_if_eq (tgt := 149) hx hb dX7_estuary_139 (by decide) (fun c172 => ?_) (fun c172 => ?_)
    · have hf173 := if_at_t c172 hf170
      clear hf170
      exact hK149 kk165  _ _ _ hf173 hP168 hS169 (lv_sub hl [0] rfl)
    · have hf174 := if_at_f c172 hf170
      clear hf170
      refine lv_aload_n hx hb dX7_estuary_142 rfl (lv_at hl 0 rfl) ?_
      obtain ⟨⟨⟩, kk176, hg182, hf181⟩ := bd_some hf174
      refine x_cv (x_runV (As := []) (rest := []) X hP168 hS169 246 (by decide) cl_M rfl (tX7_readWind l X.2.2.2.2.2.2.1  hg182) mi_X7_135 rfl hl.1 rfl (Nat.le_of_ble_eq_true rfl) dX7_estuary_143 ⟨Nat.le_of_ble_eq_true rfl, Nat.le_of_ble_eq_true rfl⟩ ⟨Nat.zero_le _, Nat.zero_le _⟩) hS169 (fun H177 lc178 hP179 hS180 => ?_)
      clear hf174 hP168 hS169 hg182
      refine lv_goto (tgt := 133) hx hb dX7_estuary_146 (by decide) ?_
      exact ih kk176  _ _ _ hf181 hP179 hS180 (lv_sub hl [0] rfl)
set_option maxRecDepth 100000 in
set_option maxHeartbeats 4000000 in
theorem wX7_estuary_L161 {p : Program} {l : Launch} {en : Env} {s : State} {m : MethodId} {args : Array Value} {below : List Frame} {meth : Method} {c : Code} {g : Gx} (X : Cx p s m args c cX7_estuary 2 RX7 g) (hr : meth.sig.returnType = (some .int)) (hlocks : meth.locks = false) {h k1 : Hp} {r : Int32}   {K175 : Hp → Option (Int32 × Hp)}
    (hK175 : ∀  (k : Hp) (H : Heap) (locs : List Loc) (ls : Array Slot), K175  k = some (r, k1) → va_P g.1 vwCl (WW g h k) H → va_S (inA g) s.heap H locs → lv_has ls 2 [(0, .ref (g.2.2 246))] → W p l en (rmD 5) s m args below meth c H locs 0 0 (MQ below (QI g h k1 r) args s 0 0 (inA g)) (F0 m 175 ls [])) :
    ∀ (n : Nat) (k : Hp) (H : Heap) (locs : List Loc) (ls : Array Slot), fX7_estuary_L161 K175 n  k = some (r, k1) → va_P g.1 vwCl (WW g h k) H → va_S (inA g) s.heap H locs → lv_has ls 2 [(0, .ref (g.2.2 246))] → W p l en (rmD 5) s m args below meth c H locs 0 0 (MQ below (QI g h k1 r) args s 0 0 (inA g)) (F0 m 161 ls []) := by
  have hx := X.1
  have hb := X.2.1
  intro n
  induction n with
  | zero => intro  k H locs ls  hf; simp only [fX7_estuary_L161, reduceCtorEq] at hf
  | succ n ih =>
    intro  k H locs ls  hf hP hS hl
    rw [fX7_estuary_L161] at hf
    refine lv_aload_n hx hb dX7_estuary_161 rfl (lv_at hl 0 rfl) ?_
    obtain ⟨x208, kk209, hg215, hf214⟩ := bd_some hf
    refine x_ci (x_runV (As := []) (rest := []) X hP hS 246 (by decide) cl_M rfl (tX7_isSort l X.2.2.2.2.2.2.1  hg215) mi_X7_138 rfl hl.1 rfl (Nat.le_of_ble_eq_true rfl) dX7_estuary_162 ⟨Nat.le_of_ble_eq_true rfl, Nat.le_of_ble_eq_true rfl⟩ ⟨Nat.zero_le _, Nat.zero_le _⟩) hS (fun H210 lc211 hP212 hS213 => ?_)
    clear hf hP hS hg215
    refine lv_if_eq (tgt := 175) hx hb dX7_estuary_165 (by decide) (fun c216 => ?_) (fun c216 => ?_)
    · have hf217 := if_at_t c216 hf214
      clear hf214
      exact hK175 kk209  _ _ _ hf217 hP212 hS213 (lv_sub hl [0] rfl)
    · have hf218 := if_at_f c216 hf214
      clear hf214
      refine lv_aload_n hx hb dX7_estuary_168 rfl (lv_at hl 0 rfl) ?_
      obtain ⟨⟨⟩, kk220, hg226, hf225⟩ := bd_some hf218
      refine x_cv (x_runV (As := []) (rest := []) X hP212 hS213 246 (by decide) cl_M rfl (tX7_readSheet l X.2.2.2.2.2.2.1  hg226) mi_X7_142 rfl hl.1 rfl (Nat.le_of_ble_eq_true rfl) dX7_estuary_169 ⟨Nat.le_of_ble_eq_true rfl, Nat.le_of_ble_eq_true rfl⟩ ⟨Nat.zero_le _, Nat.zero_le _⟩) hS213 (fun H221 lc222 hP223 hS224 => ?_)
      clear hf218 hP212 hS213 hg226
      refine lv_goto (tgt := 161) hx hb dX7_estuary_172 (by decide) ?_
      exact ih kk220  _ _ _ hf225 hP223 hS224 (lv_sub hl [0] rfl)
set_option maxRecDepth 100000 in
set_option maxHeartbeats 4000000 in
theorem wX7_estuary_L197 {p : Program} {l : Launch} {en : Env} {s : State} {m : MethodId} {args : Array Value} {below : List Frame} {meth : Method} {c : Code} {g : Gx} (X : Cx p s m args c cX7_estuary 2 RX7 g) (hr : meth.sig.returnType = (some .int)) (hlocks : meth.locks = false) {h k1 : Hp} {r : Int32}   
     :
    ∀ (n : Nat) (v1 : Int32) (k : Hp) (H : Heap) (locs : List Loc) (ls : Array Slot), fX7_estuary_L197 n v1 k = some (r, k1) → va_P g.1 vwCl (WW g h k) H → va_S (inA g) s.heap H locs → lv_has ls 2 [(0, .ref (g.2.2 246)), (1, .int v1)] → W p l en (rmD 5) s m args below meth c H locs 0 0 (MQ below (QI g h k1 r) args s 0 0 (inA g)) (F0 m 197 ls []) := by
  have hx := X.1
  have hb := X.2.1
  intro n
  induction n with
  | zero => intro v1 k H locs ls  hf; simp only [fX7_estuary_L197, reduceCtorEq] at hf
  | succ n ih =>
    intro v1 k H locs ls  hf hP hS hl
    rw [fX7_estuary_L197] at hf
    refine lv_iload_n hx hb dX7_estuary_197 rfl (lv_at hl 1 rfl) ?_
    refine lv_bipush (v := 50) hx hb dX7_estuary_198 (by decide) ?_
    refine lv_icmp_ge (tgt := 221) hx hb dX7_estuary_200 (by decide) (fun c253 => ?_) (fun c253 => ?_)
    · have hf254 := if_at_t c253 hf
      clear hf
      refine lv_aload_n hx hb dX7_estuary_221 rfl (lv_at hl 0 rfl) ?_
      refine gX7 X hP 5 (v := .ref (g.2.2 250)) rfl (by decide) rfl wd_888 dX7_estuary_222 ?_
      refine lv_iconst (v := 0) hx hb dX7_estuary_225 (by decide) ?_
      obtain ⟨hc255, hf256⟩ := chk_some hf254
      refine x_ildM X hP 250 rfl hc255 dX7_estuary_226 ?_
      obtain ⟨rfl, rfl⟩ := ret_inj hf256
      exact x_iret X hr hlocks hP hS dX7_estuary_227
    · have hf257 := if_at_f c253 hf
      clear hf
      refine lv_aload_n hx hb dX7_estuary_203 rfl (lv_at hl 0 rfl) ?_
      refine gX7 X hP 5 (v := .ref (g.2.2 250)) rfl (by decide) rfl wd_888 dX7_estuary_204 ?_
      refine lv_iload_n hx hb dX7_estuary_207 rfl (lv_at hl 1 rfl) ?_
      refine lv_aload_n hx hb dX7_estuary_208 rfl (lv_at hl 0 rfl) ?_
      refine gX7 X hP 6 (v := .ref (g.2.2 251)) rfl (by decide) rfl wd_889 dX7_estuary_209 ?_
      refine lv_iload_n hx hb dX7_estuary_212 rfl (lv_at hl 1 rfl) ?_
      obtain ⟨hc258, hf259⟩ := chk_some hf257
      refine x_ildM X hP 251 rfl hc258 dX7_estuary_213 ?_
      obtain ⟨hc260, hf261⟩ := chk_some hf259
      refine x_istM X hP hS 250 rfl hc260 dX7_estuary_214 (fun H262 lc263 kk264 ekk264 hP265 hS266 => ?_)
      have hf267 := lk_at ekk264 hf261
      clear hf261 hP hS
      obtain ⟨x268, ex268⟩ : ∃ q : Int32, q = v1 + (1 : Int32) := ⟨_, rfl⟩
      have hf269 := lk_at ex268 hf267
      clear hf267
      refine lv_iinc (v := x268) (lv' := [(1, .int x268), (0, .ref (g.2.2 246))]) hx hb dX7_estuary_215 hl (k := 1) rfl (by rw [ex268]; rfl) (by decide) rfl (fun ls270 hl271 => ?_)
      clear hl
      refine lv_goto (tgt := 197) hx hb dX7_estuary_218 (by decide) ?_
      exact ih x268 kk264  _ _ _ hf269 hP265 hS266 (lv_sub hl271 [1, 0] rfl)
set_option maxRecDepth 100000 in
set_option maxHeartbeats 4000000 in
theorem tX7_estuary (l : Launch) {g : Gx} (hI : InjG g) {h k k1 : Hp}  {r : Int32}   (hf : fX7_estuary k = some (r, k1)) : CI l yX7_estuary cX7_estuary 2 (some .int) 5 g [.ref (g.2.2 246)] h k h k1 r := by
  refine Met.ofW (cc := cX7_estuary) (maxL := 2) (ret := (some .int)) (by decide) rfl ?_
  intro p en s m args below meth c s₁ B hml hv
  obtain ⟨rfl, hSK, hSH, hP⟩ := hv
  have X : Cx p s m _ c cX7_estuary 2 RX7 g := ⟨B.exec, B.bytes, hml, findClass_of_methodNamed B.named, fun w hw => atoms_spec (ws := wsy yX7_estuary cX7_estuary 2 (some .int)) B.pre w (List.mem_cons_of_mem _ hw), hSK, hI, hSH⟩
  have hr := B.returns
  have hlocks := B.notSynchronized
  have hx := X.1
  have hb := X.2.1
  have hS : va_S (inA g) s.heap s.heap [] := va_S.rf
  clear hSK hSH hml B
  have hl := lv_entry ([.ref (g.2.2 246)]) (n := 2) (Nat.le_of_ble_eq_true rfl)
  rw [lg_entry_eq]
  generalize (lg_sl ([.ref (g.2.2 246)]) ++ List.replicate (2 - (lg_sl ([.ref (g.2.2 246)])).length) Slot.unset).toArray = ls at hl ⊢
  have hl : lv_has ls 2 [(0, .ref (g.2.2 246))] := hl
  generalize ([.ref (g.2.2 246)] : List Value).toArray = args at X ⊢
  show W p l en (rmD 5) s m args below meth c s.heap [] 0 0 (MQ below (QI g h k1 r) args s 0 0 (inA g)) (F0 m 0 ls [])
  unfold fX7_estuary at hf
  refine lv_aload_n hx hb dX7_estuary_0 rfl (lv_at hl 0 rfl) ?_
  refine lv_iconst (v := 0) hx hb dX7_estuary_1 (by decide) ?_
  refine pX7 X hP hS 0 (by decide) rfl wd_883 rfl rfl rfl rfl seX7_0 dX7_estuary_2 (fun H1 lc2 kk3 ekk3 hP4 hS5 => ?_)
  have hf6 := lk_at ekk3 hf
  clear hf hP hS
  refine lv_aload_n hx hb dX7_estuary_5 rfl (lv_at hl 0 rfl) ?_
  obtain ⟨⟨⟩, kk8, hg14, hf13⟩ := bd_some hf6
  refine x_cv (x_runV (As := []) (rest := []) X hP4 hS5 246 (by decide) cl_M rfl (tX7_begin l X.2.2.2.2.2.2.1  hg14) mi_X7_132 rfl hl.1 rfl (Nat.le_of_ble_eq_true rfl) dX7_estuary_6 ⟨Nat.le_of_ble_eq_true rfl, Nat.le_of_ble_eq_true rfl⟩ ⟨Nat.zero_le _, Nat.zero_le _⟩) hS5 (fun H9 lc10 hP11 hS12 => ?_)
  clear hf6 hP4 hS5 hg14
  refine lv_iconst (v := 0) hx hb dX7_estuary_9 (by decide) ?_
  refine lv_istore_n (lv' := [(1, .int (0 : Int32)), (0, .ref (g.2.2 246))]) hx hb dX7_estuary_10 rfl hl (by decide) rfl (fun ls15 hl16 => ?_)
  clear hl
  refine wX7_estuary_L11 X hr hlocks  ?_ 4096 (0 : Int32) kk8 _ _ _  hf13 hP11 hS12 (lv_sub hl16 [1, 0] rfl)
  · intro  kk32 H33 lc34 ls35  hf39 hP36 hS37 hl38
    refine lv_aload_n hx hb dX7_estuary_30 rfl (lv_at hl38 0 rfl) ?_
    refine lv_aload_n hx hb dX7_estuary_31 rfl (lv_at hl38 0 rfl) ?_
    refine lv_bipush (v := 101) hx hb dX7_estuary_32 (by decide) ?_
    obtain ⟨x40, kk41, hg47, hf46⟩ := bd_some hf39
    refine x_ci (x_runV (As := [.int (101 : Int32)]) (rest := [.ref (g.2.2 246)]) X hP36 hS37 246 (by decide) cl_M rfl (tX7_isLetter l X.2.2.2.2.2.2.1  hg47) mi_X7_122 rfl hl38.1 rfl (Nat.le_of_ble_eq_true rfl) dX7_estuary_34 ⟨Nat.le_of_ble_eq_true rfl, Nat.le_of_ble_eq_true rfl⟩ ⟨Nat.zero_le _, Nat.zero_le _⟩) hS37 (fun H42 lc43 hP44 hS45 => ?_)
    clear hf39 hP36 hS37 hg47
    obtain ⟨⟨⟩, kk49, hg55, hf54⟩ := bd_some hf46
    refine x_cv (x_runV (As := [.int x40]) (rest := []) X hP44 hS45 246 (by decide) cl_M rfl (tX7_must l X.2.2.2.2.2.2.1  hg55) mi_X7_112 rfl hl38.1 rfl (Nat.le_of_ble_eq_true rfl) dX7_estuary_37 ⟨Nat.le_of_ble_eq_true rfl, Nat.le_of_ble_eq_true rfl⟩ ⟨Nat.zero_le _, Nat.zero_le _⟩) hS45 (fun H50 lc51 hP52 hS53 => ?_)
    clear hf46 hP44 hS45 hg55
    refine lv_aload_n hx hb dX7_estuary_40 rfl (lv_at hl38 0 rfl) ?_
    refine gX7 X hP52 6 (v := .ref (g.2.2 251)) rfl (by decide) rfl wd_889 dX7_estuary_41 ?_
    refine lv_iconst (v := 2) hx hb dX7_estuary_44 (by decide) ?_
    refine lv_aload_n hx hb dX7_estuary_45 rfl (lv_at hl38 0 rfl) ?_
    refine lv_bipush (v := 6) hx hb dX7_estuary_46 (by decide) ?_
    refine lv_bipush (v := 16) hx hb dX7_estuary_48 (by decide) ?_
    obtain ⟨x56, kk57, hg63, hf62⟩ := bd_some hf54
    refine x_ci (x_runV (As := [.int (6 : Int32), .int (16 : Int32)]) (rest := [.int (2 : Int32), .ref (g.2.2 251)]) X hP52 hS53 246 (by decide) cl_M rfl (tX7_number l X.2.2.2.2.2.2.1  hg63) mi_X7_125 rfl hl38.1 rfl (Nat.le_of_ble_eq_true rfl) dX7_estuary_50 ⟨Nat.le_of_ble_eq_true rfl, Nat.le_of_ble_eq_true rfl⟩ ⟨Nat.zero_le _, Nat.zero_le _⟩) hS53 (fun H58 lc59 hP60 hS61 => ?_)
    clear hf54 hP52 hS53 hg63
    obtain ⟨hc64, hf65⟩ := chk_some hf62
    refine x_istM X hP60 hS61 251 rfl hc64 dX7_estuary_53 (fun H66 lc67 kk68 ekk68 hP69 hS70 => ?_)
    have hf71 := lk_at ekk68 hf65
    clear hf65 hP60 hS61
    refine lv_aload_n hx hb dX7_estuary_54 rfl (lv_at hl38 0 rfl) ?_
    refine lv_bipush (v := 44) hx hb dX7_estuary_55 (by decide) ?_
    obtain ⟨⟨⟩, kk73, hg79, hf78⟩ := bd_some hf71
    refine x_cv (x_runV (As := [.int (44 : Int32)]) (rest := []) X hP69 hS70 246 (by decide) cl_M rfl (tX7_mustSign l X.2.2.2.2.2.2.1  hg79) mi_X7_129 rfl hl38.1 rfl (Nat.le_of_ble_eq_true rfl) dX7_estuary_57 ⟨Nat.le_of_ble_eq_true rfl, Nat.le_of_ble_eq_true rfl⟩ ⟨Nat.zero_le _, Nat.zero_le _⟩) hS70 (fun H74 lc75 hP76 hS77 => ?_)
    clear hf71 hP69 hS70 hg79
    refine lv_aload_n hx hb dX7_estuary_60 rfl (lv_at hl38 0 rfl) ?_
    refine gX7 X hP76 6 (v := .ref (g.2.2 251)) rfl (by decide) rfl wd_889 dX7_estuary_61 ?_
    refine lv_iconst (v := 3) hx hb dX7_estuary_64 (by decide) ?_
    refine lv_aload_n hx hb dX7_estuary_65 rfl (lv_at hl38 0 rfl) ?_
    refine lv_iconst (v := 0) hx hb dX7_estuary_66 (by decide) ?_
    refine lv_aload_n hx hb dX7_estuary_67 rfl (lv_at hl38 0 rfl) ?_
    refine gX7 X hP76 6 (v := .ref (g.2.2 251)) rfl (by decide) rfl wd_889 dX7_estuary_68 ?_
    refine lv_iconst (v := 2) hx hb dX7_estuary_71 (by decide) ?_
    obtain ⟨hc80, hf81⟩ := chk_some hf78
    refine x_ildM X hP76 251 rfl hc80 dX7_estuary_72 ?_
    refine lv_iconst (v := 1) hx hb dX7_estuary_73 (by decide) ?_
    refine lv_isub hx hb dX7_estuary_74 ?_
    obtain ⟨x82, kk83, hg89, hf88⟩ := bd_some hf81
    refine x_ci (x_runV (As := [.int (0 : Int32), .int ((kk73 251 (2 : Int32).toNatClampNeg) - (1 : Int32))]) (rest := [.int (3 : Int32), .ref (g.2.2 251)]) X hP76 hS77 246 (by decide) cl_M rfl (tX7_number l X.2.2.2.2.2.2.1  hg89) mi_X7_125 rfl hl38.1 rfl (Nat.le_of_ble_eq_true rfl) dX7_estuary_75 ⟨Nat.le_of_ble_eq_true rfl, Nat.le_of_ble_eq_true rfl⟩ ⟨Nat.zero_le _, Nat.zero_le _⟩) hS77 (fun H84 lc85 hP86 hS87 => ?_)
    clear hf81 hP76 hS77 hg89
    obtain ⟨hc90, hf91⟩ := chk_some hf88
    refine x_istM X hP86 hS87 251 rfl hc90 dX7_estuary_78 (fun H92 lc93 kk94 ekk94 hP95 hS96 => ?_)
    have hf97 := lk_at ekk94 hf91
    clear hf91 hP86 hS87
    refine lv_aload_n hx hb dX7_estuary_79 rfl (lv_at hl38 0 rfl) ?_
    refine lv_bipush (v := 44) hx hb dX7_estuary_80 (by decide) ?_
    obtain ⟨⟨⟩, kk99, hg105, hf104⟩ := bd_some hf97
    refine x_cv (x_runV (As := [.int (44 : Int32)]) (rest := []) X hP95 hS96 246 (by decide) cl_M rfl (tX7_mustSign l X.2.2.2.2.2.2.1  hg105) mi_X7_129 rfl hl38.1 rfl (Nat.le_of_ble_eq_true rfl) dX7_estuary_82 ⟨Nat.le_of_ble_eq_true rfl, Nat.le_of_ble_eq_true rfl⟩ ⟨Nat.zero_le _, Nat.zero_le _⟩) hS96 (fun H100 lc101 hP102 hS103 => ?_)
    clear hf97 hP95 hS96 hg105
    refine lv_aload_n hx hb dX7_estuary_85 rfl (lv_at hl38 0 rfl) ?_
    refine gX7 X hP102 6 (v := .ref (g.2.2 251)) rfl (by decide) rfl wd_889 dX7_estuary_86 ?_
    refine lv_iconst (v := 4) hx hb dX7_estuary_89 (by decide) ?_
    refine lv_aload_n hx hb dX7_estuary_90 rfl (lv_at hl38 0 rfl) ?_
    refine lv_iconst (v := 0) hx hb dX7_estuary_91 (by decide) ?_
    refine lv_aload_n hx hb dX7_estuary_92 rfl (lv_at hl38 0 rfl) ?_
    refine gX7 X hP102 6 (v := .ref (g.2.2 251)) rfl (by decide) rfl wd_889 dX7_estuary_93 ?_
    refine lv_iconst (v := 2) hx hb dX7_estuary_96 (by decide) ?_
    obtain ⟨hc106, hf107⟩ := chk_some hf104
    refine x_ildM X hP102 251 rfl hc106 dX7_estuary_97 ?_
    refine lv_iconst (v := 1) hx hb dX7_estuary_98 (by decide) ?_
    refine lv_isub hx hb dX7_estuary_99 ?_
    obtain ⟨x108, kk109, hg115, hf114⟩ := bd_some hf107
    refine x_ci (x_runV (As := [.int (0 : Int32), .int ((kk99 251 (2 : Int32).toNatClampNeg) - (1 : Int32))]) (rest := [.int (4 : Int32), .ref (g.2.2 251)]) X hP102 hS103 246 (by decide) cl_M rfl (tX7_number l X.2.2.2.2.2.2.1  hg115) mi_X7_125 rfl hl38.1 rfl (Nat.le_of_ble_eq_true rfl) dX7_estuary_100 ⟨Nat.le_of_ble_eq_true rfl, Nat.le_of_ble_eq_true rfl⟩ ⟨Nat.zero_le _, Nat.zero_le _⟩) hS103 (fun H110 lc111 hP112 hS113 => ?_)
    clear hf107 hP102 hS103 hg115
    obtain ⟨hc116, hf117⟩ := chk_some hf114
    refine x_istM X hP112 hS113 251 rfl hc116 dX7_estuary_103 (fun H118 lc119 kk120 ekk120 hP121 hS122 => ?_)
    have hf123 := lk_at ekk120 hf117
    clear hf117 hP112 hS113
    refine lv_aload_n hx hb dX7_estuary_104 rfl (lv_at hl38 0 rfl) ?_
    refine lv_bipush (v := 44) hx hb dX7_estuary_105 (by decide) ?_
    obtain ⟨⟨⟩, kk125, hg131, hf130⟩ := bd_some hf123
    refine x_cv (x_runV (As := [.int (44 : Int32)]) (rest := []) X hP121 hS122 246 (by decide) cl_M rfl (tX7_mustSign l X.2.2.2.2.2.2.1  hg131) mi_X7_129 rfl hl38.1 rfl (Nat.le_of_ble_eq_true rfl) dX7_estuary_107 ⟨Nat.le_of_ble_eq_true rfl, Nat.le_of_ble_eq_true rfl⟩ ⟨Nat.zero_le _, Nat.zero_le _⟩) hS122 (fun H126 lc127 hP128 hS129 => ?_)
    clear hf123 hP121 hS122 hg131
    refine lv_aload_n hx hb dX7_estuary_110 rfl (lv_at hl38 0 rfl) ?_
    refine gX7 X hP128 6 (v := .ref (g.2.2 251)) rfl (by decide) rfl wd_889 dX7_estuary_111 ?_
    refine lv_iconst (v := 5) hx hb dX7_estuary_114 (by decide) ?_
    refine lv_aload_n hx hb dX7_estuary_115 rfl (lv_at hl38 0 rfl) ?_
    refine lv_iconst (v := 0) hx hb dX7_estuary_116 (by decide) ?_
    refine lv_bipush (v := 15) hx hb dX7_estuary_117 (by decide) ?_
    obtain ⟨x132, kk133, hg139, hf138⟩ := bd_some hf130
    refine x_ci (x_runV (As := [.int (0 : Int32), .int (15 : Int32)]) (rest := [.int (5 : Int32), .ref (g.2.2 251)]) X hP128 hS129 246 (by decide) cl_M rfl (tX7_number l X.2.2.2.2.2.2.1  hg139) mi_X7_125 rfl hl38.1 rfl (Nat.le_of_ble_eq_true rfl) dX7_estuary_119 ⟨Nat.le_of_ble_eq_true rfl, Nat.le_of_ble_eq_true rfl⟩ ⟨Nat.zero_le _, Nat.zero_le _⟩) hS129 (fun H134 lc135 hP136 hS137 => ?_)
    clear hf130 hP128 hS129 hg139
    obtain ⟨hc140, hf141⟩ := chk_some hf138
    refine x_istM X hP136 hS137 251 rfl hc140 dX7_estuary_122 (fun H142 lc143 kk144 ekk144 hP145 hS146 => ?_)
    have hf147 := lk_at ekk144 hf141
    clear hf141 hP136 hS137
    refine lv_aload_n hx hb dX7_estuary_123 rfl (lv_at hl38 0 rfl) ?_
    refine lv_bipush (v := 59) hx hb dX7_estuary_124 (by decide) ?_
    obtain ⟨⟨⟩, kk149, hg155, hf154⟩ := bd_some hf147
    refine x_cv (x_runV (As := [.int (59 : Int32)]) (rest := []) X hP145 hS146 246 (by decide) cl_M rfl (tX7_mustSign l X.2.2.2.2.2.2.1  hg155) mi_X7_129 rfl hl38.1 rfl (Nat.le_of_ble_eq_true rfl) dX7_estuary_126 ⟨Nat.le_of_ble_eq_true rfl, Nat.le_of_ble_eq_true rfl⟩ ⟨Nat.zero_le _, Nat.zero_le _⟩) hS146 (fun H150 lc151 hP152 hS153 => ?_)
    clear hf147 hP145 hS146 hg155
    refine lv_aload_n hx hb dX7_estuary_129 rfl (lv_at hl38 0 rfl) ?_
    obtain ⟨⟨⟩, kk157, hg163, hf162⟩ := bd_some hf154
    refine x_cv (x_runV (As := []) (rest := []) X hP152 hS153 246 (by decide) cl_M rfl (tX7_readWind l X.2.2.2.2.2.2.1  hg163) mi_X7_135 rfl hl38.1 rfl (Nat.le_of_ble_eq_true rfl) dX7_estuary_130 ⟨Nat.le_of_ble_eq_true rfl, Nat.le_of_ble_eq_true rfl⟩ ⟨Nat.zero_le _, Nat.zero_le _⟩) hS153 (fun H158 lc159 hP160 hS161 => ?_)
    clear hf154 hP152 hS153 hg163
    refine wX7_estuary_L133 X hr hlocks  ?_ 4096  kk157 _ _ _  hf162 hP160 hS161 (lv_sub hl38 [0] rfl)
    · intro  kk183 H184 lc185 ls186  hf190 hP187 hS188 hl189
      refine lv_aload_n hx hb dX7_estuary_149 rfl (lv_at hl189 0 rfl) ?_
      obtain ⟨x191, kk192, hg198, hf197⟩ := bd_some hf190
      refine x_ci (x_runV (As := []) (rest := []) X hP187 hS188 246 (by decide) cl_M rfl (tX7_isSort l X.2.2.2.2.2.2.1  hg198) mi_X7_138 rfl hl189.1 rfl (Nat.le_of_ble_eq_true rfl) dX7_estuary_150 ⟨Nat.le_of_ble_eq_true rfl, Nat.le_of_ble_eq_true rfl⟩ ⟨Nat.zero_le _, Nat.zero_le _⟩) hS188 (fun H193 lc194 hP195 hS196 => ?_)
      clear hf190 hP187 hS188 hg198
      obtain ⟨J161_199, eJ161_199, hf273⟩ := jp_at hf197
      clear hf197
      have hJ161_199 : ∀  (kk200 : Hp) (H201 : Heap) (lc202 : List Loc) (ls203 : Array Slot), J161_199  kk200 = some (r, k1) → va_P g.1 vwCl (WW g h kk200) H201 → va_S (inA g) s.heap H201 lc202 → lv_has ls203 2 [(0, .ref (g.2.2 246))] → W p l en (rmD 5) s m args below meth c H201 lc202 0 0 (MQ below (QI g h k1 r) args s 0 0 (inA g)) (F0 m 161 ls203 []) := by
        intro  kk200 H201 lc202 ls203 hf207 hP204 hS205 hl206
        clear hf273 hP195 hS196 hl189
        subst eJ161_199
        refine wX7_estuary_L161 X hr hlocks  ?_ 4096  kk200 _ _ _  hf207 hP204 hS205 (lv_sub hl206 [0] rfl)
        · intro  kk227 H228 lc229 ls230  hf234 hP231 hS232 hl233
          refine lv_aload_n hx hb dX7_estuary_175 rfl (lv_at hl233 0 rfl) ?_
          obtain ⟨x235, kk236, hg242, hf241⟩ := bd_some hf234
          refine x_ci (x_runV (As := []) (rest := []) X hP231 hS232 246 (by decide) cl_M rfl (tX7_failed l X.2.2.2.2.2.2.1  hg242) mi_X7_145 rfl hl233.1 rfl (Nat.le_of_ble_eq_true rfl) dX7_estuary_176 ⟨Nat.le_of_ble_eq_true rfl, Nat.le_of_ble_eq_true rfl⟩ ⟨Nat.zero_le _, Nat.zero_le _⟩) hS232 (fun H237 lc238 hP239 hS240 => ?_)
          clear hf234 hP231 hS232 hg242
          refine lv_if_eq (tgt := 190) hx hb dX7_estuary_179 (by decide) (fun c243 => ?_) (fun c243 => ?_)
          · have hf244 := if_at_t c243 hf241
            clear hf241
            refine lv_aload_n hx hb dX7_estuary_190 rfl (lv_at hl233 0 rfl) ?_
            refine lv_iconst (v := 0) hx hb dX7_estuary_191 (by decide) ?_
            refine pX7 X hP239 hS240 9 (by decide) rfl wd_892 rfl rfl rfl rfl seX7_9 dX7_estuary_192 (fun H245 lc246 kk247 ekk247 hP248 hS249 => ?_)
            have hf250 := lk_at ekk247 hf244
            clear hf244 hP239 hS240
            refine lv_iconst (v := 0) hx hb dX7_estuary_195 (by decide) ?_
            refine lv_istore_n (lv' := [(1, .int (0 : Int32)), (0, .ref (g.2.2 246))]) hx hb dX7_estuary_196 rfl hl233 (by decide) rfl (fun ls251 hl252 => ?_)
            clear hl233
            refine wX7_estuary_L197 X hr hlocks   4096 (0 : Int32) kk247 _ _ _  hf250 hP248 hS249 (lv_sub hl252 [1, 0] rfl)
          · have hf272 := if_at_f c243 hf241
            clear hf241
            refine lv_ldc (v := -1000100) hx hb X.2.2.2.1 (X.2.2.2.2.1 _ wd_1053) dX7_estuary_182 ?_
            refine lv_aload_n hx hb dX7_estuary_184 rfl (lv_at hl233 0 rfl) ?_
            refine gX7 X hP239 17 (v := .int (kk236 246 17)) rfl (by decide) rfl wd_900 dX7_estuary_185 ?_
            refine lv_isub hx hb dX7_estuary_188 ?_
            obtain ⟨rfl, rfl⟩ := ret_inj hf272
            exact x_iret X hr hlocks hP239 hS240 dX7_estuary_189
      clear eJ161_199
      refine lv_if_ne (tgt := 161) hx hb dX7_estuary_153 (by decide) (fun c274 => ?_) (fun c274 => ?_)
      · have hf275 := if_at_f c274 hf273
        clear hf273
        exact hJ161_199 kk192  _ _ _ hf275 hP195 hS196 (lv_sub hl189 [0] rfl)
      · have hf276 := if_at_t c274 hf273
        clear hf273
        refine lv_aload_n hx hb dX7_estuary_156 rfl (lv_at hl189 0 rfl) ?_
        refine lv_iconst (v := 1) hx hb dX7_estuary_157 (by decide) ?_
        obtain ⟨⟨⟩, kk278, hg284, hf283⟩ := bd_some hf276
        refine x_cv (x_runV (As := [.int (1 : Int32)]) (rest := []) X hP195 hS196 246 (by decide) cl_M rfl (tX7_bad l X.2.2.2.2.2.2.1  hg284) mi_X7_105 rfl hl189.1 rfl (Nat.le_of_ble_eq_true rfl) dX7_estuary_158 ⟨Nat.le_of_ble_eq_true rfl, Nat.le_of_ble_eq_true rfl⟩ ⟨Nat.zero_le _, Nat.zero_le _⟩) hS196 (fun H279 lc280 hP281 hS282 => ?_)
        clear hf276 hP195 hS196 hg284
        exact hJ161_199 kk278  _ _ _ hf283 hP281 hS282 (lv_sub hl189 [0] rfl)
set_option maxRecDepth 100000 in
set_option maxHeartbeats 4000000 in
theorem tX7_isThere (l : Launch) {g : Gx} (hI : InjG g) {h k k1 : Hp}  {r : Int32}   (hf : fX7_isThere k = some (r, k1)) : CI l yX7_isThere cX7_isThere 1 (some .boolean) 0 g [.ref (g.2.2 246)] h k h k1 r := by
  refine Met.ofW (cc := cX7_isThere) (maxL := 1) (ret := (some .boolean)) (by decide) rfl ?_
  intro p en s m args below meth c s₁ B hml hv
  obtain ⟨rfl, hSK, hSH, hP⟩ := hv
  have X : Cx p s m _ c cX7_isThere 1 RX7 g := ⟨B.exec, B.bytes, hml, findClass_of_methodNamed B.named, fun w hw => atoms_spec (ws := wsy yX7_isThere cX7_isThere 1 (some .boolean)) B.pre w (List.mem_cons_of_mem _ hw), hSK, hI, hSH⟩
  have hr := B.returns
  have hlocks := B.notSynchronized
  have hx := X.1
  have hb := X.2.1
  have hS : va_S (inA g) s.heap s.heap [] := va_S.rf
  clear hSK hSH hml B
  have hl := lv_entry ([.ref (g.2.2 246)]) (n := 1) (Nat.le_of_ble_eq_true rfl)
  rw [lg_entry_eq]
  generalize (lg_sl ([.ref (g.2.2 246)]) ++ List.replicate (1 - (lg_sl ([.ref (g.2.2 246)])).length) Slot.unset).toArray = ls at hl ⊢
  have hl : lv_has ls 1 [(0, .ref (g.2.2 246))] := hl
  generalize ([.ref (g.2.2 246)] : List Value).toArray = args at X ⊢
  show W p l en (rmD 0) s m args below meth c s.heap [] 0 0 (MQ below (QI g h k1 r) args s 0 0 (inA g)) (F0 m 0 ls [])
  unfold fX7_isThere at hf
  refine lv_aload_n hx hb dX7_isThere_0 rfl (lv_at hl 0 rfl) ?_
  refine gX7 X hP 5 (v := .ref (g.2.2 250)) rfl (by decide) rfl wd_888 dX7_isThere_1 ?_
  refine lv_iconst (v := 0) hx hb dX7_isThere_4 (by decide) ?_
  obtain ⟨hc1, hf2⟩ := chk_some hf
  refine x_ildM X hP 250 rfl hc1 dX7_isThere_5 ?_
  refine lv_if_le (tgt := 13) hx hb dX7_isThere_6 (by decide) (fun c3 => ?_) (fun c3 => ?_)
  · have hf4 := if_at_t c3 hf2
    clear hf2
    refine lv_iconst (v := 0) hx hb dX7_isThere_13 (by decide) ?_
    obtain ⟨rfl, rfl⟩ := ret_inj hf4
    exact x_zret X hr hlocks rfl hP hS dX7_isThere_14
  · have hf5 := if_at_f c3 hf2
    clear hf2
    refine lv_iconst (v := 1) hx hb dX7_isThere_9 (by decide) ?_
    refine lv_goto (tgt := 14) hx hb dX7_isThere_10 (by decide) ?_
    obtain ⟨rfl, rfl⟩ := ret_inj hf5
    exact x_zret X hr hlocks rfl hP hS dX7_isThere_14
set_option maxRecDepth 100000 in
set_option maxHeartbeats 4000000 in
theorem tX7_isSheet (l : Launch) {g : Gx} (hI : InjG g) {h k k1 : Hp} {a1 : Int32} {r : Int32}   (hf : fX7_isSheet a1 k = some (r, k1)) : CI l yX7_isSheet cX7_isSheet 2 (some .boolean) 1 g [.ref (g.2.2 246), .int a1] h k h k1 r := by
  refine Met.ofW (cc := cX7_isSheet) (maxL := 2) (ret := (some .boolean)) (by decide) rfl ?_
  intro p en s m args below meth c s₁ B hml hv
  obtain ⟨rfl, hSK, hSH, hP⟩ := hv
  have X : Cx p s m _ c cX7_isSheet 2 RX7 g := ⟨B.exec, B.bytes, hml, findClass_of_methodNamed B.named, fun w hw => atoms_spec (ws := wsy yX7_isSheet cX7_isSheet 2 (some .boolean)) B.pre w (List.mem_cons_of_mem _ hw), hSK, hI, hSH⟩
  have hr := B.returns
  have hlocks := B.notSynchronized
  have hx := X.1
  have hb := X.2.1
  have hS : va_S (inA g) s.heap s.heap [] := va_S.rf
  clear hSK hSH hml B
  have hl := lv_entry ([.ref (g.2.2 246), .int a1]) (n := 2) (Nat.le_of_ble_eq_true rfl)
  rw [lg_entry_eq]
  generalize (lg_sl ([.ref (g.2.2 246), .int a1]) ++ List.replicate (2 - (lg_sl ([.ref (g.2.2 246), .int a1])).length) Slot.unset).toArray = ls at hl ⊢
  have hl : lv_has ls 2 [(0, .ref (g.2.2 246)), (1, .int a1)] := hl
  generalize ([.ref (g.2.2 246), .int a1] : List Value).toArray = args at X ⊢
  show W p l en (rmD 1) s m args below meth c s.heap [] 0 0 (MQ below (QI g h k1 r) args s 0 0 (inA g)) (F0 m 0 ls [])
  unfold fX7_isSheet at hf
  refine lv_iload_n hx hb dX7_isSheet_0 rfl (lv_at hl 1 rfl) ?_
  refine lv_i2l hx hb dX7_isSheet_1 rfl ?_
  refine lv_lconst (v := 0) hx hb dX7_isSheet_2 (by decide) ?_
  refine lv_aload_n hx hb dX7_isSheet_3 rfl (lv_at hl 0 rfl) ?_
  refine gX7 X hP 5 (v := .ref (g.2.2 250)) rfl (by decide) rfl wd_888 dX7_isSheet_4 ?_
  refine lv_iconst (v := 0) hx hb dX7_isSheet_7 (by decide) ?_
  obtain ⟨hc1, hf2⟩ := chk_some hf
  refine x_ildM X hP 250 rfl hc1 dX7_isSheet_8 ?_
  refine lv_iconst (v := 1) hx hb dX7_isSheet_9 (by decide) ?_
  refine lv_isub hx hb dX7_isSheet_10 ?_
  refine lv_i2l hx hb dX7_isSheet_11 rfl ?_
  obtain ⟨x3, kk4, hg10, hf9⟩ := bd_some hf2
  refine x_ci (x_runS (As := [.long a1.toInt64, .long (0 : Int64), .long (((k 250 (0 : Int32).toNatClampNeg) - (1 : Int32)).toInt64)]) (rest := []) X hP hS (tX7_in l X.2.2.2.2.2.2.1  hg10) mi_X7_57 rfl hl.1 rfl (Nat.le_of_ble_eq_true rfl) dX7_isSheet_12 ⟨Nat.le_of_ble_eq_true rfl, Nat.le_of_ble_eq_true rfl⟩ ⟨Nat.zero_le _, Nat.zero_le _⟩) hS (fun H5 lc6 hP7 hS8 => ?_)
  clear hf2 hP hS hg10
  obtain ⟨hc11, hf12⟩ := chk_some hf9
  obtain ⟨rfl, rfl⟩ := ret_inj hf12
  exact x_zret X hr hlocks hc11 hP7 hS8 dX7_isSheet_15
set_option maxRecDepth 100000 in
set_option maxHeartbeats 4000000 in
theorem tX7_isWind (l : Launch) {g : Gx} (hI : InjG g) {h k k1 : Hp} {a1 : Int32} {r : Int32}   (hf : fX7_isWind a1 k = some (r, k1)) : CI l yX7_isWind cX7_isWind 2 (some .boolean) 1 g [.ref (g.2.2 246), .int a1] h k h k1 r := by
  refine Met.ofW (cc := cX7_isWind) (maxL := 2) (ret := (some .boolean)) (by decide) rfl ?_
  intro p en s m args below meth c s₁ B hml hv
  obtain ⟨rfl, hSK, hSH, hP⟩ := hv
  have X : Cx p s m _ c cX7_isWind 2 RX7 g := ⟨B.exec, B.bytes, hml, findClass_of_methodNamed B.named, fun w hw => atoms_spec (ws := wsy yX7_isWind cX7_isWind 2 (some .boolean)) B.pre w (List.mem_cons_of_mem _ hw), hSK, hI, hSH⟩
  have hr := B.returns
  have hlocks := B.notSynchronized
  have hx := X.1
  have hb := X.2.1
  have hS : va_S (inA g) s.heap s.heap [] := va_S.rf
  clear hSK hSH hml B
  have hl := lv_entry ([.ref (g.2.2 246), .int a1]) (n := 2) (Nat.le_of_ble_eq_true rfl)
  rw [lg_entry_eq]
  generalize (lg_sl ([.ref (g.2.2 246), .int a1]) ++ List.replicate (2 - (lg_sl ([.ref (g.2.2 246), .int a1])).length) Slot.unset).toArray = ls at hl ⊢
  have hl : lv_has ls 2 [(0, .ref (g.2.2 246)), (1, .int a1)] := hl
  generalize ([.ref (g.2.2 246), .int a1] : List Value).toArray = args at X ⊢
  show W p l en (rmD 1) s m args below meth c s.heap [] 0 0 (MQ below (QI g h k1 r) args s 0 0 (inA g)) (F0 m 0 ls [])
  unfold fX7_isWind at hf
  refine lv_iload_n hx hb dX7_isWind_0 rfl (lv_at hl 1 rfl) ?_
  refine lv_i2l hx hb dX7_isWind_1 rfl ?_
  refine lv_lconst (v := 0) hx hb dX7_isWind_2 (by decide) ?_
  refine lv_aload_n hx hb dX7_isWind_3 rfl (lv_at hl 0 rfl) ?_
  refine gX7 X hP 5 (v := .ref (g.2.2 250)) rfl (by decide) rfl wd_888 dX7_isWind_4 ?_
  refine lv_iconst (v := 1) hx hb dX7_isWind_7 (by decide) ?_
  obtain ⟨hc1, hf2⟩ := chk_some hf
  refine x_ildM X hP 250 rfl hc1 dX7_isWind_8 ?_
  refine lv_iconst (v := 1) hx hb dX7_isWind_9 (by decide) ?_
  refine lv_isub hx hb dX7_isWind_10 ?_
  refine lv_i2l hx hb dX7_isWind_11 rfl ?_
  obtain ⟨x3, kk4, hg10, hf9⟩ := bd_some hf2
  refine x_ci (x_runS (As := [.long a1.toInt64, .long (0 : Int64), .long (((k 250 (1 : Int32).toNatClampNeg) - (1 : Int32)).toInt64)]) (rest := []) X hP hS (tX7_in l X.2.2.2.2.2.2.1  hg10) mi_X7_57 rfl hl.1 rfl (Nat.le_of_ble_eq_true rfl) dX7_isWind_12 ⟨Nat.le_of_ble_eq_true rfl, Nat.le_of_ble_eq_true rfl⟩ ⟨Nat.zero_le _, Nat.zero_le _⟩) hS (fun H5 lc6 hP7 hS8 => ?_)
  clear hf2 hP hS hg10
  obtain ⟨hc11, hf12⟩ := chk_some hf9
  obtain ⟨rfl, rfl⟩ := ret_inj hf12
  exact x_zret X hr hlocks hc11 hP7 hS8 dX7_isWind_15
set_option maxRecDepth 100000 in
set_option maxHeartbeats 4000000 in
theorem tX7_isCell (l : Launch) {g : Gx} (hI : InjG g) {h k k1 : Hp} {a1 : Int32} {r : Int32}   (hf : fX7_isCell a1 k = some (r, k1)) : CI l yX7_isCell cX7_isCell 2 (some .boolean) 1 g [.ref (g.2.2 246), .int a1] h k h k1 r := by
  refine Met.ofW (cc := cX7_isCell) (maxL := 2) (ret := (some .boolean)) (by decide) rfl ?_
  intro p en s m args below meth c s₁ B hml hv
  obtain ⟨rfl, hSK, hSH, hP⟩ := hv
  have X : Cx p s m _ c cX7_isCell 2 RX7 g := ⟨B.exec, B.bytes, hml, findClass_of_methodNamed B.named, fun w hw => atoms_spec (ws := wsy yX7_isCell cX7_isCell 2 (some .boolean)) B.pre w (List.mem_cons_of_mem _ hw), hSK, hI, hSH⟩
  have hr := B.returns
  have hlocks := B.notSynchronized
  have hx := X.1
  have hb := X.2.1
  have hS : va_S (inA g) s.heap s.heap [] := va_S.rf
  clear hSK hSH hml B
  have hl := lv_entry ([.ref (g.2.2 246), .int a1]) (n := 2) (Nat.le_of_ble_eq_true rfl)
  rw [lg_entry_eq]
  generalize (lg_sl ([.ref (g.2.2 246), .int a1]) ++ List.replicate (2 - (lg_sl ([.ref (g.2.2 246), .int a1])).length) Slot.unset).toArray = ls at hl ⊢
  have hl : lv_has ls 2 [(0, .ref (g.2.2 246)), (1, .int a1)] := hl
  generalize ([.ref (g.2.2 246), .int a1] : List Value).toArray = args at X ⊢
  show W p l en (rmD 1) s m args below meth c s.heap [] 0 0 (MQ below (QI g h k1 r) args s 0 0 (inA g)) (F0 m 0 ls [])
  unfold fX7_isCell at hf
  refine lv_iload_n hx hb dX7_isCell_0 rfl (lv_at hl 1 rfl) ?_
  refine lv_i2l hx hb dX7_isCell_1 rfl ?_
  refine lv_lconst (v := 0) hx hb dX7_isCell_2 (by decide) ?_
  refine lv_aload_n hx hb dX7_isCell_3 rfl (lv_at hl 0 rfl) ?_
  refine gX7 X hP 5 (v := .ref (g.2.2 250)) rfl (by decide) rfl wd_888 dX7_isCell_4 ?_
  refine lv_iconst (v := 2) hx hb dX7_isCell_7 (by decide) ?_
  obtain ⟨hc1, hf2⟩ := chk_some hf
  refine x_ildM X hP 250 rfl hc1 dX7_isCell_8 ?_
  refine lv_iconst (v := 1) hx hb dX7_isCell_9 (by decide) ?_
  refine lv_isub hx hb dX7_isCell_10 ?_
  refine lv_i2l hx hb dX7_isCell_11 rfl ?_
  obtain ⟨x3, kk4, hg10, hf9⟩ := bd_some hf2
  refine x_ci (x_runS (As := [.long a1.toInt64, .long (0 : Int64), .long (((k 250 (2 : Int32).toNatClampNeg) - (1 : Int32)).toInt64)]) (rest := []) X hP hS (tX7_in l X.2.2.2.2.2.2.1  hg10) mi_X7_57 rfl hl.1 rfl (Nat.le_of_ble_eq_true rfl) dX7_isCell_12 ⟨Nat.le_of_ble_eq_true rfl, Nat.le_of_ble_eq_true rfl⟩ ⟨Nat.zero_le _, Nat.zero_le _⟩) hS (fun H5 lc6 hP7 hS8 => ?_)
  clear hf2 hP hS hg10
  obtain ⟨hc11, hf12⟩ := chk_some hf9
  obtain ⟨rfl, rfl⟩ := ret_inj hf12
  exact x_zret X hr hlocks hc11 hP7 hS8 dX7_isCell_15
set_option maxRecDepth 100000 in
set_option maxHeartbeats 4000000 in
theorem wX7_bits_L4 {p : Program} {l : Launch} {en : Env} {s : State} {m : MethodId} {args : Array Value} {below : List Frame} {meth : Method} {c : Code} {g : Gx} (X : Cx p s m args c cX7_bits 3 RX7 g) (hr : meth.sig.returnType = (some .int)) (hlocks : meth.locks = false) {h k1 : Hp} {r : Int32} {v0 : Int32}  
     :
    ∀ (n : Nat) (v1 : Int32) (v2 : Int32) (k : Hp) (H : Heap) (locs : List Loc) (ls : Array Slot), fX7_bits_L4 n v0 v1 v2 k = some (r, k1) → va_P g.1 vwCl (WW g h k) H → va_S (inA g) s.heap H locs → lv_has ls 3 [(0, .int v0), (1, .int v1), (2, .int v2)] → W p l en (rmD 0) s m args below meth c H locs 0 0 (MQ below (QI g h k1 r) args s 0 0 (inA g)) (F0 m 4 ls []) := by
  have hx := X.1
  have hb := X.2.1
  intro n
  induction n with
  | zero => intro v1 v2 k H locs ls  hf; simp only [fX7_bits_L4, reduceCtorEq] at hf
  | succ n ih =>
    intro v1 v2 k H locs ls  hf hP hS hl
    rw [fX7_bits_L4] at hf
    refine lv_iload_n hx hb dX7_bits_4 rfl (lv_at hl 2 rfl) ?_
    refine lv_bipush (v := 6) hx hb dX7_bits_5 (by decide) ?_
    refine lv_icmp_ge (tgt := 24) hx hb dX7_bits_7 (by decide) (fun c5 => ?_) (fun c5 => ?_)
    · have hf6 := if_at_t c5 hf
      clear hf
      refine lv_iload_n hx hb dX7_bits_24 rfl (lv_at hl 1 rfl) ?_
      obtain ⟨rfl, rfl⟩ := ret_inj hf6
      exact x_iret X hr hlocks hP hS dX7_bits_25
    · have hf7 := if_at_f c5 hf
      clear hf
      refine lv_iload_n hx hb dX7_bits_10 rfl (lv_at hl 1 rfl) ?_
      refine lv_iload_n hx hb dX7_bits_11 rfl (lv_at hl 0 rfl) ?_
      refine lv_iload_n hx hb dX7_bits_12 rfl (lv_at hl 2 rfl) ?_
      refine x_ishr X dX7_bits_13 ?_
      refine lv_iconst (v := 1) hx hb dX7_bits_14 (by decide) ?_
      refine lv_iand hx hb dX7_bits_15 ?_
      refine lv_iadd hx hb dX7_bits_16 ?_
      refine lv_topi (fun x8 ex8 => ?_)
      have hf9 := lk_at ex8 hf7
      clear hf7
      refine lv_istore_n (lv' := [(1, .int x8), (0, .int v0), (2, .int v2)]) hx hb dX7_bits_17 rfl hl (by decide) rfl (fun ls10 hl11 => ?_)
      clear hl
      obtain ⟨x12, ex12⟩ : ∃ q : Int32, q = v2 + (1 : Int32) := ⟨_, rfl⟩
      have hf13 := lk_at ex12 hf9
      clear hf9
      refine lv_iinc (v := x12) (lv' := [(2, .int x12), (1, .int x8), (0, .int v0)]) hx hb dX7_bits_18 hl11 (k := 2) rfl (by rw [ex12]; rfl) (by decide) rfl (fun ls14 hl15 => ?_)
      clear hl11
      refine lv_goto (tgt := 4) hx hb dX7_bits_21 (by decide) ?_
      exact ih x8 x12 k  _ _ _ hf13 hP hS (lv_sub hl15 [2, 1, 0] rfl)
set_option maxRecDepth 100000 in
set_option maxHeartbeats 4000000 in
theorem tX7_bits (l : Launch) {g : Gx} (hI : InjG g) {h k k1 : Hp} {a1 : Int32} {r : Int32}   (hf : fX7_bits a1 k = some (r, k1)) : CI l yX7_bits cX7_bits 3 (some .int) 0 g [.int a1] h k h k1 r := by
  refine Met.ofW (cc := cX7_bits) (maxL := 3) (ret := (some .int)) (by decide) rfl ?_
  intro p en s m args below meth c s₁ B hml hv
  obtain ⟨rfl, hSK, hSH, hP⟩ := hv
  have X : Cx p s m _ c cX7_bits 3 RX7 g := ⟨B.exec, B.bytes, hml, findClass_of_methodNamed B.named, fun w hw => atoms_spec (ws := wsy yX7_bits cX7_bits 3 (some .int)) B.pre w (List.mem_cons_of_mem _ hw), hSK, hI, hSH⟩
  have hr := B.returns
  have hlocks := B.notSynchronized
  have hx := X.1
  have hb := X.2.1
  have hS : va_S (inA g) s.heap s.heap [] := va_S.rf
  clear hSK hSH hml B
  have hl := lv_entry ([.int a1]) (n := 3) (Nat.le_of_ble_eq_true rfl)
  rw [lg_entry_eq]
  generalize (lg_sl ([.int a1]) ++ List.replicate (3 - (lg_sl ([.int a1])).length) Slot.unset).toArray = ls at hl ⊢
  have hl : lv_has ls 3 [(0, .int a1)] := hl
  generalize ([.int a1] : List Value).toArray = args at X ⊢
  show W p l en (rmD 0) s m args below meth c s.heap [] 0 0 (MQ below (QI g h k1 r) args s 0 0 (inA g)) (F0 m 0 ls [])
  unfold fX7_bits at hf
  refine lv_iconst (v := 0) hx hb dX7_bits_0 (by decide) ?_
  refine lv_istore_n (lv' := [(1, .int (0 : Int32)), (0, .int a1)]) hx hb dX7_bits_1 rfl hl (by decide) rfl (fun ls1 hl2 => ?_)
  clear hl
  refine lv_iconst (v := 0) hx hb dX7_bits_2 (by decide) ?_
  refine lv_istore_n (lv' := [(2, .int (0 : Int32)), (1, .int (0 : Int32)), (0, .int a1)]) hx hb dX7_bits_3 rfl hl2 (by decide) rfl (fun ls3 hl4 => ?_)
  clear hl2
  refine wX7_bits_L4 X hr hlocks   4096 (0 : Int32) (0 : Int32) k _ _ _  hf hP hS (lv_sub hl4 [2, 1, 0] rfl)
set_option maxRecDepth 100000 in
set_option maxHeartbeats 4000000 in
theorem tX7_has (l : Launch) {g : Gx} (hI : InjG g) {h k k1 : Hp} {a1 : Int32} {a2 : Int32} {r : Int32}   (hf : fX7_has a1 a2 k = some (r, k1)) : CI l yX7_has cX7_has 2 (some .boolean) 0 g [.int a1, .int a2] h k h k1 r := by
  refine Met.ofW (cc := cX7_has) (maxL := 2) (ret := (some .boolean)) (by decide) rfl ?_
  intro p en s m args below meth c s₁ B hml hv
  obtain ⟨rfl, hSK, hSH, hP⟩ := hv
  have X : Cx p s m _ c cX7_has 2 RX7 g := ⟨B.exec, B.bytes, hml, findClass_of_methodNamed B.named, fun w hw => atoms_spec (ws := wsy yX7_has cX7_has 2 (some .boolean)) B.pre w (List.mem_cons_of_mem _ hw), hSK, hI, hSH⟩
  have hr := B.returns
  have hlocks := B.notSynchronized
  have hx := X.1
  have hb := X.2.1
  have hS : va_S (inA g) s.heap s.heap [] := va_S.rf
  clear hSK hSH hml B
  have hl := lv_entry ([.int a1, .int a2]) (n := 2) (Nat.le_of_ble_eq_true rfl)
  rw [lg_entry_eq]
  generalize (lg_sl ([.int a1, .int a2]) ++ List.replicate (2 - (lg_sl ([.int a1, .int a2])).length) Slot.unset).toArray = ls at hl ⊢
  have hl : lv_has ls 2 [(0, .int a1), (1, .int a2)] := hl
  generalize ([.int a1, .int a2] : List Value).toArray = args at X ⊢
  show W p l en (rmD 0) s m args below meth c s.heap [] 0 0 (MQ below (QI g h k1 r) args s 0 0 (inA g)) (F0 m 0 ls [])
  unfold fX7_has at hf
  refine lv_iload_n hx hb dX7_has_0 rfl (lv_at hl 0 rfl) ?_
  refine lv_iload_n hx hb dX7_has_1 rfl (lv_at hl 1 rfl) ?_
  refine x_ishr X dX7_has_2 ?_
  refine lv_iconst (v := 1) hx hb dX7_has_3 (by decide) ?_
  refine lv_iand hx hb dX7_has_4 ?_
  refine lv_iconst (v := 1) hx hb dX7_has_5 (by decide) ?_
  refine lv_icmp_ne (tgt := 13) hx hb dX7_has_6 (by decide) (fun c1 => ?_) (fun c1 => ?_)
  · have hf2 := if_at_f c1 hf
    clear hf
    refine lv_iconst (v := 0) hx hb dX7_has_13 (by decide) ?_
    obtain ⟨rfl, rfl⟩ := ret_inj hf2
    exact x_zret X hr hlocks rfl hP hS dX7_has_14
  · have hf3 := if_at_t c1 hf
    clear hf
    refine lv_iconst (v := 1) hx hb dX7_has_9 (by decide) ?_
    refine lv_goto (tgt := 14) hx hb dX7_has_10 (by decide) ?_
    obtain ⟨rfl, rfl⟩ := ret_inj hf3
    exact x_zret X hr hlocks rfl hP hS dX7_has_14
set_option maxRecDepth 100000 in
set_option maxHeartbeats 4000000 in
theorem tX7_of (l : Launch) {g : Gx} (hI : InjG g) {h k k1 : Hp} {a1 : Nat} {a2 : Int32} {a3 : Int32} {r : Int32}  (ha1 : isMA a1 = true) (hf : fX7_of a1 a2 a3 k = some (r, k1)) : CI l yX7_of cX7_of 3 (some .int) 0 g [.ref (g.2.2 a1), .int a2, .int a3] h k h k1 r := by
  refine Met.ofW (cc := cX7_of) (maxL := 3) (ret := (some .int)) (by decide) rfl ?_
  intro p en s m args below meth c s₁ B hml hv
  obtain ⟨rfl, hSK, hSH, hP⟩ := hv
  have X : Cx p s m _ c cX7_of 3 RX7 g := ⟨B.exec, B.bytes, hml, findClass_of_methodNamed B.named, fun w hw => atoms_spec (ws := wsy yX7_of cX7_of 3 (some .int)) B.pre w (List.mem_cons_of_mem _ hw), hSK, hI, hSH⟩
  have hr := B.returns
  have hlocks := B.notSynchronized
  have hx := X.1
  have hb := X.2.1
  have hS : va_S (inA g) s.heap s.heap [] := va_S.rf
  clear hSK hSH hml B
  have hl := lv_entry ([.ref (g.2.2 a1), .int a2, .int a3]) (n := 3) (Nat.le_of_ble_eq_true rfl)
  rw [lg_entry_eq]
  generalize (lg_sl ([.ref (g.2.2 a1), .int a2, .int a3]) ++ List.replicate (3 - (lg_sl ([.ref (g.2.2 a1), .int a2, .int a3])).length) Slot.unset).toArray = ls at hl ⊢
  have hl : lv_has ls 3 [(0, .ref (g.2.2 a1)), (1, .int a2), (2, .int a3)] := hl
  generalize ([.ref (g.2.2 a1), .int a2, .int a3] : List Value).toArray = args at X ⊢
  show W p l en (rmD 0) s m args below meth c s.heap [] 0 0 (MQ below (QI g h k1 r) args s 0 0 (inA g)) (F0 m 0 ls [])
  unfold fX7_of at hf
  refine lv_aload_n hx hb dX7_of_0 rfl (lv_at hl 0 rfl) ?_
  refine lv_bipush (v := 14) hx hb dX7_of_1 (by decide) ?_
  refine lv_bipush (v := 6) hx hb dX7_of_3 (by decide) ?_
  refine lv_iload_n hx hb dX7_of_5 rfl (lv_at hl 1 rfl) ?_
  refine lv_imul hx hb dX7_of_6 ?_
  refine lv_iadd hx hb dX7_of_7 ?_
  refine lv_iload_n hx hb dX7_of_8 rfl (lv_at hl 2 rfl) ?_
  refine lv_iadd hx hb dX7_of_9 ?_
  obtain ⟨hc1, hf2⟩ := chk_some hf
  refine x_ildM X hP a1 ha1 hc1 dX7_of_10 ?_
  obtain ⟨rfl, rfl⟩ := ret_inj hf2
  exact x_iret X hr hlocks hP hS dX7_of_11
set_option maxRecDepth 100000 in
set_option maxHeartbeats 4000000 in
theorem tX7_be (l : Launch) {g : Gx} (hI : InjG g) {h k k1 : Hp} {a1 : Nat} {a2 : Int32} {a3 : Int32} {a4 : Int32}  (ha1 : isMA a1 = true) (hf : fX7_be a1 a2 a3 a4 k = some ((), k1)) : CV l yX7_be cX7_be 4 none 0 g [.ref (g.2.2 a1), .int a2, .int a3, .int a4] h k h k1 := by
  refine Met.ofW (cc := cX7_be) (maxL := 4) (ret := none) (by decide) rfl ?_
  intro p en s m args below meth c s₁ B hml hv
  obtain ⟨rfl, hSK, hSH, hP⟩ := hv
  have X : Cx p s m _ c cX7_be 4 RX7 g := ⟨B.exec, B.bytes, hml, findClass_of_methodNamed B.named, fun w hw => atoms_spec (ws := wsy yX7_be cX7_be 4 none) B.pre w (List.mem_cons_of_mem _ hw), hSK, hI, hSH⟩
  have hr := B.returns
  have hlocks := B.notSynchronized
  have hx := X.1
  have hb := X.2.1
  have hS : va_S (inA g) s.heap s.heap [] := va_S.rf
  clear hSK hSH hml B
  have hl := lv_entry ([.ref (g.2.2 a1), .int a2, .int a3, .int a4]) (n := 4) (Nat.le_of_ble_eq_true rfl)
  rw [lg_entry_eq]
  generalize (lg_sl ([.ref (g.2.2 a1), .int a2, .int a3, .int a4]) ++ List.replicate (4 - (lg_sl ([.ref (g.2.2 a1), .int a2, .int a3, .int a4])).length) Slot.unset).toArray = ls at hl ⊢
  have hl : lv_has ls 4 [(0, .ref (g.2.2 a1)), (1, .int a2), (2, .int a3), (3, .int a4)] := hl
  generalize ([.ref (g.2.2 a1), .int a2, .int a3, .int a4] : List Value).toArray = args at X ⊢
  show W p l en (rmD 0) s m args below meth c s.heap [] 0 0 (MQ below (QV g h k1) args s 0 0 (inA g)) (F0 m 0 ls [])
  unfold fX7_be at hf
  refine lv_aload_n hx hb dX7_be_0 rfl (lv_at hl 0 rfl) ?_
  refine lv_bipush (v := 14) hx hb dX7_be_1 (by decide) ?_
  refine lv_bipush (v := 6) hx hb dX7_be_3 (by decide) ?_
  refine lv_iload_n hx hb dX7_be_5 rfl (lv_at hl 1 rfl) ?_
  refine lv_imul hx hb dX7_be_6 ?_
  refine lv_iadd hx hb dX7_be_7 ?_
  refine lv_iload_n hx hb dX7_be_8 rfl (lv_at hl 2 rfl) ?_
  refine lv_iadd hx hb dX7_be_9 ?_
  refine lv_iload_n hx hb dX7_be_10 rfl (lv_at hl 3 rfl) ?_
  obtain ⟨hc1, hf2⟩ := chk_some hf
  refine x_istM X hP hS a1 ha1 hc1 dX7_be_11 (fun H3 lc4 kk5 ekk5 hP6 hS7 => ?_)
  have hf8 := lk_at ekk5 hf2
  clear hf2 hP hS
  obtain ⟨-, rfl⟩ := ret_inj hf8
  exact x_vret X hr hlocks hP6 hS7 dX7_be_12
set_option maxRecDepth 100000 in
set_option maxHeartbeats 4000000 in
theorem tX7_isIn (l : Launch) {g : Gx} (hI : InjG g) {h k k1 : Hp} {a1 : Nat} {a2 : Int32} {r : Int32}  (ha1 : isMA a1 = true) (hf : fX7_isIn a1 a2 k = some (r, k1)) : CI l yX7_isIn cX7_isIn 2 (some .boolean) 1 g [.ref (g.2.2 a1), .int a2] h k h k1 r := by
  refine Met.ofW (cc := cX7_isIn) (maxL := 2) (ret := (some .boolean)) (by decide) rfl ?_
  intro p en s m args below meth c s₁ B hml hv
  obtain ⟨rfl, hSK, hSH, hP⟩ := hv
  have X : Cx p s m _ c cX7_isIn 2 RX7 g := ⟨B.exec, B.bytes, hml, findClass_of_methodNamed B.named, fun w hw => atoms_spec (ws := wsy yX7_isIn cX7_isIn 2 (some .boolean)) B.pre w (List.mem_cons_of_mem _ hw), hSK, hI, hSH⟩
  have hr := B.returns
  have hlocks := B.notSynchronized
  have hx := X.1
  have hb := X.2.1
  have hS : va_S (inA g) s.heap s.heap [] := va_S.rf
  clear hSK hSH hml B
  have hl := lv_entry ([.ref (g.2.2 a1), .int a2]) (n := 2) (Nat.le_of_ble_eq_true rfl)
  rw [lg_entry_eq]
  generalize (lg_sl ([.ref (g.2.2 a1), .int a2]) ++ List.replicate (2 - (lg_sl ([.ref (g.2.2 a1), .int a2])).length) Slot.unset).toArray = ls at hl ⊢
  have hl : lv_has ls 2 [(0, .ref (g.2.2 a1)), (1, .int a2)] := hl
  generalize ([.ref (g.2.2 a1), .int a2] : List Value).toArray = args at X ⊢
  show W p l en (rmD 1) s m args below meth c s.heap [] 0 0 (MQ below (QI g h k1 r) args s 0 0 (inA g)) (F0 m 0 ls [])
  unfold fX7_isIn at hf
  refine lv_aload_n hx hb dX7_isIn_0 rfl (lv_at hl 0 rfl) ?_
  refine lv_iload_n hx hb dX7_isIn_1 rfl (lv_at hl 1 rfl) ?_
  refine lv_iconst (v := 5) hx hb dX7_isIn_2 (by decide) ?_
  obtain ⟨x1, kk2, hg8, hf7⟩ := bd_some hf
  refine x_ci (x_runS (As := [.ref (g.2.2 a1), .int a2, .int (5 : Int32)]) (rest := []) X hP hS (tX7_of l X.2.2.2.2.2.2.1 ha1 hg8) mi_X7_152 rfl hl.1 rfl (Nat.le_of_ble_eq_true rfl) dX7_isIn_3 ⟨Nat.le_of_ble_eq_true rfl, Nat.le_of_ble_eq_true rfl⟩ ⟨Nat.zero_le _, Nat.zero_le _⟩) hS (fun H3 lc4 hP5 hS6 => ?_)
  clear hf hP hS hg8
  refine lv_iconst (v := 1) hx hb dX7_isIn_6 (by decide) ?_
  refine lv_icmp_ne (tgt := 14) hx hb dX7_isIn_7 (by decide) (fun c9 => ?_) (fun c9 => ?_)
  · have hf10 := if_at_f c9 hf7
    clear hf7
    refine lv_iconst (v := 0) hx hb dX7_isIn_14 (by decide) ?_
    obtain ⟨rfl, rfl⟩ := ret_inj hf10
    exact x_zret X hr hlocks rfl hP5 hS6 dX7_isIn_15
  · have hf11 := if_at_t c9 hf7
    clear hf7
    refine lv_iconst (v := 1) hx hb dX7_isIn_10 (by decide) ?_
    refine lv_goto (tgt := 15) hx hb dX7_isIn_11 (by decide) ?_
    obtain ⟨rfl, rfl⟩ := ret_inj hf11
    exact x_zret X hr hlocks rfl hP5 hS6 dX7_isIn_15
set_option maxRecDepth 100000 in
set_option maxHeartbeats 4000000 in
theorem tX7_windOf (l : Launch) {g : Gx} (hI : InjG g) {h k k1 : Hp} {a1 : Nat} {r : Int32}  (ha1 : isMA a1 = true) (hf : fX7_windOf a1 k = some (r, k1)) : CI l yX7_windOf cX7_windOf 1 (some .int) 0 g [.ref (g.2.2 a1)] h k h k1 r := by
  refine Met.ofW (cc := cX7_windOf) (maxL := 1) (ret := (some .int)) (by decide) rfl ?_
  intro p en s m args below meth c s₁ B hml hv
  obtain ⟨rfl, hSK, hSH, hP⟩ := hv
  have X : Cx p s m _ c cX7_windOf 1 RX7 g := ⟨B.exec, B.bytes, hml, findClass_of_methodNamed B.named, fun w hw => atoms_spec (ws := wsy yX7_windOf cX7_windOf 1 (some .int)) B.pre w (List.mem_cons_of_mem _ hw), hSK, hI, hSH⟩
  have hr := B.returns
  have hlocks := B.notSynchronized
  have hx := X.1
  have hb := X.2.1
  have hS : va_S (inA g) s.heap s.heap [] := va_S.rf
  clear hSK hSH hml B
  have hl := lv_entry ([.ref (g.2.2 a1)]) (n := 1) (Nat.le_of_ble_eq_true rfl)
  rw [lg_entry_eq]
  generalize (lg_sl ([.ref (g.2.2 a1)]) ++ List.replicate (1 - (lg_sl ([.ref (g.2.2 a1)])).length) Slot.unset).toArray = ls at hl ⊢
  have hl : lv_has ls 1 [(0, .ref (g.2.2 a1))] := hl
  generalize ([.ref (g.2.2 a1)] : List Value).toArray = args at X ⊢
  show W p l en (rmD 0) s m args below meth c s.heap [] 0 0 (MQ below (QI g h k1 r) args s 0 0 (inA g)) (F0 m 0 ls [])
  unfold fX7_windOf at hf
  refine lv_aload_n hx hb dX7_windOf_0 rfl (lv_at hl 0 rfl) ?_
  refine lv_bipush (v := 8) hx hb dX7_windOf_1 (by decide) ?_
  refine lv_aload_n hx hb dX7_windOf_3 rfl (lv_at hl 0 rfl) ?_
  refine lv_bipush (v := 6) hx hb dX7_windOf_4 (by decide) ?_
  obtain ⟨hc1, hf2⟩ := chk_some hf
  refine x_ildM X hP a1 ha1 hc1 dX7_windOf_6 ?_
  refine lv_aload_n hx hb dX7_windOf_7 rfl (lv_at hl 0 rfl) ?_
  refine lv_iconst (v := 1) hx hb dX7_windOf_8 (by decide) ?_
  obtain ⟨hc3, hf4⟩ := chk_some hf2
  refine x_ildM X hP a1 ha1 hc3 dX7_windOf_9 ?_
  obtain ⟨hc5, hf6⟩ := chk_some hf4
  refine x_irem X dX7_windOf_10 (nz_in hc5) ?_
  refine lv_iadd hx hb dX7_windOf_11 ?_
  obtain ⟨hc7, hf8⟩ := chk_some hf6
  refine x_ildM X hP a1 ha1 hc7 dX7_windOf_12 ?_
  obtain ⟨rfl, rfl⟩ := ret_inj hf8
  exact x_iret X hr hlocks hP hS dX7_windOf_13
set_option maxRecDepth 100000 in
set_option maxHeartbeats 4000000 in
theorem wX7_cellsOf_L5 {p : Program} {l : Launch} {en : Env} {s : State} {m : MethodId} {args : Array Value} {below : List Frame} {meth : Method} {c : Code} {g : Gx} (X : Cx p s m args c cX7_cellsOf 5 RX7 g) (hr : meth.sig.returnType = (some .int)) (hlocks : meth.locks = false) {h k1 : Hp} {r : Int32} {v0 : Nat} {v1 : Int32} {v2 : Int32} (hv0 : isMA v0 = true) 
     :
    ∀ (n : Nat) (v3 : Int32) (v4 : Int32) (k : Hp) (H : Heap) (locs : List Loc) (ls : Array Slot), fX7_cellsOf_L5 n v0 v1 v2 v3 v4 k = some (r, k1) → va_P g.1 vwCl (WW g h k) H → va_S (inA g) s.heap H locs → lv_has ls 5 [(0, .ref (g.2.2 v0)), (1, .int v1), (2, .int v2), (3, .int v3), (4, .int v4)] → W p l en (rmD 0) s m args below meth c H locs 0 0 (MQ below (QI g h k1 r) args s 0 0 (inA g)) (F0 m 5 ls []) := by
  have hx := X.1
  have hb := X.2.1
  intro n
  induction n with
  | zero => intro v3 v4 k H locs ls  hf; simp only [fX7_cellsOf_L5, reduceCtorEq] at hf
  | succ n ih =>
    intro v3 v4 k H locs ls  hf hP hS hl
    rw [fX7_cellsOf_L5] at hf
    refine lv_iload hx hb dX7_cellsOf_5 (lv_at hl 4 rfl) ?_
    refine lv_aload_n hx hb dX7_cellsOf_7 rfl (lv_at hl 0 rfl) ?_
    refine lv_iconst (v := 2) hx hb dX7_cellsOf_8 (by decide) ?_
    obtain ⟨hc5, hf6⟩ := chk_some hf
    refine x_ildM X hP v0 hv0 hc5 dX7_cellsOf_9 ?_
    refine lv_icmp_ge (tgt := 44) hx hb dX7_cellsOf_10 (by decide) (fun c7 => ?_) (fun c7 => ?_)
    · have hf8 := if_at_t c7 hf6
      clear hf6
      refine lv_iload_n hx hb dX7_cellsOf_44 rfl (lv_at hl 3 rfl) ?_
      obtain ⟨rfl, rfl⟩ := ret_inj hf8
      exact x_iret X hr hlocks hP hS dX7_cellsOf_45
    · have hf9 := if_at_f c7 hf6
      clear hf6
      refine lv_iload_n hx hb dX7_cellsOf_13 rfl (lv_at hl 3 rfl) ?_
      refine lv_iload hx hb dX7_cellsOf_14 (lv_at hl 4 rfl) ?_
      refine lv_iload_n hx hb dX7_cellsOf_16 rfl (lv_at hl 1 rfl) ?_
      obtain ⟨J36_10, eJ36_10, hf27⟩ := jp_at hf9
      clear hf9
      have hJ36_10 : ∀ (J36_10s0 : Int32) (kk11 : Hp) (H12 : Heap) (lc13 : List Loc) (ls14 : Array Slot), J36_10 J36_10s0 kk11 = some (r, k1) → va_P g.1 vwCl (WW g h kk11) H12 → va_S (inA g) s.heap H12 lc13 → lv_has ls14 5 [(0, .ref (g.2.2 v0)), (1, .int v1), (2, .int v2), (4, .int v4)] → W p l en (rmD 0) s m args below meth c H12 lc13 0 0 (MQ below (QI g h k1 r) args s 0 0 (inA g)) (F0 m 36 ls14 [.int J36_10s0, .int v3]) := by
        intro J36_10s0 kk11 H12 lc13 ls14 hf18 hP15 hS16 hl17
        clear hf27 hP hS hl
        subst eJ36_10
        refine lv_ior hx hb dX7_cellsOf_36 ?_
        refine lv_topi (fun x19 ex19 => ?_)
        have hf20 := lk_at ex19 hf18
        clear hf18
        refine lv_istore_n (lv' := [(3, .int x19), (0, .ref (g.2.2 v0)), (1, .int v1), (2, .int v2), (4, .int v4)]) hx hb dX7_cellsOf_37 rfl hl17 (by decide) rfl (fun ls21 hl22 => ?_)
        clear hl17
        obtain ⟨x23, ex23⟩ : ∃ q : Int32, q = v4 + (1 : Int32) := ⟨_, rfl⟩
        have hf24 := lk_at ex23 hf20
        clear hf20
        refine lv_iinc (v := x23) (lv' := [(4, .int x23), (3, .int x19), (0, .ref (g.2.2 v0)), (1, .int v1), (2, .int v2)]) hx hb dX7_cellsOf_38 hl22 (k := 4) rfl (by rw [ex23]; rfl) (by decide) rfl (fun ls25 hl26 => ?_)
        clear hl22
        refine lv_goto (tgt := 5) hx hb dX7_cellsOf_41 (by decide) ?_
        exact ih x19 x23 kk11  _ _ _ hf24 hP15 hS16 (lv_sub hl26 [2, 3, 4, 1, 0] rfl)
      clear eJ36_10
      obtain ⟨J35_28, eJ35_28, hf37⟩ := jp_at hf27
      clear hf27
      have hJ35_28 : ∀  (kk29 : Hp) (H30 : Heap) (lc31 : List Loc) (ls32 : Array Slot), J35_28  kk29 = some (r, k1) → va_P g.1 vwCl (WW g h kk29) H30 → va_S (inA g) s.heap H30 lc31 → lv_has ls32 5 [(0, .ref (g.2.2 v0)), (1, .int v1), (2, .int v2), (4, .int v4)] → W p l en (rmD 0) s m args below meth c H30 lc31 0 0 (MQ below (QI g h k1 r) args s 0 0 (inA g)) (F0 m 35 ls32 [.int v3]) := by
        intro  kk29 H30 lc31 ls32 hf36 hP33 hS34 hl35
        clear hf37 hP hS hl
        subst eJ35_28
        refine lv_iconst (v := 0) hx hb dX7_cellsOf_35 (by decide) ?_
        exact hJ36_10 (0 : Int32) kk29  _ _ _ hf36 hP33 hS34 (lv_sub hl35 [0, 1, 2, 3] rfl)
      clear eJ35_28
      refine lv_icmp_lt (tgt := 35) hx hb dX7_cellsOf_17 (by decide) (fun c38 => ?_) (fun c38 => ?_)
      · have hf39 := if_at_t c38 hf37
        clear hf37
        exact hJ35_28 k  _ _ _ hf39 hP hS (lv_sub hl [0, 1, 2, 4] rfl)
      · have hf40 := if_at_f c38 hf37
        clear hf37
        refine lv_iload hx hb dX7_cellsOf_20 (lv_at hl 4 rfl) ?_
        refine lv_iload_n hx hb dX7_cellsOf_22 rfl (lv_at hl 1 rfl) ?_
        refine lv_iload_n hx hb dX7_cellsOf_23 rfl (lv_at hl 2 rfl) ?_
        refine lv_iadd hx hb dX7_cellsOf_24 ?_
        refine lv_icmp_ge (tgt := 35) hx hb dX7_cellsOf_25 (by decide) (fun c41 => ?_) (fun c41 => ?_)
        · have hf42 := if_at_t c41 hf40
          clear hf40
          exact hJ35_28 k  _ _ _ hf42 hP hS (lv_sub hl [0, 1, 2, 4] rfl)
        · have hf43 := if_at_f c41 hf40
          clear hf40
          refine lv_iconst (v := 1) hx hb dX7_cellsOf_28 (by decide) ?_
          refine lv_iload hx hb dX7_cellsOf_29 (lv_at hl 4 rfl) ?_
          refine x_ishl X dX7_cellsOf_31 ?_
          refine lv_goto (tgt := 36) hx hb dX7_cellsOf_32 (by decide) ?_
          exact hJ36_10 (shlI (1 : Int32) v4) k  _ _ _ hf43 hP hS (lv_sub hl [0, 1, 2, 4] rfl)
set_option maxRecDepth 100000 in
set_option maxHeartbeats 4000000 in
theorem tX7_cellsOf (l : Launch) {g : Gx} (hI : InjG g) {h k k1 : Hp} {a1 : Nat} {a2 : Int32} {a3 : Int32} {r : Int32}  (ha1 : isMA a1 = true) (hf : fX7_cellsOf a1 a2 a3 k = some (r, k1)) : CI l yX7_cellsOf cX7_cellsOf 5 (some .int) 0 g [.ref (g.2.2 a1), .int a2, .int a3] h k h k1 r := by
  refine Met.ofW (cc := cX7_cellsOf) (maxL := 5) (ret := (some .int)) (by decide) rfl ?_
  intro p en s m args below meth c s₁ B hml hv
  obtain ⟨rfl, hSK, hSH, hP⟩ := hv
  have X : Cx p s m _ c cX7_cellsOf 5 RX7 g := ⟨B.exec, B.bytes, hml, findClass_of_methodNamed B.named, fun w hw => atoms_spec (ws := wsy yX7_cellsOf cX7_cellsOf 5 (some .int)) B.pre w (List.mem_cons_of_mem _ hw), hSK, hI, hSH⟩
  have hr := B.returns
  have hlocks := B.notSynchronized
  have hx := X.1
  have hb := X.2.1
  have hS : va_S (inA g) s.heap s.heap [] := va_S.rf
  clear hSK hSH hml B
  have hl := lv_entry ([.ref (g.2.2 a1), .int a2, .int a3]) (n := 5) (Nat.le_of_ble_eq_true rfl)
  rw [lg_entry_eq]
  generalize (lg_sl ([.ref (g.2.2 a1), .int a2, .int a3]) ++ List.replicate (5 - (lg_sl ([.ref (g.2.2 a1), .int a2, .int a3])).length) Slot.unset).toArray = ls at hl ⊢
  have hl : lv_has ls 5 [(0, .ref (g.2.2 a1)), (1, .int a2), (2, .int a3)] := hl
  generalize ([.ref (g.2.2 a1), .int a2, .int a3] : List Value).toArray = args at X ⊢
  show W p l en (rmD 0) s m args below meth c s.heap [] 0 0 (MQ below (QI g h k1 r) args s 0 0 (inA g)) (F0 m 0 ls [])
  unfold fX7_cellsOf at hf
  refine lv_iconst (v := 0) hx hb dX7_cellsOf_0 (by decide) ?_
  refine lv_istore_n (lv' := [(3, .int (0 : Int32)), (0, .ref (g.2.2 a1)), (1, .int a2), (2, .int a3)]) hx hb dX7_cellsOf_1 rfl hl (by decide) rfl (fun ls1 hl2 => ?_)
  clear hl
  refine lv_iconst (v := 0) hx hb dX7_cellsOf_2 (by decide) ?_
  refine lv_istore (lv' := [(4, .int (0 : Int32)), (3, .int (0 : Int32)), (0, .ref (g.2.2 a1)), (1, .int a2), (2, .int a3)]) hx hb dX7_cellsOf_3 hl2 (by decide) rfl (fun ls3 hl4 => ?_)
  clear hl2
  refine wX7_cellsOf_L5 X hr hlocks ha1  4096 (0 : Int32) (0 : Int32) k _ _ _  hf hP hS (lv_sub hl4 [2, 3, 4, 1, 0] rfl)
set_option maxRecDepth 100000 in
set_option maxHeartbeats 4000000 in
theorem tX7_liesOn (l : Launch) {g : Gx} (hI : InjG g) {h k k1 : Hp} {a1 : Nat} {a2 : Int32} {r : Int32}  (ha1 : isMA a1 = true) (hf : fX7_liesOn a1 a2 k = some (r, k1)) : CI l yX7_liesOn cX7_liesOn 2 (some .int) 2 g [.ref (g.2.2 a1), .int a2] h k h k1 r := by
  refine Met.ofW (cc := cX7_liesOn) (maxL := 2) (ret := (some .int)) (by decide) rfl ?_
  intro p en s m args below meth c s₁ B hml hv
  obtain ⟨rfl, hSK, hSH, hP⟩ := hv
  have X : Cx p s m _ c cX7_liesOn 2 RX7 g := ⟨B.exec, B.bytes, hml, findClass_of_methodNamed B.named, fun w hw => atoms_spec (ws := wsy yX7_liesOn cX7_liesOn 2 (some .int)) B.pre w (List.mem_cons_of_mem _ hw), hSK, hI, hSH⟩
  have hr := B.returns
  have hlocks := B.notSynchronized
  have hx := X.1
  have hb := X.2.1
  have hS : va_S (inA g) s.heap s.heap [] := va_S.rf
  clear hSK hSH hml B
  have hl := lv_entry ([.ref (g.2.2 a1), .int a2]) (n := 2) (Nat.le_of_ble_eq_true rfl)
  rw [lg_entry_eq]
  generalize (lg_sl ([.ref (g.2.2 a1), .int a2]) ++ List.replicate (2 - (lg_sl ([.ref (g.2.2 a1), .int a2])).length) Slot.unset).toArray = ls at hl ⊢
  have hl : lv_has ls 2 [(0, .ref (g.2.2 a1)), (1, .int a2)] := hl
  generalize ([.ref (g.2.2 a1), .int a2] : List Value).toArray = args at X ⊢
  show W p l en (rmD 2) s m args below meth c s.heap [] 0 0 (MQ below (QI g h k1 r) args s 0 0 (inA g)) (F0 m 0 ls [])
  unfold fX7_liesOn at hf
  refine lv_aload_n hx hb dX7_liesOn_0 rfl (lv_at hl 0 rfl) ?_
  refine lv_iload_n hx hb dX7_liesOn_1 rfl (lv_at hl 1 rfl) ?_
  obtain ⟨x1, kk2, hg8, hf7⟩ := bd_some hf
  refine x_ci (x_runS (As := [.ref (g.2.2 a1), .int a2]) (rest := []) X hP hS (tX7_isIn l X.2.2.2.2.2.2.1 ha1 hg8) mi_X7_156 rfl hl.1 rfl (Nat.le_of_ble_eq_true rfl) dX7_liesOn_2 ⟨Nat.le_of_ble_eq_true rfl, Nat.le_of_ble_eq_true rfl⟩ ⟨Nat.zero_le _, Nat.zero_le _⟩) hS (fun H3 lc4 hP5 hS6 => ?_)
  clear hf hP hS hg8
  refine lv_if_eq (tgt := 27) hx hb dX7_liesOn_5 (by decide) (fun c9 => ?_) (fun c9 => ?_)
  · have hf10 := if_at_t c9 hf7
    clear hf7
    refine lv_iconst (v := 0) hx hb dX7_liesOn_27 (by decide) ?_
    obtain ⟨rfl, rfl⟩ := ret_inj hf10
    exact x_iret X hr hlocks hP5 hS6 dX7_liesOn_28
  · have hf11 := if_at_f c9 hf7
    clear hf7
    refine lv_aload_n hx hb dX7_liesOn_8 rfl (lv_at hl 0 rfl) ?_
    refine lv_aload_n hx hb dX7_liesOn_9 rfl (lv_at hl 0 rfl) ?_
    refine lv_iload_n hx hb dX7_liesOn_10 rfl (lv_at hl 1 rfl) ?_
    refine lv_iconst (v := 1) hx hb dX7_liesOn_11 (by decide) ?_
    obtain ⟨x12, kk13, hg19, hf18⟩ := bd_some hf11
    refine x_ci (x_runS (As := [.ref (g.2.2 a1), .int a2, .int (1 : Int32)]) (rest := [.ref (g.2.2 a1)]) X hP5 hS6 (tX7_of l X.2.2.2.2.2.2.1 ha1 hg19) mi_X7_152 rfl hl.1 rfl (Nat.le_of_ble_eq_true rfl) dX7_liesOn_12 ⟨Nat.le_of_ble_eq_true rfl, Nat.le_of_ble_eq_true rfl⟩ ⟨Nat.zero_le _, Nat.zero_le _⟩) hS6 (fun H14 lc15 hP16 hS17 => ?_)
    clear hf11 hP5 hS6 hg19
    refine lv_aload_n hx hb dX7_liesOn_15 rfl (lv_at hl 0 rfl) ?_
    refine lv_iload_n hx hb dX7_liesOn_16 rfl (lv_at hl 1 rfl) ?_
    refine lv_iconst (v := 2) hx hb dX7_liesOn_17 (by decide) ?_
    obtain ⟨x20, kk21, hg27, hf26⟩ := bd_some hf18
    refine x_ci (x_runS (As := [.ref (g.2.2 a1), .int a2, .int (2 : Int32)]) (rest := [.int x12, .ref (g.2.2 a1)]) X hP16 hS17 (tX7_of l X.2.2.2.2.2.2.1 ha1 hg27) mi_X7_152 rfl hl.1 rfl (Nat.le_of_ble_eq_true rfl) dX7_liesOn_18 ⟨Nat.le_of_ble_eq_true rfl, Nat.le_of_ble_eq_true rfl⟩ ⟨Nat.zero_le _, Nat.zero_le _⟩) hS17 (fun H22 lc23 hP24 hS25 => ?_)
    clear hf18 hP16 hS17 hg27
    obtain ⟨x28, kk29, hg35, hf34⟩ := bd_some hf26
    refine x_ci (x_runS (As := [.ref (g.2.2 a1), .int x12, .int x20]) (rest := []) X hP24 hS25 (tX7_cellsOf l X.2.2.2.2.2.2.1 ha1 hg35) mi_X7_160 rfl hl.1 rfl (Nat.le_of_ble_eq_true rfl) dX7_liesOn_21 ⟨Nat.le_of_ble_eq_true rfl, Nat.le_of_ble_eq_true rfl⟩ ⟨Nat.zero_le _, Nat.zero_le _⟩) hS25 (fun H30 lc31 hP32 hS33 => ?_)
    clear hf26 hP24 hS25 hg35
    refine lv_goto (tgt := 28) hx hb dX7_liesOn_24 (by decide) ?_
    obtain ⟨rfl, rfl⟩ := ret_inj hf34
    exact x_iret X hr hlocks hP32 hS33 dX7_liesOn_28
