set_option maxRecDepth 100000 in
set_option maxHeartbeats 4000000 in
theorem tX2_drift (l : Launch) {g : Gx} (hI : InjG g) {h k h1 : Hp} {e : Nat} {a1 : Int32} {a2 : Int32}  (he : isE e) (hf : fX2_drift e a1 a2 h = some ((), h1)) : CV l yX2_drift cX2_drift 5 none 2 g [.ref (g.2.2 e), .int a1, .int a2] h k h1 k := by
  refine Met.ofW (cc := cX2_drift) (maxL := 5) (ret := none) (by decide) rfl ?_
  intro p en s m args below meth c s₁ B hml hv
  obtain ⟨rfl, hSK, hSH, hP⟩ := hv
  have X : Cx p s m _ c cX2_drift 5 RX2 g := ⟨B.exec, B.bytes, hml, findClass_of_methodNamed B.named, fun w hw => atoms_spec (ws := wsy yX2_drift cX2_drift 5 none) B.pre w (List.mem_cons_of_mem _ hw), hSK, hI, hSH⟩
  have hr := B.returns
  have hlocks := B.notSynchronized
  have hx := X.1
  have hb := X.2.1
  have hS : va_S (inA g) s.heap s.heap [] := va_S.rf
  clear hSK hSH hml B
  have hl := lv_entry ([.ref (g.2.2 e), .int a1, .int a2]) (n := 5) (Nat.le_of_ble_eq_true rfl)
  rw [lg_entry_eq]
  generalize (lg_sl ([.ref (g.2.2 e), .int a1, .int a2]) ++ List.replicate (5 - (lg_sl ([.ref (g.2.2 e), .int a1, .int a2])).length) Slot.unset).toArray = ls at hl ⊢
  have hl : lv_has ls 5 [(0, .ref (g.2.2 e)), (1, .int a1), (2, .int a2)] := hl
  generalize ([.ref (g.2.2 e), .int a1, .int a2] : List Value).toArray = args at X ⊢
  show W p l en (rmD 2) s m args below meth c s.heap [] 0 0 (MQ below (QV g h1 k) args s 0 0 (inA g)) (F0 m 0 ls [])
  unfold fX2_drift at hf
  refine lv_aload_n hx hb dX2_drift_0 rfl (lv_at hl 0 rfl) ?_
  refine gX2 X hP he 2 (v := .ref (g.2.2 (e + 3))) rfl (by decide) rfl wd_100 dX2_drift_1 ?_
  refine lv_iload_n hx hb dX2_drift_4 rfl (lv_at hl 1 rfl) ?_
  obtain ⟨hc1, hf2⟩ := chk_some hf
  refine x_ildC X hP (e + 3) (ia_E3 he) hc1 dX2_drift_5 ?_
  refine lv_aload_n hx hb dX2_drift_6 rfl (lv_at hl 0 rfl) ?_
  refine gX2 X hP he 1 (v := .ref (g.2.2 (e + 2))) rfl (by decide) rfl wd_96 dX2_drift_7 ?_
  refine lv_iload_n hx hb dX2_drift_10 rfl (lv_at hl 1 rfl) ?_
  obtain ⟨hc3, hf4⟩ := chk_some hf2
  refine x_ildC X hP (e + 2) (ia_E2 he) hc3 dX2_drift_11 ?_
  refine lv_iload_n hx hb dX2_drift_12 rfl (lv_at hl 2 rfl) ?_
  refine lv_iconst (v := 2) hx hb dX2_drift_13 (by decide) ?_
  refine lv_isub hx hb dX2_drift_14 ?_
  obtain ⟨x5, hh6, hg12, hf11⟩ := bd_some hf4
  refine x_ci (x_runS (As := [.int (h (e + 2) a1.toNatClampNeg), .int (a2 - (2 : Int32))]) (rest := [.int (h (e + 3) a1.toNatClampNeg)]) X hP hS (tX2_cellsDrifted l X.2.2.2.2.2.2.1  hg12) mi_X2_100 rfl hl.1 rfl (Nat.le_of_ble_eq_true rfl) dX2_drift_15 ⟨Nat.le_of_ble_eq_true rfl, Nat.le_of_ble_eq_true rfl⟩ ⟨Nat.zero_le _, Nat.zero_le _⟩) hS (fun H7 lc8 hP9 hS10 => ?_)
  clear hf4 hP hS hg12
  refine lv_iadd hx hb dX2_drift_18 ?_
  refine lv_topi (fun x13 ex13 => ?_)
  have hf14 := lk_at ex13 hf11
  clear hf11
  refine lv_istore_n (lv' := [(3, .int x13), (0, .ref (g.2.2 e)), (1, .int a1), (2, .int a2)]) hx hb dX2_drift_19 rfl hl (by decide) rfl (fun ls15 hl16 => ?_)
  clear hl
  refine lv_aload_n hx hb dX2_drift_20 rfl (lv_at hl16 1 rfl) ?_
  refine gX2 X hP9 he 4 (v := .ref (g.2.2 (e + 5))) rfl (by decide) rfl wd_105 dX2_drift_21 ?_
  refine lv_iload_n hx hb dX2_drift_24 rfl (lv_at hl16 2 rfl) ?_
  obtain ⟨hc17, hf18⟩ := chk_some hf14
  refine x_ildC X hP9 (e + 5) (ia_E5 he) hc17 dX2_drift_25 ?_
  refine lv_aload_n hx hb dX2_drift_26 rfl (lv_at hl16 1 rfl) ?_
  refine lv_aload_n hx hb dX2_drift_27 rfl (lv_at hl16 1 rfl) ?_
  refine gX2 X hP9 he 1 (v := .ref (g.2.2 (e + 2))) rfl (by decide) rfl wd_96 dX2_drift_28 ?_
  refine lv_iload_n hx hb dX2_drift_31 rfl (lv_at hl16 2 rfl) ?_
  obtain ⟨hc19, hf20⟩ := chk_some hf18
  refine x_ildC X hP9 (e + 2) (ia_E2 he) hc19 dX2_drift_32 ?_
  refine lv_iload_n hx hb dX2_drift_33 rfl (lv_at hl16 3 rfl) ?_
  refine lv_iconst (v := 2) hx hb dX2_drift_34 (by decide) ?_
  obtain ⟨J43_21, eJ43_21, hf85⟩ := jp_at hf20
  clear hf20
  have hJ43_21 : ∀ (J43_21s0 : Int32) (hh22 : Hp) (H23 : Heap) (lc24 : List Loc) (ls25 : Array Slot), J43_21 J43_21s0 hh22 = some ((), h1) → va_P g.1 vwCl (WW g hh22 k) H23 → va_S (inA g) s.heap H23 lc24 → lv_has ls25 5 [(0, .ref (g.2.2 e)), (1, .int a1), (3, .int x13)] → W p l en (rmD 2) s m args below meth c H23 lc24 0 0 (MQ below (QV g h1 k) args s 0 0 (inA g)) (F0 m 43 ls25 [.int J43_21s0, .int (hh6 (e + 2) a1.toNatClampNeg), .ref (g.2.2 e), .int (hh6 (e + 5) a1.toNatClampNeg)]) := by
    intro J43_21s0 hh22 H23 lc24 ls25 hf29 hP26 hS27 hl28
    clear hf85 hP9 hS10 hl16
    subst eJ43_21
    obtain ⟨x30, hh31, hg37, hf36⟩ := bd_some hf29
    refine x_ci (x_runV (As := [.int (hh6 (e + 2) a1.toNatClampNeg), .int J43_21s0]) (rest := [.int (hh6 (e + 5) a1.toNatClampNeg)]) X hP26 hS27 e (isE_lt he) (cl_E he) rfl (tX2_thickened l X.2.2.2.2.2.2.1 he hg37) mi_X2_104 rfl hl28.1 rfl (Nat.le_of_ble_eq_true rfl) dX2_drift_43 ⟨Nat.le_of_ble_eq_true rfl, Nat.le_of_ble_eq_true rfl⟩ ⟨Nat.zero_le _, Nat.zero_le _⟩) hS27 (fun H32 lc33 hP34 hS35 => ?_)
    clear hf29 hP26 hS27 hg37
    refine lv_iadd hx hb dX2_drift_46 ?_
    refine lv_topi (fun x38 ex38 => ?_)
    have hf39 := lk_at ex38 hf36
    clear hf36
    refine lv_istore (lv' := [(4, .int x38), (0, .ref (g.2.2 e)), (1, .int a1), (3, .int x13)]) hx hb dX2_drift_47 hl28 (by decide) rfl (fun ls40 hl41 => ?_)
    clear hl28
    refine lv_iload hx hb dX2_drift_49 (lv_at hl41 0 rfl) ?_
    obtain ⟨J73_42, eJ73_42, hf57⟩ := jp_at hf39
    clear hf39
    have hJ73_42 : ∀  (hh43 : Hp) (H44 : Heap) (lc45 : List Loc) (ls46 : Array Slot), J73_42  hh43 = some ((), h1) → va_P g.1 vwCl (WW g hh43 k) H44 → va_S (inA g) s.heap H44 lc45 → lv_has ls46 5 [(0, .ref (g.2.2 e)), (1, .int a1)] → W p l en (rmD 2) s m args below meth c H44 lc45 0 0 (MQ below (QV g h1 k) args s 0 0 (inA g)) (F0 m 73 ls46 []) := by
      intro  hh43 H44 lc45 ls46 hf50 hP47 hS48 hl49
      clear hf57 hP34 hS35 hl41
      subst eJ73_42
      refine lv_aload_n hx hb dX2_drift_73 rfl (lv_at hl49 0 rfl) ?_
      refine lv_dup hx hb dX2_drift_74 rfl ?_
      refine gX2 X hP47 he 14 (v := .int (hh43 e 14)) rfl (by decide) rfl wd_140 dX2_drift_75 ?_
      refine lv_iconst (v := 1) hx hb dX2_drift_78 (by decide) ?_
      refine lv_iload_n hx hb dX2_drift_79 rfl (lv_at hl49 1 rfl) ?_
      refine x_ishl X dX2_drift_80 ?_
      refine lv_iconst (v := -1) hx hb dX2_drift_81 (by decide) ?_
      refine lv_ixor hx hb dX2_drift_82 ?_
      refine lv_iand hx hb dX2_drift_83 ?_
      refine pX2 X hP47 hS48 (he) 14 (by decide) rfl wd_140 rfl rfl rfl rfl seX2_14 dX2_drift_84 (fun H51 lc52 hh53 ehh53 hP54 hS55 => ?_)
      have hf56 := lk_at ehh53 hf50
      clear hf50 hP47 hS48
      obtain ⟨-, rfl⟩ := ret_inj hf56
      exact x_vret X hr hlocks hP54 hS55 dX2_drift_87
    clear eJ73_42
    refine lv_if_le (tgt := 73) hx hb dX2_drift_51 (by decide) (fun c58 => ?_) (fun c58 => ?_)
    · have hf59 := if_at_t c58 hf57
      clear hf57
      exact hJ73_42 hh31  _ _ _ hf59 hP34 hS35 (lv_sub hl41 [1, 2] rfl)
    · have hf60 := if_at_f c58 hf57
      clear hf57
      refine lv_iload_n hx hb dX2_drift_54 rfl (lv_at hl41 3 rfl) ?_
      refine lv_aload_n hx hb dX2_drift_55 rfl (lv_at hl41 1 rfl) ?_
      refine gX2 X hP34 he 7 (v := .int (hh31 e 7)) rfl (by decide) rfl wd_114 dX2_drift_56 ?_
      refine lv_icmp_ge (tgt := 73) hx hb dX2_drift_59 (by decide) (fun c61 => ?_) (fun c61 => ?_)
      · have hf62 := if_at_t c61 hf60
        clear hf60
        exact hJ73_42 hh31  _ _ _ hf62 hP34 hS35 (lv_sub hl41 [1, 2] rfl)
      · have hf63 := if_at_f c61 hf60
        clear hf60
        refine lv_iload_n hx hb dX2_drift_62 rfl (lv_at hl41 3 rfl) ?_
        refine lv_aload_n hx hb dX2_drift_63 rfl (lv_at hl41 1 rfl) ?_
        refine gX2 X hP34 he 3 (v := .ref (g.2.2 (e + 4))) rfl (by decide) rfl wd_102 dX2_drift_64 ?_
        refine lv_iload_n hx hb dX2_drift_67 rfl (lv_at hl41 2 rfl) ?_
        obtain ⟨hc64, hf65⟩ := chk_some hf63
        refine x_ildC X hP34 (e + 4) (ia_E4 he) hc64 dX2_drift_68 ?_
        refine lv_iadd hx hb dX2_drift_69 ?_
        refine lv_if_gt (tgt := 88) hx hb dX2_drift_70 (by decide) (fun c66 => ?_) (fun c66 => ?_)
        · have hf67 := if_at_t c66 hf65
          clear hf65
          refine lv_aload_n hx hb dX2_drift_88 rfl (lv_at hl41 1 rfl) ?_
          refine gX2 X hP34 he 2 (v := .ref (g.2.2 (e + 3))) rfl (by decide) rfl wd_100 dX2_drift_89 ?_
          refine lv_iload_n hx hb dX2_drift_92 rfl (lv_at hl41 2 rfl) ?_
          refine lv_iload_n hx hb dX2_drift_93 rfl (lv_at hl41 3 rfl) ?_
          obtain ⟨hc68, hf69⟩ := chk_some hf67
          refine x_istC X hP34 hS35 (e + 3) (ia_E3 he) hc68 dX2_drift_94 (fun H70 lc71 hh72 ehh72 hP73 hS74 => ?_)
          have hf75 := lk_at ehh72 hf69
          clear hf69 hP34 hS35
          refine lv_aload_n hx hb dX2_drift_95 rfl (lv_at hl41 1 rfl) ?_
          refine gX2 X hP73 he 4 (v := .ref (g.2.2 (e + 5))) rfl (by decide) rfl wd_105 dX2_drift_96 ?_
          refine lv_iload_n hx hb dX2_drift_99 rfl (lv_at hl41 2 rfl) ?_
          refine lv_iload hx hb dX2_drift_100 (lv_at hl41 0 rfl) ?_
          refine lv_bipush (v := 9) hx hb dX2_drift_102 (by decide) ?_
          refine x_mmin X hl41.1 ⟨wd_514, wd_485, wd_69, wd_486⟩ ⟨Nat.le_of_ble_eq_true rfl, Nat.le_of_ble_eq_true rfl⟩ ⟨Nat.zero_le _, Nat.zero_le _⟩ dX2_drift_104 ?_
          obtain ⟨hc76, hf77⟩ := chk_some hf75
          refine x_istC X hP73 hS74 (e + 5) (ia_E5 he) hc76 dX2_drift_107 (fun H78 lc79 hh80 ehh80 hP81 hS82 => ?_)
          have hf83 := lk_at ehh80 hf77
          clear hf77 hP73 hS74
          obtain ⟨-, rfl⟩ := ret_inj hf83
          exact x_vret X hr hlocks hP81 hS82 dX2_drift_108
        · have hf84 := if_at_f c66 hf65
          clear hf65
          exact hJ73_42 hh31  _ _ _ hf84 hP34 hS35 (lv_sub hl41 [1, 2] rfl)
  clear eJ43_21
  refine lv_icmp_ne (tgt := 42) hx hb dX2_drift_35 (by decide) (fun c86 => ?_) (fun c86 => ?_)
  · have hf87 := if_at_f c86 hf85
    clear hf85
    refine lv_iconst (v := 0) hx hb dX2_drift_42 (by decide) ?_
    exact hJ43_21 (0 : Int32) hh6  _ _ _ hf87 hP9 hS10 (lv_sub hl16 [1, 2, 0] rfl)
  · have hf88 := if_at_t c86 hf85
    clear hf85
    refine lv_iconst (v := 1) hx hb dX2_drift_38 (by decide) ?_
    refine lv_goto (tgt := 43) hx hb dX2_drift_39 (by decide) ?_
    exact hJ43_21 (1 : Int32) hh6  _ _ _ hf88 hP9 hS10 (lv_sub hl16 [1, 2, 0] rfl)
set_option maxRecDepth 100000 in
set_option maxHeartbeats 4000000 in
theorem tX2_clerkIsAwake (l : Launch) {g : Gx} (hI : InjG g) {h k h1 : Hp} {e : Nat} {r : Int32}  (he : isE e) (hf : fX2_clerkIsAwake e h = some (r, h1)) : CI l yX2_clerkIsAwake cX2_clerkIsAwake 1 (some .boolean) 0 g [.ref (g.2.2 e)] h k h1 k r := by
  refine Met.ofW (cc := cX2_clerkIsAwake) (maxL := 1) (ret := (some .boolean)) (by decide) rfl ?_
  intro p en s m args below meth c s₁ B hml hv
  obtain ⟨rfl, hSK, hSH, hP⟩ := hv
  have X : Cx p s m _ c cX2_clerkIsAwake 1 RX2 g := ⟨B.exec, B.bytes, hml, findClass_of_methodNamed B.named, fun w hw => atoms_spec (ws := wsy yX2_clerkIsAwake cX2_clerkIsAwake 1 (some .boolean)) B.pre w (List.mem_cons_of_mem _ hw), hSK, hI, hSH⟩
  have hr := B.returns
  have hlocks := B.notSynchronized
  have hx := X.1
  have hb := X.2.1
  have hS : va_S (inA g) s.heap s.heap [] := va_S.rf
  clear hSK hSH hml B
  have hl := lv_entry ([.ref (g.2.2 e)]) (n := 1) (Nat.le_of_ble_eq_true rfl)
  rw [lg_entry_eq]
  generalize (lg_sl ([.ref (g.2.2 e)]) ++ List.replicate (1 - (lg_sl ([.ref (g.2.2 e)])).length) Slot.unset).toArray = ls at hl ⊢
  have hl : lv_has ls 1 [(0, .ref (g.2.2 e))] := hl
  generalize ([.ref (g.2.2 e)] : List Value).toArray = args at X ⊢
  show W p l en (rmD 0) s m args below meth c s.heap [] 0 0 (MQ below (QI g h1 k r) args s 0 0 (inA g)) (F0 m 0 ls [])
  unfold fX2_clerkIsAwake at hf
  refine lv_aload_n hx hb dX2_clerkIsAwake_0 rfl (lv_at hl 0 rfl) ?_
  refine gX2 X hP he 10 (v := .int (h e 10)) rfl (by decide) rfl wd_126 dX2_clerkIsAwake_1 ?_
  refine lv_aload_n hx hb dX2_clerkIsAwake_4 rfl (lv_at hl 0 rfl) ?_
  refine gX2 X hP he 13 (v := .int (h e 13)) rfl (by decide) rfl wd_137 dX2_clerkIsAwake_5 ?_
  refine lv_iconst (v := 3) hx hb dX2_clerkIsAwake_8 (by decide) ?_
  refine lv_iand hx hb dX2_clerkIsAwake_9 ?_
  refine x_ishr X dX2_clerkIsAwake_10 ?_
  refine lv_iconst (v := 1) hx hb dX2_clerkIsAwake_11 (by decide) ?_
  refine lv_iand hx hb dX2_clerkIsAwake_12 ?_
  refine lv_if_eq (tgt := 20) hx hb dX2_clerkIsAwake_13 (by decide) (fun c1 => ?_) (fun c1 => ?_)
  · have hf2 := if_at_t c1 hf
    clear hf
    refine lv_iconst (v := 0) hx hb dX2_clerkIsAwake_20 (by decide) ?_
    obtain ⟨rfl, rfl⟩ := ret_inj hf2
    exact x_zret X hr hlocks rfl hP hS dX2_clerkIsAwake_21
  · have hf3 := if_at_f c1 hf
    clear hf
    refine lv_iconst (v := 1) hx hb dX2_clerkIsAwake_16 (by decide) ?_
    refine lv_goto (tgt := 21) hx hb dX2_clerkIsAwake_17 (by decide) ?_
    obtain ⟨rfl, rfl⟩ := ret_inj hf3
    exact x_zret X hr hlocks rfl hP hS dX2_clerkIsAwake_21
set_option maxRecDepth 100000 in
set_option maxHeartbeats 4000000 in
theorem tX2_liesOn (l : Launch) {g : Gx} (hI : InjG g) {h k h1 : Hp} {e : Nat} {a1 : Int32} {a2 : Int32} {r : Int32}  (he : isE e) (hf : fX2_liesOn e a1 a2 h = some (r, h1)) : CI l yX2_liesOn cX2_liesOn 3 (some .boolean) 1 g [.ref (g.2.2 e), .int a1, .int a2] h k h1 k r := by
  refine Met.ofW (cc := cX2_liesOn) (maxL := 3) (ret := (some .boolean)) (by decide) rfl ?_
  intro p en s m args below meth c s₁ B hml hv
  obtain ⟨rfl, hSK, hSH, hP⟩ := hv
  have X : Cx p s m _ c cX2_liesOn 3 RX2 g := ⟨B.exec, B.bytes, hml, findClass_of_methodNamed B.named, fun w hw => atoms_spec (ws := wsy yX2_liesOn cX2_liesOn 3 (some .boolean)) B.pre w (List.mem_cons_of_mem _ hw), hSK, hI, hSH⟩
  have hr := B.returns
  have hlocks := B.notSynchronized
  have hx := X.1
  have hb := X.2.1
  have hS : va_S (inA g) s.heap s.heap [] := va_S.rf
  clear hSK hSH hml B
  have hl := lv_entry ([.ref (g.2.2 e), .int a1, .int a2]) (n := 3) (Nat.le_of_ble_eq_true rfl)
  rw [lg_entry_eq]
  generalize (lg_sl ([.ref (g.2.2 e), .int a1, .int a2]) ++ List.replicate (3 - (lg_sl ([.ref (g.2.2 e), .int a1, .int a2])).length) Slot.unset).toArray = ls at hl ⊢
  have hl : lv_has ls 3 [(0, .ref (g.2.2 e)), (1, .int a1), (2, .int a2)] := hl
  generalize ([.ref (g.2.2 e), .int a1, .int a2] : List Value).toArray = args at X ⊢
  show W p l en (rmD 1) s m args below meth c s.heap [] 0 0 (MQ below (QI g h1 k r) args s 0 0 (inA g)) (F0 m 0 ls [])
  unfold fX2_liesOn at hf
  refine lv_aload_n hx hb dX2_liesOn_0 rfl (lv_at hl 0 rfl) ?_
  refine lv_iload_n hx hb dX2_liesOn_1 rfl (lv_at hl 1 rfl) ?_
  obtain ⟨x1, hh2, hg8, hf7⟩ := bd_some hf
  refine x_ci (x_runV (As := [.int a1]) (rest := []) X hP hS e (isE_lt he) (cl_E he) rfl (tX2_isIn l X.2.2.2.2.2.2.1 he hg8) mi_X2_85 rfl hl.1 rfl (Nat.le_of_ble_eq_true rfl) dX2_liesOn_2 ⟨Nat.le_of_ble_eq_true rfl, Nat.le_of_ble_eq_true rfl⟩ ⟨Nat.zero_le _, Nat.zero_le _⟩) hS (fun H3 lc4 hP5 hS6 => ?_)
  clear hf hP hS hg8
  refine lv_if_eq (tgt := 39) hx hb dX2_liesOn_5 (by decide) (fun c9 => ?_) (fun c9 => ?_)
  · have hf10 := if_at_t c9 hf7
    clear hf7
    refine lv_iconst (v := 0) hx hb dX2_liesOn_39 (by decide) ?_
    obtain ⟨rfl, rfl⟩ := ret_inj hf10
    exact x_zret X hr hlocks rfl hP5 hS6 dX2_liesOn_40
  · have hf11 := if_at_f c9 hf7
    clear hf7
    refine lv_aload_n hx hb dX2_liesOn_8 rfl (lv_at hl 0 rfl) ?_
    refine gX2 X hP5 he 2 (v := .ref (g.2.2 (e + 3))) rfl (by decide) rfl wd_100 dX2_liesOn_9 ?_
    refine lv_iload_n hx hb dX2_liesOn_12 rfl (lv_at hl 1 rfl) ?_
    obtain ⟨hc12, hf13⟩ := chk_some hf11
    refine x_ildC X hP5 (e + 3) (ia_E3 he) hc12 dX2_liesOn_13 ?_
    refine lv_iload_n hx hb dX2_liesOn_14 rfl (lv_at hl 2 rfl) ?_
    refine lv_icmp_gt (tgt := 39) hx hb dX2_liesOn_15 (by decide) (fun c14 => ?_) (fun c14 => ?_)
    · have hf15 := if_at_t c14 hf13
      clear hf13
      refine lv_iconst (v := 0) hx hb dX2_liesOn_39 (by decide) ?_
      obtain ⟨rfl, rfl⟩ := ret_inj hf15
      exact x_zret X hr hlocks rfl hP5 hS6 dX2_liesOn_40
    · have hf16 := if_at_f c14 hf13
      clear hf13
      refine lv_iload_n hx hb dX2_liesOn_18 rfl (lv_at hl 2 rfl) ?_
      refine lv_aload_n hx hb dX2_liesOn_19 rfl (lv_at hl 0 rfl) ?_
      refine gX2 X hP5 he 2 (v := .ref (g.2.2 (e + 3))) rfl (by decide) rfl wd_100 dX2_liesOn_20 ?_
      refine lv_iload_n hx hb dX2_liesOn_23 rfl (lv_at hl 1 rfl) ?_
      obtain ⟨hc17, hf18⟩ := chk_some hf16
      refine x_ildC X hP5 (e + 3) (ia_E3 he) hc17 dX2_liesOn_24 ?_
      refine lv_aload_n hx hb dX2_liesOn_25 rfl (lv_at hl 0 rfl) ?_
      refine gX2 X hP5 he 3 (v := .ref (g.2.2 (e + 4))) rfl (by decide) rfl wd_102 dX2_liesOn_26 ?_
      refine lv_iload_n hx hb dX2_liesOn_29 rfl (lv_at hl 1 rfl) ?_
      obtain ⟨hc19, hf20⟩ := chk_some hf18
      refine x_ildC X hP5 (e + 4) (ia_E4 he) hc19 dX2_liesOn_30 ?_
      refine lv_iadd hx hb dX2_liesOn_31 ?_
      refine lv_icmp_ge (tgt := 39) hx hb dX2_liesOn_32 (by decide) (fun c21 => ?_) (fun c21 => ?_)
      · have hf22 := if_at_t c21 hf20
        clear hf20
        refine lv_iconst (v := 0) hx hb dX2_liesOn_39 (by decide) ?_
        obtain ⟨rfl, rfl⟩ := ret_inj hf22
        exact x_zret X hr hlocks rfl hP5 hS6 dX2_liesOn_40
      · have hf23 := if_at_f c21 hf20
        clear hf20
        refine lv_iconst (v := 1) hx hb dX2_liesOn_35 (by decide) ?_
        refine lv_goto (tgt := 40) hx hb dX2_liesOn_36 (by decide) ?_
        obtain ⟨rfl, rfl⟩ := ret_inj hf23
        exact x_zret X hr hlocks rfl hP5 hS6 dX2_liesOn_40
set_option maxRecDepth 100000 in
set_option maxHeartbeats 4000000 in
theorem wX2_giveNumbers_L2 {p : Program} {l : Launch} {en : Env} {s : State} {m : MethodId} {args : Array Value} {below : List Frame} {meth : Method} {c : Code} {g : Gx} (X : Cx p s m args c cX2_giveNumbers 2 RX2 g) (hr : meth.sig.returnType = none) (hlocks : meth.locks = false) {k h1 : Hp} {v0 : Nat} (hv0 : isE v0) 
     :
    ∀ (n : Nat) (v1 : Int32) (h : Hp) (H : Heap) (locs : List Loc) (ls : Array Slot), fX2_giveNumbers_L2 n v0 v1 h = some ((), h1) → va_P g.1 vwCl (WW g h k) H → va_S (inA g) s.heap H locs → lv_has ls 2 [(0, .ref (g.2.2 v0)), (1, .int v1)] → W p l en (rmD 2) s m args below meth c H locs 0 0 (MQ below (QV g h1 k) args s 0 0 (inA g)) (F0 m 2 ls []) := by
  have hx := X.1
  have hb := X.2.1
  intro n
  induction n with
  | zero => intro v1 h H locs ls  hf; simp only [fX2_giveNumbers_L2, reduceCtorEq] at hf
  | succ n ih =>
    intro v1 h H locs ls  hf hP hS hl
    rw [fX2_giveNumbers_L2] at hf
    refine lv_iload_n hx hb dX2_giveNumbers_2 rfl (lv_at hl 1 rfl) ?_
    refine lv_aload_n hx hb dX2_giveNumbers_3 rfl (lv_at hl 0 rfl) ?_
    refine gX2 X hP hv0 12 (v := .int (h v0 12)) rfl (by decide) rfl wd_133 dX2_giveNumbers_4 ?_
    refine lv_icmp_ge (tgt := 57) hx hb dX2_giveNumbers_7 (by decide) (fun c3 => ?_) (fun c3 => ?_)
    · have hf4 := if_at_t c3 hf
      clear hf
      obtain ⟨-, rfl⟩ := ret_inj hf4
      exact x_vret X hr hlocks hP hS dX2_giveNumbers_57
    · have hf5 := if_at_f c3 hf
      clear hf
      refine lv_aload_n hx hb dX2_giveNumbers_10 rfl (lv_at hl 0 rfl) ?_
      refine gX2 X hP hv0 5 (v := .ref (g.2.2 (v0 + 6))) rfl (by decide) rfl wd_108 dX2_giveNumbers_11 ?_
      refine lv_iload_n hx hb dX2_giveNumbers_14 rfl (lv_at hl 1 rfl) ?_
      obtain ⟨hc6, hf7⟩ := chk_some hf5
      refine x_ildC X hP (v0 + 6) (ia_E6 hv0) hc6 dX2_giveNumbers_15 ?_
      obtain ⟨J51_8, eJ51_8, hf21⟩ := jp_at hf7
      clear hf7
      have hJ51_8 : ∀  (hh9 : Hp) (H10 : Heap) (lc11 : List Loc) (ls12 : Array Slot), J51_8  hh9 = some ((), h1) → va_P g.1 vwCl (WW g hh9 k) H10 → va_S (inA g) s.heap H10 lc11 → lv_has ls12 2 [(0, .ref (g.2.2 v0)), (1, .int v1)] → W p l en (rmD 2) s m args below meth c H10 lc11 0 0 (MQ below (QV g h1 k) args s 0 0 (inA g)) (F0 m 51 ls12 []) := by
        intro  hh9 H10 lc11 ls12 hf16 hP13 hS14 hl15
        clear hf21 hP hS hl
        subst eJ51_8
        obtain ⟨x17, ex17⟩ : ∃ q : Int32, q = v1 + (1 : Int32) := ⟨_, rfl⟩
        have hf18 := lk_at ex17 hf16
        clear hf16
        refine lv_iinc (v := x17) (lv' := [(1, .int x17), (0, .ref (g.2.2 v0))]) hx hb dX2_giveNumbers_51 hl15 (k := 1) rfl (by rw [ex17]; rfl) (by decide) rfl (fun ls19 hl20 => ?_)
        clear hl15
        refine lv_goto (tgt := 2) hx hb dX2_giveNumbers_54 (by decide) ?_
        exact ih x17 hh9  _ _ _ hf18 hP13 hS14 (lv_sub hl20 [1, 0] rfl)
      clear eJ51_8
      refine lv_if_ne (tgt := 51) hx hb dX2_giveNumbers_16 (by decide) (fun c22 => ?_) (fun c22 => ?_)
      · have hf23 := if_at_f c22 hf21
        clear hf21
        exact hJ51_8 h  _ _ _ hf23 hP hS (lv_sub hl [0, 1] rfl)
      · have hf24 := if_at_t c22 hf21
        clear hf21
        refine lv_aload_n hx hb dX2_giveNumbers_19 rfl (lv_at hl 0 rfl) ?_
        refine lv_iload_n hx hb dX2_giveNumbers_20 rfl (lv_at hl 1 rfl) ?_
        refine lv_aload_n hx hb dX2_giveNumbers_21 rfl (lv_at hl 0 rfl) ?_
        refine gX2 X hP hv0 8 (v := .int (h v0 8)) rfl (by decide) rfl wd_118 dX2_giveNumbers_22 ?_
        obtain ⟨x25, hh26, hg32, hf31⟩ := bd_some hf24
        refine x_ci (x_runV (As := [.int v1, .int (h v0 8)]) (rest := []) X hP hS v0 (isE_lt hv0) (cl_E hv0) rfl (tX2_liesOn l X.2.2.2.2.2.2.1 hv0 hg32) mi_X2_113 rfl hl.1 rfl (Nat.le_of_ble_eq_true rfl) dX2_giveNumbers_25 ⟨Nat.le_of_ble_eq_true rfl, Nat.le_of_ble_eq_true rfl⟩ ⟨Nat.zero_le _, Nat.zero_le _⟩) hS (fun H27 lc28 hP29 hS30 => ?_)
        clear hf24 hP hS hg32
        refine lv_if_eq (tgt := 51) hx hb dX2_giveNumbers_28 (by decide) (fun c33 => ?_) (fun c33 => ?_)
        · have hf34 := if_at_t c33 hf31
          clear hf31
          exact hJ51_8 hh26  _ _ _ hf34 hP29 hS30 (lv_sub hl [0, 1] rfl)
        · have hf35 := if_at_f c33 hf31
          clear hf31
          refine lv_aload_n hx hb dX2_giveNumbers_31 rfl (lv_at hl 0 rfl) ?_
          refine lv_dup hx hb dX2_giveNumbers_32 rfl ?_
          refine gX2 X hP29 hv0 15 (v := .int (hh26 v0 15)) rfl (by decide) rfl wd_142 dX2_giveNumbers_33 ?_
          refine lv_iconst (v := 1) hx hb dX2_giveNumbers_36 (by decide) ?_
          refine lv_iadd hx hb dX2_giveNumbers_37 ?_
          refine pX2 X hP29 hS30 (hv0) 15 (by decide) rfl wd_142 rfl rfl rfl rfl seX2_15 dX2_giveNumbers_38 (fun H36 lc37 hh38 ehh38 hP39 hS40 => ?_)
          have hf41 := lk_at ehh38 hf35
          clear hf35 hP29 hS30
          refine lv_aload_n hx hb dX2_giveNumbers_41 rfl (lv_at hl 0 rfl) ?_
          refine gX2 X hP39 hv0 5 (v := .ref (g.2.2 (v0 + 6))) rfl (by decide) rfl wd_108 dX2_giveNumbers_42 ?_
          refine lv_iload_n hx hb dX2_giveNumbers_45 rfl (lv_at hl 1 rfl) ?_
          refine lv_aload_n hx hb dX2_giveNumbers_46 rfl (lv_at hl 0 rfl) ?_
          refine gX2 X hP39 hv0 15 (v := .int (hh38 v0 15)) rfl (by decide) rfl wd_142 dX2_giveNumbers_47 ?_
          obtain ⟨hc42, hf43⟩ := chk_some hf41
          refine x_istC X hP39 hS40 (v0 + 6) (ia_E6 hv0) hc42 dX2_giveNumbers_50 (fun H44 lc45 hh46 ehh46 hP47 hS48 => ?_)
          have hf49 := lk_at ehh46 hf43
          clear hf43 hP39 hS40
          exact hJ51_8 hh46  _ _ _ hf49 hP47 hS48 (lv_sub hl [0, 1] rfl)
set_option maxRecDepth 100000 in
set_option maxHeartbeats 4000000 in
theorem tX2_giveNumbers (l : Launch) {g : Gx} (hI : InjG g) {h k h1 : Hp} {e : Nat}  (he : isE e) (hf : fX2_giveNumbers e h = some ((), h1)) : CV l yX2_giveNumbers cX2_giveNumbers 2 none 2 g [.ref (g.2.2 e)] h k h1 k := by
  refine Met.ofW (cc := cX2_giveNumbers) (maxL := 2) (ret := none) (by decide) rfl ?_
  intro p en s m args below meth c s₁ B hml hv
  obtain ⟨rfl, hSK, hSH, hP⟩ := hv
  have X : Cx p s m _ c cX2_giveNumbers 2 RX2 g := ⟨B.exec, B.bytes, hml, findClass_of_methodNamed B.named, fun w hw => atoms_spec (ws := wsy yX2_giveNumbers cX2_giveNumbers 2 none) B.pre w (List.mem_cons_of_mem _ hw), hSK, hI, hSH⟩
  have hr := B.returns
  have hlocks := B.notSynchronized
  have hx := X.1
  have hb := X.2.1
  have hS : va_S (inA g) s.heap s.heap [] := va_S.rf
  clear hSK hSH hml B
  have hl := lv_entry ([.ref (g.2.2 e)]) (n := 2) (Nat.le_of_ble_eq_true rfl)
  rw [lg_entry_eq]
  generalize (lg_sl ([.ref (g.2.2 e)]) ++ List.replicate (2 - (lg_sl ([.ref (g.2.2 e)])).length) Slot.unset).toArray = ls at hl ⊢
  have hl : lv_has ls 2 [(0, .ref (g.2.2 e))] := hl
  generalize ([.ref (g.2.2 e)] : List Value).toArray = args at X ⊢
  show W p l en (rmD 2) s m args below meth c s.heap [] 0 0 (MQ below (QV g h1 k) args s 0 0 (inA g)) (F0 m 0 ls [])
  unfold fX2_giveNumbers at hf
  refine lv_iconst (v := 0) hx hb dX2_giveNumbers_0 (by decide) ?_
  refine lv_istore_n (lv' := [(1, .int (0 : Int32)), (0, .ref (g.2.2 e))]) hx hb dX2_giveNumbers_1 rfl hl (by decide) rfl (fun ls1 hl2 => ?_)
  clear hl
  refine wX2_giveNumbers_L2 X hr hlocks he  4096 (0 : Int32) h _ _ _  hf hP hS (lv_sub hl2 [1, 0] rfl)
set_option maxRecDepth 100000 in
set_option maxHeartbeats 4000000 in
theorem wX2_passHour_L7 {p : Program} {l : Launch} {en : Env} {s : State} {m : MethodId} {args : Array Value} {below : List Frame} {meth : Method} {c : Code} {g : Gx} (X : Cx p s m args c cX2_passHour 3 RX2 g) (hr : meth.sig.returnType = none) (hlocks : meth.locks = false) {k h1 : Hp} {v0 : Nat} {v1 : Int32} (hv0 : isE v0) {K35 : Hp → Option (Unit × Hp)}
    (hK35 : ∀  (h : Hp) (H : Heap) (locs : List Loc) (ls : Array Slot), K35  h = some ((), h1) → va_P g.1 vwCl (WW g h k) H → va_S (inA g) s.heap H locs → lv_has ls 3 [(0, .ref (g.2.2 v0))] → W p l en (rmD 3) s m args below meth c H locs 0 0 (MQ below (QV g h1 k) args s 0 0 (inA g)) (F0 m 35 ls [])) :
    ∀ (n : Nat) (v2 : Int32) (h : Hp) (H : Heap) (locs : List Loc) (ls : Array Slot), fX2_passHour_L7 K35 n v0 v1 v2 h = some ((), h1) → va_P g.1 vwCl (WW g h k) H → va_S (inA g) s.heap H locs → lv_has ls 3 [(0, .ref (g.2.2 v0)), (1, .int v1), (2, .int v2)] → W p l en (rmD 3) s m args below meth c H locs 0 0 (MQ below (QV g h1 k) args s 0 0 (inA g)) (F0 m 7 ls []) := by
  have hx := X.1
  have hb := X.2.1
  intro n
  induction n with
  | zero => intro v2 h H locs ls  hf; simp only [fX2_passHour_L7, reduceCtorEq] at hf
  | succ n ih =>
    intro v2 h H locs ls  hf hP hS hl
    rw [fX2_passHour_L7] at hf
    refine lv_iload_n hx hb dX2_passHour_7 rfl (lv_at hl 2 rfl) ?_
    refine lv_aload_n hx hb dX2_passHour_8 rfl (lv_at hl 0 rfl) ?_
    refine gX2 X hP hv0 12 (v := .int (h v0 12)) rfl (by decide) rfl wd_133 dX2_passHour_9 ?_
    refine lv_icmp_ge (tgt := 35) hx hb dX2_passHour_12 (by decide) (fun c13 => ?_) (fun c13 => ?_)
    · have hf14 := if_at_t c13 hf
      clear hf
      exact hK35 h  _ _ _ hf14 hP hS (lv_sub hl [0] rfl)
    · have hf15 := if_at_f c13 hf
      clear hf
      refine lv_aload_n hx hb dX2_passHour_15 rfl (lv_at hl 0 rfl) ?_
      refine lv_iload_n hx hb dX2_passHour_16 rfl (lv_at hl 2 rfl) ?_
      obtain ⟨x16, hh17, hg23, hf22⟩ := bd_some hf15
      refine x_ci (x_runV (As := [.int v2]) (rest := []) X hP hS v0 (isE_lt hv0) (cl_E hv0) rfl (tX2_isIn l X.2.2.2.2.2.2.1 hv0 hg23) mi_X2_85 rfl hl.1 rfl (Nat.le_of_ble_eq_true rfl) dX2_passHour_17 ⟨Nat.le_of_ble_eq_true rfl, Nat.le_of_ble_eq_true rfl⟩ ⟨Nat.zero_le _, Nat.zero_le _⟩) hS (fun H18 lc19 hP20 hS21 => ?_)
      clear hf15 hP hS hg23
      obtain ⟨J29_24, eJ29_24, hf37⟩ := jp_at hf22
      clear hf22
      have hJ29_24 : ∀  (hh25 : Hp) (H26 : Heap) (lc27 : List Loc) (ls28 : Array Slot), J29_24  hh25 = some ((), h1) → va_P g.1 vwCl (WW g hh25 k) H26 → va_S (inA g) s.heap H26 lc27 → lv_has ls28 3 [(0, .ref (g.2.2 v0)), (1, .int v1), (2, .int v2)] → W p l en (rmD 3) s m args below meth c H26 lc27 0 0 (MQ below (QV g h1 k) args s 0 0 (inA g)) (F0 m 29 ls28 []) := by
        intro  hh25 H26 lc27 ls28 hf32 hP29 hS30 hl31
        clear hf37 hP20 hS21 hl
        subst eJ29_24
        obtain ⟨x33, ex33⟩ : ∃ q : Int32, q = v2 + (1 : Int32) := ⟨_, rfl⟩
        have hf34 := lk_at ex33 hf32
        clear hf32
        refine lv_iinc (v := x33) (lv' := [(2, .int x33), (0, .ref (g.2.2 v0)), (1, .int v1)]) hx hb dX2_passHour_29 hl31 (k := 2) rfl (by rw [ex33]; rfl) (by decide) rfl (fun ls35 hl36 => ?_)
        clear hl31
        refine lv_goto (tgt := 7) hx hb dX2_passHour_32 (by decide) ?_
        exact ih x33 hh25  _ _ _ hf34 hP29 hS30 (lv_sub hl36 [1, 2, 0] rfl)
      clear eJ29_24
      refine lv_if_eq (tgt := 29) hx hb dX2_passHour_20 (by decide) (fun c38 => ?_) (fun c38 => ?_)
      · have hf39 := if_at_t c38 hf37
        clear hf37
        exact hJ29_24 hh17  _ _ _ hf39 hP20 hS21 (lv_sub hl [0, 1, 2] rfl)
      · have hf40 := if_at_f c38 hf37
        clear hf37
        refine lv_aload_n hx hb dX2_passHour_23 rfl (lv_at hl 0 rfl) ?_
        refine lv_iload_n hx hb dX2_passHour_24 rfl (lv_at hl 2 rfl) ?_
        refine lv_iload_n hx hb dX2_passHour_25 rfl (lv_at hl 1 rfl) ?_
        obtain ⟨⟨⟩, hh42, hg48, hf47⟩ := bd_some hf40
        refine x_cv (x_runV (As := [.int v2, .int v1]) (rest := []) X hP20 hS21 v0 (isE_lt hv0) (cl_E hv0) rfl (tX2_drift l X.2.2.2.2.2.2.1 hv0 hg48) mi_X2_89 rfl hl.1 rfl (Nat.le_of_ble_eq_true rfl) dX2_passHour_26 ⟨Nat.le_of_ble_eq_true rfl, Nat.le_of_ble_eq_true rfl⟩ ⟨Nat.zero_le _, Nat.zero_le _⟩) hS21 (fun H43 lc44 hP45 hS46 => ?_)
        clear hf40 hP20 hS21 hg48
        exact hJ29_24 hh42  _ _ _ hf47 hP45 hS46 (lv_sub hl [0, 1, 2] rfl)
set_option maxRecDepth 100000 in
set_option maxHeartbeats 4000000 in
theorem tX2_passHour (l : Launch) {g : Gx} (hI : InjG g) {h k h1 : Hp} {e : Nat}  (he : isE e) (hf : fX2_passHour e h = some ((), h1)) : CV l yX2_passHour cX2_passHour 3 none 3 g [.ref (g.2.2 e)] h k h1 k := by
  refine Met.ofW (cc := cX2_passHour) (maxL := 3) (ret := none) (by decide) rfl ?_
  intro p en s m args below meth c s₁ B hml hv
  obtain ⟨rfl, hSK, hSH, hP⟩ := hv
  have X : Cx p s m _ c cX2_passHour 3 RX2 g := ⟨B.exec, B.bytes, hml, findClass_of_methodNamed B.named, fun w hw => atoms_spec (ws := wsy yX2_passHour cX2_passHour 3 none) B.pre w (List.mem_cons_of_mem _ hw), hSK, hI, hSH⟩
  have hr := B.returns
  have hlocks := B.notSynchronized
  have hx := X.1
  have hb := X.2.1
  have hS : va_S (inA g) s.heap s.heap [] := va_S.rf
  clear hSK hSH hml B
  have hl := lv_entry ([.ref (g.2.2 e)]) (n := 3) (Nat.le_of_ble_eq_true rfl)
  rw [lg_entry_eq]
  generalize (lg_sl ([.ref (g.2.2 e)]) ++ List.replicate (3 - (lg_sl ([.ref (g.2.2 e)])).length) Slot.unset).toArray = ls at hl ⊢
  have hl : lv_has ls 3 [(0, .ref (g.2.2 e))] := hl
  generalize ([.ref (g.2.2 e)] : List Value).toArray = args at X ⊢
  show W p l en (rmD 3) s m args below meth c s.heap [] 0 0 (MQ below (QV g h1 k) args s 0 0 (inA g)) (F0 m 0 ls [])
  unfold fX2_passHour at hf
  refine lv_aload_n hx hb dX2_passHour_0 rfl (lv_at hl 0 rfl) ?_
  obtain ⟨x1, hh2, hg8, hf7⟩ := bd_some hf
  refine x_ci (x_runV (As := []) (rest := []) X hP hS e (isE_lt he) (cl_E he) rfl (tX2_gust l X.2.2.2.2.2.2.1 he hg8) mi_X2_82 rfl hl.1 rfl (Nat.le_of_ble_eq_true rfl) dX2_passHour_1 ⟨Nat.le_of_ble_eq_true rfl, Nat.le_of_ble_eq_true rfl⟩ ⟨Nat.zero_le _, Nat.zero_le _⟩) hS (fun H3 lc4 hP5 hS6 => ?_)
  clear hf hP hS hg8
  refine lv_istore_n (lv' := [(1, .int x1), (0, .ref (g.2.2 e))]) hx hb dX2_passHour_4 rfl hl (by decide) rfl (fun ls9 hl10 => ?_)
  clear hl
  refine lv_iconst (v := 0) hx hb dX2_passHour_5 (by decide) ?_
  refine lv_istore_n (lv' := [(2, .int (0 : Int32)), (1, .int x1), (0, .ref (g.2.2 e))]) hx hb dX2_passHour_6 rfl hl10 (by decide) rfl (fun ls11 hl12 => ?_)
  clear hl10
  refine wX2_passHour_L7 X hr hlocks he ?_ 4096 (0 : Int32) hh2 _ _ _  hf7 hP5 hS6 (lv_sub hl12 [2, 1, 0] rfl)
  · intro  hh49 H50 lc51 ls52  hf56 hP53 hS54 hl55
    refine lv_aload_n hx hb dX2_passHour_35 rfl (lv_at hl55 0 rfl) ?_
    obtain ⟨x57, hh58, hg64, hf63⟩ := bd_some hf56
    refine x_ci (x_runV (As := []) (rest := []) X hP53 hS54 e (isE_lt he) (cl_E he) rfl (tX2_clerkIsAwake l X.2.2.2.2.2.2.1 he hg64) mi_X2_93 rfl hl55.1 rfl (Nat.le_of_ble_eq_true rfl) dX2_passHour_36 ⟨Nat.le_of_ble_eq_true rfl, Nat.le_of_ble_eq_true rfl⟩ ⟨Nat.zero_le _, Nat.zero_le _⟩) hS54 (fun H59 lc60 hP61 hS62 => ?_)
    clear hf56 hP53 hS54 hg64
    obtain ⟨J46_65, eJ46_65, hf80⟩ := jp_at hf63
    clear hf63
    have hJ46_65 : ∀  (hh66 : Hp) (H67 : Heap) (lc68 : List Loc) (ls69 : Array Slot), J46_65  hh66 = some ((), h1) → va_P g.1 vwCl (WW g hh66 k) H67 → va_S (inA g) s.heap H67 lc68 → lv_has ls69 3 [(0, .ref (g.2.2 e))] → W p l en (rmD 3) s m args below meth c H67 lc68 0 0 (MQ below (QV g h1 k) args s 0 0 (inA g)) (F0 m 46 ls69 []) := by
      intro  hh66 H67 lc68 ls69 hf73 hP70 hS71 hl72
      clear hf80 hP61 hS62 hl55
      subst eJ46_65
      refine lv_aload_n hx hb dX2_passHour_46 rfl (lv_at hl72 0 rfl) ?_
      refine lv_dup hx hb dX2_passHour_47 rfl ?_
      refine gX2 X hP70 he 13 (v := .int (hh66 e 13)) rfl (by decide) rfl wd_137 dX2_passHour_48 ?_
      refine lv_iconst (v := 1) hx hb dX2_passHour_51 (by decide) ?_
      refine lv_iadd hx hb dX2_passHour_52 ?_
      refine pX2 X hP70 hS71 (he) 13 (by decide) rfl wd_137 rfl rfl rfl rfl seX2_13 dX2_passHour_53 (fun H74 lc75 hh76 ehh76 hP77 hS78 => ?_)
      have hf79 := lk_at ehh76 hf73
      clear hf73 hP70 hS71
      obtain ⟨-, rfl⟩ := ret_inj hf79
      exact x_vret X hr hlocks hP77 hS78 dX2_passHour_56
    clear eJ46_65
    refine lv_if_eq (tgt := 46) hx hb dX2_passHour_39 (by decide) (fun c81 => ?_) (fun c81 => ?_)
    · have hf82 := if_at_t c81 hf80
      clear hf80
      exact hJ46_65 hh58  _ _ _ hf82 hP61 hS62 (lv_sub hl55 [0] rfl)
    · have hf83 := if_at_f c81 hf80
      clear hf80
      refine lv_aload_n hx hb dX2_passHour_42 rfl (lv_at hl55 0 rfl) ?_
      obtain ⟨⟨⟩, hh85, hg91, hf90⟩ := bd_some hf83
      refine x_cv (x_runV (As := []) (rest := []) X hP61 hS62 e (isE_lt he) (cl_E he) rfl (tX2_giveNumbers l X.2.2.2.2.2.2.1 he hg91) mi_X2_97 rfl hl55.1 rfl (Nat.le_of_ble_eq_true rfl) dX2_passHour_43 ⟨Nat.le_of_ble_eq_true rfl, Nat.le_of_ble_eq_true rfl⟩ ⟨Nat.zero_le _, Nat.zero_le _⟩) hS62 (fun H86 lc87 hP88 hS89 => ?_)
      clear hf83 hP61 hS62 hg91
      exact hJ46_65 hh85  _ _ _ hf90 hP88 hS89 (lv_sub hl55 [0] rfl)
set_option maxRecDepth 100000 in
set_option maxHeartbeats 4000000 in
theorem wX6_hours_L46 {p : Program} {l : Launch} {en : Env} {s : State} {m : MethodId} {args : Array Value} {below : List Frame} {meth : Method} {c : Code} {g : Gx} (X : Cx p s m args c cX6_hours 3 RX6 g) (hr : meth.sig.returnType = (some .int)) (hlocks : meth.locks = false) {k h1 : Hp} {r : Int32} {v1 : Int32}  
     :
    ∀ (n : Nat) (v2 : Int32) (h : Hp) (H : Heap) (locs : List Loc) (ls : Array Slot), fX6_hours_L46 n v1 v2 h = some (r, h1) → va_P g.1 vwCl (WW g h k) H → va_S (inA g) s.heap H locs → lv_has ls 3 [(0, .ref (g.2.2 203)), (1, .int v1), (2, .int v2)] → W p l en (rmD 4) s m args below meth c H locs 0 0 (MQ below (QI g h1 k r) args s 0 0 (inA g)) (F0 m 46 ls []) := by
  have hx := X.1
  have hb := X.2.1
  intro n
  induction n with
  | zero => intro v2 h H locs ls  hf; simp only [fX6_hours_L46, reduceCtorEq] at hf
  | succ n ih =>
    intro v2 h H locs ls  hf hP hS hl
    rw [fX6_hours_L46] at hf
    refine lv_iload_n hx hb dX6_hours_46 rfl (lv_at hl 2 rfl) ?_
    refine lv_iload_n hx hb dX6_hours_47 rfl (lv_at hl 1 rfl) ?_
    refine lv_icmp_ge (tgt := 75) hx hb dX6_hours_48 (by decide) (fun c17 => ?_) (fun c17 => ?_)
    · have hf18 := if_at_t c17 hf
      clear hf
      refine lv_aload_n hx hb dX6_hours_75 rfl (lv_at hl 0 rfl) ?_
      refine gX6 X hP 2 (v := .ref (g.2.2 0)) rfl (by decide) rfl wd_299 dX6_hours_76 ?_
      refine gX2 X hP (⟨rfl, by decide⟩ : isE 0) 15 (v := .int (h 0 15)) rfl (by decide) rfl wd_143 dX6_hours_79 ?_
      obtain ⟨rfl, rfl⟩ := ret_inj hf18
      exact x_iret X hr hlocks hP hS dX6_hours_82
    · have hf19 := if_at_f c17 hf
      clear hf
      refine lv_aload_n hx hb dX6_hours_51 rfl (lv_at hl 0 rfl) ?_
      refine gX6 X hP 3 (v := .ref (g.2.2 207)) rfl (by decide) rfl wd_300 dX6_hours_52 ?_
      refine lv_aload_n hx hb dX6_hours_55 rfl (lv_at hl 0 rfl) ?_
      refine gX6 X hP 2 (v := .ref (g.2.2 0)) rfl (by decide) rfl wd_299 dX6_hours_56 ?_
      obtain ⟨⟨⟩, hh21, hg27, hf26⟩ := bd_some hf19
      refine x_cv (x_runV (As := [.ref (g.2.2 0)]) (rest := []) X hP hS 207 (by decide) cl_Ac rfl (tX0_keep l X.2.2.2.2.2.2.1 (⟨rfl, by decide⟩ : isE 0) hg27) mi_X6_151 rfl hl.1 rfl (Nat.le_of_ble_eq_true rfl) dX6_hours_59 ⟨Nat.le_of_ble_eq_true rfl, Nat.le_of_ble_eq_true rfl⟩ ⟨Nat.zero_le _, Nat.zero_le _⟩) hS (fun H22 lc23 hP24 hS25 => ?_)
      clear hf19 hP hS hg27
      refine lv_aload_n hx hb dX6_hours_62 rfl (lv_at hl 0 rfl) ?_
      refine gX6 X hP24 2 (v := .ref (g.2.2 0)) rfl (by decide) rfl wd_299 dX6_hours_63 ?_
      obtain ⟨⟨⟩, hh29, hg35, hf34⟩ := bd_some hf26
      refine x_cv (x_runV (As := []) (rest := []) X hP24 hS25 0 (by decide) (cl_E (⟨rfl, by decide⟩ : isE 0)) rfl (tX2_passHour l X.2.2.2.2.2.2.1 (⟨rfl, by decide⟩ : isE 0) hg35) mi_X6_154 rfl hl.1 rfl (Nat.le_of_ble_eq_true rfl) dX6_hours_66 ⟨Nat.le_of_ble_eq_true rfl, Nat.le_of_ble_eq_true rfl⟩ ⟨Nat.zero_le _, Nat.zero_le _⟩) hS25 (fun H30 lc31 hP32 hS33 => ?_)
      clear hf26 hP24 hS25 hg35
      obtain ⟨x36, ex36⟩ : ∃ q : Int32, q = v2 + (1 : Int32) := ⟨_, rfl⟩
      have hf37 := lk_at ex36 hf34
      clear hf34
      refine lv_iinc (v := x36) (lv' := [(2, .int x36), (0, .ref (g.2.2 203)), (1, .int v1)]) hx hb dX6_hours_69 hl (k := 2) rfl (by rw [ex36]; rfl) (by decide) rfl (fun ls38 hl39 => ?_)
      clear hl
      refine lv_goto (tgt := 46) hx hb dX6_hours_72 (by decide) ?_
      exact ih x36 hh29  _ _ _ hf37 hP32 hS33 (lv_sub hl39 [1, 2, 0] rfl)
set_option maxRecDepth 100000 in
set_option maxHeartbeats 4000000 in
theorem tX6_hours (l : Launch) {g : Gx} (hI : InjG g) {h k h1 : Hp} {a1 : Int32} {r : Int32}   (hf : fX6_hours a1 h = some (r, h1)) : CI l yX6_hours cX6_hours 3 (some .int) 4 g [.ref (g.2.2 203), .int a1] h k h1 k r := by
  refine Met.ofW (cc := cX6_hours) (maxL := 3) (ret := (some .int)) (by decide) rfl ?_
  intro p en s m args below meth c s₁ B hml hv
  obtain ⟨rfl, hSK, hSH, hP⟩ := hv
  have X : Cx p s m _ c cX6_hours 3 RX6 g := ⟨B.exec, B.bytes, hml, findClass_of_methodNamed B.named, fun w hw => atoms_spec (ws := wsy yX6_hours cX6_hours 3 (some .int)) B.pre w (List.mem_cons_of_mem _ hw), hSK, hI, hSH⟩
  have hr := B.returns
  have hlocks := B.notSynchronized
  have hx := X.1
  have hb := X.2.1
  have hS : va_S (inA g) s.heap s.heap [] := va_S.rf
  clear hSK hSH hml B
  have hl := lv_entry ([.ref (g.2.2 203), .int a1]) (n := 3) (Nat.le_of_ble_eq_true rfl)
  rw [lg_entry_eq]
  generalize (lg_sl ([.ref (g.2.2 203), .int a1]) ++ List.replicate (3 - (lg_sl ([.ref (g.2.2 203), .int a1])).length) Slot.unset).toArray = ls at hl ⊢
  have hl : lv_has ls 3 [(0, .ref (g.2.2 203)), (1, .int a1)] := hl
  generalize ([.ref (g.2.2 203), .int a1] : List Value).toArray = args at X ⊢
  show W p l en (rmD 4) s m args below meth c s.heap [] 0 0 (MQ below (QI g h1 k r) args s 0 0 (inA g)) (F0 m 0 ls [])
  unfold fX6_hours at hf
  refine lv_aload_n hx hb dX6_hours_0 rfl (lv_at hl 0 rfl) ?_
  refine gX6 X hP 2 (v := .ref (g.2.2 0)) rfl (by decide) rfl wd_299 dX6_hours_1 ?_
  refine gX2 X hP (⟨rfl, by decide⟩ : isE 0) 6 (v := .int (h 0 6)) rfl (by decide) rfl wd_113 dX6_hours_4 ?_
  refine lv_if_ne (tgt := 13) hx hb dX6_hours_7 (by decide) (fun c1 => ?_) (fun c1 => ?_)
  · have hf2 := if_at_f c1 hf
    clear hf
    refine lv_iload_n hx hb dX6_hours_13 rfl (lv_at hl 1 rfl) ?_
    refine lv_iconst (v := 1) hx hb dX6_hours_14 (by decide) ?_
    refine lv_bipush (v := 24) hx hb dX6_hours_15 (by decide) ?_
    obtain ⟨x3, hh4, hg10, hf9⟩ := bd_some hf2
    refine x_ci (x_runS (As := [.int a1, .int (1 : Int32), .int (24 : Int32)]) (rest := []) X hP hS (tX6_isWithin l X.2.2.2.2.2.2.1  hg10) mi_X6_59 rfl hl.1 rfl (Nat.le_of_ble_eq_true rfl) dX6_hours_17 ⟨Nat.le_of_ble_eq_true rfl, Nat.le_of_ble_eq_true rfl⟩ ⟨Nat.zero_le _, Nat.zero_le _⟩) hS (fun H5 lc6 hP7 hS8 => ?_)
    clear hf2 hP hS hg10
    refine lv_if_ne (tgt := 26) hx hb dX6_hours_20 (by decide) (fun c11 => ?_) (fun c11 => ?_)
    · have hf12 := if_at_f c11 hf9
      clear hf9
      refine lv_aload_n hx hb dX6_hours_26 rfl (lv_at hl 0 rfl) ?_
      refine gX6 X hP7 2 (v := .ref (g.2.2 0)) rfl (by decide) rfl wd_299 dX6_hours_27 ?_
      refine gX2 X hP7 (⟨rfl, by decide⟩ : isE 0) 13 (v := .int (hh4 0 13)) rfl (by decide) rfl wd_138 dX6_hours_30 ?_
      refine lv_iload_n hx hb dX6_hours_33 rfl (lv_at hl 1 rfl) ?_
      refine lv_iadd hx hb dX6_hours_34 ?_
      refine lv_sipush (v := 999) hx hb dX6_hours_35 (by decide) ?_
      refine lv_icmp_le (tgt := 44) hx hb dX6_hours_38 (by decide) (fun c13 => ?_) (fun c13 => ?_)
      · have hf14 := if_at_t c13 hf12
        clear hf12
        refine lv_iconst (v := 0) hx hb dX6_hours_44 (by decide) ?_
        refine lv_istore_n (lv' := [(2, .int (0 : Int32)), (0, .ref (g.2.2 203)), (1, .int a1)]) hx hb dX6_hours_45 rfl hl (by decide) rfl (fun ls15 hl16 => ?_)
        clear hl
        refine wX6_hours_L46 X hr hlocks   4096 (0 : Int32) hh4 _ _ _  hf14 hP7 hS8 (lv_sub hl16 [1, 2, 0] rfl)
      · have hf40 := if_at_f c13 hf12
        clear hf12
        refine lv_ldc (v := -1000003) hx hb X.2.2.2.1 (X.2.2.2.2.1 _ wd_383) dX6_hours_41 ?_
        obtain ⟨rfl, rfl⟩ := ret_inj hf40
        exact x_iret X hr hlocks hP7 hS8 dX6_hours_43
    · have hf41 := if_at_t c11 hf9
      clear hf9
      refine lv_ldc (v := -1000001) hx hb X.2.2.2.1 (X.2.2.2.2.1 _ wd_335) dX6_hours_23 ?_
      obtain ⟨rfl, rfl⟩ := ret_inj hf41
      exact x_iret X hr hlocks hP7 hS8 dX6_hours_25
  · have hf42 := if_at_t c1 hf
    clear hf
    refine lv_ldc (v := -1000002) hx hb X.2.2.2.1 (X.2.2.2.2.1 _ wd_470) dX6_hours_10 ?_
    obtain ⟨rfl, rfl⟩ := ret_inj hf42
    exact x_iret X hr hlocks hP hS dX6_hours_12
set_option maxRecDepth 100000 in
set_option maxHeartbeats 4000000 in
theorem tX2_isCell (l : Launch) {g : Gx} (hI : InjG g) {h k h1 : Hp} {e : Nat} {a1 : Int32} {r : Int32}  (he : isE e) (hf : fX2_isCell e a1 h = some (r, h1)) : CI l yX2_isCell cX2_isCell 2 (some .boolean) 0 g [.ref (g.2.2 e), .int a1] h k h1 k r := by
  refine Met.ofW (cc := cX2_isCell) (maxL := 2) (ret := (some .boolean)) (by decide) rfl ?_
  intro p en s m args below meth c s₁ B hml hv
  obtain ⟨rfl, hSK, hSH, hP⟩ := hv
  have X : Cx p s m _ c cX2_isCell 2 RX2 g := ⟨B.exec, B.bytes, hml, findClass_of_methodNamed B.named, fun w hw => atoms_spec (ws := wsy yX2_isCell cX2_isCell 2 (some .boolean)) B.pre w (List.mem_cons_of_mem _ hw), hSK, hI, hSH⟩
  have hr := B.returns
  have hlocks := B.notSynchronized
  have hx := X.1
  have hb := X.2.1
  have hS : va_S (inA g) s.heap s.heap [] := va_S.rf
  clear hSK hSH hml B
  have hl := lv_entry ([.ref (g.2.2 e), .int a1]) (n := 2) (Nat.le_of_ble_eq_true rfl)
  rw [lg_entry_eq]
  generalize (lg_sl ([.ref (g.2.2 e), .int a1]) ++ List.replicate (2 - (lg_sl ([.ref (g.2.2 e), .int a1])).length) Slot.unset).toArray = ls at hl ⊢
  have hl : lv_has ls 2 [(0, .ref (g.2.2 e)), (1, .int a1)] := hl
  generalize ([.ref (g.2.2 e), .int a1] : List Value).toArray = args at X ⊢
  show W p l en (rmD 0) s m args below meth c s.heap [] 0 0 (MQ below (QI g h1 k r) args s 0 0 (inA g)) (F0 m 0 ls [])
  unfold fX2_isCell at hf
  refine lv_iload_n hx hb dX2_isCell_0 rfl (lv_at hl 1 rfl) ?_
  refine lv_if_lt (tgt := 16) hx hb dX2_isCell_1 (by decide) (fun c1 => ?_) (fun c1 => ?_)
  · have hf2 := if_at_t c1 hf
    clear hf
    refine lv_iconst (v := 0) hx hb dX2_isCell_16 (by decide) ?_
    obtain ⟨rfl, rfl⟩ := ret_inj hf2
    exact x_zret X hr hlocks rfl hP hS dX2_isCell_17
  · have hf3 := if_at_f c1 hf
    clear hf
    refine lv_iload_n hx hb dX2_isCell_4 rfl (lv_at hl 1 rfl) ?_
    refine lv_aload_n hx hb dX2_isCell_5 rfl (lv_at hl 0 rfl) ?_
    refine gX2 X hP he 7 (v := .int (h e 7)) rfl (by decide) rfl wd_114 dX2_isCell_6 ?_
    refine lv_icmp_ge (tgt := 16) hx hb dX2_isCell_9 (by decide) (fun c4 => ?_) (fun c4 => ?_)
    · have hf5 := if_at_t c4 hf3
      clear hf3
      refine lv_iconst (v := 0) hx hb dX2_isCell_16 (by decide) ?_
      obtain ⟨rfl, rfl⟩ := ret_inj hf5
      exact x_zret X hr hlocks rfl hP hS dX2_isCell_17
    · have hf6 := if_at_f c4 hf3
      clear hf3
      refine lv_iconst (v := 1) hx hb dX2_isCell_12 (by decide) ?_
      refine lv_goto (tgt := 17) hx hb dX2_isCell_13 (by decide) ?_
      obtain ⟨rfl, rfl⟩ := ret_inj hf6
      exact x_zret X hr hlocks rfl hP hS dX2_isCell_17
set_option maxRecDepth 100000 in
set_option maxHeartbeats 4000000 in
theorem tX6_step (l : Launch) {g : Gx} (hI : InjG g) {h k h1 : Hp} {a1 : Int32} {r : Int32}   (hf : fX6_step a1 h = some (r, h1)) : CI l yX6_step cX6_step 3 (some .int) 4 g [.ref (g.2.2 203), .int a1] h k h1 k r := by
  refine Met.ofW (cc := cX6_step) (maxL := 3) (ret := (some .int)) (by decide) rfl ?_
  intro p en s m args below meth c s₁ B hml hv
  obtain ⟨rfl, hSK, hSH, hP⟩ := hv
  have X : Cx p s m _ c cX6_step 3 RX6 g := ⟨B.exec, B.bytes, hml, findClass_of_methodNamed B.named, fun w hw => atoms_spec (ws := wsy yX6_step cX6_step 3 (some .int)) B.pre w (List.mem_cons_of_mem _ hw), hSK, hI, hSH⟩
  have hr := B.returns
  have hlocks := B.notSynchronized
  have hx := X.1
  have hb := X.2.1
  have hS : va_S (inA g) s.heap s.heap [] := va_S.rf
  clear hSK hSH hml B
  have hl := lv_entry ([.ref (g.2.2 203), .int a1]) (n := 3) (Nat.le_of_ble_eq_true rfl)
  rw [lg_entry_eq]
  generalize (lg_sl ([.ref (g.2.2 203), .int a1]) ++ List.replicate (3 - (lg_sl ([.ref (g.2.2 203), .int a1])).length) Slot.unset).toArray = ls at hl ⊢
  have hl : lv_has ls 3 [(0, .ref (g.2.2 203)), (1, .int a1)] := hl
  generalize ([.ref (g.2.2 203), .int a1] : List Value).toArray = args at X ⊢
  show W p l en (rmD 4) s m args below meth c s.heap [] 0 0 (MQ below (QI g h1 k r) args s 0 0 (inA g)) (F0 m 0 ls [])
  unfold fX6_step at hf
  refine lv_aload_n hx hb dX6_step_0 rfl (lv_at hl 0 rfl) ?_
  refine gX6 X hP 2 (v := .ref (g.2.2 0)) rfl (by decide) rfl wd_299 dX6_step_1 ?_
  refine gX2 X hP (⟨rfl, by decide⟩ : isE 0) 6 (v := .int (h 0 6)) rfl (by decide) rfl wd_113 dX6_step_4 ?_
  refine lv_if_ne (tgt := 13) hx hb dX6_step_7 (by decide) (fun c1 => ?_) (fun c1 => ?_)
  · have hf2 := if_at_f c1 hf
    clear hf
    refine lv_iload_n hx hb dX6_step_13 rfl (lv_at hl 1 rfl) ?_
    refine lv_iconst (v := 0) hx hb dX6_step_14 (by decide) ?_
    refine lv_iconst (v := 1) hx hb dX6_step_15 (by decide) ?_
    obtain ⟨x3, hh4, hg10, hf9⟩ := bd_some hf2
    refine x_ci (x_runS (As := [.int a1, .int (0 : Int32), .int (1 : Int32)]) (rest := []) X hP hS (tX6_isWithin l X.2.2.2.2.2.2.1  hg10) mi_X6_59 rfl hl.1 rfl (Nat.le_of_ble_eq_true rfl) dX6_step_16 ⟨Nat.le_of_ble_eq_true rfl, Nat.le_of_ble_eq_true rfl⟩ ⟨Nat.zero_le _, Nat.zero_le _⟩) hS (fun H5 lc6 hP7 hS8 => ?_)
    clear hf2 hP hS hg10
    refine lv_if_ne (tgt := 25) hx hb dX6_step_19 (by decide) (fun c11 => ?_) (fun c11 => ?_)
    · have hf12 := if_at_f c11 hf9
      clear hf9
      refine lv_iload_n hx hb dX6_step_25 rfl (lv_at hl 1 rfl) ?_
      obtain ⟨J50_13, eJ50_13, hf49⟩ := jp_at hf12
      clear hf12
      have hJ50_13 : ∀ (J50_13s0 : Int32) (hh14 : Hp) (H15 : Heap) (lc16 : List Loc) (ls17 : Array Slot), J50_13 J50_13s0 hh14 = some (r, h1) → va_P g.1 vwCl (WW g hh14 k) H15 → va_S (inA g) s.heap H15 lc16 → lv_has ls17 3 [(0, .ref (g.2.2 203))] → W p l en (rmD 4) s m args below meth c H15 lc16 0 0 (MQ below (QI g h1 k r) args s 0 0 (inA g)) (F0 m 50 ls17 [.int J50_13s0]) := by
        intro J50_13s0 hh14 H15 lc16 ls17 hf21 hP18 hS19 hl20
        clear hf49 hP7 hS8 hl
        subst eJ50_13
        refine lv_istore_n (lv' := [(2, .int J50_13s0), (0, .ref (g.2.2 203))]) hx hb dX6_step_50 rfl hl20 (by decide) rfl (fun ls22 hl23 => ?_)
        clear hl20
        refine lv_aload_n hx hb dX6_step_51 rfl (lv_at hl23 1 rfl) ?_
        refine gX6 X hP18 2 (v := .ref (g.2.2 0)) rfl (by decide) rfl wd_299 dX6_step_52 ?_
        refine lv_iload_n hx hb dX6_step_55 rfl (lv_at hl23 0 rfl) ?_
        obtain ⟨x24, hh25, hg31, hf30⟩ := bd_some hf21
        refine x_ci (x_runV (As := [.int J50_13s0]) (rest := []) X hP18 hS19 0 (by decide) (cl_E (⟨rfl, by decide⟩ : isE 0)) rfl (tX2_isCell l X.2.2.2.2.2.2.1 (⟨rfl, by decide⟩ : isE 0) hg31) mi_X6_163 rfl hl23.1 rfl (Nat.le_of_ble_eq_true rfl) dX6_step_56 ⟨Nat.le_of_ble_eq_true rfl, Nat.le_of_ble_eq_true rfl⟩ ⟨Nat.zero_le _, Nat.zero_le _⟩) hS19 (fun H26 lc27 hP28 hS29 => ?_)
        clear hf21 hP18 hS19 hg31
        refine lv_if_ne (tgt := 65) hx hb dX6_step_59 (by decide) (fun c32 => ?_) (fun c32 => ?_)
        · have hf33 := if_at_f c32 hf30
          clear hf30
          refine lv_aload_n hx hb dX6_step_65 rfl (lv_at hl23 1 rfl) ?_
          refine gX6 X hP28 3 (v := .ref (g.2.2 207)) rfl (by decide) rfl wd_300 dX6_step_66 ?_
          refine lv_aload_n hx hb dX6_step_69 rfl (lv_at hl23 1 rfl) ?_
          refine gX6 X hP28 2 (v := .ref (g.2.2 0)) rfl (by decide) rfl wd_299 dX6_step_70 ?_
          obtain ⟨⟨⟩, hh35, hg41, hf40⟩ := bd_some hf33
          refine x_cv (x_runV (As := [.ref (g.2.2 0)]) (rest := []) X hP28 hS29 207 (by decide) cl_Ac rfl (tX0_keep l X.2.2.2.2.2.2.1 (⟨rfl, by decide⟩ : isE 0) hg41) mi_X6_151 rfl hl23.1 rfl (Nat.le_of_ble_eq_true rfl) dX6_step_73 ⟨Nat.le_of_ble_eq_true rfl, Nat.le_of_ble_eq_true rfl⟩ ⟨Nat.zero_le _, Nat.zero_le _⟩) hS29 (fun H36 lc37 hP38 hS39 => ?_)
          clear hf33 hP28 hS29 hg41
          refine lv_aload_n hx hb dX6_step_76 rfl (lv_at hl23 1 rfl) ?_
          refine gX6 X hP38 2 (v := .ref (g.2.2 0)) rfl (by decide) rfl wd_299 dX6_step_77 ?_
          refine lv_iload_n hx hb dX6_step_80 rfl (lv_at hl23 0 rfl) ?_
          refine pX2 X hP38 hS39 (⟨rfl, by decide⟩ : isE 0) 9 (by decide) rfl wd_125 rfl rfl rfl rfl seX2_9 dX6_step_81 (fun H42 lc43 hh44 ehh44 hP45 hS46 => ?_)
          have hf47 := lk_at ehh44 hf40
          clear hf40 hP38 hS39
          refine lv_iload_n hx hb dX6_step_84 rfl (lv_at hl23 0 rfl) ?_
          obtain ⟨rfl, rfl⟩ := ret_inj hf47
          exact x_iret X hr hlocks hP45 hS46 dX6_step_85
        · have hf48 := if_at_t c32 hf30
          clear hf30
          refine lv_ldc (v := -1000002) hx hb X.2.2.2.1 (X.2.2.2.2.1 _ wd_470) dX6_step_62 ?_
          obtain ⟨rfl, rfl⟩ := ret_inj hf48
          exact x_iret X hr hlocks hP28 hS29 dX6_step_64
      clear eJ50_13
      refine lv_if_ne (tgt := 41) hx hb dX6_step_26 (by decide) (fun c50 => ?_) (fun c50 => ?_)
      · have hf51 := if_at_f c50 hf49
        clear hf49
        refine lv_aload_n hx hb dX6_step_41 rfl (lv_at hl 0 rfl) ?_
        refine gX6 X hP7 2 (v := .ref (g.2.2 0)) rfl (by decide) rfl wd_299 dX6_step_42 ?_
        refine gX2 X hP7 (⟨rfl, by decide⟩ : isE 0) 9 (v := .int (hh4 0 9)) rfl (by decide) rfl wd_125 dX6_step_45 ?_
        refine lv_iconst (v := 1) hx hb dX6_step_48 (by decide) ?_
        refine lv_iadd hx hb dX6_step_49 ?_
        exact hJ50_13 ((hh4 0 9) + (1 : Int32)) hh4  _ _ _ hf51 hP7 hS8 (lv_sub hl [0] rfl)
      · have hf52 := if_at_t c50 hf49
        clear hf49
        refine lv_aload_n hx hb dX6_step_29 rfl (lv_at hl 0 rfl) ?_
        refine gX6 X hP7 2 (v := .ref (g.2.2 0)) rfl (by decide) rfl wd_299 dX6_step_30 ?_
        refine gX2 X hP7 (⟨rfl, by decide⟩ : isE 0) 9 (v := .int (hh4 0 9)) rfl (by decide) rfl wd_125 dX6_step_33 ?_
        refine lv_iconst (v := 1) hx hb dX6_step_36 (by decide) ?_
        refine lv_isub hx hb dX6_step_37 ?_
        refine lv_goto (tgt := 50) hx hb dX6_step_38 (by decide) ?_
        exact hJ50_13 ((hh4 0 9) - (1 : Int32)) hh4  _ _ _ hf52 hP7 hS8 (lv_sub hl [0] rfl)
    · have hf53 := if_at_t c11 hf9
      clear hf9
      refine lv_ldc (v := -1000001) hx hb X.2.2.2.1 (X.2.2.2.2.1 _ wd_335) dX6_step_22 ?_
      obtain ⟨rfl, rfl⟩ := ret_inj hf53
      exact x_iret X hr hlocks hP7 hS8 dX6_step_24
  · have hf54 := if_at_t c1 hf
    clear hf
    refine lv_ldc (v := -1000002) hx hb X.2.2.2.1 (X.2.2.2.2.1 _ wd_470) dX6_step_10 ?_
    obtain ⟨rfl, rfl⟩ := ret_inj hf54
    exact x_iret X hr hlocks hP hS dX6_step_12
set_option maxRecDepth 100000 in
set_option maxHeartbeats 4000000 in
theorem tX2_isWind (l : Launch) {g : Gx} (hI : InjG g) {h k h1 : Hp} {e : Nat} {a1 : Int32} {r : Int32}  (he : isE e) (hf : fX2_isWind e a1 h = some (r, h1)) : CI l yX2_isWind cX2_isWind 2 (some .boolean) 0 g [.ref (g.2.2 e), .int a1] h k h1 k r := by
  refine Met.ofW (cc := cX2_isWind) (maxL := 2) (ret := (some .boolean)) (by decide) rfl ?_
  intro p en s m args below meth c s₁ B hml hv
  obtain ⟨rfl, hSK, hSH, hP⟩ := hv
  have X : Cx p s m _ c cX2_isWind 2 RX2 g := ⟨B.exec, B.bytes, hml, findClass_of_methodNamed B.named, fun w hw => atoms_spec (ws := wsy yX2_isWind cX2_isWind 2 (some .boolean)) B.pre w (List.mem_cons_of_mem _ hw), hSK, hI, hSH⟩
  have hr := B.returns
  have hlocks := B.notSynchronized
  have hx := X.1
  have hb := X.2.1
  have hS : va_S (inA g) s.heap s.heap [] := va_S.rf
  clear hSK hSH hml B
  have hl := lv_entry ([.ref (g.2.2 e), .int a1]) (n := 2) (Nat.le_of_ble_eq_true rfl)
  rw [lg_entry_eq]
  generalize (lg_sl ([.ref (g.2.2 e), .int a1]) ++ List.replicate (2 - (lg_sl ([.ref (g.2.2 e), .int a1])).length) Slot.unset).toArray = ls at hl ⊢
  have hl : lv_has ls 2 [(0, .ref (g.2.2 e)), (1, .int a1)] := hl
  generalize ([.ref (g.2.2 e), .int a1] : List Value).toArray = args at X ⊢
  show W p l en (rmD 0) s m args below meth c s.heap [] 0 0 (MQ below (QI g h1 k r) args s 0 0 (inA g)) (F0 m 0 ls [])
  unfold fX2_isWind at hf
  refine lv_iload_n hx hb dX2_isWind_0 rfl (lv_at hl 1 rfl) ?_
  refine lv_if_lt (tgt := 16) hx hb dX2_isWind_1 (by decide) (fun c1 => ?_) (fun c1 => ?_)
  · have hf2 := if_at_t c1 hf
    clear hf
    refine lv_iconst (v := 0) hx hb dX2_isWind_16 (by decide) ?_
    obtain ⟨rfl, rfl⟩ := ret_inj hf2
    exact x_zret X hr hlocks rfl hP hS dX2_isWind_17
  · have hf3 := if_at_f c1 hf
    clear hf
    refine lv_iload_n hx hb dX2_isWind_4 rfl (lv_at hl 1 rfl) ?_
    refine lv_aload_n hx hb dX2_isWind_5 rfl (lv_at hl 0 rfl) ?_
    refine gX2 X hP he 11 (v := .int (h e 11)) rfl (by decide) rfl wd_129 dX2_isWind_6 ?_
    refine lv_icmp_ge (tgt := 16) hx hb dX2_isWind_9 (by decide) (fun c4 => ?_) (fun c4 => ?_)
    · have hf5 := if_at_t c4 hf3
      clear hf3
      refine lv_iconst (v := 0) hx hb dX2_isWind_16 (by decide) ?_
      obtain ⟨rfl, rfl⟩ := ret_inj hf5
      exact x_zret X hr hlocks rfl hP hS dX2_isWind_17
    · have hf6 := if_at_f c4 hf3
      clear hf3
      refine lv_iconst (v := 1) hx hb dX2_isWind_12 (by decide) ?_
      refine lv_goto (tgt := 17) hx hb dX2_isWind_13 (by decide) ?_
      obtain ⟨rfl, rfl⟩ := ret_inj hf6
      exact x_zret X hr hlocks rfl hP hS dX2_isWind_17
set_option maxRecDepth 100000 in
set_option maxHeartbeats 4000000 in
theorem tX6_wind (l : Launch) {g : Gx} (hI : InjG g) {h k h1 : Hp} {a1 : Int32} {a2 : Int32} {r : Int32}   (hf : fX6_wind a1 a2 h = some (r, h1)) : CI l yX6_wind cX6_wind 4 (some .int) 4 g [.ref (g.2.2 203), .int a1, .int a2] h k h1 k r := by
  refine Met.ofW (cc := cX6_wind) (maxL := 4) (ret := (some .int)) (by decide) rfl ?_
  intro p en s m args below meth c s₁ B hml hv
  obtain ⟨rfl, hSK, hSH, hP⟩ := hv
  have X : Cx p s m _ c cX6_wind 4 RX6 g := ⟨B.exec, B.bytes, hml, findClass_of_methodNamed B.named, fun w hw => atoms_spec (ws := wsy yX6_wind cX6_wind 4 (some .int)) B.pre w (List.mem_cons_of_mem _ hw), hSK, hI, hSH⟩
  have hr := B.returns
  have hlocks := B.notSynchronized
  have hx := X.1
  have hb := X.2.1
  have hS : va_S (inA g) s.heap s.heap [] := va_S.rf
  clear hSK hSH hml B
  have hl := lv_entry ([.ref (g.2.2 203), .int a1, .int a2]) (n := 4) (Nat.le_of_ble_eq_true rfl)
  rw [lg_entry_eq]
  generalize (lg_sl ([.ref (g.2.2 203), .int a1, .int a2]) ++ List.replicate (4 - (lg_sl ([.ref (g.2.2 203), .int a1, .int a2])).length) Slot.unset).toArray = ls at hl ⊢
  have hl : lv_has ls 4 [(0, .ref (g.2.2 203)), (1, .int a1), (2, .int a2)] := hl
  generalize ([.ref (g.2.2 203), .int a1, .int a2] : List Value).toArray = args at X ⊢
  show W p l en (rmD 4) s m args below meth c s.heap [] 0 0 (MQ below (QI g h1 k r) args s 0 0 (inA g)) (F0 m 0 ls [])
  unfold fX6_wind at hf
  refine lv_aload_n hx hb dX6_wind_0 rfl (lv_at hl 0 rfl) ?_
  refine gX6 X hP 2 (v := .ref (g.2.2 0)) rfl (by decide) rfl wd_299 dX6_wind_1 ?_
  refine lv_iload_n hx hb dX6_wind_4 rfl (lv_at hl 1 rfl) ?_
  obtain ⟨x1, hh2, hg8, hf7⟩ := bd_some hf
  refine x_ci (x_runV (As := [.int a1]) (rest := []) X hP hS 0 (by decide) (cl_E (⟨rfl, by decide⟩ : isE 0)) rfl (tX2_isWind l X.2.2.2.2.2.2.1 (⟨rfl, by decide⟩ : isE 0) hg8) mi_X6_166 rfl hl.1 rfl (Nat.le_of_ble_eq_true rfl) dX6_wind_5 ⟨Nat.le_of_ble_eq_true rfl, Nat.le_of_ble_eq_true rfl⟩ ⟨Nat.zero_le _, Nat.zero_le _⟩) hS (fun H3 lc4 hP5 hS6 => ?_)
  clear hf hP hS hg8
  refine lv_if_eq (tgt := 20) hx hb dX6_wind_8 (by decide) (fun c9 => ?_) (fun c9 => ?_)
  · have hf10 := if_at_t c9 hf7
    clear hf7
    refine lv_ldc (v := -1000001) hx hb X.2.2.2.1 (X.2.2.2.2.1 _ wd_335) dX6_wind_20 ?_
    obtain ⟨rfl, rfl⟩ := ret_inj hf10
    exact x_iret X hr hlocks hP5 hS6 dX6_wind_22
  · have hf11 := if_at_f c9 hf7
    clear hf7
    refine lv_iload_n hx hb dX6_wind_11 rfl (lv_at hl 2 rfl) ?_
    refine lv_iconst (v := 0) hx hb dX6_wind_12 (by decide) ?_
    refine lv_iconst (v := 4) hx hb dX6_wind_13 (by decide) ?_
    obtain ⟨x12, hh13, hg19, hf18⟩ := bd_some hf11
    refine x_ci (x_runS (As := [.int a2, .int (0 : Int32), .int (4 : Int32)]) (rest := []) X hP5 hS6 (tX6_isWithin l X.2.2.2.2.2.2.1  hg19) mi_X6_59 rfl hl.1 rfl (Nat.le_of_ble_eq_true rfl) dX6_wind_14 ⟨Nat.le_of_ble_eq_true rfl, Nat.le_of_ble_eq_true rfl⟩ ⟨Nat.zero_le _, Nat.zero_le _⟩) hS6 (fun H14 lc15 hP16 hS17 => ?_)
    clear hf11 hP5 hS6 hg19
    refine lv_if_ne (tgt := 23) hx hb dX6_wind_17 (by decide) (fun c20 => ?_) (fun c20 => ?_)
    · have hf21 := if_at_f c20 hf18
      clear hf18
      refine lv_aload_n hx hb dX6_wind_23 rfl (lv_at hl 0 rfl) ?_
      refine gX6 X hP16 2 (v := .ref (g.2.2 0)) rfl (by decide) rfl wd_299 dX6_wind_24 ?_
      refine gX2 X hP16 (⟨rfl, by decide⟩ : isE 0) 0 (v := .ref (g.2.2 1)) rfl (by decide) rfl wd_94 dX6_wind_27 ?_
      refine lv_iload_n hx hb dX6_wind_30 rfl (lv_at hl 1 rfl) ?_
      obtain ⟨hc22, hf23⟩ := chk_some hf21
      refine x_ildC X hP16 1 rfl hc22 dX6_wind_31 ?_
      refine lv_topi (fun x24 ex24 => ?_)
      have hf25 := lk_at ex24 hf23
      clear hf23
      refine lv_istore_n (lv' := [(3, .int x24), (0, .ref (g.2.2 203)), (1, .int a1), (2, .int a2)]) hx hb dX6_wind_32 rfl hl (by decide) rfl (fun ls26 hl27 => ?_)
      clear hl
      refine lv_aload_n hx hb dX6_wind_33 rfl (lv_at hl27 1 rfl) ?_
      refine gX6 X hP16 3 (v := .ref (g.2.2 207)) rfl (by decide) rfl wd_300 dX6_wind_34 ?_
      refine lv_aload_n hx hb dX6_wind_37 rfl (lv_at hl27 1 rfl) ?_
      refine gX6 X hP16 2 (v := .ref (g.2.2 0)) rfl (by decide) rfl wd_299 dX6_wind_38 ?_
      obtain ⟨⟨⟩, hh29, hg35, hf34⟩ := bd_some hf25
      refine x_cv (x_runV (As := [.ref (g.2.2 0)]) (rest := []) X hP16 hS17 207 (by decide) cl_Ac rfl (tX0_keep l X.2.2.2.2.2.2.1 (⟨rfl, by decide⟩ : isE 0) hg35) mi_X6_151 rfl hl27.1 rfl (Nat.le_of_ble_eq_true rfl) dX6_wind_41 ⟨Nat.le_of_ble_eq_true rfl, Nat.le_of_ble_eq_true rfl⟩ ⟨Nat.zero_le _, Nat.zero_le _⟩) hS17 (fun H30 lc31 hP32 hS33 => ?_)
      clear hf25 hP16 hS17 hg35
      refine lv_aload_n hx hb dX6_wind_44 rfl (lv_at hl27 1 rfl) ?_
      refine gX6 X hP32 2 (v := .ref (g.2.2 0)) rfl (by decide) rfl wd_299 dX6_wind_45 ?_
      refine gX2 X hP32 (⟨rfl, by decide⟩ : isE 0) 0 (v := .ref (g.2.2 1)) rfl (by decide) rfl wd_94 dX6_wind_48 ?_
      refine lv_iload_n hx hb dX6_wind_51 rfl (lv_at hl27 2 rfl) ?_
      refine lv_iload_n hx hb dX6_wind_52 rfl (lv_at hl27 3 rfl) ?_
      obtain ⟨hc36, hf37⟩ := chk_some hf34
      refine x_istC X hP32 hS33 1 rfl hc36 dX6_wind_53 (fun H38 lc39 hh40 ehh40 hP41 hS42 => ?_)
      have hf43 := lk_at ehh40 hf37
      clear hf37 hP32 hS33
      refine lv_iload_n hx hb dX6_wind_54 rfl (lv_at hl27 0 rfl) ?_
      obtain ⟨rfl, rfl⟩ := ret_inj hf43
      exact x_iret X hr hlocks hP41 hS42 dX6_wind_55
    · have hf44 := if_at_t c20 hf18
      clear hf18
      refine lv_ldc (v := -1000001) hx hb X.2.2.2.1 (X.2.2.2.2.1 _ wd_335) dX6_wind_20 ?_
      obtain ⟨rfl, rfl⟩ := ret_inj hf44
      exact x_iret X hr hlocks hP16 hS17 dX6_wind_22
set_option maxRecDepth 100000 in
set_option maxHeartbeats 4000000 in
theorem tX6_wake (l : Launch) {g : Gx} (hI : InjG g) {h k h1 : Hp} {a1 : Int32} {r : Int32}   (hf : fX6_wake a1 h = some (r, h1)) : CI l yX6_wake cX6_wake 3 (some .int) 4 g [.ref (g.2.2 203), .int a1] h k h1 k r := by
  refine Met.ofW (cc := cX6_wake) (maxL := 3) (ret := (some .int)) (by decide) rfl ?_
  intro p en s m args below meth c s₁ B hml hv
  obtain ⟨rfl, hSK, hSH, hP⟩ := hv
  have X : Cx p s m _ c cX6_wake 3 RX6 g := ⟨B.exec, B.bytes, hml, findClass_of_methodNamed B.named, fun w hw => atoms_spec (ws := wsy yX6_wake cX6_wake 3 (some .int)) B.pre w (List.mem_cons_of_mem _ hw), hSK, hI, hSH⟩
  have hr := B.returns
  have hlocks := B.notSynchronized
  have hx := X.1
  have hb := X.2.1
  have hS : va_S (inA g) s.heap s.heap [] := va_S.rf
  clear hSK hSH hml B
  have hl := lv_entry ([.ref (g.2.2 203), .int a1]) (n := 3) (Nat.le_of_ble_eq_true rfl)
  rw [lg_entry_eq]
  generalize (lg_sl ([.ref (g.2.2 203), .int a1]) ++ List.replicate (3 - (lg_sl ([.ref (g.2.2 203), .int a1])).length) Slot.unset).toArray = ls at hl ⊢
  have hl : lv_has ls 3 [(0, .ref (g.2.2 203)), (1, .int a1)] := hl
  generalize ([.ref (g.2.2 203), .int a1] : List Value).toArray = args at X ⊢
  show W p l en (rmD 4) s m args below meth c s.heap [] 0 0 (MQ below (QI g h1 k r) args s 0 0 (inA g)) (F0 m 0 ls [])
  unfold fX6_wake at hf
  refine lv_aload_n hx hb dX6_wake_0 rfl (lv_at hl 0 rfl) ?_
  refine gX6 X hP 2 (v := .ref (g.2.2 0)) rfl (by decide) rfl wd_299 dX6_wake_1 ?_
  refine gX2 X hP (⟨rfl, by decide⟩ : isE 0) 6 (v := .int (h 0 6)) rfl (by decide) rfl wd_113 dX6_wake_4 ?_
  refine lv_if_ne (tgt := 13) hx hb dX6_wake_7 (by decide) (fun c1 => ?_) (fun c1 => ?_)
  · have hf2 := if_at_f c1 hf
    clear hf
    refine lv_iload_n hx hb dX6_wake_13 rfl (lv_at hl 1 rfl) ?_
    refine lv_iconst (v := 0) hx hb dX6_wake_14 (by decide) ?_
    refine lv_bipush (v := 15) hx hb dX6_wake_15 (by decide) ?_
    obtain ⟨x3, hh4, hg10, hf9⟩ := bd_some hf2
    refine x_ci (x_runS (As := [.int a1, .int (0 : Int32), .int (15 : Int32)]) (rest := []) X hP hS (tX6_isWithin l X.2.2.2.2.2.2.1  hg10) mi_X6_59 rfl hl.1 rfl (Nat.le_of_ble_eq_true rfl) dX6_wake_17 ⟨Nat.le_of_ble_eq_true rfl, Nat.le_of_ble_eq_true rfl⟩ ⟨Nat.zero_le _, Nat.zero_le _⟩) hS (fun H5 lc6 hP7 hS8 => ?_)
    clear hf2 hP hS hg10
    refine lv_if_ne (tgt := 26) hx hb dX6_wake_20 (by decide) (fun c11 => ?_) (fun c11 => ?_)
    · have hf12 := if_at_f c11 hf9
      clear hf9
      refine lv_aload_n hx hb dX6_wake_26 rfl (lv_at hl 0 rfl) ?_
      refine gX6 X hP7 2 (v := .ref (g.2.2 0)) rfl (by decide) rfl wd_299 dX6_wake_27 ?_
      refine gX2 X hP7 (⟨rfl, by decide⟩ : isE 0) 10 (v := .int (hh4 0 10)) rfl (by decide) rfl wd_128 dX6_wake_30 ?_
      refine lv_topi (fun x13 ex13 => ?_)
      have hf14 := lk_at ex13 hf12
      clear hf12
      refine lv_istore_n (lv' := [(2, .int x13), (0, .ref (g.2.2 203)), (1, .int a1)]) hx hb dX6_wake_33 rfl hl (by decide) rfl (fun ls15 hl16 => ?_)
      clear hl
      refine lv_aload_n hx hb dX6_wake_34 rfl (lv_at hl16 1 rfl) ?_
      refine gX6 X hP7 3 (v := .ref (g.2.2 207)) rfl (by decide) rfl wd_300 dX6_wake_35 ?_
      refine lv_aload_n hx hb dX6_wake_38 rfl (lv_at hl16 1 rfl) ?_
      refine gX6 X hP7 2 (v := .ref (g.2.2 0)) rfl (by decide) rfl wd_299 dX6_wake_39 ?_
      obtain ⟨⟨⟩, hh18, hg24, hf23⟩ := bd_some hf14
      refine x_cv (x_runV (As := [.ref (g.2.2 0)]) (rest := []) X hP7 hS8 207 (by decide) cl_Ac rfl (tX0_keep l X.2.2.2.2.2.2.1 (⟨rfl, by decide⟩ : isE 0) hg24) mi_X6_151 rfl hl16.1 rfl (Nat.le_of_ble_eq_true rfl) dX6_wake_42 ⟨Nat.le_of_ble_eq_true rfl, Nat.le_of_ble_eq_true rfl⟩ ⟨Nat.zero_le _, Nat.zero_le _⟩) hS8 (fun H19 lc20 hP21 hS22 => ?_)
      clear hf14 hP7 hS8 hg24
      refine lv_aload_n hx hb dX6_wake_45 rfl (lv_at hl16 1 rfl) ?_
      refine gX6 X hP21 2 (v := .ref (g.2.2 0)) rfl (by decide) rfl wd_299 dX6_wake_46 ?_
      refine lv_iload_n hx hb dX6_wake_49 rfl (lv_at hl16 2 rfl) ?_
      refine pX2 X hP21 hS22 (⟨rfl, by decide⟩ : isE 0) 10 (by decide) rfl wd_128 rfl rfl rfl rfl seX2_10 dX6_wake_50 (fun H25 lc26 hh27 ehh27 hP28 hS29 => ?_)
      have hf30 := lk_at ehh27 hf23
      clear hf23 hP21 hS22
      refine lv_iload_n hx hb dX6_wake_53 rfl (lv_at hl16 0 rfl) ?_
      obtain ⟨rfl, rfl⟩ := ret_inj hf30
      exact x_iret X hr hlocks hP28 hS29 dX6_wake_54
    · have hf31 := if_at_t c11 hf9
      clear hf9
      refine lv_ldc (v := -1000001) hx hb X.2.2.2.1 (X.2.2.2.2.1 _ wd_335) dX6_wake_23 ?_
      obtain ⟨rfl, rfl⟩ := ret_inj hf31
      exact x_iret X hr hlocks hP7 hS8 dX6_wake_25
  · have hf32 := if_at_t c1 hf
    clear hf
    refine lv_ldc (v := -1000002) hx hb X.2.2.2.1 (X.2.2.2.2.1 _ wd_470) dX6_wake_10 ?_
    obtain ⟨rfl, rfl⟩ := ret_inj hf32
    exact x_iret X hr hlocks hP hS dX6_wake_12
set_option maxRecDepth 100000 in
set_option maxHeartbeats 4000000 in
theorem tX2_isSheet (l : Launch) {g : Gx} (hI : InjG g) {h k h1 : Hp} {e : Nat} {a1 : Int32} {r : Int32}  (he : isE e) (hf : fX2_isSheet e a1 h = some (r, h1)) : CI l yX2_isSheet cX2_isSheet 2 (some .boolean) 0 g [.ref (g.2.2 e), .int a1] h k h1 k r := by
  refine Met.ofW (cc := cX2_isSheet) (maxL := 2) (ret := (some .boolean)) (by decide) rfl ?_
  intro p en s m args below meth c s₁ B hml hv
  obtain ⟨rfl, hSK, hSH, hP⟩ := hv
  have X : Cx p s m _ c cX2_isSheet 2 RX2 g := ⟨B.exec, B.bytes, hml, findClass_of_methodNamed B.named, fun w hw => atoms_spec (ws := wsy yX2_isSheet cX2_isSheet 2 (some .boolean)) B.pre w (List.mem_cons_of_mem _ hw), hSK, hI, hSH⟩
  have hr := B.returns
  have hlocks := B.notSynchronized
  have hx := X.1
  have hb := X.2.1
  have hS : va_S (inA g) s.heap s.heap [] := va_S.rf
  clear hSK hSH hml B
  have hl := lv_entry ([.ref (g.2.2 e), .int a1]) (n := 2) (Nat.le_of_ble_eq_true rfl)
  rw [lg_entry_eq]
  generalize (lg_sl ([.ref (g.2.2 e), .int a1]) ++ List.replicate (2 - (lg_sl ([.ref (g.2.2 e), .int a1])).length) Slot.unset).toArray = ls at hl ⊢
  have hl : lv_has ls 2 [(0, .ref (g.2.2 e)), (1, .int a1)] := hl
  generalize ([.ref (g.2.2 e), .int a1] : List Value).toArray = args at X ⊢
  show W p l en (rmD 0) s m args below meth c s.heap [] 0 0 (MQ below (QI g h1 k r) args s 0 0 (inA g)) (F0 m 0 ls [])
  unfold fX2_isSheet at hf
  refine lv_iload_n hx hb dX2_isSheet_0 rfl (lv_at hl 1 rfl) ?_
  refine lv_if_lt (tgt := 16) hx hb dX2_isSheet_1 (by decide) (fun c1 => ?_) (fun c1 => ?_)
  · have hf2 := if_at_t c1 hf
    clear hf
    refine lv_iconst (v := 0) hx hb dX2_isSheet_16 (by decide) ?_
    obtain ⟨rfl, rfl⟩ := ret_inj hf2
    exact x_zret X hr hlocks rfl hP hS dX2_isSheet_17
  · have hf3 := if_at_f c1 hf
    clear hf
    refine lv_iload_n hx hb dX2_isSheet_4 rfl (lv_at hl 1 rfl) ?_
    refine lv_aload_n hx hb dX2_isSheet_5 rfl (lv_at hl 0 rfl) ?_
    refine gX2 X hP he 12 (v := .int (h e 12)) rfl (by decide) rfl wd_133 dX2_isSheet_6 ?_
    refine lv_icmp_ge (tgt := 16) hx hb dX2_isSheet_9 (by decide) (fun c4 => ?_) (fun c4 => ?_)
    · have hf5 := if_at_t c4 hf3
      clear hf3
      refine lv_iconst (v := 0) hx hb dX2_isSheet_16 (by decide) ?_
      obtain ⟨rfl, rfl⟩ := ret_inj hf5
      exact x_zret X hr hlocks rfl hP hS dX2_isSheet_17
    · have hf6 := if_at_f c4 hf3
      clear hf3
      refine lv_iconst (v := 1) hx hb dX2_isSheet_12 (by decide) ?_
      refine lv_goto (tgt := 17) hx hb dX2_isSheet_13 (by decide) ?_
      obtain ⟨rfl, rfl⟩ := ret_inj hf6
      exact x_zret X hr hlocks rfl hP hS dX2_isSheet_17
set_option maxRecDepth 100000 in
set_option maxHeartbeats 4000000 in
theorem tX6_let (l : Launch) {g : Gx} (hI : InjG g) {h k h1 : Hp} {a1 : Int32} {a2 : Int32} {a3 : Int32} {r : Int32}   (hf : fX6_let a1 a2 a3 h = some (r, h1)) : CI l yX6_let cX6_let 4 (some .int) 4 g [.ref (g.2.2 203), .int a1, .int a2, .int a3] h k h1 k r := by
  refine Met.ofW (cc := cX6_let) (maxL := 4) (ret := (some .int)) (by decide) rfl ?_
  intro p en s m args below meth c s₁ B hml hv
  obtain ⟨rfl, hSK, hSH, hP⟩ := hv
  have X : Cx p s m _ c cX6_let 4 RX6 g := ⟨B.exec, B.bytes, hml, findClass_of_methodNamed B.named, fun w hw => atoms_spec (ws := wsy yX6_let cX6_let 4 (some .int)) B.pre w (List.mem_cons_of_mem _ hw), hSK, hI, hSH⟩
  have hr := B.returns
  have hlocks := B.notSynchronized
  have hx := X.1
  have hb := X.2.1
  have hS : va_S (inA g) s.heap s.heap [] := va_S.rf
  clear hSK hSH hml B
  have hl := lv_entry ([.ref (g.2.2 203), .int a1, .int a2, .int a3]) (n := 4) (Nat.le_of_ble_eq_true rfl)
  rw [lg_entry_eq]
  generalize (lg_sl ([.ref (g.2.2 203), .int a1, .int a2, .int a3]) ++ List.replicate (4 - (lg_sl ([.ref (g.2.2 203), .int a1, .int a2, .int a3])).length) Slot.unset).toArray = ls at hl ⊢
  have hl : lv_has ls 4 [(0, .ref (g.2.2 203)), (1, .int a1), (2, .int a2), (3, .int a3)] := hl
  generalize ([.ref (g.2.2 203), .int a1, .int a2, .int a3] : List Value).toArray = args at X ⊢
  show W p l en (rmD 4) s m args below meth c s.heap [] 0 0 (MQ below (QI g h1 k r) args s 0 0 (inA g)) (F0 m 0 ls [])
  unfold fX6_let at hf
  refine lv_aload_n hx hb dX6_let_0 rfl (lv_at hl 0 rfl) ?_
  refine gX6 X hP 2 (v := .ref (g.2.2 0)) rfl (by decide) rfl wd_299 dX6_let_1 ?_
  refine lv_iload_n hx hb dX6_let_4 rfl (lv_at hl 1 rfl) ?_
  obtain ⟨x1, hh2, hg8, hf7⟩ := bd_some hf
  refine x_ci (x_runV (As := [.int a1]) (rest := []) X hP hS 0 (by decide) (cl_E (⟨rfl, by decide⟩ : isE 0)) rfl (tX2_isSheet l X.2.2.2.2.2.2.1 (⟨rfl, by decide⟩ : isE 0) hg8) mi_X6_175 rfl hl.1 rfl (Nat.le_of_ble_eq_true rfl) dX6_let_5 ⟨Nat.le_of_ble_eq_true rfl, Nat.le_of_ble_eq_true rfl⟩ ⟨Nat.zero_le _, Nat.zero_le _⟩) hS (fun H3 lc4 hP5 hS6 => ?_)
  clear hf hP hS hg8
  refine lv_if_eq (tgt := 32) hx hb dX6_let_8 (by decide) (fun c9 => ?_) (fun c9 => ?_)
  · have hf10 := if_at_t c9 hf7
    clear hf7
    refine lv_ldc (v := -1000001) hx hb X.2.2.2.1 (X.2.2.2.2.1 _ wd_335) dX6_let_32 ?_
    obtain ⟨rfl, rfl⟩ := ret_inj hf10
    exact x_iret X hr hlocks hP5 hS6 dX6_let_34
  · have hf11 := if_at_f c9 hf7
    clear hf7
    refine lv_aload_n hx hb dX6_let_11 rfl (lv_at hl 0 rfl) ?_
    refine gX6 X hP5 2 (v := .ref (g.2.2 0)) rfl (by decide) rfl wd_299 dX6_let_12 ?_
    refine lv_iload_n hx hb dX6_let_15 rfl (lv_at hl 2 rfl) ?_
    obtain ⟨x12, hh13, hg19, hf18⟩ := bd_some hf11
    refine x_ci (x_runV (As := [.int a2]) (rest := []) X hP5 hS6 0 (by decide) (cl_E (⟨rfl, by decide⟩ : isE 0)) rfl (tX2_isCell l X.2.2.2.2.2.2.1 (⟨rfl, by decide⟩ : isE 0) hg19) mi_X6_163 rfl hl.1 rfl (Nat.le_of_ble_eq_true rfl) dX6_let_16 ⟨Nat.le_of_ble_eq_true rfl, Nat.le_of_ble_eq_true rfl⟩ ⟨Nat.zero_le _, Nat.zero_le _⟩) hS6 (fun H14 lc15 hP16 hS17 => ?_)
    clear hf11 hP5 hS6 hg19
    refine lv_if_eq (tgt := 32) hx hb dX6_let_19 (by decide) (fun c20 => ?_) (fun c20 => ?_)
    · have hf21 := if_at_t c20 hf18
      clear hf18
      refine lv_ldc (v := -1000001) hx hb X.2.2.2.1 (X.2.2.2.2.1 _ wd_335) dX6_let_32 ?_
      obtain ⟨rfl, rfl⟩ := ret_inj hf21
      exact x_iret X hr hlocks hP16 hS17 dX6_let_34
    · have hf22 := if_at_f c20 hf18
      clear hf18
      refine lv_iload_n hx hb dX6_let_22 rfl (lv_at hl 3 rfl) ?_
      refine lv_iconst (v := 1) hx hb dX6_let_23 (by decide) ?_
      refine lv_bipush (v := 9) hx hb dX6_let_24 (by decide) ?_
      obtain ⟨x23, hh24, hg30, hf29⟩ := bd_some hf22
      refine x_ci (x_runS (As := [.int a3, .int (1 : Int32), .int (9 : Int32)]) (rest := []) X hP16 hS17 (tX6_isWithin l X.2.2.2.2.2.2.1  hg30) mi_X6_59 rfl hl.1 rfl (Nat.le_of_ble_eq_true rfl) dX6_let_26 ⟨Nat.le_of_ble_eq_true rfl, Nat.le_of_ble_eq_true rfl⟩ ⟨Nat.zero_le _, Nat.zero_le _⟩) hS17 (fun H25 lc26 hP27 hS28 => ?_)
      clear hf22 hP16 hS17 hg30
      refine lv_if_ne (tgt := 35) hx hb dX6_let_29 (by decide) (fun c31 => ?_) (fun c31 => ?_)
      · have hf32 := if_at_f c31 hf29
        clear hf29
        refine lv_aload_n hx hb dX6_let_35 rfl (lv_at hl 0 rfl) ?_
        refine gX6 X hP27 2 (v := .ref (g.2.2 0)) rfl (by decide) rfl wd_299 dX6_let_36 ?_
        refine lv_iload_n hx hb dX6_let_39 rfl (lv_at hl 1 rfl) ?_
        obtain ⟨x33, hh34, hg40, hf39⟩ := bd_some hf32
        refine x_ci (x_runV (As := [.int a1]) (rest := []) X hP27 hS28 0 (by decide) (cl_E (⟨rfl, by decide⟩ : isE 0)) rfl (tX2_isIn l X.2.2.2.2.2.2.1 (⟨rfl, by decide⟩ : isE 0) hg40) mi_X6_178 rfl hl.1 rfl (Nat.le_of_ble_eq_true rfl) dX6_let_40 ⟨Nat.le_of_ble_eq_true rfl, Nat.le_of_ble_eq_true rfl⟩ ⟨Nat.zero_le _, Nat.zero_le _⟩) hS28 (fun H35 lc36 hP37 hS38 => ?_)
        clear hf32 hP27 hS28 hg40
        refine lv_if_eq (tgt := 49) hx hb dX6_let_43 (by decide) (fun c41 => ?_) (fun c41 => ?_)
        · have hf42 := if_at_t c41 hf39
          clear hf39
          refine lv_aload_n hx hb dX6_let_49 rfl (lv_at hl 0 rfl) ?_
          refine gX6 X hP37 3 (v := .ref (g.2.2 207)) rfl (by decide) rfl wd_300 dX6_let_50 ?_
          refine lv_aload_n hx hb dX6_let_53 rfl (lv_at hl 0 rfl) ?_
          refine gX6 X hP37 2 (v := .ref (g.2.2 0)) rfl (by decide) rfl wd_299 dX6_let_54 ?_
          obtain ⟨⟨⟩, hh44, hg50, hf49⟩ := bd_some hf42
          refine x_cv (x_runV (As := [.ref (g.2.2 0)]) (rest := []) X hP37 hS38 207 (by decide) cl_Ac rfl (tX0_keep l X.2.2.2.2.2.2.1 (⟨rfl, by decide⟩ : isE 0) hg50) mi_X6_151 rfl hl.1 rfl (Nat.le_of_ble_eq_true rfl) dX6_let_57 ⟨Nat.le_of_ble_eq_true rfl, Nat.le_of_ble_eq_true rfl⟩ ⟨Nat.zero_le _, Nat.zero_le _⟩) hS38 (fun H45 lc46 hP47 hS48 => ?_)
          clear hf42 hP37 hS38 hg50
          refine lv_aload_n hx hb dX6_let_60 rfl (lv_at hl 0 rfl) ?_
          refine gX6 X hP47 2 (v := .ref (g.2.2 0)) rfl (by decide) rfl wd_299 dX6_let_61 ?_
          refine lv_iload_n hx hb dX6_let_64 rfl (lv_at hl 1 rfl) ?_
          refine lv_iload_n hx hb dX6_let_65 rfl (lv_at hl 2 rfl) ?_
          refine lv_iload_n hx hb dX6_let_66 rfl (lv_at hl 3 rfl) ?_
          obtain ⟨⟨⟩, hh52, hg58, hf57⟩ := bd_some hf49
          refine x_cv (x_runV (As := [.int a1, .int a2, .int a3]) (rest := []) X hP47 hS48 0 (by decide) (cl_E (⟨rfl, by decide⟩ : isE 0)) rfl (tX2_admit l X.2.2.2.2.2.2.1 (⟨rfl, by decide⟩ : isE 0) hg58) mi_X6_181 rfl hl.1 rfl (Nat.le_of_ble_eq_true rfl) dX6_let_67 ⟨Nat.le_of_ble_eq_true rfl, Nat.le_of_ble_eq_true rfl⟩ ⟨Nat.zero_le _, Nat.zero_le _⟩) hS48 (fun H53 lc54 hP55 hS56 => ?_)
          clear hf49 hP47 hS48 hg58
          refine lv_aload_n hx hb dX6_let_70 rfl (lv_at hl 0 rfl) ?_
          refine gX6 X hP55 2 (v := .ref (g.2.2 0)) rfl (by decide) rfl wd_299 dX6_let_71 ?_
          refine gX2 X hP55 (⟨rfl, by decide⟩ : isE 0) 14 (v := .int (hh52 0 14)) rfl (by decide) rfl wd_141 dX6_let_74 ?_
          obtain ⟨rfl, rfl⟩ := ret_inj hf57
          exact x_iret X hr hlocks hP55 hS56 dX6_let_77
        · have hf59 := if_at_f c41 hf39
          clear hf39
          refine lv_ldc (v := -1000002) hx hb X.2.2.2.1 (X.2.2.2.2.1 _ wd_470) dX6_let_46 ?_
          obtain ⟨rfl, rfl⟩ := ret_inj hf59
          exact x_iret X hr hlocks hP37 hS38 dX6_let_48
      · have hf60 := if_at_t c31 hf29
        clear hf29
        refine lv_ldc (v := -1000001) hx hb X.2.2.2.1 (X.2.2.2.2.1 _ wd_335) dX6_let_32 ?_
        obtain ⟨rfl, rfl⟩ := ret_inj hf60
        exact x_iret X hr hlocks hP27 hS28 dX6_let_34
set_option maxRecDepth 100000 in
set_option maxHeartbeats 4000000 in
theorem tX2_placeOf (l : Launch) {g : Gx} (hI : InjG g) {h k h1 : Hp} {e : Nat} {a1 : Int32} {r : Int32}  (he : isE e) (hf : fX2_placeOf e a1 h = some (r, h1)) : CI l yX2_placeOf cX2_placeOf 2 (some .int) 1 g [.ref (g.2.2 e), .int a1] h k h1 k r := by
  refine Met.ofW (cc := cX2_placeOf) (maxL := 2) (ret := (some .int)) (by decide) rfl ?_
  intro p en s m args below meth c s₁ B hml hv
  obtain ⟨rfl, hSK, hSH, hP⟩ := hv
  have X : Cx p s m _ c cX2_placeOf 2 RX2 g := ⟨B.exec, B.bytes, hml, findClass_of_methodNamed B.named, fun w hw => atoms_spec (ws := wsy yX2_placeOf cX2_placeOf 2 (some .int)) B.pre w (List.mem_cons_of_mem _ hw), hSK, hI, hSH⟩
  have hr := B.returns
  have hlocks := B.notSynchronized
  have hx := X.1
  have hb := X.2.1
  have hS : va_S (inA g) s.heap s.heap [] := va_S.rf
  clear hSK hSH hml B
  have hl := lv_entry ([.ref (g.2.2 e), .int a1]) (n := 2) (Nat.le_of_ble_eq_true rfl)
  rw [lg_entry_eq]
  generalize (lg_sl ([.ref (g.2.2 e), .int a1]) ++ List.replicate (2 - (lg_sl ([.ref (g.2.2 e), .int a1])).length) Slot.unset).toArray = ls at hl ⊢
  have hl : lv_has ls 2 [(0, .ref (g.2.2 e)), (1, .int a1)] := hl
  generalize ([.ref (g.2.2 e), .int a1] : List Value).toArray = args at X ⊢
  show W p l en (rmD 1) s m args below meth c s.heap [] 0 0 (MQ below (QI g h1 k r) args s 0 0 (inA g)) (F0 m 0 ls [])
  unfold fX2_placeOf at hf
  refine lv_aload_n hx hb dX2_placeOf_0 rfl (lv_at hl 0 rfl) ?_
  refine lv_iload_n hx hb dX2_placeOf_1 rfl (lv_at hl 1 rfl) ?_
  obtain ⟨x1, hh2, hg8, hf7⟩ := bd_some hf
  refine x_ci (x_runV (As := [.int a1]) (rest := []) X hP hS e (isE_lt he) (cl_E he) rfl (tX2_isIn l X.2.2.2.2.2.2.1 he hg8) mi_X2_85 rfl hl.1 rfl (Nat.le_of_ble_eq_true rfl) dX2_placeOf_2 ⟨Nat.le_of_ble_eq_true rfl, Nat.le_of_ble_eq_true rfl⟩ ⟨Nat.zero_le _, Nat.zero_le _⟩) hS (fun H3 lc4 hP5 hS6 => ?_)
  clear hf hP hS hg8
  refine lv_if_eq (tgt := 17) hx hb dX2_placeOf_5 (by decide) (fun c9 => ?_) (fun c9 => ?_)
  · have hf10 := if_at_t c9 hf7
    clear hf7
    refine lv_ldc (v := -1000000) hx hb X.2.2.2.1 (X.2.2.2.2.1 _ wd_565) dX2_placeOf_17 ?_
    obtain ⟨rfl, rfl⟩ := ret_inj hf10
    exact x_iret X hr hlocks hP5 hS6 dX2_placeOf_19
  · have hf11 := if_at_f c9 hf7
    clear hf7
    refine lv_aload_n hx hb dX2_placeOf_8 rfl (lv_at hl 0 rfl) ?_
    refine gX2 X hP5 he 2 (v := .ref (g.2.2 (e + 3))) rfl (by decide) rfl wd_100 dX2_placeOf_9 ?_
    refine lv_iload_n hx hb dX2_placeOf_12 rfl (lv_at hl 1 rfl) ?_
    obtain ⟨hc12, hf13⟩ := chk_some hf11
    refine x_ildC X hP5 (e + 3) (ia_E3 he) hc12 dX2_placeOf_13 ?_
    refine lv_goto (tgt := 19) hx hb dX2_placeOf_14 (by decide) ?_
    obtain ⟨rfl, rfl⟩ := ret_inj hf13
    exact x_iret X hr hlocks hP5 hS6 dX2_placeOf_19
set_option maxRecDepth 100000 in
set_option maxHeartbeats 4000000 in
theorem tX2_thicknessOf (l : Launch) {g : Gx} (hI : InjG g) {h k h1 : Hp} {e : Nat} {a1 : Int32} {r : Int32}  (he : isE e) (hf : fX2_thicknessOf e a1 h = some (r, h1)) : CI l yX2_thicknessOf cX2_thicknessOf 2 (some .int) 1 g [.ref (g.2.2 e), .int a1] h k h1 k r := by
  refine Met.ofW (cc := cX2_thicknessOf) (maxL := 2) (ret := (some .int)) (by decide) rfl ?_
  intro p en s m args below meth c s₁ B hml hv
  obtain ⟨rfl, hSK, hSH, hP⟩ := hv
  have X : Cx p s m _ c cX2_thicknessOf 2 RX2 g := ⟨B.exec, B.bytes, hml, findClass_of_methodNamed B.named, fun w hw => atoms_spec (ws := wsy yX2_thicknessOf cX2_thicknessOf 2 (some .int)) B.pre w (List.mem_cons_of_mem _ hw), hSK, hI, hSH⟩
  have hr := B.returns
  have hlocks := B.notSynchronized
  have hx := X.1
  have hb := X.2.1
  have hS : va_S (inA g) s.heap s.heap [] := va_S.rf
  clear hSK hSH hml B
  have hl := lv_entry ([.ref (g.2.2 e), .int a1]) (n := 2) (Nat.le_of_ble_eq_true rfl)
  rw [lg_entry_eq]
  generalize (lg_sl ([.ref (g.2.2 e), .int a1]) ++ List.replicate (2 - (lg_sl ([.ref (g.2.2 e), .int a1])).length) Slot.unset).toArray = ls at hl ⊢
  have hl : lv_has ls 2 [(0, .ref (g.2.2 e)), (1, .int a1)] := hl
  generalize ([.ref (g.2.2 e), .int a1] : List Value).toArray = args at X ⊢
  show W p l en (rmD 1) s m args below meth c s.heap [] 0 0 (MQ below (QI g h1 k r) args s 0 0 (inA g)) (F0 m 0 ls [])
  unfold fX2_thicknessOf at hf
  refine lv_aload_n hx hb dX2_thicknessOf_0 rfl (lv_at hl 0 rfl) ?_
  refine lv_iload_n hx hb dX2_thicknessOf_1 rfl (lv_at hl 1 rfl) ?_
  obtain ⟨x1, hh2, hg8, hf7⟩ := bd_some hf
  refine x_ci (x_runV (As := [.int a1]) (rest := []) X hP hS e (isE_lt he) (cl_E he) rfl (tX2_isIn l X.2.2.2.2.2.2.1 he hg8) mi_X2_85 rfl hl.1 rfl (Nat.le_of_ble_eq_true rfl) dX2_thicknessOf_2 ⟨Nat.le_of_ble_eq_true rfl, Nat.le_of_ble_eq_true rfl⟩ ⟨Nat.zero_le _, Nat.zero_le _⟩) hS (fun H3 lc4 hP5 hS6 => ?_)
  clear hf hP hS hg8
  refine lv_if_eq (tgt := 17) hx hb dX2_thicknessOf_5 (by decide) (fun c9 => ?_) (fun c9 => ?_)
  · have hf10 := if_at_t c9 hf7
    clear hf7
    refine lv_iconst (v := 0) hx hb dX2_thicknessOf_17 (by decide) ?_
    obtain ⟨rfl, rfl⟩ := ret_inj hf10
    exact x_iret X hr hlocks hP5 hS6 dX2_thicknessOf_18
  · have hf11 := if_at_f c9 hf7
    clear hf7
    refine lv_aload_n hx hb dX2_thicknessOf_8 rfl (lv_at hl 0 rfl) ?_
    refine gX2 X hP5 he 4 (v := .ref (g.2.2 (e + 5))) rfl (by decide) rfl wd_105 dX2_thicknessOf_9 ?_
    refine lv_iload_n hx hb dX2_thicknessOf_12 rfl (lv_at hl 1 rfl) ?_
    obtain ⟨hc12, hf13⟩ := chk_some hf11
    refine x_ildC X hP5 (e + 5) (ia_E5 he) hc12 dX2_thicknessOf_13 ?_
    refine lv_goto (tgt := 18) hx hb dX2_thicknessOf_14 (by decide) ?_
    obtain ⟨rfl, rfl⟩ := ret_inj hf13
    exact x_iret X hr hlocks hP5 hS6 dX2_thicknessOf_18
set_option maxRecDepth 100000 in
set_option maxHeartbeats 4000000 in
theorem wX2_cellsUnder_L4 {p : Program} {l : Launch} {en : Env} {s : State} {m : MethodId} {args : Array Value} {below : List Frame} {meth : Method} {c : Code} {g : Gx} (X : Cx p s m args c cX2_cellsUnder 4 RX2 g) (hr : meth.sig.returnType = (some .int)) (hlocks : meth.locks = false) {k h1 : Hp} {r : Int32} {v0 : Nat} {v1 : Int32} (hv0 : isE v0) 
     :
    ∀ (n : Nat) (v2 : Int32) (v3 : Int32) (h : Hp) (H : Heap) (locs : List Loc) (ls : Array Slot), fX2_cellsUnder_L4 n v0 v1 v2 v3 h = some (r, h1) → va_P g.1 vwCl (WW g h k) H → va_S (inA g) s.heap H locs → lv_has ls 4 [(0, .ref (g.2.2 v0)), (1, .int v1), (2, .int v2), (3, .int v3)] → W p l en (rmD 2) s m args below meth c H locs 0 0 (MQ below (QI g h1 k r) args s 0 0 (inA g)) (F0 m 4 ls []) := by
  have hx := X.1
  have hb := X.2.1
  intro n
  induction n with
  | zero => intro v2 v3 h H locs ls  hf; simp only [fX2_cellsUnder_L4, reduceCtorEq] at hf
  | succ n ih =>
    intro v2 v3 h H locs ls  hf hP hS hl
    rw [fX2_cellsUnder_L4] at hf
    refine lv_iload_n hx hb dX2_cellsUnder_4 rfl (lv_at hl 3 rfl) ?_
    refine lv_aload_n hx hb dX2_cellsUnder_5 rfl (lv_at hl 0 rfl) ?_
    refine gX2 X hP hv0 7 (v := .int (h v0 7)) rfl (by decide) rfl wd_114 dX2_cellsUnder_6 ?_
    refine lv_icmp_ge (tgt := 37) hx hb dX2_cellsUnder_9 (by decide) (fun c5 => ?_) (fun c5 => ?_)
    · have hf6 := if_at_t c5 hf
      clear hf
      refine lv_iload_n hx hb dX2_cellsUnder_37 rfl (lv_at hl 2 rfl) ?_
      obtain ⟨rfl, rfl⟩ := ret_inj hf6
      exact x_iret X hr hlocks hP hS dX2_cellsUnder_38
    · have hf7 := if_at_f c5 hf
      clear hf
      refine lv_iload_n hx hb dX2_cellsUnder_12 rfl (lv_at hl 2 rfl) ?_
      refine lv_aload_n hx hb dX2_cellsUnder_13 rfl (lv_at hl 0 rfl) ?_
      refine lv_iload_n hx hb dX2_cellsUnder_14 rfl (lv_at hl 1 rfl) ?_
      refine lv_iload_n hx hb dX2_cellsUnder_15 rfl (lv_at hl 3 rfl) ?_
      obtain ⟨x8, hh9, hg15, hf14⟩ := bd_some hf7
      refine x_ci (x_runV (As := [.int v1, .int v3]) (rest := [.int v2]) X hP hS v0 (isE_lt hv0) (cl_E hv0) rfl (tX2_liesOn l X.2.2.2.2.2.2.1 hv0 hg15) mi_X2_113 rfl hl.1 rfl (Nat.le_of_ble_eq_true rfl) dX2_cellsUnder_16 ⟨Nat.le_of_ble_eq_true rfl, Nat.le_of_ble_eq_true rfl⟩ ⟨Nat.zero_le _, Nat.zero_le _⟩) hS (fun H10 lc11 hP12 hS13 => ?_)
      clear hf7 hP hS hg15
      obtain ⟨J29_16, eJ29_16, hf33⟩ := jp_at hf14
      clear hf14
      have hJ29_16 : ∀ (J29_16s0 : Int32) (hh17 : Hp) (H18 : Heap) (lc19 : List Loc) (ls20 : Array Slot), J29_16 J29_16s0 hh17 = some (r, h1) → va_P g.1 vwCl (WW g hh17 k) H18 → va_S (inA g) s.heap H18 lc19 → lv_has ls20 4 [(0, .ref (g.2.2 v0)), (1, .int v1), (3, .int v3)] → W p l en (rmD 2) s m args below meth c H18 lc19 0 0 (MQ below (QI g h1 k r) args s 0 0 (inA g)) (F0 m 29 ls20 [.int J29_16s0, .int v2]) := by
        intro J29_16s0 hh17 H18 lc19 ls20 hf24 hP21 hS22 hl23
        clear hf33 hP12 hS13 hl
        subst eJ29_16
        refine lv_ior hx hb dX2_cellsUnder_29 ?_
        refine lv_topi (fun x25 ex25 => ?_)
        have hf26 := lk_at ex25 hf24
        clear hf24
        refine lv_istore_n (lv' := [(2, .int x25), (0, .ref (g.2.2 v0)), (1, .int v1), (3, .int v3)]) hx hb dX2_cellsUnder_30 rfl hl23 (by decide) rfl (fun ls27 hl28 => ?_)
        clear hl23
        obtain ⟨x29, ex29⟩ : ∃ q : Int32, q = v3 + (1 : Int32) := ⟨_, rfl⟩
        have hf30 := lk_at ex29 hf26
        clear hf26
        refine lv_iinc (v := x29) (lv' := [(3, .int x29), (2, .int x25), (0, .ref (g.2.2 v0)), (1, .int v1)]) hx hb dX2_cellsUnder_31 hl28 (k := 3) rfl (by rw [ex29]; rfl) (by decide) rfl (fun ls31 hl32 => ?_)
        clear hl28
        refine lv_goto (tgt := 4) hx hb dX2_cellsUnder_34 (by decide) ?_
        exact ih x25 x29 hh17  _ _ _ hf30 hP21 hS22 (lv_sub hl32 [2, 3, 1, 0] rfl)
      clear eJ29_16
      refine lv_if_eq (tgt := 28) hx hb dX2_cellsUnder_19 (by decide) (fun c34 => ?_) (fun c34 => ?_)
      · have hf35 := if_at_t c34 hf33
        clear hf33
        refine lv_iconst (v := 0) hx hb dX2_cellsUnder_28 (by decide) ?_
        exact hJ29_16 (0 : Int32) hh9  _ _ _ hf35 hP12 hS13 (lv_sub hl [0, 1, 3] rfl)
      · have hf36 := if_at_f c34 hf33
        clear hf33
        refine lv_iconst (v := 1) hx hb dX2_cellsUnder_22 (by decide) ?_
        refine lv_iload_n hx hb dX2_cellsUnder_23 rfl (lv_at hl 3 rfl) ?_
        refine x_ishl X dX2_cellsUnder_24 ?_
        refine lv_goto (tgt := 29) hx hb dX2_cellsUnder_25 (by decide) ?_
        exact hJ29_16 (shlI (1 : Int32) v3) hh9  _ _ _ hf36 hP12 hS13 (lv_sub hl [0, 1, 3] rfl)
set_option maxRecDepth 100000 in
set_option maxHeartbeats 4000000 in
theorem tX2_cellsUnder (l : Launch) {g : Gx} (hI : InjG g) {h k h1 : Hp} {e : Nat} {a1 : Int32} {r : Int32}  (he : isE e) (hf : fX2_cellsUnder e a1 h = some (r, h1)) : CI l yX2_cellsUnder cX2_cellsUnder 4 (some .int) 2 g [.ref (g.2.2 e), .int a1] h k h1 k r := by
  refine Met.ofW (cc := cX2_cellsUnder) (maxL := 4) (ret := (some .int)) (by decide) rfl ?_
  intro p en s m args below meth c s₁ B hml hv
  obtain ⟨rfl, hSK, hSH, hP⟩ := hv
  have X : Cx p s m _ c cX2_cellsUnder 4 RX2 g := ⟨B.exec, B.bytes, hml, findClass_of_methodNamed B.named, fun w hw => atoms_spec (ws := wsy yX2_cellsUnder cX2_cellsUnder 4 (some .int)) B.pre w (List.mem_cons_of_mem _ hw), hSK, hI, hSH⟩
  have hr := B.returns
  have hlocks := B.notSynchronized
  have hx := X.1
  have hb := X.2.1
  have hS : va_S (inA g) s.heap s.heap [] := va_S.rf
  clear hSK hSH hml B
  have hl := lv_entry ([.ref (g.2.2 e), .int a1]) (n := 4) (Nat.le_of_ble_eq_true rfl)
  rw [lg_entry_eq]
  generalize (lg_sl ([.ref (g.2.2 e), .int a1]) ++ List.replicate (4 - (lg_sl ([.ref (g.2.2 e), .int a1])).length) Slot.unset).toArray = ls at hl ⊢
  have hl : lv_has ls 4 [(0, .ref (g.2.2 e)), (1, .int a1)] := hl
  generalize ([.ref (g.2.2 e), .int a1] : List Value).toArray = args at X ⊢
  show W p l en (rmD 2) s m args below meth c s.heap [] 0 0 (MQ below (QI g h1 k r) args s 0 0 (inA g)) (F0 m 0 ls [])
  unfold fX2_cellsUnder at hf
  refine lv_iconst (v := 0) hx hb dX2_cellsUnder_0 (by decide) ?_
  refine lv_istore_n (lv' := [(2, .int (0 : Int32)), (0, .ref (g.2.2 e)), (1, .int a1)]) hx hb dX2_cellsUnder_1 rfl hl (by decide) rfl (fun ls1 hl2 => ?_)
  clear hl
  refine lv_iconst (v := 0) hx hb dX2_cellsUnder_2 (by decide) ?_
  refine lv_istore_n (lv' := [(3, .int (0 : Int32)), (2, .int (0 : Int32)), (0, .ref (g.2.2 e)), (1, .int a1)]) hx hb dX2_cellsUnder_3 rfl hl2 (by decide) rfl (fun ls3 hl4 => ?_)
  clear hl2
  refine wX2_cellsUnder_L4 X hr hlocks he  4096 (0 : Int32) (0 : Int32) h _ _ _  hf hP hS (lv_sub hl4 [2, 3, 1, 0] rfl)
set_option maxRecDepth 100000 in
set_option maxHeartbeats 4000000 in
theorem tX6_sheet (l : Launch) {g : Gx} (hI : InjG g) {h k h1 : Hp} {a1 : Int32} {a2 : Int32} {r : Int32}   (hf : fX6_sheet a1 a2 h = some (r, h1)) : CI l yX6_sheet cX6_sheet 3 (some .int) 3 g [.ref (g.2.2 203), .int a1, .int a2] h k h1 k r := by
  refine Met.ofW (cc := cX6_sheet) (maxL := 3) (ret := (some .int)) (by decide) rfl ?_
  intro p en s m args below meth c s₁ B hml hv
  obtain ⟨rfl, hSK, hSH, hP⟩ := hv
  have X : Cx p s m _ c cX6_sheet 3 RX6 g := ⟨B.exec, B.bytes, hml, findClass_of_methodNamed B.named, fun w hw => atoms_spec (ws := wsy yX6_sheet cX6_sheet 3 (some .int)) B.pre w (List.mem_cons_of_mem _ hw), hSK, hI, hSH⟩
  have hr := B.returns
  have hlocks := B.notSynchronized
  have hx := X.1
  have hb := X.2.1
  have hS : va_S (inA g) s.heap s.heap [] := va_S.rf
  clear hSK hSH hml B
  have hl := lv_entry ([.ref (g.2.2 203), .int a1, .int a2]) (n := 3) (Nat.le_of_ble_eq_true rfl)
  rw [lg_entry_eq]
  generalize (lg_sl ([.ref (g.2.2 203), .int a1, .int a2]) ++ List.replicate (3 - (lg_sl ([.ref (g.2.2 203), .int a1, .int a2])).length) Slot.unset).toArray = ls at hl ⊢
  have hl : lv_has ls 3 [(0, .ref (g.2.2 203)), (1, .int a1), (2, .int a2)] := hl
  generalize ([.ref (g.2.2 203), .int a1, .int a2] : List Value).toArray = args at X ⊢
  show W p l en (rmD 3) s m args below meth c s.heap [] 0 0 (MQ below (QI g h1 k r) args s 0 0 (inA g)) (F0 m 0 ls [])
  unfold fX6_sheet at hf
  refine lv_aload_n hx hb dX6_sheet_0 rfl (lv_at hl 0 rfl) ?_
  refine gX6 X hP 2 (v := .ref (g.2.2 0)) rfl (by decide) rfl wd_299 dX6_sheet_1 ?_
  refine lv_iload_n hx hb dX6_sheet_4 rfl (lv_at hl 1 rfl) ?_
  obtain ⟨x1, hh2, hg8, hf7⟩ := bd_some hf
  refine x_ci (x_runV (As := [.int a1]) (rest := []) X hP hS 0 (by decide) (cl_E (⟨rfl, by decide⟩ : isE 0)) rfl (tX2_isSheet l X.2.2.2.2.2.2.1 (⟨rfl, by decide⟩ : isE 0) hg8) mi_X6_175 rfl hl.1 rfl (Nat.le_of_ble_eq_true rfl) dX6_sheet_5 ⟨Nat.le_of_ble_eq_true rfl, Nat.le_of_ble_eq_true rfl⟩ ⟨Nat.zero_le _, Nat.zero_le _⟩) hS (fun H3 lc4 hP5 hS6 => ?_)
  clear hf hP hS hg8
  refine lv_if_ne (tgt := 14) hx hb dX6_sheet_8 (by decide) (fun c9 => ?_) (fun c9 => ?_)
  · have hf10 := if_at_f c9 hf7
    clear hf7
    refine lv_iload_n hx hb dX6_sheet_14 rfl (lv_at hl 2 rfl) ?_
    by_cases c11 : a2 = (0 : Int32)
    · have hf12 := if_at_t c11 hf10
      clear hf10
      refine lv_tableIn (tgt := 48) hx hb dX6_sheet_15 (by rw [c11]; decide) (by rw [c11]; decide) (by rw [c11]; rfl) (by decide) ?_
      refine lv_aload_n hx hb dX6_sheet_48 rfl (lv_at hl 0 rfl) ?_
      refine gX6 X hP5 2 (v := .ref (g.2.2 0)) rfl (by decide) rfl wd_299 dX6_sheet_49 ?_
      refine lv_iload_n hx hb dX6_sheet_52 rfl (lv_at hl 1 rfl) ?_
      obtain ⟨x14, hh15, hg21, hf20⟩ := bd_some hf12
      refine x_ci (x_runV (As := [.int a1]) (rest := []) X hP5 hS6 0 (by decide) (cl_E (⟨rfl, by decide⟩ : isE 0)) rfl (tX2_placeOf l X.2.2.2.2.2.2.1 (⟨rfl, by decide⟩ : isE 0) hg21) mi_X6_188 rfl hl.1 rfl (Nat.le_of_ble_eq_true rfl) dX6_sheet_53 ⟨Nat.le_of_ble_eq_true rfl, Nat.le_of_ble_eq_true rfl⟩ ⟨Nat.zero_le _, Nat.zero_le _⟩) hS6 (fun H16 lc17 hP18 hS19 => ?_)
      clear hf12 hP5 hS6 hg21
      obtain ⟨rfl, rfl⟩ := ret_inj hf20
      exact x_iret X hr hlocks hP18 hS19 dX6_sheet_56
    · have hf13 := if_at_f c11 hf10
      clear hf10
      by_cases c22 : a2 = (1 : Int32)
      · have hf23 := if_at_t c22 hf13
        clear hf13
        refine lv_tableIn (tgt := 57) hx hb dX6_sheet_15 (by rw [c22]; decide) (by rw [c22]; decide) (by rw [c22]; rfl) (by decide) ?_
        refine lv_aload_n hx hb dX6_sheet_57 rfl (lv_at hl 0 rfl) ?_
        refine gX6 X hP5 2 (v := .ref (g.2.2 0)) rfl (by decide) rfl wd_299 dX6_sheet_58 ?_
        refine gX2 X hP5 (⟨rfl, by decide⟩ : isE 0) 3 (v := .ref (g.2.2 4)) rfl (by decide) rfl wd_104 dX6_sheet_61 ?_
        refine lv_iload_n hx hb dX6_sheet_64 rfl (lv_at hl 1 rfl) ?_
        obtain ⟨hc25, hf26⟩ := chk_some hf23
        refine x_ildC X hP5 4 rfl hc25 dX6_sheet_65 ?_
        obtain ⟨rfl, rfl⟩ := ret_inj hf26
        exact x_iret X hr hlocks hP5 hS6 dX6_sheet_66
      · have hf24 := if_at_f c22 hf13
        clear hf13
        by_cases c27 : a2 = (2 : Int32)
        · have hf28 := if_at_t c27 hf24
          clear hf24
          refine lv_tableIn (tgt := 67) hx hb dX6_sheet_15 (by rw [c27]; decide) (by rw [c27]; decide) (by rw [c27]; rfl) (by decide) ?_
          refine lv_aload_n hx hb dX6_sheet_67 rfl (lv_at hl 0 rfl) ?_
          refine gX6 X hP5 2 (v := .ref (g.2.2 0)) rfl (by decide) rfl wd_299 dX6_sheet_68 ?_
          refine lv_iload_n hx hb dX6_sheet_71 rfl (lv_at hl 1 rfl) ?_
          obtain ⟨x30, hh31, hg37, hf36⟩ := bd_some hf28
          refine x_ci (x_runV (As := [.int a1]) (rest := []) X hP5 hS6 0 (by decide) (cl_E (⟨rfl, by decide⟩ : isE 0)) rfl (tX2_thicknessOf l X.2.2.2.2.2.2.1 (⟨rfl, by decide⟩ : isE 0) hg37) mi_X6_194 rfl hl.1 rfl (Nat.le_of_ble_eq_true rfl) dX6_sheet_72 ⟨Nat.le_of_ble_eq_true rfl, Nat.le_of_ble_eq_true rfl⟩ ⟨Nat.zero_le _, Nat.zero_le _⟩) hS6 (fun H32 lc33 hP34 hS35 => ?_)
          clear hf28 hP5 hS6 hg37
          obtain ⟨rfl, rfl⟩ := ret_inj hf36
          exact x_iret X hr hlocks hP34 hS35 dX6_sheet_75
        · have hf29 := if_at_f c27 hf24
          clear hf24
          by_cases c38 : a2 = (3 : Int32)
          · have hf39 := if_at_t c38 hf29
            clear hf29
            refine lv_tableIn (tgt := 76) hx hb dX6_sheet_15 (by rw [c38]; decide) (by rw [c38]; decide) (by rw [c38]; rfl) (by decide) ?_
            refine lv_aload_n hx hb dX6_sheet_76 rfl (lv_at hl 0 rfl) ?_
            refine gX6 X hP5 2 (v := .ref (g.2.2 0)) rfl (by decide) rfl wd_299 dX6_sheet_77 ?_
            refine gX2 X hP5 (⟨rfl, by decide⟩ : isE 0) 5 (v := .ref (g.2.2 6)) rfl (by decide) rfl wd_110 dX6_sheet_80 ?_
            refine lv_iload_n hx hb dX6_sheet_83 rfl (lv_at hl 1 rfl) ?_
            obtain ⟨hc41, hf42⟩ := chk_some hf39
            refine x_ildC X hP5 6 rfl hc41 dX6_sheet_84 ?_
            obtain ⟨rfl, rfl⟩ := ret_inj hf42
            exact x_iret X hr hlocks hP5 hS6 dX6_sheet_85
          · have hf40 := if_at_f c38 hf29
            clear hf29
            by_cases c43 : a2 = (4 : Int32)
            · have hf44 := if_at_t c43 hf40
              clear hf40
              refine lv_tableIn (tgt := 86) hx hb dX6_sheet_15 (by rw [c43]; decide) (by rw [c43]; decide) (by rw [c43]; rfl) (by decide) ?_
              refine lv_aload_n hx hb dX6_sheet_86 rfl (lv_at hl 0 rfl) ?_
              refine gX6 X hP5 2 (v := .ref (g.2.2 0)) rfl (by decide) rfl wd_299 dX6_sheet_87 ?_
              refine lv_iload_n hx hb dX6_sheet_90 rfl (lv_at hl 1 rfl) ?_
              obtain ⟨x46, hh47, hg53, hf52⟩ := bd_some hf44
              refine x_ci (x_runV (As := [.int a1]) (rest := []) X hP5 hS6 0 (by decide) (cl_E (⟨rfl, by decide⟩ : isE 0)) rfl (tX2_cellsUnder l X.2.2.2.2.2.2.1 (⟨rfl, by decide⟩ : isE 0) hg53) mi_X6_200 rfl hl.1 rfl (Nat.le_of_ble_eq_true rfl) dX6_sheet_91 ⟨Nat.le_of_ble_eq_true rfl, Nat.le_of_ble_eq_true rfl⟩ ⟨Nat.zero_le _, Nat.zero_le _⟩) hS6 (fun H48 lc49 hP50 hS51 => ?_)
              clear hf44 hP5 hS6 hg53
              obtain ⟨rfl, rfl⟩ := ret_inj hf52
              exact x_iret X hr hlocks hP50 hS51 dX6_sheet_94
            · have hf45 := if_at_f c43 hf40
              clear hf40
              have q0 := sw_ne (j := 0) rfl c11
              have q1 := sw_ne (j := 1) rfl c22
              have q2 := sw_ne (j := 2) rfl c27
              have q3 := sw_ne (j := 3) rfl c38
              have q4 := sw_ne (j := 4) rfl c43
              refine lv_tableOut (tgt := 95) hx hb dX6_sheet_15 (by omega) (by decide) ?_
              clear q0 q1 q2 q3 q4
              refine lv_ldc (v := -1000001) hx hb X.2.2.2.1 (X.2.2.2.2.1 _ wd_335) dX6_sheet_95 ?_
              obtain ⟨rfl, rfl⟩ := ret_inj hf45
              exact x_iret X hr hlocks hP5 hS6 dX6_sheet_97
  · have hf54 := if_at_t c9 hf7
    clear hf7
    refine lv_ldc (v := -1000001) hx hb X.2.2.2.1 (X.2.2.2.2.1 _ wd_335) dX6_sheet_11 ?_
    obtain ⟨rfl, rfl⟩ := ret_inj hf54
    exact x_iret X hr hlocks hP5 hS6 dX6_sheet_13
set_option maxRecDepth 100000 in
set_option maxHeartbeats 4000000 in
theorem wX2_thicknessOver_L4 {p : Program} {l : Launch} {en : Env} {s : State} {m : MethodId} {args : Array Value} {below : List Frame} {meth : Method} {c : Code} {g : Gx} (X : Cx p s m args c cX2_thicknessOver 4 RX2 g) (hr : meth.sig.returnType = (some .int)) (hlocks : meth.locks = false) {k h1 : Hp} {r : Int32} {v0 : Nat} {v1 : Int32} (hv0 : isE v0) 
     :
    ∀ (n : Nat) (v2 : Int32) (v3 : Int32) (h : Hp) (H : Heap) (locs : List Loc) (ls : Array Slot), fX2_thicknessOver_L4 n v0 v1 v2 v3 h = some (r, h1) → va_P g.1 vwCl (WW g h k) H → va_S (inA g) s.heap H locs → lv_has ls 4 [(0, .ref (g.2.2 v0)), (1, .int v1), (2, .int v2), (3, .int v3)] → W p l en (rmD 2) s m args below meth c H locs 0 0 (MQ below (QI g h1 k r) args s 0 0 (inA g)) (F0 m 4 ls []) := by
  have hx := X.1
  have hb := X.2.1
  intro n
  induction n with
  | zero => intro v2 v3 h H locs ls  hf; simp only [fX2_thicknessOver_L4, reduceCtorEq] at hf
  | succ n ih =>
    intro v2 v3 h H locs ls  hf hP hS hl
    rw [fX2_thicknessOver_L4] at hf
    refine lv_iload_n hx hb dX2_thicknessOver_4 rfl (lv_at hl 3 rfl) ?_
    refine lv_aload_n hx hb dX2_thicknessOver_5 rfl (lv_at hl 0 rfl) ?_
    refine gX2 X hP hv0 12 (v := .int (h v0 12)) rfl (by decide) rfl wd_133 dX2_thicknessOver_6 ?_
    refine lv_icmp_ge (tgt := 40) hx hb dX2_thicknessOver_9 (by decide) (fun c5 => ?_) (fun c5 => ?_)
    · have hf6 := if_at_t c5 hf
      clear hf
      refine lv_iload_n hx hb dX2_thicknessOver_40 rfl (lv_at hl 2 rfl) ?_
      obtain ⟨rfl, rfl⟩ := ret_inj hf6
      exact x_iret X hr hlocks hP hS dX2_thicknessOver_41
    · have hf7 := if_at_f c5 hf
      clear hf
      refine lv_iload_n hx hb dX2_thicknessOver_12 rfl (lv_at hl 2 rfl) ?_
      refine lv_aload_n hx hb dX2_thicknessOver_13 rfl (lv_at hl 0 rfl) ?_
      refine lv_iload_n hx hb dX2_thicknessOver_14 rfl (lv_at hl 3 rfl) ?_
      refine lv_iload_n hx hb dX2_thicknessOver_15 rfl (lv_at hl 1 rfl) ?_
      obtain ⟨x8, hh9, hg15, hf14⟩ := bd_some hf7
      refine x_ci (x_runV (As := [.int v3, .int v1]) (rest := [.int v2]) X hP hS v0 (isE_lt hv0) (cl_E hv0) rfl (tX2_liesOn l X.2.2.2.2.2.2.1 hv0 hg15) mi_X2_113 rfl hl.1 rfl (Nat.le_of_ble_eq_true rfl) dX2_thicknessOver_16 ⟨Nat.le_of_ble_eq_true rfl, Nat.le_of_ble_eq_true rfl⟩ ⟨Nat.zero_le _, Nat.zero_le _⟩) hS (fun H10 lc11 hP12 hS13 => ?_)
      clear hf7 hP hS hg15
      obtain ⟨J32_16, eJ32_16, hf33⟩ := jp_at hf14
      clear hf14
      have hJ32_16 : ∀ (J32_16s0 : Int32) (hh17 : Hp) (H18 : Heap) (lc19 : List Loc) (ls20 : Array Slot), J32_16 J32_16s0 hh17 = some (r, h1) → va_P g.1 vwCl (WW g hh17 k) H18 → va_S (inA g) s.heap H18 lc19 → lv_has ls20 4 [(0, .ref (g.2.2 v0)), (1, .int v1), (3, .int v3)] → W p l en (rmD 2) s m args below meth c H18 lc19 0 0 (MQ below (QI g h1 k r) args s 0 0 (inA g)) (F0 m 32 ls20 [.int J32_16s0, .int v2]) := by
        intro J32_16s0 hh17 H18 lc19 ls20 hf24 hP21 hS22 hl23
        clear hf33 hP12 hS13 hl
        subst eJ32_16
        refine lv_iadd hx hb dX2_thicknessOver_32 ?_
        refine lv_topi (fun x25 ex25 => ?_)
        have hf26 := lk_at ex25 hf24
        clear hf24
        refine lv_istore_n (lv' := [(2, .int x25), (0, .ref (g.2.2 v0)), (1, .int v1), (3, .int v3)]) hx hb dX2_thicknessOver_33 rfl hl23 (by decide) rfl (fun ls27 hl28 => ?_)
        clear hl23
        obtain ⟨x29, ex29⟩ : ∃ q : Int32, q = v3 + (1 : Int32) := ⟨_, rfl⟩
        have hf30 := lk_at ex29 hf26
        clear hf26
        refine lv_iinc (v := x29) (lv' := [(3, .int x29), (2, .int x25), (0, .ref (g.2.2 v0)), (1, .int v1)]) hx hb dX2_thicknessOver_34 hl28 (k := 3) rfl (by rw [ex29]; rfl) (by decide) rfl (fun ls31 hl32 => ?_)
        clear hl28
        refine lv_goto (tgt := 4) hx hb dX2_thicknessOver_37 (by decide) ?_
        exact ih x25 x29 hh17  _ _ _ hf30 hP21 hS22 (lv_sub hl32 [2, 3, 1, 0] rfl)
      clear eJ32_16
      refine lv_if_eq (tgt := 31) hx hb dX2_thicknessOver_19 (by decide) (fun c34 => ?_) (fun c34 => ?_)
      · have hf35 := if_at_t c34 hf33
        clear hf33
        refine lv_iconst (v := 0) hx hb dX2_thicknessOver_31 (by decide) ?_
        exact hJ32_16 (0 : Int32) hh9  _ _ _ hf35 hP12 hS13 (lv_sub hl [0, 1, 3] rfl)
      · have hf36 := if_at_f c34 hf33
        clear hf33
        refine lv_aload_n hx hb dX2_thicknessOver_22 rfl (lv_at hl 0 rfl) ?_
        refine gX2 X hP12 hv0 4 (v := .ref (g.2.2 (v0 + 5))) rfl (by decide) rfl wd_105 dX2_thicknessOver_23 ?_
        refine lv_iload_n hx hb dX2_thicknessOver_26 rfl (lv_at hl 3 rfl) ?_
        obtain ⟨hc37, hf38⟩ := chk_some hf36
        refine x_ildC X hP12 (v0 + 5) (ia_E5 hv0) hc37 dX2_thicknessOver_27 ?_
        refine lv_goto (tgt := 32) hx hb dX2_thicknessOver_28 (by decide) ?_
        exact hJ32_16 (hh9 (v0 + 5) v3.toNatClampNeg) hh9  _ _ _ hf38 hP12 hS13 (lv_sub hl [0, 1, 3] rfl)
set_option maxRecDepth 100000 in
set_option maxHeartbeats 4000000 in
theorem tX2_thicknessOver (l : Launch) {g : Gx} (hI : InjG g) {h k h1 : Hp} {e : Nat} {a1 : Int32} {r : Int32}  (he : isE e) (hf : fX2_thicknessOver e a1 h = some (r, h1)) : CI l yX2_thicknessOver cX2_thicknessOver 4 (some .int) 2 g [.ref (g.2.2 e), .int a1] h k h1 k r := by
  refine Met.ofW (cc := cX2_thicknessOver) (maxL := 4) (ret := (some .int)) (by decide) rfl ?_
  intro p en s m args below meth c s₁ B hml hv
  obtain ⟨rfl, hSK, hSH, hP⟩ := hv
  have X : Cx p s m _ c cX2_thicknessOver 4 RX2 g := ⟨B.exec, B.bytes, hml, findClass_of_methodNamed B.named, fun w hw => atoms_spec (ws := wsy yX2_thicknessOver cX2_thicknessOver 4 (some .int)) B.pre w (List.mem_cons_of_mem _ hw), hSK, hI, hSH⟩
  have hr := B.returns
  have hlocks := B.notSynchronized
  have hx := X.1
  have hb := X.2.1
  have hS : va_S (inA g) s.heap s.heap [] := va_S.rf
  clear hSK hSH hml B
  have hl := lv_entry ([.ref (g.2.2 e), .int a1]) (n := 4) (Nat.le_of_ble_eq_true rfl)
  rw [lg_entry_eq]
  generalize (lg_sl ([.ref (g.2.2 e), .int a1]) ++ List.replicate (4 - (lg_sl ([.ref (g.2.2 e), .int a1])).length) Slot.unset).toArray = ls at hl ⊢
  have hl : lv_has ls 4 [(0, .ref (g.2.2 e)), (1, .int a1)] := hl
  generalize ([.ref (g.2.2 e), .int a1] : List Value).toArray = args at X ⊢
  show W p l en (rmD 2) s m args below meth c s.heap [] 0 0 (MQ below (QI g h1 k r) args s 0 0 (inA g)) (F0 m 0 ls [])
  unfold fX2_thicknessOver at hf
  refine lv_iconst (v := 0) hx hb dX2_thicknessOver_0 (by decide) ?_
  refine lv_istore_n (lv' := [(2, .int (0 : Int32)), (0, .ref (g.2.2 e)), (1, .int a1)]) hx hb dX2_thicknessOver_1 rfl hl (by decide) rfl (fun ls1 hl2 => ?_)
  clear hl
  refine lv_iconst (v := 0) hx hb dX2_thicknessOver_2 (by decide) ?_
  refine lv_istore_n (lv' := [(3, .int (0 : Int32)), (2, .int (0 : Int32)), (0, .ref (g.2.2 e)), (1, .int a1)]) hx hb dX2_thicknessOver_3 rfl hl2 (by decide) rfl (fun ls3 hl4 => ?_)
  clear hl2
  refine wX2_thicknessOver_L4 X hr hlocks he  4096 (0 : Int32) (0 : Int32) h _ _ _  hf hP hS (lv_sub hl4 [2, 3, 1, 0] rfl)
set_option maxRecDepth 100000 in
set_option maxHeartbeats 4000000 in
theorem wX2_sheetsOn_L4 {p : Program} {l : Launch} {en : Env} {s : State} {m : MethodId} {args : Array Value} {below : List Frame} {meth : Method} {c : Code} {g : Gx} (X : Cx p s m args c cX2_sheetsOn 4 RX2 g) (hr : meth.sig.returnType = (some .int)) (hlocks : meth.locks = false) {k h1 : Hp} {r : Int32} {v0 : Nat} {v1 : Int32} (hv0 : isE v0) 
     :
    ∀ (n : Nat) (v2 : Int32) (v3 : Int32) (h : Hp) (H : Heap) (locs : List Loc) (ls : Array Slot), fX2_sheetsOn_L4 n v0 v1 v2 v3 h = some (r, h1) → va_P g.1 vwCl (WW g h k) H → va_S (inA g) s.heap H locs → lv_has ls 4 [(0, .ref (g.2.2 v0)), (1, .int v1), (2, .int v2), (3, .int v3)] → W p l en (rmD 2) s m args below meth c H locs 0 0 (MQ below (QI g h1 k r) args s 0 0 (inA g)) (F0 m 4 ls []) := by
  have hx := X.1
  have hb := X.2.1
  intro n
  induction n with
  | zero => intro v2 v3 h H locs ls  hf; simp only [fX2_sheetsOn_L4, reduceCtorEq] at hf
  | succ n ih =>
    intro v2 v3 h H locs ls  hf hP hS hl
    rw [fX2_sheetsOn_L4] at hf
    refine lv_iload_n hx hb dX2_sheetsOn_4 rfl (lv_at hl 3 rfl) ?_
    refine lv_aload_n hx hb dX2_sheetsOn_5 rfl (lv_at hl 0 rfl) ?_
    refine gX2 X hP hv0 12 (v := .int (h v0 12)) rfl (by decide) rfl wd_133 dX2_sheetsOn_6 ?_
    refine lv_icmp_ge (tgt := 37) hx hb dX2_sheetsOn_9 (by decide) (fun c5 => ?_) (fun c5 => ?_)
    · have hf6 := if_at_t c5 hf
      clear hf
      refine lv_iload_n hx hb dX2_sheetsOn_37 rfl (lv_at hl 2 rfl) ?_
      obtain ⟨rfl, rfl⟩ := ret_inj hf6
      exact x_iret X hr hlocks hP hS dX2_sheetsOn_38
    · have hf7 := if_at_f c5 hf
      clear hf
      refine lv_iload_n hx hb dX2_sheetsOn_12 rfl (lv_at hl 2 rfl) ?_
      refine lv_aload_n hx hb dX2_sheetsOn_13 rfl (lv_at hl 0 rfl) ?_
      refine lv_iload_n hx hb dX2_sheetsOn_14 rfl (lv_at hl 3 rfl) ?_
      refine lv_iload_n hx hb dX2_sheetsOn_15 rfl (lv_at hl 1 rfl) ?_
      obtain ⟨x8, hh9, hg15, hf14⟩ := bd_some hf7
      refine x_ci (x_runV (As := [.int v3, .int v1]) (rest := [.int v2]) X hP hS v0 (isE_lt hv0) (cl_E hv0) rfl (tX2_liesOn l X.2.2.2.2.2.2.1 hv0 hg15) mi_X2_113 rfl hl.1 rfl (Nat.le_of_ble_eq_true rfl) dX2_sheetsOn_16 ⟨Nat.le_of_ble_eq_true rfl, Nat.le_of_ble_eq_true rfl⟩ ⟨Nat.zero_le _, Nat.zero_le _⟩) hS (fun H10 lc11 hP12 hS13 => ?_)
      clear hf7 hP hS hg15
      obtain ⟨J29_16, eJ29_16, hf33⟩ := jp_at hf14
      clear hf14
      have hJ29_16 : ∀ (J29_16s0 : Int32) (hh17 : Hp) (H18 : Heap) (lc19 : List Loc) (ls20 : Array Slot), J29_16 J29_16s0 hh17 = some (r, h1) → va_P g.1 vwCl (WW g hh17 k) H18 → va_S (inA g) s.heap H18 lc19 → lv_has ls20 4 [(0, .ref (g.2.2 v0)), (1, .int v1), (3, .int v3)] → W p l en (rmD 2) s m args below meth c H18 lc19 0 0 (MQ below (QI g h1 k r) args s 0 0 (inA g)) (F0 m 29 ls20 [.int J29_16s0, .int v2]) := by
        intro J29_16s0 hh17 H18 lc19 ls20 hf24 hP21 hS22 hl23
        clear hf33 hP12 hS13 hl
        subst eJ29_16
        refine lv_ior hx hb dX2_sheetsOn_29 ?_
        refine lv_topi (fun x25 ex25 => ?_)
        have hf26 := lk_at ex25 hf24
        clear hf24
        refine lv_istore_n (lv' := [(2, .int x25), (0, .ref (g.2.2 v0)), (1, .int v1), (3, .int v3)]) hx hb dX2_sheetsOn_30 rfl hl23 (by decide) rfl (fun ls27 hl28 => ?_)
        clear hl23
        obtain ⟨x29, ex29⟩ : ∃ q : Int32, q = v3 + (1 : Int32) := ⟨_, rfl⟩
        have hf30 := lk_at ex29 hf26
        clear hf26
        refine lv_iinc (v := x29) (lv' := [(3, .int x29), (2, .int x25), (0, .ref (g.2.2 v0)), (1, .int v1)]) hx hb dX2_sheetsOn_31 hl28 (k := 3) rfl (by rw [ex29]; rfl) (by decide) rfl (fun ls31 hl32 => ?_)
        clear hl28
        refine lv_goto (tgt := 4) hx hb dX2_sheetsOn_34 (by decide) ?_
        exact ih x25 x29 hh17  _ _ _ hf30 hP21 hS22 (lv_sub hl32 [2, 3, 1, 0] rfl)
      clear eJ29_16
      refine lv_if_eq (tgt := 28) hx hb dX2_sheetsOn_19 (by decide) (fun c34 => ?_) (fun c34 => ?_)
      · have hf35 := if_at_t c34 hf33
        clear hf33
        refine lv_iconst (v := 0) hx hb dX2_sheetsOn_28 (by decide) ?_
        exact hJ29_16 (0 : Int32) hh9  _ _ _ hf35 hP12 hS13 (lv_sub hl [0, 1, 3] rfl)
      · have hf36 := if_at_f c34 hf33
        clear hf33
        refine lv_iconst (v := 1) hx hb dX2_sheetsOn_22 (by decide) ?_
        refine lv_iload_n hx hb dX2_sheetsOn_23 rfl (lv_at hl 3 rfl) ?_
        refine x_ishl X dX2_sheetsOn_24 ?_
        refine lv_goto (tgt := 29) hx hb dX2_sheetsOn_25 (by decide) ?_
        exact hJ29_16 (shlI (1 : Int32) v3) hh9  _ _ _ hf36 hP12 hS13 (lv_sub hl [0, 1, 3] rfl)
set_option maxRecDepth 100000 in
set_option maxHeartbeats 4000000 in
theorem tX2_sheetsOn (l : Launch) {g : Gx} (hI : InjG g) {h k h1 : Hp} {e : Nat} {a1 : Int32} {r : Int32}  (he : isE e) (hf : fX2_sheetsOn e a1 h = some (r, h1)) : CI l yX2_sheetsOn cX2_sheetsOn 4 (some .int) 2 g [.ref (g.2.2 e), .int a1] h k h1 k r := by
  refine Met.ofW (cc := cX2_sheetsOn) (maxL := 4) (ret := (some .int)) (by decide) rfl ?_
  intro p en s m args below meth c s₁ B hml hv
  obtain ⟨rfl, hSK, hSH, hP⟩ := hv
  have X : Cx p s m _ c cX2_sheetsOn 4 RX2 g := ⟨B.exec, B.bytes, hml, findClass_of_methodNamed B.named, fun w hw => atoms_spec (ws := wsy yX2_sheetsOn cX2_sheetsOn 4 (some .int)) B.pre w (List.mem_cons_of_mem _ hw), hSK, hI, hSH⟩
  have hr := B.returns
  have hlocks := B.notSynchronized
  have hx := X.1
  have hb := X.2.1
  have hS : va_S (inA g) s.heap s.heap [] := va_S.rf
  clear hSK hSH hml B
  have hl := lv_entry ([.ref (g.2.2 e), .int a1]) (n := 4) (Nat.le_of_ble_eq_true rfl)
  rw [lg_entry_eq]
  generalize (lg_sl ([.ref (g.2.2 e), .int a1]) ++ List.replicate (4 - (lg_sl ([.ref (g.2.2 e), .int a1])).length) Slot.unset).toArray = ls at hl ⊢
  have hl : lv_has ls 4 [(0, .ref (g.2.2 e)), (1, .int a1)] := hl
  generalize ([.ref (g.2.2 e), .int a1] : List Value).toArray = args at X ⊢
  show W p l en (rmD 2) s m args below meth c s.heap [] 0 0 (MQ below (QI g h1 k r) args s 0 0 (inA g)) (F0 m 0 ls [])
  unfold fX2_sheetsOn at hf
  refine lv_iconst (v := 0) hx hb dX2_sheetsOn_0 (by decide) ?_
  refine lv_istore_n (lv' := [(2, .int (0 : Int32)), (0, .ref (g.2.2 e)), (1, .int a1)]) hx hb dX2_sheetsOn_1 rfl hl (by decide) rfl (fun ls1 hl2 => ?_)
  clear hl
  refine lv_iconst (v := 0) hx hb dX2_sheetsOn_2 (by decide) ?_
  refine lv_istore_n (lv' := [(3, .int (0 : Int32)), (2, .int (0 : Int32)), (0, .ref (g.2.2 e)), (1, .int a1)]) hx hb dX2_sheetsOn_3 rfl hl2 (by decide) rfl (fun ls3 hl4 => ?_)
  clear hl2
  refine wX2_sheetsOn_L4 X hr hlocks he  4096 (0 : Int32) (0 : Int32) h _ _ _  hf hP hS (lv_sub hl4 [2, 3, 1, 0] rfl)
set_option maxRecDepth 100000 in
set_option maxHeartbeats 4000000 in
theorem tX6_cell (l : Launch) {g : Gx} (hI : InjG g) {h k h1 : Hp} {a1 : Int32} {a2 : Int32} {r : Int32}   (hf : fX6_cell a1 a2 h = some (r, h1)) : CI l yX6_cell cX6_cell 3 (some .int) 3 g [.ref (g.2.2 203), .int a1, .int a2] h k h1 k r := by
  refine Met.ofW (cc := cX6_cell) (maxL := 3) (ret := (some .int)) (by decide) rfl ?_
  intro p en s m args below meth c s₁ B hml hv
  obtain ⟨rfl, hSK, hSH, hP⟩ := hv
  have X : Cx p s m _ c cX6_cell 3 RX6 g := ⟨B.exec, B.bytes, hml, findClass_of_methodNamed B.named, fun w hw => atoms_spec (ws := wsy yX6_cell cX6_cell 3 (some .int)) B.pre w (List.mem_cons_of_mem _ hw), hSK, hI, hSH⟩
  have hr := B.returns
  have hlocks := B.notSynchronized
  have hx := X.1
  have hb := X.2.1
  have hS : va_S (inA g) s.heap s.heap [] := va_S.rf
  clear hSK hSH hml B
  have hl := lv_entry ([.ref (g.2.2 203), .int a1, .int a2]) (n := 3) (Nat.le_of_ble_eq_true rfl)
  rw [lg_entry_eq]
  generalize (lg_sl ([.ref (g.2.2 203), .int a1, .int a2]) ++ List.replicate (3 - (lg_sl ([.ref (g.2.2 203), .int a1, .int a2])).length) Slot.unset).toArray = ls at hl ⊢
  have hl : lv_has ls 3 [(0, .ref (g.2.2 203)), (1, .int a1), (2, .int a2)] := hl
  generalize ([.ref (g.2.2 203), .int a1, .int a2] : List Value).toArray = args at X ⊢
  show W p l en (rmD 3) s m args below meth c s.heap [] 0 0 (MQ below (QI g h1 k r) args s 0 0 (inA g)) (F0 m 0 ls [])
  unfold fX6_cell at hf
  refine lv_aload_n hx hb dX6_cell_0 rfl (lv_at hl 0 rfl) ?_
  refine gX6 X hP 2 (v := .ref (g.2.2 0)) rfl (by decide) rfl wd_299 dX6_cell_1 ?_
  refine lv_iload_n hx hb dX6_cell_4 rfl (lv_at hl 1 rfl) ?_
  obtain ⟨x1, hh2, hg8, hf7⟩ := bd_some hf
  refine x_ci (x_runV (As := [.int a1]) (rest := []) X hP hS 0 (by decide) (cl_E (⟨rfl, by decide⟩ : isE 0)) rfl (tX2_isCell l X.2.2.2.2.2.2.1 (⟨rfl, by decide⟩ : isE 0) hg8) mi_X6_163 rfl hl.1 rfl (Nat.le_of_ble_eq_true rfl) dX6_cell_5 ⟨Nat.le_of_ble_eq_true rfl, Nat.le_of_ble_eq_true rfl⟩ ⟨Nat.zero_le _, Nat.zero_le _⟩) hS (fun H3 lc4 hP5 hS6 => ?_)
  clear hf hP hS hg8
  refine lv_if_ne (tgt := 14) hx hb dX6_cell_8 (by decide) (fun c9 => ?_) (fun c9 => ?_)
  · have hf10 := if_at_f c9 hf7
    clear hf7
    refine lv_iload_n hx hb dX6_cell_14 rfl (lv_at hl 2 rfl) ?_
    by_cases c11 : a2 = (0 : Int32)
    · have hf12 := if_at_t c11 hf10
      clear hf10
      refine lv_tableIn (tgt := 40) hx hb dX6_cell_15 (by rw [c11]; decide) (by rw [c11]; decide) (by rw [c11]; rfl) (by decide) ?_
      refine lv_aload_n hx hb dX6_cell_40 rfl (lv_at hl 0 rfl) ?_
      refine gX6 X hP5 2 (v := .ref (g.2.2 0)) rfl (by decide) rfl wd_299 dX6_cell_41 ?_
      refine lv_iload_n hx hb dX6_cell_44 rfl (lv_at hl 1 rfl) ?_
      obtain ⟨x14, hh15, hg21, hf20⟩ := bd_some hf12
      refine x_ci (x_runV (As := [.int a1]) (rest := []) X hP5 hS6 0 (by decide) (cl_E (⟨rfl, by decide⟩ : isE 0)) rfl (tX2_thicknessOver l X.2.2.2.2.2.2.1 (⟨rfl, by decide⟩ : isE 0) hg21) mi_X6_203 rfl hl.1 rfl (Nat.le_of_ble_eq_true rfl) dX6_cell_45 ⟨Nat.le_of_ble_eq_true rfl, Nat.le_of_ble_eq_true rfl⟩ ⟨Nat.zero_le _, Nat.zero_le _⟩) hS6 (fun H16 lc17 hP18 hS19 => ?_)
      clear hf12 hP5 hS6 hg21
      obtain ⟨rfl, rfl⟩ := ret_inj hf20
      exact x_iret X hr hlocks hP18 hS19 dX6_cell_48
    · have hf13 := if_at_f c11 hf10
      clear hf10
      by_cases c22 : a2 = (1 : Int32)
      · have hf23 := if_at_t c22 hf13
        clear hf13
        refine lv_tableIn (tgt := 49) hx hb dX6_cell_15 (by rw [c22]; decide) (by rw [c22]; decide) (by rw [c22]; rfl) (by decide) ?_
        refine lv_aload_n hx hb dX6_cell_49 rfl (lv_at hl 0 rfl) ?_
        refine gX6 X hP5 2 (v := .ref (g.2.2 0)) rfl (by decide) rfl wd_299 dX6_cell_50 ?_
        refine lv_iload_n hx hb dX6_cell_53 rfl (lv_at hl 1 rfl) ?_
        obtain ⟨x25, hh26, hg32, hf31⟩ := bd_some hf23
        refine x_ci (x_runV (As := [.int a1]) (rest := []) X hP5 hS6 0 (by decide) (cl_E (⟨rfl, by decide⟩ : isE 0)) rfl (tX2_sheetsOn l X.2.2.2.2.2.2.1 (⟨rfl, by decide⟩ : isE 0) hg32) mi_X6_206 rfl hl.1 rfl (Nat.le_of_ble_eq_true rfl) dX6_cell_54 ⟨Nat.le_of_ble_eq_true rfl, Nat.le_of_ble_eq_true rfl⟩ ⟨Nat.zero_le _, Nat.zero_le _⟩) hS6 (fun H27 lc28 hP29 hS30 => ?_)
        clear hf23 hP5 hS6 hg32
        obtain ⟨rfl, rfl⟩ := ret_inj hf31
        exact x_iret X hr hlocks hP29 hS30 dX6_cell_57
      · have hf24 := if_at_f c22 hf13
        clear hf13
        by_cases c33 : a2 = (2 : Int32)
        · have hf34 := if_at_t c33 hf24
          clear hf24
          refine lv_tableIn (tgt := 58) hx hb dX6_cell_15 (by rw [c33]; decide) (by rw [c33]; decide) (by rw [c33]; rfl) (by decide) ?_
          refine lv_aload_n hx hb dX6_cell_58 rfl (lv_at hl 0 rfl) ?_
          refine gX6 X hP5 2 (v := .ref (g.2.2 0)) rfl (by decide) rfl wd_299 dX6_cell_59 ?_
          refine gX2 X hP5 (⟨rfl, by decide⟩ : isE 0) 9 (v := .int (hh2 0 9)) rfl (by decide) rfl wd_125 dX6_cell_62 ?_
          refine lv_iload_n hx hb dX6_cell_65 rfl (lv_at hl 1 rfl) ?_
          refine lv_icmp_ne (tgt := 73) hx hb dX6_cell_66 (by decide) (fun c36 => ?_) (fun c36 => ?_)
          · have hf37 := if_at_f c36 hf34
            clear hf34
            refine lv_iconst (v := 0) hx hb dX6_cell_73 (by decide) ?_
            obtain ⟨rfl, rfl⟩ := ret_inj hf37
            exact x_iret X hr hlocks hP5 hS6 dX6_cell_74
          · have hf38 := if_at_t c36 hf34
            clear hf34
            refine lv_iconst (v := 1) hx hb dX6_cell_69 (by decide) ?_
            refine lv_goto (tgt := 74) hx hb dX6_cell_70 (by decide) ?_
            obtain ⟨rfl, rfl⟩ := ret_inj hf38
            exact x_iret X hr hlocks hP5 hS6 dX6_cell_74
        · have hf35 := if_at_f c33 hf24
          clear hf24
          have q0 := sw_ne (j := 0) rfl c11
          have q1 := sw_ne (j := 1) rfl c22
          have q2 := sw_ne (j := 2) rfl c33
          refine lv_tableOut (tgt := 75) hx hb dX6_cell_15 (by omega) (by decide) ?_
          clear q0 q1 q2
          refine lv_ldc (v := -1000001) hx hb X.2.2.2.1 (X.2.2.2.2.1 _ wd_335) dX6_cell_75 ?_
          obtain ⟨rfl, rfl⟩ := ret_inj hf35
          exact x_iret X hr hlocks hP5 hS6 dX6_cell_77
  · have hf39 := if_at_t c9 hf7
    clear hf7
    refine lv_ldc (v := -1000001) hx hb X.2.2.2.1 (X.2.2.2.2.1 _ wd_335) dX6_cell_11 ?_
    obtain ⟨rfl, rfl⟩ := ret_inj hf39
    exact x_iret X hr hlocks hP5 hS6 dX6_cell_13
set_option maxRecDepth 100000 in
set_option maxHeartbeats 4000000 in
theorem wX2_withNumber_L4 {p : Program} {l : Launch} {en : Env} {s : State} {m : MethodId} {args : Array Value} {below : List Frame} {meth : Method} {c : Code} {g : Gx} (X : Cx p s m args c cX2_withNumber 3 RX2 g) (hr : meth.sig.returnType = (some .int)) (hlocks : meth.locks = false) {k h1 : Hp} {r : Int32} {v0 : Nat} (hv0 : isE v0) 
     :
    ∀ (n : Nat) (v1 : Int32) (v2 : Int32) (h : Hp) (H : Heap) (locs : List Loc) (ls : Array Slot), fX2_withNumber_L4 n v0 v1 v2 h = some (r, h1) → va_P g.1 vwCl (WW g h k) H → va_S (inA g) s.heap H locs → lv_has ls 3 [(0, .ref (g.2.2 v0)), (1, .int v1), (2, .int v2)] → W p l en (rmD 0) s m args below meth c H locs 0 0 (MQ below (QI g h1 k r) args s 0 0 (inA g)) (F0 m 4 ls []) := by
  have hx := X.1
  have hb := X.2.1
  intro n
  induction n with
  | zero => intro v1 v2 h H locs ls  hf; simp only [fX2_withNumber_L4, reduceCtorEq] at hf
  | succ n ih =>
    intro v1 v2 h H locs ls  hf hP hS hl
    rw [fX2_withNumber_L4] at hf
    refine lv_iload_n hx hb dX2_withNumber_4 rfl (lv_at hl 2 rfl) ?_
    refine lv_aload_n hx hb dX2_withNumber_5 rfl (lv_at hl 0 rfl) ?_
    refine gX2 X hP hv0 12 (v := .int (h v0 12)) rfl (by decide) rfl wd_133 dX2_withNumber_6 ?_
    refine lv_icmp_ge (tgt := 37) hx hb dX2_withNumber_9 (by decide) (fun c5 => ?_) (fun c5 => ?_)
    · have hf6 := if_at_t c5 hf
      clear hf
      refine lv_iload_n hx hb dX2_withNumber_37 rfl (lv_at hl 1 rfl) ?_
      obtain ⟨rfl, rfl⟩ := ret_inj hf6
      exact x_iret X hr hlocks hP hS dX2_withNumber_38
    · have hf7 := if_at_f c5 hf
      clear hf
      refine lv_iload_n hx hb dX2_withNumber_12 rfl (lv_at hl 1 rfl) ?_
      refine lv_aload_n hx hb dX2_withNumber_13 rfl (lv_at hl 0 rfl) ?_
      refine gX2 X hP hv0 5 (v := .ref (g.2.2 (v0 + 6))) rfl (by decide) rfl wd_108 dX2_withNumber_14 ?_
      refine lv_iload_n hx hb dX2_withNumber_17 rfl (lv_at hl 2 rfl) ?_
      obtain ⟨hc8, hf9⟩ := chk_some hf7
      refine x_ildC X hP (v0 + 6) (ia_E6 hv0) hc8 dX2_withNumber_18 ?_
      obtain ⟨J29_10, eJ29_10, hf27⟩ := jp_at hf9
      clear hf9
      have hJ29_10 : ∀ (J29_10s0 : Int32) (hh11 : Hp) (H12 : Heap) (lc13 : List Loc) (ls14 : Array Slot), J29_10 J29_10s0 hh11 = some (r, h1) → va_P g.1 vwCl (WW g hh11 k) H12 → va_S (inA g) s.heap H12 lc13 → lv_has ls14 3 [(0, .ref (g.2.2 v0)), (2, .int v2)] → W p l en (rmD 0) s m args below meth c H12 lc13 0 0 (MQ below (QI g h1 k r) args s 0 0 (inA g)) (F0 m 29 ls14 [.int J29_10s0, .int v1]) := by
        intro J29_10s0 hh11 H12 lc13 ls14 hf18 hP15 hS16 hl17
        clear hf27 hP hS hl
        subst eJ29_10
        refine lv_ior hx hb dX2_withNumber_29 ?_
        refine lv_topi (fun x19 ex19 => ?_)
        have hf20 := lk_at ex19 hf18
        clear hf18
        refine lv_istore_n (lv' := [(1, .int x19), (0, .ref (g.2.2 v0)), (2, .int v2)]) hx hb dX2_withNumber_30 rfl hl17 (by decide) rfl (fun ls21 hl22 => ?_)
        clear hl17
        obtain ⟨x23, ex23⟩ : ∃ q : Int32, q = v2 + (1 : Int32) := ⟨_, rfl⟩
        have hf24 := lk_at ex23 hf20
        clear hf20
        refine lv_iinc (v := x23) (lv' := [(2, .int x23), (1, .int x19), (0, .ref (g.2.2 v0))]) hx hb dX2_withNumber_31 hl22 (k := 2) rfl (by rw [ex23]; rfl) (by decide) rfl (fun ls25 hl26 => ?_)
        clear hl22
        refine lv_goto (tgt := 4) hx hb dX2_withNumber_34 (by decide) ?_
        exact ih x19 x23 hh11  _ _ _ hf24 hP15 hS16 (lv_sub hl26 [2, 1, 0] rfl)
      clear eJ29_10
      refine lv_if_eq (tgt := 28) hx hb dX2_withNumber_19 (by decide) (fun c28 => ?_) (fun c28 => ?_)
      · have hf29 := if_at_t c28 hf27
        clear hf27
        refine lv_iconst (v := 0) hx hb dX2_withNumber_28 (by decide) ?_
        exact hJ29_10 (0 : Int32) h  _ _ _ hf29 hP hS (lv_sub hl [0, 2] rfl)
      · have hf30 := if_at_f c28 hf27
        clear hf27
        refine lv_iconst (v := 1) hx hb dX2_withNumber_22 (by decide) ?_
        refine lv_iload_n hx hb dX2_withNumber_23 rfl (lv_at hl 2 rfl) ?_
        refine x_ishl X dX2_withNumber_24 ?_
        refine lv_goto (tgt := 29) hx hb dX2_withNumber_25 (by decide) ?_
        exact hJ29_10 (shlI (1 : Int32) v2) h  _ _ _ hf30 hP hS (lv_sub hl [0, 2] rfl)
set_option maxRecDepth 100000 in
set_option maxHeartbeats 4000000 in
theorem tX2_withNumber (l : Launch) {g : Gx} (hI : InjG g) {h k h1 : Hp} {e : Nat} {r : Int32}  (he : isE e) (hf : fX2_withNumber e h = some (r, h1)) : CI l yX2_withNumber cX2_withNumber 3 (some .int) 0 g [.ref (g.2.2 e)] h k h1 k r := by
  refine Met.ofW (cc := cX2_withNumber) (maxL := 3) (ret := (some .int)) (by decide) rfl ?_
  intro p en s m args below meth c s₁ B hml hv
  obtain ⟨rfl, hSK, hSH, hP⟩ := hv
  have X : Cx p s m _ c cX2_withNumber 3 RX2 g := ⟨B.exec, B.bytes, hml, findClass_of_methodNamed B.named, fun w hw => atoms_spec (ws := wsy yX2_withNumber cX2_withNumber 3 (some .int)) B.pre w (List.mem_cons_of_mem _ hw), hSK, hI, hSH⟩
  have hr := B.returns
  have hlocks := B.notSynchronized
  have hx := X.1
  have hb := X.2.1
  have hS : va_S (inA g) s.heap s.heap [] := va_S.rf
  clear hSK hSH hml B
  have hl := lv_entry ([.ref (g.2.2 e)]) (n := 3) (Nat.le_of_ble_eq_true rfl)
  rw [lg_entry_eq]
  generalize (lg_sl ([.ref (g.2.2 e)]) ++ List.replicate (3 - (lg_sl ([.ref (g.2.2 e)])).length) Slot.unset).toArray = ls at hl ⊢
  have hl : lv_has ls 3 [(0, .ref (g.2.2 e))] := hl
  generalize ([.ref (g.2.2 e)] : List Value).toArray = args at X ⊢
  show W p l en (rmD 0) s m args below meth c s.heap [] 0 0 (MQ below (QI g h1 k r) args s 0 0 (inA g)) (F0 m 0 ls [])
  unfold fX2_withNumber at hf
  refine lv_iconst (v := 0) hx hb dX2_withNumber_0 (by decide) ?_
  refine lv_istore_n (lv' := [(1, .int (0 : Int32)), (0, .ref (g.2.2 e))]) hx hb dX2_withNumber_1 rfl hl (by decide) rfl (fun ls1 hl2 => ?_)
  clear hl
  refine lv_iconst (v := 0) hx hb dX2_withNumber_2 (by decide) ?_
  refine lv_istore_n (lv' := [(2, .int (0 : Int32)), (1, .int (0 : Int32)), (0, .ref (g.2.2 e))]) hx hb dX2_withNumber_3 rfl hl2 (by decide) rfl (fun ls3 hl4 => ?_)
  clear hl2
  refine wX2_withNumber_L4 X hr hlocks he  4096 (0 : Int32) (0 : Int32) h _ _ _  hf hP hS (lv_sub hl4 [2, 1, 0] rfl)
set_option maxRecDepth 100000 in
set_option maxHeartbeats 4000000 in
theorem tX6_stand (l : Launch) {g : Gx} (hI : InjG g) {h k h1 : Hp} {a1 : Int32} {r : Int32}   (hf : fX6_stand a1 h = some (r, h1)) : CI l yX6_stand cX6_stand 2 (some .int) 2 g [.ref (g.2.2 203), .int a1] h k h1 k r := by
  refine Met.ofW (cc := cX6_stand) (maxL := 2) (ret := (some .int)) (by decide) rfl ?_
  intro p en s m args below meth c s₁ B hml hv
  obtain ⟨rfl, hSK, hSH, hP⟩ := hv
  have X : Cx p s m _ c cX6_stand 2 RX6 g := ⟨B.exec, B.bytes, hml, findClass_of_methodNamed B.named, fun w hw => atoms_spec (ws := wsy yX6_stand cX6_stand 2 (some .int)) B.pre w (List.mem_cons_of_mem _ hw), hSK, hI, hSH⟩
  have hr := B.returns
  have hlocks := B.notSynchronized
  have hx := X.1
  have hb := X.2.1
  have hS : va_S (inA g) s.heap s.heap [] := va_S.rf
  clear hSK hSH hml B
  have hl := lv_entry ([.ref (g.2.2 203), .int a1]) (n := 2) (Nat.le_of_ble_eq_true rfl)
  rw [lg_entry_eq]
  generalize (lg_sl ([.ref (g.2.2 203), .int a1]) ++ List.replicate (2 - (lg_sl ([.ref (g.2.2 203), .int a1])).length) Slot.unset).toArray = ls at hl ⊢
  have hl : lv_has ls 2 [(0, .ref (g.2.2 203)), (1, .int a1)] := hl
  generalize ([.ref (g.2.2 203), .int a1] : List Value).toArray = args at X ⊢
  show W p l en (rmD 2) s m args below meth c s.heap [] 0 0 (MQ below (QI g h1 k r) args s 0 0 (inA g)) (F0 m 0 ls [])
  unfold fX6_stand at hf
  refine lv_aload_n hx hb dX6_stand_0 rfl (lv_at hl 0 rfl) ?_
  refine gX6 X hP 2 (v := .ref (g.2.2 0)) rfl (by decide) rfl wd_299 dX6_stand_1 ?_
  refine gX2 X hP (⟨rfl, by decide⟩ : isE 0) 6 (v := .int (h 0 6)) rfl (by decide) rfl wd_113 dX6_stand_4 ?_
  refine lv_if_ne (tgt := 13) hx hb dX6_stand_7 (by decide) (fun c1 => ?_) (fun c1 => ?_)
  · have hf2 := if_at_f c1 hf
    clear hf
    refine lv_iload_n hx hb dX6_stand_13 rfl (lv_at hl 1 rfl) ?_
    by_cases c3 : a1 = (0 : Int32)
    · have hf4 := if_at_t c3 hf2
      clear hf2
      refine lv_tableIn (tgt := 60) hx hb dX6_stand_14 (by rw [c3]; decide) (by rw [c3]; decide) (by rw [c3]; rfl) (by decide) ?_
      refine lv_aload_n hx hb dX6_stand_60 rfl (lv_at hl 0 rfl) ?_
      refine gX6 X hP 2 (v := .ref (g.2.2 0)) rfl (by decide) rfl wd_299 dX6_stand_61 ?_
      refine gX2 X hP (⟨rfl, by decide⟩ : isE 0) 7 (v := .int (h 0 7)) rfl (by decide) rfl wd_117 dX6_stand_64 ?_
      obtain ⟨rfl, rfl⟩ := ret_inj hf4
      exact x_iret X hr hlocks hP hS dX6_stand_67
    · have hf5 := if_at_f c3 hf2
      clear hf2
      by_cases c6 : a1 = (1 : Int32)
      · have hf7 := if_at_t c6 hf5
        clear hf5
        refine lv_tableIn (tgt := 68) hx hb dX6_stand_14 (by rw [c6]; decide) (by rw [c6]; decide) (by rw [c6]; rfl) (by decide) ?_
        refine lv_aload_n hx hb dX6_stand_68 rfl (lv_at hl 0 rfl) ?_
        refine gX6 X hP 2 (v := .ref (g.2.2 0)) rfl (by decide) rfl wd_299 dX6_stand_69 ?_
        refine gX2 X hP (⟨rfl, by decide⟩ : isE 0) 8 (v := .int (h 0 8)) rfl (by decide) rfl wd_121 dX6_stand_72 ?_
        obtain ⟨rfl, rfl⟩ := ret_inj hf7
        exact x_iret X hr hlocks hP hS dX6_stand_75
      · have hf8 := if_at_f c6 hf5
        clear hf5
        by_cases c9 : a1 = (2 : Int32)
        · have hf10 := if_at_t c9 hf8
          clear hf8
          refine lv_tableIn (tgt := 76) hx hb dX6_stand_14 (by rw [c9]; decide) (by rw [c9]; decide) (by rw [c9]; rfl) (by decide) ?_
          refine lv_aload_n hx hb dX6_stand_76 rfl (lv_at hl 0 rfl) ?_
          refine gX6 X hP 2 (v := .ref (g.2.2 0)) rfl (by decide) rfl wd_299 dX6_stand_77 ?_
          refine gX2 X hP (⟨rfl, by decide⟩ : isE 0) 9 (v := .int (h 0 9)) rfl (by decide) rfl wd_125 dX6_stand_80 ?_
          obtain ⟨rfl, rfl⟩ := ret_inj hf10
          exact x_iret X hr hlocks hP hS dX6_stand_83
        · have hf11 := if_at_f c9 hf8
          clear hf8
          by_cases c12 : a1 = (3 : Int32)
          · have hf13 := if_at_t c12 hf11
            clear hf11
            refine lv_tableIn (tgt := 84) hx hb dX6_stand_14 (by rw [c12]; decide) (by rw [c12]; decide) (by rw [c12]; rfl) (by decide) ?_
            refine lv_aload_n hx hb dX6_stand_84 rfl (lv_at hl 0 rfl) ?_
            refine gX6 X hP 2 (v := .ref (g.2.2 0)) rfl (by decide) rfl wd_299 dX6_stand_85 ?_
            refine gX2 X hP (⟨rfl, by decide⟩ : isE 0) 10 (v := .int (h 0 10)) rfl (by decide) rfl wd_128 dX6_stand_88 ?_
            obtain ⟨rfl, rfl⟩ := ret_inj hf13
            exact x_iret X hr hlocks hP hS dX6_stand_91
          · have hf14 := if_at_f c12 hf11
            clear hf11
            by_cases c15 : a1 = (4 : Int32)
            · have hf16 := if_at_t c15 hf14
              clear hf14
              refine lv_tableIn (tgt := 92) hx hb dX6_stand_14 (by rw [c15]; decide) (by rw [c15]; decide) (by rw [c15]; rfl) (by decide) ?_
              refine lv_aload_n hx hb dX6_stand_92 rfl (lv_at hl 0 rfl) ?_
              refine gX6 X hP 2 (v := .ref (g.2.2 0)) rfl (by decide) rfl wd_299 dX6_stand_93 ?_
              refine gX2 X hP (⟨rfl, by decide⟩ : isE 0) 14 (v := .int (h 0 14)) rfl (by decide) rfl wd_141 dX6_stand_96 ?_
              obtain ⟨rfl, rfl⟩ := ret_inj hf16
              exact x_iret X hr hlocks hP hS dX6_stand_99
            · have hf17 := if_at_f c15 hf14
              clear hf14
              by_cases c18 : a1 = (5 : Int32)
              · have hf19 := if_at_t c18 hf17
                clear hf17
                refine lv_tableIn (tgt := 100) hx hb dX6_stand_14 (by rw [c18]; decide) (by rw [c18]; decide) (by rw [c18]; rfl) (by decide) ?_
                refine lv_aload_n hx hb dX6_stand_100 rfl (lv_at hl 0 rfl) ?_
                refine gX6 X hP 2 (v := .ref (g.2.2 0)) rfl (by decide) rfl wd_299 dX6_stand_101 ?_
                obtain ⟨x21, hh22, hg28, hf27⟩ := bd_some hf19
                refine x_ci (x_runV (As := []) (rest := []) X hP hS 0 (by decide) (cl_E (⟨rfl, by decide⟩ : isE 0)) rfl (tX2_withNumber l X.2.2.2.2.2.2.1 (⟨rfl, by decide⟩ : isE 0) hg28) mi_X6_215 rfl hl.1 rfl (Nat.le_of_ble_eq_true rfl) dX6_stand_104 ⟨Nat.le_of_ble_eq_true rfl, Nat.le_of_ble_eq_true rfl⟩ ⟨Nat.zero_le _, Nat.zero_le _⟩) hS (fun H23 lc24 hP25 hS26 => ?_)
                clear hf19 hP hS hg28
                obtain ⟨rfl, rfl⟩ := ret_inj hf27
                exact x_iret X hr hlocks hP25 hS26 dX6_stand_107
              · have hf20 := if_at_f c18 hf17
                clear hf17
                by_cases c29 : a1 = (6 : Int32)
                · have hf30 := if_at_t c29 hf20
                  clear hf20
                  refine lv_tableIn (tgt := 108) hx hb dX6_stand_14 (by rw [c29]; decide) (by rw [c29]; decide) (by rw [c29]; rfl) (by decide) ?_
                  refine lv_aload_n hx hb dX6_stand_108 rfl (lv_at hl 0 rfl) ?_
                  refine gX6 X hP 2 (v := .ref (g.2.2 0)) rfl (by decide) rfl wd_299 dX6_stand_109 ?_
                  refine gX2 X hP (⟨rfl, by decide⟩ : isE 0) 15 (v := .int (h 0 15)) rfl (by decide) rfl wd_143 dX6_stand_112 ?_
                  refine lv_iconst (v := 1) hx hb dX6_stand_115 (by decide) ?_
                  refine lv_iadd hx hb dX6_stand_116 ?_
                  obtain ⟨rfl, rfl⟩ := ret_inj hf30
                  exact x_iret X hr hlocks hP hS dX6_stand_117
                · have hf31 := if_at_f c29 hf20
                  clear hf20
                  by_cases c32 : a1 = (7 : Int32)
                  · have hf33 := if_at_t c32 hf31
                    clear hf31
                    refine lv_tableIn (tgt := 118) hx hb dX6_stand_14 (by rw [c32]; decide) (by rw [c32]; decide) (by rw [c32]; rfl) (by decide) ?_
                    refine lv_aload_n hx hb dX6_stand_118 rfl (lv_at hl 0 rfl) ?_
                    refine gX6 X hP 2 (v := .ref (g.2.2 0)) rfl (by decide) rfl wd_299 dX6_stand_119 ?_
                    obtain ⟨x35, hh36, hg42, hf41⟩ := bd_some hf33
                    refine x_ci (x_runV (As := []) (rest := []) X hP hS 0 (by decide) (cl_E (⟨rfl, by decide⟩ : isE 0)) rfl (tX2_gust l X.2.2.2.2.2.2.1 (⟨rfl, by decide⟩ : isE 0) hg42) mi_X6_219 rfl hl.1 rfl (Nat.le_of_ble_eq_true rfl) dX6_stand_122 ⟨Nat.le_of_ble_eq_true rfl, Nat.le_of_ble_eq_true rfl⟩ ⟨Nat.zero_le _, Nat.zero_le _⟩) hS (fun H37 lc38 hP39 hS40 => ?_)
                    clear hf33 hP hS hg42
                    obtain ⟨rfl, rfl⟩ := ret_inj hf41
                    exact x_iret X hr hlocks hP39 hS40 dX6_stand_125
                  · have hf34 := if_at_f c32 hf31
                    clear hf31
                    have q0 := sw_ne (j := 0) rfl c3
                    have q1 := sw_ne (j := 1) rfl c6
                    have q2 := sw_ne (j := 2) rfl c9
                    have q3 := sw_ne (j := 3) rfl c12
                    have q4 := sw_ne (j := 4) rfl c15
                    have q5 := sw_ne (j := 5) rfl c18
                    have q6 := sw_ne (j := 6) rfl c29
                    have q7 := sw_ne (j := 7) rfl c32
                    refine lv_tableOut (tgt := 126) hx hb dX6_stand_14 (by omega) (by decide) ?_
                    clear q0 q1 q2 q3 q4 q5 q6 q7
                    refine lv_ldc (v := -1000001) hx hb X.2.2.2.1 (X.2.2.2.2.1 _ wd_335) dX6_stand_126 ?_
                    obtain ⟨rfl, rfl⟩ := ret_inj hf34
                    exact x_iret X hr hlocks hP hS dX6_stand_128
  · have hf43 := if_at_t c1 hf
    clear hf
    refine lv_ldc (v := -1000002) hx hb X.2.2.2.1 (X.2.2.2.2.1 _ wd_470) dX6_stand_10 ?_
    obtain ⟨rfl, rfl⟩ := ret_inj hf43
    exact x_iret X hr hlocks hP hS dX6_stand_12
set_option maxRecDepth 100000 in
set_option maxHeartbeats 4000000 in
theorem tX6_isFar (l : Launch) {g : Gx} (hI : InjG g) {h k h1 : Hp} {a1 : Int32} {r : Int32}   (hf : fX6_isFar a1 h = some (r, h1)) : CI l yX6_isFar cX6_isFar 1 (some .boolean) 1 g [.int a1] h k h1 k r := by
  refine Met.ofW (cc := cX6_isFar) (maxL := 1) (ret := (some .boolean)) (by decide) rfl ?_
  intro p en s m args below meth c s₁ B hml hv
  obtain ⟨rfl, hSK, hSH, hP⟩ := hv
  have X : Cx p s m _ c cX6_isFar 1 RX6 g := ⟨B.exec, B.bytes, hml, findClass_of_methodNamed B.named, fun w hw => atoms_spec (ws := wsy yX6_isFar cX6_isFar 1 (some .boolean)) B.pre w (List.mem_cons_of_mem _ hw), hSK, hI, hSH⟩
  have hr := B.returns
  have hlocks := B.notSynchronized
  have hx := X.1
  have hb := X.2.1
  have hS : va_S (inA g) s.heap s.heap [] := va_S.rf
  clear hSK hSH hml B
  have hl := lv_entry ([.int a1]) (n := 1) (Nat.le_of_ble_eq_true rfl)
  rw [lg_entry_eq]
  generalize (lg_sl ([.int a1]) ++ List.replicate (1 - (lg_sl ([.int a1])).length) Slot.unset).toArray = ls at hl ⊢
  have hl : lv_has ls 1 [(0, .int a1)] := hl
  generalize ([.int a1] : List Value).toArray = args at X ⊢
  show W p l en (rmD 1) s m args below meth c s.heap [] 0 0 (MQ below (QI g h1 k r) args s 0 0 (inA g)) (F0 m 0 ls [])
  unfold fX6_isFar at hf
  refine lv_iload_n hx hb dX6_isFar_0 rfl (lv_at hl 0 rfl) ?_
  refine lv_iconst (v := 0) hx hb dX6_isFar_1 (by decide) ?_
  refine lv_bipush (v := 60) hx hb dX6_isFar_2 (by decide) ?_
  obtain ⟨x1, hh2, hg8, hf7⟩ := bd_some hf
  refine x_ci (x_runS (As := [.int a1, .int (0 : Int32), .int (60 : Int32)]) (rest := []) X hP hS (tX6_isWithin l X.2.2.2.2.2.2.1  hg8) mi_X6_59 rfl hl.1 rfl (Nat.le_of_ble_eq_true rfl) dX6_isFar_4 ⟨Nat.le_of_ble_eq_true rfl, Nat.le_of_ble_eq_true rfl⟩ ⟨Nat.zero_le _, Nat.zero_le _⟩) hS (fun H3 lc4 hP5 hS6 => ?_)
  clear hf hP hS hg8
  obtain ⟨hc9, hf10⟩ := chk_some hf7
  obtain ⟨rfl, rfl⟩ := ret_inj hf10
  exact x_zret X hr hlocks hc9 hP5 hS6 dX6_isFar_7
set_option maxRecDepth 100000 in
set_option maxHeartbeats 4000000 in
theorem wX3_behind_L10 {p : Program} {l : Launch} {en : Env} {s : State} {m : MethodId} {args : Array Value} {below : List Frame} {meth : Method} {c : Code} {g : Gx} (X : Cx p s m args c cX3_behind 4 RX3 g) (hr : meth.sig.returnType = (some (.object "FogSheets$Estuary"))) (hlocks : meth.locks = false) {k h1 : Hp} {r : Nat} {v2 : Int32}  
     :
    ∀ (n : Nat) (v3 : Int32) (h : Hp) (H : Heap) (locs : List Loc) (ls : Array Slot), fX3_behind_L10 n v2 v3 h = some (r, h1) → va_P g.1 vwCl (WW g h k) H → va_S (inA g) s.heap H locs → lv_has ls 4 [(0, .ref (g.2.2 210)), (2, .int v2), (3, .int v3)] → W p l en (rmD 4) s m args below meth c H locs 0 0 (MQ below (QR g h1 k r) args s 0 0 (inA g)) (F0 m 10 ls []) := by
  have hx := X.1
  have hb := X.2.1
  intro n
  induction n with
  | zero => intro v3 h H locs ls  hf; simp only [fX3_behind_L10, reduceCtorEq] at hf
  | succ n ih =>
    intro v3 h H locs ls  hf hP hS hl
    rw [fX3_behind_L10] at hf
    refine lv_iload_n hx hb dX3_behind_10 rfl (lv_at hl 2 rfl) ?_
    refine lv_iload_n hx hb dX3_behind_11 rfl (lv_at hl 1 rfl) ?_
    refine lv_icmp_ge (tgt := 28) hx hb dX3_behind_12 (by decide) (fun c11 => ?_) (fun c11 => ?_)
    · have hf12 := if_at_t c11 hf
      clear hf
      refine lv_aload_n hx hb dX3_behind_28 rfl (lv_at hl 0 rfl) ?_
      refine gX3 X hP 0 (v := .ref (g.2.2 14)) rfl (by decide) rfl wd_240 dX3_behind_29 ?_
      obtain ⟨rfl, rfl⟩ := ret_inj hf12
      exact x_aret X hr hlocks hP hS dX3_behind_32
    · have hf13 := if_at_f c11 hf
      clear hf
      refine lv_aload_n hx hb dX3_behind_15 rfl (lv_at hl 0 rfl) ?_
      refine gX3 X hP 0 (v := .ref (g.2.2 14)) rfl (by decide) rfl wd_240 dX3_behind_16 ?_
      obtain ⟨⟨⟩, hh15, hg21, hf20⟩ := bd_some hf13
      refine x_cv (x_runV (As := []) (rest := []) X hP hS 14 (by decide) (cl_E (⟨rfl, by decide⟩ : isE 14)) rfl (tX2_passHour l X.2.2.2.2.2.2.1 (⟨rfl, by decide⟩ : isE 14) hg21) mi_X3_37 rfl hl.1 rfl (Nat.le_of_ble_eq_true rfl) dX3_behind_19 ⟨Nat.le_of_ble_eq_true rfl, Nat.le_of_ble_eq_true rfl⟩ ⟨Nat.zero_le _, Nat.zero_le _⟩) hS (fun H16 lc17 hP18 hS19 => ?_)
      clear hf13 hP hS hg21
      obtain ⟨x22, ex22⟩ : ∃ q : Int32, q = v3 + (1 : Int32) := ⟨_, rfl⟩
      have hf23 := lk_at ex22 hf20
      clear hf20
      refine lv_iinc (v := x22) (lv' := [(3, .int x22), (0, .ref (g.2.2 210)), (2, .int v2)]) hx hb dX3_behind_22 hl (k := 2) rfl (by rw [ex22]; rfl) (by decide) rfl (fun ls24 hl25 => ?_)
      clear hl
      refine lv_goto (tgt := 10) hx hb dX3_behind_25 (by decide) ?_
      exact ih x22 hh15  _ _ _ hf23 hP18 hS19 (lv_sub hl25 [1, 2, 0] rfl)
set_option maxRecDepth 100000 in
set_option maxHeartbeats 4000000 in
theorem tX3_behind (l : Launch) {g : Gx} (hI : InjG g) {h k h1 : Hp} {a1 : Nat} {a2 : Int32} {r : Nat}  (ha1 : isE a1) (hf : fX3_behind a1 a2 h = some (r, h1)) : CR l yX3_behind cX3_behind 4 (some (.object "FogSheets$Estuary")) 4 g [.ref (g.2.2 210), .ref (g.2.2 a1), .int a2] h k h1 k r := by
  refine Met.ofW (cc := cX3_behind) (maxL := 4) (ret := (some (.object "FogSheets$Estuary"))) (by decide) rfl ?_
  intro p en s m args below meth c s₁ B hml hv
  obtain ⟨rfl, hSK, hSH, hP⟩ := hv
  have X : Cx p s m _ c cX3_behind 4 RX3 g := ⟨B.exec, B.bytes, hml, findClass_of_methodNamed B.named, fun w hw => atoms_spec (ws := wsy yX3_behind cX3_behind 4 (some (.object "FogSheets$Estuary"))) B.pre w (List.mem_cons_of_mem _ hw), hSK, hI, hSH⟩
  have hr := B.returns
  have hlocks := B.notSynchronized
  have hx := X.1
  have hb := X.2.1
  have hS : va_S (inA g) s.heap s.heap [] := va_S.rf
  clear hSK hSH hml B
  have hl := lv_entry ([.ref (g.2.2 210), .ref (g.2.2 a1), .int a2]) (n := 4) (Nat.le_of_ble_eq_true rfl)
  rw [lg_entry_eq]
  generalize (lg_sl ([.ref (g.2.2 210), .ref (g.2.2 a1), .int a2]) ++ List.replicate (4 - (lg_sl ([.ref (g.2.2 210), .ref (g.2.2 a1), .int a2])).length) Slot.unset).toArray = ls at hl ⊢
  have hl : lv_has ls 4 [(0, .ref (g.2.2 210)), (1, .ref (g.2.2 a1)), (2, .int a2)] := hl
  generalize ([.ref (g.2.2 210), .ref (g.2.2 a1), .int a2] : List Value).toArray = args at X ⊢
  show W p l en (rmD 4) s m args below meth c s.heap [] 0 0 (MQ below (QR g h1 k r) args s 0 0 (inA g)) (F0 m 0 ls [])
  unfold fX3_behind at hf
  refine lv_aload_n hx hb dX3_behind_0 rfl (lv_at hl 0 rfl) ?_
  refine gX3 X hP 0 (v := .ref (g.2.2 14)) rfl (by decide) rfl wd_240 dX3_behind_1 ?_
  refine lv_aload_n hx hb dX3_behind_4 rfl (lv_at hl 1 rfl) ?_
  obtain ⟨⟨⟩, hh2, hg8, hf7⟩ := bd_some hf
  refine x_cv (x_runV (As := [.ref (g.2.2 a1)]) (rest := []) X hP hS 14 (by decide) (cl_E (⟨rfl, by decide⟩ : isE 14)) rfl (tX2_become l X.2.2.2.2.2.2.1 (⟨rfl, by decide⟩ : isE 14) ha1 hg8) mi_X3_33 rfl hl.1 rfl (Nat.le_of_ble_eq_true rfl) dX3_behind_5 ⟨Nat.le_of_ble_eq_true rfl, Nat.le_of_ble_eq_true rfl⟩ ⟨Nat.zero_le _, Nat.zero_le _⟩) hS (fun H3 lc4 hP5 hS6 => ?_)
  clear hf hP hS hg8
  refine lv_iconst (v := 0) hx hb dX3_behind_8 (by decide) ?_
  refine lv_istore_n (lv' := [(3, .int (0 : Int32)), (0, .ref (g.2.2 210)), (1, .ref (g.2.2 a1)), (2, .int a2)]) hx hb dX3_behind_9 rfl hl (by decide) rfl (fun ls9 hl10 => ?_)
  clear hl
  refine wX3_behind_L10 X hr hlocks   4096 (0 : Int32) hh2 _ _ _  hf7 hP5 hS6 (lv_sub hl10 [1, 3, 0] rfl)
set_option maxRecDepth 100000 in
set_option maxHeartbeats 4000000 in
theorem tX6_ahead (l : Launch) {g : Gx} (hI : InjG g) {h k h1 : Hp} {a1 : Int32} {a2 : Int32} {a3 : Int32} {r : Int32}   (hf : fX6_ahead a1 a2 a3 h = some (r, h1)) : CI l yX6_ahead cX6_ahead 5 (some .int) 5 g [.ref (g.2.2 203), .int a1, .int a2, .int a3] h k h1 k r := by
  refine Met.ofW (cc := cX6_ahead) (maxL := 5) (ret := (some .int)) (by decide) rfl ?_
  intro p en s m args below meth c s₁ B hml hv
  obtain ⟨rfl, hSK, hSH, hP⟩ := hv
  have X : Cx p s m _ c cX6_ahead 5 RX6 g := ⟨B.exec, B.bytes, hml, findClass_of_methodNamed B.named, fun w hw => atoms_spec (ws := wsy yX6_ahead cX6_ahead 5 (some .int)) B.pre w (List.mem_cons_of_mem _ hw), hSK, hI, hSH⟩
  have hr := B.returns
  have hlocks := B.notSynchronized
  have hx := X.1
  have hb := X.2.1
  have hS : va_S (inA g) s.heap s.heap [] := va_S.rf
  clear hSK hSH hml B
  have hl := lv_entry ([.ref (g.2.2 203), .int a1, .int a2, .int a3]) (n := 5) (Nat.le_of_ble_eq_true rfl)
  rw [lg_entry_eq]
  generalize (lg_sl ([.ref (g.2.2 203), .int a1, .int a2, .int a3]) ++ List.replicate (5 - (lg_sl ([.ref (g.2.2 203), .int a1, .int a2, .int a3])).length) Slot.unset).toArray = ls at hl ⊢
  have hl : lv_has ls 5 [(0, .ref (g.2.2 203)), (1, .int a1), (2, .int a2), (3, .int a3)] := hl
  generalize ([.ref (g.2.2 203), .int a1, .int a2, .int a3] : List Value).toArray = args at X ⊢
  show W p l en (rmD 5) s m args below meth c s.heap [] 0 0 (MQ below (QI g h1 k r) args s 0 0 (inA g)) (F0 m 0 ls [])
  unfold fX6_ahead at hf
  refine lv_aload_n hx hb dX6_ahead_0 rfl (lv_at hl 0 rfl) ?_
  refine gX6 X hP 2 (v := .ref (g.2.2 0)) rfl (by decide) rfl wd_299 dX6_ahead_1 ?_
  refine lv_iload_n hx hb dX6_ahead_4 rfl (lv_at hl 1 rfl) ?_
  obtain ⟨x1, hh2, hg8, hf7⟩ := bd_some hf
  refine x_ci (x_runV (As := [.int a1]) (rest := []) X hP hS 0 (by decide) (cl_E (⟨rfl, by decide⟩ : isE 0)) rfl (tX2_isSheet l X.2.2.2.2.2.2.1 (⟨rfl, by decide⟩ : isE 0) hg8) mi_X6_175 rfl hl.1 rfl (Nat.le_of_ble_eq_true rfl) dX6_ahead_5 ⟨Nat.le_of_ble_eq_true rfl, Nat.le_of_ble_eq_true rfl⟩ ⟨Nat.zero_le _, Nat.zero_le _⟩) hS (fun H3 lc4 hP5 hS6 => ?_)
  clear hf hP hS hg8
  refine lv_if_eq (tgt := 27) hx hb dX6_ahead_8 (by decide) (fun c9 => ?_) (fun c9 => ?_)
  · have hf10 := if_at_t c9 hf7
    clear hf7
    refine lv_ldc (v := -1000001) hx hb X.2.2.2.1 (X.2.2.2.2.1 _ wd_335) dX6_ahead_27 ?_
    obtain ⟨rfl, rfl⟩ := ret_inj hf10
    exact x_iret X hr hlocks hP5 hS6 dX6_ahead_29
  · have hf11 := if_at_f c9 hf7
    clear hf7
    refine lv_iload_n hx hb dX6_ahead_11 rfl (lv_at hl 2 rfl) ?_
    obtain ⟨x12, hh13, hg19, hf18⟩ := bd_some hf11
    refine x_ci (x_runS (As := [.int a2]) (rest := []) X hP5 hS6 (tX6_isFar l X.2.2.2.2.2.2.1  hg19) mi_X6_222 rfl hl.1 rfl (Nat.le_of_ble_eq_true rfl) dX6_ahead_12 ⟨Nat.le_of_ble_eq_true rfl, Nat.le_of_ble_eq_true rfl⟩ ⟨Nat.zero_le _, Nat.zero_le _⟩) hS6 (fun H14 lc15 hP16 hS17 => ?_)
    clear hf11 hP5 hS6 hg19
    refine lv_if_eq (tgt := 27) hx hb dX6_ahead_15 (by decide) (fun c20 => ?_) (fun c20 => ?_)
    · have hf21 := if_at_t c20 hf18
      clear hf18
      refine lv_ldc (v := -1000001) hx hb X.2.2.2.1 (X.2.2.2.2.1 _ wd_335) dX6_ahead_27 ?_
      obtain ⟨rfl, rfl⟩ := ret_inj hf21
      exact x_iret X hr hlocks hP16 hS17 dX6_ahead_29
    · have hf22 := if_at_f c20 hf18
      clear hf18
      refine lv_iload_n hx hb dX6_ahead_18 rfl (lv_at hl 3 rfl) ?_
      refine lv_iconst (v := 0) hx hb dX6_ahead_19 (by decide) ?_
      refine lv_iconst (v := 2) hx hb dX6_ahead_20 (by decide) ?_
      obtain ⟨x23, hh24, hg30, hf29⟩ := bd_some hf22
      refine x_ci (x_runS (As := [.int a3, .int (0 : Int32), .int (2 : Int32)]) (rest := []) X hP16 hS17 (tX6_isWithin l X.2.2.2.2.2.2.1  hg30) mi_X6_59 rfl hl.1 rfl (Nat.le_of_ble_eq_true rfl) dX6_ahead_21 ⟨Nat.le_of_ble_eq_true rfl, Nat.le_of_ble_eq_true rfl⟩ ⟨Nat.zero_le _, Nat.zero_le _⟩) hS17 (fun H25 lc26 hP27 hS28 => ?_)
      clear hf22 hP16 hS17 hg30
      refine lv_if_ne (tgt := 30) hx hb dX6_ahead_24 (by decide) (fun c31 => ?_) (fun c31 => ?_)
      · have hf32 := if_at_f c31 hf29
        clear hf29
        refine lv_aload_n hx hb dX6_ahead_30 rfl (lv_at hl 0 rfl) ?_
        refine gX6 X hP27 5 (v := .ref (g.2.2 210)) rfl (by decide) rfl wd_302 dX6_ahead_31 ?_
        refine lv_aload_n hx hb dX6_ahead_34 rfl (lv_at hl 0 rfl) ?_
        refine gX6 X hP27 2 (v := .ref (g.2.2 0)) rfl (by decide) rfl wd_299 dX6_ahead_35 ?_
        refine lv_iload_n hx hb dX6_ahead_38 rfl (lv_at hl 2 rfl) ?_
        obtain ⟨x33, hh34, hg40, hf39⟩ := bd_some hf32
        refine x_cr (x_runV (As := [.ref (g.2.2 0), .int a2]) (rest := []) X hP27 hS28 210 (by decide) cl_Fo rfl (tX3_behind l X.2.2.2.2.2.2.1 (⟨rfl, by decide⟩ : isE 0) hg40) mi_X6_225 rfl hl.1 rfl (Nat.le_of_ble_eq_true rfl) dX6_ahead_39 ⟨Nat.le_of_ble_eq_true rfl, Nat.le_of_ble_eq_true rfl⟩ ⟨Nat.zero_le _, Nat.zero_le _⟩) hS28 (fun H35 lc36 hP37 hS38 => ?_)
        clear hf32 hP27 hS28 hg40
        obtain ⟨hc41, hf42⟩ := chk_some hf39
        refine lv_astore (lv' := [(4, .ref (g.2.2 x33)), (0, .ref (g.2.2 203)), (1, .int a1), (2, .int a2), (3, .int a3)]) hx hb dX6_ahead_42 hl (by decide) rfl (fun ls43 hl44 => ?_)
        clear hl
        refine lv_iload_n hx hb dX6_ahead_44 rfl (lv_at hl44 4 rfl) ?_
        refine lv_if_ne (tgt := 55) hx hb dX6_ahead_45 (by decide) (fun c45 => ?_) (fun c45 => ?_)
        · have hf46 := if_at_f c45 hf42
          clear hf42
          refine lv_iload_n hx hb dX6_ahead_55 rfl (lv_at hl44 4 rfl) ?_
          refine lv_iconst (v := 1) hx hb dX6_ahead_56 (by decide) ?_
          refine lv_icmp_ne (tgt := 69) hx hb dX6_ahead_57 (by decide) (fun c47 => ?_) (fun c47 => ?_)
          · have hf48 := if_at_f c47 hf46
            clear hf46
            refine lv_aload hx hb dX6_ahead_69 (lv_at hl44 0 rfl) ?_
            refine gX2 X hP37 (isEb_in hc41) 5 (v := .ref (g.2.2 (x33 + 6))) rfl (by decide) rfl wd_110 dX6_ahead_71 ?_
            refine lv_iload_n hx hb dX6_ahead_74 rfl (lv_at hl44 2 rfl) ?_
            obtain ⟨hc49, hf50⟩ := chk_some hf48
            refine x_ildC X hP37 (x33 + 6) (ia_E6 (isEb_in hc41)) hc49 dX6_ahead_75 ?_
            obtain ⟨rfl, rfl⟩ := ret_inj hf50
            exact x_iret X hr hlocks hP37 hS38 dX6_ahead_76
          · have hf51 := if_at_t c47 hf46
            clear hf46
            refine lv_aload hx hb dX6_ahead_60 (lv_at hl44 0 rfl) ?_
            refine lv_iload_n hx hb dX6_ahead_62 rfl (lv_at hl44 2 rfl) ?_
            obtain ⟨x52, hh53, hg59, hf58⟩ := bd_some hf51
            refine x_ci (x_runV (As := [.int a1]) (rest := []) X hP37 hS38 x33 (isE_lt (isEb_in hc41)) (cl_E (isEb_in hc41)) rfl (tX2_thicknessOf l X.2.2.2.2.2.2.1 (isEb_in hc41) hg59) mi_X6_194 rfl hl44.1 rfl (Nat.le_of_ble_eq_true rfl) dX6_ahead_63 ⟨Nat.le_of_ble_eq_true rfl, Nat.le_of_ble_eq_true rfl⟩ ⟨Nat.zero_le _, Nat.zero_le _⟩) hS38 (fun H54 lc55 hP56 hS57 => ?_)
            clear hf51 hP37 hS38 hg59
            refine lv_goto (tgt := 76) hx hb dX6_ahead_66 (by decide) ?_
            obtain ⟨rfl, rfl⟩ := ret_inj hf58
            exact x_iret X hr hlocks hP56 hS57 dX6_ahead_76
        · have hf60 := if_at_t c45 hf42
          clear hf42
          refine lv_aload hx hb dX6_ahead_48 (lv_at hl44 0 rfl) ?_
          refine lv_iload_n hx hb dX6_ahead_50 rfl (lv_at hl44 2 rfl) ?_
          obtain ⟨x61, hh62, hg68, hf67⟩ := bd_some hf60
          refine x_ci (x_runV (As := [.int a1]) (rest := []) X hP37 hS38 x33 (isE_lt (isEb_in hc41)) (cl_E (isEb_in hc41)) rfl (tX2_placeOf l X.2.2.2.2.2.2.1 (isEb_in hc41) hg68) mi_X6_188 rfl hl44.1 rfl (Nat.le_of_ble_eq_true rfl) dX6_ahead_51 ⟨Nat.le_of_ble_eq_true rfl, Nat.le_of_ble_eq_true rfl⟩ ⟨Nat.zero_le _, Nat.zero_le _⟩) hS38 (fun H63 lc64 hP65 hS66 => ?_)
          clear hf60 hP37 hS38 hg68
          obtain ⟨rfl, rfl⟩ := ret_inj hf67
          exact x_iret X hr hlocks hP65 hS66 dX6_ahead_54
      · have hf69 := if_at_t c31 hf29
        clear hf29
        refine lv_ldc (v := -1000001) hx hb X.2.2.2.1 (X.2.2.2.2.1 _ wd_335) dX6_ahead_27 ?_
        obtain ⟨rfl, rfl⟩ := ret_inj hf69
        exact x_iret X hr hlocks hP27 hS28 dX6_ahead_29
set_option maxRecDepth 100000 in
set_option maxHeartbeats 4000000 in
theorem tX6_over (l : Launch) {g : Gx} (hI : InjG g) {h k h1 : Hp} {a1 : Int32} {a2 : Int32} {r : Int32}   (hf : fX6_over a1 a2 h = some (r, h1)) : CI l yX6_over cX6_over 3 (some .int) 5 g [.ref (g.2.2 203), .int a1, .int a2] h k h1 k r := by
  refine Met.ofW (cc := cX6_over) (maxL := 3) (ret := (some .int)) (by decide) rfl ?_
  intro p en s m args below meth c s₁ B hml hv
  obtain ⟨rfl, hSK, hSH, hP⟩ := hv
  have X : Cx p s m _ c cX6_over 3 RX6 g := ⟨B.exec, B.bytes, hml, findClass_of_methodNamed B.named, fun w hw => atoms_spec (ws := wsy yX6_over cX6_over 3 (some .int)) B.pre w (List.mem_cons_of_mem _ hw), hSK, hI, hSH⟩
  have hr := B.returns
  have hlocks := B.notSynchronized
  have hx := X.1
  have hb := X.2.1
  have hS : va_S (inA g) s.heap s.heap [] := va_S.rf
  clear hSK hSH hml B
  have hl := lv_entry ([.ref (g.2.2 203), .int a1, .int a2]) (n := 3) (Nat.le_of_ble_eq_true rfl)
  rw [lg_entry_eq]
  generalize (lg_sl ([.ref (g.2.2 203), .int a1, .int a2]) ++ List.replicate (3 - (lg_sl ([.ref (g.2.2 203), .int a1, .int a2])).length) Slot.unset).toArray = ls at hl ⊢
  have hl : lv_has ls 3 [(0, .ref (g.2.2 203)), (1, .int a1), (2, .int a2)] := hl
  generalize ([.ref (g.2.2 203), .int a1, .int a2] : List Value).toArray = args at X ⊢
  show W p l en (rmD 5) s m args below meth c s.heap [] 0 0 (MQ below (QI g h1 k r) args s 0 0 (inA g)) (F0 m 0 ls [])
  unfold fX6_over at hf
  refine lv_aload_n hx hb dX6_over_0 rfl (lv_at hl 0 rfl) ?_
  refine gX6 X hP 2 (v := .ref (g.2.2 0)) rfl (by decide) rfl wd_299 dX6_over_1 ?_
  refine lv_iload_n hx hb dX6_over_4 rfl (lv_at hl 1 rfl) ?_
  obtain ⟨x1, hh2, hg8, hf7⟩ := bd_some hf
  refine x_ci (x_runV (As := [.int a1]) (rest := []) X hP hS 0 (by decide) (cl_E (⟨rfl, by decide⟩ : isE 0)) rfl (tX2_isCell l X.2.2.2.2.2.2.1 (⟨rfl, by decide⟩ : isE 0) hg8) mi_X6_163 rfl hl.1 rfl (Nat.le_of_ble_eq_true rfl) dX6_over_5 ⟨Nat.le_of_ble_eq_true rfl, Nat.le_of_ble_eq_true rfl⟩ ⟨Nat.zero_le _, Nat.zero_le _⟩) hS (fun H3 lc4 hP5 hS6 => ?_)
  clear hf hP hS hg8
  refine lv_if_eq (tgt := 18) hx hb dX6_over_8 (by decide) (fun c9 => ?_) (fun c9 => ?_)
  · have hf10 := if_at_t c9 hf7
    clear hf7
    refine lv_ldc (v := -1000001) hx hb X.2.2.2.1 (X.2.2.2.2.1 _ wd_335) dX6_over_18 ?_
    obtain ⟨rfl, rfl⟩ := ret_inj hf10
    exact x_iret X hr hlocks hP5 hS6 dX6_over_20
  · have hf11 := if_at_f c9 hf7
    clear hf7
    refine lv_iload_n hx hb dX6_over_11 rfl (lv_at hl 2 rfl) ?_
    obtain ⟨x12, hh13, hg19, hf18⟩ := bd_some hf11
    refine x_ci (x_runS (As := [.int a2]) (rest := []) X hP5 hS6 (tX6_isFar l X.2.2.2.2.2.2.1  hg19) mi_X6_222 rfl hl.1 rfl (Nat.le_of_ble_eq_true rfl) dX6_over_12 ⟨Nat.le_of_ble_eq_true rfl, Nat.le_of_ble_eq_true rfl⟩ ⟨Nat.zero_le _, Nat.zero_le _⟩) hS6 (fun H14 lc15 hP16 hS17 => ?_)
    clear hf11 hP5 hS6 hg19
    refine lv_if_ne (tgt := 21) hx hb dX6_over_15 (by decide) (fun c20 => ?_) (fun c20 => ?_)
    · have hf21 := if_at_f c20 hf18
      clear hf18
      refine lv_aload_n hx hb dX6_over_21 rfl (lv_at hl 0 rfl) ?_
      refine gX6 X hP16 5 (v := .ref (g.2.2 210)) rfl (by decide) rfl wd_302 dX6_over_22 ?_
      refine lv_aload_n hx hb dX6_over_25 rfl (lv_at hl 0 rfl) ?_
      refine gX6 X hP16 2 (v := .ref (g.2.2 0)) rfl (by decide) rfl wd_299 dX6_over_26 ?_
      refine lv_iload_n hx hb dX6_over_29 rfl (lv_at hl 2 rfl) ?_
      obtain ⟨x22, hh23, hg29, hf28⟩ := bd_some hf21
      refine x_cr (x_runV (As := [.ref (g.2.2 0), .int a2]) (rest := []) X hP16 hS17 210 (by decide) cl_Fo rfl (tX3_behind l X.2.2.2.2.2.2.1 (⟨rfl, by decide⟩ : isE 0) hg29) mi_X6_225 rfl hl.1 rfl (Nat.le_of_ble_eq_true rfl) dX6_over_30 ⟨Nat.le_of_ble_eq_true rfl, Nat.le_of_ble_eq_true rfl⟩ ⟨Nat.zero_le _, Nat.zero_le _⟩) hS17 (fun H24 lc25 hP26 hS27 => ?_)
      clear hf21 hP16 hS17 hg29
      obtain ⟨hc30, hf31⟩ := chk_some hf28
      refine lv_iload_n hx hb dX6_over_33 rfl (lv_at hl 1 rfl) ?_
      obtain ⟨x32, hh33, hg39, hf38⟩ := bd_some hf31
      refine x_ci (x_runV (As := [.int a1]) (rest := []) X hP26 hS27 x22 (isE_lt (isEb_in hc30)) (cl_E (isEb_in hc30)) rfl (tX2_thicknessOver l X.2.2.2.2.2.2.1 (isEb_in hc30) hg39) mi_X6_203 rfl hl.1 rfl (Nat.le_of_ble_eq_true rfl) dX6_over_34 ⟨Nat.le_of_ble_eq_true rfl, Nat.le_of_ble_eq_true rfl⟩ ⟨Nat.zero_le _, Nat.zero_le _⟩) hS27 (fun H34 lc35 hP36 hS37 => ?_)
      clear hf31 hP26 hS27 hg39
      obtain ⟨rfl, rfl⟩ := ret_inj hf38
      exact x_iret X hr hlocks hP36 hS37 dX6_over_37
    · have hf40 := if_at_t c20 hf18
      clear hf18
      refine lv_ldc (v := -1000001) hx hb X.2.2.2.1 (X.2.2.2.2.1 _ wd_335) dX6_over_18 ?_
      obtain ⟨rfl, rfl⟩ := ret_inj hf40
      exact x_iret X hr hlocks hP16 hS17 dX6_over_20
set_option maxRecDepth 100000 in
set_option maxHeartbeats 4000000 in
theorem wX3_firstGone_L10 {p : Program} {l : Launch} {en : Env} {s : State} {m : MethodId} {args : Array Value} {below : List Frame} {meth : Method} {c : Code} {g : Gx} (X : Cx p s m args c cX3_firstGone 4 RX3 g) (hr : meth.sig.returnType = (some .int)) (hlocks : meth.locks = false) {k h1 : Hp} {r : Int32} {v2 : Int32}  
     :
    ∀ (n : Nat) (v3 : Int32) (h : Hp) (H : Heap) (locs : List Loc) (ls : Array Slot), fX3_firstGone_L10 n v2 v3 h = some (r, h1) → va_P g.1 vwCl (WW g h k) H → va_S (inA g) s.heap H locs → lv_has ls 4 [(0, .ref (g.2.2 210)), (2, .int v2), (3, .int v3)] → W p l en (rmD 4) s m args below meth c H locs 0 0 (MQ below (QI g h1 k r) args s 0 0 (inA g)) (F0 m 10 ls []) := by
  have hx := X.1
  have hb := X.2.1
  intro n
  induction n with
  | zero => intro v3 h H locs ls  hf; simp only [fX3_firstGone_L10, reduceCtorEq] at hf
  | succ n ih =>
    intro v3 h H locs ls  hf hP hS hl
    rw [fX3_firstGone_L10] at hf
    refine lv_iload_n hx hb dX3_firstGone_10 rfl (lv_at hl 2 rfl) ?_
    refine lv_bipush (v := 60) hx hb dX3_firstGone_11 (by decide) ?_
    refine lv_icmp_gt (tgt := 42) hx hb dX3_firstGone_13 (by decide) (fun c11 => ?_) (fun c11 => ?_)
    · have hf12 := if_at_t c11 hf
      clear hf
      refine lv_ldc (v := -1000000) hx hb X.2.2.2.1 (X.2.2.2.2.1 _ wd_621) dX3_firstGone_42 ?_
      obtain ⟨rfl, rfl⟩ := ret_inj hf12
      exact x_iret X hr hlocks hP hS dX3_firstGone_44
    · have hf13 := if_at_f c11 hf
      clear hf
      refine lv_aload_n hx hb dX3_firstGone_16 rfl (lv_at hl 0 rfl) ?_
      refine gX3 X hP 0 (v := .ref (g.2.2 14)) rfl (by decide) rfl wd_240 dX3_firstGone_17 ?_
      refine lv_iload_n hx hb dX3_firstGone_20 rfl (lv_at hl 1 rfl) ?_
      obtain ⟨x14, hh15, hg21, hf20⟩ := bd_some hf13
      refine x_ci (x_runV (As := [.int v2]) (rest := []) X hP hS 14 (by decide) (cl_E (⟨rfl, by decide⟩ : isE 14)) rfl (tX2_isIn l X.2.2.2.2.2.2.1 (⟨rfl, by decide⟩ : isE 14) hg21) mi_X3_40 rfl hl.1 rfl (Nat.le_of_ble_eq_true rfl) dX3_firstGone_21 ⟨Nat.le_of_ble_eq_true rfl, Nat.le_of_ble_eq_true rfl⟩ ⟨Nat.zero_le _, Nat.zero_le _⟩) hS (fun H16 lc17 hP18 hS19 => ?_)
      clear hf13 hP hS hg21
      refine lv_if_ne (tgt := 29) hx hb dX3_firstGone_24 (by decide) (fun c22 => ?_) (fun c22 => ?_)
      · have hf23 := if_at_f c22 hf20
        clear hf20
        refine lv_aload_n hx hb dX3_firstGone_29 rfl (lv_at hl 0 rfl) ?_
        refine gX3 X hP18 0 (v := .ref (g.2.2 14)) rfl (by decide) rfl wd_240 dX3_firstGone_30 ?_
        obtain ⟨⟨⟩, hh25, hg31, hf30⟩ := bd_some hf23
        refine x_cv (x_runV (As := []) (rest := []) X hP18 hS19 14 (by decide) (cl_E (⟨rfl, by decide⟩ : isE 14)) rfl (tX2_passHour l X.2.2.2.2.2.2.1 (⟨rfl, by decide⟩ : isE 14) hg31) mi_X3_37 rfl hl.1 rfl (Nat.le_of_ble_eq_true rfl) dX3_firstGone_33 ⟨Nat.le_of_ble_eq_true rfl, Nat.le_of_ble_eq_true rfl⟩ ⟨Nat.zero_le _, Nat.zero_le _⟩) hS19 (fun H26 lc27 hP28 hS29 => ?_)
        clear hf23 hP18 hS19 hg31
        obtain ⟨x32, ex32⟩ : ∃ q : Int32, q = v3 + (1 : Int32) := ⟨_, rfl⟩
        have hf33 := lk_at ex32 hf30
        clear hf30
        refine lv_iinc (v := x32) (lv' := [(3, .int x32), (0, .ref (g.2.2 210)), (2, .int v2)]) hx hb dX3_firstGone_36 hl (k := 2) rfl (by rw [ex32]; rfl) (by decide) rfl (fun ls34 hl35 => ?_)
        clear hl
        refine lv_goto (tgt := 10) hx hb dX3_firstGone_39 (by decide) ?_
        exact ih x32 hh25  _ _ _ hf33 hP28 hS29 (lv_sub hl35 [1, 2, 0] rfl)
      · have hf36 := if_at_t c22 hf20
        clear hf20
        refine lv_iload_n hx hb dX3_firstGone_27 rfl (lv_at hl 2 rfl) ?_
        obtain ⟨rfl, rfl⟩ := ret_inj hf36
        exact x_iret X hr hlocks hP18 hS19 dX3_firstGone_28
set_option maxRecDepth 100000 in
set_option maxHeartbeats 4000000 in
theorem tX3_firstGone (l : Launch) {g : Gx} (hI : InjG g) {h k h1 : Hp} {a1 : Nat} {a2 : Int32} {r : Int32}  (ha1 : isE a1) (hf : fX3_firstGone a1 a2 h = some (r, h1)) : CI l yX3_firstGone cX3_firstGone 4 (some .int) 4 g [.ref (g.2.2 210), .ref (g.2.2 a1), .int a2] h k h1 k r := by
  refine Met.ofW (cc := cX3_firstGone) (maxL := 4) (ret := (some .int)) (by decide) rfl ?_
  intro p en s m args below meth c s₁ B hml hv
  obtain ⟨rfl, hSK, hSH, hP⟩ := hv
  have X : Cx p s m _ c cX3_firstGone 4 RX3 g := ⟨B.exec, B.bytes, hml, findClass_of_methodNamed B.named, fun w hw => atoms_spec (ws := wsy yX3_firstGone cX3_firstGone 4 (some .int)) B.pre w (List.mem_cons_of_mem _ hw), hSK, hI, hSH⟩
  have hr := B.returns
  have hlocks := B.notSynchronized
  have hx := X.1
  have hb := X.2.1
  have hS : va_S (inA g) s.heap s.heap [] := va_S.rf
  clear hSK hSH hml B
  have hl := lv_entry ([.ref (g.2.2 210), .ref (g.2.2 a1), .int a2]) (n := 4) (Nat.le_of_ble_eq_true rfl)
  rw [lg_entry_eq]
  generalize (lg_sl ([.ref (g.2.2 210), .ref (g.2.2 a1), .int a2]) ++ List.replicate (4 - (lg_sl ([.ref (g.2.2 210), .ref (g.2.2 a1), .int a2])).length) Slot.unset).toArray = ls at hl ⊢
  have hl : lv_has ls 4 [(0, .ref (g.2.2 210)), (1, .ref (g.2.2 a1)), (2, .int a2)] := hl
  generalize ([.ref (g.2.2 210), .ref (g.2.2 a1), .int a2] : List Value).toArray = args at X ⊢
  show W p l en (rmD 4) s m args below meth c s.heap [] 0 0 (MQ below (QI g h1 k r) args s 0 0 (inA g)) (F0 m 0 ls [])
  unfold fX3_firstGone at hf
  refine lv_aload_n hx hb dX3_firstGone_0 rfl (lv_at hl 0 rfl) ?_
  refine gX3 X hP 0 (v := .ref (g.2.2 14)) rfl (by decide) rfl wd_240 dX3_firstGone_1 ?_
  refine lv_aload_n hx hb dX3_firstGone_4 rfl (lv_at hl 1 rfl) ?_
  obtain ⟨⟨⟩, hh2, hg8, hf7⟩ := bd_some hf
  refine x_cv (x_runV (As := [.ref (g.2.2 a1)]) (rest := []) X hP hS 14 (by decide) (cl_E (⟨rfl, by decide⟩ : isE 14)) rfl (tX2_become l X.2.2.2.2.2.2.1 (⟨rfl, by decide⟩ : isE 14) ha1 hg8) mi_X3_33 rfl hl.1 rfl (Nat.le_of_ble_eq_true rfl) dX3_firstGone_5 ⟨Nat.le_of_ble_eq_true rfl, Nat.le_of_ble_eq_true rfl⟩ ⟨Nat.zero_le _, Nat.zero_le _⟩) hS (fun H3 lc4 hP5 hS6 => ?_)
  clear hf hP hS hg8
  refine lv_iconst (v := 0) hx hb dX3_firstGone_8 (by decide) ?_
  refine lv_istore_n (lv' := [(3, .int (0 : Int32)), (0, .ref (g.2.2 210)), (1, .ref (g.2.2 a1)), (2, .int a2)]) hx hb dX3_firstGone_9 rfl hl (by decide) rfl (fun ls9 hl10 => ?_)
  clear hl
  refine wX3_firstGone_L10 X hr hlocks   4096 (0 : Int32) hh2 _ _ _  hf7 hP5 hS6 (lv_sub hl10 [1, 3, 0] rfl)
set_option maxRecDepth 100000 in
set_option maxHeartbeats 4000000 in
theorem wX3_firstNumbered_L10 {p : Program} {l : Launch} {en : Env} {s : State} {m : MethodId} {args : Array Value} {below : List Frame} {meth : Method} {c : Code} {g : Gx} (X : Cx p s m args c cX3_firstNumbered 4 RX3 g) (hr : meth.sig.returnType = (some .int)) (hlocks : meth.locks = false) {k h1 : Hp} {r : Int32} {v2 : Int32}  
     :
    ∀ (n : Nat) (v3 : Int32) (h : Hp) (H : Heap) (locs : List Loc) (ls : Array Slot), fX3_firstNumbered_L10 n v2 v3 h = some (r, h1) → va_P g.1 vwCl (WW g h k) H → va_S (inA g) s.heap H locs → lv_has ls 4 [(0, .ref (g.2.2 210)), (2, .int v2), (3, .int v3)] → W p l en (rmD 4) s m args below meth c H locs 0 0 (MQ below (QI g h1 k r) args s 0 0 (inA g)) (F0 m 10 ls []) := by
  have hx := X.1
  have hb := X.2.1
  intro n
  induction n with
  | zero => intro v3 h H locs ls  hf; simp only [fX3_firstNumbered_L10, reduceCtorEq] at hf
  | succ n ih =>
    intro v3 h H locs ls  hf hP hS hl
    rw [fX3_firstNumbered_L10] at hf
    refine lv_iload_n hx hb dX3_firstNumbered_10 rfl (lv_at hl 2 rfl) ?_
    refine lv_bipush (v := 60) hx hb dX3_firstNumbered_11 (by decide) ?_
    refine lv_icmp_gt (tgt := 43) hx hb dX3_firstNumbered_13 (by decide) (fun c11 => ?_) (fun c11 => ?_)
    · have hf12 := if_at_t c11 hf
      clear hf
      refine lv_ldc (v := -1000000) hx hb X.2.2.2.1 (X.2.2.2.2.1 _ wd_621) dX3_firstNumbered_43 ?_
      obtain ⟨rfl, rfl⟩ := ret_inj hf12
      exact x_iret X hr hlocks hP hS dX3_firstNumbered_45
    · have hf13 := if_at_f c11 hf
      clear hf
      refine lv_aload_n hx hb dX3_firstNumbered_16 rfl (lv_at hl 0 rfl) ?_
      refine gX3 X hP 0 (v := .ref (g.2.2 14)) rfl (by decide) rfl wd_240 dX3_firstNumbered_17 ?_
      refine gX2 X hP (⟨rfl, by decide⟩ : isE 14) 5 (v := .ref (g.2.2 20)) rfl (by decide) rfl wd_109 dX3_firstNumbered_20 ?_
      refine lv_iload_n hx hb dX3_firstNumbered_23 rfl (lv_at hl 1 rfl) ?_
      obtain ⟨hc14, hf15⟩ := chk_some hf13
      refine x_ildC X hP 20 rfl hc14 dX3_firstNumbered_24 ?_
      refine lv_if_eq (tgt := 30) hx hb dX3_firstNumbered_25 (by decide) (fun c16 => ?_) (fun c16 => ?_)
      · have hf17 := if_at_t c16 hf15
        clear hf15
        refine lv_aload_n hx hb dX3_firstNumbered_30 rfl (lv_at hl 0 rfl) ?_
        refine gX3 X hP 0 (v := .ref (g.2.2 14)) rfl (by decide) rfl wd_240 dX3_firstNumbered_31 ?_
        obtain ⟨⟨⟩, hh19, hg25, hf24⟩ := bd_some hf17
        refine x_cv (x_runV (As := []) (rest := []) X hP hS 14 (by decide) (cl_E (⟨rfl, by decide⟩ : isE 14)) rfl (tX2_passHour l X.2.2.2.2.2.2.1 (⟨rfl, by decide⟩ : isE 14) hg25) mi_X3_37 rfl hl.1 rfl (Nat.le_of_ble_eq_true rfl) dX3_firstNumbered_34 ⟨Nat.le_of_ble_eq_true rfl, Nat.le_of_ble_eq_true rfl⟩ ⟨Nat.zero_le _, Nat.zero_le _⟩) hS (fun H20 lc21 hP22 hS23 => ?_)
        clear hf17 hP hS hg25
        obtain ⟨x26, ex26⟩ : ∃ q : Int32, q = v3 + (1 : Int32) := ⟨_, rfl⟩
        have hf27 := lk_at ex26 hf24
        clear hf24
        refine lv_iinc (v := x26) (lv' := [(3, .int x26), (0, .ref (g.2.2 210)), (2, .int v2)]) hx hb dX3_firstNumbered_37 hl (k := 2) rfl (by rw [ex26]; rfl) (by decide) rfl (fun ls28 hl29 => ?_)
        clear hl
        refine lv_goto (tgt := 10) hx hb dX3_firstNumbered_40 (by decide) ?_
        exact ih x26 hh19  _ _ _ hf27 hP22 hS23 (lv_sub hl29 [1, 2, 0] rfl)
      · have hf30 := if_at_f c16 hf15
        clear hf15
        refine lv_iload_n hx hb dX3_firstNumbered_28 rfl (lv_at hl 2 rfl) ?_
        obtain ⟨rfl, rfl⟩ := ret_inj hf30
        exact x_iret X hr hlocks hP hS dX3_firstNumbered_29
set_option maxRecDepth 100000 in
set_option maxHeartbeats 4000000 in
theorem tX3_firstNumbered (l : Launch) {g : Gx} (hI : InjG g) {h k h1 : Hp} {a1 : Nat} {a2 : Int32} {r : Int32}  (ha1 : isE a1) (hf : fX3_firstNumbered a1 a2 h = some (r, h1)) : CI l yX3_firstNumbered cX3_firstNumbered 4 (some .int) 4 g [.ref (g.2.2 210), .ref (g.2.2 a1), .int a2] h k h1 k r := by
  refine Met.ofW (cc := cX3_firstNumbered) (maxL := 4) (ret := (some .int)) (by decide) rfl ?_
  intro p en s m args below meth c s₁ B hml hv
  obtain ⟨rfl, hSK, hSH, hP⟩ := hv
  have X : Cx p s m _ c cX3_firstNumbered 4 RX3 g := ⟨B.exec, B.bytes, hml, findClass_of_methodNamed B.named, fun w hw => atoms_spec (ws := wsy yX3_firstNumbered cX3_firstNumbered 4 (some .int)) B.pre w (List.mem_cons_of_mem _ hw), hSK, hI, hSH⟩
  have hr := B.returns
  have hlocks := B.notSynchronized
  have hx := X.1
  have hb := X.2.1
  have hS : va_S (inA g) s.heap s.heap [] := va_S.rf
  clear hSK hSH hml B
  have hl := lv_entry ([.ref (g.2.2 210), .ref (g.2.2 a1), .int a2]) (n := 4) (Nat.le_of_ble_eq_true rfl)
  rw [lg_entry_eq]
  generalize (lg_sl ([.ref (g.2.2 210), .ref (g.2.2 a1), .int a2]) ++ List.replicate (4 - (lg_sl ([.ref (g.2.2 210), .ref (g.2.2 a1), .int a2])).length) Slot.unset).toArray = ls at hl ⊢
  have hl : lv_has ls 4 [(0, .ref (g.2.2 210)), (1, .ref (g.2.2 a1)), (2, .int a2)] := hl
  generalize ([.ref (g.2.2 210), .ref (g.2.2 a1), .int a2] : List Value).toArray = args at X ⊢
  show W p l en (rmD 4) s m args below meth c s.heap [] 0 0 (MQ below (QI g h1 k r) args s 0 0 (inA g)) (F0 m 0 ls [])
  unfold fX3_firstNumbered at hf
  refine lv_aload_n hx hb dX3_firstNumbered_0 rfl (lv_at hl 0 rfl) ?_
  refine gX3 X hP 0 (v := .ref (g.2.2 14)) rfl (by decide) rfl wd_240 dX3_firstNumbered_1 ?_
  refine lv_aload_n hx hb dX3_firstNumbered_4 rfl (lv_at hl 1 rfl) ?_
  obtain ⟨⟨⟩, hh2, hg8, hf7⟩ := bd_some hf
  refine x_cv (x_runV (As := [.ref (g.2.2 a1)]) (rest := []) X hP hS 14 (by decide) (cl_E (⟨rfl, by decide⟩ : isE 14)) rfl (tX2_become l X.2.2.2.2.2.2.1 (⟨rfl, by decide⟩ : isE 14) ha1 hg8) mi_X3_33 rfl hl.1 rfl (Nat.le_of_ble_eq_true rfl) dX3_firstNumbered_5 ⟨Nat.le_of_ble_eq_true rfl, Nat.le_of_ble_eq_true rfl⟩ ⟨Nat.zero_le _, Nat.zero_le _⟩) hS (fun H3 lc4 hP5 hS6 => ?_)
  clear hf hP hS hg8
  refine lv_iconst (v := 0) hx hb dX3_firstNumbered_8 (by decide) ?_
  refine lv_istore_n (lv' := [(3, .int (0 : Int32)), (0, .ref (g.2.2 210)), (1, .ref (g.2.2 a1)), (2, .int a2)]) hx hb dX3_firstNumbered_9 rfl hl (by decide) rfl (fun ls9 hl10 => ?_)
  clear hl
  refine wX3_firstNumbered_L10 X hr hlocks   4096 (0 : Int32) hh2 _ _ _  hf7 hP5 hS6 (lv_sub hl10 [1, 3, 0] rfl)
set_option maxRecDepth 100000 in
set_option maxHeartbeats 4000000 in
theorem tX6_when (l : Launch) {g : Gx} (hI : InjG g) {h k h1 : Hp} {a1 : Int32} {a2 : Int32} {r : Int32}   (hf : fX6_when a1 a2 h = some (r, h1)) : CI l yX6_when cX6_when 3 (some .int) 5 g [.ref (g.2.2 203), .int a1, .int a2] h k h1 k r := by
  refine Met.ofW (cc := cX6_when) (maxL := 3) (ret := (some .int)) (by decide) rfl ?_
  intro p en s m args below meth c s₁ B hml hv
  obtain ⟨rfl, hSK, hSH, hP⟩ := hv
  have X : Cx p s m _ c cX6_when 3 RX6 g := ⟨B.exec, B.bytes, hml, findClass_of_methodNamed B.named, fun w hw => atoms_spec (ws := wsy yX6_when cX6_when 3 (some .int)) B.pre w (List.mem_cons_of_mem _ hw), hSK, hI, hSH⟩
  have hr := B.returns
  have hlocks := B.notSynchronized
  have hx := X.1
  have hb := X.2.1
  have hS : va_S (inA g) s.heap s.heap [] := va_S.rf
  clear hSK hSH hml B
  have hl := lv_entry ([.ref (g.2.2 203), .int a1, .int a2]) (n := 3) (Nat.le_of_ble_eq_true rfl)
  rw [lg_entry_eq]
  generalize (lg_sl ([.ref (g.2.2 203), .int a1, .int a2]) ++ List.replicate (3 - (lg_sl ([.ref (g.2.2 203), .int a1, .int a2])).length) Slot.unset).toArray = ls at hl ⊢
  have hl : lv_has ls 3 [(0, .ref (g.2.2 203)), (1, .int a1), (2, .int a2)] := hl
  generalize ([.ref (g.2.2 203), .int a1, .int a2] : List Value).toArray = args at X ⊢
  show W p l en (rmD 5) s m args below meth c s.heap [] 0 0 (MQ below (QI g h1 k r) args s 0 0 (inA g)) (F0 m 0 ls [])
  unfold fX6_when at hf
  refine lv_aload_n hx hb dX6_when_0 rfl (lv_at hl 0 rfl) ?_
  refine gX6 X hP 2 (v := .ref (g.2.2 0)) rfl (by decide) rfl wd_299 dX6_when_1 ?_
  refine lv_iload_n hx hb dX6_when_4 rfl (lv_at hl 1 rfl) ?_
  obtain ⟨x1, hh2, hg8, hf7⟩ := bd_some hf
  refine x_ci (x_runV (As := [.int a1]) (rest := []) X hP hS 0 (by decide) (cl_E (⟨rfl, by decide⟩ : isE 0)) rfl (tX2_isSheet l X.2.2.2.2.2.2.1 (⟨rfl, by decide⟩ : isE 0) hg8) mi_X6_175 rfl hl.1 rfl (Nat.le_of_ble_eq_true rfl) dX6_when_5 ⟨Nat.le_of_ble_eq_true rfl, Nat.le_of_ble_eq_true rfl⟩ ⟨Nat.zero_le _, Nat.zero_le _⟩) hS (fun H3 lc4 hP5 hS6 => ?_)
  clear hf hP hS hg8
  refine lv_if_eq (tgt := 20) hx hb dX6_when_8 (by decide) (fun c9 => ?_) (fun c9 => ?_)
  · have hf10 := if_at_t c9 hf7
    clear hf7
    refine lv_ldc (v := -1000001) hx hb X.2.2.2.1 (X.2.2.2.2.1 _ wd_335) dX6_when_20 ?_
    obtain ⟨rfl, rfl⟩ := ret_inj hf10
    exact x_iret X hr hlocks hP5 hS6 dX6_when_22
  · have hf11 := if_at_f c9 hf7
    clear hf7
    refine lv_iload_n hx hb dX6_when_11 rfl (lv_at hl 2 rfl) ?_
    refine lv_iconst (v := 0) hx hb dX6_when_12 (by decide) ?_
    refine lv_iconst (v := 1) hx hb dX6_when_13 (by decide) ?_
    obtain ⟨x12, hh13, hg19, hf18⟩ := bd_some hf11
    refine x_ci (x_runS (As := [.int a2, .int (0 : Int32), .int (1 : Int32)]) (rest := []) X hP5 hS6 (tX6_isWithin l X.2.2.2.2.2.2.1  hg19) mi_X6_59 rfl hl.1 rfl (Nat.le_of_ble_eq_true rfl) dX6_when_14 ⟨Nat.le_of_ble_eq_true rfl, Nat.le_of_ble_eq_true rfl⟩ ⟨Nat.zero_le _, Nat.zero_le _⟩) hS6 (fun H14 lc15 hP16 hS17 => ?_)
    clear hf11 hP5 hS6 hg19
    refine lv_if_ne (tgt := 23) hx hb dX6_when_17 (by decide) (fun c20 => ?_) (fun c20 => ?_)
    · have hf21 := if_at_f c20 hf18
      clear hf18
      refine lv_iload_n hx hb dX6_when_23 rfl (lv_at hl 2 rfl) ?_
      refine lv_if_ne (tgt := 42) hx hb dX6_when_24 (by decide) (fun c22 => ?_) (fun c22 => ?_)
      · have hf23 := if_at_f c22 hf21
        clear hf21
        refine lv_aload_n hx hb dX6_when_42 rfl (lv_at hl 0 rfl) ?_
        refine gX6 X hP16 5 (v := .ref (g.2.2 210)) rfl (by decide) rfl wd_302 dX6_when_43 ?_
        refine lv_aload_n hx hb dX6_when_46 rfl (lv_at hl 0 rfl) ?_
        refine gX6 X hP16 2 (v := .ref (g.2.2 0)) rfl (by decide) rfl wd_299 dX6_when_47 ?_
        refine lv_iload_n hx hb dX6_when_50 rfl (lv_at hl 1 rfl) ?_
        obtain ⟨x24, hh25, hg31, hf30⟩ := bd_some hf23
        refine x_ci (x_runV (As := [.ref (g.2.2 0), .int a1]) (rest := []) X hP16 hS17 210 (by decide) cl_Fo rfl (tX3_firstNumbered l X.2.2.2.2.2.2.1 (⟨rfl, by decide⟩ : isE 0) hg31) mi_X6_233 rfl hl.1 rfl (Nat.le_of_ble_eq_true rfl) dX6_when_51 ⟨Nat.le_of_ble_eq_true rfl, Nat.le_of_ble_eq_true rfl⟩ ⟨Nat.zero_le _, Nat.zero_le _⟩) hS17 (fun H26 lc27 hP28 hS29 => ?_)
        clear hf23 hP16 hS17 hg31
        obtain ⟨rfl, rfl⟩ := ret_inj hf30
        exact x_iret X hr hlocks hP28 hS29 dX6_when_54
      · have hf32 := if_at_t c22 hf21
        clear hf21
        refine lv_aload_n hx hb dX6_when_27 rfl (lv_at hl 0 rfl) ?_
        refine gX6 X hP16 5 (v := .ref (g.2.2 210)) rfl (by decide) rfl wd_302 dX6_when_28 ?_
        refine lv_aload_n hx hb dX6_when_31 rfl (lv_at hl 0 rfl) ?_
        refine gX6 X hP16 2 (v := .ref (g.2.2 0)) rfl (by decide) rfl wd_299 dX6_when_32 ?_
        refine lv_iload_n hx hb dX6_when_35 rfl (lv_at hl 1 rfl) ?_
        obtain ⟨x33, hh34, hg40, hf39⟩ := bd_some hf32
        refine x_ci (x_runV (As := [.ref (g.2.2 0), .int a1]) (rest := []) X hP16 hS17 210 (by decide) cl_Fo rfl (tX3_firstGone l X.2.2.2.2.2.2.1 (⟨rfl, by decide⟩ : isE 0) hg40) mi_X6_229 rfl hl.1 rfl (Nat.le_of_ble_eq_true rfl) dX6_when_36 ⟨Nat.le_of_ble_eq_true rfl, Nat.le_of_ble_eq_true rfl⟩ ⟨Nat.zero_le _, Nat.zero_le _⟩) hS17 (fun H35 lc36 hP37 hS38 => ?_)
        clear hf32 hP16 hS17 hg40
        refine lv_goto (tgt := 54) hx hb dX6_when_39 (by decide) ?_
        obtain ⟨rfl, rfl⟩ := ret_inj hf39
        exact x_iret X hr hlocks hP37 hS38 dX6_when_54
    · have hf41 := if_at_t c20 hf18
      clear hf18
      refine lv_ldc (v := -1000001) hx hb X.2.2.2.1 (X.2.2.2.2.1 _ wd_335) dX6_when_20 ?_
      obtain ⟨rfl, rfl⟩ := ret_inj hf41
      exact x_iret X hr hlocks hP16 hS17 dX6_when_22
set_option maxRecDepth 100000 in
set_option maxHeartbeats 4000000 in
theorem wX2_overlappingPair_L20 {p : Program} {l : Launch} {en : Env} {s : State} {m : MethodId} {args : Array Value} {below : List Frame} {meth : Method} {c : Code} {g : Gx} (X : Cx p s m args c cX2_overlappingPair 4 RX2 g) (hr : meth.sig.returnType = (some .int)) (hlocks : meth.locks = false) {k h1 : Hp} {r : Int32} {v0 : Nat} {v1 : Int32} {v2 : Int32} (hv0 : isE v0) {K51 : Hp → Option (Int32 × Hp)}
    (hK51 : ∀  (h : Hp) (H : Heap) (locs : List Loc) (ls : Array Slot), K51  h = some (r, h1) → va_P g.1 vwCl (WW g h k) H → va_S (inA g) s.heap H locs → lv_has ls 4 [(0, .ref (g.2.2 v0)), (1, .int v1)] → W p l en (rmD 3) s m args below meth c H locs 0 0 (MQ below (QI g h1 k r) args s 0 0 (inA g)) (F0 m 51 ls [])) :
    ∀ (n : Nat) (v3 : Int32) (h : Hp) (H : Heap) (locs : List Loc) (ls : Array Slot), fX2_overlappingPair_L20 K51 n v0 v1 v2 v3 h = some (r, h1) → va_P g.1 vwCl (WW g h k) H → va_S (inA g) s.heap H locs → lv_has ls 4 [(0, .ref (g.2.2 v0)), (1, .int v1), (2, .int v2), (3, .int v3)] → W p l en (rmD 3) s m args below meth c H locs 0 0 (MQ below (QI g h1 k r) args s 0 0 (inA g)) (F0 m 20 ls []) := by
  have hx := X.1
  have hb := X.2.1
  intro n
  induction n with
  | zero => intro v3 h H locs ls  hf; simp only [fX2_overlappingPair_L20, reduceCtorEq] at hf
  | succ n ih =>
    intro v3 h H locs ls  hf hP hS hl
    rw [fX2_overlappingPair_L20] at hf
    refine lv_iload_n hx hb dX2_overlappingPair_20 rfl (lv_at hl 3 rfl) ?_
    refine lv_aload_n hx hb dX2_overlappingPair_21 rfl (lv_at hl 0 rfl) ?_
    refine gX2 X hP hv0 12 (v := .int (h v0 12)) rfl (by decide) rfl wd_133 dX2_overlappingPair_22 ?_
    refine lv_icmp_ge (tgt := 51) hx hb dX2_overlappingPair_25 (by decide) (fun c20 => ?_) (fun c20 => ?_)
    · have hf21 := if_at_t c20 hf
      clear hf
      exact hK51 h  _ _ _ hf21 hP hS (lv_sub hl [0, 1] rfl)
    · have hf22 := if_at_f c20 hf
      clear hf
      refine lv_iload_n hx hb dX2_overlappingPair_28 rfl (lv_at hl 2 rfl) ?_
      refine lv_aload_n hx hb dX2_overlappingPair_29 rfl (lv_at hl 0 rfl) ?_
      refine lv_iload_n hx hb dX2_overlappingPair_30 rfl (lv_at hl 3 rfl) ?_
      obtain ⟨x23, hh24, hg30, hf29⟩ := bd_some hf22
      refine x_ci (x_runV (As := [.int v3]) (rest := [.int v2]) X hP hS v0 (isE_lt hv0) (cl_E hv0) rfl (tX2_cellsUnder l X.2.2.2.2.2.2.1 hv0 hg30) mi_X2_118 rfl hl.1 rfl (Nat.le_of_ble_eq_true rfl) dX2_overlappingPair_31 ⟨Nat.le_of_ble_eq_true rfl, Nat.le_of_ble_eq_true rfl⟩ ⟨Nat.zero_le _, Nat.zero_le _⟩) hS (fun H25 lc26 hP27 hS28 => ?_)
      clear hf22 hP hS hg30
      refine lv_iand hx hb dX2_overlappingPair_34 ?_
      refine lv_if_eq (tgt := 45) hx hb dX2_overlappingPair_35 (by decide) (fun c31 => ?_) (fun c31 => ?_)
      · have hf32 := if_at_t c31 hf29
        clear hf29
        obtain ⟨x33, ex33⟩ : ∃ q : Int32, q = v3 + (1 : Int32) := ⟨_, rfl⟩
        have hf34 := lk_at ex33 hf32
        clear hf32
        refine lv_iinc (v := x33) (lv' := [(3, .int x33), (0, .ref (g.2.2 v0)), (1, .int v1), (2, .int v2)]) hx hb dX2_overlappingPair_45 hl (k := 3) rfl (by rw [ex33]; rfl) (by decide) rfl (fun ls35 hl36 => ?_)
        clear hl
        refine lv_goto (tgt := 20) hx hb dX2_overlappingPair_48 (by decide) ?_
        exact ih x33 hh24  _ _ _ hf34 hP27 hS28 (lv_sub hl36 [1, 2, 3, 0] rfl)
      · have hf37 := if_at_f c31 hf29
        clear hf29
        refine lv_bipush (v := 10) hx hb dX2_overlappingPair_38 (by decide) ?_
        refine lv_iload_n hx hb dX2_overlappingPair_40 rfl (lv_at hl 1 rfl) ?_
        refine lv_imul hx hb dX2_overlappingPair_41 ?_
        refine lv_iload_n hx hb dX2_overlappingPair_42 rfl (lv_at hl 3 rfl) ?_
        refine lv_iadd hx hb dX2_overlappingPair_43 ?_
        obtain ⟨rfl, rfl⟩ := ret_inj hf37
        exact x_iret X hr hlocks hP27 hS28 dX2_overlappingPair_44
set_option maxRecDepth 100000 in
set_option maxHeartbeats 4000000 in
theorem wX2_overlappingPair_L2 {p : Program} {l : Launch} {en : Env} {s : State} {m : MethodId} {args : Array Value} {below : List Frame} {meth : Method} {c : Code} {g : Gx} (X : Cx p s m args c cX2_overlappingPair 4 RX2 g) (hr : meth.sig.returnType = (some .int)) (hlocks : meth.locks = false) {k h1 : Hp} {r : Int32} {v0 : Nat} (hv0 : isE v0) 
     :
    ∀ (n : Nat) (v1 : Int32) (h : Hp) (H : Heap) (locs : List Loc) (ls : Array Slot), fX2_overlappingPair_L2 n v0 v1 h = some (r, h1) → va_P g.1 vwCl (WW g h k) H → va_S (inA g) s.heap H locs → lv_has ls 4 [(0, .ref (g.2.2 v0)), (1, .int v1)] → W p l en (rmD 3) s m args below meth c H locs 0 0 (MQ below (QI g h1 k r) args s 0 0 (inA g)) (F0 m 2 ls []) := by
  have hx := X.1
  have hb := X.2.1
  intro n
  induction n with
  | zero => intro v1 h H locs ls  hf; simp only [fX2_overlappingPair_L2, reduceCtorEq] at hf
  | succ n ih =>
    intro v1 h H locs ls  hf hP hS hl
    rw [fX2_overlappingPair_L2] at hf
    refine lv_iload_n hx hb dX2_overlappingPair_2 rfl (lv_at hl 1 rfl) ?_
    refine lv_aload_n hx hb dX2_overlappingPair_3 rfl (lv_at hl 0 rfl) ?_
    refine gX2 X hP hv0 12 (v := .int (h v0 12)) rfl (by decide) rfl wd_133 dX2_overlappingPair_4 ?_
    refine lv_icmp_ge (tgt := 57) hx hb dX2_overlappingPair_7 (by decide) (fun c3 => ?_) (fun c3 => ?_)
    · have hf4 := if_at_t c3 hf
      clear hf
      refine lv_ldc (v := -1000000) hx hb X.2.2.2.1 (X.2.2.2.2.1 _ wd_565) dX2_overlappingPair_57 ?_
      obtain ⟨rfl, rfl⟩ := ret_inj hf4
      exact x_iret X hr hlocks hP hS dX2_overlappingPair_59
    · have hf5 := if_at_f c3 hf
      clear hf
      refine lv_aload_n hx hb dX2_overlappingPair_10 rfl (lv_at hl 0 rfl) ?_
      refine lv_iload_n hx hb dX2_overlappingPair_11 rfl (lv_at hl 1 rfl) ?_
      obtain ⟨x6, hh7, hg13, hf12⟩ := bd_some hf5
      refine x_ci (x_runV (As := [.int v1]) (rest := []) X hP hS v0 (isE_lt hv0) (cl_E hv0) rfl (tX2_cellsUnder l X.2.2.2.2.2.2.1 hv0 hg13) mi_X2_118 rfl hl.1 rfl (Nat.le_of_ble_eq_true rfl) dX2_overlappingPair_12 ⟨Nat.le_of_ble_eq_true rfl, Nat.le_of_ble_eq_true rfl⟩ ⟨Nat.zero_le _, Nat.zero_le _⟩) hS (fun H8 lc9 hP10 hS11 => ?_)
      clear hf5 hP hS hg13
      refine lv_istore_n (lv' := [(2, .int x6), (0, .ref (g.2.2 v0)), (1, .int v1)]) hx hb dX2_overlappingPair_15 rfl hl (by decide) rfl (fun ls14 hl15 => ?_)
      clear hl
      refine lv_iload_n hx hb dX2_overlappingPair_16 rfl (lv_at hl15 2 rfl) ?_
      refine lv_iconst (v := 1) hx hb dX2_overlappingPair_17 (by decide) ?_
      refine lv_iadd hx hb dX2_overlappingPair_18 ?_
      refine lv_topi (fun x16 ex16 => ?_)
      have hf17 := lk_at ex16 hf12
      clear hf12
      refine lv_istore_n (lv' := [(3, .int x16), (2, .int x6), (0, .ref (g.2.2 v0)), (1, .int v1)]) hx hb dX2_overlappingPair_19 rfl hl15 (by decide) rfl (fun ls18 hl19 => ?_)
      clear hl15
      refine wX2_overlappingPair_L20 X hr hlocks hv0 ?_ 4096 x16 hh7 _ _ _  hf17 hP10 hS11 (lv_sub hl19 [2, 3, 1, 0] rfl)
      · intro  hh38 H39 lc40 ls41  hf45 hP42 hS43 hl44
        obtain ⟨x46, ex46⟩ : ∃ q : Int32, q = v1 + (1 : Int32) := ⟨_, rfl⟩
        have hf47 := lk_at ex46 hf45
        clear hf45
        refine lv_iinc (v := x46) (lv' := [(1, .int x46), (0, .ref (g.2.2 v0))]) hx hb dX2_overlappingPair_51 hl44 (k := 1) rfl (by rw [ex46]; rfl) (by decide) rfl (fun ls48 hl49 => ?_)
        clear hl44
        refine lv_goto (tgt := 2) hx hb dX2_overlappingPair_54 (by decide) ?_
        exact ih x46 hh38  _ _ _ hf47 hP42 hS43 (lv_sub hl49 [1, 0] rfl)
set_option maxRecDepth 100000 in
set_option maxHeartbeats 4000000 in
theorem tX2_overlappingPair (l : Launch) {g : Gx} (hI : InjG g) {h k h1 : Hp} {e : Nat} {r : Int32}  (he : isE e) (hf : fX2_overlappingPair e h = some (r, h1)) : CI l yX2_overlappingPair cX2_overlappingPair 4 (some .int) 3 g [.ref (g.2.2 e)] h k h1 k r := by
  refine Met.ofW (cc := cX2_overlappingPair) (maxL := 4) (ret := (some .int)) (by decide) rfl ?_
  intro p en s m args below meth c s₁ B hml hv
  obtain ⟨rfl, hSK, hSH, hP⟩ := hv
  have X : Cx p s m _ c cX2_overlappingPair 4 RX2 g := ⟨B.exec, B.bytes, hml, findClass_of_methodNamed B.named, fun w hw => atoms_spec (ws := wsy yX2_overlappingPair cX2_overlappingPair 4 (some .int)) B.pre w (List.mem_cons_of_mem _ hw), hSK, hI, hSH⟩
  have hr := B.returns
  have hlocks := B.notSynchronized
  have hx := X.1
  have hb := X.2.1
  have hS : va_S (inA g) s.heap s.heap [] := va_S.rf
  clear hSK hSH hml B
  have hl := lv_entry ([.ref (g.2.2 e)]) (n := 4) (Nat.le_of_ble_eq_true rfl)
  rw [lg_entry_eq]
  generalize (lg_sl ([.ref (g.2.2 e)]) ++ List.replicate (4 - (lg_sl ([.ref (g.2.2 e)])).length) Slot.unset).toArray = ls at hl ⊢
  have hl : lv_has ls 4 [(0, .ref (g.2.2 e))] := hl
  generalize ([.ref (g.2.2 e)] : List Value).toArray = args at X ⊢
  show W p l en (rmD 3) s m args below meth c s.heap [] 0 0 (MQ below (QI g h1 k r) args s 0 0 (inA g)) (F0 m 0 ls [])
  unfold fX2_overlappingPair at hf
  refine lv_iconst (v := 0) hx hb dX2_overlappingPair_0 (by decide) ?_
  refine lv_istore_n (lv' := [(1, .int (0 : Int32)), (0, .ref (g.2.2 e))]) hx hb dX2_overlappingPair_1 rfl hl (by decide) rfl (fun ls1 hl2 => ?_)
  clear hl
  refine wX2_overlappingPair_L2 X hr hlocks he  4096 (0 : Int32) h _ _ _  hf hP hS (lv_sub hl2 [1, 0] rfl)
set_option maxRecDepth 100000 in
set_option maxHeartbeats 4000000 in
theorem wX3_firstOverlap_L10 {p : Program} {l : Launch} {en : Env} {s : State} {m : MethodId} {args : Array Value} {below : List Frame} {meth : Method} {c : Code} {g : Gx} (X : Cx p s m args c cX3_firstOverlap 5 RX3 g) (hr : meth.sig.returnType = (some .int)) (hlocks : meth.locks = false) {k h1 : Hp} {r : Int32} {v2 : Int32}  {K32 : Int32 → Int32 → Hp → Option (Int32 × Hp)}
    (hK32 : ∀ (v3 : Int32) (v4 : Int32) (h : Hp) (H : Heap) (locs : List Loc) (ls : Array Slot), K32 v3 v4 h = some (r, h1) → va_P g.1 vwCl (WW g h k) H → va_S (inA g) s.heap H locs → lv_has ls 5 [(2, .int v2), (3, .int v3), (4, .int v4)] → W p l en (rmD 4) s m args below meth c H locs 0 0 (MQ below (QI g h1 k r) args s 0 0 (inA g)) (F0 m 32 ls [])) :
    ∀ (n : Nat) (v3 : Int32) (h : Hp) (H : Heap) (locs : List Loc) (ls : Array Slot), fX3_firstOverlap_L10 K32 n v2 v3 h = some (r, h1) → va_P g.1 vwCl (WW g h k) H → va_S (inA g) s.heap H locs → lv_has ls 5 [(0, .ref (g.2.2 210)), (2, .int v2), (3, .int v3)] → W p l en (rmD 4) s m args below meth c H locs 0 0 (MQ below (QI g h1 k r) args s 0 0 (inA g)) (F0 m 10 ls []) := by
  have hx := X.1
  have hb := X.2.1
  intro n
  induction n with
  | zero => intro v3 h H locs ls  hf; simp only [fX3_firstOverlap_L10, reduceCtorEq] at hf
  | succ n ih =>
    intro v3 h H locs ls  hf hP hS hl
    rw [fX3_firstOverlap_L10] at hf
    refine lv_iload_n hx hb dX3_firstOverlap_10 rfl (lv_at hl 2 rfl) ?_
    refine lv_bipush (v := 60) hx hb dX3_firstOverlap_11 (by decide) ?_
    refine lv_icmp_gt (tgt := 56) hx hb dX3_firstOverlap_13 (by decide) (fun c11 => ?_) (fun c11 => ?_)
    · have hf12 := if_at_t c11 hf
      clear hf
      refine lv_ldc (v := -1000000) hx hb X.2.2.2.1 (X.2.2.2.2.1 _ wd_621) dX3_firstOverlap_56 ?_
      obtain ⟨rfl, rfl⟩ := ret_inj hf12
      exact x_iret X hr hlocks hP hS dX3_firstOverlap_58
    · have hf13 := if_at_f c11 hf
      clear hf
      refine lv_aload_n hx hb dX3_firstOverlap_16 rfl (lv_at hl 0 rfl) ?_
      refine gX3 X hP 0 (v := .ref (g.2.2 14)) rfl (by decide) rfl wd_240 dX3_firstOverlap_17 ?_
      obtain ⟨x14, hh15, hg21, hf20⟩ := bd_some hf13
      refine x_ci (x_runV (As := []) (rest := []) X hP hS 14 (by decide) (cl_E (⟨rfl, by decide⟩ : isE 14)) rfl (tX2_overlappingPair l X.2.2.2.2.2.2.1 (⟨rfl, by decide⟩ : isE 14) hg21) mi_X3_48 rfl hl.1 rfl (Nat.le_of_ble_eq_true rfl) dX3_firstOverlap_20 ⟨Nat.le_of_ble_eq_true rfl, Nat.le_of_ble_eq_true rfl⟩ ⟨Nat.zero_le _, Nat.zero_le _⟩) hS (fun H16 lc17 hP18 hS19 => ?_)
      clear hf13 hP hS hg21
      refine lv_istore (lv' := [(4, .int x14), (0, .ref (g.2.2 210)), (2, .int v2), (3, .int v3)]) hx hb dX3_firstOverlap_23 hl (by decide) rfl (fun ls22 hl23 => ?_)
      clear hl
      refine lv_iload hx hb dX3_firstOverlap_25 (lv_at hl23 0 rfl) ?_
      refine lv_ldc (v := -1000000) hx hb X.2.2.2.1 (X.2.2.2.2.1 _ wd_621) dX3_firstOverlap_27 ?_
      refine lv_icmp_eq (tgt := 43) hx hb dX3_firstOverlap_29 (by decide) (fun c24 => ?_) (fun c24 => ?_)
      · have hf25 := if_at_t c24 hf20
        clear hf20
        refine lv_aload_n hx hb dX3_firstOverlap_43 rfl (lv_at hl23 1 rfl) ?_
        refine gX3 X hP18 0 (v := .ref (g.2.2 14)) rfl (by decide) rfl wd_240 dX3_firstOverlap_44 ?_
        obtain ⟨⟨⟩, hh27, hg33, hf32⟩ := bd_some hf25
        refine x_cv (x_runV (As := []) (rest := []) X hP18 hS19 14 (by decide) (cl_E (⟨rfl, by decide⟩ : isE 14)) rfl (tX2_passHour l X.2.2.2.2.2.2.1 (⟨rfl, by decide⟩ : isE 14) hg33) mi_X3_37 rfl hl23.1 rfl (Nat.le_of_ble_eq_true rfl) dX3_firstOverlap_47 ⟨Nat.le_of_ble_eq_true rfl, Nat.le_of_ble_eq_true rfl⟩ ⟨Nat.zero_le _, Nat.zero_le _⟩) hS19 (fun H28 lc29 hP30 hS31 => ?_)
        clear hf25 hP18 hS19 hg33
        obtain ⟨x34, ex34⟩ : ∃ q : Int32, q = v3 + (1 : Int32) := ⟨_, rfl⟩
        have hf35 := lk_at ex34 hf32
        clear hf32
        refine lv_iinc (v := x34) (lv' := [(3, .int x34), (4, .int x14), (0, .ref (g.2.2 210)), (2, .int v2)]) hx hb dX3_firstOverlap_50 hl23 (k := 3) rfl (by rw [ex34]; rfl) (by decide) rfl (fun ls36 hl37 => ?_)
        clear hl23
        refine lv_goto (tgt := 10) hx hb dX3_firstOverlap_53 (by decide) ?_
        exact ih x34 hh27  _ _ _ hf35 hP30 hS31 (lv_sub hl37 [2, 3, 0] rfl)
      · have hf38 := if_at_f c24 hf20
        clear hf20
        exact hK32 v3 x14 hh15  _ _ _ hf38 hP18 hS19 (lv_sub hl23 [2, 3, 0] rfl)
set_option maxRecDepth 100000 in
set_option maxHeartbeats 4000000 in
theorem tX3_firstOverlap (l : Launch) {g : Gx} (hI : InjG g) {h k h1 : Hp} {a1 : Nat} {a2 : Int32} {r : Int32}  (ha1 : isE a1) (hf : fX3_firstOverlap a1 a2 h = some (r, h1)) : CI l yX3_firstOverlap cX3_firstOverlap 5 (some .int) 4 g [.ref (g.2.2 210), .ref (g.2.2 a1), .int a2] h k h1 k r := by
  refine Met.ofW (cc := cX3_firstOverlap) (maxL := 5) (ret := (some .int)) (by decide) rfl ?_
  intro p en s m args below meth c s₁ B hml hv
  obtain ⟨rfl, hSK, hSH, hP⟩ := hv
  have X : Cx p s m _ c cX3_firstOverlap 5 RX3 g := ⟨B.exec, B.bytes, hml, findClass_of_methodNamed B.named, fun w hw => atoms_spec (ws := wsy yX3_firstOverlap cX3_firstOverlap 5 (some .int)) B.pre w (List.mem_cons_of_mem _ hw), hSK, hI, hSH⟩
  have hr := B.returns
  have hlocks := B.notSynchronized
  have hx := X.1
  have hb := X.2.1
  have hS : va_S (inA g) s.heap s.heap [] := va_S.rf
  clear hSK hSH hml B
  have hl := lv_entry ([.ref (g.2.2 210), .ref (g.2.2 a1), .int a2]) (n := 5) (Nat.le_of_ble_eq_true rfl)
  rw [lg_entry_eq]
  generalize (lg_sl ([.ref (g.2.2 210), .ref (g.2.2 a1), .int a2]) ++ List.replicate (5 - (lg_sl ([.ref (g.2.2 210), .ref (g.2.2 a1), .int a2])).length) Slot.unset).toArray = ls at hl ⊢
  have hl : lv_has ls 5 [(0, .ref (g.2.2 210)), (1, .ref (g.2.2 a1)), (2, .int a2)] := hl
  generalize ([.ref (g.2.2 210), .ref (g.2.2 a1), .int a2] : List Value).toArray = args at X ⊢
  show W p l en (rmD 4) s m args below meth c s.heap [] 0 0 (MQ below (QI g h1 k r) args s 0 0 (inA g)) (F0 m 0 ls [])
  unfold fX3_firstOverlap at hf
  refine lv_aload_n hx hb dX3_firstOverlap_0 rfl (lv_at hl 0 rfl) ?_
  refine gX3 X hP 0 (v := .ref (g.2.2 14)) rfl (by decide) rfl wd_240 dX3_firstOverlap_1 ?_
  refine lv_aload_n hx hb dX3_firstOverlap_4 rfl (lv_at hl 1 rfl) ?_
  obtain ⟨⟨⟩, hh2, hg8, hf7⟩ := bd_some hf
  refine x_cv (x_runV (As := [.ref (g.2.2 a1)]) (rest := []) X hP hS 14 (by decide) (cl_E (⟨rfl, by decide⟩ : isE 14)) rfl (tX2_become l X.2.2.2.2.2.2.1 (⟨rfl, by decide⟩ : isE 14) ha1 hg8) mi_X3_33 rfl hl.1 rfl (Nat.le_of_ble_eq_true rfl) dX3_firstOverlap_5 ⟨Nat.le_of_ble_eq_true rfl, Nat.le_of_ble_eq_true rfl⟩ ⟨Nat.zero_le _, Nat.zero_le _⟩) hS (fun H3 lc4 hP5 hS6 => ?_)
  clear hf hP hS hg8
  refine lv_iconst (v := 0) hx hb dX3_firstOverlap_8 (by decide) ?_
  refine lv_istore_n (lv' := [(3, .int (0 : Int32)), (0, .ref (g.2.2 210)), (1, .ref (g.2.2 a1)), (2, .int a2)]) hx hb dX3_firstOverlap_9 rfl hl (by decide) rfl (fun ls9 hl10 => ?_)
  clear hl
  refine wX3_firstOverlap_L10 X hr hlocks  ?_ 4096 (0 : Int32) hh2 _ _ _  hf7 hP5 hS6 (lv_sub hl10 [1, 3, 0] rfl)
  · intro x39 x40 hh41 H42 lc43 ls44  hf48 hP45 hS46 hl47
    refine lv_iload_n hx hb dX3_firstOverlap_32 rfl (lv_at hl47 0 rfl) ?_
    refine lv_if_ne (tgt := 40) hx hb dX3_firstOverlap_33 (by decide) (fun c49 => ?_) (fun c49 => ?_)
    · have hf50 := if_at_f c49 hf48
      clear hf48
      refine lv_iload hx hb dX3_firstOverlap_40 (lv_at hl47 2 rfl) ?_
      obtain ⟨rfl, rfl⟩ := ret_inj hf50
      exact x_iret X hr hlocks hP45 hS46 dX3_firstOverlap_42
    · have hf51 := if_at_t c49 hf48
      clear hf48
      refine lv_iload_n hx hb dX3_firstOverlap_36 rfl (lv_at hl47 1 rfl) ?_
      refine lv_goto (tgt := 42) hx hb dX3_firstOverlap_37 (by decide) ?_
      obtain ⟨rfl, rfl⟩ := ret_inj hf51
      exact x_iret X hr hlocks hP45 hS46 dX3_firstOverlap_42
set_option maxRecDepth 100000 in
set_option maxHeartbeats 4000000 in
theorem tX6_overlap (l : Launch) {g : Gx} (hI : InjG g) {h k h1 : Hp} {a1 : Int32} {r : Int32}   (hf : fX6_overlap a1 h = some (r, h1)) : CI l yX6_overlap cX6_overlap 2 (some .int) 5 g [.ref (g.2.2 203), .int a1] h k h1 k r := by
  refine Met.ofW (cc := cX6_overlap) (maxL := 2) (ret := (some .int)) (by decide) rfl ?_
  intro p en s m args below meth c s₁ B hml hv
  obtain ⟨rfl, hSK, hSH, hP⟩ := hv
  have X : Cx p s m _ c cX6_overlap 2 RX6 g := ⟨B.exec, B.bytes, hml, findClass_of_methodNamed B.named, fun w hw => atoms_spec (ws := wsy yX6_overlap cX6_overlap 2 (some .int)) B.pre w (List.mem_cons_of_mem _ hw), hSK, hI, hSH⟩
  have hr := B.returns
  have hlocks := B.notSynchronized
  have hx := X.1
  have hb := X.2.1
  have hS : va_S (inA g) s.heap s.heap [] := va_S.rf
  clear hSK hSH hml B
  have hl := lv_entry ([.ref (g.2.2 203), .int a1]) (n := 2) (Nat.le_of_ble_eq_true rfl)
  rw [lg_entry_eq]
  generalize (lg_sl ([.ref (g.2.2 203), .int a1]) ++ List.replicate (2 - (lg_sl ([.ref (g.2.2 203), .int a1])).length) Slot.unset).toArray = ls at hl ⊢
  have hl : lv_has ls 2 [(0, .ref (g.2.2 203)), (1, .int a1)] := hl
  generalize ([.ref (g.2.2 203), .int a1] : List Value).toArray = args at X ⊢
  show W p l en (rmD 5) s m args below meth c s.heap [] 0 0 (MQ below (QI g h1 k r) args s 0 0 (inA g)) (F0 m 0 ls [])
  unfold fX6_overlap at hf
  refine lv_aload_n hx hb dX6_overlap_0 rfl (lv_at hl 0 rfl) ?_
  refine gX6 X hP 2 (v := .ref (g.2.2 0)) rfl (by decide) rfl wd_299 dX6_overlap_1 ?_
  refine gX2 X hP (⟨rfl, by decide⟩ : isE 0) 6 (v := .int (h 0 6)) rfl (by decide) rfl wd_113 dX6_overlap_4 ?_
  refine lv_if_ne (tgt := 13) hx hb dX6_overlap_7 (by decide) (fun c1 => ?_) (fun c1 => ?_)
  · have hf2 := if_at_f c1 hf
    clear hf
    refine lv_iload_n hx hb dX6_overlap_13 rfl (lv_at hl 1 rfl) ?_
    refine lv_iconst (v := 0) hx hb dX6_overlap_14 (by decide) ?_
    refine lv_iconst (v := 1) hx hb dX6_overlap_15 (by decide) ?_
    obtain ⟨x3, hh4, hg10, hf9⟩ := bd_some hf2
    refine x_ci (x_runS (As := [.int a1, .int (0 : Int32), .int (1 : Int32)]) (rest := []) X hP hS (tX6_isWithin l X.2.2.2.2.2.2.1  hg10) mi_X6_59 rfl hl.1 rfl (Nat.le_of_ble_eq_true rfl) dX6_overlap_16 ⟨Nat.le_of_ble_eq_true rfl, Nat.le_of_ble_eq_true rfl⟩ ⟨Nat.zero_le _, Nat.zero_le _⟩) hS (fun H5 lc6 hP7 hS8 => ?_)
    clear hf2 hP hS hg10
    refine lv_if_ne (tgt := 25) hx hb dX6_overlap_19 (by decide) (fun c11 => ?_) (fun c11 => ?_)
    · have hf12 := if_at_f c11 hf9
      clear hf9
      refine lv_aload_n hx hb dX6_overlap_25 rfl (lv_at hl 0 rfl) ?_
      refine gX6 X hP7 5 (v := .ref (g.2.2 210)) rfl (by decide) rfl wd_302 dX6_overlap_26 ?_
      refine lv_aload_n hx hb dX6_overlap_29 rfl (lv_at hl 0 rfl) ?_
      refine gX6 X hP7 2 (v := .ref (g.2.2 0)) rfl (by decide) rfl wd_299 dX6_overlap_30 ?_
      refine lv_iload_n hx hb dX6_overlap_33 rfl (lv_at hl 1 rfl) ?_
      obtain ⟨x13, hh14, hg20, hf19⟩ := bd_some hf12
      refine x_ci (x_runV (As := [.ref (g.2.2 0), .int a1]) (rest := []) X hP7 hS8 210 (by decide) cl_Fo rfl (tX3_firstOverlap l X.2.2.2.2.2.2.1 (⟨rfl, by decide⟩ : isE 0) hg20) mi_X6_236 rfl hl.1 rfl (Nat.le_of_ble_eq_true rfl) dX6_overlap_34 ⟨Nat.le_of_ble_eq_true rfl, Nat.le_of_ble_eq_true rfl⟩ ⟨Nat.zero_le _, Nat.zero_le _⟩) hS8 (fun H15 lc16 hP17 hS18 => ?_)
      clear hf12 hP7 hS8 hg20
      obtain ⟨rfl, rfl⟩ := ret_inj hf19
      exact x_iret X hr hlocks hP17 hS18 dX6_overlap_37
    · have hf21 := if_at_t c11 hf9
      clear hf9
      refine lv_ldc (v := -1000001) hx hb X.2.2.2.1 (X.2.2.2.2.1 _ wd_335) dX6_overlap_22 ?_
      obtain ⟨rfl, rfl⟩ := ret_inj hf21
      exact x_iret X hr hlocks hP7 hS8 dX6_overlap_24
  · have hf22 := if_at_t c1 hf
    clear hf
    refine lv_ldc (v := -1000002) hx hb X.2.2.2.1 (X.2.2.2.2.1 _ wd_470) dX6_overlap_10 ?_
    obtain ⟨rfl, rfl⟩ := ret_inj hf22
    exact x_iret X hr hlocks hP hS dX6_overlap_12
set_option maxRecDepth 100000 in
set_option maxHeartbeats 4000000 in
theorem wX3_noteOver_L2 {p : Program} {l : Launch} {en : Env} {s : State} {m : MethodId} {args : Array Value} {below : List Frame} {meth : Method} {c : Code} {g : Gx} (X : Cx p s m args c cX3_noteOver 3 RX3 g) (hr : meth.sig.returnType = none) (hlocks : meth.locks = false) {k h1 : Hp} {v1 : Nat} (hv1 : isIA v1 = true) 
     :
    ∀ (n : Nat) (v2 : Int32) (h : Hp) (H : Heap) (locs : List Loc) (ls : Array Slot), fX3_noteOver_L2 n v1 v2 h = some ((), h1) → va_P g.1 vwCl (WW g h k) H → va_S (inA g) s.heap H locs → lv_has ls 3 [(0, .ref (g.2.2 210)), (1, .ref (g.2.2 v1)), (2, .int v2)] → W p l en (rmD 3) s m args below meth c H locs 0 0 (MQ below (QV g h1 k) args s 0 0 (inA g)) (F0 m 2 ls []) := by
  have hx := X.1
  have hb := X.2.1
  intro n
  induction n with
  | zero => intro v2 h H locs ls  hf; simp only [fX3_noteOver_L2, reduceCtorEq] at hf
  | succ n ih =>
    intro v2 h H locs ls  hf hP hS hl
    rw [fX3_noteOver_L2] at hf
    refine lv_iload_n hx hb dX3_noteOver_2 rfl (lv_at hl 2 rfl) ?_
    refine lv_aload_n hx hb dX3_noteOver_3 rfl (lv_at hl 0 rfl) ?_
    refine gX3 X hP 0 (v := .ref (g.2.2 14)) rfl (by decide) rfl wd_240 dX3_noteOver_4 ?_
    refine gX2 X hP (⟨rfl, by decide⟩ : isE 14) 7 (v := .int (h 14 7)) rfl (by decide) rfl wd_116 dX3_noteOver_7 ?_
    refine lv_icmp_ge (tgt := 30) hx hb dX3_noteOver_10 (by decide) (fun c3 => ?_) (fun c3 => ?_)
    · have hf4 := if_at_t c3 hf
      clear hf
      obtain ⟨-, rfl⟩ := ret_inj hf4
      exact x_vret X hr hlocks hP hS dX3_noteOver_30
    · have hf5 := if_at_f c3 hf
      clear hf
      refine lv_aload_n hx hb dX3_noteOver_13 rfl (lv_at hl 1 rfl) ?_
      refine lv_iload_n hx hb dX3_noteOver_14 rfl (lv_at hl 2 rfl) ?_
      refine lv_aload_n hx hb dX3_noteOver_15 rfl (lv_at hl 0 rfl) ?_
      refine gX3 X hP 0 (v := .ref (g.2.2 14)) rfl (by decide) rfl wd_240 dX3_noteOver_16 ?_
      refine lv_iload_n hx hb dX3_noteOver_19 rfl (lv_at hl 2 rfl) ?_
      obtain ⟨x6, hh7, hg13, hf12⟩ := bd_some hf5
      refine x_ci (x_runV (As := [.int v2]) (rest := [.int v2, .ref (g.2.2 v1)]) X hP hS 14 (by decide) (cl_E (⟨rfl, by decide⟩ : isE 14)) rfl (tX2_thicknessOver l X.2.2.2.2.2.2.1 (⟨rfl, by decide⟩ : isE 14) hg13) mi_X3_80 rfl hl.1 rfl (Nat.le_of_ble_eq_true rfl) dX3_noteOver_20 ⟨Nat.le_of_ble_eq_true rfl, Nat.le_of_ble_eq_true rfl⟩ ⟨Nat.zero_le _, Nat.zero_le _⟩) hS (fun H8 lc9 hP10 hS11 => ?_)
      clear hf5 hP hS hg13
      obtain ⟨hc14, hf15⟩ := chk_some hf12
      refine x_istC X hP10 hS11 v1 hv1 hc14 dX3_noteOver_23 (fun H16 lc17 hh18 ehh18 hP19 hS20 => ?_)
      have hf21 := lk_at ehh18 hf15
      clear hf15 hP10 hS11
      obtain ⟨x22, ex22⟩ : ∃ q : Int32, q = v2 + (1 : Int32) := ⟨_, rfl⟩
      have hf23 := lk_at ex22 hf21
      clear hf21
      refine lv_iinc (v := x22) (lv' := [(2, .int x22), (0, .ref (g.2.2 210)), (1, .ref (g.2.2 v1))]) hx hb dX3_noteOver_24 hl (k := 2) rfl (by rw [ex22]; rfl) (by decide) rfl (fun ls24 hl25 => ?_)
      clear hl
      refine lv_goto (tgt := 2) hx hb dX3_noteOver_27 (by decide) ?_
      exact ih x22 hh18  _ _ _ hf23 hP19 hS20 (lv_sub hl25 [1, 2, 0] rfl)
set_option maxRecDepth 100000 in
set_option maxHeartbeats 4000000 in
theorem tX3_noteOver (l : Launch) {g : Gx} (hI : InjG g) {h k h1 : Hp} {a1 : Nat}  (ha1 : isIA a1 = true) (hf : fX3_noteOver a1 h = some ((), h1)) : CV l yX3_noteOver cX3_noteOver 3 none 3 g [.ref (g.2.2 210), .ref (g.2.2 a1)] h k h1 k := by
  refine Met.ofW (cc := cX3_noteOver) (maxL := 3) (ret := none) (by decide) rfl ?_
  intro p en s m args below meth c s₁ B hml hv
  obtain ⟨rfl, hSK, hSH, hP⟩ := hv
  have X : Cx p s m _ c cX3_noteOver 3 RX3 g := ⟨B.exec, B.bytes, hml, findClass_of_methodNamed B.named, fun w hw => atoms_spec (ws := wsy yX3_noteOver cX3_noteOver 3 none) B.pre w (List.mem_cons_of_mem _ hw), hSK, hI, hSH⟩
  have hr := B.returns
  have hlocks := B.notSynchronized
  have hx := X.1
  have hb := X.2.1
  have hS : va_S (inA g) s.heap s.heap [] := va_S.rf
  clear hSK hSH hml B
  have hl := lv_entry ([.ref (g.2.2 210), .ref (g.2.2 a1)]) (n := 3) (Nat.le_of_ble_eq_true rfl)
  rw [lg_entry_eq]
  generalize (lg_sl ([.ref (g.2.2 210), .ref (g.2.2 a1)]) ++ List.replicate (3 - (lg_sl ([.ref (g.2.2 210), .ref (g.2.2 a1)])).length) Slot.unset).toArray = ls at hl ⊢
  have hl : lv_has ls 3 [(0, .ref (g.2.2 210)), (1, .ref (g.2.2 a1))] := hl
  generalize ([.ref (g.2.2 210), .ref (g.2.2 a1)] : List Value).toArray = args at X ⊢
  show W p l en (rmD 3) s m args below meth c s.heap [] 0 0 (MQ below (QV g h1 k) args s 0 0 (inA g)) (F0 m 0 ls [])
  unfold fX3_noteOver at hf
  refine lv_iconst (v := 0) hx hb dX3_noteOver_0 (by decide) ?_
  refine lv_istore_n (lv' := [(2, .int (0 : Int32)), (0, .ref (g.2.2 210)), (1, .ref (g.2.2 a1))]) hx hb dX3_noteOver_1 rfl hl (by decide) rfl (fun ls1 hl2 => ?_)
  clear hl
  refine wX3_noteOver_L2 X hr hlocks ha1  4096 (0 : Int32) h _ _ _  hf hP hS (lv_sub hl2 [1, 2, 0] rfl)
set_option maxRecDepth 100000 in
set_option maxHeartbeats 4000000 in
theorem tX3_weightOf (l : Launch) {g : Gx} (hI : InjG g) {h k h1 : Hp} {a1 : Int32} {a2 : Int32} {r : Int32}   (hf : fX3_weightOf a1 a2 h = some (r, h1)) : CI l yX3_weightOf cX3_weightOf 3 (some .int) 0 g [.ref (g.2.2 210), .int a1, .int a2] h k h1 k r := by
  refine Met.ofW (cc := cX3_weightOf) (maxL := 3) (ret := (some .int)) (by decide) rfl ?_
  intro p en s m args below meth c s₁ B hml hv
  obtain ⟨rfl, hSK, hSH, hP⟩ := hv
  have X : Cx p s m _ c cX3_weightOf 3 RX3 g := ⟨B.exec, B.bytes, hml, findClass_of_methodNamed B.named, fun w hw => atoms_spec (ws := wsy yX3_weightOf cX3_weightOf 3 (some .int)) B.pre w (List.mem_cons_of_mem _ hw), hSK, hI, hSH⟩
  have hr := B.returns
  have hlocks := B.notSynchronized
  have hx := X.1
  have hb := X.2.1
  have hS : va_S (inA g) s.heap s.heap [] := va_S.rf
  clear hSK hSH hml B
  have hl := lv_entry ([.ref (g.2.2 210), .int a1, .int a2]) (n := 3) (Nat.le_of_ble_eq_true rfl)
  rw [lg_entry_eq]
  generalize (lg_sl ([.ref (g.2.2 210), .int a1, .int a2]) ++ List.replicate (3 - (lg_sl ([.ref (g.2.2 210), .int a1, .int a2])).length) Slot.unset).toArray = ls at hl ⊢
  have hl : lv_has ls 3 [(0, .ref (g.2.2 210)), (1, .int a1), (2, .int a2)] := hl
  generalize ([.ref (g.2.2 210), .int a1, .int a2] : List Value).toArray = args at X ⊢
  show W p l en (rmD 0) s m args below meth c s.heap [] 0 0 (MQ below (QI g h1 k r) args s 0 0 (inA g)) (F0 m 0 ls [])
  unfold fX3_weightOf at hf
  refine lv_aload_n hx hb dX3_weightOf_0 rfl (lv_at hl 0 rfl) ?_
  refine gX3 X hP 1 (v := .ref (g.2.2 211)) rfl (by decide) rfl wd_241 dX3_weightOf_1 ?_
  refine lv_iload_n hx hb dX3_weightOf_4 rfl (lv_at hl 1 rfl) ?_
  obtain ⟨hc1, hf2⟩ := chk_some hf
  refine x_overT X hP hc1 dX3_weightOf_5 ?_
  refine lv_iload_n hx hb dX3_weightOf_6 rfl (lv_at hl 2 rfl) ?_
  obtain ⟨hc3, hf4⟩ := chk_some hf2
  refine x_ildC X hP (212 + a1.toNatClampNeg) (ia_ov hc1) hc3 dX3_weightOf_7 ?_
  refine lv_aload_n hx hb dX3_weightOf_8 rfl (lv_at hl 0 rfl) ?_
  refine gX3 X hP 2 (v := .ref (g.2.2 218)) rfl (by decide) rfl wd_242 dX3_weightOf_9 ?_
  refine lv_iload_n hx hb dX3_weightOf_12 rfl (lv_at hl 1 rfl) ?_
  refine lv_iconst (v := 1) hx hb dX3_weightOf_13 (by decide) ?_
  refine lv_iadd hx hb dX3_weightOf_14 ?_
  obtain ⟨hc5, hf6⟩ := chk_some hf4
  refine x_leastF X hP hc5 dX3_weightOf_15 ?_
  refine lv_iload_n hx hb dX3_weightOf_16 rfl (lv_at hl 2 rfl) ?_
  obtain ⟨hc7, hf8⟩ := chk_some hf6
  refine x_ildC X hP (219 + (a1 + (1 : Int32)).toNatClampNeg) (ia_lf hc5) hc7 dX3_weightOf_17 ?_
  refine lv_iadd hx hb dX3_weightOf_18 ?_
  obtain ⟨rfl, rfl⟩ := ret_inj hf8
  exact x_iret X hr hlocks hP hS dX3_weightOf_19
set_option maxRecDepth 100000 in
set_option maxHeartbeats 4000000 in
theorem wX3_bestNext_L30 {p : Program} {l : Launch} {en : Env} {s : State} {m : MethodId} {args : Array Value} {below : List Frame} {meth : Method} {c : Code} {g : Gx} (X : Cx p s m args c cX3_bestNext 6 RX3 g) (hr : meth.sig.returnType = (some .int)) (hlocks : meth.locks = false) {k h1 : Hp} {r : Int32} {v1 : Int32} {v4 : Int32}  
     :
    ∀ (n : Nat) (v3 : Int32) (v5 : Int32) (h : Hp) (H : Heap) (locs : List Loc) (ls : Array Slot), fX3_bestNext_L30 n v1 v3 v4 v5 h = some (r, h1) → va_P g.1 vwCl (WW g h k) H → va_S (inA g) s.heap H locs → lv_has ls 6 [(0, .ref (g.2.2 210)), (1, .int v1), (3, .int v3), (4, .int v4), (5, .int v5)] → W p l en (rmD 2) s m args below meth c H locs 0 0 (MQ below (QI g h1 k r) args s 0 0 (inA g)) (F0 m 30 ls []) := by
  have hx := X.1
  have hb := X.2.1
  intro n
  induction n with
  | zero => intro v3 v5 h H locs ls  hf; simp only [fX3_bestNext_L30, reduceCtorEq] at hf
  | succ n ih =>
    intro v3 v5 h H locs ls  hf hP hS hl
    rw [fX3_bestNext_L30] at hf
    refine lv_iload hx hb dX3_bestNext_30 (lv_at hl 4 rfl) ?_
    refine lv_iload hx hb dX3_bestNext_32 (lv_at hl 3 rfl) ?_
    refine lv_icmp_gt (tgt := 62) hx hb dX3_bestNext_34 (by decide) (fun c13 => ?_) (fun c13 => ?_)
    · have hf14 := if_at_t c13 hf
      clear hf
      refine lv_iload_n hx hb dX3_bestNext_62 rfl (lv_at hl 2 rfl) ?_
      obtain ⟨rfl, rfl⟩ := ret_inj hf14
      exact x_iret X hr hlocks hP hS dX3_bestNext_63
    · have hf15 := if_at_f c13 hf
      clear hf
      refine lv_aload_n hx hb dX3_bestNext_37 rfl (lv_at hl 0 rfl) ?_
      refine lv_iload_n hx hb dX3_bestNext_38 rfl (lv_at hl 1 rfl) ?_
      refine lv_iload hx hb dX3_bestNext_39 (lv_at hl 4 rfl) ?_
      obtain ⟨x16, hh17, hg23, hf22⟩ := bd_some hf15
      refine x_ci (x_runV (As := [.int v1, .int v5]) (rest := []) X hP hS 210 (by decide) cl_Fo rfl (tX3_weightOf l X.2.2.2.2.2.2.1  hg23) mi_X3_77 rfl hl.1 rfl (Nat.le_of_ble_eq_true rfl) dX3_bestNext_41 ⟨Nat.le_of_ble_eq_true rfl, Nat.le_of_ble_eq_true rfl⟩ ⟨Nat.zero_le _, Nat.zero_le _⟩) hS (fun H18 lc19 hP20 hS21 => ?_)
      clear hf15 hP hS hg23
      refine lv_aload_n hx hb dX3_bestNext_44 rfl (lv_at hl 0 rfl) ?_
      refine lv_iload_n hx hb dX3_bestNext_45 rfl (lv_at hl 1 rfl) ?_
      refine lv_iload_n hx hb dX3_bestNext_46 rfl (lv_at hl 2 rfl) ?_
      obtain ⟨x24, hh25, hg31, hf30⟩ := bd_some hf22
      refine x_ci (x_runV (As := [.int v1, .int v3]) (rest := [.int x16]) X hP20 hS21 210 (by decide) cl_Fo rfl (tX3_weightOf l X.2.2.2.2.2.2.1  hg31) mi_X3_77 rfl hl.1 rfl (Nat.le_of_ble_eq_true rfl) dX3_bestNext_47 ⟨Nat.le_of_ble_eq_true rfl, Nat.le_of_ble_eq_true rfl⟩ ⟨Nat.zero_le _, Nat.zero_le _⟩) hS21 (fun H26 lc27 hP28 hS29 => ?_)
      clear hf22 hP20 hS21 hg31
      obtain ⟨J56_32, eJ56_32, hf45⟩ := jp_at hf30
      clear hf30
      have hJ56_32 : ∀ (J56_32v3 : Int32) (hh33 : Hp) (H34 : Heap) (lc35 : List Loc) (ls36 : Array Slot), J56_32 J56_32v3 hh33 = some (r, h1) → va_P g.1 vwCl (WW g hh33 k) H34 → va_S (inA g) s.heap H34 lc35 → lv_has ls36 6 [(0, .ref (g.2.2 210)), (1, .int v1), (3, .int J56_32v3), (4, .int v4), (5, .int v5)] → W p l en (rmD 2) s m args below meth c H34 lc35 0 0 (MQ below (QI g h1 k r) args s 0 0 (inA g)) (F0 m 56 ls36 []) := by
        intro J56_32v3 hh33 H34 lc35 ls36 hf40 hP37 hS38 hl39
        clear hf45 hP28 hS29 hl
        subst eJ56_32
        obtain ⟨x41, ex41⟩ : ∃ q : Int32, q = v5 + (1 : Int32) := ⟨_, rfl⟩
        have hf42 := lk_at ex41 hf40
        clear hf40
        refine lv_iinc (v := x41) (lv' := [(5, .int x41), (0, .ref (g.2.2 210)), (1, .int v1), (3, .int J56_32v3), (4, .int v4)]) hx hb dX3_bestNext_56 hl39 (k := 4) rfl (by rw [ex41]; rfl) (by decide) rfl (fun ls43 hl44 => ?_)
        clear hl39
        refine lv_goto (tgt := 30) hx hb dX3_bestNext_59 (by decide) ?_
        exact ih J56_32v3 x41 hh33  _ _ _ hf42 hP37 hS38 (lv_sub hl44 [1, 2, 3, 4, 0] rfl)
      clear eJ56_32
      refine lv_icmp_ge (tgt := 56) hx hb dX3_bestNext_50 (by decide) (fun c46 => ?_) (fun c46 => ?_)
      · have hf47 := if_at_t c46 hf45
        clear hf45
        exact hJ56_32 v3 hh25  _ _ _ hf47 hP28 hS29 (lv_sub hl [0, 1, 2, 3, 4] rfl)
      · have hf48 := if_at_f c46 hf45
        clear hf45
        refine lv_iload hx hb dX3_bestNext_53 (lv_at hl 4 rfl) ?_
        refine lv_istore_n (lv' := [(3, .int v5), (0, .ref (g.2.2 210)), (1, .int v1), (4, .int v4), (5, .int v5)]) hx hb dX3_bestNext_55 rfl hl (by decide) rfl (fun ls49 hl50 => ?_)
        clear hl
        exact hJ56_32 v5 hh25  _ _ _ hf48 hP28 hS29 (lv_sub hl50 [1, 2, 0, 3, 4] rfl)
set_option maxRecDepth 100000 in
set_option maxHeartbeats 4000000 in
theorem tX3_bestNext (l : Launch) {g : Gx} (hI : InjG g) {h k h1 : Hp} {a1 : Int32} {a2 : Int32} {r : Int32}   (hf : fX3_bestNext a1 a2 h = some (r, h1)) : CI l yX3_bestNext cX3_bestNext 6 (some .int) 2 g [.ref (g.2.2 210), .int a1, .int a2] h k h1 k r := by
  refine Met.ofW (cc := cX3_bestNext) (maxL := 6) (ret := (some .int)) (by decide) rfl ?_
  intro p en s m args below meth c s₁ B hml hv
  obtain ⟨rfl, hSK, hSH, hP⟩ := hv
  have X : Cx p s m _ c cX3_bestNext 6 RX3 g := ⟨B.exec, B.bytes, hml, findClass_of_methodNamed B.named, fun w hw => atoms_spec (ws := wsy yX3_bestNext cX3_bestNext 6 (some .int)) B.pre w (List.mem_cons_of_mem _ hw), hSK, hI, hSH⟩
  have hr := B.returns
  have hlocks := B.notSynchronized
  have hx := X.1
  have hb := X.2.1
  have hS : va_S (inA g) s.heap s.heap [] := va_S.rf
  clear hSK hSH hml B
  have hl := lv_entry ([.ref (g.2.2 210), .int a1, .int a2]) (n := 6) (Nat.le_of_ble_eq_true rfl)
  rw [lg_entry_eq]
  generalize (lg_sl ([.ref (g.2.2 210), .int a1, .int a2]) ++ List.replicate (6 - (lg_sl ([.ref (g.2.2 210), .int a1, .int a2])).length) Slot.unset).toArray = ls at hl ⊢
  have hl : lv_has ls 6 [(0, .ref (g.2.2 210)), (1, .int a1), (2, .int a2)] := hl
  generalize ([.ref (g.2.2 210), .int a1, .int a2] : List Value).toArray = args at X ⊢
  show W p l en (rmD 2) s m args below meth c s.heap [] 0 0 (MQ below (QI g h1 k r) args s 0 0 (inA g)) (F0 m 0 ls [])
  unfold fX3_bestNext at hf
  refine lv_iload_n hx hb dX3_bestNext_0 rfl (lv_at hl 2 rfl) ?_
  refine lv_iconst (v := 1) hx hb dX3_bestNext_1 (by decide) ?_
  refine lv_isub hx hb dX3_bestNext_2 ?_
  refine lv_iconst (v := 0) hx hb dX3_bestNext_3 (by decide) ?_
  refine x_mmax X hl.1 ⟨wd_662, wd_663, wd_69, wd_664⟩ ⟨Nat.le_of_ble_eq_true rfl, Nat.le_of_ble_eq_true rfl⟩ ⟨Nat.zero_le _, Nat.zero_le _⟩ dX3_bestNext_4 ?_
  refine lv_topi (fun x1 ex1 => ?_)
  have hf2 := lk_at ex1 hf
  clear hf
  refine lv_istore_n (lv' := [(3, .int x1), (0, .ref (g.2.2 210)), (1, .int a1), (2, .int a2)]) hx hb dX3_bestNext_7 rfl hl (by decide) rfl (fun ls3 hl4 => ?_)
  clear hl
  refine lv_iload_n hx hb dX3_bestNext_8 rfl (lv_at hl4 3 rfl) ?_
  refine lv_iconst (v := 1) hx hb dX3_bestNext_9 (by decide) ?_
  refine lv_iadd hx hb dX3_bestNext_10 ?_
  refine lv_aload_n hx hb dX3_bestNext_11 rfl (lv_at hl4 1 rfl) ?_
  refine gX3 X hP 0 (v := .ref (g.2.2 14)) rfl (by decide) rfl wd_240 dX3_bestNext_12 ?_
  refine gX2 X hP (⟨rfl, by decide⟩ : isE 14) 7 (v := .int (h 14 7)) rfl (by decide) rfl wd_116 dX3_bestNext_15 ?_
  refine lv_iconst (v := 1) hx hb dX3_bestNext_18 (by decide) ?_
  refine lv_isub hx hb dX3_bestNext_19 ?_
  refine x_mmin X hl4.1 ⟨wd_665, wd_485, wd_69, wd_486⟩ ⟨Nat.le_of_ble_eq_true rfl, Nat.le_of_ble_eq_true rfl⟩ ⟨Nat.zero_le _, Nat.zero_le _⟩ dX3_bestNext_20 ?_
  refine lv_topi (fun x5 ex5 => ?_)
  have hf6 := lk_at ex5 hf2
  clear hf2
  refine lv_istore (lv' := [(4, .int x5), (3, .int x1), (0, .ref (g.2.2 210)), (1, .int a1), (2, .int a2)]) hx hb dX3_bestNext_23 hl4 (by decide) rfl (fun ls7 hl8 => ?_)
  clear hl4
  refine lv_iload_n hx hb dX3_bestNext_25 rfl (lv_at hl8 1 rfl) ?_
  refine lv_iconst (v := 1) hx hb dX3_bestNext_26 (by decide) ?_
  refine lv_iadd hx hb dX3_bestNext_27 ?_
  refine lv_topi (fun x9 ex9 => ?_)
  have hf10 := lk_at ex9 hf6
  clear hf6
  refine lv_istore (lv' := [(5, .int x9), (4, .int x5), (3, .int x1), (0, .ref (g.2.2 210)), (1, .int a1), (2, .int a2)]) hx hb dX3_bestNext_28 hl8 (by decide) rfl (fun ls11 hl12 => ?_)
  clear hl8
  refine wX3_bestNext_L30 X hr hlocks   4096 x1 x9 h _ _ _  hf10 hP hS (lv_sub hl12 [3, 4, 2, 1, 0] rfl)
