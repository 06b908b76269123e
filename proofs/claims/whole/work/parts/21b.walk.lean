set_option maxRecDepth 100000 in
set_option maxHeartbeats 4000000 in
theorem tX7_drift (l : Launch) {g : Gx} (hI : InjG g) {h k k1 : Hp} {a1 : Nat} {a2 : Int32} {a3 : Int32}  (ha1 : isMA a1 = true) (hf : fX7_drift a1 a2 a3 k = some ((), k1)) : CV l yX7_drift cX7_drift 7 none 1 g [.ref (g.2.2 a1), .int a2, .int a3] h k h k1 := by
  refine Met.ofW (cc := cX7_drift) (maxL := 7) (ret := none) (by decide) rfl ?_
  intro p en s m args below meth c s₁ B hml hv
  obtain ⟨rfl, hSK, hSH, hP⟩ := hv
  have X : Cx p s m _ c cX7_drift 7 RX7 g := ⟨B.exec, B.bytes, hml, findClass_of_methodNamed B.named, fun w hw => atoms_spec (ws := wsy yX7_drift cX7_drift 7 none) B.pre w (List.mem_cons_of_mem _ hw), hSK, hI, hSH⟩
  have hr := B.returns
  have hlocks := B.notSynchronized
  have hx := X.1
  have hb := X.2.1
  have hS : va_S (inA g) s.heap s.heap [] := va_S.rf
  clear hSK hSH hml B
  have hl := lv_entry ([.ref (g.2.2 a1), .int a2, .int a3]) (n := 7) (Nat.le_of_ble_eq_true rfl)
  rw [lg_entry_eq]
  generalize (lg_sl ([.ref (g.2.2 a1), .int a2, .int a3]) ++ List.replicate (7 - (lg_sl ([.ref (g.2.2 a1), .int a2, .int a3])).length) Slot.unset).toArray = ls at hl ⊢
  have hl : lv_has ls 7 [(0, .ref (g.2.2 a1)), (1, .int a2), (2, .int a3)] := hl
  generalize ([.ref (g.2.2 a1), .int a2, .int a3] : List Value).toArray = args at X ⊢
  show W p l en (rmD 1) s m args below meth c s.heap [] 0 0 (MQ below (QV g h k1) args s 0 0 (inA g)) (F0 m 0 ls [])
  unfold fX7_drift at hf
  refine lv_aload_n hx hb dX7_drift_0 rfl (lv_at hl 0 rfl) ?_
  refine lv_bipush (v := 6) hx hb dX7_drift_1 (by decide) ?_
  obtain ⟨hc1, hf2⟩ := chk_some hf
  refine x_ildM X hP a1 ha1 hc1 dX7_drift_3 ?_
  refine lv_iconst (v := 2) hx hb dX7_drift_4 (by decide) ?_
  refine x_irem X dX7_drift_5 (by decide) ?_
  refine lv_iconst (v := 1) hx hb dX7_drift_6 (by decide) ?_
  obtain ⟨J15_3, eJ15_3, hf192⟩ := jp_at hf2
  clear hf2
  have hJ15_3 : ∀ (J15_3s0 : Int32) (kk4 : Hp) (H5 : Heap) (lc6 : List Loc) (ls7 : Array Slot), J15_3 J15_3s0 kk4 = some ((), k1) → va_P g.1 vwCl (WW g h kk4) H5 → va_S (inA g) s.heap H5 lc6 → lv_has ls7 7 [(0, .ref (g.2.2 a1)), (1, .int a2), (2, .int a3)] → W p l en (rmD 1) s m args below meth c H5 lc6 0 0 (MQ below (QV g h k1) args s 0 0 (inA g)) (F0 m 15 ls7 [.int J15_3s0]) := by
    intro J15_3s0 kk4 H5 lc6 ls7 hf11 hP8 hS9 hl10
    clear hf192 hP hS hl
    subst eJ15_3
    refine lv_istore_n (lv' := [(3, .int J15_3s0), (0, .ref (g.2.2 a1)), (1, .int a2), (2, .int a3)]) hx hb dX7_drift_15 rfl hl10 (by decide) rfl (fun ls12 hl13 => ?_)
    clear hl10
    refine lv_aload_n hx hb dX7_drift_16 rfl (lv_at hl13 1 rfl) ?_
    refine lv_iload_n hx hb dX7_drift_17 rfl (lv_at hl13 2 rfl) ?_
    refine lv_iconst (v := 1) hx hb dX7_drift_18 (by decide) ?_
    obtain ⟨x14, kk15, hg21, hf20⟩ := bd_some hf11
    refine x_ci (x_runS (As := [.ref (g.2.2 a1), .int a2, .int (1 : Int32)]) (rest := []) X hP8 hS9 (tX7_of l X.2.2.2.2.2.2.1 ha1 hg21) mi_X7_152 rfl hl13.1 rfl (Nat.le_of_ble_eq_true rfl) dX7_drift_19 ⟨Nat.le_of_ble_eq_true rfl, Nat.le_of_ble_eq_true rfl⟩ ⟨Nat.zero_le _, Nat.zero_le _⟩) hS9 (fun H16 lc17 hP18 hS19 => ?_)
    clear hf11 hP8 hS9 hg21
    refine lv_istore (lv' := [(4, .int x14), (3, .int J15_3s0), (0, .ref (g.2.2 a1)), (1, .int a2), (2, .int a3)]) hx hb dX7_drift_22 hl13 (by decide) rfl (fun ls22 hl23 => ?_)
    clear hl13
    refine lv_aload_n hx hb dX7_drift_24 rfl (lv_at hl23 2 rfl) ?_
    refine lv_iload_n hx hb dX7_drift_25 rfl (lv_at hl23 3 rfl) ?_
    refine lv_iconst (v := 3) hx hb dX7_drift_26 (by decide) ?_
    obtain ⟨x24, kk25, hg31, hf30⟩ := bd_some hf20
    refine x_ci (x_runS (As := [.ref (g.2.2 a1), .int a2, .int (3 : Int32)]) (rest := []) X hP18 hS19 (tX7_of l X.2.2.2.2.2.2.1 ha1 hg31) mi_X7_152 rfl hl23.1 rfl (Nat.le_of_ble_eq_true rfl) dX7_drift_27 ⟨Nat.le_of_ble_eq_true rfl, Nat.le_of_ble_eq_true rfl⟩ ⟨Nat.zero_le _, Nat.zero_le _⟩) hS19 (fun H26 lc27 hP28 hS29 => ?_)
    clear hf20 hP18 hS19 hg31
    refine lv_istore (lv' := [(5, .int x24), (4, .int x14), (3, .int J15_3s0), (0, .ref (g.2.2 a1)), (1, .int a2), (2, .int a3)]) hx hb dX7_drift_30 hl23 (by decide) rfl (fun ls32 hl33 => ?_)
    clear hl23
    refine lv_iload_n hx hb dX7_drift_32 rfl (lv_at hl33 2 rfl) ?_
    obtain ⟨J41_34, eJ41_34, hf188⟩ := jp_at hf30
    clear hf30
    have hJ41_34 : ∀ (J41_34s0 : Int32) (kk35 : Hp) (H36 : Heap) (lc37 : List Loc) (ls38 : Array Slot), J41_34 J41_34s0 kk35 = some ((), k1) → va_P g.1 vwCl (WW g h kk35) H36 → va_S (inA g) s.heap H36 lc37 → lv_has ls38 7 [(0, .ref (g.2.2 a1)), (1, .int a2), (2, .int a3), (4, .int x14), (5, .int x24)] → W p l en (rmD 1) s m args below meth c H36 lc37 0 0 (MQ below (QV g h k1) args s 0 0 (inA g)) (F0 m 41 ls38 [.int J41_34s0]) := by
      intro J41_34s0 kk35 H36 lc37 ls38 hf42 hP39 hS40 hl41
      clear hf188 hP28 hS29 hl33
      subst eJ41_34
      refine lv_istore (lv' := [(6, .int J41_34s0), (0, .ref (g.2.2 a1)), (1, .int a2), (2, .int a3), (4, .int x14), (5, .int x24)]) hx hb dX7_drift_41 hl41 (by decide) rfl (fun ls43 hl44 => ?_)
      clear hl41
      refine lv_aload_n hx hb dX7_drift_43 rfl (lv_at hl44 1 rfl) ?_
      refine lv_iload_n hx hb dX7_drift_44 rfl (lv_at hl44 2 rfl) ?_
      refine lv_iconst (v := 0) hx hb dX7_drift_45 (by decide) ?_
      obtain ⟨x45, kk46, hg52, hf51⟩ := bd_some hf42
      refine x_ci (x_runS (As := [.ref (g.2.2 a1), .int a2, .int (0 : Int32)]) (rest := []) X hP39 hS40 (tX7_of l X.2.2.2.2.2.2.1 ha1 hg52) mi_X7_152 rfl hl44.1 rfl (Nat.le_of_ble_eq_true rfl) dX7_drift_46 ⟨Nat.le_of_ble_eq_true rfl, Nat.le_of_ble_eq_true rfl⟩ ⟨Nat.zero_le _, Nat.zero_le _⟩) hS40 (fun H47 lc48 hP49 hS50 => ?_)
      clear hf42 hP39 hS40 hg52
      obtain ⟨J153_53, eJ153_53, hf122⟩ := jp_at hf51
      clear hf51
      have hJ153_53 : ∀ (J153_53v4 : Int32) (J153_53v6 : Int32) (kk54 : Hp) (H55 : Heap) (lc56 : List Loc) (ls57 : Array Slot), J153_53 J153_53v4 J153_53v6 kk54 = some ((), k1) → va_P g.1 vwCl (WW g h kk54) H55 → va_S (inA g) s.heap H55 lc56 → lv_has ls57 7 [(0, .ref (g.2.2 a1)), (1, .int a2), (4, .int J153_53v4), (5, .int x24), (6, .int J153_53v6)] → W p l en (rmD 1) s m args below meth c H55 lc56 0 0 (MQ below (QV g h k1) args s 0 0 (inA g)) (F0 m 153 ls57 []) := by
        intro J153_53v4 J153_53v6 kk54 H55 lc56 ls57 hf61 hP58 hS59 hl60
        clear hf122 hP49 hS50 hl44
        subst eJ153_53
        refine lv_iload hx hb dX7_drift_153 (lv_at hl60 3 rfl) ?_
        refine lv_iload hx hb dX7_drift_155 (lv_at hl60 4 rfl) ?_
        refine lv_isub hx hb dX7_drift_157 ?_
        refine lv_topi (fun x62 ex62 => ?_)
        have hf63 := lk_at ex62 hf61
        clear hf61
        refine lv_istore (lv' := [(5, .int x62), (0, .ref (g.2.2 a1)), (1, .int a2), (4, .int J153_53v4), (6, .int J153_53v6)]) hx hb dX7_drift_158 hl60 (by decide) rfl (fun ls64 hl65 => ?_)
        clear hl60
        refine lv_iload hx hb dX7_drift_160 (lv_at hl65 0 rfl) ?_
        obtain ⟨J180_66, eJ180_66, hf83⟩ := jp_at hf63
        clear hf63
        have hJ180_66 : ∀  (kk67 : Hp) (H68 : Heap) (lc69 : List Loc) (ls70 : Array Slot), J180_66  kk67 = some ((), k1) → va_P g.1 vwCl (WW g h kk67) H68 → va_S (inA g) s.heap H68 lc69 → lv_has ls70 7 [(0, .ref (g.2.2 a1)), (1, .int a2)] → W p l en (rmD 1) s m args below meth c H68 lc69 0 0 (MQ below (QV g h k1) args s 0 0 (inA g)) (F0 m 180 ls70 []) := by
          intro  kk67 H68 lc69 ls70 hf74 hP71 hS72 hl73
          clear hf83 hP58 hS59 hl65
          subst eJ180_66
          refine lv_aload_n hx hb dX7_drift_180 rfl (lv_at hl73 0 rfl) ?_
          refine lv_iload_n hx hb dX7_drift_181 rfl (lv_at hl73 1 rfl) ?_
          refine lv_iconst (v := 5) hx hb dX7_drift_182 (by decide) ?_
          refine lv_iconst (v := 0) hx hb dX7_drift_183 (by decide) ?_
          obtain ⟨⟨⟩, kk76, hg82, hf81⟩ := bd_some hf74
          refine x_cv (x_runS (As := [.ref (g.2.2 a1), .int a2, .int (5 : Int32), .int (0 : Int32)]) (rest := []) X hP71 hS72 (tX7_be l X.2.2.2.2.2.2.1 ha1 hg82) mi_X7_163 rfl hl73.1 rfl (Nat.le_of_ble_eq_true rfl) dX7_drift_184 ⟨Nat.le_of_ble_eq_true rfl, Nat.le_of_ble_eq_true rfl⟩ ⟨Nat.zero_le _, Nat.zero_le _⟩) hS72 (fun H77 lc78 hP79 hS80 => ?_)
          clear hf74 hP71 hS72 hg82
          obtain ⟨-, rfl⟩ := ret_inj hf81
          exact x_vret X hr hlocks hP79 hS80 dX7_drift_187
        clear eJ180_66
        refine lv_if_le (tgt := 180) hx hb dX7_drift_162 (by decide) (fun c84 => ?_) (fun c84 => ?_)
        · have hf85 := if_at_t c84 hf83
          clear hf83
          exact hJ180_66 kk54  _ _ _ hf85 hP58 hS59 (lv_sub hl65 [1, 2] rfl)
        · have hf86 := if_at_f c84 hf83
          clear hf83
          refine lv_aload_n hx hb dX7_drift_165 rfl (lv_at hl65 1 rfl) ?_
          refine lv_iload hx hb dX7_drift_166 (lv_at hl65 3 rfl) ?_
          refine lv_aload_n hx hb dX7_drift_168 rfl (lv_at hl65 1 rfl) ?_
          refine lv_iload_n hx hb dX7_drift_169 rfl (lv_at hl65 2 rfl) ?_
          refine lv_iconst (v := 2) hx hb dX7_drift_170 (by decide) ?_
          obtain ⟨x87, kk88, hg94, hf93⟩ := bd_some hf86
          refine x_ci (x_runS (As := [.ref (g.2.2 a1), .int a2, .int (2 : Int32)]) (rest := [.int J153_53v4, .ref (g.2.2 a1)]) X hP58 hS59 (tX7_of l X.2.2.2.2.2.2.1 ha1 hg94) mi_X7_152 rfl hl65.1 rfl (Nat.le_of_ble_eq_true rfl) dX7_drift_171 ⟨Nat.le_of_ble_eq_true rfl, Nat.le_of_ble_eq_true rfl⟩ ⟨Nat.zero_le _, Nat.zero_le _⟩) hS59 (fun H89 lc90 hP91 hS92 => ?_)
          clear hf86 hP58 hS59 hg94
          obtain ⟨x95, kk96, hg102, hf101⟩ := bd_some hf93
          refine x_ci (x_runS (As := [.ref (g.2.2 a1), .int J153_53v4, .int x87]) (rest := []) X hP91 hS92 (tX7_cellsOf l X.2.2.2.2.2.2.1 ha1 hg102) mi_X7_160 rfl hl65.1 rfl (Nat.le_of_ble_eq_true rfl) dX7_drift_174 ⟨Nat.le_of_ble_eq_true rfl, Nat.le_of_ble_eq_true rfl⟩ ⟨Nat.zero_le _, Nat.zero_le _⟩) hS92 (fun H97 lc98 hP99 hS100 => ?_)
          clear hf93 hP91 hS92 hg102
          refine lv_if_ne (tgt := 188) hx hb dX7_drift_177 (by decide) (fun c103 => ?_) (fun c103 => ?_)
          · have hf104 := if_at_f c103 hf101
            clear hf101
            refine lv_aload_n hx hb dX7_drift_188 rfl (lv_at hl65 1 rfl) ?_
            refine lv_iload_n hx hb dX7_drift_189 rfl (lv_at hl65 2 rfl) ?_
            refine lv_iconst (v := 1) hx hb dX7_drift_190 (by decide) ?_
            refine lv_iload hx hb dX7_drift_191 (lv_at hl65 3 rfl) ?_
            obtain ⟨⟨⟩, kk106, hg112, hf111⟩ := bd_some hf104
            refine x_cv (x_runS (As := [.ref (g.2.2 a1), .int a2, .int (1 : Int32), .int J153_53v4]) (rest := []) X hP99 hS100 (tX7_be l X.2.2.2.2.2.2.1 ha1 hg112) mi_X7_163 rfl hl65.1 rfl (Nat.le_of_ble_eq_true rfl) dX7_drift_193 ⟨Nat.le_of_ble_eq_true rfl, Nat.le_of_ble_eq_true rfl⟩ ⟨Nat.zero_le _, Nat.zero_le _⟩) hS100 (fun H107 lc108 hP109 hS110 => ?_)
            clear hf104 hP99 hS100 hg112
            refine lv_aload_n hx hb dX7_drift_196 rfl (lv_at hl65 1 rfl) ?_
            refine lv_iload_n hx hb dX7_drift_197 rfl (lv_at hl65 2 rfl) ?_
            refine lv_iconst (v := 3) hx hb dX7_drift_198 (by decide) ?_
            refine lv_iload hx hb dX7_drift_199 (lv_at hl65 0 rfl) ?_
            obtain ⟨⟨⟩, kk114, hg120, hf119⟩ := bd_some hf111
            refine x_cv (x_runS (As := [.ref (g.2.2 a1), .int a2, .int (3 : Int32), .int x62]) (rest := []) X hP109 hS110 (tX7_be l X.2.2.2.2.2.2.1 ha1 hg120) mi_X7_163 rfl hl65.1 rfl (Nat.le_of_ble_eq_true rfl) dX7_drift_201 ⟨Nat.le_of_ble_eq_true rfl, Nat.le_of_ble_eq_true rfl⟩ ⟨Nat.zero_le _, Nat.zero_le _⟩) hS110 (fun H115 lc116 hP117 hS118 => ?_)
            clear hf111 hP109 hS110 hg120
            obtain ⟨-, rfl⟩ := ret_inj hf119
            exact x_vret X hr hlocks hP117 hS118 dX7_drift_204
          · have hf121 := if_at_t c103 hf101
            clear hf101
            exact hJ180_66 kk96  _ _ _ hf121 hP99 hS100 (lv_sub hl65 [1, 2] rfl)
      clear eJ153_53
      by_cases c123 : x45 = (1 : Int32)
      · have hf124 := if_at_t c123 hf122
        clear hf122
        refine lv_tableIn (tgt := 80) hx hb dX7_drift_49 (by rw [c123]; decide) (by rw [c123]; decide) (by rw [c123]; rfl) (by decide) ?_
        refine lv_iload hx hb dX7_drift_80 (lv_at hl44 4 rfl) ?_
        refine lv_iload_n hx hb dX7_drift_82 rfl (lv_at hl44 3 rfl) ?_
        refine lv_iadd hx hb dX7_drift_83 ?_
        refine lv_topi (fun x126 ex126 => ?_)
        have hf127 := lk_at ex126 hf124
        clear hf124
        refine lv_istore (lv' := [(4, .int x126), (6, .int J41_34s0), (0, .ref (g.2.2 a1)), (1, .int a2), (2, .int a3), (5, .int x24)]) hx hb dX7_drift_84 hl44 (by decide) rfl (fun ls128 hl129 => ?_)
        clear hl44
        refine lv_goto (tgt := 153) hx hb dX7_drift_86 (by decide) ?_
        exact hJ153_53 x126 J41_34s0 kk46  _ _ _ hf127 hP49 hS50 (lv_sub hl129 [2, 3, 0, 5, 1] rfl)
      · have hf125 := if_at_f c123 hf122
        clear hf122
        by_cases c130 : x45 = (2 : Int32)
        · have hf131 := if_at_t c130 hf125
          clear hf125
          refine lv_tableIn (tgt := 89) hx hb dX7_drift_49 (by rw [c130]; decide) (by rw [c130]; decide) (by rw [c130]; rfl) (by decide) ?_
          refine lv_iload hx hb dX7_drift_89 (lv_at hl44 4 rfl) ?_
          refine lv_iload_n hx hb dX7_drift_91 rfl (lv_at hl44 3 rfl) ?_
          refine lv_iconst (v := 2) hx hb dX7_drift_92 (by decide) ?_
          refine lv_idiv hx hb dX7_drift_93 (by decide) ?_
          refine lv_iadd hx hb dX7_drift_94 ?_
          refine lv_topi (fun x133 ex133 => ?_)
          have hf134 := lk_at ex133 hf131
          clear hf131
          refine lv_istore (lv' := [(4, .int x133), (6, .int J41_34s0), (0, .ref (g.2.2 a1)), (1, .int a2), (2, .int a3), (5, .int x24)]) hx hb dX7_drift_95 hl44 (by decide) rfl (fun ls135 hl136 => ?_)
          clear hl44
          refine lv_goto (tgt := 153) hx hb dX7_drift_97 (by decide) ?_
          exact hJ153_53 x133 J41_34s0 kk46  _ _ _ hf134 hP49 hS50 (lv_sub hl136 [2, 3, 0, 5, 1] rfl)
        · have hf132 := if_at_f c130 hf125
          clear hf125
          by_cases c137 : x45 = (3 : Int32)
          · have hf138 := if_at_t c137 hf132
            clear hf132
            refine lv_tableIn (tgt := 100) hx hb dX7_drift_49 (by rw [c137]; decide) (by rw [c137]; decide) (by rw [c137]; rfl) (by decide) ?_
            refine lv_iload hx hb dX7_drift_100 (lv_at hl44 4 rfl) ?_
            refine lv_iconst (v := 2) hx hb dX7_drift_102 (by decide) ?_
            refine lv_iload_n hx hb dX7_drift_103 rfl (lv_at hl44 3 rfl) ?_
            refine lv_imul hx hb dX7_drift_104 ?_
            refine lv_iadd hx hb dX7_drift_105 ?_
            refine lv_topi (fun x140 ex140 => ?_)
            have hf141 := lk_at ex140 hf138
            clear hf138
            refine lv_istore (lv' := [(4, .int x140), (6, .int J41_34s0), (0, .ref (g.2.2 a1)), (1, .int a2), (2, .int a3), (5, .int x24)]) hx hb dX7_drift_106 hl44 (by decide) rfl (fun ls142 hl143 => ?_)
            clear hl44
            obtain ⟨x144, ex144⟩ : ∃ q : Int32, q = J41_34s0 + (1 : Int32) := ⟨_, rfl⟩
            have hf145 := lk_at ex144 hf141
            clear hf141
            refine lv_iinc (v := x144) (lv' := [(6, .int x144), (4, .int x140), (0, .ref (g.2.2 a1)), (1, .int a2), (2, .int a3), (5, .int x24)]) hx hb dX7_drift_108 hl143 (k := 1) rfl (by rw [ex144]; rfl) (by decide) rfl (fun ls146 hl147 => ?_)
            clear hl143
            refine lv_goto (tgt := 153) hx hb dX7_drift_111 (by decide) ?_
            exact hJ153_53 x140 x144 kk46  _ _ _ hf145 hP49 hS50 (lv_sub hl147 [2, 3, 1, 5, 0] rfl)
          · have hf139 := if_at_f c137 hf132
            clear hf132
            by_cases c148 : x45 = (4 : Int32)
            · have hf149 := if_at_t c148 hf139
              clear hf139
              refine lv_tableIn (tgt := 114) hx hb dX7_drift_49 (by rw [c148]; decide) (by rw [c148]; decide) (by rw [c148]; rfl) (by decide) ?_
              obtain ⟨x151, ex151⟩ : ∃ q : Int32, q = x14 + (-1 : Int32) := ⟨_, rfl⟩
              have hf152 := lk_at ex151 hf149
              clear hf149
              refine lv_iinc (v := x151) (lv' := [(4, .int x151), (6, .int J41_34s0), (0, .ref (g.2.2 a1)), (1, .int a2), (2, .int a3), (5, .int x24)]) hx hb dX7_drift_114 hl44 (k := 4) rfl (by rw [ex151]; rfl) (by decide) rfl (fun ls153 hl154 => ?_)
              clear hl44
              refine lv_iload_n hx hb dX7_drift_117 rfl (lv_at hl154 4 rfl) ?_
              obtain ⟨J126_155, eJ126_155, hf166⟩ := jp_at hf152
              clear hf152
              have hJ126_155 : ∀ (J126_155s0 : Int32) (kk156 : Hp) (H157 : Heap) (lc158 : List Loc) (ls159 : Array Slot), J126_155 J126_155s0 kk156 = some ((), k1) → va_P g.1 vwCl (WW g h kk156) H157 → va_S (inA g) s.heap H157 lc158 → lv_has ls159 7 [(0, .ref (g.2.2 a1)), (1, .int a2), (4, .int x151), (5, .int x24)] → W p l en (rmD 1) s m args below meth c H157 lc158 0 0 (MQ below (QV g h k1) args s 0 0 (inA g)) (F0 m 126 ls159 [.int J126_155s0]) := by
                intro J126_155s0 kk156 H157 lc158 ls159 hf163 hP160 hS161 hl162
                clear hf166 hP49 hS50 hl154
                subst eJ126_155
                refine lv_istore (lv' := [(6, .int J126_155s0), (0, .ref (g.2.2 a1)), (1, .int a2), (4, .int x151), (5, .int x24)]) hx hb dX7_drift_126 hl162 (by decide) rfl (fun ls164 hl165 => ?_)
                clear hl162
                refine lv_goto (tgt := 153) hx hb dX7_drift_128 (by decide) ?_
                exact hJ153_53 x151 J126_155s0 kk156  _ _ _ hf163 hP160 hS161 (lv_sub hl165 [1, 2, 3, 4, 0] rfl)
              clear eJ126_155
              refine lv_if_ne (tgt := 125) hx hb dX7_drift_118 (by decide) (fun c167 => ?_) (fun c167 => ?_)
              · have hf168 := if_at_f c167 hf166
                clear hf166
                refine lv_iconst (v := 1) hx hb dX7_drift_125 (by decide) ?_
                exact hJ126_155 (1 : Int32) kk46  _ _ _ hf168 hP49 hS50 (lv_sub hl154 [2, 3, 0, 5] rfl)
              · have hf169 := if_at_t c167 hf166
                clear hf166
                refine lv_iconst (v := 0) hx hb dX7_drift_121 (by decide) ?_
                refine lv_goto (tgt := 126) hx hb dX7_drift_122 (by decide) ?_
                exact hJ126_155 (0 : Int32) kk46  _ _ _ hf169 hP49 hS50 (lv_sub hl154 [2, 3, 0, 5] rfl)
            · have hf150 := if_at_f c148 hf139
              clear hf139
              have q0 := sw_ne (j := 1) rfl c123
              have q1 := sw_ne (j := 2) rfl c130
              have q2 := sw_ne (j := 3) rfl c137
              have q3 := sw_ne (j := 4) rfl c148
              refine lv_tableOut (tgt := 131) hx hb dX7_drift_49 (by omega) (by decide) ?_
              clear q0 q1 q2 q3
              refine lv_iload_n hx hb dX7_drift_131 rfl (lv_at hl44 3 rfl) ?_
              obtain ⟨J151_170, eJ151_170, hf181⟩ := jp_at hf150
              clear hf150
              have hJ151_170 : ∀ (J151_170s0 : Int32) (kk171 : Hp) (H172 : Heap) (lc173 : List Loc) (ls174 : Array Slot), J151_170 J151_170s0 kk171 = some ((), k1) → va_P g.1 vwCl (WW g h kk171) H172 → va_S (inA g) s.heap H172 lc173 → lv_has ls174 7 [(0, .ref (g.2.2 a1)), (1, .int a2), (4, .int x14), (5, .int x24)] → W p l en (rmD 1) s m args below meth c H172 lc173 0 0 (MQ below (QV g h k1) args s 0 0 (inA g)) (F0 m 151 ls174 [.int J151_170s0]) := by
                intro J151_170s0 kk171 H172 lc173 ls174 hf178 hP175 hS176 hl177
                clear hf181 hP49 hS50 hl44
                subst eJ151_170
                refine lv_istore (lv' := [(6, .int J151_170s0), (0, .ref (g.2.2 a1)), (1, .int a2), (4, .int x14), (5, .int x24)]) hx hb dX7_drift_151 hl177 (by decide) rfl (fun ls179 hl180 => ?_)
                clear hl177
                exact hJ153_53 x14 J151_170s0 kk171  _ _ _ hf178 hP175 hS176 (lv_sub hl180 [1, 2, 3, 4, 0] rfl)
              clear eJ151_170
              refine lv_if_ne (tgt := 150) hx hb dX7_drift_132 (by decide) (fun c182 => ?_) (fun c182 => ?_)
              · have hf183 := if_at_f c182 hf181
                clear hf181
                refine lv_iconst (v := 1) hx hb dX7_drift_150 (by decide) ?_
                exact hJ151_170 (1 : Int32) kk46  _ _ _ hf183 hP49 hS50 (lv_sub hl44 [1, 2, 4, 5] rfl)
              · have hf184 := if_at_t c182 hf181
                clear hf181
                refine lv_iload hx hb dX7_drift_135 (lv_at hl44 5 rfl) ?_
                refine lv_bipush (v := 9) hx hb dX7_drift_137 (by decide) ?_
                refine lv_icmp_ge (tgt := 146) hx hb dX7_drift_139 (by decide) (fun c185 => ?_) (fun c185 => ?_)
                · have hf186 := if_at_t c185 hf184
                  clear hf184
                  refine lv_iconst (v := 0) hx hb dX7_drift_146 (by decide) ?_
                  refine lv_goto (tgt := 151) hx hb dX7_drift_147 (by decide) ?_
                  exact hJ151_170 (0 : Int32) kk46  _ _ _ hf186 hP49 hS50 (lv_sub hl44 [1, 2, 4, 5] rfl)
                · have hf187 := if_at_f c185 hf184
                  clear hf184
                  refine lv_iconst (v := -1) hx hb dX7_drift_142 (by decide) ?_
                  refine lv_goto (tgt := 151) hx hb dX7_drift_143 (by decide) ?_
                  exact hJ151_170 (-1 : Int32) kk46  _ _ _ hf187 hP49 hS50 (lv_sub hl44 [1, 2, 4, 5] rfl)
    clear eJ41_34
    refine lv_if_eq (tgt := 40) hx hb dX7_drift_33 (by decide) (fun c189 => ?_) (fun c189 => ?_)
    · have hf190 := if_at_t c189 hf188
      clear hf188
      refine lv_iconst (v := 0) hx hb dX7_drift_40 (by decide) ?_
      exact hJ41_34 (0 : Int32) kk25  _ _ _ hf190 hP28 hS29 (lv_sub hl33 [3, 4, 5, 1, 0] rfl)
    · have hf191 := if_at_f c189 hf188
      clear hf188
      refine lv_iconst (v := 1) hx hb dX7_drift_36 (by decide) ?_
      refine lv_goto (tgt := 41) hx hb dX7_drift_37 (by decide) ?_
      exact hJ41_34 (1 : Int32) kk25  _ _ _ hf191 hP28 hS29 (lv_sub hl33 [3, 4, 5, 1, 0] rfl)
  clear eJ15_3
  refine lv_icmp_ne (tgt := 14) hx hb dX7_drift_7 (by decide) (fun c193 => ?_) (fun c193 => ?_)
  · have hf194 := if_at_f c193 hf192
    clear hf192
    refine lv_iconst (v := 0) hx hb dX7_drift_14 (by decide) ?_
    exact hJ15_3 (0 : Int32) k  _ _ _ hf194 hP hS (lv_sub hl [0, 1, 2] rfl)
  · have hf195 := if_at_t c193 hf192
    clear hf192
    refine lv_iconst (v := 1) hx hb dX7_drift_10 (by decide) ?_
    refine lv_goto (tgt := 15) hx hb dX7_drift_11 (by decide) ?_
    exact hJ15_3 (1 : Int32) k  _ _ _ hf195 hP hS (lv_sub hl [0, 1, 2] rfl)
set_option maxRecDepth 100000 in
set_option maxHeartbeats 4000000 in
theorem wX7_hourOf_L9 {p : Program} {l : Launch} {en : Env} {s : State} {m : MethodId} {args : Array Value} {below : List Frame} {meth : Method} {c : Code} {g : Gx} (X : Cx p s m args c cX7_hourOf 3 RX7 g) (hr : meth.sig.returnType = none) (hlocks : meth.locks = false) {h k1 : Hp} {v0 : Nat} {v1 : Int32} (hv0 : isMA v0 = true) {K36 : Hp → Option (Unit × Hp)}
    (hK36 : ∀  (k : Hp) (H : Heap) (locs : List Loc) (ls : Array Slot), K36  k = some ((), k1) → va_P g.1 vwCl (WW g h k) H → va_S (inA g) s.heap H locs → lv_has ls 3 [(0, .ref (g.2.2 v0))] → W p l en (rmD 3) s m args below meth c H locs 0 0 (MQ below (QV g h k1) args s 0 0 (inA g)) (F0 m 36 ls [])) :
    ∀ (n : Nat) (v2 : Int32) (k : Hp) (H : Heap) (locs : List Loc) (ls : Array Slot), fX7_hourOf_L9 K36 n v0 v1 v2 k = some ((), k1) → va_P g.1 vwCl (WW g h k) H → va_S (inA g) s.heap H locs → lv_has ls 3 [(0, .ref (g.2.2 v0)), (1, .int v1), (2, .int v2)] → W p l en (rmD 3) s m args below meth c H locs 0 0 (MQ below (QV g h k1) args s 0 0 (inA g)) (F0 m 9 ls []) := by
  have hx := X.1
  have hb := X.2.1
  intro n
  induction n with
  | zero => intro v2 k H locs ls  hf; simp only [fX7_hourOf_L9, reduceCtorEq] at hf
  | succ n ih =>
    intro v2 k H locs ls  hf hP hS hl
    rw [fX7_hourOf_L9] at hf
    refine lv_iload_n hx hb dX7_hourOf_9 rfl (lv_at hl 2 rfl) ?_
    refine lv_aload_n hx hb dX7_hourOf_10 rfl (lv_at hl 0 rfl) ?_
    refine lv_iconst (v := 0) hx hb dX7_hourOf_11 (by decide) ?_
    obtain ⟨hc15, hf16⟩ := chk_some hf
    refine x_ildM X hP v0 hv0 hc15 dX7_hourOf_12 ?_
    refine lv_icmp_ge (tgt := 36) hx hb dX7_hourOf_13 (by decide) (fun c17 => ?_) (fun c17 => ?_)
    · have hf18 := if_at_t c17 hf16
      clear hf16
      exact hK36 k  _ _ _ hf18 hP hS (lv_sub hl [0] rfl)
    · have hf19 := if_at_f c17 hf16
      clear hf16
      refine lv_aload_n hx hb dX7_hourOf_16 rfl (lv_at hl 0 rfl) ?_
      refine lv_iload_n hx hb dX7_hourOf_17 rfl (lv_at hl 2 rfl) ?_
      obtain ⟨x20, kk21, hg27, hf26⟩ := bd_some hf19
      refine x_ci (x_runS (As := [.ref (g.2.2 v0), .int v2]) (rest := []) X hP hS (tX7_isIn l X.2.2.2.2.2.2.1 hv0 hg27) mi_X7_156 rfl hl.1 rfl (Nat.le_of_ble_eq_true rfl) dX7_hourOf_18 ⟨Nat.le_of_ble_eq_true rfl, Nat.le_of_ble_eq_true rfl⟩ ⟨Nat.zero_le _, Nat.zero_le _⟩) hS (fun H22 lc23 hP24 hS25 => ?_)
      clear hf19 hP hS hg27
      obtain ⟨J30_28, eJ30_28, hf41⟩ := jp_at hf26
      clear hf26
      have hJ30_28 : ∀  (kk29 : Hp) (H30 : Heap) (lc31 : List Loc) (ls32 : Array Slot), J30_28  kk29 = some ((), k1) → va_P g.1 vwCl (WW g h kk29) H30 → va_S (inA g) s.heap H30 lc31 → lv_has ls32 3 [(0, .ref (g.2.2 v0)), (1, .int v1), (2, .int v2)] → W p l en (rmD 3) s m args below meth c H30 lc31 0 0 (MQ below (QV g h k1) args s 0 0 (inA g)) (F0 m 30 ls32 []) := by
        intro  kk29 H30 lc31 ls32 hf36 hP33 hS34 hl35
        clear hf41 hP24 hS25 hl
        subst eJ30_28
        obtain ⟨x37, ex37⟩ : ∃ q : Int32, q = v2 + (1 : Int32) := ⟨_, rfl⟩
        have hf38 := lk_at ex37 hf36
        clear hf36
        refine lv_iinc (v := x37) (lv' := [(2, .int x37), (0, .ref (g.2.2 v0)), (1, .int v1)]) hx hb dX7_hourOf_30 hl35 (k := 2) rfl (by rw [ex37]; rfl) (by decide) rfl (fun ls39 hl40 => ?_)
        clear hl35
        refine lv_goto (tgt := 9) hx hb dX7_hourOf_33 (by decide) ?_
        exact ih x37 kk29  _ _ _ hf38 hP33 hS34 (lv_sub hl40 [1, 2, 0] rfl)
      clear eJ30_28
      refine lv_if_eq (tgt := 30) hx hb dX7_hourOf_21 (by decide) (fun c42 => ?_) (fun c42 => ?_)
      · have hf43 := if_at_t c42 hf41
        clear hf41
        exact hJ30_28 kk21  _ _ _ hf43 hP24 hS25 (lv_sub hl [0, 1, 2] rfl)
      · have hf44 := if_at_f c42 hf41
        clear hf41
        refine lv_aload_n hx hb dX7_hourOf_24 rfl (lv_at hl 0 rfl) ?_
        refine lv_iload_n hx hb dX7_hourOf_25 rfl (lv_at hl 2 rfl) ?_
        refine lv_iload_n hx hb dX7_hourOf_26 rfl (lv_at hl 1 rfl) ?_
        obtain ⟨⟨⟩, kk46, hg52, hf51⟩ := bd_some hf44
        refine x_cv (x_runS (As := [.ref (g.2.2 v0), .int v2, .int v1]) (rest := []) X hP24 hS25 (tX7_drift l X.2.2.2.2.2.2.1 hv0 hg52) mi_X7_171 rfl hl.1 rfl (Nat.le_of_ble_eq_true rfl) dX7_hourOf_27 ⟨Nat.le_of_ble_eq_true rfl, Nat.le_of_ble_eq_true rfl⟩ ⟨Nat.zero_le _, Nat.zero_le _⟩) hS25 (fun H47 lc48 hP49 hS50 => ?_)
        clear hf44 hP24 hS25 hg52
        exact hJ30_28 kk46  _ _ _ hf51 hP49 hS50 (lv_sub hl [0, 1, 2] rfl)
set_option maxRecDepth 100000 in
set_option maxHeartbeats 4000000 in
theorem wX7_hourOf_L38 {p : Program} {l : Launch} {en : Env} {s : State} {m : MethodId} {args : Array Value} {below : List Frame} {meth : Method} {c : Code} {g : Gx} (X : Cx p s m args c cX7_hourOf 3 RX7 g) (hr : meth.sig.returnType = none) (hlocks : meth.locks = false) {h k1 : Hp} {v0 : Nat} (hv0 : isMA v0 = true) {K107 : Hp → Option (Unit × Hp)}
    (hK107 : ∀  (k : Hp) (H : Heap) (locs : List Loc) (ls : Array Slot), K107  k = some ((), k1) → va_P g.1 vwCl (WW g h k) H → va_S (inA g) s.heap H locs → lv_has ls 3 [(0, .ref (g.2.2 v0))] → W p l en (rmD 3) s m args below meth c H locs 0 0 (MQ below (QV g h k1) args s 0 0 (inA g)) (F0 m 107 ls [])) :
    ∀ (n : Nat) (v2 : Int32) (k : Hp) (H : Heap) (locs : List Loc) (ls : Array Slot), fX7_hourOf_L38 K107 n v0 v2 k = some ((), k1) → va_P g.1 vwCl (WW g h k) H → va_S (inA g) s.heap H locs → lv_has ls 3 [(0, .ref (g.2.2 v0)), (2, .int v2)] → W p l en (rmD 3) s m args below meth c H locs 0 0 (MQ below (QV g h k1) args s 0 0 (inA g)) (F0 m 38 ls []) := by
  have hx := X.1
  have hb := X.2.1
  intro n
  induction n with
  | zero => intro v2 k H locs ls  hf; simp only [fX7_hourOf_L38, reduceCtorEq] at hf
  | succ n ih =>
    intro v2 k H locs ls  hf hP hS hl
    rw [fX7_hourOf_L38] at hf
    refine lv_iload_n hx hb dX7_hourOf_38 rfl (lv_at hl 1 rfl) ?_
    refine lv_aload_n hx hb dX7_hourOf_39 rfl (lv_at hl 0 rfl) ?_
    refine lv_iconst (v := 0) hx hb dX7_hourOf_40 (by decide) ?_
    obtain ⟨hc63, hf64⟩ := chk_some hf
    refine x_ildM X hP v0 hv0 hc63 dX7_hourOf_41 ?_
    refine lv_icmp_ge (tgt := 107) hx hb dX7_hourOf_42 (by decide) (fun c65 => ?_) (fun c65 => ?_)
    · have hf66 := if_at_t c65 hf64
      clear hf64
      exact hK107 k  _ _ _ hf66 hP hS (lv_sub hl [0] rfl)
    · have hf67 := if_at_f c65 hf64
      clear hf64
      refine lv_aload_n hx hb dX7_hourOf_45 rfl (lv_at hl 0 rfl) ?_
      refine lv_iconst (v := 5) hx hb dX7_hourOf_46 (by decide) ?_
      obtain ⟨hc68, hf69⟩ := chk_some hf67
      refine x_ildM X hP v0 hv0 hc68 dX7_hourOf_47 ?_
      refine lv_aload_n hx hb dX7_hourOf_48 rfl (lv_at hl 0 rfl) ?_
      refine lv_bipush (v := 6) hx hb dX7_hourOf_49 (by decide) ?_
      obtain ⟨hc70, hf71⟩ := chk_some hf69
      refine x_ildM X hP v0 hv0 hc70 dX7_hourOf_51 ?_
      refine lv_iconst (v := 4) hx hb dX7_hourOf_52 (by decide) ?_
      refine x_irem X dX7_hourOf_53 (by decide) ?_
      obtain ⟨x72, kk73, hg79, hf78⟩ := bd_some hf71
      refine x_ci (x_runS (As := [.int (k v0 (5 : Int32).toNatClampNeg), .int (irm (k v0 (6 : Int32).toNatClampNeg) (4 : Int32))]) (rest := []) X hP hS (tX7_has l X.2.2.2.2.2.2.1  hg79) mi_X7_175 rfl hl.1 rfl (Nat.le_of_ble_eq_true rfl) dX7_hourOf_54 ⟨Nat.le_of_ble_eq_true rfl, Nat.le_of_ble_eq_true rfl⟩ ⟨Nat.zero_le _, Nat.zero_le _⟩) hS (fun H74 lc75 hP76 hS77 => ?_)
      clear hf71 hP hS hg79
      refine lv_if_eq (tgt := 107) hx hb dX7_hourOf_57 (by decide) (fun c80 => ?_) (fun c80 => ?_)
      · have hf81 := if_at_t c80 hf78
        clear hf78
        exact hK107 kk73  _ _ _ hf81 hP76 hS77 (lv_sub hl [0] rfl)
      · have hf82 := if_at_f c80 hf78
        clear hf78
        refine lv_aload_n hx hb dX7_hourOf_60 rfl (lv_at hl 0 rfl) ?_
        refine lv_iload_n hx hb dX7_hourOf_61 rfl (lv_at hl 1 rfl) ?_
        obtain ⟨x83, kk84, hg90, hf89⟩ := bd_some hf82
        refine x_ci (x_runS (As := [.ref (g.2.2 v0), .int v2]) (rest := []) X hP76 hS77 (tX7_liesOn l X.2.2.2.2.2.2.1 hv0 hg90) mi_X7_179 rfl hl.1 rfl (Nat.le_of_ble_eq_true rfl) dX7_hourOf_62 ⟨Nat.le_of_ble_eq_true rfl, Nat.le_of_ble_eq_true rfl⟩ ⟨Nat.zero_le _, Nat.zero_le _⟩) hS77 (fun H85 lc86 hP87 hS88 => ?_)
        clear hf82 hP76 hS77 hg90
        refine lv_aload_n hx hb dX7_hourOf_65 rfl (lv_at hl 0 rfl) ?_
        refine lv_iconst (v := 3) hx hb dX7_hourOf_66 (by decide) ?_
        obtain ⟨hc91, hf92⟩ := chk_some hf89
        refine x_ildM X hP87 v0 hv0 hc91 dX7_hourOf_67 ?_
        obtain ⟨x93, kk94, hg100, hf99⟩ := bd_some hf92
        refine x_ci (x_runS (As := [.int x83, .int (kk84 v0 (3 : Int32).toNatClampNeg)]) (rest := []) X hP87 hS88 (tX7_has l X.2.2.2.2.2.2.1  hg100) mi_X7_175 rfl hl.1 rfl (Nat.le_of_ble_eq_true rfl) dX7_hourOf_68 ⟨Nat.le_of_ble_eq_true rfl, Nat.le_of_ble_eq_true rfl⟩ ⟨Nat.zero_le _, Nat.zero_le _⟩) hS88 (fun H95 lc96 hP97 hS98 => ?_)
        clear hf92 hP87 hS88 hg100
        obtain ⟨J101_101, eJ101_101, hf114⟩ := jp_at hf99
        clear hf99
        have hJ101_101 : ∀  (kk102 : Hp) (H103 : Heap) (lc104 : List Loc) (ls105 : Array Slot), J101_101  kk102 = some ((), k1) → va_P g.1 vwCl (WW g h kk102) H103 → va_S (inA g) s.heap H103 lc104 → lv_has ls105 3 [(0, .ref (g.2.2 v0)), (2, .int v2)] → W p l en (rmD 3) s m args below meth c H103 lc104 0 0 (MQ below (QV g h k1) args s 0 0 (inA g)) (F0 m 101 ls105 []) := by
          intro  kk102 H103 lc104 ls105 hf109 hP106 hS107 hl108
          clear hf114 hP97 hS98 hl
          subst eJ101_101
          obtain ⟨x110, ex110⟩ : ∃ q : Int32, q = v2 + (1 : Int32) := ⟨_, rfl⟩
          have hf111 := lk_at ex110 hf109
          clear hf109
          refine lv_iinc (v := x110) (lv' := [(2, .int x110), (0, .ref (g.2.2 v0))]) hx hb dX7_hourOf_101 hl108 (k := 1) rfl (by rw [ex110]; rfl) (by decide) rfl (fun ls112 hl113 => ?_)
          clear hl108
          refine lv_goto (tgt := 38) hx hb dX7_hourOf_104 (by decide) ?_
          exact ih x110 kk102  _ _ _ hf111 hP106 hS107 (lv_sub hl113 [1, 0] rfl)
        clear eJ101_101
        refine lv_if_eq (tgt := 101) hx hb dX7_hourOf_71 (by decide) (fun c115 => ?_) (fun c115 => ?_)
        · have hf116 := if_at_t c115 hf114
          clear hf114
          exact hJ101_101 kk94  _ _ _ hf116 hP97 hS98 (lv_sub hl [0, 1] rfl)
        · have hf117 := if_at_f c115 hf114
          clear hf114
          refine lv_aload_n hx hb dX7_hourOf_74 rfl (lv_at hl 0 rfl) ?_
          refine lv_iload_n hx hb dX7_hourOf_75 rfl (lv_at hl 1 rfl) ?_
          refine lv_iconst (v := 4) hx hb dX7_hourOf_76 (by decide) ?_
          obtain ⟨x118, kk119, hg125, hf124⟩ := bd_some hf117
          refine x_ci (x_runS (As := [.ref (g.2.2 v0), .int v2, .int (4 : Int32)]) (rest := []) X hP97 hS98 (tX7_of l X.2.2.2.2.2.2.1 hv0 hg125) mi_X7_152 rfl hl.1 rfl (Nat.le_of_ble_eq_true rfl) dX7_hourOf_77 ⟨Nat.le_of_ble_eq_true rfl, Nat.le_of_ble_eq_true rfl⟩ ⟨Nat.zero_le _, Nat.zero_le _⟩) hS98 (fun H120 lc121 hP122 hS123 => ?_)
          clear hf117 hP97 hS98 hg125
          refine lv_if_ne (tgt := 101) hx hb dX7_hourOf_80 (by decide) (fun c126 => ?_) (fun c126 => ?_)
          · have hf127 := if_at_f c126 hf124
            clear hf124
            exact hJ101_101 kk119  _ _ _ hf127 hP122 hS123 (lv_sub hl [0, 1] rfl)
          · have hf128 := if_at_t c126 hf124
            clear hf124
            refine lv_aload_n hx hb dX7_hourOf_83 rfl (lv_at hl 0 rfl) ?_
            refine lv_bipush (v := 7) hx hb dX7_hourOf_84 (by decide) ?_
            refine lv_dup2_11 hx hb dX7_hourOf_86 rfl rfl ?_
            obtain ⟨hc129, hf130⟩ := chk_some hf128
            refine x_ildM X hP122 v0 hv0 hc129 dX7_hourOf_87 ?_
            refine lv_iconst (v := 1) hx hb dX7_hourOf_88 (by decide) ?_
            refine lv_iadd hx hb dX7_hourOf_89 ?_
            obtain ⟨hc131, hf132⟩ := chk_some hf130
            refine x_istM X hP122 hS123 v0 hv0 hc131 dX7_hourOf_90 (fun H133 lc134 kk135 ekk135 hP136 hS137 => ?_)
            have hf138 := lk_at ekk135 hf132
            clear hf132 hP122 hS123
            refine lv_aload_n hx hb dX7_hourOf_91 rfl (lv_at hl 0 rfl) ?_
            refine lv_iload_n hx hb dX7_hourOf_92 rfl (lv_at hl 1 rfl) ?_
            refine lv_iconst (v := 4) hx hb dX7_hourOf_93 (by decide) ?_
            refine lv_aload_n hx hb dX7_hourOf_94 rfl (lv_at hl 0 rfl) ?_
            refine lv_bipush (v := 7) hx hb dX7_hourOf_95 (by decide) ?_
            obtain ⟨hc139, hf140⟩ := chk_some hf138
            refine x_ildM X hP136 v0 hv0 hc139 dX7_hourOf_97 ?_
            obtain ⟨⟨⟩, kk142, hg148, hf147⟩ := bd_some hf140
            refine x_cv (x_runS (As := [.ref (g.2.2 v0), .int v2, .int (4 : Int32), .int (kk135 v0 (7 : Int32).toNatClampNeg)]) (rest := []) X hP136 hS137 (tX7_be l X.2.2.2.2.2.2.1 hv0 hg148) mi_X7_163 rfl hl.1 rfl (Nat.le_of_ble_eq_true rfl) dX7_hourOf_98 ⟨Nat.le_of_ble_eq_true rfl, Nat.le_of_ble_eq_true rfl⟩ ⟨Nat.zero_le _, Nat.zero_le _⟩) hS137 (fun H143 lc144 hP145 hS146 => ?_)
            clear hf140 hP136 hS137 hg148
            exact hJ101_101 kk142  _ _ _ hf147 hP145 hS146 (lv_sub hl [0, 1] rfl)
set_option maxRecDepth 100000 in
set_option maxHeartbeats 4000000 in
theorem tX7_hourOf (l : Launch) {g : Gx} (hI : InjG g) {h k k1 : Hp} {a1 : Nat}  (ha1 : isMA a1 = true) (hf : fX7_hourOf a1 k = some ((), k1)) : CV l yX7_hourOf cX7_hourOf 3 none 3 g [.ref (g.2.2 a1)] h k h k1 := by
  refine Met.ofW (cc := cX7_hourOf) (maxL := 3) (ret := none) (by decide) rfl ?_
  intro p en s m args below meth c s₁ B hml hv
  obtain ⟨rfl, hSK, hSH, hP⟩ := hv
  have X : Cx p s m _ c cX7_hourOf 3 RX7 g := ⟨B.exec, B.bytes, hml, findClass_of_methodNamed B.named, fun w hw => atoms_spec (ws := wsy yX7_hourOf cX7_hourOf 3 none) B.pre w (List.mem_cons_of_mem _ hw), hSK, hI, hSH⟩
  have hr := B.returns
  have hlocks := B.notSynchronized
  have hx := X.1
  have hb := X.2.1
  have hS : va_S (inA g) s.heap s.heap [] := va_S.rf
  clear hSK hSH hml B
  have hl := lv_entry ([.ref (g.2.2 a1)]) (n := 3) (Nat.le_of_ble_eq_true rfl)
  rw [lg_entry_eq]
  generalize (lg_sl ([.ref (g.2.2 a1)]) ++ List.replicate (3 - (lg_sl ([.ref (g.2.2 a1)])).length) Slot.unset).toArray = ls at hl ⊢
  have hl : lv_has ls 3 [(0, .ref (g.2.2 a1))] := hl
  generalize ([.ref (g.2.2 a1)] : List Value).toArray = args at X ⊢
  show W p l en (rmD 3) s m args below meth c s.heap [] 0 0 (MQ below (QV g h k1) args s 0 0 (inA g)) (F0 m 0 ls [])
  unfold fX7_hourOf at hf
  refine lv_aload_n hx hb dX7_hourOf_0 rfl (lv_at hl 0 rfl) ?_
  obtain ⟨x1, kk2, hg8, hf7⟩ := bd_some hf
  refine x_ci (x_runS (As := [.ref (g.2.2 a1)]) (rest := []) X hP hS (tX7_windOf l X.2.2.2.2.2.2.1 ha1 hg8) mi_X7_167 rfl hl.1 rfl (Nat.le_of_ble_eq_true rfl) dX7_hourOf_1 ⟨Nat.le_of_ble_eq_true rfl, Nat.le_of_ble_eq_true rfl⟩ ⟨Nat.zero_le _, Nat.zero_le _⟩) hS (fun H3 lc4 hP5 hS6 => ?_)
  clear hf hP hS hg8
  refine lv_iconst (v := 2) hx hb dX7_hourOf_4 (by decide) ?_
  refine lv_isub hx hb dX7_hourOf_5 ?_
  refine lv_topi (fun x9 ex9 => ?_)
  have hf10 := lk_at ex9 hf7
  clear hf7
  refine lv_istore_n (lv' := [(1, .int x9), (0, .ref (g.2.2 a1))]) hx hb dX7_hourOf_6 rfl hl (by decide) rfl (fun ls11 hl12 => ?_)
  clear hl
  refine lv_iconst (v := 0) hx hb dX7_hourOf_7 (by decide) ?_
  refine lv_istore_n (lv' := [(2, .int (0 : Int32)), (1, .int x9), (0, .ref (g.2.2 a1))]) hx hb dX7_hourOf_8 rfl hl12 (by decide) rfl (fun ls13 hl14 => ?_)
  clear hl12
  refine wX7_hourOf_L9 X hr hlocks ha1 ?_ 4096 (0 : Int32) kk2 _ _ _  hf10 hP5 hS6 (lv_sub hl14 [2, 1, 0] rfl)
  · intro  kk53 H54 lc55 ls56  hf60 hP57 hS58 hl59
    refine lv_iconst (v := 0) hx hb dX7_hourOf_36 (by decide) ?_
    refine lv_istore_n (lv' := [(2, .int (0 : Int32)), (0, .ref (g.2.2 a1))]) hx hb dX7_hourOf_37 rfl hl59 (by decide) rfl (fun ls61 hl62 => ?_)
    clear hl59
    refine wX7_hourOf_L38 X hr hlocks ha1 ?_ 4096 (0 : Int32) kk53 _ _ _  hf60 hP57 hS58 (lv_sub hl62 [1, 0] rfl)
    · intro  kk149 H150 lc151 ls152  hf156 hP153 hS154 hl155
      refine lv_aload_n hx hb dX7_hourOf_107 rfl (lv_at hl155 0 rfl) ?_
      refine lv_bipush (v := 6) hx hb dX7_hourOf_108 (by decide) ?_
      refine lv_dup2_11 hx hb dX7_hourOf_110 rfl rfl ?_
      obtain ⟨hc157, hf158⟩ := chk_some hf156
      refine x_ildM X hP153 a1 ha1 hc157 dX7_hourOf_111 ?_
      refine lv_iconst (v := 1) hx hb dX7_hourOf_112 (by decide) ?_
      refine lv_iadd hx hb dX7_hourOf_113 ?_
      obtain ⟨hc159, hf160⟩ := chk_some hf158
      refine x_istM X hP153 hS154 a1 ha1 hc159 dX7_hourOf_114 (fun H161 lc162 kk163 ekk163 hP164 hS165 => ?_)
      have hf166 := lk_at ekk163 hf160
      clear hf160 hP153 hS154
      obtain ⟨-, rfl⟩ := ret_inj hf166
      exact x_vret X hr hlocks hP164 hS165 dX7_hourOf_115
set_option maxRecDepth 100000 in
set_option maxHeartbeats 4000000 in
theorem wX7_hoursOf_L2 {p : Program} {l : Launch} {en : Env} {s : State} {m : MethodId} {args : Array Value} {below : List Frame} {meth : Method} {c : Code} {g : Gx} (X : Cx p s m args c cX7_hoursOf 3 RX7 g) (hr : meth.sig.returnType = none) (hlocks : meth.locks = false) {h k1 : Hp} {v0 : Nat} {v1 : Int32} (hv0 : isMA v0 = true) 
     :
    ∀ (n : Nat) (v2 : Int32) (k : Hp) (H : Heap) (locs : List Loc) (ls : Array Slot), fX7_hoursOf_L2 n v0 v1 v2 k = some ((), k1) → va_P g.1 vwCl (WW g h k) H → va_S (inA g) s.heap H locs → lv_has ls 3 [(0, .ref (g.2.2 v0)), (1, .int v1), (2, .int v2)] → W p l en (rmD 4) s m args below meth c H locs 0 0 (MQ below (QV g h k1) args s 0 0 (inA g)) (F0 m 2 ls []) := by
  have hx := X.1
  have hb := X.2.1
  intro n
  induction n with
  | zero => intro v2 k H locs ls  hf; simp only [fX7_hoursOf_L2, reduceCtorEq] at hf
  | succ n ih =>
    intro v2 k H locs ls  hf hP hS hl
    rw [fX7_hoursOf_L2] at hf
    refine lv_iload_n hx hb dX7_hoursOf_2 rfl (lv_at hl 2 rfl) ?_
    refine lv_iload_n hx hb dX7_hoursOf_3 rfl (lv_at hl 1 rfl) ?_
    refine lv_icmp_ge (tgt := 17) hx hb dX7_hoursOf_4 (by decide) (fun c3 => ?_) (fun c3 => ?_)
    · have hf4 := if_at_t c3 hf
      clear hf
      obtain ⟨-, rfl⟩ := ret_inj hf4
      exact x_vret X hr hlocks hP hS dX7_hoursOf_17
    · have hf5 := if_at_f c3 hf
      clear hf
      refine lv_aload_n hx hb dX7_hoursOf_7 rfl (lv_at hl 0 rfl) ?_
      obtain ⟨⟨⟩, kk7, hg13, hf12⟩ := bd_some hf5
      refine x_cv (x_runS (As := [.ref (g.2.2 v0)]) (rest := []) X hP hS (tX7_hourOf l X.2.2.2.2.2.2.1 hv0 hg13) mi_X7_183 rfl hl.1 rfl (Nat.le_of_ble_eq_true rfl) dX7_hoursOf_8 ⟨Nat.le_of_ble_eq_true rfl, Nat.le_of_ble_eq_true rfl⟩ ⟨Nat.zero_le _, Nat.zero_le _⟩) hS (fun H8 lc9 hP10 hS11 => ?_)
      clear hf5 hP hS hg13
      obtain ⟨x14, ex14⟩ : ∃ q : Int32, q = v2 + (1 : Int32) := ⟨_, rfl⟩
      have hf15 := lk_at ex14 hf12
      clear hf12
      refine lv_iinc (v := x14) (lv' := [(2, .int x14), (0, .ref (g.2.2 v0)), (1, .int v1)]) hx hb dX7_hoursOf_11 hl (k := 2) rfl (by rw [ex14]; rfl) (by decide) rfl (fun ls16 hl17 => ?_)
      clear hl
      refine lv_goto (tgt := 2) hx hb dX7_hoursOf_14 (by decide) ?_
      exact ih x14 kk7  _ _ _ hf15 hP10 hS11 (lv_sub hl17 [1, 2, 0] rfl)
set_option maxRecDepth 100000 in
set_option maxHeartbeats 4000000 in
theorem tX7_hoursOf (l : Launch) {g : Gx} (hI : InjG g) {h k k1 : Hp} {a1 : Nat} {a2 : Int32}  (ha1 : isMA a1 = true) (hf : fX7_hoursOf a1 a2 k = some ((), k1)) : CV l yX7_hoursOf cX7_hoursOf 3 none 4 g [.ref (g.2.2 a1), .int a2] h k h k1 := by
  refine Met.ofW (cc := cX7_hoursOf) (maxL := 3) (ret := none) (by decide) rfl ?_
  intro p en s m args below meth c s₁ B hml hv
  obtain ⟨rfl, hSK, hSH, hP⟩ := hv
  have X : Cx p s m _ c cX7_hoursOf 3 RX7 g := ⟨B.exec, B.bytes, hml, findClass_of_methodNamed B.named, fun w hw => atoms_spec (ws := wsy yX7_hoursOf cX7_hoursOf 3 none) B.pre w (List.mem_cons_of_mem _ hw), hSK, hI, hSH⟩
  have hr := B.returns
  have hlocks := B.notSynchronized
  have hx := X.1
  have hb := X.2.1
  have hS : va_S (inA g) s.heap s.heap [] := va_S.rf
  clear hSK hSH hml B
  have hl := lv_entry ([.ref (g.2.2 a1), .int a2]) (n := 3) (Nat.le_of_ble_eq_true rfl)
  rw [lg_entry_eq]
  generalize (lg_sl ([.ref (g.2.2 a1), .int a2]) ++ List.replicate (3 - (lg_sl ([.ref (g.2.2 a1), .int a2])).length) Slot.unset).toArray = ls at hl ⊢
  have hl : lv_has ls 3 [(0, .ref (g.2.2 a1)), (1, .int a2)] := hl
  generalize ([.ref (g.2.2 a1), .int a2] : List Value).toArray = args at X ⊢
  show W p l en (rmD 4) s m args below meth c s.heap [] 0 0 (MQ below (QV g h k1) args s 0 0 (inA g)) (F0 m 0 ls [])
  unfold fX7_hoursOf at hf
  refine lv_iconst (v := 0) hx hb dX7_hoursOf_0 (by decide) ?_
  refine lv_istore_n (lv' := [(2, .int (0 : Int32)), (0, .ref (g.2.2 a1)), (1, .int a2)]) hx hb dX7_hoursOf_1 rfl hl (by decide) rfl (fun ls1 hl2 => ?_)
  clear hl
  refine wX7_hoursOf_L2 X hr hlocks ha1  4096 (0 : Int32) k _ _ _  hf hP hS (lv_sub hl2 [1, 2, 0] rfl)
set_option maxRecDepth 100000 in
set_option maxHeartbeats 4000000 in
theorem wX7_overOf_L4 {p : Program} {l : Launch} {en : Env} {s : State} {m : MethodId} {args : Array Value} {below : List Frame} {meth : Method} {c : Code} {g : Gx} (X : Cx p s m args c cX7_overOf 4 RX7 g) (hr : meth.sig.returnType = (some .int)) (hlocks : meth.locks = false) {h k1 : Hp} {r : Int32} {v0 : Nat} {v1 : Int32} (hv0 : isMA v0 = true) 
     :
    ∀ (n : Nat) (v2 : Int32) (v3 : Int32) (k : Hp) (H : Heap) (locs : List Loc) (ls : Array Slot), fX7_overOf_L4 n v0 v1 v2 v3 k = some (r, k1) → va_P g.1 vwCl (WW g h k) H → va_S (inA g) s.heap H locs → lv_has ls 4 [(0, .ref (g.2.2 v0)), (1, .int v1), (2, .int v2), (3, .int v3)] → W p l en (rmD 3) s m args below meth c H locs 0 0 (MQ below (QI g h k1 r) args s 0 0 (inA g)) (F0 m 4 ls []) := by
  have hx := X.1
  have hb := X.2.1
  intro n
  induction n with
  | zero => intro v2 v3 k H locs ls  hf; simp only [fX7_overOf_L4, reduceCtorEq] at hf
  | succ n ih =>
    intro v2 v3 k H locs ls  hf hP hS hl
    rw [fX7_overOf_L4] at hf
    refine lv_iload_n hx hb dX7_overOf_4 rfl (lv_at hl 3 rfl) ?_
    refine lv_aload_n hx hb dX7_overOf_5 rfl (lv_at hl 0 rfl) ?_
    refine lv_iconst (v := 0) hx hb dX7_overOf_6 (by decide) ?_
    obtain ⟨hc5, hf6⟩ := chk_some hf
    refine x_ildM X hP v0 hv0 hc5 dX7_overOf_7 ?_
    refine lv_icmp_ge (tgt := 42) hx hb dX7_overOf_8 (by decide) (fun c7 => ?_) (fun c7 => ?_)
    · have hf8 := if_at_t c7 hf6
      clear hf6
      refine lv_iload_n hx hb dX7_overOf_42 rfl (lv_at hl 2 rfl) ?_
      obtain ⟨rfl, rfl⟩ := ret_inj hf8
      exact x_iret X hr hlocks hP hS dX7_overOf_43
    · have hf9 := if_at_f c7 hf6
      clear hf6
      refine lv_iload_n hx hb dX7_overOf_11 rfl (lv_at hl 2 rfl) ?_
      refine lv_aload_n hx hb dX7_overOf_12 rfl (lv_at hl 0 rfl) ?_
      refine lv_iload_n hx hb dX7_overOf_13 rfl (lv_at hl 3 rfl) ?_
      obtain ⟨x10, kk11, hg17, hf16⟩ := bd_some hf9
      refine x_ci (x_runS (As := [.ref (g.2.2 v0), .int v3]) (rest := [.int v2]) X hP hS (tX7_liesOn l X.2.2.2.2.2.2.1 hv0 hg17) mi_X7_179 rfl hl.1 rfl (Nat.le_of_ble_eq_true rfl) dX7_overOf_14 ⟨Nat.le_of_ble_eq_true rfl, Nat.le_of_ble_eq_true rfl⟩ ⟨Nat.zero_le _, Nat.zero_le _⟩) hS (fun H12 lc13 hP14 hS15 => ?_)
      clear hf9 hP hS hg17
      refine lv_iload_n hx hb dX7_overOf_17 rfl (lv_at hl 1 rfl) ?_
      obtain ⟨x18, kk19, hg25, hf24⟩ := bd_some hf16
      refine x_ci (x_runS (As := [.int x10, .int v1]) (rest := [.int v2]) X hP14 hS15 (tX7_has l X.2.2.2.2.2.2.1  hg25) mi_X7_175 rfl hl.1 rfl (Nat.le_of_ble_eq_true rfl) dX7_overOf_18 ⟨Nat.le_of_ble_eq_true rfl, Nat.le_of_ble_eq_true rfl⟩ ⟨Nat.zero_le _, Nat.zero_le _⟩) hS15 (fun H20 lc21 hP22 hS23 => ?_)
      clear hf16 hP14 hS15 hg25
      obtain ⟨J34_26, eJ34_26, hf43⟩ := jp_at hf24
      clear hf24
      have hJ34_26 : ∀ (J34_26s0 : Int32) (kk27 : Hp) (H28 : Heap) (lc29 : List Loc) (ls30 : Array Slot), J34_26 J34_26s0 kk27 = some (r, k1) → va_P g.1 vwCl (WW g h kk27) H28 → va_S (inA g) s.heap H28 lc29 → lv_has ls30 4 [(0, .ref (g.2.2 v0)), (1, .int v1), (3, .int v3)] → W p l en (rmD 3) s m args below meth c H28 lc29 0 0 (MQ below (QI g h k1 r) args s 0 0 (inA g)) (F0 m 34 ls30 [.int J34_26s0, .int v2]) := by
        intro J34_26s0 kk27 H28 lc29 ls30 hf34 hP31 hS32 hl33
        clear hf43 hP22 hS23 hl
        subst eJ34_26
        refine lv_iadd hx hb dX7_overOf_34 ?_
        refine lv_topi (fun x35 ex35 => ?_)
        have hf36 := lk_at ex35 hf34
        clear hf34
        refine lv_istore_n (lv' := [(2, .int x35), (0, .ref (g.2.2 v0)), (1, .int v1), (3, .int v3)]) hx hb dX7_overOf_35 rfl hl33 (by decide) rfl (fun ls37 hl38 => ?_)
        clear hl33
        obtain ⟨x39, ex39⟩ : ∃ q : Int32, q = v3 + (1 : Int32) := ⟨_, rfl⟩
        have hf40 := lk_at ex39 hf36
        clear hf36
        refine lv_iinc (v := x39) (lv' := [(3, .int x39), (2, .int x35), (0, .ref (g.2.2 v0)), (1, .int v1)]) hx hb dX7_overOf_36 hl38 (k := 3) rfl (by rw [ex39]; rfl) (by decide) rfl (fun ls41 hl42 => ?_)
        clear hl38
        refine lv_goto (tgt := 4) hx hb dX7_overOf_39 (by decide) ?_
        exact ih x35 x39 kk27  _ _ _ hf40 hP31 hS32 (lv_sub hl42 [2, 3, 1, 0] rfl)
      clear eJ34_26
      refine lv_if_eq (tgt := 33) hx hb dX7_overOf_21 (by decide) (fun c44 => ?_) (fun c44 => ?_)
      · have hf45 := if_at_t c44 hf43
        clear hf43
        refine lv_iconst (v := 0) hx hb dX7_overOf_33 (by decide) ?_
        exact hJ34_26 (0 : Int32) kk19  _ _ _ hf45 hP22 hS23 (lv_sub hl [0, 1, 3] rfl)
      · have hf46 := if_at_f c44 hf43
        clear hf43
        refine lv_aload_n hx hb dX7_overOf_24 rfl (lv_at hl 0 rfl) ?_
        refine lv_iload_n hx hb dX7_overOf_25 rfl (lv_at hl 3 rfl) ?_
        refine lv_iconst (v := 3) hx hb dX7_overOf_26 (by decide) ?_
        obtain ⟨x47, kk48, hg54, hf53⟩ := bd_some hf46
        refine x_ci (x_runS (As := [.ref (g.2.2 v0), .int v3, .int (3 : Int32)]) (rest := [.int v2]) X hP22 hS23 (tX7_of l X.2.2.2.2.2.2.1 hv0 hg54) mi_X7_152 rfl hl.1 rfl (Nat.le_of_ble_eq_true rfl) dX7_overOf_27 ⟨Nat.le_of_ble_eq_true rfl, Nat.le_of_ble_eq_true rfl⟩ ⟨Nat.zero_le _, Nat.zero_le _⟩) hS23 (fun H49 lc50 hP51 hS52 => ?_)
        clear hf46 hP22 hS23 hg54
        refine lv_goto (tgt := 34) hx hb dX7_overOf_30 (by decide) ?_
        exact hJ34_26 x47 kk48  _ _ _ hf53 hP51 hS52 (lv_sub hl [0, 1, 3] rfl)
set_option maxRecDepth 100000 in
set_option maxHeartbeats 4000000 in
theorem tX7_overOf (l : Launch) {g : Gx} (hI : InjG g) {h k k1 : Hp} {a1 : Nat} {a2 : Int32} {r : Int32}  (ha1 : isMA a1 = true) (hf : fX7_overOf a1 a2 k = some (r, k1)) : CI l yX7_overOf cX7_overOf 4 (some .int) 3 g [.ref (g.2.2 a1), .int a2] h k h k1 r := by
  refine Met.ofW (cc := cX7_overOf) (maxL := 4) (ret := (some .int)) (by decide) rfl ?_
  intro p en s m args below meth c s₁ B hml hv
  obtain ⟨rfl, hSK, hSH, hP⟩ := hv
  have X : Cx p s m _ c cX7_overOf 4 RX7 g := ⟨B.exec, B.bytes, hml, findClass_of_methodNamed B.named, fun w hw => atoms_spec (ws := wsy yX7_overOf cX7_overOf 4 (some .int)) B.pre w (List.mem_cons_of_mem _ hw), hSK, hI, hSH⟩
  have hr := B.returns
  have hlocks := B.notSynchronized
  have hx := X.1
  have hb := X.2.1
  have hS : va_S (inA g) s.heap s.heap [] := va_S.rf
  clear hSK hSH hml B
  have hl := lv_entry ([.ref (g.2.2 a1), .int a2]) (n := 4) (Nat.le_of_ble_eq_true rfl)
  rw [lg_entry_eq]
  generalize (lg_sl ([.ref (g.2.2 a1), .int a2]) ++ List.replicate (4 - (lg_sl ([.ref (g.2.2 a1), .int a2])).length) Slot.unset).toArray = ls at hl ⊢
  have hl : lv_has ls 4 [(0, .ref (g.2.2 a1)), (1, .int a2)] := hl
  generalize ([.ref (g.2.2 a1), .int a2] : List Value).toArray = args at X ⊢
  show W p l en (rmD 3) s m args below meth c s.heap [] 0 0 (MQ below (QI g h k1 r) args s 0 0 (inA g)) (F0 m 0 ls [])
  unfold fX7_overOf at hf
  refine lv_iconst (v := 0) hx hb dX7_overOf_0 (by decide) ?_
  refine lv_istore_n (lv' := [(2, .int (0 : Int32)), (0, .ref (g.2.2 a1)), (1, .int a2)]) hx hb dX7_overOf_1 rfl hl (by decide) rfl (fun ls1 hl2 => ?_)
  clear hl
  refine lv_iconst (v := 0) hx hb dX7_overOf_2 (by decide) ?_
  refine lv_istore_n (lv' := [(3, .int (0 : Int32)), (2, .int (0 : Int32)), (0, .ref (g.2.2 a1)), (1, .int a2)]) hx hb dX7_overOf_3 rfl hl2 (by decide) rfl (fun ls3 hl4 => ?_)
  clear hl2
  refine wX7_overOf_L4 X hr hlocks ha1  4096 (0 : Int32) (0 : Int32) k _ _ _  hf hP hS (lv_sub hl4 [2, 3, 1, 0] rfl)
set_option maxRecDepth 100000 in
set_option maxHeartbeats 4000000 in
theorem wX7_ins_L4 {p : Program} {l : Launch} {en : Env} {s : State} {m : MethodId} {args : Array Value} {below : List Frame} {meth : Method} {c : Code} {g : Gx} (X : Cx p s m args c cX7_ins 3 RX7 g) (hr : meth.sig.returnType = (some .int)) (hlocks : meth.locks = false) {h k1 : Hp} {r : Int32} {v0 : Nat} (hv0 : isMA v0 = true) 
     :
    ∀ (n : Nat) (v1 : Int32) (v2 : Int32) (k : Hp) (H : Heap) (locs : List Loc) (ls : Array Slot), fX7_ins_L4 n v0 v1 v2 k = some (r, k1) → va_P g.1 vwCl (WW g h k) H → va_S (inA g) s.heap H locs → lv_has ls 3 [(0, .ref (g.2.2 v0)), (1, .int v1), (2, .int v2)] → W p l en (rmD 2) s m args below meth c H locs 0 0 (MQ below (QI g h k1 r) args s 0 0 (inA g)) (F0 m 4 ls []) := by
  have hx := X.1
  have hb := X.2.1
  intro n
  induction n with
  | zero => intro v1 v2 k H locs ls  hf; simp only [fX7_ins_L4, reduceCtorEq] at hf
  | succ n ih =>
    intro v1 v2 k H locs ls  hf hP hS hl
    rw [fX7_ins_L4] at hf
    refine lv_iload_n hx hb dX7_ins_4 rfl (lv_at hl 2 rfl) ?_
    refine lv_aload_n hx hb dX7_ins_5 rfl (lv_at hl 0 rfl) ?_
    refine lv_iconst (v := 0) hx hb dX7_ins_6 (by decide) ?_
    obtain ⟨hc5, hf6⟩ := chk_some hf
    refine x_ildM X hP v0 hv0 hc5 dX7_ins_7 ?_
    refine lv_icmp_ge (tgt := 35) hx hb dX7_ins_8 (by decide) (fun c7 => ?_) (fun c7 => ?_)
    · have hf8 := if_at_t c7 hf6
      clear hf6
      refine lv_iload_n hx hb dX7_ins_35 rfl (lv_at hl 1 rfl) ?_
      obtain ⟨rfl, rfl⟩ := ret_inj hf8
      exact x_iret X hr hlocks hP hS dX7_ins_36
    · have hf9 := if_at_f c7 hf6
      clear hf6
      refine lv_iload_n hx hb dX7_ins_11 rfl (lv_at hl 1 rfl) ?_
      refine lv_aload_n hx hb dX7_ins_12 rfl (lv_at hl 0 rfl) ?_
      refine lv_iload_n hx hb dX7_ins_13 rfl (lv_at hl 2 rfl) ?_
      obtain ⟨x10, kk11, hg17, hf16⟩ := bd_some hf9
      refine x_ci (x_runS (As := [.ref (g.2.2 v0), .int v2]) (rest := [.int v1]) X hP hS (tX7_isIn l X.2.2.2.2.2.2.1 hv0 hg17) mi_X7_156 rfl hl.1 rfl (Nat.le_of_ble_eq_true rfl) dX7_ins_14 ⟨Nat.le_of_ble_eq_true rfl, Nat.le_of_ble_eq_true rfl⟩ ⟨Nat.zero_le _, Nat.zero_le _⟩) hS (fun H12 lc13 hP14 hS15 => ?_)
      clear hf9 hP hS hg17
      obtain ⟨J27_18, eJ27_18, hf35⟩ := jp_at hf16
      clear hf16
      have hJ27_18 : ∀ (J27_18s0 : Int32) (kk19 : Hp) (H20 : Heap) (lc21 : List Loc) (ls22 : Array Slot), J27_18 J27_18s0 kk19 = some (r, k1) → va_P g.1 vwCl (WW g h kk19) H20 → va_S (inA g) s.heap H20 lc21 → lv_has ls22 3 [(0, .ref (g.2.2 v0)), (2, .int v2)] → W p l en (rmD 2) s m args below meth c H20 lc21 0 0 (MQ below (QI g h k1 r) args s 0 0 (inA g)) (F0 m 27 ls22 [.int J27_18s0, .int v1]) := by
        intro J27_18s0 kk19 H20 lc21 ls22 hf26 hP23 hS24 hl25
        clear hf35 hP14 hS15 hl
        subst eJ27_18
        refine lv_ior hx hb dX7_ins_27 ?_
        refine lv_topi (fun x27 ex27 => ?_)
        have hf28 := lk_at ex27 hf26
        clear hf26
        refine lv_istore_n (lv' := [(1, .int x27), (0, .ref (g.2.2 v0)), (2, .int v2)]) hx hb dX7_ins_28 rfl hl25 (by decide) rfl (fun ls29 hl30 => ?_)
        clear hl25
        obtain ⟨x31, ex31⟩ : ∃ q : Int32, q = v2 + (1 : Int32) := ⟨_, rfl⟩
        have hf32 := lk_at ex31 hf28
        clear hf28
        refine lv_iinc (v := x31) (lv' := [(2, .int x31), (1, .int x27), (0, .ref (g.2.2 v0))]) hx hb dX7_ins_29 hl30 (k := 2) rfl (by rw [ex31]; rfl) (by decide) rfl (fun ls33 hl34 => ?_)
        clear hl30
        refine lv_goto (tgt := 4) hx hb dX7_ins_32 (by decide) ?_
        exact ih x27 x31 kk19  _ _ _ hf32 hP23 hS24 (lv_sub hl34 [2, 1, 0] rfl)
      clear eJ27_18
      refine lv_if_eq (tgt := 26) hx hb dX7_ins_17 (by decide) (fun c36 => ?_) (fun c36 => ?_)
      · have hf37 := if_at_t c36 hf35
        clear hf35
        refine lv_iconst (v := 0) hx hb dX7_ins_26 (by decide) ?_
        exact hJ27_18 (0 : Int32) kk11  _ _ _ hf37 hP14 hS15 (lv_sub hl [0, 2] rfl)
      · have hf38 := if_at_f c36 hf35
        clear hf35
        refine lv_iconst (v := 1) hx hb dX7_ins_20 (by decide) ?_
        refine lv_iload_n hx hb dX7_ins_21 rfl (lv_at hl 2 rfl) ?_
        refine x_ishl X dX7_ins_22 ?_
        refine lv_goto (tgt := 27) hx hb dX7_ins_23 (by decide) ?_
        exact hJ27_18 (shlI (1 : Int32) v2) kk11  _ _ _ hf38 hP14 hS15 (lv_sub hl [0, 2] rfl)
set_option maxRecDepth 100000 in
set_option maxHeartbeats 4000000 in
theorem tX7_ins (l : Launch) {g : Gx} (hI : InjG g) {h k k1 : Hp} {a1 : Nat} {r : Int32}  (ha1 : isMA a1 = true) (hf : fX7_ins a1 k = some (r, k1)) : CI l yX7_ins cX7_ins 3 (some .int) 2 g [.ref (g.2.2 a1)] h k h k1 r := by
  refine Met.ofW (cc := cX7_ins) (maxL := 3) (ret := (some .int)) (by decide) rfl ?_
  intro p en s m args below meth c s₁ B hml hv
  obtain ⟨rfl, hSK, hSH, hP⟩ := hv
  have X : Cx p s m _ c cX7_ins 3 RX7 g := ⟨B.exec, B.bytes, hml, findClass_of_methodNamed B.named, fun w hw => atoms_spec (ws := wsy yX7_ins cX7_ins 3 (some .int)) B.pre w (List.mem_cons_of_mem _ hw), hSK, hI, hSH⟩
  have hr := B.returns
  have hlocks := B.notSynchronized
  have hx := X.1
  have hb := X.2.1
  have hS : va_S (inA g) s.heap s.heap [] := va_S.rf
  clear hSK hSH hml B
  have hl := lv_entry ([.ref (g.2.2 a1)]) (n := 3) (Nat.le_of_ble_eq_true rfl)
  rw [lg_entry_eq]
  generalize (lg_sl ([.ref (g.2.2 a1)]) ++ List.replicate (3 - (lg_sl ([.ref (g.2.2 a1)])).length) Slot.unset).toArray = ls at hl ⊢
  have hl : lv_has ls 3 [(0, .ref (g.2.2 a1))] := hl
  generalize ([.ref (g.2.2 a1)] : List Value).toArray = args at X ⊢
  show W p l en (rmD 2) s m args below meth c s.heap [] 0 0 (MQ below (QI g h k1 r) args s 0 0 (inA g)) (F0 m 0 ls [])
  unfold fX7_ins at hf
  refine lv_iconst (v := 0) hx hb dX7_ins_0 (by decide) ?_
  refine lv_istore_n (lv' := [(1, .int (0 : Int32)), (0, .ref (g.2.2 a1))]) hx hb dX7_ins_1 rfl hl (by decide) rfl (fun ls1 hl2 => ?_)
  clear hl
  refine lv_iconst (v := 0) hx hb dX7_ins_2 (by decide) ?_
  refine lv_istore_n (lv' := [(2, .int (0 : Int32)), (1, .int (0 : Int32)), (0, .ref (g.2.2 a1))]) hx hb dX7_ins_3 rfl hl2 (by decide) rfl (fun ls3 hl4 => ?_)
  clear hl2
  refine wX7_ins_L4 X hr hlocks ha1  4096 (0 : Int32) (0 : Int32) k _ _ _  hf hP hS (lv_sub hl4 [2, 1, 0] rfl)
set_option maxRecDepth 100000 in
set_option maxHeartbeats 4000000 in
theorem wX7_numbered_L4 {p : Program} {l : Launch} {en : Env} {s : State} {m : MethodId} {args : Array Value} {below : List Frame} {meth : Method} {c : Code} {g : Gx} (X : Cx p s m args c cX7_numbered 3 RX7 g) (hr : meth.sig.returnType = (some .int)) (hlocks : meth.locks = false) {h k1 : Hp} {r : Int32} {v0 : Nat} (hv0 : isMA v0 = true) 
     :
    ∀ (n : Nat) (v1 : Int32) (v2 : Int32) (k : Hp) (H : Heap) (locs : List Loc) (ls : Array Slot), fX7_numbered_L4 n v0 v1 v2 k = some (r, k1) → va_P g.1 vwCl (WW g h k) H → va_S (inA g) s.heap H locs → lv_has ls 3 [(0, .ref (g.2.2 v0)), (1, .int v1), (2, .int v2)] → W p l en (rmD 1) s m args below meth c H locs 0 0 (MQ below (QI g h k1 r) args s 0 0 (inA g)) (F0 m 4 ls []) := by
  have hx := X.1
  have hb := X.2.1
  intro n
  induction n with
  | zero => intro v1 v2 k H locs ls  hf; simp only [fX7_numbered_L4, reduceCtorEq] at hf
  | succ n ih =>
    intro v1 v2 k H locs ls  hf hP hS hl
    rw [fX7_numbered_L4] at hf
    refine lv_iload_n hx hb dX7_numbered_4 rfl (lv_at hl 2 rfl) ?_
    refine lv_aload_n hx hb dX7_numbered_5 rfl (lv_at hl 0 rfl) ?_
    refine lv_iconst (v := 0) hx hb dX7_numbered_6 (by decide) ?_
    obtain ⟨hc5, hf6⟩ := chk_some hf
    refine x_ildM X hP v0 hv0 hc5 dX7_numbered_7 ?_
    refine lv_icmp_ge (tgt := 36) hx hb dX7_numbered_8 (by decide) (fun c7 => ?_) (fun c7 => ?_)
    · have hf8 := if_at_t c7 hf6
      clear hf6
      refine lv_iload_n hx hb dX7_numbered_36 rfl (lv_at hl 1 rfl) ?_
      obtain ⟨rfl, rfl⟩ := ret_inj hf8
      exact x_iret X hr hlocks hP hS dX7_numbered_37
    · have hf9 := if_at_f c7 hf6
      clear hf6
      refine lv_iload_n hx hb dX7_numbered_11 rfl (lv_at hl 1 rfl) ?_
      refine lv_aload_n hx hb dX7_numbered_12 rfl (lv_at hl 0 rfl) ?_
      refine lv_iload_n hx hb dX7_numbered_13 rfl (lv_at hl 2 rfl) ?_
      refine lv_iconst (v := 4) hx hb dX7_numbered_14 (by decide) ?_
      obtain ⟨x10, kk11, hg17, hf16⟩ := bd_some hf9
      refine x_ci (x_runS (As := [.ref (g.2.2 v0), .int v2, .int (4 : Int32)]) (rest := [.int v1]) X hP hS (tX7_of l X.2.2.2.2.2.2.1 hv0 hg17) mi_X7_152 rfl hl.1 rfl (Nat.le_of_ble_eq_true rfl) dX7_numbered_15 ⟨Nat.le_of_ble_eq_true rfl, Nat.le_of_ble_eq_true rfl⟩ ⟨Nat.zero_le _, Nat.zero_le _⟩) hS (fun H12 lc13 hP14 hS15 => ?_)
      clear hf9 hP hS hg17
      obtain ⟨J28_18, eJ28_18, hf35⟩ := jp_at hf16
      clear hf16
      have hJ28_18 : ∀ (J28_18s0 : Int32) (kk19 : Hp) (H20 : Heap) (lc21 : List Loc) (ls22 : Array Slot), J28_18 J28_18s0 kk19 = some (r, k1) → va_P g.1 vwCl (WW g h kk19) H20 → va_S (inA g) s.heap H20 lc21 → lv_has ls22 3 [(0, .ref (g.2.2 v0)), (2, .int v2)] → W p l en (rmD 1) s m args below meth c H20 lc21 0 0 (MQ below (QI g h k1 r) args s 0 0 (inA g)) (F0 m 28 ls22 [.int J28_18s0, .int v1]) := by
        intro J28_18s0 kk19 H20 lc21 ls22 hf26 hP23 hS24 hl25
        clear hf35 hP14 hS15 hl
        subst eJ28_18
        refine lv_ior hx hb dX7_numbered_28 ?_
        refine lv_topi (fun x27 ex27 => ?_)
        have hf28 := lk_at ex27 hf26
        clear hf26
        refine lv_istore_n (lv' := [(1, .int x27), (0, .ref (g.2.2 v0)), (2, .int v2)]) hx hb dX7_numbered_29 rfl hl25 (by decide) rfl (fun ls29 hl30 => ?_)
        clear hl25
        obtain ⟨x31, ex31⟩ : ∃ q : Int32, q = v2 + (1 : Int32) := ⟨_, rfl⟩
        have hf32 := lk_at ex31 hf28
        clear hf28
        refine lv_iinc (v := x31) (lv' := [(2, .int x31), (1, .int x27), (0, .ref (g.2.2 v0))]) hx hb dX7_numbered_30 hl30 (k := 2) rfl (by rw [ex31]; rfl) (by decide) rfl (fun ls33 hl34 => ?_)
        clear hl30
        refine lv_goto (tgt := 4) hx hb dX7_numbered_33 (by decide) ?_
        exact ih x27 x31 kk19  _ _ _ hf32 hP23 hS24 (lv_sub hl34 [2, 1, 0] rfl)
      clear eJ28_18
      refine lv_if_le (tgt := 27) hx hb dX7_numbered_18 (by decide) (fun c36 => ?_) (fun c36 => ?_)
      · have hf37 := if_at_t c36 hf35
        clear hf35
        refine lv_iconst (v := 0) hx hb dX7_numbered_27 (by decide) ?_
        exact hJ28_18 (0 : Int32) kk11  _ _ _ hf37 hP14 hS15 (lv_sub hl [0, 2] rfl)
      · have hf38 := if_at_f c36 hf35
        clear hf35
        refine lv_iconst (v := 1) hx hb dX7_numbered_21 (by decide) ?_
        refine lv_iload_n hx hb dX7_numbered_22 rfl (lv_at hl 2 rfl) ?_
        refine x_ishl X dX7_numbered_23 ?_
        refine lv_goto (tgt := 28) hx hb dX7_numbered_24 (by decide) ?_
        exact hJ28_18 (shlI (1 : Int32) v2) kk11  _ _ _ hf38 hP14 hS15 (lv_sub hl [0, 2] rfl)
set_option maxRecDepth 100000 in
set_option maxHeartbeats 4000000 in
theorem tX7_numbered (l : Launch) {g : Gx} (hI : InjG g) {h k k1 : Hp} {a1 : Nat} {r : Int32}  (ha1 : isMA a1 = true) (hf : fX7_numbered a1 k = some (r, k1)) : CI l yX7_numbered cX7_numbered 3 (some .int) 1 g [.ref (g.2.2 a1)] h k h k1 r := by
  refine Met.ofW (cc := cX7_numbered) (maxL := 3) (ret := (some .int)) (by decide) rfl ?_
  intro p en s m args below meth c s₁ B hml hv
  obtain ⟨rfl, hSK, hSH, hP⟩ := hv
  have X : Cx p s m _ c cX7_numbered 3 RX7 g := ⟨B.exec, B.bytes, hml, findClass_of_methodNamed B.named, fun w hw => atoms_spec (ws := wsy yX7_numbered cX7_numbered 3 (some .int)) B.pre w (List.mem_cons_of_mem _ hw), hSK, hI, hSH⟩
  have hr := B.returns
  have hlocks := B.notSynchronized
  have hx := X.1
  have hb := X.2.1
  have hS : va_S (inA g) s.heap s.heap [] := va_S.rf
  clear hSK hSH hml B
  have hl := lv_entry ([.ref (g.2.2 a1)]) (n := 3) (Nat.le_of_ble_eq_true rfl)
  rw [lg_entry_eq]
  generalize (lg_sl ([.ref (g.2.2 a1)]) ++ List.replicate (3 - (lg_sl ([.ref (g.2.2 a1)])).length) Slot.unset).toArray = ls at hl ⊢
  have hl : lv_has ls 3 [(0, .ref (g.2.2 a1))] := hl
  generalize ([.ref (g.2.2 a1)] : List Value).toArray = args at X ⊢
  show W p l en (rmD 1) s m args below meth c s.heap [] 0 0 (MQ below (QI g h k1 r) args s 0 0 (inA g)) (F0 m 0 ls [])
  unfold fX7_numbered at hf
  refine lv_iconst (v := 0) hx hb dX7_numbered_0 (by decide) ?_
  refine lv_istore_n (lv' := [(1, .int (0 : Int32)), (0, .ref (g.2.2 a1))]) hx hb dX7_numbered_1 rfl hl (by decide) rfl (fun ls1 hl2 => ?_)
  clear hl
  refine lv_iconst (v := 0) hx hb dX7_numbered_2 (by decide) ?_
  refine lv_istore_n (lv' := [(2, .int (0 : Int32)), (1, .int (0 : Int32)), (0, .ref (g.2.2 a1))]) hx hb dX7_numbered_3 rfl hl2 (by decide) rfl (fun ls3 hl4 => ?_)
  clear hl2
  refine wX7_numbered_L4 X hr hlocks ha1  4096 (0 : Int32) (0 : Int32) k _ _ _  hf hP hS (lv_sub hl4 [2, 1, 0] rfl)
set_option maxRecDepth 100000 in
set_option maxHeartbeats 4000000 in
theorem tX7_letIn (l : Launch) {g : Gx} (hI : InjG g) {h k k1 : Hp} {a1 : Nat} {a2 : Int32} {a3 : Int32} {a4 : Int32}  (ha1 : isMA a1 = true) (hf : fX7_letIn a1 a2 a3 a4 k = some ((), k1)) : CV l yX7_letIn cX7_letIn 4 none 1 g [.ref (g.2.2 a1), .int a2, .int a3, .int a4] h k h k1 := by
  refine Met.ofW (cc := cX7_letIn) (maxL := 4) (ret := none) (by decide) rfl ?_
  intro p en s m args below meth c s₁ B hml hv
  obtain ⟨rfl, hSK, hSH, hP⟩ := hv
  have X : Cx p s m _ c cX7_letIn 4 RX7 g := ⟨B.exec, B.bytes, hml, findClass_of_methodNamed B.named, fun w hw => atoms_spec (ws := wsy yX7_letIn cX7_letIn 4 none) B.pre w (List.mem_cons_of_mem _ hw), hSK, hI, hSH⟩
  have hr := B.returns
  have hlocks := B.notSynchronized
  have hx := X.1
  have hb := X.2.1
  have hS : va_S (inA g) s.heap s.heap [] := va_S.rf
  clear hSK hSH hml B
  have hl := lv_entry ([.ref (g.2.2 a1), .int a2, .int a3, .int a4]) (n := 4) (Nat.le_of_ble_eq_true rfl)
  rw [lg_entry_eq]
  generalize (lg_sl ([.ref (g.2.2 a1), .int a2, .int a3, .int a4]) ++ List.replicate (4 - (lg_sl ([.ref (g.2.2 a1), .int a2, .int a3, .int a4])).length) Slot.unset).toArray = ls at hl ⊢
  have hl : lv_has ls 4 [(0, .ref (g.2.2 a1)), (1, .int a2), (2, .int a3), (3, .int a4)] := hl
  generalize ([.ref (g.2.2 a1), .int a2, .int a3, .int a4] : List Value).toArray = args at X ⊢
  show W p l en (rmD 1) s m args below meth c s.heap [] 0 0 (MQ below (QV g h k1) args s 0 0 (inA g)) (F0 m 0 ls [])
  unfold fX7_letIn at hf
  refine lv_aload_n hx hb dX7_letIn_0 rfl (lv_at hl 0 rfl) ?_
  refine lv_iload_n hx hb dX7_letIn_1 rfl (lv_at hl 1 rfl) ?_
  refine lv_iconst (v := 1) hx hb dX7_letIn_2 (by decide) ?_
  refine lv_iload_n hx hb dX7_letIn_3 rfl (lv_at hl 2 rfl) ?_
  obtain ⟨⟨⟩, kk2, hg8, hf7⟩ := bd_some hf
  refine x_cv (x_runS (As := [.ref (g.2.2 a1), .int a2, .int (1 : Int32), .int a3]) (rest := []) X hP hS (tX7_be l X.2.2.2.2.2.2.1 ha1 hg8) mi_X7_163 rfl hl.1 rfl (Nat.le_of_ble_eq_true rfl) dX7_letIn_4 ⟨Nat.le_of_ble_eq_true rfl, Nat.le_of_ble_eq_true rfl⟩ ⟨Nat.zero_le _, Nat.zero_le _⟩) hS (fun H3 lc4 hP5 hS6 => ?_)
  clear hf hP hS hg8
  refine lv_aload_n hx hb dX7_letIn_7 rfl (lv_at hl 0 rfl) ?_
  refine lv_iload_n hx hb dX7_letIn_8 rfl (lv_at hl 1 rfl) ?_
  refine lv_iconst (v := 3) hx hb dX7_letIn_9 (by decide) ?_
  refine lv_iload_n hx hb dX7_letIn_10 rfl (lv_at hl 3 rfl) ?_
  obtain ⟨⟨⟩, kk10, hg16, hf15⟩ := bd_some hf7
  refine x_cv (x_runS (As := [.ref (g.2.2 a1), .int a2, .int (3 : Int32), .int a4]) (rest := []) X hP5 hS6 (tX7_be l X.2.2.2.2.2.2.1 ha1 hg16) mi_X7_163 rfl hl.1 rfl (Nat.le_of_ble_eq_true rfl) dX7_letIn_11 ⟨Nat.le_of_ble_eq_true rfl, Nat.le_of_ble_eq_true rfl⟩ ⟨Nat.zero_le _, Nat.zero_le _⟩) hS6 (fun H11 lc12 hP13 hS14 => ?_)
  clear hf7 hP5 hS6 hg16
  refine lv_aload_n hx hb dX7_letIn_14 rfl (lv_at hl 0 rfl) ?_
  refine lv_iload_n hx hb dX7_letIn_15 rfl (lv_at hl 1 rfl) ?_
  refine lv_iconst (v := 5) hx hb dX7_letIn_16 (by decide) ?_
  refine lv_iconst (v := 1) hx hb dX7_letIn_17 (by decide) ?_
  obtain ⟨⟨⟩, kk18, hg24, hf23⟩ := bd_some hf15
  refine x_cv (x_runS (As := [.ref (g.2.2 a1), .int a2, .int (5 : Int32), .int (1 : Int32)]) (rest := []) X hP13 hS14 (tX7_be l X.2.2.2.2.2.2.1 ha1 hg24) mi_X7_163 rfl hl.1 rfl (Nat.le_of_ble_eq_true rfl) dX7_letIn_18 ⟨Nat.le_of_ble_eq_true rfl, Nat.le_of_ble_eq_true rfl⟩ ⟨Nat.zero_le _, Nat.zero_le _⟩) hS14 (fun H19 lc20 hP21 hS22 => ?_)
  clear hf15 hP13 hS14 hg24
  obtain ⟨-, rfl⟩ := ret_inj hf23
  exact x_vret X hr hlocks hP21 hS22 dX7_letIn_21
set_option maxRecDepth 100000 in
set_option maxHeartbeats 4000000 in
theorem wX7_layThen_L2 {p : Program} {l : Launch} {en : Env} {s : State} {m : MethodId} {args : Array Value} {below : List Frame} {meth : Method} {c : Code} {g : Gx} (X : Cx p s m args c cX7_layThen 2 RX7 g) (hr : meth.sig.returnType = none) (hlocks : meth.locks = false) {h k1 : Hp}   
     :
    ∀ (n : Nat) (v1 : Int32) (k : Hp) (H : Heap) (locs : List Loc) (ls : Array Slot), fX7_layThen_L2 n v1 k = some ((), k1) → va_P g.1 vwCl (WW g h k) H → va_S (inA g) s.heap H locs → lv_has ls 2 [(0, .ref (g.2.2 246)), (1, .int v1)] → W p l en (rmD 0) s m args below meth c H locs 0 0 (MQ below (QV g h k1) args s 0 0 (inA g)) (F0 m 2 ls []) := by
  have hx := X.1
  have hb := X.2.1
  intro n
  induction n with
  | zero => intro v1 k H locs ls  hf; simp only [fX7_layThen_L2, reduceCtorEq] at hf
  | succ n ih =>
    intro v1 k H locs ls  hf hP hS hl
    rw [fX7_layThen_L2] at hf
    refine lv_iload_n hx hb dX7_layThen_2 rfl (lv_at hl 1 rfl) ?_
    refine lv_bipush (v := 50) hx hb dX7_layThen_3 (by decide) ?_
    refine lv_icmp_ge (tgt := 26) hx hb dX7_layThen_5 (by decide) (fun c3 => ?_) (fun c3 => ?_)
    · have hf4 := if_at_t c3 hf
      clear hf
      obtain ⟨-, rfl⟩ := ret_inj hf4
      exact x_vret X hr hlocks hP hS dX7_layThen_26
    · have hf5 := if_at_f c3 hf
      clear hf
      refine lv_aload_n hx hb dX7_layThen_8 rfl (lv_at hl 0 rfl) ?_
      refine gX7 X hP 7 (v := .ref (g.2.2 252)) rfl (by decide) rfl wd_890 dX7_layThen_9 ?_
      refine lv_iload_n hx hb dX7_layThen_12 rfl (lv_at hl 1 rfl) ?_
      refine lv_aload_n hx hb dX7_layThen_13 rfl (lv_at hl 0 rfl) ?_
      refine gX7 X hP 5 (v := .ref (g.2.2 250)) rfl (by decide) rfl wd_888 dX7_layThen_14 ?_
      refine lv_iload_n hx hb dX7_layThen_17 rfl (lv_at hl 1 rfl) ?_
      obtain ⟨hc6, hf7⟩ := chk_some hf5
      refine x_ildM X hP 250 rfl hc6 dX7_layThen_18 ?_
      obtain ⟨hc8, hf9⟩ := chk_some hf7
      refine x_istM X hP hS 252 rfl hc8 dX7_layThen_19 (fun H10 lc11 kk12 ekk12 hP13 hS14 => ?_)
      have hf15 := lk_at ekk12 hf9
      clear hf9 hP hS
      obtain ⟨x16, ex16⟩ : ∃ q : Int32, q = v1 + (1 : Int32) := ⟨_, rfl⟩
      have hf17 := lk_at ex16 hf15
      clear hf15
      refine lv_iinc (v := x16) (lv' := [(1, .int x16), (0, .ref (g.2.2 246))]) hx hb dX7_layThen_20 hl (k := 1) rfl (by rw [ex16]; rfl) (by decide) rfl (fun ls18 hl19 => ?_)
      clear hl
      refine lv_goto (tgt := 2) hx hb dX7_layThen_23 (by decide) ?_
      exact ih x16 kk12  _ _ _ hf17 hP13 hS14 (lv_sub hl19 [1, 0] rfl)
set_option maxRecDepth 100000 in
set_option maxHeartbeats 4000000 in
theorem tX7_layThen (l : Launch) {g : Gx} (hI : InjG g) {h k k1 : Hp}    (hf : fX7_layThen k = some ((), k1)) : CV l yX7_layThen cX7_layThen 2 none 0 g [.ref (g.2.2 246)] h k h k1 := by
  refine Met.ofW (cc := cX7_layThen) (maxL := 2) (ret := none) (by decide) rfl ?_
  intro p en s m args below meth c s₁ B hml hv
  obtain ⟨rfl, hSK, hSH, hP⟩ := hv
  have X : Cx p s m _ c cX7_layThen 2 RX7 g := ⟨B.exec, B.bytes, hml, findClass_of_methodNamed B.named, fun w hw => atoms_spec (ws := wsy yX7_layThen cX7_layThen 2 none) B.pre w (List.mem_cons_of_mem _ hw), hSK, hI, hSH⟩
  have hr := B.returns
  have hlocks := B.notSynchronized
  have hx := X.1
  have hb := X.2.1
  have hS : va_S (inA g) s.heap s.heap [] := va_S.rf
  clear hSK hSH hml B
  have hl := lv_entry ([.ref (g.2.2 246)]) (n := 2) (Nat.le_of_ble_eq_true rfl)
  rw [lg_entry_eq]
  generalize (lg_sl ([.ref (g.2.2 246)]) ++ List.replicate (2 - (lg_sl ([.ref (g.2.2 246)])).length) Slot.unset).toArray = ls at hl ⊢
  have hl : lv_has ls 2 [(0, .ref (g.2.2 246))] := hl
  generalize ([.ref (g.2.2 246)] : List Value).toArray = args at X ⊢
  show W p l en (rmD 0) s m args below meth c s.heap [] 0 0 (MQ below (QV g h k1) args s 0 0 (inA g)) (F0 m 0 ls [])
  unfold fX7_layThen at hf
  refine lv_iconst (v := 0) hx hb dX7_layThen_0 (by decide) ?_
  refine lv_istore_n (lv' := [(1, .int (0 : Int32)), (0, .ref (g.2.2 246))]) hx hb dX7_layThen_1 rfl hl (by decide) rfl (fun ls1 hl2 => ?_)
  clear hl
  refine wX7_layThen_L2 X hr hlocks   4096 (0 : Int32) k _ _ _  hf hP hS (lv_sub hl2 [1, 0] rfl)
set_option maxRecDepth 100000 in
set_option maxHeartbeats 4000000 in
theorem wX7_keep_L51 {p : Program} {l : Launch} {en : Env} {s : State} {m : MethodId} {args : Array Value} {below : List Frame} {meth : Method} {c : Code} {g : Gx} (X : Cx p s m args c cX7_keep 2 RX7 g) (hr : meth.sig.returnType = none) (hlocks : meth.locks = false) {h k1 : Hp}   {K83 : Hp → Option (Unit × Hp)}
    (hK83 : ∀  (k : Hp) (H : Heap) (locs : List Loc) (ls : Array Slot), K83  k = some ((), k1) → va_P g.1 vwCl (WW g h k) H → va_S (inA g) s.heap H locs → lv_has ls 2 [(0, .ref (g.2.2 246))] → W p l en (rmD 0) s m args below meth c H locs 0 0 (MQ below (QV g h k1) args s 0 0 (inA g)) (F0 m 83 ls [])) :
    ∀ (n : Nat) (v1 : Int32) (k : Hp) (H : Heap) (locs : List Loc) (ls : Array Slot), fX7_keep_L51 K83 n v1 k = some ((), k1) → va_P g.1 vwCl (WW g h k) H → va_S (inA g) s.heap H locs → lv_has ls 2 [(0, .ref (g.2.2 246)), (1, .int v1)] → W p l en (rmD 0) s m args below meth c H locs 0 0 (MQ below (QV g h k1) args s 0 0 (inA g)) (F0 m 51 ls []) := by
  have hx := X.1
  have hb := X.2.1
  intro n
  induction n with
  | zero => intro v1 k H locs ls  hf; simp only [fX7_keep_L51, reduceCtorEq] at hf
  | succ n ih =>
    intro v1 k H locs ls  hf hP hS hl
    rw [fX7_keep_L51] at hf
    refine lv_iload_n hx hb dX7_keep_51 rfl (lv_at hl 1 rfl) ?_
    refine lv_bipush (v := 50) hx hb dX7_keep_52 (by decide) ?_
    refine lv_icmp_ge (tgt := 83) hx hb dX7_keep_54 (by decide) (fun c12 => ?_) (fun c12 => ?_)
    · have hf13 := if_at_t c12 hf
      clear hf
      exact hK83 k  _ _ _ hf13 hP hS (lv_sub hl [0] rfl)
    · have hf14 := if_at_f c12 hf
      clear hf
      refine lv_aload_n hx hb dX7_keep_57 rfl (lv_at hl 0 rfl) ?_
      refine gX7 X hP 8 (v := .ref (g.2.2 253)) rfl (by decide) rfl wd_891 dX7_keep_58 ?_
      refine lv_bipush (v := 50) hx hb dX7_keep_61 (by decide) ?_
      refine lv_aload_n hx hb dX7_keep_63 rfl (lv_at hl 0 rfl) ?_
      refine gX7 X hP 9 (v := .int (k 246 9)) rfl (by decide) rfl wd_892 dX7_keep_64 ?_
      refine lv_imul hx hb dX7_keep_67 ?_
      refine lv_iload_n hx hb dX7_keep_68 rfl (lv_at hl 1 rfl) ?_
      refine lv_iadd hx hb dX7_keep_69 ?_
      refine lv_aload_n hx hb dX7_keep_70 rfl (lv_at hl 0 rfl) ?_
      refine gX7 X hP 5 (v := .ref (g.2.2 250)) rfl (by decide) rfl wd_888 dX7_keep_71 ?_
      refine lv_iload_n hx hb dX7_keep_74 rfl (lv_at hl 1 rfl) ?_
      obtain ⟨hc15, hf16⟩ := chk_some hf14
      refine x_ildM X hP 250 rfl hc15 dX7_keep_75 ?_
      obtain ⟨hc17, hf18⟩ := chk_some hf16
      refine x_istM X hP hS 253 rfl hc17 dX7_keep_76 (fun H19 lc20 kk21 ekk21 hP22 hS23 => ?_)
      have hf24 := lk_at ekk21 hf18
      clear hf18 hP hS
      obtain ⟨x25, ex25⟩ : ∃ q : Int32, q = v1 + (1 : Int32) := ⟨_, rfl⟩
      have hf26 := lk_at ex25 hf24
      clear hf24
      refine lv_iinc (v := x25) (lv' := [(1, .int x25), (0, .ref (g.2.2 246))]) hx hb dX7_keep_77 hl (k := 1) rfl (by rw [ex25]; rfl) (by decide) rfl (fun ls27 hl28 => ?_)
      clear hl
      refine lv_goto (tgt := 51) hx hb dX7_keep_80 (by decide) ?_
      exact ih x25 kk21  _ _ _ hf26 hP22 hS23 (lv_sub hl28 [1, 0] rfl)
set_option maxRecDepth 100000 in
set_option maxHeartbeats 4000000 in
theorem wX7_keep_L11 {p : Program} {l : Launch} {en : Env} {s : State} {m : MethodId} {args : Array Value} {below : List Frame} {meth : Method} {c : Code} {g : Gx} (X : Cx p s m args c cX7_keep 2 RX7 g) (hr : meth.sig.returnType = none) (hlocks : meth.locks = false) {h k1 : Hp}   {K39 : Hp → Option (Unit × Hp)}
    (hK39 : ∀  (k : Hp) (H : Heap) (locs : List Loc) (ls : Array Slot), K39  k = some ((), k1) → va_P g.1 vwCl (WW g h k) H → va_S (inA g) s.heap H locs → lv_has ls 2 [(0, .ref (g.2.2 246))] → W p l en (rmD 0) s m args below meth c H locs 0 0 (MQ below (QV g h k1) args s 0 0 (inA g)) (F0 m 39 ls [])) :
    ∀ (n : Nat) (v1 : Int32) (k : Hp) (H : Heap) (locs : List Loc) (ls : Array Slot), fX7_keep_L11 K39 n v1 k = some ((), k1) → va_P g.1 vwCl (WW g h k) H → va_S (inA g) s.heap H locs → lv_has ls 2 [(0, .ref (g.2.2 246)), (1, .int v1)] → W p l en (rmD 0) s m args below meth c H locs 0 0 (MQ below (QV g h k1) args s 0 0 (inA g)) (F0 m 11 ls []) := by
  have hx := X.1
  have hb := X.2.1
  intro n
  induction n with
  | zero => intro v1 k H locs ls  hf; simp only [fX7_keep_L11, reduceCtorEq] at hf
  | succ n ih =>
    intro v1 k H locs ls  hf hP hS hl
    rw [fX7_keep_L11] at hf
    refine lv_iload_n hx hb dX7_keep_11 rfl (lv_at hl 1 rfl) ?_
    refine lv_sipush (v := 1150) hx hb dX7_keep_12 (by decide) ?_
    refine lv_icmp_ge (tgt := 39) hx hb dX7_keep_15 (by decide) (fun c49 => ?_) (fun c49 => ?_)
    · have hf50 := if_at_t c49 hf
      clear hf
      exact hK39 k  _ _ _ hf50 hP hS (lv_sub hl [0] rfl)
    · have hf51 := if_at_f c49 hf
      clear hf
      refine lv_aload_n hx hb dX7_keep_18 rfl (lv_at hl 0 rfl) ?_
      refine gX7 X hP 8 (v := .ref (g.2.2 253)) rfl (by decide) rfl wd_891 dX7_keep_19 ?_
      refine lv_iload_n hx hb dX7_keep_22 rfl (lv_at hl 1 rfl) ?_
      refine lv_aload_n hx hb dX7_keep_23 rfl (lv_at hl 0 rfl) ?_
      refine gX7 X hP 8 (v := .ref (g.2.2 253)) rfl (by decide) rfl wd_891 dX7_keep_24 ?_
      refine lv_iload_n hx hb dX7_keep_27 rfl (lv_at hl 1 rfl) ?_
      refine lv_bipush (v := 50) hx hb dX7_keep_28 (by decide) ?_
      refine lv_iadd hx hb dX7_keep_30 ?_
      obtain ⟨hc52, hf53⟩ := chk_some hf51
      refine x_ildM X hP 253 rfl hc52 dX7_keep_31 ?_
      obtain ⟨hc54, hf55⟩ := chk_some hf53
      refine x_istM X hP hS 253 rfl hc54 dX7_keep_32 (fun H56 lc57 kk58 ekk58 hP59 hS60 => ?_)
      have hf61 := lk_at ekk58 hf55
      clear hf55 hP hS
      obtain ⟨x62, ex62⟩ : ∃ q : Int32, q = v1 + (1 : Int32) := ⟨_, rfl⟩
      have hf63 := lk_at ex62 hf61
      clear hf61
      refine lv_iinc (v := x62) (lv' := [(1, .int x62), (0, .ref (g.2.2 246))]) hx hb dX7_keep_33 hl (k := 1) rfl (by rw [ex62]; rfl) (by decide) rfl (fun ls64 hl65 => ?_)
      clear hl
      refine lv_goto (tgt := 11) hx hb dX7_keep_36 (by decide) ?_
      exact ih x62 kk58  _ _ _ hf63 hP59 hS60 (lv_sub hl65 [1, 0] rfl)
set_option maxRecDepth 100000 in
set_option maxHeartbeats 4000000 in
theorem tX7_keep (l : Launch) {g : Gx} (hI : InjG g) {h k k1 : Hp}    (hf : fX7_keep k = some ((), k1)) : CV l yX7_keep cX7_keep 2 none 0 g [.ref (g.2.2 246)] h k h k1 := by
  refine Met.ofW (cc := cX7_keep) (maxL := 2) (ret := none) (by decide) rfl ?_
  intro p en s m args below meth c s₁ B hml hv
  obtain ⟨rfl, hSK, hSH, hP⟩ := hv
  have X : Cx p s m _ c cX7_keep 2 RX7 g := ⟨B.exec, B.bytes, hml, findClass_of_methodNamed B.named, fun w hw => atoms_spec (ws := wsy yX7_keep cX7_keep 2 none) B.pre w (List.mem_cons_of_mem _ hw), hSK, hI, hSH⟩
  have hr := B.returns
  have hlocks := B.notSynchronized
  have hx := X.1
  have hb := X.2.1
  have hS : va_S (inA g) s.heap s.heap [] := va_S.rf
  clear hSK hSH hml B
  have hl := lv_entry ([.ref (g.2.2 246)]) (n := 2) (Nat.le_of_ble_eq_true rfl)
  rw [lg_entry_eq]
  generalize (lg_sl ([.ref (g.2.2 246)]) ++ List.replicate (2 - (lg_sl ([.ref (g.2.2 246)])).length) Slot.unset).toArray = ls at hl ⊢
  have hl : lv_has ls 2 [(0, .ref (g.2.2 246))] := hl
  generalize ([.ref (g.2.2 246)] : List Value).toArray = args at X ⊢
  show W p l en (rmD 0) s m args below meth c s.heap [] 0 0 (MQ below (QV g h k1) args s 0 0 (inA g)) (F0 m 0 ls [])
  unfold fX7_keep at hf
  refine lv_aload_n hx hb dX7_keep_0 rfl (lv_at hl 0 rfl) ?_
  refine gX7 X hP 9 (v := .int (k 246 9)) rfl (by decide) rfl wd_892 dX7_keep_1 ?_
  refine lv_bipush (v := 24) hx hb dX7_keep_4 (by decide) ?_
  obtain ⟨J49_1, eJ49_1, hf43⟩ := jp_at hf
  clear hf
  have hJ49_1 : ∀  (kk2 : Hp) (H3 : Heap) (lc4 : List Loc) (ls5 : Array Slot), J49_1  kk2 = some ((), k1) → va_P g.1 vwCl (WW g h kk2) H3 → va_S (inA g) s.heap H3 lc4 → lv_has ls5 2 [(0, .ref (g.2.2 246))] → W p l en (rmD 0) s m args below meth c H3 lc4 0 0 (MQ below (QV g h k1) args s 0 0 (inA g)) (F0 m 49 ls5 []) := by
    intro  kk2 H3 lc4 ls5 hf9 hP6 hS7 hl8
    clear hf43 hP hS hl
    subst eJ49_1
    refine lv_iconst (v := 0) hx hb dX7_keep_49 (by decide) ?_
    refine lv_istore_n (lv' := [(1, .int (0 : Int32)), (0, .ref (g.2.2 246))]) hx hb dX7_keep_50 rfl hl8 (by decide) rfl (fun ls10 hl11 => ?_)
    clear hl8
    refine wX7_keep_L51 X hr hlocks  ?_ 4096 (0 : Int32) kk2 _ _ _  hf9 hP6 hS7 (lv_sub hl11 [1, 0] rfl)
    · intro  kk29 H30 lc31 ls32  hf36 hP33 hS34 hl35
      refine lv_aload_n hx hb dX7_keep_83 rfl (lv_at hl35 0 rfl) ?_
      refine lv_dup hx hb dX7_keep_84 rfl ?_
      refine gX7 X hP33 9 (v := .int (kk29 246 9)) rfl (by decide) rfl wd_892 dX7_keep_85 ?_
      refine lv_iconst (v := 1) hx hb dX7_keep_88 (by decide) ?_
      refine lv_iadd hx hb dX7_keep_89 ?_
      refine pX7 X hP33 hS34 9 (by decide) rfl wd_892 rfl rfl rfl rfl seX7_9 dX7_keep_90 (fun H37 lc38 kk39 ekk39 hP40 hS41 => ?_)
      have hf42 := lk_at ekk39 hf36
      clear hf36 hP33 hS34
      obtain ⟨-, rfl⟩ := ret_inj hf42
      exact x_vret X hr hlocks hP40 hS41 dX7_keep_93
  clear eJ49_1
  refine lv_icmp_ne (tgt := 49) hx hb dX7_keep_6 (by decide) (fun c44 => ?_) (fun c44 => ?_)
  · have hf45 := if_at_f c44 hf43
    clear hf43
    exact hJ49_1 k  _ _ _ hf45 hP hS (lv_sub hl [0] rfl)
  · have hf46 := if_at_t c44 hf43
    clear hf43
    refine lv_iconst (v := 0) hx hb dX7_keep_9 (by decide) ?_
    refine lv_istore_n (lv' := [(1, .int (0 : Int32)), (0, .ref (g.2.2 246))]) hx hb dX7_keep_10 rfl hl (by decide) rfl (fun ls47 hl48 => ?_)
    clear hl
    refine wX7_keep_L11 X hr hlocks  ?_ 4096 (0 : Int32) k _ _ _  hf46 hP hS (lv_sub hl48 [1, 0] rfl)
    · intro  kk66 H67 lc68 ls69  hf73 hP70 hS71 hl72
      refine lv_aload_n hx hb dX7_keep_39 rfl (lv_at hl72 0 rfl) ?_
      refine lv_dup hx hb dX7_keep_40 rfl ?_
      refine gX7 X hP70 9 (v := .int (kk66 246 9)) rfl (by decide) rfl wd_892 dX7_keep_41 ?_
      refine lv_iconst (v := 1) hx hb dX7_keep_44 (by decide) ?_
      refine lv_isub hx hb dX7_keep_45 ?_
      refine pX7 X hP70 hS71 9 (by decide) rfl wd_892 rfl rfl rfl rfl seX7_9 dX7_keep_46 (fun H74 lc75 kk76 ekk76 hP77 hS78 => ?_)
      have hf79 := lk_at ekk76 hf73
      clear hf73 hP70 hS71
      exact hJ49_1 kk76  _ _ _ hf79 hP77 hS78 (lv_sub hl72 [0] rfl)
set_option maxRecDepth 100000 in
set_option maxHeartbeats 4000000 in
theorem wX7_hours_L50 {p : Program} {l : Launch} {en : Env} {s : State} {m : MethodId} {args : Array Value} {below : List Frame} {meth : Method} {c : Code} {g : Gx} (X : Cx p s m args c cX7_hours 3 RX7 g) (hr : meth.sig.returnType = (some .int)) (hlocks : meth.locks = false) {h k1 : Hp} {r : Int32} {v1 : Int32}  {K72 : Hp → Option (Int32 × Hp)}
    (hK72 : ∀  (k : Hp) (H : Heap) (locs : List Loc) (ls : Array Slot), K72  k = some (r, k1) → va_P g.1 vwCl (WW g h k) H → va_S (inA g) s.heap H locs → lv_has ls 3 [(0, .ref (g.2.2 246))] → W p l en (rmD 4) s m args below meth c H locs 0 0 (MQ below (QI g h k1 r) args s 0 0 (inA g)) (F0 m 72 ls [])) :
    ∀ (n : Nat) (v2 : Int32) (k : Hp) (H : Heap) (locs : List Loc) (ls : Array Slot), fX7_hours_L50 K72 n v1 v2 k = some (r, k1) → va_P g.1 vwCl (WW g h k) H → va_S (inA g) s.heap H locs → lv_has ls 3 [(0, .ref (g.2.2 246)), (1, .int v1), (2, .int v2)] → W p l en (rmD 4) s m args below meth c H locs 0 0 (MQ below (QI g h k1 r) args s 0 0 (inA g)) (F0 m 50 ls []) := by
  have hx := X.1
  have hb := X.2.1
  intro n
  induction n with
  | zero => intro v2 k H locs ls  hf; simp only [fX7_hours_L50, reduceCtorEq] at hf
  | succ n ih =>
    intro v2 k H locs ls  hf hP hS hl
    rw [fX7_hours_L50] at hf
    refine lv_iload_n hx hb dX7_hours_50 rfl (lv_at hl 2 rfl) ?_
    refine lv_iload_n hx hb dX7_hours_51 rfl (lv_at hl 1 rfl) ?_
    refine lv_icmp_ge (tgt := 72) hx hb dX7_hours_52 (by decide) (fun c33 => ?_) (fun c33 => ?_)
    · have hf34 := if_at_t c33 hf
      clear hf
      exact hK72 k  _ _ _ hf34 hP hS (lv_sub hl [0] rfl)
    · have hf35 := if_at_f c33 hf
      clear hf
      refine lv_aload_n hx hb dX7_hours_55 rfl (lv_at hl 0 rfl) ?_
      obtain ⟨⟨⟩, kk37, hg43, hf42⟩ := bd_some hf35
      refine x_cv (x_runV (As := []) (rest := []) X hP hS 246 (by decide) cl_M rfl (tX7_keep l X.2.2.2.2.2.2.1  hg43) mi_X7_193 rfl hl.1 rfl (Nat.le_of_ble_eq_true rfl) dX7_hours_56 ⟨Nat.le_of_ble_eq_true rfl, Nat.le_of_ble_eq_true rfl⟩ ⟨Nat.zero_le _, Nat.zero_le _⟩) hS (fun H38 lc39 hP40 hS41 => ?_)
      clear hf35 hP hS hg43
      refine lv_aload_n hx hb dX7_hours_59 rfl (lv_at hl 0 rfl) ?_
      refine gX7 X hP40 5 (v := .ref (g.2.2 250)) rfl (by decide) rfl wd_888 dX7_hours_60 ?_
      obtain ⟨⟨⟩, kk45, hg51, hf50⟩ := bd_some hf42
      refine x_cv (x_runS (As := [.ref (g.2.2 250)]) (rest := []) X hP40 hS41 (tX7_hourOf l X.2.2.2.2.2.2.1 (rfl : isMA 250 = true) hg51) mi_X7_183 rfl hl.1 rfl (Nat.le_of_ble_eq_true rfl) dX7_hours_63 ⟨Nat.le_of_ble_eq_true rfl, Nat.le_of_ble_eq_true rfl⟩ ⟨Nat.zero_le _, Nat.zero_le _⟩) hS41 (fun H46 lc47 hP48 hS49 => ?_)
      clear hf42 hP40 hS41 hg51
      obtain ⟨x52, ex52⟩ : ∃ q : Int32, q = v2 + (1 : Int32) := ⟨_, rfl⟩
      have hf53 := lk_at ex52 hf50
      clear hf50
      refine lv_iinc (v := x52) (lv' := [(2, .int x52), (0, .ref (g.2.2 246)), (1, .int v1)]) hx hb dX7_hours_66 hl (k := 2) rfl (by rw [ex52]; rfl) (by decide) rfl (fun ls54 hl55 => ?_)
      clear hl
      refine lv_goto (tgt := 50) hx hb dX7_hours_69 (by decide) ?_
      exact ih x52 kk45  _ _ _ hf53 hP48 hS49 (lv_sub hl55 [1, 2, 0] rfl)
set_option maxRecDepth 100000 in
set_option maxHeartbeats 4000000 in
theorem tX7_hours (l : Launch) {g : Gx} (hI : InjG g) {h k k1 : Hp} {a1 : Int32} {r : Int32}   (hf : fX7_hours a1 k = some (r, k1)) : CI l yX7_hours cX7_hours 3 (some .int) 4 g [.ref (g.2.2 246), .int a1] h k h k1 r := by
  refine Met.ofW (cc := cX7_hours) (maxL := 3) (ret := (some .int)) (by decide) rfl ?_
  intro p en s m args below meth c s₁ B hml hv
  obtain ⟨rfl, hSK, hSH, hP⟩ := hv
  have X : Cx p s m _ c cX7_hours 3 RX7 g := ⟨B.exec, B.bytes, hml, findClass_of_methodNamed B.named, fun w hw => atoms_spec (ws := wsy yX7_hours cX7_hours 3 (some .int)) B.pre w (List.mem_cons_of_mem _ hw), hSK, hI, hSH⟩
  have hr := B.returns
  have hlocks := B.notSynchronized
  have hx := X.1
  have hb := X.2.1
  have hS : va_S (inA g) s.heap s.heap [] := va_S.rf
  clear hSK hSH hml B
  have hl := lv_entry ([.ref (g.2.2 246), .int a1]) (n := 3) (Nat.le_of_ble_eq_true rfl)
  rw [lg_entry_eq]
  generalize (lg_sl ([.ref (g.2.2 246), .int a1]) ++ List.replicate (3 - (lg_sl ([.ref (g.2.2 246), .int a1])).length) Slot.unset).toArray = ls at hl ⊢
  have hl : lv_has ls 3 [(0, .ref (g.2.2 246)), (1, .int a1)] := hl
  generalize ([.ref (g.2.2 246), .int a1] : List Value).toArray = args at X ⊢
  show W p l en (rmD 4) s m args below meth c s.heap [] 0 0 (MQ below (QI g h k1 r) args s 0 0 (inA g)) (F0 m 0 ls [])
  unfold fX7_hours at hf
  refine lv_aload_n hx hb dX7_hours_0 rfl (lv_at hl 0 rfl) ?_
  refine lv_iconst (v := 0) hx hb dX7_hours_1 (by decide) ?_
  refine pX7 X hP hS 0 (by decide) rfl wd_883 rfl rfl rfl rfl seX7_0 dX7_hours_2 (fun H1 lc2 kk3 ekk3 hP4 hS5 => ?_)
  have hf6 := lk_at ekk3 hf
  clear hf hP hS
  refine lv_aload_n hx hb dX7_hours_5 rfl (lv_at hl 0 rfl) ?_
  obtain ⟨x7, kk8, hg14, hf13⟩ := bd_some hf6
  refine x_ci (x_runV (As := []) (rest := []) X hP4 hS5 246 (by decide) cl_M rfl (tX7_isThere l X.2.2.2.2.2.2.1  hg14) mi_X7_187 rfl hl.1 rfl (Nat.le_of_ble_eq_true rfl) dX7_hours_6 ⟨Nat.le_of_ble_eq_true rfl, Nat.le_of_ble_eq_true rfl⟩ ⟨Nat.zero_le _, Nat.zero_le _⟩) hS5 (fun H9 lc10 hP11 hS12 => ?_)
  clear hf6 hP4 hS5 hg14
  refine lv_if_ne (tgt := 15) hx hb dX7_hours_9 (by decide) (fun c15 => ?_) (fun c15 => ?_)
  · have hf16 := if_at_f c15 hf13
    clear hf13
    refine lv_iload_n hx hb dX7_hours_15 rfl (lv_at hl 1 rfl) ?_
    refine lv_i2l hx hb dX7_hours_16 rfl ?_
    refine lv_lconst (v := 1) hx hb dX7_hours_17 (by decide) ?_
    refine lv_ldc2 (v := 24) hx hb X.2.2.2.1 (X.2.2.2.2.1 _ wd_1063) dX7_hours_18 ?_
    obtain ⟨x17, kk18, hg24, hf23⟩ := bd_some hf16
    refine x_ci (x_runS (As := [.long a1.toInt64, .long (1 : Int64), .long (24 : Int64)]) (rest := []) X hP11 hS12 (tX7_in l X.2.2.2.2.2.2.1  hg24) mi_X7_57 rfl hl.1 rfl (Nat.le_of_ble_eq_true rfl) dX7_hours_21 ⟨Nat.le_of_ble_eq_true rfl, Nat.le_of_ble_eq_true rfl⟩ ⟨Nat.zero_le _, Nat.zero_le _⟩) hS12 (fun H19 lc20 hP21 hS22 => ?_)
    clear hf16 hP11 hS12 hg24
    refine lv_if_ne (tgt := 30) hx hb dX7_hours_24 (by decide) (fun c25 => ?_) (fun c25 => ?_)
    · have hf26 := if_at_f c25 hf23
      clear hf23
      refine lv_aload_n hx hb dX7_hours_30 rfl (lv_at hl 0 rfl) ?_
      refine gX7 X hP21 5 (v := .ref (g.2.2 250)) rfl (by decide) rfl wd_888 dX7_hours_31 ?_
      refine lv_bipush (v := 6) hx hb dX7_hours_34 (by decide) ?_
      obtain ⟨hc27, hf28⟩ := chk_some hf26
      refine x_ildM X hP21 250 rfl hc27 dX7_hours_36 ?_
      refine lv_iload_n hx hb dX7_hours_37 rfl (lv_at hl 1 rfl) ?_
      refine lv_iadd hx hb dX7_hours_38 ?_
      refine lv_sipush (v := 999) hx hb dX7_hours_39 (by decide) ?_
      refine lv_icmp_le (tgt := 48) hx hb dX7_hours_42 (by decide) (fun c29 => ?_) (fun c29 => ?_)
      · have hf30 := if_at_t c29 hf28
        clear hf28
        refine lv_iconst (v := 0) hx hb dX7_hours_48 (by decide) ?_
        refine lv_istore_n (lv' := [(2, .int (0 : Int32)), (0, .ref (g.2.2 246)), (1, .int a1)]) hx hb dX7_hours_49 rfl hl (by decide) rfl (fun ls31 hl32 => ?_)
        clear hl
        refine wX7_hours_L50 X hr hlocks  ?_ 4096 (0 : Int32) kk18 _ _ _  hf30 hP21 hS22 (lv_sub hl32 [1, 2, 0] rfl)
        · intro  kk56 H57 lc58 ls59  hf63 hP60 hS61 hl62
          refine lv_aload_n hx hb dX7_hours_72 rfl (lv_at hl62 0 rfl) ?_
          refine gX7 X hP60 5 (v := .ref (g.2.2 250)) rfl (by decide) rfl wd_888 dX7_hours_73 ?_
          obtain ⟨x64, kk65, hg71, hf70⟩ := bd_some hf63
          refine x_ci (x_runS (As := [.ref (g.2.2 250)]) (rest := []) X hP60 hS61 (tX7_numbered l X.2.2.2.2.2.2.1 (rfl : isMA 250 = true) hg71) mi_X7_196 rfl hl62.1 rfl (Nat.le_of_ble_eq_true rfl) dX7_hours_76 ⟨Nat.le_of_ble_eq_true rfl, Nat.le_of_ble_eq_true rfl⟩ ⟨Nat.zero_le _, Nat.zero_le _⟩) hS61 (fun H66 lc67 hP68 hS69 => ?_)
          clear hf63 hP60 hS61 hg71
          obtain ⟨x72, kk73, hg79, hf78⟩ := bd_some hf70
          refine x_ci (x_runS (As := [.int x64]) (rest := []) X hP68 hS69 (tX7_bits l X.2.2.2.2.2.2.1  hg79) mi_X7_199 rfl hl62.1 rfl (Nat.le_of_ble_eq_true rfl) dX7_hours_79 ⟨Nat.le_of_ble_eq_true rfl, Nat.le_of_ble_eq_true rfl⟩ ⟨Nat.zero_le _, Nat.zero_le _⟩) hS69 (fun H74 lc75 hP76 hS77 => ?_)
          clear hf70 hP68 hS69 hg79
          obtain ⟨rfl, rfl⟩ := ret_inj hf78
          exact x_iret X hr hlocks hP76 hS77 dX7_hours_82
      · have hf80 := if_at_f c29 hf28
        clear hf28
        refine lv_ldc (v := -1000003) hx hb X.2.2.2.1 (X.2.2.2.2.1 _ wd_992) dX7_hours_45 ?_
        obtain ⟨rfl, rfl⟩ := ret_inj hf80
        exact x_iret X hr hlocks hP21 hS22 dX7_hours_47
    · have hf81 := if_at_t c25 hf23
      clear hf23
      refine lv_ldc (v := -1000001) hx hb X.2.2.2.1 (X.2.2.2.2.1 _ wd_969) dX7_hours_27 ?_
      obtain ⟨rfl, rfl⟩ := ret_inj hf81
      exact x_iret X hr hlocks hP21 hS22 dX7_hours_29
  · have hf82 := if_at_t c15 hf13
    clear hf13
    refine lv_ldc (v := -1000002) hx hb X.2.2.2.1 (X.2.2.2.2.1 _ wd_1062) dX7_hours_12 ?_
    obtain ⟨rfl, rfl⟩ := ret_inj hf82
    exact x_iret X hr hlocks hP11 hS12 dX7_hours_14
set_option maxRecDepth 100000 in
set_option maxHeartbeats 4000000 in
theorem tX7_step (l : Launch) {g : Gx} (hI : InjG g) {h k k1 : Hp} {a1 : Int32} {r : Int32}   (hf : fX7_step a1 k = some (r, k1)) : CI l yX7_step cX7_step 3 (some .int) 2 g [.ref (g.2.2 246), .int a1] h k h k1 r := by
  refine Met.ofW (cc := cX7_step) (maxL := 3) (ret := (some .int)) (by decide) rfl ?_
  intro p en s m args below meth c s₁ B hml hv
  obtain ⟨rfl, hSK, hSH, hP⟩ := hv
  have X : Cx p s m _ c cX7_step 3 RX7 g := ⟨B.exec, B.bytes, hml, findClass_of_methodNamed B.named, fun w hw => atoms_spec (ws := wsy yX7_step cX7_step 3 (some .int)) B.pre w (List.mem_cons_of_mem _ hw), hSK, hI, hSH⟩
  have hr := B.returns
  have hlocks := B.notSynchronized
  have hx := X.1
  have hb := X.2.1
  have hS : va_S (inA g) s.heap s.heap [] := va_S.rf
  clear hSK hSH hml B
  have hl := lv_entry ([.ref (g.2.2 246), .int a1]) (n := 3) (Nat.le_of_ble_eq_true rfl)
  rw [lg_entry_eq]
  generalize (lg_sl ([.ref (g.2.2 246), .int a1]) ++ List.replicate (3 - (lg_sl ([.ref (g.2.2 246), .int a1])).length) Slot.unset).toArray = ls at hl ⊢
  have hl : lv_has ls 3 [(0, .ref (g.2.2 246)), (1, .int a1)] := hl
  generalize ([.ref (g.2.2 246), .int a1] : List Value).toArray = args at X ⊢
  show W p l en (rmD 2) s m args below meth c s.heap [] 0 0 (MQ below (QI g h k1 r) args s 0 0 (inA g)) (F0 m 0 ls [])
  unfold fX7_step at hf
  refine lv_aload_n hx hb dX7_step_0 rfl (lv_at hl 0 rfl) ?_
  refine lv_iconst (v := 0) hx hb dX7_step_1 (by decide) ?_
  refine pX7 X hP hS 0 (by decide) rfl wd_883 rfl rfl rfl rfl seX7_0 dX7_step_2 (fun H1 lc2 kk3 ekk3 hP4 hS5 => ?_)
  have hf6 := lk_at ekk3 hf
  clear hf hP hS
  refine lv_aload_n hx hb dX7_step_5 rfl (lv_at hl 0 rfl) ?_
  obtain ⟨x7, kk8, hg14, hf13⟩ := bd_some hf6
  refine x_ci (x_runV (As := []) (rest := []) X hP4 hS5 246 (by decide) cl_M rfl (tX7_isThere l X.2.2.2.2.2.2.1  hg14) mi_X7_187 rfl hl.1 rfl (Nat.le_of_ble_eq_true rfl) dX7_step_6 ⟨Nat.le_of_ble_eq_true rfl, Nat.le_of_ble_eq_true rfl⟩ ⟨Nat.zero_le _, Nat.zero_le _⟩) hS5 (fun H9 lc10 hP11 hS12 => ?_)
  clear hf6 hP4 hS5 hg14
  refine lv_if_ne (tgt := 15) hx hb dX7_step_9 (by decide) (fun c15 => ?_) (fun c15 => ?_)
  · have hf16 := if_at_f c15 hf13
    clear hf13
    refine lv_iload_n hx hb dX7_step_15 rfl (lv_at hl 1 rfl) ?_
    refine lv_i2l hx hb dX7_step_16 rfl ?_
    refine lv_lconst (v := 0) hx hb dX7_step_17 (by decide) ?_
    refine lv_lconst (v := 1) hx hb dX7_step_18 (by decide) ?_
    obtain ⟨x17, kk18, hg24, hf23⟩ := bd_some hf16
    refine x_ci (x_runS (As := [.long a1.toInt64, .long (0 : Int64), .long (1 : Int64)]) (rest := []) X hP11 hS12 (tX7_in l X.2.2.2.2.2.2.1  hg24) mi_X7_57 rfl hl.1 rfl (Nat.le_of_ble_eq_true rfl) dX7_step_19 ⟨Nat.le_of_ble_eq_true rfl, Nat.le_of_ble_eq_true rfl⟩ ⟨Nat.zero_le _, Nat.zero_le _⟩) hS12 (fun H19 lc20 hP21 hS22 => ?_)
    clear hf16 hP11 hS12 hg24
    refine lv_if_ne (tgt := 28) hx hb dX7_step_22 (by decide) (fun c25 => ?_) (fun c25 => ?_)
    · have hf26 := if_at_f c25 hf23
      clear hf23
      refine lv_aload_n hx hb dX7_step_28 rfl (lv_at hl 0 rfl) ?_
      refine gX7 X hP21 5 (v := .ref (g.2.2 250)) rfl (by decide) rfl wd_888 dX7_step_29 ?_
      refine lv_iconst (v := 4) hx hb dX7_step_32 (by decide) ?_
      obtain ⟨hc27, hf28⟩ := chk_some hf26
      refine x_ildM X hP21 250 rfl hc27 dX7_step_33 ?_
      refine lv_iload_n hx hb dX7_step_34 rfl (lv_at hl 1 rfl) ?_
      obtain ⟨J43_29, eJ43_29, hf69⟩ := jp_at hf28
      clear hf28
      have hJ43_29 : ∀ (J43_29s0 : Int32) (kk30 : Hp) (H31 : Heap) (lc32 : List Loc) (ls33 : Array Slot), J43_29 J43_29s0 kk30 = some (r, k1) → va_P g.1 vwCl (WW g h kk30) H31 → va_S (inA g) s.heap H31 lc32 → lv_has ls33 3 [(0, .ref (g.2.2 246))] → W p l en (rmD 2) s m args below meth c H31 lc32 0 0 (MQ below (QI g h k1 r) args s 0 0 (inA g)) (F0 m 43 ls33 [.int J43_29s0, .int (kk18 250 (4 : Int32).toNatClampNeg)]) := by
        intro J43_29s0 kk30 H31 lc32 ls33 hf37 hP34 hS35 hl36
        clear hf69 hP21 hS22 hl
        subst eJ43_29
        refine lv_iadd hx hb dX7_step_43 ?_
        refine lv_topi (fun x38 ex38 => ?_)
        have hf39 := lk_at ex38 hf37
        clear hf37
        refine lv_istore_n (lv' := [(2, .int x38), (0, .ref (g.2.2 246))]) hx hb dX7_step_44 rfl hl36 (by decide) rfl (fun ls40 hl41 => ?_)
        clear hl36
        refine lv_aload_n hx hb dX7_step_45 rfl (lv_at hl41 1 rfl) ?_
        refine lv_iload_n hx hb dX7_step_46 rfl (lv_at hl41 0 rfl) ?_
        obtain ⟨x42, kk43, hg49, hf48⟩ := bd_some hf39
        refine x_ci (x_runV (As := [.int x38]) (rest := []) X hP34 hS35 246 (by decide) cl_M rfl (tX7_isCell l X.2.2.2.2.2.2.1  hg49) mi_X7_202 rfl hl41.1 rfl (Nat.le_of_ble_eq_true rfl) dX7_step_47 ⟨Nat.le_of_ble_eq_true rfl, Nat.le_of_ble_eq_true rfl⟩ ⟨Nat.zero_le _, Nat.zero_le _⟩) hS35 (fun H44 lc45 hP46 hS47 => ?_)
        clear hf39 hP34 hS35 hg49
        refine lv_if_ne (tgt := 56) hx hb dX7_step_50 (by decide) (fun c50 => ?_) (fun c50 => ?_)
        · have hf51 := if_at_f c50 hf48
          clear hf48
          refine lv_aload_n hx hb dX7_step_56 rfl (lv_at hl41 1 rfl) ?_
          obtain ⟨⟨⟩, kk53, hg59, hf58⟩ := bd_some hf51
          refine x_cv (x_runV (As := []) (rest := []) X hP46 hS47 246 (by decide) cl_M rfl (tX7_keep l X.2.2.2.2.2.2.1  hg59) mi_X7_193 rfl hl41.1 rfl (Nat.le_of_ble_eq_true rfl) dX7_step_57 ⟨Nat.le_of_ble_eq_true rfl, Nat.le_of_ble_eq_true rfl⟩ ⟨Nat.zero_le _, Nat.zero_le _⟩) hS47 (fun H54 lc55 hP56 hS57 => ?_)
          clear hf51 hP46 hS47 hg59
          refine lv_aload_n hx hb dX7_step_60 rfl (lv_at hl41 1 rfl) ?_
          refine gX7 X hP56 5 (v := .ref (g.2.2 250)) rfl (by decide) rfl wd_888 dX7_step_61 ?_
          refine lv_iconst (v := 4) hx hb dX7_step_64 (by decide) ?_
          refine lv_iload_n hx hb dX7_step_65 rfl (lv_at hl41 0 rfl) ?_
          obtain ⟨hc60, hf61⟩ := chk_some hf58
          refine x_istM X hP56 hS57 250 rfl hc60 dX7_step_66 (fun H62 lc63 kk64 ekk64 hP65 hS66 => ?_)
          have hf67 := lk_at ekk64 hf61
          clear hf61 hP56 hS57
          refine lv_iload_n hx hb dX7_step_67 rfl (lv_at hl41 0 rfl) ?_
          obtain ⟨rfl, rfl⟩ := ret_inj hf67
          exact x_iret X hr hlocks hP65 hS66 dX7_step_68
        · have hf68 := if_at_t c50 hf48
          clear hf48
          refine lv_ldc (v := -1000002) hx hb X.2.2.2.1 (X.2.2.2.2.1 _ wd_1062) dX7_step_53 ?_
          obtain ⟨rfl, rfl⟩ := ret_inj hf68
          exact x_iret X hr hlocks hP46 hS47 dX7_step_55
      clear eJ43_29
      refine lv_if_ne (tgt := 42) hx hb dX7_step_35 (by decide) (fun c70 => ?_) (fun c70 => ?_)
      · have hf71 := if_at_f c70 hf69
        clear hf69
        refine lv_iconst (v := 1) hx hb dX7_step_42 (by decide) ?_
        exact hJ43_29 (1 : Int32) kk18  _ _ _ hf71 hP21 hS22 (lv_sub hl [0] rfl)
      · have hf72 := if_at_t c70 hf69
        clear hf69
        refine lv_iconst (v := -1) hx hb dX7_step_38 (by decide) ?_
        refine lv_goto (tgt := 43) hx hb dX7_step_39 (by decide) ?_
        exact hJ43_29 (-1 : Int32) kk18  _ _ _ hf72 hP21 hS22 (lv_sub hl [0] rfl)
    · have hf73 := if_at_t c25 hf23
      clear hf23
      refine lv_ldc (v := -1000001) hx hb X.2.2.2.1 (X.2.2.2.2.1 _ wd_969) dX7_step_25 ?_
      obtain ⟨rfl, rfl⟩ := ret_inj hf73
      exact x_iret X hr hlocks hP21 hS22 dX7_step_27
  · have hf74 := if_at_t c15 hf13
    clear hf13
    refine lv_ldc (v := -1000002) hx hb X.2.2.2.1 (X.2.2.2.2.1 _ wd_1062) dX7_step_12 ?_
    obtain ⟨rfl, rfl⟩ := ret_inj hf74
    exact x_iret X hr hlocks hP11 hS12 dX7_step_14
set_option maxRecDepth 100000 in
set_option maxHeartbeats 4000000 in
theorem tX7_wind (l : Launch) {g : Gx} (hI : InjG g) {h k k1 : Hp} {a1 : Int32} {a2 : Int32} {r : Int32}   (hf : fX7_wind a1 a2 k = some (r, k1)) : CI l yX7_wind cX7_wind 4 (some .int) 2 g [.ref (g.2.2 246), .int a1, .int a2] h k h k1 r := by
  refine Met.ofW (cc := cX7_wind) (maxL := 4) (ret := (some .int)) (by decide) rfl ?_
  intro p en s m args below meth c s₁ B hml hv
  obtain ⟨rfl, hSK, hSH, hP⟩ := hv
  have X : Cx p s m _ c cX7_wind 4 RX7 g := ⟨B.exec, B.bytes, hml, findClass_of_methodNamed B.named, fun w hw => atoms_spec (ws := wsy yX7_wind cX7_wind 4 (some .int)) B.pre w (List.mem_cons_of_mem _ hw), hSK, hI, hSH⟩
  have hr := B.returns
  have hlocks := B.notSynchronized
  have hx := X.1
  have hb := X.2.1
  have hS : va_S (inA g) s.heap s.heap [] := va_S.rf
  clear hSK hSH hml B
  have hl := lv_entry ([.ref (g.2.2 246), .int a1, .int a2]) (n := 4) (Nat.le_of_ble_eq_true rfl)
  rw [lg_entry_eq]
  generalize (lg_sl ([.ref (g.2.2 246), .int a1, .int a2]) ++ List.replicate (4 - (lg_sl ([.ref (g.2.2 246), .int a1, .int a2])).length) Slot.unset).toArray = ls at hl ⊢
  have hl : lv_has ls 4 [(0, .ref (g.2.2 246)), (1, .int a1), (2, .int a2)] := hl
  generalize ([.ref (g.2.2 246), .int a1, .int a2] : List Value).toArray = args at X ⊢
  show W p l en (rmD 2) s m args below meth c s.heap [] 0 0 (MQ below (QI g h k1 r) args s 0 0 (inA g)) (F0 m 0 ls [])
  unfold fX7_wind at hf
  refine lv_aload_n hx hb dX7_wind_0 rfl (lv_at hl 0 rfl) ?_
  refine lv_iconst (v := 0) hx hb dX7_wind_1 (by decide) ?_
  refine pX7 X hP hS 0 (by decide) rfl wd_883 rfl rfl rfl rfl seX7_0 dX7_wind_2 (fun H1 lc2 kk3 ekk3 hP4 hS5 => ?_)
  have hf6 := lk_at ekk3 hf
  clear hf hP hS
  refine lv_aload_n hx hb dX7_wind_5 rfl (lv_at hl 0 rfl) ?_
  refine lv_iload_n hx hb dX7_wind_6 rfl (lv_at hl 1 rfl) ?_
  obtain ⟨x7, kk8, hg14, hf13⟩ := bd_some hf6
  refine x_ci (x_runV (As := [.int a1]) (rest := []) X hP4 hS5 246 (by decide) cl_M rfl (tX7_isWind l X.2.2.2.2.2.2.1  hg14) mi_X7_205 rfl hl.1 rfl (Nat.le_of_ble_eq_true rfl) dX7_wind_7 ⟨Nat.le_of_ble_eq_true rfl, Nat.le_of_ble_eq_true rfl⟩ ⟨Nat.zero_le _, Nat.zero_le _⟩) hS5 (fun H9 lc10 hP11 hS12 => ?_)
  clear hf6 hP4 hS5 hg14
  refine lv_if_eq (tgt := 25) hx hb dX7_wind_10 (by decide) (fun c15 => ?_) (fun c15 => ?_)
  · have hf16 := if_at_t c15 hf13
    clear hf13
    refine lv_ldc (v := -1000001) hx hb X.2.2.2.1 (X.2.2.2.2.1 _ wd_969) dX7_wind_25 ?_
    obtain ⟨rfl, rfl⟩ := ret_inj hf16
    exact x_iret X hr hlocks hP11 hS12 dX7_wind_27
  · have hf17 := if_at_f c15 hf13
    clear hf13
    refine lv_iload_n hx hb dX7_wind_13 rfl (lv_at hl 2 rfl) ?_
    refine lv_i2l hx hb dX7_wind_14 rfl ?_
    refine lv_lconst (v := 0) hx hb dX7_wind_15 (by decide) ?_
    refine lv_ldc2 (v := 4) hx hb X.2.2.2.1 (X.2.2.2.2.1 _ wd_1117) dX7_wind_16 ?_
    obtain ⟨x18, kk19, hg25, hf24⟩ := bd_some hf17
    refine x_ci (x_runS (As := [.long a2.toInt64, .long (0 : Int64), .long (4 : Int64)]) (rest := []) X hP11 hS12 (tX7_in l X.2.2.2.2.2.2.1  hg25) mi_X7_57 rfl hl.1 rfl (Nat.le_of_ble_eq_true rfl) dX7_wind_19 ⟨Nat.le_of_ble_eq_true rfl, Nat.le_of_ble_eq_true rfl⟩ ⟨Nat.zero_le _, Nat.zero_le _⟩) hS12 (fun H20 lc21 hP22 hS23 => ?_)
    clear hf17 hP11 hS12 hg25
    refine lv_if_ne (tgt := 28) hx hb dX7_wind_22 (by decide) (fun c26 => ?_) (fun c26 => ?_)
    · have hf27 := if_at_f c26 hf24
      clear hf24
      refine lv_aload_n hx hb dX7_wind_28 rfl (lv_at hl 0 rfl) ?_
      obtain ⟨⟨⟩, kk29, hg35, hf34⟩ := bd_some hf27
      refine x_cv (x_runV (As := []) (rest := []) X hP22 hS23 246 (by decide) cl_M rfl (tX7_keep l X.2.2.2.2.2.2.1  hg35) mi_X7_193 rfl hl.1 rfl (Nat.le_of_ble_eq_true rfl) dX7_wind_29 ⟨Nat.le_of_ble_eq_true rfl, Nat.le_of_ble_eq_true rfl⟩ ⟨Nat.zero_le _, Nat.zero_le _⟩) hS23 (fun H30 lc31 hP32 hS33 => ?_)
      clear hf27 hP22 hS23 hg35
      refine lv_aload_n hx hb dX7_wind_32 rfl (lv_at hl 0 rfl) ?_
      refine gX7 X hP32 5 (v := .ref (g.2.2 250)) rfl (by decide) rfl wd_888 dX7_wind_33 ?_
      refine lv_bipush (v := 8) hx hb dX7_wind_36 (by decide) ?_
      refine lv_iload_n hx hb dX7_wind_38 rfl (lv_at hl 1 rfl) ?_
      refine lv_iadd hx hb dX7_wind_39 ?_
      obtain ⟨hc36, hf37⟩ := chk_some hf34
      refine x_ildM X hP32 250 rfl hc36 dX7_wind_40 ?_
      refine lv_topi (fun x38 ex38 => ?_)
      have hf39 := lk_at ex38 hf37
      clear hf37
      refine lv_istore_n (lv' := [(3, .int x38), (0, .ref (g.2.2 246)), (1, .int a1), (2, .int a2)]) hx hb dX7_wind_41 rfl hl (by decide) rfl (fun ls40 hl41 => ?_)
      clear hl
      refine lv_aload_n hx hb dX7_wind_42 rfl (lv_at hl41 1 rfl) ?_
      refine gX7 X hP32 5 (v := .ref (g.2.2 250)) rfl (by decide) rfl wd_888 dX7_wind_43 ?_
      refine lv_bipush (v := 8) hx hb dX7_wind_46 (by decide) ?_
      refine lv_iload_n hx hb dX7_wind_48 rfl (lv_at hl41 2 rfl) ?_
      refine lv_iadd hx hb dX7_wind_49 ?_
      refine lv_iload_n hx hb dX7_wind_50 rfl (lv_at hl41 3 rfl) ?_
      obtain ⟨hc42, hf43⟩ := chk_some hf39
      refine x_istM X hP32 hS33 250 rfl hc42 dX7_wind_51 (fun H44 lc45 kk46 ekk46 hP47 hS48 => ?_)
      have hf49 := lk_at ekk46 hf43
      clear hf43 hP32 hS33
      refine lv_iload_n hx hb dX7_wind_52 rfl (lv_at hl41 0 rfl) ?_
      obtain ⟨rfl, rfl⟩ := ret_inj hf49
      exact x_iret X hr hlocks hP47 hS48 dX7_wind_53
    · have hf50 := if_at_t c26 hf24
      clear hf24
      refine lv_ldc (v := -1000001) hx hb X.2.2.2.1 (X.2.2.2.2.1 _ wd_969) dX7_wind_25 ?_
      obtain ⟨rfl, rfl⟩ := ret_inj hf50
      exact x_iret X hr hlocks hP22 hS23 dX7_wind_27
set_option maxRecDepth 100000 in
set_option maxHeartbeats 4000000 in
theorem tX7_wake (l : Launch) {g : Gx} (hI : InjG g) {h k k1 : Hp} {a1 : Int32} {r : Int32}   (hf : fX7_wake a1 k = some (r, k1)) : CI l yX7_wake cX7_wake 3 (some .int) 1 g [.ref (g.2.2 246), .int a1] h k h k1 r := by
  refine Met.ofW (cc := cX7_wake) (maxL := 3) (ret := (some .int)) (by decide) rfl ?_
  intro p en s m args below meth c s₁ B hml hv
  obtain ⟨rfl, hSK, hSH, hP⟩ := hv
  have X : Cx p s m _ c cX7_wake 3 RX7 g := ⟨B.exec, B.bytes, hml, findClass_of_methodNamed B.named, fun w hw => atoms_spec (ws := wsy yX7_wake cX7_wake 3 (some .int)) B.pre w (List.mem_cons_of_mem _ hw), hSK, hI, hSH⟩
  have hr := B.returns
  have hlocks := B.notSynchronized
  have hx := X.1
  have hb := X.2.1
  have hS : va_S (inA g) s.heap s.heap [] := va_S.rf
  clear hSK hSH hml B
  have hl := lv_entry ([.ref (g.2.2 246), .int a1]) (n := 3) (Nat.le_of_ble_eq_true rfl)
  rw [lg_entry_eq]
  generalize (lg_sl ([.ref (g.2.2 246), .int a1]) ++ List.replicate (3 - (lg_sl ([.ref (g.2.2 246), .int a1])).length) Slot.unset).toArray = ls at hl ⊢
  have hl : lv_has ls 3 [(0, .ref (g.2.2 246)), (1, .int a1)] := hl
  generalize ([.ref (g.2.2 246), .int a1] : List Value).toArray = args at X ⊢
  show W p l en (rmD 1) s m args below meth c s.heap [] 0 0 (MQ below (QI g h k1 r) args s 0 0 (inA g)) (F0 m 0 ls [])
  unfold fX7_wake at hf
  refine lv_aload_n hx hb dX7_wake_0 rfl (lv_at hl 0 rfl) ?_
  refine lv_iconst (v := 0) hx hb dX7_wake_1 (by decide) ?_
  refine pX7 X hP hS 0 (by decide) rfl wd_883 rfl rfl rfl rfl seX7_0 dX7_wake_2 (fun H1 lc2 kk3 ekk3 hP4 hS5 => ?_)
  have hf6 := lk_at ekk3 hf
  clear hf hP hS
  refine lv_aload_n hx hb dX7_wake_5 rfl (lv_at hl 0 rfl) ?_
  obtain ⟨x7, kk8, hg14, hf13⟩ := bd_some hf6
  refine x_ci (x_runV (As := []) (rest := []) X hP4 hS5 246 (by decide) cl_M rfl (tX7_isThere l X.2.2.2.2.2.2.1  hg14) mi_X7_187 rfl hl.1 rfl (Nat.le_of_ble_eq_true rfl) dX7_wake_6 ⟨Nat.le_of_ble_eq_true rfl, Nat.le_of_ble_eq_true rfl⟩ ⟨Nat.zero_le _, Nat.zero_le _⟩) hS5 (fun H9 lc10 hP11 hS12 => ?_)
  clear hf6 hP4 hS5 hg14
  refine lv_if_ne (tgt := 15) hx hb dX7_wake_9 (by decide) (fun c15 => ?_) (fun c15 => ?_)
  · have hf16 := if_at_f c15 hf13
    clear hf13
    refine lv_iload_n hx hb dX7_wake_15 rfl (lv_at hl 1 rfl) ?_
    refine lv_i2l hx hb dX7_wake_16 rfl ?_
    refine lv_lconst (v := 0) hx hb dX7_wake_17 (by decide) ?_
    refine lv_ldc2 (v := 15) hx hb X.2.2.2.1 (X.2.2.2.2.1 _ wd_1122) dX7_wake_18 ?_
    obtain ⟨x17, kk18, hg24, hf23⟩ := bd_some hf16
    refine x_ci (x_runS (As := [.long a1.toInt64, .long (0 : Int64), .long (15 : Int64)]) (rest := []) X hP11 hS12 (tX7_in l X.2.2.2.2.2.2.1  hg24) mi_X7_57 rfl hl.1 rfl (Nat.le_of_ble_eq_true rfl) dX7_wake_21 ⟨Nat.le_of_ble_eq_true rfl, Nat.le_of_ble_eq_true rfl⟩ ⟨Nat.zero_le _, Nat.zero_le _⟩) hS12 (fun H19 lc20 hP21 hS22 => ?_)
    clear hf16 hP11 hS12 hg24
    refine lv_if_ne (tgt := 30) hx hb dX7_wake_24 (by decide) (fun c25 => ?_) (fun c25 => ?_)
    · have hf26 := if_at_f c25 hf23
      clear hf23
      refine lv_aload_n hx hb dX7_wake_30 rfl (lv_at hl 0 rfl) ?_
      obtain ⟨⟨⟩, kk28, hg34, hf33⟩ := bd_some hf26
      refine x_cv (x_runV (As := []) (rest := []) X hP21 hS22 246 (by decide) cl_M rfl (tX7_keep l X.2.2.2.2.2.2.1  hg34) mi_X7_193 rfl hl.1 rfl (Nat.le_of_ble_eq_true rfl) dX7_wake_31 ⟨Nat.le_of_ble_eq_true rfl, Nat.le_of_ble_eq_true rfl⟩ ⟨Nat.zero_le _, Nat.zero_le _⟩) hS22 (fun H29 lc30 hP31 hS32 => ?_)
      clear hf26 hP21 hS22 hg34
      refine lv_aload_n hx hb dX7_wake_34 rfl (lv_at hl 0 rfl) ?_
      refine gX7 X hP31 5 (v := .ref (g.2.2 250)) rfl (by decide) rfl wd_888 dX7_wake_35 ?_
      refine lv_iconst (v := 5) hx hb dX7_wake_38 (by decide) ?_
      obtain ⟨hc35, hf36⟩ := chk_some hf33
      refine x_ildM X hP31 250 rfl hc35 dX7_wake_39 ?_
      refine lv_topi (fun x37 ex37 => ?_)
      have hf38 := lk_at ex37 hf36
      clear hf36
      refine lv_istore_n (lv' := [(2, .int x37), (0, .ref (g.2.2 246)), (1, .int a1)]) hx hb dX7_wake_40 rfl hl (by decide) rfl (fun ls39 hl40 => ?_)
      clear hl
      refine lv_aload_n hx hb dX7_wake_41 rfl (lv_at hl40 1 rfl) ?_
      refine gX7 X hP31 5 (v := .ref (g.2.2 250)) rfl (by decide) rfl wd_888 dX7_wake_42 ?_
      refine lv_iconst (v := 5) hx hb dX7_wake_45 (by decide) ?_
      refine lv_iload_n hx hb dX7_wake_46 rfl (lv_at hl40 2 rfl) ?_
      obtain ⟨hc41, hf42⟩ := chk_some hf38
      refine x_istM X hP31 hS32 250 rfl hc41 dX7_wake_47 (fun H43 lc44 kk45 ekk45 hP46 hS47 => ?_)
      have hf48 := lk_at ekk45 hf42
      clear hf42 hP31 hS32
      refine lv_iload_n hx hb dX7_wake_48 rfl (lv_at hl40 0 rfl) ?_
      obtain ⟨rfl, rfl⟩ := ret_inj hf48
      exact x_iret X hr hlocks hP46 hS47 dX7_wake_49
    · have hf49 := if_at_t c25 hf23
      clear hf23
      refine lv_ldc (v := -1000001) hx hb X.2.2.2.1 (X.2.2.2.2.1 _ wd_969) dX7_wake_27 ?_
      obtain ⟨rfl, rfl⟩ := ret_inj hf49
      exact x_iret X hr hlocks hP21 hS22 dX7_wake_29
  · have hf50 := if_at_t c15 hf13
    clear hf13
    refine lv_ldc (v := -1000002) hx hb X.2.2.2.1 (X.2.2.2.2.1 _ wd_1062) dX7_wake_12 ?_
    obtain ⟨rfl, rfl⟩ := ret_inj hf50
    exact x_iret X hr hlocks hP11 hS12 dX7_wake_14
set_option maxRecDepth 100000 in
set_option maxHeartbeats 4000000 in
theorem tX7_let (l : Launch) {g : Gx} (hI : InjG g) {h k k1 : Hp} {a1 : Int32} {a2 : Int32} {a3 : Int32} {r : Int32}   (hf : fX7_let a1 a2 a3 k = some (r, k1)) : CI l yX7_let cX7_let 4 (some .int) 3 g [.ref (g.2.2 246), .int a1, .int a2, .int a3] h k h k1 r := by
  refine Met.ofW (cc := cX7_let) (maxL := 4) (ret := (some .int)) (by decide) rfl ?_
  intro p en s m args below meth c s₁ B hml hv
  obtain ⟨rfl, hSK, hSH, hP⟩ := hv
  have X : Cx p s m _ c cX7_let 4 RX7 g := ⟨B.exec, B.bytes, hml, findClass_of_methodNamed B.named, fun w hw => atoms_spec (ws := wsy yX7_let cX7_let 4 (some .int)) B.pre w (List.mem_cons_of_mem _ hw), hSK, hI, hSH⟩
  have hr := B.returns
  have hlocks := B.notSynchronized
  have hx := X.1
  have hb := X.2.1
  have hS : va_S (inA g) s.heap s.heap [] := va_S.rf
  clear hSK hSH hml B
  have hl := lv_entry ([.ref (g.2.2 246), .int a1, .int a2, .int a3]) (n := 4) (Nat.le_of_ble_eq_true rfl)
  rw [lg_entry_eq]
  generalize (lg_sl ([.ref (g.2.2 246), .int a1, .int a2, .int a3]) ++ List.replicate (4 - (lg_sl ([.ref (g.2.2 246), .int a1, .int a2, .int a3])).length) Slot.unset).toArray = ls at hl ⊢
  have hl : lv_has ls 4 [(0, .ref (g.2.2 246)), (1, .int a1), (2, .int a2), (3, .int a3)] := hl
  generalize ([.ref (g.2.2 246), .int a1, .int a2, .int a3] : List Value).toArray = args at X ⊢
  show W p l en (rmD 3) s m args below meth c s.heap [] 0 0 (MQ below (QI g h k1 r) args s 0 0 (inA g)) (F0 m 0 ls [])
  unfold fX7_let at hf
  refine lv_aload_n hx hb dX7_let_0 rfl (lv_at hl 0 rfl) ?_
  refine lv_iconst (v := 0) hx hb dX7_let_1 (by decide) ?_
  refine pX7 X hP hS 0 (by decide) rfl wd_883 rfl rfl rfl rfl seX7_0 dX7_let_2 (fun H1 lc2 kk3 ekk3 hP4 hS5 => ?_)
  have hf6 := lk_at ekk3 hf
  clear hf hP hS
  refine lv_aload_n hx hb dX7_let_5 rfl (lv_at hl 0 rfl) ?_
  refine lv_iload_n hx hb dX7_let_6 rfl (lv_at hl 1 rfl) ?_
  obtain ⟨x7, kk8, hg14, hf13⟩ := bd_some hf6
  refine x_ci (x_runV (As := [.int a1]) (rest := []) X hP4 hS5 246 (by decide) cl_M rfl (tX7_isSheet l X.2.2.2.2.2.2.1  hg14) mi_X7_212 rfl hl.1 rfl (Nat.le_of_ble_eq_true rfl) dX7_let_7 ⟨Nat.le_of_ble_eq_true rfl, Nat.le_of_ble_eq_true rfl⟩ ⟨Nat.zero_le _, Nat.zero_le _⟩) hS5 (fun H9 lc10 hP11 hS12 => ?_)
  clear hf6 hP4 hS5 hg14
  refine lv_if_eq (tgt := 33) hx hb dX7_let_10 (by decide) (fun c15 => ?_) (fun c15 => ?_)
  · have hf16 := if_at_t c15 hf13
    clear hf13
    refine lv_ldc (v := -1000001) hx hb X.2.2.2.1 (X.2.2.2.2.1 _ wd_969) dX7_let_33 ?_
    obtain ⟨rfl, rfl⟩ := ret_inj hf16
    exact x_iret X hr hlocks hP11 hS12 dX7_let_35
  · have hf17 := if_at_f c15 hf13
    clear hf13
    refine lv_aload_n hx hb dX7_let_13 rfl (lv_at hl 0 rfl) ?_
    refine lv_iload_n hx hb dX7_let_14 rfl (lv_at hl 2 rfl) ?_
    obtain ⟨x18, kk19, hg25, hf24⟩ := bd_some hf17
    refine x_ci (x_runV (As := [.int a2]) (rest := []) X hP11 hS12 246 (by decide) cl_M rfl (tX7_isCell l X.2.2.2.2.2.2.1  hg25) mi_X7_202 rfl hl.1 rfl (Nat.le_of_ble_eq_true rfl) dX7_let_15 ⟨Nat.le_of_ble_eq_true rfl, Nat.le_of_ble_eq_true rfl⟩ ⟨Nat.zero_le _, Nat.zero_le _⟩) hS12 (fun H20 lc21 hP22 hS23 => ?_)
    clear hf17 hP11 hS12 hg25
    refine lv_if_eq (tgt := 33) hx hb dX7_let_18 (by decide) (fun c26 => ?_) (fun c26 => ?_)
    · have hf27 := if_at_t c26 hf24
      clear hf24
      refine lv_ldc (v := -1000001) hx hb X.2.2.2.1 (X.2.2.2.2.1 _ wd_969) dX7_let_33 ?_
      obtain ⟨rfl, rfl⟩ := ret_inj hf27
      exact x_iret X hr hlocks hP22 hS23 dX7_let_35
    · have hf28 := if_at_f c26 hf24
      clear hf24
      refine lv_iload_n hx hb dX7_let_21 rfl (lv_at hl 3 rfl) ?_
      refine lv_i2l hx hb dX7_let_22 rfl ?_
      refine lv_lconst (v := 1) hx hb dX7_let_23 (by decide) ?_
      refine lv_ldc2 (v := 9) hx hb X.2.2.2.1 (X.2.2.2.2.1 _ wd_1131) dX7_let_24 ?_
      obtain ⟨x29, kk30, hg36, hf35⟩ := bd_some hf28
      refine x_ci (x_runS (As := [.long a3.toInt64, .long (1 : Int64), .long (9 : Int64)]) (rest := []) X hP22 hS23 (tX7_in l X.2.2.2.2.2.2.1  hg36) mi_X7_57 rfl hl.1 rfl (Nat.le_of_ble_eq_true rfl) dX7_let_27 ⟨Nat.le_of_ble_eq_true rfl, Nat.le_of_ble_eq_true rfl⟩ ⟨Nat.zero_le _, Nat.zero_le _⟩) hS23 (fun H31 lc32 hP33 hS34 => ?_)
      clear hf28 hP22 hS23 hg36
      refine lv_if_ne (tgt := 36) hx hb dX7_let_30 (by decide) (fun c37 => ?_) (fun c37 => ?_)
      · have hf38 := if_at_f c37 hf35
        clear hf35
        refine lv_aload_n hx hb dX7_let_36 rfl (lv_at hl 0 rfl) ?_
        refine gX7 X hP33 5 (v := .ref (g.2.2 250)) rfl (by decide) rfl wd_888 dX7_let_37 ?_
        refine lv_iload_n hx hb dX7_let_40 rfl (lv_at hl 1 rfl) ?_
        obtain ⟨x39, kk40, hg46, hf45⟩ := bd_some hf38
        refine x_ci (x_runS (As := [.ref (g.2.2 250), .int a1]) (rest := []) X hP33 hS34 (tX7_isIn l X.2.2.2.2.2.2.1 (rfl : isMA 250 = true) hg46) mi_X7_156 rfl hl.1 rfl (Nat.le_of_ble_eq_true rfl) dX7_let_41 ⟨Nat.le_of_ble_eq_true rfl, Nat.le_of_ble_eq_true rfl⟩ ⟨Nat.zero_le _, Nat.zero_le _⟩) hS34 (fun H41 lc42 hP43 hS44 => ?_)
        clear hf38 hP33 hS34 hg46
        refine lv_if_eq (tgt := 50) hx hb dX7_let_44 (by decide) (fun c47 => ?_) (fun c47 => ?_)
        · have hf48 := if_at_t c47 hf45
          clear hf45
          refine lv_aload_n hx hb dX7_let_50 rfl (lv_at hl 0 rfl) ?_
          obtain ⟨⟨⟩, kk50, hg56, hf55⟩ := bd_some hf48
          refine x_cv (x_runV (As := []) (rest := []) X hP43 hS44 246 (by decide) cl_M rfl (tX7_keep l X.2.2.2.2.2.2.1  hg56) mi_X7_193 rfl hl.1 rfl (Nat.le_of_ble_eq_true rfl) dX7_let_51 ⟨Nat.le_of_ble_eq_true rfl, Nat.le_of_ble_eq_true rfl⟩ ⟨Nat.zero_le _, Nat.zero_le _⟩) hS44 (fun H51 lc52 hP53 hS54 => ?_)
          clear hf48 hP43 hS44 hg56
          refine lv_aload_n hx hb dX7_let_54 rfl (lv_at hl 0 rfl) ?_
          refine gX7 X hP53 5 (v := .ref (g.2.2 250)) rfl (by decide) rfl wd_888 dX7_let_55 ?_
          refine lv_iload_n hx hb dX7_let_58 rfl (lv_at hl 1 rfl) ?_
          refine lv_iload_n hx hb dX7_let_59 rfl (lv_at hl 2 rfl) ?_
          refine lv_iload_n hx hb dX7_let_60 rfl (lv_at hl 3 rfl) ?_
          obtain ⟨⟨⟩, kk58, hg64, hf63⟩ := bd_some hf55
          refine x_cv (x_runS (As := [.ref (g.2.2 250), .int a1, .int a2, .int a3]) (rest := []) X hP53 hS54 (tX7_letIn l X.2.2.2.2.2.2.1 (rfl : isMA 250 = true) hg64) mi_X7_217 rfl hl.1 rfl (Nat.le_of_ble_eq_true rfl) dX7_let_61 ⟨Nat.le_of_ble_eq_true rfl, Nat.le_of_ble_eq_true rfl⟩ ⟨Nat.zero_le _, Nat.zero_le _⟩) hS54 (fun H59 lc60 hP61 hS62 => ?_)
          clear hf55 hP53 hS54 hg64
          refine lv_aload_n hx hb dX7_let_64 rfl (lv_at hl 0 rfl) ?_
          refine gX7 X hP61 5 (v := .ref (g.2.2 250)) rfl (by decide) rfl wd_888 dX7_let_65 ?_
          obtain ⟨x65, kk66, hg72, hf71⟩ := bd_some hf63
          refine x_ci (x_runS (As := [.ref (g.2.2 250)]) (rest := []) X hP61 hS62 (tX7_ins l X.2.2.2.2.2.2.1 (rfl : isMA 250 = true) hg72) mi_X7_220 rfl hl.1 rfl (Nat.le_of_ble_eq_true rfl) dX7_let_68 ⟨Nat.le_of_ble_eq_true rfl, Nat.le_of_ble_eq_true rfl⟩ ⟨Nat.zero_le _, Nat.zero_le _⟩) hS62 (fun H67 lc68 hP69 hS70 => ?_)
          clear hf63 hP61 hS62 hg72
          obtain ⟨rfl, rfl⟩ := ret_inj hf71
          exact x_iret X hr hlocks hP69 hS70 dX7_let_71
        · have hf73 := if_at_f c47 hf45
          clear hf45
          refine lv_ldc (v := -1000002) hx hb X.2.2.2.1 (X.2.2.2.2.1 _ wd_1062) dX7_let_47 ?_
          obtain ⟨rfl, rfl⟩ := ret_inj hf73
          exact x_iret X hr hlocks hP43 hS44 dX7_let_49
      · have hf74 := if_at_t c37 hf35
        clear hf35
        refine lv_ldc (v := -1000001) hx hb X.2.2.2.1 (X.2.2.2.2.1 _ wd_969) dX7_let_33 ?_
        obtain ⟨rfl, rfl⟩ := ret_inj hf74
        exact x_iret X hr hlocks hP33 hS34 dX7_let_35
set_option maxRecDepth 100000 in
set_option maxHeartbeats 4000000 in
theorem wX7_undo_L27 {p : Program} {l : Launch} {en : Env} {s : State} {m : MethodId} {args : Array Value} {below : List Frame} {meth : Method} {c : Code} {g : Gx} (X : Cx p s m args c cX7_undo 2 RX7 g) (hr : meth.sig.returnType = (some .int)) (hlocks : meth.locks = false) {h k1 : Hp} {r : Int32}   
     :
    ∀ (n : Nat) (v1 : Int32) (k : Hp) (H : Heap) (locs : List Loc) (ls : Array Slot), fX7_undo_L27 n v1 k = some (r, k1) → va_P g.1 vwCl (WW g h k) H → va_S (inA g) s.heap H locs → lv_has ls 2 [(0, .ref (g.2.2 246)), (1, .int v1)] → W p l en (rmD 0) s m args below meth c H locs 0 0 (MQ below (QI g h k1 r) args s 0 0 (inA g)) (F0 m 27 ls []) := by
  have hx := X.1
  have hb := X.2.1
  intro n
  induction n with
  | zero => intro v1 k H locs ls  hf; simp only [fX7_undo_L27, reduceCtorEq] at hf
  | succ n ih =>
    intro v1 k H locs ls  hf hP hS hl
    rw [fX7_undo_L27] at hf
    refine lv_iload_n hx hb dX7_undo_27 rfl (lv_at hl 1 rfl) ?_
    refine lv_bipush (v := 50) hx hb dX7_undo_28 (by decide) ?_
    refine lv_icmp_ge (tgt := 59) hx hb dX7_undo_30 (by decide) (fun c17 => ?_) (fun c17 => ?_)
    · have hf18 := if_at_t c17 hf
      clear hf
      refine lv_aload_n hx hb dX7_undo_59 rfl (lv_at hl 0 rfl) ?_
      refine gX7 X hP 9 (v := .int (k 246 9)) rfl (by decide) rfl wd_892 dX7_undo_60 ?_
      obtain ⟨rfl, rfl⟩ := ret_inj hf18
      exact x_iret X hr hlocks hP hS dX7_undo_63
    · have hf19 := if_at_f c17 hf
      clear hf
      refine lv_aload_n hx hb dX7_undo_33 rfl (lv_at hl 0 rfl) ?_
      refine gX7 X hP 5 (v := .ref (g.2.2 250)) rfl (by decide) rfl wd_888 dX7_undo_34 ?_
      refine lv_iload_n hx hb dX7_undo_37 rfl (lv_at hl 1 rfl) ?_
      refine lv_aload_n hx hb dX7_undo_38 rfl (lv_at hl 0 rfl) ?_
      refine gX7 X hP 8 (v := .ref (g.2.2 253)) rfl (by decide) rfl wd_891 dX7_undo_39 ?_
      refine lv_bipush (v := 50) hx hb dX7_undo_42 (by decide) ?_
      refine lv_aload_n hx hb dX7_undo_44 rfl (lv_at hl 0 rfl) ?_
      refine gX7 X hP 9 (v := .int (k 246 9)) rfl (by decide) rfl wd_892 dX7_undo_45 ?_
      refine lv_imul hx hb dX7_undo_48 ?_
      refine lv_iload_n hx hb dX7_undo_49 rfl (lv_at hl 1 rfl) ?_
      refine lv_iadd hx hb dX7_undo_50 ?_
      obtain ⟨hc20, hf21⟩ := chk_some hf19
      refine x_ildM X hP 253 rfl hc20 dX7_undo_51 ?_
      obtain ⟨hc22, hf23⟩ := chk_some hf21
      refine x_istM X hP hS 250 rfl hc22 dX7_undo_52 (fun H24 lc25 kk26 ekk26 hP27 hS28 => ?_)
      have hf29 := lk_at ekk26 hf23
      clear hf23 hP hS
      obtain ⟨x30, ex30⟩ : ∃ q : Int32, q = v1 + (1 : Int32) := ⟨_, rfl⟩
      have hf31 := lk_at ex30 hf29
      clear hf29
      refine lv_iinc (v := x30) (lv' := [(1, .int x30), (0, .ref (g.2.2 246))]) hx hb dX7_undo_53 hl (k := 1) rfl (by rw [ex30]; rfl) (by decide) rfl (fun ls32 hl33 => ?_)
      clear hl
      refine lv_goto (tgt := 27) hx hb dX7_undo_56 (by decide) ?_
      exact ih x30 kk26  _ _ _ hf31 hP27 hS28 (lv_sub hl33 [1, 0] rfl)
set_option maxRecDepth 100000 in
set_option maxHeartbeats 4000000 in
theorem tX7_undo (l : Launch) {g : Gx} (hI : InjG g) {h k k1 : Hp}  {r : Int32}   (hf : fX7_undo k = some (r, k1)) : CI l yX7_undo cX7_undo 2 (some .int) 0 g [.ref (g.2.2 246)] h k h k1 r := by
  refine Met.ofW (cc := cX7_undo) (maxL := 2) (ret := (some .int)) (by decide) rfl ?_
  intro p en s m args below meth c s₁ B hml hv
  obtain ⟨rfl, hSK, hSH, hP⟩ := hv
  have X : Cx p s m _ c cX7_undo 2 RX7 g := ⟨B.exec, B.bytes, hml, findClass_of_methodNamed B.named, fun w hw => atoms_spec (ws := wsy yX7_undo cX7_undo 2 (some .int)) B.pre w (List.mem_cons_of_mem _ hw), hSK, hI, hSH⟩
  have hr := B.returns
  have hlocks := B.notSynchronized
  have hx := X.1
  have hb := X.2.1
  have hS : va_S (inA g) s.heap s.heap [] := va_S.rf
  clear hSK hSH hml B
  have hl := lv_entry ([.ref (g.2.2 246)]) (n := 2) (Nat.le_of_ble_eq_true rfl)
  rw [lg_entry_eq]
  generalize (lg_sl ([.ref (g.2.2 246)]) ++ List.replicate (2 - (lg_sl ([.ref (g.2.2 246)])).length) Slot.unset).toArray = ls at hl ⊢
  have hl : lv_has ls 2 [(0, .ref (g.2.2 246))] := hl
  generalize ([.ref (g.2.2 246)] : List Value).toArray = args at X ⊢
  show W p l en (rmD 0) s m args below meth c s.heap [] 0 0 (MQ below (QI g h k1 r) args s 0 0 (inA g)) (F0 m 0 ls [])
  unfold fX7_undo at hf
  refine lv_aload_n hx hb dX7_undo_0 rfl (lv_at hl 0 rfl) ?_
  refine lv_iconst (v := 0) hx hb dX7_undo_1 (by decide) ?_
  refine pX7 X hP hS 0 (by decide) rfl wd_883 rfl rfl rfl rfl seX7_0 dX7_undo_2 (fun H1 lc2 kk3 ekk3 hP4 hS5 => ?_)
  have hf6 := lk_at ekk3 hf
  clear hf hP hS
  refine lv_aload_n hx hb dX7_undo_5 rfl (lv_at hl 0 rfl) ?_
  refine gX7 X hP4 9 (v := .int (kk3 246 9)) rfl (by decide) rfl wd_892 dX7_undo_6 ?_
  refine lv_if_ne (tgt := 15) hx hb dX7_undo_9 (by decide) (fun c7 => ?_) (fun c7 => ?_)
  · have hf8 := if_at_f c7 hf6
    clear hf6
    refine lv_aload_n hx hb dX7_undo_15 rfl (lv_at hl 0 rfl) ?_
    refine lv_dup hx hb dX7_undo_16 rfl ?_
    refine gX7 X hP4 9 (v := .int (kk3 246 9)) rfl (by decide) rfl wd_892 dX7_undo_17 ?_
    refine lv_iconst (v := 1) hx hb dX7_undo_20 (by decide) ?_
    refine lv_isub hx hb dX7_undo_21 ?_
    refine pX7 X hP4 hS5 9 (by decide) rfl wd_892 rfl rfl rfl rfl seX7_9 dX7_undo_22 (fun H9 lc10 kk11 ekk11 hP12 hS13 => ?_)
    have hf14 := lk_at ekk11 hf8
    clear hf8 hP4 hS5
    refine lv_iconst (v := 0) hx hb dX7_undo_25 (by decide) ?_
    refine lv_istore_n (lv' := [(1, .int (0 : Int32)), (0, .ref (g.2.2 246))]) hx hb dX7_undo_26 rfl hl (by decide) rfl (fun ls15 hl16 => ?_)
    clear hl
    refine wX7_undo_L27 X hr hlocks   4096 (0 : Int32) kk11 _ _ _  hf14 hP12 hS13 (lv_sub hl16 [1, 0] rfl)
  · have hf34 := if_at_t c7 hf6
    clear hf6
    refine lv_ldc (v := -1000002) hx hb X.2.2.2.1 (X.2.2.2.2.1 _ wd_1062) dX7_undo_12 ?_
    obtain ⟨rfl, rfl⟩ := ret_inj hf34
    exact x_iret X hr hlocks hP4 hS5 dX7_undo_14
set_option maxRecDepth 100000 in
set_option maxHeartbeats 4000000 in
theorem tX7_told (l : Launch) {g : Gx} (hI : InjG g) {h k k1 : Hp} {a1 : Nat} {a2 : Int32} {a3 : Int32} {r : Int32}  (ha1 : isMA a1 = true) (hf : fX7_told a1 a2 a3 k = some (r, k1)) : CI l yX7_told cX7_told 3 (some .int) 2 g [.ref (g.2.2 a1), .int a2, .int a3] h k h k1 r := by
  refine Met.ofW (cc := cX7_told) (maxL := 3) (ret := (some .int)) (by decide) rfl ?_
  intro p en s m args below meth c s₁ B hml hv
  obtain ⟨rfl, hSK, hSH, hP⟩ := hv
  have X : Cx p s m _ c cX7_told 3 RX7 g := ⟨B.exec, B.bytes, hml, findClass_of_methodNamed B.named, fun w hw => atoms_spec (ws := wsy yX7_told cX7_told 3 (some .int)) B.pre w (List.mem_cons_of_mem _ hw), hSK, hI, hSH⟩
  have hr := B.returns
  have hlocks := B.notSynchronized
  have hx := X.1
  have hb := X.2.1
  have hS : va_S (inA g) s.heap s.heap [] := va_S.rf
  clear hSK hSH hml B
  have hl := lv_entry ([.ref (g.2.2 a1), .int a2, .int a3]) (n := 3) (Nat.le_of_ble_eq_true rfl)
  rw [lg_entry_eq]
  generalize (lg_sl ([.ref (g.2.2 a1), .int a2, .int a3]) ++ List.replicate (3 - (lg_sl ([.ref (g.2.2 a1), .int a2, .int a3])).length) Slot.unset).toArray = ls at hl ⊢
  have hl : lv_has ls 3 [(0, .ref (g.2.2 a1)), (1, .int a2), (2, .int a3)] := hl
  generalize ([.ref (g.2.2 a1), .int a2, .int a3] : List Value).toArray = args at X ⊢
  show W p l en (rmD 2) s m args below meth c s.heap [] 0 0 (MQ below (QI g h k1 r) args s 0 0 (inA g)) (F0 m 0 ls [])
  unfold fX7_told at hf
  refine lv_iload_n hx hb dX7_told_0 rfl (lv_at hl 2 rfl) ?_
  by_cases c1 : a3 = (0 : Int32)
  · have hf2 := if_at_t c1 hf
    clear hf
    refine lv_lookup (off := 27) (tgt := 28) hx hb dX7_told_1 rfl (by rw [c1] <;> rfl) (by decide) ?_
    refine lv_aload_n hx hb dX7_told_28 rfl (lv_at hl 0 rfl) ?_
    refine lv_iload_n hx hb dX7_told_29 rfl (lv_at hl 1 rfl) ?_
    obtain ⟨x4, kk5, hg11, hf10⟩ := bd_some hf2
    refine x_ci (x_runS (As := [.ref (g.2.2 a1), .int a2]) (rest := []) X hP hS (tX7_isIn l X.2.2.2.2.2.2.1 ha1 hg11) mi_X7_156 rfl hl.1 rfl (Nat.le_of_ble_eq_true rfl) dX7_told_30 ⟨Nat.le_of_ble_eq_true rfl, Nat.le_of_ble_eq_true rfl⟩ ⟨Nat.zero_le _, Nat.zero_le _⟩) hS (fun H6 lc7 hP8 hS9 => ?_)
    clear hf2 hP hS hg11
    refine lv_if_eq (tgt := 45) hx hb dX7_told_33 (by decide) (fun c12 => ?_) (fun c12 => ?_)
    · have hf13 := if_at_t c12 hf10
      clear hf10
      refine lv_ldc (v := -1000000) hx hb X.2.2.2.1 (X.2.2.2.2.1 _ wd_1009) dX7_told_45 ?_
      obtain ⟨rfl, rfl⟩ := ret_inj hf13
      exact x_iret X hr hlocks hP8 hS9 dX7_told_47
    · have hf14 := if_at_f c12 hf10
      clear hf10
      refine lv_aload_n hx hb dX7_told_36 rfl (lv_at hl 0 rfl) ?_
      refine lv_iload_n hx hb dX7_told_37 rfl (lv_at hl 1 rfl) ?_
      refine lv_iconst (v := 1) hx hb dX7_told_38 (by decide) ?_
      obtain ⟨x15, kk16, hg22, hf21⟩ := bd_some hf14
      refine x_ci (x_runS (As := [.ref (g.2.2 a1), .int a2, .int (1 : Int32)]) (rest := []) X hP8 hS9 (tX7_of l X.2.2.2.2.2.2.1 ha1 hg22) mi_X7_152 rfl hl.1 rfl (Nat.le_of_ble_eq_true rfl) dX7_told_39 ⟨Nat.le_of_ble_eq_true rfl, Nat.le_of_ble_eq_true rfl⟩ ⟨Nat.zero_le _, Nat.zero_le _⟩) hS9 (fun H17 lc18 hP19 hS20 => ?_)
      clear hf14 hP8 hS9 hg22
      refine lv_goto (tgt := 47) hx hb dX7_told_42 (by decide) ?_
      obtain ⟨rfl, rfl⟩ := ret_inj hf21
      exact x_iret X hr hlocks hP19 hS20 dX7_told_47
  · have hf3 := if_at_f c1 hf
    clear hf
    by_cases c23 : a3 = (1 : Int32)
    · have hf24 := if_at_t c23 hf3
      clear hf3
      refine lv_lookup (off := 47) (tgt := 48) hx hb dX7_told_1 rfl (by rw [c23] <;> rfl) (by decide) ?_
      refine lv_aload_n hx hb dX7_told_48 rfl (lv_at hl 0 rfl) ?_
      refine lv_iload_n hx hb dX7_told_49 rfl (lv_at hl 1 rfl) ?_
      obtain ⟨x26, kk27, hg33, hf32⟩ := bd_some hf24
      refine x_ci (x_runS (As := [.ref (g.2.2 a1), .int a2]) (rest := []) X hP hS (tX7_isIn l X.2.2.2.2.2.2.1 ha1 hg33) mi_X7_156 rfl hl.1 rfl (Nat.le_of_ble_eq_true rfl) dX7_told_50 ⟨Nat.le_of_ble_eq_true rfl, Nat.le_of_ble_eq_true rfl⟩ ⟨Nat.zero_le _, Nat.zero_le _⟩) hS (fun H28 lc29 hP30 hS31 => ?_)
      clear hf24 hP hS hg33
      refine lv_if_eq (tgt := 65) hx hb dX7_told_53 (by decide) (fun c34 => ?_) (fun c34 => ?_)
      · have hf35 := if_at_t c34 hf32
        clear hf32
        refine lv_iconst (v := 0) hx hb dX7_told_65 (by decide) ?_
        obtain ⟨rfl, rfl⟩ := ret_inj hf35
        exact x_iret X hr hlocks hP30 hS31 dX7_told_66
      · have hf36 := if_at_f c34 hf32
        clear hf32
        refine lv_aload_n hx hb dX7_told_56 rfl (lv_at hl 0 rfl) ?_
        refine lv_iload_n hx hb dX7_told_57 rfl (lv_at hl 1 rfl) ?_
        refine lv_iconst (v := 3) hx hb dX7_told_58 (by decide) ?_
        obtain ⟨x37, kk38, hg44, hf43⟩ := bd_some hf36
        refine x_ci (x_runS (As := [.ref (g.2.2 a1), .int a2, .int (3 : Int32)]) (rest := []) X hP30 hS31 (tX7_of l X.2.2.2.2.2.2.1 ha1 hg44) mi_X7_152 rfl hl.1 rfl (Nat.le_of_ble_eq_true rfl) dX7_told_59 ⟨Nat.le_of_ble_eq_true rfl, Nat.le_of_ble_eq_true rfl⟩ ⟨Nat.zero_le _, Nat.zero_le _⟩) hS31 (fun H39 lc40 hP41 hS42 => ?_)
        clear hf36 hP30 hS31 hg44
        refine lv_goto (tgt := 66) hx hb dX7_told_62 (by decide) ?_
        obtain ⟨rfl, rfl⟩ := ret_inj hf43
        exact x_iret X hr hlocks hP41 hS42 dX7_told_66
    · have hf25 := if_at_f c23 hf3
      clear hf3
      have q0 := sw_ne (j := 0) rfl c1
      have q1 := sw_ne (j := 1) rfl c23
      refine lv_lookup (off := 66) (tgt := 67) hx hb dX7_told_1 rfl (by simp [Op.lookupswitch.offset, Ne.symm q0, q0, Ne.symm q1, q1]) (by decide) ?_
      clear q0 q1
      refine lv_aload_n hx hb dX7_told_67 rfl (lv_at hl 0 rfl) ?_
      refine lv_iload_n hx hb dX7_told_68 rfl (lv_at hl 1 rfl) ?_
      refine lv_iconst (v := 4) hx hb dX7_told_69 (by decide) ?_
      obtain ⟨x45, kk46, hg52, hf51⟩ := bd_some hf25
      refine x_ci (x_runS (As := [.ref (g.2.2 a1), .int a2, .int (4 : Int32)]) (rest := []) X hP hS (tX7_of l X.2.2.2.2.2.2.1 ha1 hg52) mi_X7_152 rfl hl.1 rfl (Nat.le_of_ble_eq_true rfl) dX7_told_70 ⟨Nat.le_of_ble_eq_true rfl, Nat.le_of_ble_eq_true rfl⟩ ⟨Nat.zero_le _, Nat.zero_le _⟩) hS (fun H47 lc48 hP49 hS50 => ?_)
      clear hf25 hP hS hg52
      obtain ⟨rfl, rfl⟩ := ret_inj hf51
      exact x_iret X hr hlocks hP49 hS50 dX7_told_73
set_option maxRecDepth 100000 in
set_option maxHeartbeats 4000000 in
theorem tX7_sheet (l : Launch) {g : Gx} (hI : InjG g) {h k k1 : Hp} {a1 : Int32} {a2 : Int32} {r : Int32}   (hf : fX7_sheet a1 a2 k = some (r, k1)) : CI l yX7_sheet cX7_sheet 3 (some .int) 3 g [.ref (g.2.2 246), .int a1, .int a2] h k h k1 r := by
  refine Met.ofW (cc := cX7_sheet) (maxL := 3) (ret := (some .int)) (by decide) rfl ?_
  intro p en s m args below meth c s₁ B hml hv
  obtain ⟨rfl, hSK, hSH, hP⟩ := hv
  have X : Cx p s m _ c cX7_sheet 3 RX7 g := ⟨B.exec, B.bytes, hml, findClass_of_methodNamed B.named, fun w hw => atoms_spec (ws := wsy yX7_sheet cX7_sheet 3 (some .int)) B.pre w (List.mem_cons_of_mem _ hw), hSK, hI, hSH⟩
  have hr := B.returns
  have hlocks := B.notSynchronized
  have hx := X.1
  have hb := X.2.1
  have hS : va_S (inA g) s.heap s.heap [] := va_S.rf
  clear hSK hSH hml B
  have hl := lv_entry ([.ref (g.2.2 246), .int a1, .int a2]) (n := 3) (Nat.le_of_ble_eq_true rfl)
  rw [lg_entry_eq]
  generalize (lg_sl ([.ref (g.2.2 246), .int a1, .int a2]) ++ List.replicate (3 - (lg_sl ([.ref (g.2.2 246), .int a1, .int a2])).length) Slot.unset).toArray = ls at hl ⊢
  have hl : lv_has ls 3 [(0, .ref (g.2.2 246)), (1, .int a1), (2, .int a2)] := hl
  generalize ([.ref (g.2.2 246), .int a1, .int a2] : List Value).toArray = args at X ⊢
  show W p l en (rmD 3) s m args below meth c s.heap [] 0 0 (MQ below (QI g h k1 r) args s 0 0 (inA g)) (F0 m 0 ls [])
  unfold fX7_sheet at hf
  refine lv_aload_n hx hb dX7_sheet_0 rfl (lv_at hl 0 rfl) ?_
  refine lv_iconst (v := 0) hx hb dX7_sheet_1 (by decide) ?_
  refine pX7 X hP hS 0 (by decide) rfl wd_883 rfl rfl rfl rfl seX7_0 dX7_sheet_2 (fun H1 lc2 kk3 ekk3 hP4 hS5 => ?_)
  have hf6 := lk_at ekk3 hf
  clear hf hP hS
  refine lv_aload_n hx hb dX7_sheet_5 rfl (lv_at hl 0 rfl) ?_
  refine lv_iload_n hx hb dX7_sheet_6 rfl (lv_at hl 1 rfl) ?_
  obtain ⟨x7, kk8, hg14, hf13⟩ := bd_some hf6
  refine x_ci (x_runV (As := [.int a1]) (rest := []) X hP4 hS5 246 (by decide) cl_M rfl (tX7_isSheet l X.2.2.2.2.2.2.1  hg14) mi_X7_212 rfl hl.1 rfl (Nat.le_of_ble_eq_true rfl) dX7_sheet_7 ⟨Nat.le_of_ble_eq_true rfl, Nat.le_of_ble_eq_true rfl⟩ ⟨Nat.zero_le _, Nat.zero_le _⟩) hS5 (fun H9 lc10 hP11 hS12 => ?_)
  clear hf6 hP4 hS5 hg14
  refine lv_if_ne (tgt := 16) hx hb dX7_sheet_10 (by decide) (fun c15 => ?_) (fun c15 => ?_)
  · have hf16 := if_at_f c15 hf13
    clear hf13
    refine lv_iload_n hx hb dX7_sheet_16 rfl (lv_at hl 2 rfl) ?_
    by_cases c17 : a2 = (0 : Int32)
    · have hf18 := if_at_t c17 hf16
      clear hf16
      refine lv_tableIn (tgt := 52) hx hb dX7_sheet_17 (by rw [c17]; decide) (by rw [c17]; decide) (by rw [c17]; rfl) (by decide) ?_
      refine lv_aload_n hx hb dX7_sheet_52 rfl (lv_at hl 0 rfl) ?_
      refine gX7 X hP11 5 (v := .ref (g.2.2 250)) rfl (by decide) rfl wd_888 dX7_sheet_53 ?_
      refine lv_iload_n hx hb dX7_sheet_56 rfl (lv_at hl 1 rfl) ?_
      refine lv_iconst (v := 0) hx hb dX7_sheet_57 (by decide) ?_
      obtain ⟨x20, kk21, hg27, hf26⟩ := bd_some hf18
      refine x_ci (x_runS (As := [.ref (g.2.2 250), .int a1, .int (0 : Int32)]) (rest := []) X hP11 hS12 (tX7_told l X.2.2.2.2.2.2.1 (rfl : isMA 250 = true) hg27) mi_X7_223 rfl hl.1 rfl (Nat.le_of_ble_eq_true rfl) dX7_sheet_58 ⟨Nat.le_of_ble_eq_true rfl, Nat.le_of_ble_eq_true rfl⟩ ⟨Nat.zero_le _, Nat.zero_le _⟩) hS12 (fun H22 lc23 hP24 hS25 => ?_)
      clear hf18 hP11 hS12 hg27
      obtain ⟨rfl, rfl⟩ := ret_inj hf26
      exact x_iret X hr hlocks hP24 hS25 dX7_sheet_61
    · have hf19 := if_at_f c17 hf16
      clear hf16
      by_cases c28 : a2 = (1 : Int32)
      · have hf29 := if_at_t c28 hf19
        clear hf19
        refine lv_tableIn (tgt := 62) hx hb dX7_sheet_17 (by rw [c28]; decide) (by rw [c28]; decide) (by rw [c28]; rfl) (by decide) ?_
        refine lv_aload_n hx hb dX7_sheet_62 rfl (lv_at hl 0 rfl) ?_
        refine gX7 X hP11 5 (v := .ref (g.2.2 250)) rfl (by decide) rfl wd_888 dX7_sheet_63 ?_
        refine lv_iload_n hx hb dX7_sheet_66 rfl (lv_at hl 1 rfl) ?_
        refine lv_iconst (v := 2) hx hb dX7_sheet_67 (by decide) ?_
        obtain ⟨x31, kk32, hg38, hf37⟩ := bd_some hf29
        refine x_ci (x_runS (As := [.ref (g.2.2 250), .int a1, .int (2 : Int32)]) (rest := []) X hP11 hS12 (tX7_of l X.2.2.2.2.2.2.1 (rfl : isMA 250 = true) hg38) mi_X7_152 rfl hl.1 rfl (Nat.le_of_ble_eq_true rfl) dX7_sheet_68 ⟨Nat.le_of_ble_eq_true rfl, Nat.le_of_ble_eq_true rfl⟩ ⟨Nat.zero_le _, Nat.zero_le _⟩) hS12 (fun H33 lc34 hP35 hS36 => ?_)
        clear hf29 hP11 hS12 hg38
        obtain ⟨rfl, rfl⟩ := ret_inj hf37
        exact x_iret X hr hlocks hP35 hS36 dX7_sheet_71
      · have hf30 := if_at_f c28 hf19
        clear hf19
        by_cases c39 : a2 = (2 : Int32)
        · have hf40 := if_at_t c39 hf30
          clear hf30
          refine lv_tableIn (tgt := 72) hx hb dX7_sheet_17 (by rw [c39]; decide) (by rw [c39]; decide) (by rw [c39]; rfl) (by decide) ?_
          refine lv_aload_n hx hb dX7_sheet_72 rfl (lv_at hl 0 rfl) ?_
          refine gX7 X hP11 5 (v := .ref (g.2.2 250)) rfl (by decide) rfl wd_888 dX7_sheet_73 ?_
          refine lv_iload_n hx hb dX7_sheet_76 rfl (lv_at hl 1 rfl) ?_
          refine lv_iload_n hx hb dX7_sheet_77 rfl (lv_at hl 2 rfl) ?_
          refine lv_iconst (v := 1) hx hb dX7_sheet_78 (by decide) ?_
          refine lv_isub hx hb dX7_sheet_79 ?_
          obtain ⟨x42, kk43, hg49, hf48⟩ := bd_some hf40
          refine x_ci (x_runS (As := [.ref (g.2.2 250), .int a1, .int (a2 - (1 : Int32))]) (rest := []) X hP11 hS12 (tX7_told l X.2.2.2.2.2.2.1 (rfl : isMA 250 = true) hg49) mi_X7_223 rfl hl.1 rfl (Nat.le_of_ble_eq_true rfl) dX7_sheet_80 ⟨Nat.le_of_ble_eq_true rfl, Nat.le_of_ble_eq_true rfl⟩ ⟨Nat.zero_le _, Nat.zero_le _⟩) hS12 (fun H44 lc45 hP46 hS47 => ?_)
          clear hf40 hP11 hS12 hg49
          obtain ⟨rfl, rfl⟩ := ret_inj hf48
          exact x_iret X hr hlocks hP46 hS47 dX7_sheet_83
        · have hf41 := if_at_f c39 hf30
          clear hf30
          by_cases c50 : a2 = (3 : Int32)
          · have hf51 := if_at_t c50 hf41
            clear hf41
            refine lv_tableIn (tgt := 72) hx hb dX7_sheet_17 (by rw [c50]; decide) (by rw [c50]; decide) (by rw [c50]; rfl) (by decide) ?_
            refine lv_aload_n hx hb dX7_sheet_72 rfl (lv_at hl 0 rfl) ?_
            refine gX7 X hP11 5 (v := .ref (g.2.2 250)) rfl (by decide) rfl wd_888 dX7_sheet_73 ?_
            refine lv_iload_n hx hb dX7_sheet_76 rfl (lv_at hl 1 rfl) ?_
            refine lv_iload_n hx hb dX7_sheet_77 rfl (lv_at hl 2 rfl) ?_
            refine lv_iconst (v := 1) hx hb dX7_sheet_78 (by decide) ?_
            refine lv_isub hx hb dX7_sheet_79 ?_
            obtain ⟨x53, kk54, hg60, hf59⟩ := bd_some hf51
            refine x_ci (x_runS (As := [.ref (g.2.2 250), .int a1, .int (a2 - (1 : Int32))]) (rest := []) X hP11 hS12 (tX7_told l X.2.2.2.2.2.2.1 (rfl : isMA 250 = true) hg60) mi_X7_223 rfl hl.1 rfl (Nat.le_of_ble_eq_true rfl) dX7_sheet_80 ⟨Nat.le_of_ble_eq_true rfl, Nat.le_of_ble_eq_true rfl⟩ ⟨Nat.zero_le _, Nat.zero_le _⟩) hS12 (fun H55 lc56 hP57 hS58 => ?_)
            clear hf51 hP11 hS12 hg60
            obtain ⟨rfl, rfl⟩ := ret_inj hf59
            exact x_iret X hr hlocks hP57 hS58 dX7_sheet_83
          · have hf52 := if_at_f c50 hf41
            clear hf41
            by_cases c61 : a2 = (4 : Int32)
            · have hf62 := if_at_t c61 hf52
              clear hf52
              refine lv_tableIn (tgt := 84) hx hb dX7_sheet_17 (by rw [c61]; decide) (by rw [c61]; decide) (by rw [c61]; rfl) (by decide) ?_
              refine lv_aload_n hx hb dX7_sheet_84 rfl (lv_at hl 0 rfl) ?_
              refine gX7 X hP11 5 (v := .ref (g.2.2 250)) rfl (by decide) rfl wd_888 dX7_sheet_85 ?_
              refine lv_iload_n hx hb dX7_sheet_88 rfl (lv_at hl 1 rfl) ?_
              obtain ⟨x64, kk65, hg71, hf70⟩ := bd_some hf62
              refine x_ci (x_runS (As := [.ref (g.2.2 250), .int a1]) (rest := []) X hP11 hS12 (tX7_liesOn l X.2.2.2.2.2.2.1 (rfl : isMA 250 = true) hg71) mi_X7_179 rfl hl.1 rfl (Nat.le_of_ble_eq_true rfl) dX7_sheet_89 ⟨Nat.le_of_ble_eq_true rfl, Nat.le_of_ble_eq_true rfl⟩ ⟨Nat.zero_le _, Nat.zero_le _⟩) hS12 (fun H66 lc67 hP68 hS69 => ?_)
              clear hf62 hP11 hS12 hg71
              obtain ⟨rfl, rfl⟩ := ret_inj hf70
              exact x_iret X hr hlocks hP68 hS69 dX7_sheet_92
            · have hf63 := if_at_f c61 hf52
              clear hf52
              have q0 := sw_ne (j := 0) rfl c17
              have q1 := sw_ne (j := 1) rfl c28
              have q2 := sw_ne (j := 2) rfl c39
              have q3 := sw_ne (j := 3) rfl c50
              have q4 := sw_ne (j := 4) rfl c61
              refine lv_tableOut (tgt := 93) hx hb dX7_sheet_17 (by omega) (by decide) ?_
              clear q0 q1 q2 q3 q4
              refine lv_ldc (v := -1000001) hx hb X.2.2.2.1 (X.2.2.2.2.1 _ wd_969) dX7_sheet_93 ?_
              obtain ⟨rfl, rfl⟩ := ret_inj hf63
              exact x_iret X hr hlocks hP11 hS12 dX7_sheet_95
  · have hf72 := if_at_t c15 hf13
    clear hf13
    refine lv_ldc (v := -1000001) hx hb X.2.2.2.1 (X.2.2.2.2.1 _ wd_969) dX7_sheet_13 ?_
    obtain ⟨rfl, rfl⟩ := ret_inj hf72
    exact x_iret X hr hlocks hP11 hS12 dX7_sheet_15
set_option maxRecDepth 100000 in
set_option maxHeartbeats 4000000 in
theorem wX7_cell_L33 {p : Program} {l : Launch} {en : Env} {s : State} {m : MethodId} {args : Array Value} {below : List Frame} {meth : Method} {c : Code} {g : Gx} (X : Cx p s m args c cX7_cell 5 RX7 g) (hr : meth.sig.returnType = (some .int)) (hlocks : meth.locks = false) {h k1 : Hp} {r : Int32} {v1 : Int32} {v2 : Int32}  {K77 : Int32 → Hp → Option (Int32 × Hp)}
    (hK77 : ∀ (v3 : Int32) (k : Hp) (H : Heap) (locs : List Loc) (ls : Array Slot), K77 v3 k = some (r, k1) → va_P g.1 vwCl (WW g h k) H → va_S (inA g) s.heap H locs → lv_has ls 5 [(0, .ref (g.2.2 246)), (1, .int v1), (2, .int v2), (3, .int v3)] → W p l en (rmD 4) s m args below meth c H locs 0 0 (MQ below (QI g h k1 r) args s 0 0 (inA g)) (F0 m 77 ls [])) :
    ∀ (n : Nat) (v3 : Int32) (v4 : Int32) (k : Hp) (H : Heap) (locs : List Loc) (ls : Array Slot), fX7_cell_L33 K77 n v1 v2 v3 v4 k = some (r, k1) → va_P g.1 vwCl (WW g h k) H → va_S (inA g) s.heap H locs → lv_has ls 5 [(0, .ref (g.2.2 246)), (1, .int v1), (2, .int v2), (3, .int v3), (4, .int v4)] → W p l en (rmD 4) s m args below meth c H locs 0 0 (MQ below (QI g h k1 r) args s 0 0 (inA g)) (F0 m 33 ls []) := by
  have hx := X.1
  have hb := X.2.1
  intro n
  induction n with
  | zero => intro v3 v4 k H locs ls  hf; simp only [fX7_cell_L33, reduceCtorEq] at hf
  | succ n ih =>
    intro v3 v4 k H locs ls  hf hP hS hl
    rw [fX7_cell_L33] at hf
    refine lv_iload hx hb dX7_cell_33 (lv_at hl 4 rfl) ?_
    refine lv_aload_n hx hb dX7_cell_35 rfl (lv_at hl 0 rfl) ?_
    refine gX7 X hP 5 (v := .ref (g.2.2 250)) rfl (by decide) rfl wd_888 dX7_cell_36 ?_
    refine lv_iconst (v := 0) hx hb dX7_cell_39 (by decide) ?_
    obtain ⟨hc32, hf33⟩ := chk_some hf
    refine x_ildM X hP 250 rfl hc32 dX7_cell_40 ?_
    refine lv_icmp_ge (tgt := 77) hx hb dX7_cell_41 (by decide) (fun c34 => ?_) (fun c34 => ?_)
    · have hf35 := if_at_t c34 hf33
      clear hf33
      exact hK77 v3 k  _ _ _ hf35 hP hS (lv_sub hl [0, 1, 2, 3] rfl)
    · have hf36 := if_at_f c34 hf33
      clear hf33
      refine lv_iload_n hx hb dX7_cell_44 rfl (lv_at hl 3 rfl) ?_
      refine lv_aload_n hx hb dX7_cell_45 rfl (lv_at hl 0 rfl) ?_
      refine gX7 X hP 5 (v := .ref (g.2.2 250)) rfl (by decide) rfl wd_888 dX7_cell_46 ?_
      refine lv_iload hx hb dX7_cell_49 (lv_at hl 4 rfl) ?_
      obtain ⟨x37, kk38, hg44, hf43⟩ := bd_some hf36
      refine x_ci (x_runS (As := [.ref (g.2.2 250), .int v4]) (rest := [.int v3]) X hP hS (tX7_liesOn l X.2.2.2.2.2.2.1 (rfl : isMA 250 = true) hg44) mi_X7_179 rfl hl.1 rfl (Nat.le_of_ble_eq_true rfl) dX7_cell_51 ⟨Nat.le_of_ble_eq_true rfl, Nat.le_of_ble_eq_true rfl⟩ ⟨Nat.zero_le _, Nat.zero_le _⟩) hS (fun H39 lc40 hP41 hS42 => ?_)
      clear hf36 hP hS hg44
      refine lv_iload_n hx hb dX7_cell_54 rfl (lv_at hl 1 rfl) ?_
      obtain ⟨x45, kk46, hg52, hf51⟩ := bd_some hf43
      refine x_ci (x_runS (As := [.int x37, .int v1]) (rest := [.int v3]) X hP41 hS42 (tX7_has l X.2.2.2.2.2.2.1  hg52) mi_X7_175 rfl hl.1 rfl (Nat.le_of_ble_eq_true rfl) dX7_cell_55 ⟨Nat.le_of_ble_eq_true rfl, Nat.le_of_ble_eq_true rfl⟩ ⟨Nat.zero_le _, Nat.zero_le _⟩) hS42 (fun H47 lc48 hP49 hS50 => ?_)
      clear hf43 hP41 hS42 hg52
      obtain ⟨J69_53, eJ69_53, hf70⟩ := jp_at hf51
      clear hf51
      have hJ69_53 : ∀ (J69_53s0 : Int32) (kk54 : Hp) (H55 : Heap) (lc56 : List Loc) (ls57 : Array Slot), J69_53 J69_53s0 kk54 = some (r, k1) → va_P g.1 vwCl (WW g h kk54) H55 → va_S (inA g) s.heap H55 lc56 → lv_has ls57 5 [(0, .ref (g.2.2 246)), (1, .int v1), (2, .int v2), (4, .int v4)] → W p l en (rmD 4) s m args below meth c H55 lc56 0 0 (MQ below (QI g h k1 r) args s 0 0 (inA g)) (F0 m 69 ls57 [.int J69_53s0, .int v3]) := by
        intro J69_53s0 kk54 H55 lc56 ls57 hf61 hP58 hS59 hl60
        clear hf70 hP49 hS50 hl
        subst eJ69_53
        refine lv_ior hx hb dX7_cell_69 ?_
        refine lv_topi (fun x62 ex62 => ?_)
        have hf63 := lk_at ex62 hf61
        clear hf61
        refine lv_istore_n (lv' := [(3, .int x62), (0, .ref (g.2.2 246)), (1, .int v1), (2, .int v2), (4, .int v4)]) hx hb dX7_cell_70 rfl hl60 (by decide) rfl (fun ls64 hl65 => ?_)
        clear hl60
        obtain ⟨x66, ex66⟩ : ∃ q : Int32, q = v4 + (1 : Int32) := ⟨_, rfl⟩
        have hf67 := lk_at ex66 hf63
        clear hf63
        refine lv_iinc (v := x66) (lv' := [(4, .int x66), (3, .int x62), (0, .ref (g.2.2 246)), (1, .int v1), (2, .int v2)]) hx hb dX7_cell_71 hl65 (k := 4) rfl (by rw [ex66]; rfl) (by decide) rfl (fun ls68 hl69 => ?_)
        clear hl65
        refine lv_goto (tgt := 33) hx hb dX7_cell_74 (by decide) ?_
        exact ih x62 x66 kk54  _ _ _ hf67 hP58 hS59 (lv_sub hl69 [2, 3, 4, 1, 0] rfl)
      clear eJ69_53
      refine lv_if_eq (tgt := 68) hx hb dX7_cell_58 (by decide) (fun c71 => ?_) (fun c71 => ?_)
      · have hf72 := if_at_t c71 hf70
        clear hf70
        refine lv_iconst (v := 0) hx hb dX7_cell_68 (by decide) ?_
        exact hJ69_53 (0 : Int32) kk46  _ _ _ hf72 hP49 hS50 (lv_sub hl [0, 1, 2, 4] rfl)
      · have hf73 := if_at_f c71 hf70
        clear hf70
        refine lv_iconst (v := 1) hx hb dX7_cell_61 (by decide) ?_
        refine lv_iload hx hb dX7_cell_62 (lv_at hl 4 rfl) ?_
        refine x_ishl X dX7_cell_64 ?_
        refine lv_goto (tgt := 69) hx hb dX7_cell_65 (by decide) ?_
        exact hJ69_53 (shlI (1 : Int32) v4) kk46  _ _ _ hf73 hP49 hS50 (lv_sub hl [0, 1, 2, 4] rfl)
set_option maxRecDepth 100000 in
set_option maxHeartbeats 4000000 in
theorem tX7_cell (l : Launch) {g : Gx} (hI : InjG g) {h k k1 : Hp} {a1 : Int32} {a2 : Int32} {r : Int32}   (hf : fX7_cell a1 a2 k = some (r, k1)) : CI l yX7_cell cX7_cell 5 (some .int) 4 g [.ref (g.2.2 246), .int a1, .int a2] h k h k1 r := by
  refine Met.ofW (cc := cX7_cell) (maxL := 5) (ret := (some .int)) (by decide) rfl ?_
  intro p en s m args below meth c s₁ B hml hv
  obtain ⟨rfl, hSK, hSH, hP⟩ := hv
  have X : Cx p s m _ c cX7_cell 5 RX7 g := ⟨B.exec, B.bytes, hml, findClass_of_methodNamed B.named, fun w hw => atoms_spec (ws := wsy yX7_cell cX7_cell 5 (some .int)) B.pre w (List.mem_cons_of_mem _ hw), hSK, hI, hSH⟩
  have hr := B.returns
  have hlocks := B.notSynchronized
  have hx := X.1
  have hb := X.2.1
  have hS : va_S (inA g) s.heap s.heap [] := va_S.rf
  clear hSK hSH hml B
  have hl := lv_entry ([.ref (g.2.2 246), .int a1, .int a2]) (n := 5) (Nat.le_of_ble_eq_true rfl)
  rw [lg_entry_eq]
  generalize (lg_sl ([.ref (g.2.2 246), .int a1, .int a2]) ++ List.replicate (5 - (lg_sl ([.ref (g.2.2 246), .int a1, .int a2])).length) Slot.unset).toArray = ls at hl ⊢
  have hl : lv_has ls 5 [(0, .ref (g.2.2 246)), (1, .int a1), (2, .int a2)] := hl
  generalize ([.ref (g.2.2 246), .int a1, .int a2] : List Value).toArray = args at X ⊢
  show W p l en (rmD 4) s m args below meth c s.heap [] 0 0 (MQ below (QI g h k1 r) args s 0 0 (inA g)) (F0 m 0 ls [])
  unfold fX7_cell at hf
  refine lv_aload_n hx hb dX7_cell_0 rfl (lv_at hl 0 rfl) ?_
  refine lv_iconst (v := 0) hx hb dX7_cell_1 (by decide) ?_
  refine pX7 X hP hS 0 (by decide) rfl wd_883 rfl rfl rfl rfl seX7_0 dX7_cell_2 (fun H1 lc2 kk3 ekk3 hP4 hS5 => ?_)
  have hf6 := lk_at ekk3 hf
  clear hf hP hS
  refine lv_aload_n hx hb dX7_cell_5 rfl (lv_at hl 0 rfl) ?_
  refine lv_iload_n hx hb dX7_cell_6 rfl (lv_at hl 1 rfl) ?_
  obtain ⟨x7, kk8, hg14, hf13⟩ := bd_some hf6
  refine x_ci (x_runV (As := [.int a1]) (rest := []) X hP4 hS5 246 (by decide) cl_M rfl (tX7_isCell l X.2.2.2.2.2.2.1  hg14) mi_X7_202 rfl hl.1 rfl (Nat.le_of_ble_eq_true rfl) dX7_cell_7 ⟨Nat.le_of_ble_eq_true rfl, Nat.le_of_ble_eq_true rfl⟩ ⟨Nat.zero_le _, Nat.zero_le _⟩) hS5 (fun H9 lc10 hP11 hS12 => ?_)
  clear hf6 hP4 hS5 hg14
  refine lv_if_eq (tgt := 25) hx hb dX7_cell_10 (by decide) (fun c15 => ?_) (fun c15 => ?_)
  · have hf16 := if_at_t c15 hf13
    clear hf13
    refine lv_ldc (v := -1000001) hx hb X.2.2.2.1 (X.2.2.2.2.1 _ wd_969) dX7_cell_25 ?_
    obtain ⟨rfl, rfl⟩ := ret_inj hf16
    exact x_iret X hr hlocks hP11 hS12 dX7_cell_27
  · have hf17 := if_at_f c15 hf13
    clear hf13
    refine lv_iload_n hx hb dX7_cell_13 rfl (lv_at hl 2 rfl) ?_
    refine lv_i2l hx hb dX7_cell_14 rfl ?_
    refine lv_lconst (v := 0) hx hb dX7_cell_15 (by decide) ?_
    refine lv_ldc2 (v := 2) hx hb X.2.2.2.1 (X.2.2.2.2.1 _ wd_968) dX7_cell_16 ?_
    obtain ⟨x18, kk19, hg25, hf24⟩ := bd_some hf17
    refine x_ci (x_runS (As := [.long a2.toInt64, .long (0 : Int64), .long (2 : Int64)]) (rest := []) X hP11 hS12 (tX7_in l X.2.2.2.2.2.2.1  hg25) mi_X7_57 rfl hl.1 rfl (Nat.le_of_ble_eq_true rfl) dX7_cell_19 ⟨Nat.le_of_ble_eq_true rfl, Nat.le_of_ble_eq_true rfl⟩ ⟨Nat.zero_le _, Nat.zero_le _⟩) hS12 (fun H20 lc21 hP22 hS23 => ?_)
    clear hf17 hP11 hS12 hg25
    refine lv_if_ne (tgt := 28) hx hb dX7_cell_22 (by decide) (fun c26 => ?_) (fun c26 => ?_)
    · have hf27 := if_at_f c26 hf24
      clear hf24
      refine lv_iconst (v := 0) hx hb dX7_cell_28 (by decide) ?_
      refine lv_istore_n (lv' := [(3, .int (0 : Int32)), (0, .ref (g.2.2 246)), (1, .int a1), (2, .int a2)]) hx hb dX7_cell_29 rfl hl (by decide) rfl (fun ls28 hl29 => ?_)
      clear hl
      refine lv_iconst (v := 0) hx hb dX7_cell_30 (by decide) ?_
      refine lv_istore (lv' := [(4, .int (0 : Int32)), (3, .int (0 : Int32)), (0, .ref (g.2.2 246)), (1, .int a1), (2, .int a2)]) hx hb dX7_cell_31 hl29 (by decide) rfl (fun ls30 hl31 => ?_)
      clear hl29
      refine wX7_cell_L33 X hr hlocks  ?_ 4096 (0 : Int32) (0 : Int32) kk19 _ _ _  hf27 hP22 hS23 (lv_sub hl31 [2, 3, 4, 1, 0] rfl)
      · intro x74 kk75 H76 lc77 ls78  hf82 hP79 hS80 hl81
        refine lv_iload_n hx hb dX7_cell_77 rfl (lv_at hl81 2 rfl) ?_
        refine lv_if_ne (tgt := 92) hx hb dX7_cell_78 (by decide) (fun c83 => ?_) (fun c83 => ?_)
        · have hf84 := if_at_f c83 hf82
          clear hf82
          refine lv_iload_n hx hb dX7_cell_92 rfl (lv_at hl81 2 rfl) ?_
          refine lv_iconst (v := 1) hx hb dX7_cell_93 (by decide) ?_
          refine lv_icmp_ne (tgt := 101) hx hb dX7_cell_94 (by decide) (fun c85 => ?_) (fun c85 => ?_)
          · have hf86 := if_at_f c85 hf84
            clear hf84
            refine lv_aload_n hx hb dX7_cell_101 rfl (lv_at hl81 0 rfl) ?_
            refine gX7 X hP79 5 (v := .ref (g.2.2 250)) rfl (by decide) rfl wd_888 dX7_cell_102 ?_
            refine lv_iconst (v := 4) hx hb dX7_cell_105 (by decide) ?_
            obtain ⟨hc87, hf88⟩ := chk_some hf86
            refine x_ildM X hP79 250 rfl hc87 dX7_cell_106 ?_
            refine lv_iload_n hx hb dX7_cell_107 rfl (lv_at hl81 1 rfl) ?_
            refine lv_icmp_ne (tgt := 115) hx hb dX7_cell_108 (by decide) (fun c89 => ?_) (fun c89 => ?_)
            · have hf90 := if_at_f c89 hf88
              clear hf88
              refine lv_iconst (v := 0) hx hb dX7_cell_115 (by decide) ?_
              obtain ⟨rfl, rfl⟩ := ret_inj hf90
              exact x_iret X hr hlocks hP79 hS80 dX7_cell_116
            · have hf91 := if_at_t c89 hf88
              clear hf88
              refine lv_iconst (v := 1) hx hb dX7_cell_111 (by decide) ?_
              refine lv_goto (tgt := 116) hx hb dX7_cell_112 (by decide) ?_
              obtain ⟨rfl, rfl⟩ := ret_inj hf91
              exact x_iret X hr hlocks hP79 hS80 dX7_cell_116
          · have hf92 := if_at_t c85 hf84
            clear hf84
            refine lv_iload_n hx hb dX7_cell_97 rfl (lv_at hl81 3 rfl) ?_
            refine lv_goto (tgt := 116) hx hb dX7_cell_98 (by decide) ?_
            obtain ⟨rfl, rfl⟩ := ret_inj hf92
            exact x_iret X hr hlocks hP79 hS80 dX7_cell_116
        · have hf93 := if_at_t c83 hf82
          clear hf82
          refine lv_aload_n hx hb dX7_cell_81 rfl (lv_at hl81 0 rfl) ?_
          refine gX7 X hP79 5 (v := .ref (g.2.2 250)) rfl (by decide) rfl wd_888 dX7_cell_82 ?_
          refine lv_iload_n hx hb dX7_cell_85 rfl (lv_at hl81 1 rfl) ?_
          obtain ⟨x94, kk95, hg101, hf100⟩ := bd_some hf93
          refine x_ci (x_runS (As := [.ref (g.2.2 250), .int a1]) (rest := []) X hP79 hS80 (tX7_overOf l X.2.2.2.2.2.2.1 (rfl : isMA 250 = true) hg101) mi_X7_226 rfl hl81.1 rfl (Nat.le_of_ble_eq_true rfl) dX7_cell_86 ⟨Nat.le_of_ble_eq_true rfl, Nat.le_of_ble_eq_true rfl⟩ ⟨Nat.zero_le _, Nat.zero_le _⟩) hS80 (fun H96 lc97 hP98 hS99 => ?_)
          clear hf93 hP79 hS80 hg101
          refine lv_goto (tgt := 116) hx hb dX7_cell_89 (by decide) ?_
          obtain ⟨rfl, rfl⟩ := ret_inj hf100
          exact x_iret X hr hlocks hP98 hS99 dX7_cell_116
    · have hf102 := if_at_t c26 hf24
      clear hf24
      refine lv_ldc (v := -1000001) hx hb X.2.2.2.1 (X.2.2.2.2.1 _ wd_969) dX7_cell_25 ?_
      obtain ⟨rfl, rfl⟩ := ret_inj hf102
      exact x_iret X hr hlocks hP22 hS23 dX7_cell_27
set_option maxRecDepth 100000 in
set_option maxHeartbeats 4000000 in
theorem tX7_stand (l : Launch) {g : Gx} (hI : InjG g) {h k k1 : Hp} {a1 : Int32} {r : Int32}   (hf : fX7_stand a1 k = some (r, k1)) : CI l yX7_stand cX7_stand 2 (some .int) 3 g [.ref (g.2.2 246), .int a1] h k h k1 r := by
  refine Met.ofW (cc := cX7_stand) (maxL := 2) (ret := (some .int)) (by decide) rfl ?_
  intro p en s m args below meth c s₁ B hml hv
  obtain ⟨rfl, hSK, hSH, hP⟩ := hv
  have X : Cx p s m _ c cX7_stand 2 RX7 g := ⟨B.exec, B.bytes, hml, findClass_of_methodNamed B.named, fun w hw => atoms_spec (ws := wsy yX7_stand cX7_stand 2 (some .int)) B.pre w (List.mem_cons_of_mem _ hw), hSK, hI, hSH⟩
  have hr := B.returns
  have hlocks := B.notSynchronized
  have hx := X.1
  have hb := X.2.1
  have hS : va_S (inA g) s.heap s.heap [] := va_S.rf
  clear hSK hSH hml B
  have hl := lv_entry ([.ref (g.2.2 246), .int a1]) (n := 2) (Nat.le_of_ble_eq_true rfl)
  rw [lg_entry_eq]
  generalize (lg_sl ([.ref (g.2.2 246), .int a1]) ++ List.replicate (2 - (lg_sl ([.ref (g.2.2 246), .int a1])).length) Slot.unset).toArray = ls at hl ⊢
  have hl : lv_has ls 2 [(0, .ref (g.2.2 246)), (1, .int a1)] := hl
  generalize ([.ref (g.2.2 246), .int a1] : List Value).toArray = args at X ⊢
  show W p l en (rmD 3) s m args below meth c s.heap [] 0 0 (MQ below (QI g h k1 r) args s 0 0 (inA g)) (F0 m 0 ls [])
  unfold fX7_stand at hf
  refine lv_aload_n hx hb dX7_stand_0 rfl (lv_at hl 0 rfl) ?_
  refine lv_iconst (v := 0) hx hb dX7_stand_1 (by decide) ?_
  refine pX7 X hP hS 0 (by decide) rfl wd_883 rfl rfl rfl rfl seX7_0 dX7_stand_2 (fun H1 lc2 kk3 ekk3 hP4 hS5 => ?_)
  have hf6 := lk_at ekk3 hf
  clear hf hP hS
  refine lv_aload_n hx hb dX7_stand_5 rfl (lv_at hl 0 rfl) ?_
  obtain ⟨x7, kk8, hg14, hf13⟩ := bd_some hf6
  refine x_ci (x_runV (As := []) (rest := []) X hP4 hS5 246 (by decide) cl_M rfl (tX7_isThere l X.2.2.2.2.2.2.1  hg14) mi_X7_187 rfl hl.1 rfl (Nat.le_of_ble_eq_true rfl) dX7_stand_6 ⟨Nat.le_of_ble_eq_true rfl, Nat.le_of_ble_eq_true rfl⟩ ⟨Nat.zero_le _, Nat.zero_le _⟩) hS5 (fun H9 lc10 hP11 hS12 => ?_)
  clear hf6 hP4 hS5 hg14
  refine lv_if_ne (tgt := 15) hx hb dX7_stand_9 (by decide) (fun c15 => ?_) (fun c15 => ?_)
  · have hf16 := if_at_f c15 hf13
    clear hf13
    refine lv_iload_n hx hb dX7_stand_15 rfl (lv_at hl 1 rfl) ?_
    by_cases c17 : a1 = (0 : Int32)
    · have hf18 := if_at_t c17 hf16
      clear hf16
      refine lv_tableIn (tgt := 64) hx hb dX7_stand_16 (by rw [c17]; decide) (by rw [c17]; decide) (by rw [c17]; rfl) (by decide) ?_
      refine lv_aload_n hx hb dX7_stand_64 rfl (lv_at hl 0 rfl) ?_
      refine gX7 X hP11 5 (v := .ref (g.2.2 250)) rfl (by decide) rfl wd_888 dX7_stand_65 ?_
      refine lv_iconst (v := 2) hx hb dX7_stand_68 (by decide) ?_
      refine lv_iload_n hx hb dX7_stand_69 rfl (lv_at hl 1 rfl) ?_
      refine lv_iadd hx hb dX7_stand_70 ?_
      obtain ⟨hc20, hf21⟩ := chk_some hf18
      refine x_ildM X hP11 250 rfl hc20 dX7_stand_71 ?_
      obtain ⟨rfl, rfl⟩ := ret_inj hf21
      exact x_iret X hr hlocks hP11 hS12 dX7_stand_72
    · have hf19 := if_at_f c17 hf16
      clear hf16
      by_cases c22 : a1 = (1 : Int32)
      · have hf23 := if_at_t c22 hf19
        clear hf19
        refine lv_tableIn (tgt := 64) hx hb dX7_stand_16 (by rw [c22]; decide) (by rw [c22]; decide) (by rw [c22]; rfl) (by decide) ?_
        refine lv_aload_n hx hb dX7_stand_64 rfl (lv_at hl 0 rfl) ?_
        refine gX7 X hP11 5 (v := .ref (g.2.2 250)) rfl (by decide) rfl wd_888 dX7_stand_65 ?_
        refine lv_iconst (v := 2) hx hb dX7_stand_68 (by decide) ?_
        refine lv_iload_n hx hb dX7_stand_69 rfl (lv_at hl 1 rfl) ?_
        refine lv_iadd hx hb dX7_stand_70 ?_
        obtain ⟨hc25, hf26⟩ := chk_some hf23
        refine x_ildM X hP11 250 rfl hc25 dX7_stand_71 ?_
        obtain ⟨rfl, rfl⟩ := ret_inj hf26
        exact x_iret X hr hlocks hP11 hS12 dX7_stand_72
      · have hf24 := if_at_f c22 hf19
        clear hf19
        by_cases c27 : a1 = (2 : Int32)
        · have hf28 := if_at_t c27 hf24
          clear hf24
          refine lv_tableIn (tgt := 64) hx hb dX7_stand_16 (by rw [c27]; decide) (by rw [c27]; decide) (by rw [c27]; rfl) (by decide) ?_
          refine lv_aload_n hx hb dX7_stand_64 rfl (lv_at hl 0 rfl) ?_
          refine gX7 X hP11 5 (v := .ref (g.2.2 250)) rfl (by decide) rfl wd_888 dX7_stand_65 ?_
          refine lv_iconst (v := 2) hx hb dX7_stand_68 (by decide) ?_
          refine lv_iload_n hx hb dX7_stand_69 rfl (lv_at hl 1 rfl) ?_
          refine lv_iadd hx hb dX7_stand_70 ?_
          obtain ⟨hc30, hf31⟩ := chk_some hf28
          refine x_ildM X hP11 250 rfl hc30 dX7_stand_71 ?_
          obtain ⟨rfl, rfl⟩ := ret_inj hf31
          exact x_iret X hr hlocks hP11 hS12 dX7_stand_72
        · have hf29 := if_at_f c27 hf24
          clear hf24
          by_cases c32 : a1 = (3 : Int32)
          · have hf33 := if_at_t c32 hf29
            clear hf29
            refine lv_tableIn (tgt := 64) hx hb dX7_stand_16 (by rw [c32]; decide) (by rw [c32]; decide) (by rw [c32]; rfl) (by decide) ?_
            refine lv_aload_n hx hb dX7_stand_64 rfl (lv_at hl 0 rfl) ?_
            refine gX7 X hP11 5 (v := .ref (g.2.2 250)) rfl (by decide) rfl wd_888 dX7_stand_65 ?_
            refine lv_iconst (v := 2) hx hb dX7_stand_68 (by decide) ?_
            refine lv_iload_n hx hb dX7_stand_69 rfl (lv_at hl 1 rfl) ?_
            refine lv_iadd hx hb dX7_stand_70 ?_
            obtain ⟨hc35, hf36⟩ := chk_some hf33
            refine x_ildM X hP11 250 rfl hc35 dX7_stand_71 ?_
            obtain ⟨rfl, rfl⟩ := ret_inj hf36
            exact x_iret X hr hlocks hP11 hS12 dX7_stand_72
          · have hf34 := if_at_f c32 hf29
            clear hf29
            by_cases c37 : a1 = (4 : Int32)
            · have hf38 := if_at_t c37 hf34
              clear hf34
              refine lv_tableIn (tgt := 73) hx hb dX7_stand_16 (by rw [c37]; decide) (by rw [c37]; decide) (by rw [c37]; rfl) (by decide) ?_
              refine lv_aload_n hx hb dX7_stand_73 rfl (lv_at hl 0 rfl) ?_
              refine gX7 X hP11 5 (v := .ref (g.2.2 250)) rfl (by decide) rfl wd_888 dX7_stand_74 ?_
              obtain ⟨x40, kk41, hg47, hf46⟩ := bd_some hf38
              refine x_ci (x_runS (As := [.ref (g.2.2 250)]) (rest := []) X hP11 hS12 (tX7_ins l X.2.2.2.2.2.2.1 (rfl : isMA 250 = true) hg47) mi_X7_220 rfl hl.1 rfl (Nat.le_of_ble_eq_true rfl) dX7_stand_77 ⟨Nat.le_of_ble_eq_true rfl, Nat.le_of_ble_eq_true rfl⟩ ⟨Nat.zero_le _, Nat.zero_le _⟩) hS12 (fun H42 lc43 hP44 hS45 => ?_)
              clear hf38 hP11 hS12 hg47
              obtain ⟨rfl, rfl⟩ := ret_inj hf46
              exact x_iret X hr hlocks hP44 hS45 dX7_stand_80
            · have hf39 := if_at_f c37 hf34
              clear hf34
              by_cases c48 : a1 = (5 : Int32)
              · have hf49 := if_at_t c48 hf39
                clear hf39
                refine lv_tableIn (tgt := 81) hx hb dX7_stand_16 (by rw [c48]; decide) (by rw [c48]; decide) (by rw [c48]; rfl) (by decide) ?_
                refine lv_aload_n hx hb dX7_stand_81 rfl (lv_at hl 0 rfl) ?_
                refine gX7 X hP11 5 (v := .ref (g.2.2 250)) rfl (by decide) rfl wd_888 dX7_stand_82 ?_
                obtain ⟨x51, kk52, hg58, hf57⟩ := bd_some hf49
                refine x_ci (x_runS (As := [.ref (g.2.2 250)]) (rest := []) X hP11 hS12 (tX7_numbered l X.2.2.2.2.2.2.1 (rfl : isMA 250 = true) hg58) mi_X7_196 rfl hl.1 rfl (Nat.le_of_ble_eq_true rfl) dX7_stand_85 ⟨Nat.le_of_ble_eq_true rfl, Nat.le_of_ble_eq_true rfl⟩ ⟨Nat.zero_le _, Nat.zero_le _⟩) hS12 (fun H53 lc54 hP55 hS56 => ?_)
                clear hf49 hP11 hS12 hg58
                obtain ⟨rfl, rfl⟩ := ret_inj hf57
                exact x_iret X hr hlocks hP55 hS56 dX7_stand_88
              · have hf50 := if_at_f c48 hf39
                clear hf39
                by_cases c59 : a1 = (6 : Int32)
                · have hf60 := if_at_t c59 hf50
                  clear hf50
                  refine lv_tableIn (tgt := 89) hx hb dX7_stand_16 (by rw [c59]; decide) (by rw [c59]; decide) (by rw [c59]; rfl) (by decide) ?_
                  refine lv_aload_n hx hb dX7_stand_89 rfl (lv_at hl 0 rfl) ?_
                  refine gX7 X hP11 5 (v := .ref (g.2.2 250)) rfl (by decide) rfl wd_888 dX7_stand_90 ?_
                  refine lv_bipush (v := 7) hx hb dX7_stand_93 (by decide) ?_
                  obtain ⟨hc62, hf63⟩ := chk_some hf60
                  refine x_ildM X hP11 250 rfl hc62 dX7_stand_95 ?_
                  refine lv_iconst (v := 1) hx hb dX7_stand_96 (by decide) ?_
                  refine lv_iadd hx hb dX7_stand_97 ?_
                  obtain ⟨rfl, rfl⟩ := ret_inj hf63
                  exact x_iret X hr hlocks hP11 hS12 dX7_stand_98
                · have hf61 := if_at_f c59 hf50
                  clear hf50
                  by_cases c64 : a1 = (7 : Int32)
                  · have hf65 := if_at_t c64 hf61
                    clear hf61
                    refine lv_tableIn (tgt := 99) hx hb dX7_stand_16 (by rw [c64]; decide) (by rw [c64]; decide) (by rw [c64]; rfl) (by decide) ?_
                    refine lv_aload_n hx hb dX7_stand_99 rfl (lv_at hl 0 rfl) ?_
                    refine gX7 X hP11 5 (v := .ref (g.2.2 250)) rfl (by decide) rfl wd_888 dX7_stand_100 ?_
                    obtain ⟨x67, kk68, hg74, hf73⟩ := bd_some hf65
                    refine x_ci (x_runS (As := [.ref (g.2.2 250)]) (rest := []) X hP11 hS12 (tX7_windOf l X.2.2.2.2.2.2.1 (rfl : isMA 250 = true) hg74) mi_X7_167 rfl hl.1 rfl (Nat.le_of_ble_eq_true rfl) dX7_stand_103 ⟨Nat.le_of_ble_eq_true rfl, Nat.le_of_ble_eq_true rfl⟩ ⟨Nat.zero_le _, Nat.zero_le _⟩) hS12 (fun H69 lc70 hP71 hS72 => ?_)
                    clear hf65 hP11 hS12 hg74
                    obtain ⟨rfl, rfl⟩ := ret_inj hf73
                    exact x_iret X hr hlocks hP71 hS72 dX7_stand_106
                  · have hf66 := if_at_f c64 hf61
                    clear hf61
                    have q0 := sw_ne (j := 0) rfl c17
                    have q1 := sw_ne (j := 1) rfl c22
                    have q2 := sw_ne (j := 2) rfl c27
                    have q3 := sw_ne (j := 3) rfl c32
                    have q4 := sw_ne (j := 4) rfl c37
                    have q5 := sw_ne (j := 5) rfl c48
                    have q6 := sw_ne (j := 6) rfl c59
                    have q7 := sw_ne (j := 7) rfl c64
                    refine lv_tableOut (tgt := 107) hx hb dX7_stand_16 (by omega) (by decide) ?_
                    clear q0 q1 q2 q3 q4 q5 q6 q7
                    refine lv_ldc (v := -1000001) hx hb X.2.2.2.1 (X.2.2.2.2.1 _ wd_969) dX7_stand_107 ?_
                    obtain ⟨rfl, rfl⟩ := ret_inj hf66
                    exact x_iret X hr hlocks hP11 hS12 dX7_stand_109
  · have hf75 := if_at_t c15 hf13
    clear hf13
    refine lv_ldc (v := -1000002) hx hb X.2.2.2.1 (X.2.2.2.2.1 _ wd_1062) dX7_stand_12 ?_
    obtain ⟨rfl, rfl⟩ := ret_inj hf75
    exact x_iret X hr hlocks hP11 hS12 dX7_stand_14
set_option maxRecDepth 100000 in
set_option maxHeartbeats 4000000 in
theorem tX7_ahead (l : Launch) {g : Gx} (hI : InjG g) {h k k1 : Hp} {a1 : Int32} {a2 : Int32} {a3 : Int32} {r : Int32}   (hf : fX7_ahead a1 a2 a3 k = some (r, k1)) : CI l yX7_ahead cX7_ahead 4 (some .int) 5 g [.ref (g.2.2 246), .int a1, .int a2, .int a3] h k h k1 r := by
  refine Met.ofW (cc := cX7_ahead) (maxL := 4) (ret := (some .int)) (by decide) rfl ?_
  intro p en s m args below meth c s₁ B hml hv
  obtain ⟨rfl, hSK, hSH, hP⟩ := hv
  have X : Cx p s m _ c cX7_ahead 4 RX7 g := ⟨B.exec, B.bytes, hml, findClass_of_methodNamed B.named, fun w hw => atoms_spec (ws := wsy yX7_ahead cX7_ahead 4 (some .int)) B.pre w (List.mem_cons_of_mem _ hw), hSK, hI, hSH⟩
  have hr := B.returns
  have hlocks := B.notSynchronized
  have hx := X.1
  have hb := X.2.1
  have hS : va_S (inA g) s.heap s.heap [] := va_S.rf
  clear hSK hSH hml B
  have hl := lv_entry ([.ref (g.2.2 246), .int a1, .int a2, .int a3]) (n := 4) (Nat.le_of_ble_eq_true rfl)
  rw [lg_entry_eq]
  generalize (lg_sl ([.ref (g.2.2 246), .int a1, .int a2, .int a3]) ++ List.replicate (4 - (lg_sl ([.ref (g.2.2 246), .int a1, .int a2, .int a3])).length) Slot.unset).toArray = ls at hl ⊢
  have hl : lv_has ls 4 [(0, .ref (g.2.2 246)), (1, .int a1), (2, .int a2), (3, .int a3)] := hl
  generalize ([.ref (g.2.2 246), .int a1, .int a2, .int a3] : List Value).toArray = args at X ⊢
  show W p l en (rmD 5) s m args below meth c s.heap [] 0 0 (MQ below (QI g h k1 r) args s 0 0 (inA g)) (F0 m 0 ls [])
  unfold fX7_ahead at hf
  refine lv_aload_n hx hb dX7_ahead_0 rfl (lv_at hl 0 rfl) ?_
  refine lv_iconst (v := 0) hx hb dX7_ahead_1 (by decide) ?_
  refine pX7 X hP hS 0 (by decide) rfl wd_883 rfl rfl rfl rfl seX7_0 dX7_ahead_2 (fun H1 lc2 kk3 ekk3 hP4 hS5 => ?_)
  have hf6 := lk_at ekk3 hf
  clear hf hP hS
  refine lv_aload_n hx hb dX7_ahead_5 rfl (lv_at hl 0 rfl) ?_
  refine lv_iload_n hx hb dX7_ahead_6 rfl (lv_at hl 1 rfl) ?_
  obtain ⟨x7, kk8, hg14, hf13⟩ := bd_some hf6
  refine x_ci (x_runV (As := [.int a1]) (rest := []) X hP4 hS5 246 (by decide) cl_M rfl (tX7_isSheet l X.2.2.2.2.2.2.1  hg14) mi_X7_212 rfl hl.1 rfl (Nat.le_of_ble_eq_true rfl) dX7_ahead_7 ⟨Nat.le_of_ble_eq_true rfl, Nat.le_of_ble_eq_true rfl⟩ ⟨Nat.zero_le _, Nat.zero_le _⟩) hS5 (fun H9 lc10 hP11 hS12 => ?_)
  clear hf6 hP4 hS5 hg14
  refine lv_if_eq (tgt := 37) hx hb dX7_ahead_10 (by decide) (fun c15 => ?_) (fun c15 => ?_)
  · have hf16 := if_at_t c15 hf13
    clear hf13
    refine lv_ldc (v := -1000001) hx hb X.2.2.2.1 (X.2.2.2.2.1 _ wd_969) dX7_ahead_37 ?_
    obtain ⟨rfl, rfl⟩ := ret_inj hf16
    exact x_iret X hr hlocks hP11 hS12 dX7_ahead_39
  · have hf17 := if_at_f c15 hf13
    clear hf13
    refine lv_iload_n hx hb dX7_ahead_13 rfl (lv_at hl 2 rfl) ?_
    refine lv_i2l hx hb dX7_ahead_14 rfl ?_
    refine lv_lconst (v := 0) hx hb dX7_ahead_15 (by decide) ?_
    refine lv_ldc2 (v := 60) hx hb X.2.2.2.1 (X.2.2.2.2.1 _ wd_1164) dX7_ahead_16 ?_
    obtain ⟨x18, kk19, hg25, hf24⟩ := bd_some hf17
    refine x_ci (x_runS (As := [.long a2.toInt64, .long (0 : Int64), .long (60 : Int64)]) (rest := []) X hP11 hS12 (tX7_in l X.2.2.2.2.2.2.1  hg25) mi_X7_57 rfl hl.1 rfl (Nat.le_of_ble_eq_true rfl) dX7_ahead_19 ⟨Nat.le_of_ble_eq_true rfl, Nat.le_of_ble_eq_true rfl⟩ ⟨Nat.zero_le _, Nat.zero_le _⟩) hS12 (fun H20 lc21 hP22 hS23 => ?_)
    clear hf17 hP11 hS12 hg25
    refine lv_if_eq (tgt := 37) hx hb dX7_ahead_22 (by decide) (fun c26 => ?_) (fun c26 => ?_)
    · have hf27 := if_at_t c26 hf24
      clear hf24
      refine lv_ldc (v := -1000001) hx hb X.2.2.2.1 (X.2.2.2.2.1 _ wd_969) dX7_ahead_37 ?_
      obtain ⟨rfl, rfl⟩ := ret_inj hf27
      exact x_iret X hr hlocks hP22 hS23 dX7_ahead_39
    · have hf28 := if_at_f c26 hf24
      clear hf24
      refine lv_iload_n hx hb dX7_ahead_25 rfl (lv_at hl 3 rfl) ?_
      refine lv_i2l hx hb dX7_ahead_26 rfl ?_
      refine lv_lconst (v := 0) hx hb dX7_ahead_27 (by decide) ?_
      refine lv_ldc2 (v := 2) hx hb X.2.2.2.1 (X.2.2.2.2.1 _ wd_968) dX7_ahead_28 ?_
      obtain ⟨x29, kk30, hg36, hf35⟩ := bd_some hf28
      refine x_ci (x_runS (As := [.long a3.toInt64, .long (0 : Int64), .long (2 : Int64)]) (rest := []) X hP22 hS23 (tX7_in l X.2.2.2.2.2.2.1  hg36) mi_X7_57 rfl hl.1 rfl (Nat.le_of_ble_eq_true rfl) dX7_ahead_31 ⟨Nat.le_of_ble_eq_true rfl, Nat.le_of_ble_eq_true rfl⟩ ⟨Nat.zero_le _, Nat.zero_le _⟩) hS23 (fun H31 lc32 hP33 hS34 => ?_)
      clear hf28 hP22 hS23 hg36
      refine lv_if_ne (tgt := 40) hx hb dX7_ahead_34 (by decide) (fun c37 => ?_) (fun c37 => ?_)
      · have hf38 := if_at_f c37 hf35
        clear hf35
        refine lv_aload_n hx hb dX7_ahead_40 rfl (lv_at hl 0 rfl) ?_
        obtain ⟨⟨⟩, kk40, hg46, hf45⟩ := bd_some hf38
        refine x_cv (x_runV (As := []) (rest := []) X hP33 hS34 246 (by decide) cl_M rfl (tX7_layThen l X.2.2.2.2.2.2.1  hg46) mi_X7_231 rfl hl.1 rfl (Nat.le_of_ble_eq_true rfl) dX7_ahead_41 ⟨Nat.le_of_ble_eq_true rfl, Nat.le_of_ble_eq_true rfl⟩ ⟨Nat.zero_le _, Nat.zero_le _⟩) hS34 (fun H41 lc42 hP43 hS44 => ?_)
        clear hf38 hP33 hS34 hg46
        refine lv_aload_n hx hb dX7_ahead_44 rfl (lv_at hl 0 rfl) ?_
        refine gX7 X hP43 7 (v := .ref (g.2.2 252)) rfl (by decide) rfl wd_890 dX7_ahead_45 ?_
        refine lv_iload_n hx hb dX7_ahead_48 rfl (lv_at hl 2 rfl) ?_
        obtain ⟨⟨⟩, kk48, hg54, hf53⟩ := bd_some hf45
        refine x_cv (x_runS (As := [.ref (g.2.2 252), .int a2]) (rest := []) X hP43 hS44 (tX7_hoursOf l X.2.2.2.2.2.2.1 (rfl : isMA 252 = true) hg54) mi_X7_234 rfl hl.1 rfl (Nat.le_of_ble_eq_true rfl) dX7_ahead_49 ⟨Nat.le_of_ble_eq_true rfl, Nat.le_of_ble_eq_true rfl⟩ ⟨Nat.zero_le _, Nat.zero_le _⟩) hS44 (fun H49 lc50 hP51 hS52 => ?_)
        clear hf45 hP43 hS44 hg54
        refine lv_aload_n hx hb dX7_ahead_52 rfl (lv_at hl 0 rfl) ?_
        refine gX7 X hP51 7 (v := .ref (g.2.2 252)) rfl (by decide) rfl wd_890 dX7_ahead_53 ?_
        refine lv_iload_n hx hb dX7_ahead_56 rfl (lv_at hl 1 rfl) ?_
        refine lv_iload_n hx hb dX7_ahead_57 rfl (lv_at hl 3 rfl) ?_
        obtain ⟨x55, kk56, hg62, hf61⟩ := bd_some hf53
        refine x_ci (x_runS (As := [.ref (g.2.2 252), .int a1, .int a3]) (rest := []) X hP51 hS52 (tX7_told l X.2.2.2.2.2.2.1 (rfl : isMA 252 = true) hg62) mi_X7_223 rfl hl.1 rfl (Nat.le_of_ble_eq_true rfl) dX7_ahead_58 ⟨Nat.le_of_ble_eq_true rfl, Nat.le_of_ble_eq_true rfl⟩ ⟨Nat.zero_le _, Nat.zero_le _⟩) hS52 (fun H57 lc58 hP59 hS60 => ?_)
        clear hf53 hP51 hS52 hg62
        obtain ⟨rfl, rfl⟩ := ret_inj hf61
        exact x_iret X hr hlocks hP59 hS60 dX7_ahead_61
      · have hf63 := if_at_t c37 hf35
        clear hf35
        refine lv_ldc (v := -1000001) hx hb X.2.2.2.1 (X.2.2.2.2.1 _ wd_969) dX7_ahead_37 ?_
        obtain ⟨rfl, rfl⟩ := ret_inj hf63
        exact x_iret X hr hlocks hP33 hS34 dX7_ahead_39
set_option maxRecDepth 100000 in
set_option maxHeartbeats 4000000 in
theorem tX7_over (l : Launch) {g : Gx} (hI : InjG g) {h k k1 : Hp} {a1 : Int32} {a2 : Int32} {r : Int32}   (hf : fX7_over a1 a2 k = some (r, k1)) : CI l yX7_over cX7_over 3 (some .int) 5 g [.ref (g.2.2 246), .int a1, .int a2] h k h k1 r := by
  refine Met.ofW (cc := cX7_over) (maxL := 3) (ret := (some .int)) (by decide) rfl ?_
  intro p en s m args below meth c s₁ B hml hv
  obtain ⟨rfl, hSK, hSH, hP⟩ := hv
  have X : Cx p s m _ c cX7_over 3 RX7 g := ⟨B.exec, B.bytes, hml, findClass_of_methodNamed B.named, fun w hw => atoms_spec (ws := wsy yX7_over cX7_over 3 (some .int)) B.pre w (List.mem_cons_of_mem _ hw), hSK, hI, hSH⟩
  have hr := B.returns
  have hlocks := B.notSynchronized
  have hx := X.1
  have hb := X.2.1
  have hS : va_S (inA g) s.heap s.heap [] := va_S.rf
  clear hSK hSH hml B
  have hl := lv_entry ([.ref (g.2.2 246), .int a1, .int a2]) (n := 3) (Nat.le_of_ble_eq_true rfl)
  rw [lg_entry_eq]
  generalize (lg_sl ([.ref (g.2.2 246), .int a1, .int a2]) ++ List.replicate (3 - (lg_sl ([.ref (g.2.2 246), .int a1, .int a2])).length) Slot.unset).toArray = ls at hl ⊢
  have hl : lv_has ls 3 [(0, .ref (g.2.2 246)), (1, .int a1), (2, .int a2)] := hl
  generalize ([.ref (g.2.2 246), .int a1, .int a2] : List Value).toArray = args at X ⊢
  show W p l en (rmD 5) s m args below meth c s.heap [] 0 0 (MQ below (QI g h k1 r) args s 0 0 (inA g)) (F0 m 0 ls [])
  unfold fX7_over at hf
  refine lv_aload_n hx hb dX7_over_0 rfl (lv_at hl 0 rfl) ?_
  refine lv_iconst (v := 0) hx hb dX7_over_1 (by decide) ?_
  refine pX7 X hP hS 0 (by decide) rfl wd_883 rfl rfl rfl rfl seX7_0 dX7_over_2 (fun H1 lc2 kk3 ekk3 hP4 hS5 => ?_)
  have hf6 := lk_at ekk3 hf
  clear hf hP hS
  refine lv_aload_n hx hb dX7_over_5 rfl (lv_at hl 0 rfl) ?_
  refine lv_iload_n hx hb dX7_over_6 rfl (lv_at hl 1 rfl) ?_
  obtain ⟨x7, kk8, hg14, hf13⟩ := bd_some hf6
  refine x_ci (x_runV (As := [.int a1]) (rest := []) X hP4 hS5 246 (by decide) cl_M rfl (tX7_isCell l X.2.2.2.2.2.2.1  hg14) mi_X7_202 rfl hl.1 rfl (Nat.le_of_ble_eq_true rfl) dX7_over_7 ⟨Nat.le_of_ble_eq_true rfl, Nat.le_of_ble_eq_true rfl⟩ ⟨Nat.zero_le _, Nat.zero_le _⟩) hS5 (fun H9 lc10 hP11 hS12 => ?_)
  clear hf6 hP4 hS5 hg14
  refine lv_if_eq (tgt := 25) hx hb dX7_over_10 (by decide) (fun c15 => ?_) (fun c15 => ?_)
  · have hf16 := if_at_t c15 hf13
    clear hf13
    refine lv_ldc (v := -1000001) hx hb X.2.2.2.1 (X.2.2.2.2.1 _ wd_969) dX7_over_25 ?_
    obtain ⟨rfl, rfl⟩ := ret_inj hf16
    exact x_iret X hr hlocks hP11 hS12 dX7_over_27
  · have hf17 := if_at_f c15 hf13
    clear hf13
    refine lv_iload_n hx hb dX7_over_13 rfl (lv_at hl 2 rfl) ?_
    refine lv_i2l hx hb dX7_over_14 rfl ?_
    refine lv_lconst (v := 0) hx hb dX7_over_15 (by decide) ?_
    refine lv_ldc2 (v := 60) hx hb X.2.2.2.1 (X.2.2.2.2.1 _ wd_1164) dX7_over_16 ?_
    obtain ⟨x18, kk19, hg25, hf24⟩ := bd_some hf17
    refine x_ci (x_runS (As := [.long a2.toInt64, .long (0 : Int64), .long (60 : Int64)]) (rest := []) X hP11 hS12 (tX7_in l X.2.2.2.2.2.2.1  hg25) mi_X7_57 rfl hl.1 rfl (Nat.le_of_ble_eq_true rfl) dX7_over_19 ⟨Nat.le_of_ble_eq_true rfl, Nat.le_of_ble_eq_true rfl⟩ ⟨Nat.zero_le _, Nat.zero_le _⟩) hS12 (fun H20 lc21 hP22 hS23 => ?_)
    clear hf17 hP11 hS12 hg25
    refine lv_if_ne (tgt := 28) hx hb dX7_over_22 (by decide) (fun c26 => ?_) (fun c26 => ?_)
    · have hf27 := if_at_f c26 hf24
      clear hf24
      refine lv_aload_n hx hb dX7_over_28 rfl (lv_at hl 0 rfl) ?_
      obtain ⟨⟨⟩, kk29, hg35, hf34⟩ := bd_some hf27
      refine x_cv (x_runV (As := []) (rest := []) X hP22 hS23 246 (by decide) cl_M rfl (tX7_layThen l X.2.2.2.2.2.2.1  hg35) mi_X7_231 rfl hl.1 rfl (Nat.le_of_ble_eq_true rfl) dX7_over_29 ⟨Nat.le_of_ble_eq_true rfl, Nat.le_of_ble_eq_true rfl⟩ ⟨Nat.zero_le _, Nat.zero_le _⟩) hS23 (fun H30 lc31 hP32 hS33 => ?_)
      clear hf27 hP22 hS23 hg35
      refine lv_aload_n hx hb dX7_over_32 rfl (lv_at hl 0 rfl) ?_
      refine gX7 X hP32 7 (v := .ref (g.2.2 252)) rfl (by decide) rfl wd_890 dX7_over_33 ?_
      refine lv_iload_n hx hb dX7_over_36 rfl (lv_at hl 2 rfl) ?_
      obtain ⟨⟨⟩, kk37, hg43, hf42⟩ := bd_some hf34
      refine x_cv (x_runS (As := [.ref (g.2.2 252), .int a2]) (rest := []) X hP32 hS33 (tX7_hoursOf l X.2.2.2.2.2.2.1 (rfl : isMA 252 = true) hg43) mi_X7_234 rfl hl.1 rfl (Nat.le_of_ble_eq_true rfl) dX7_over_37 ⟨Nat.le_of_ble_eq_true rfl, Nat.le_of_ble_eq_true rfl⟩ ⟨Nat.zero_le _, Nat.zero_le _⟩) hS33 (fun H38 lc39 hP40 hS41 => ?_)
      clear hf34 hP32 hS33 hg43
      refine lv_aload_n hx hb dX7_over_40 rfl (lv_at hl 0 rfl) ?_
      refine gX7 X hP40 7 (v := .ref (g.2.2 252)) rfl (by decide) rfl wd_890 dX7_over_41 ?_
      refine lv_iload_n hx hb dX7_over_44 rfl (lv_at hl 1 rfl) ?_
      obtain ⟨x44, kk45, hg51, hf50⟩ := bd_some hf42
      refine x_ci (x_runS (As := [.ref (g.2.2 252), .int a1]) (rest := []) X hP40 hS41 (tX7_overOf l X.2.2.2.2.2.2.1 (rfl : isMA 252 = true) hg51) mi_X7_226 rfl hl.1 rfl (Nat.le_of_ble_eq_true rfl) dX7_over_45 ⟨Nat.le_of_ble_eq_true rfl, Nat.le_of_ble_eq_true rfl⟩ ⟨Nat.zero_le _, Nat.zero_le _⟩) hS41 (fun H46 lc47 hP48 hS49 => ?_)
      clear hf42 hP40 hS41 hg51
      obtain ⟨rfl, rfl⟩ := ret_inj hf50
      exact x_iret X hr hlocks hP48 hS49 dX7_over_48
    · have hf52 := if_at_t c26 hf24
      clear hf24
      refine lv_ldc (v := -1000001) hx hb X.2.2.2.1 (X.2.2.2.2.1 _ wd_969) dX7_over_25 ?_
      obtain ⟨rfl, rfl⟩ := ret_inj hf52
      exact x_iret X hr hlocks hP22 hS23 dX7_over_27
set_option maxRecDepth 100000 in
set_option maxHeartbeats 4000000 in
theorem wX7_when_L32 {p : Program} {l : Launch} {en : Env} {s : State} {m : MethodId} {args : Array Value} {below : List Frame} {meth : Method} {c : Code} {g : Gx} (X : Cx p s m args c cX7_when 4 RX7 g) (hr : meth.sig.returnType = (some .int)) (hlocks : meth.locks = false) {h k1 : Hp} {r : Int32} {v1 : Int32} {v2 : Int32}  
     :
    ∀ (n : Nat) (v3 : Int32) (k : Hp) (H : Heap) (locs : List Loc) (ls : Array Slot), fX7_when_L32 n v1 v2 v3 k = some (r, k1) → va_P g.1 vwCl (WW g h k) H → va_S (inA g) s.heap H locs → lv_has ls 4 [(0, .ref (g.2.2 246)), (1, .int v1), (2, .int v2), (3, .int v3)] → W p l en (rmD 4) s m args below meth c H locs 0 0 (MQ below (QI g h k1 r) args s 0 0 (inA g)) (F0 m 32 ls []) := by
  have hx := X.1
  have hb := X.2.1
  intro n
  induction n with
  | zero => intro v3 k H locs ls  hf; simp only [fX7_when_L32, reduceCtorEq] at hf
  | succ n ih =>
    intro v3 k H locs ls  hf hP hS hl
    rw [fX7_when_L32] at hf
    refine lv_iload_n hx hb dX7_when_32 rfl (lv_at hl 3 rfl) ?_
    refine lv_bipush (v := 60) hx hb dX7_when_33 (by decide) ?_
    refine lv_icmp_gt (tgt := 83) hx hb dX7_when_35 (by decide) (fun c38 => ?_) (fun c38 => ?_)
    · have hf39 := if_at_t c38 hf
      clear hf
      refine lv_ldc (v := -1000000) hx hb X.2.2.2.1 (X.2.2.2.2.1 _ wd_1009) dX7_when_83 ?_
      obtain ⟨rfl, rfl⟩ := ret_inj hf39
      exact x_iret X hr hlocks hP hS dX7_when_85
    · have hf40 := if_at_f c38 hf
      clear hf
      refine lv_iload_n hx hb dX7_when_38 rfl (lv_at hl 2 rfl) ?_
      obtain ⟨J70_41, eJ70_41, hf62⟩ := jp_at hf40
      clear hf40
      have hJ70_41 : ∀  (kk42 : Hp) (H43 : Heap) (lc44 : List Loc) (ls45 : Array Slot), J70_41  kk42 = some (r, k1) → va_P g.1 vwCl (WW g h kk42) H43 → va_S (inA g) s.heap H43 lc44 → lv_has ls45 4 [(0, .ref (g.2.2 246)), (1, .int v1), (2, .int v2), (3, .int v3)] → W p l en (rmD 4) s m args below meth c H43 lc44 0 0 (MQ below (QI g h k1 r) args s 0 0 (inA g)) (F0 m 70 ls45 []) := by
        intro  kk42 H43 lc44 ls45 hf49 hP46 hS47 hl48
        clear hf62 hP hS hl
        subst eJ70_41
        refine lv_aload_n hx hb dX7_when_70 rfl (lv_at hl48 0 rfl) ?_
        refine gX7 X hP46 7 (v := .ref (g.2.2 252)) rfl (by decide) rfl wd_890 dX7_when_71 ?_
        obtain ⟨⟨⟩, kk51, hg57, hf56⟩ := bd_some hf49
        refine x_cv (x_runS (As := [.ref (g.2.2 252)]) (rest := []) X hP46 hS47 (tX7_hourOf l X.2.2.2.2.2.2.1 (rfl : isMA 252 = true) hg57) mi_X7_183 rfl hl48.1 rfl (Nat.le_of_ble_eq_true rfl) dX7_when_74 ⟨Nat.le_of_ble_eq_true rfl, Nat.le_of_ble_eq_true rfl⟩ ⟨Nat.zero_le _, Nat.zero_le _⟩) hS47 (fun H52 lc53 hP54 hS55 => ?_)
        clear hf49 hP46 hS47 hg57
        obtain ⟨x58, ex58⟩ : ∃ q : Int32, q = v3 + (1 : Int32) := ⟨_, rfl⟩
        have hf59 := lk_at ex58 hf56
        clear hf56
        refine lv_iinc (v := x58) (lv' := [(3, .int x58), (0, .ref (g.2.2 246)), (1, .int v1), (2, .int v2)]) hx hb dX7_when_77 hl48 (k := 3) rfl (by rw [ex58]; rfl) (by decide) rfl (fun ls60 hl61 => ?_)
        clear hl48
        refine lv_goto (tgt := 32) hx hb dX7_when_80 (by decide) ?_
        exact ih x58 kk51  _ _ _ hf59 hP54 hS55 (lv_sub hl61 [1, 2, 3, 0] rfl)
      clear eJ70_41
      refine lv_if_ne (tgt := 56) hx hb dX7_when_39 (by decide) (fun c63 => ?_) (fun c63 => ?_)
      · have hf64 := if_at_f c63 hf62
        clear hf62
        refine lv_aload_n hx hb dX7_when_56 rfl (lv_at hl 0 rfl) ?_
        refine gX7 X hP 7 (v := .ref (g.2.2 252)) rfl (by decide) rfl wd_890 dX7_when_57 ?_
        refine lv_iload_n hx hb dX7_when_60 rfl (lv_at hl 1 rfl) ?_
        refine lv_iconst (v := 4) hx hb dX7_when_61 (by decide) ?_
        obtain ⟨x65, kk66, hg72, hf71⟩ := bd_some hf64
        refine x_ci (x_runS (As := [.ref (g.2.2 252), .int v1, .int (4 : Int32)]) (rest := []) X hP hS (tX7_of l X.2.2.2.2.2.2.1 (rfl : isMA 252 = true) hg72) mi_X7_152 rfl hl.1 rfl (Nat.le_of_ble_eq_true rfl) dX7_when_62 ⟨Nat.le_of_ble_eq_true rfl, Nat.le_of_ble_eq_true rfl⟩ ⟨Nat.zero_le _, Nat.zero_le _⟩) hS (fun H67 lc68 hP69 hS70 => ?_)
        clear hf64 hP hS hg72
        refine lv_if_le (tgt := 70) hx hb dX7_when_65 (by decide) (fun c73 => ?_) (fun c73 => ?_)
        · have hf74 := if_at_t c73 hf71
          clear hf71
          exact hJ70_41 kk66  _ _ _ hf74 hP69 hS70 (lv_sub hl [0, 1, 2, 3] rfl)
        · have hf75 := if_at_f c73 hf71
          clear hf71
          refine lv_iload_n hx hb dX7_when_68 rfl (lv_at hl 3 rfl) ?_
          obtain ⟨rfl, rfl⟩ := ret_inj hf75
          exact x_iret X hr hlocks hP69 hS70 dX7_when_69
      · have hf76 := if_at_t c63 hf62
        clear hf62
        refine lv_aload_n hx hb dX7_when_42 rfl (lv_at hl 0 rfl) ?_
        refine gX7 X hP 7 (v := .ref (g.2.2 252)) rfl (by decide) rfl wd_890 dX7_when_43 ?_
        refine lv_iload_n hx hb dX7_when_46 rfl (lv_at hl 1 rfl) ?_
        obtain ⟨x77, kk78, hg84, hf83⟩ := bd_some hf76
        refine x_ci (x_runS (As := [.ref (g.2.2 252), .int v1]) (rest := []) X hP hS (tX7_isIn l X.2.2.2.2.2.2.1 (rfl : isMA 252 = true) hg84) mi_X7_156 rfl hl.1 rfl (Nat.le_of_ble_eq_true rfl) dX7_when_47 ⟨Nat.le_of_ble_eq_true rfl, Nat.le_of_ble_eq_true rfl⟩ ⟨Nat.zero_le _, Nat.zero_le _⟩) hS (fun H79 lc80 hP81 hS82 => ?_)
        clear hf76 hP hS hg84
        refine lv_if_ne (tgt := 70) hx hb dX7_when_50 (by decide) (fun c85 => ?_) (fun c85 => ?_)
        · have hf86 := if_at_f c85 hf83
          clear hf83
          exact hJ70_41 kk78  _ _ _ hf86 hP81 hS82 (lv_sub hl [0, 1, 2, 3] rfl)
        · have hf87 := if_at_t c85 hf83
          clear hf83
          refine lv_goto (tgt := 68) hx hb dX7_when_53 (by decide) ?_
          refine lv_iload_n hx hb dX7_when_68 rfl (lv_at hl 3 rfl) ?_
          obtain ⟨rfl, rfl⟩ := ret_inj hf87
          exact x_iret X hr hlocks hP81 hS82 dX7_when_69
set_option maxRecDepth 100000 in
set_option maxHeartbeats 4000000 in
theorem tX7_when (l : Launch) {g : Gx} (hI : InjG g) {h k k1 : Hp} {a1 : Int32} {a2 : Int32} {r : Int32}   (hf : fX7_when a1 a2 k = some (r, k1)) : CI l yX7_when cX7_when 4 (some .int) 4 g [.ref (g.2.2 246), .int a1, .int a2] h k h k1 r := by
  refine Met.ofW (cc := cX7_when) (maxL := 4) (ret := (some .int)) (by decide) rfl ?_
  intro p en s m args below meth c s₁ B hml hv
  obtain ⟨rfl, hSK, hSH, hP⟩ := hv
  have X : Cx p s m _ c cX7_when 4 RX7 g := ⟨B.exec, B.bytes, hml, findClass_of_methodNamed B.named, fun w hw => atoms_spec (ws := wsy yX7_when cX7_when 4 (some .int)) B.pre w (List.mem_cons_of_mem _ hw), hSK, hI, hSH⟩
  have hr := B.returns
  have hlocks := B.notSynchronized
  have hx := X.1
  have hb := X.2.1
  have hS : va_S (inA g) s.heap s.heap [] := va_S.rf
  clear hSK hSH hml B
  have hl := lv_entry ([.ref (g.2.2 246), .int a1, .int a2]) (n := 4) (Nat.le_of_ble_eq_true rfl)
  rw [lg_entry_eq]
  generalize (lg_sl ([.ref (g.2.2 246), .int a1, .int a2]) ++ List.replicate (4 - (lg_sl ([.ref (g.2.2 246), .int a1, .int a2])).length) Slot.unset).toArray = ls at hl ⊢
  have hl : lv_has ls 4 [(0, .ref (g.2.2 246)), (1, .int a1), (2, .int a2)] := hl
  generalize ([.ref (g.2.2 246), .int a1, .int a2] : List Value).toArray = args at X ⊢
  show W p l en (rmD 4) s m args below meth c s.heap [] 0 0 (MQ below (QI g h k1 r) args s 0 0 (inA g)) (F0 m 0 ls [])
  unfold fX7_when at hf
  refine lv_aload_n hx hb dX7_when_0 rfl (lv_at hl 0 rfl) ?_
  refine lv_iconst (v := 0) hx hb dX7_when_1 (by decide) ?_
  refine pX7 X hP hS 0 (by decide) rfl wd_883 rfl rfl rfl rfl seX7_0 dX7_when_2 (fun H1 lc2 kk3 ekk3 hP4 hS5 => ?_)
  have hf6 := lk_at ekk3 hf
  clear hf hP hS
  refine lv_aload_n hx hb dX7_when_5 rfl (lv_at hl 0 rfl) ?_
  refine lv_iload_n hx hb dX7_when_6 rfl (lv_at hl 1 rfl) ?_
  obtain ⟨x7, kk8, hg14, hf13⟩ := bd_some hf6
  refine x_ci (x_runV (As := [.int a1]) (rest := []) X hP4 hS5 246 (by decide) cl_M rfl (tX7_isSheet l X.2.2.2.2.2.2.1  hg14) mi_X7_212 rfl hl.1 rfl (Nat.le_of_ble_eq_true rfl) dX7_when_7 ⟨Nat.le_of_ble_eq_true rfl, Nat.le_of_ble_eq_true rfl⟩ ⟨Nat.zero_le _, Nat.zero_le _⟩) hS5 (fun H9 lc10 hP11 hS12 => ?_)
  clear hf6 hP4 hS5 hg14
  refine lv_if_eq (tgt := 23) hx hb dX7_when_10 (by decide) (fun c15 => ?_) (fun c15 => ?_)
  · have hf16 := if_at_t c15 hf13
    clear hf13
    refine lv_ldc (v := -1000001) hx hb X.2.2.2.1 (X.2.2.2.2.1 _ wd_969) dX7_when_23 ?_
    obtain ⟨rfl, rfl⟩ := ret_inj hf16
    exact x_iret X hr hlocks hP11 hS12 dX7_when_25
  · have hf17 := if_at_f c15 hf13
    clear hf13
    refine lv_iload_n hx hb dX7_when_13 rfl (lv_at hl 2 rfl) ?_
    refine lv_i2l hx hb dX7_when_14 rfl ?_
    refine lv_lconst (v := 0) hx hb dX7_when_15 (by decide) ?_
    refine lv_lconst (v := 1) hx hb dX7_when_16 (by decide) ?_
    obtain ⟨x18, kk19, hg25, hf24⟩ := bd_some hf17
    refine x_ci (x_runS (As := [.long a2.toInt64, .long (0 : Int64), .long (1 : Int64)]) (rest := []) X hP11 hS12 (tX7_in l X.2.2.2.2.2.2.1  hg25) mi_X7_57 rfl hl.1 rfl (Nat.le_of_ble_eq_true rfl) dX7_when_17 ⟨Nat.le_of_ble_eq_true rfl, Nat.le_of_ble_eq_true rfl⟩ ⟨Nat.zero_le _, Nat.zero_le _⟩) hS12 (fun H20 lc21 hP22 hS23 => ?_)
    clear hf17 hP11 hS12 hg25
    refine lv_if_ne (tgt := 26) hx hb dX7_when_20 (by decide) (fun c26 => ?_) (fun c26 => ?_)
    · have hf27 := if_at_f c26 hf24
      clear hf24
      refine lv_aload_n hx hb dX7_when_26 rfl (lv_at hl 0 rfl) ?_
      obtain ⟨⟨⟩, kk29, hg35, hf34⟩ := bd_some hf27
      refine x_cv (x_runV (As := []) (rest := []) X hP22 hS23 246 (by decide) cl_M rfl (tX7_layThen l X.2.2.2.2.2.2.1  hg35) mi_X7_231 rfl hl.1 rfl (Nat.le_of_ble_eq_true rfl) dX7_when_27 ⟨Nat.le_of_ble_eq_true rfl, Nat.le_of_ble_eq_true rfl⟩ ⟨Nat.zero_le _, Nat.zero_le _⟩) hS23 (fun H30 lc31 hP32 hS33 => ?_)
      clear hf27 hP22 hS23 hg35
      refine lv_iconst (v := 0) hx hb dX7_when_30 (by decide) ?_
      refine lv_istore_n (lv' := [(3, .int (0 : Int32)), (0, .ref (g.2.2 246)), (1, .int a1), (2, .int a2)]) hx hb dX7_when_31 rfl hl (by decide) rfl (fun ls36 hl37 => ?_)
      clear hl
      refine wX7_when_L32 X hr hlocks   4096 (0 : Int32) kk29 _ _ _  hf34 hP32 hS33 (lv_sub hl37 [1, 2, 3, 0] rfl)
    · have hf88 := if_at_t c26 hf24
      clear hf24
      refine lv_ldc (v := -1000001) hx hb X.2.2.2.1 (X.2.2.2.2.1 _ wd_969) dX7_when_23 ?_
      obtain ⟨rfl, rfl⟩ := ret_inj hf88
      exact x_iret X hr hlocks hP22 hS23 dX7_when_25
set_option maxRecDepth 100000 in
set_option maxHeartbeats 4000000 in
theorem wX7_overlap_L57 {p : Program} {l : Launch} {en : Env} {s : State} {m : MethodId} {args : Array Value} {below : List Frame} {meth : Method} {c : Code} {g : Gx} (X : Cx p s m args c cX7_overlap 5 RX7 g) (hr : meth.sig.returnType = (some .int)) (hlocks : meth.locks = false) {h k1 : Hp} {r : Int32} {v1 : Int32} {v2 : Int32} {v3 : Int32}  {K111 : Hp → Option (Int32 × Hp)} {K89 : Int32 → Int32 → Int32 → Hp → Option (Int32 × Hp)}
    (hK111 : ∀  (k : Hp) (H : Heap) (locs : List Loc) (ls : Array Slot), K111  k = some (r, k1) → va_P g.1 vwCl (WW g h k) H → va_S (inA g) s.heap H locs → lv_has ls 5 [(0, .ref (g.2.2 246)), (1, .int v1), (2, .int v2), (3, .int v3)] → W p l en (rmD 4) s m args below meth c H locs 0 0 (MQ below (QI g h k1 r) args s 0 0 (inA g)) (F0 m 111 ls [])) (hK89 : ∀ (v2 : Int32) (v3 : Int32) (v4 : Int32) (k : Hp) (H : Heap) (locs : List Loc) (ls : Array Slot), K89 v2 v3 v4 k = some (r, k1) → va_P g.1 vwCl (WW g h k) H → va_S (inA g) s.heap H locs → lv_has ls 5 [(1, .int v1), (2, .int v2), (3, .int v3), (4, .int v4)] → W p l en (rmD 4) s m args below meth c H locs 0 0 (MQ below (QI g h k1 r) args s 0 0 (inA g)) (F0 m 89 ls [])) :
    ∀ (n : Nat) (v4 : Int32) (k : Hp) (H : Heap) (locs : List Loc) (ls : Array Slot), fX7_overlap_L57 K111 K89 n v1 v2 v3 v4 k = some (r, k1) → va_P g.1 vwCl (WW g h k) H → va_S (inA g) s.heap H locs → lv_has ls 5 [(0, .ref (g.2.2 246)), (1, .int v1), (2, .int v2), (3, .int v3), (4, .int v4)] → W p l en (rmD 4) s m args below meth c H locs 0 0 (MQ below (QI g h k1 r) args s 0 0 (inA g)) (F0 m 57 ls []) := by
  have hx := X.1
  have hb := X.2.1
  intro n
  induction n with
  | zero => intro v4 k H locs ls  hf; simp only [fX7_overlap_L57, reduceCtorEq] at hf
  | succ n ih =>
    intro v4 k H locs ls  hf hP hS hl
    rw [fX7_overlap_L57] at hf
    refine lv_iload hx hb dX7_overlap_57 (lv_at hl 4 rfl) ?_
    refine lv_aload_n hx hb dX7_overlap_59 rfl (lv_at hl 0 rfl) ?_
    refine gX7 X hP 5 (v := .ref (g.2.2 250)) rfl (by decide) rfl wd_888 dX7_overlap_60 ?_
    refine lv_iconst (v := 0) hx hb dX7_overlap_63 (by decide) ?_
    obtain ⟨hc51, hf52⟩ := chk_some hf
    refine x_ildM X hP 250 rfl hc51 dX7_overlap_64 ?_
    refine lv_icmp_ge (tgt := 111) hx hb dX7_overlap_65 (by decide) (fun c53 => ?_) (fun c53 => ?_)
    · have hf54 := if_at_t c53 hf52
      clear hf52
      exact hK111 k  _ _ _ hf54 hP hS (lv_sub hl [0, 1, 2, 3] rfl)
    · have hf55 := if_at_f c53 hf52
      clear hf52
      refine lv_aload_n hx hb dX7_overlap_68 rfl (lv_at hl 0 rfl) ?_
      refine gX7 X hP 7 (v := .ref (g.2.2 252)) rfl (by decide) rfl wd_890 dX7_overlap_69 ?_
      refine lv_iload_n hx hb dX7_overlap_72 rfl (lv_at hl 3 rfl) ?_
      obtain ⟨x56, kk57, hg63, hf62⟩ := bd_some hf55
      refine x_ci (x_runS (As := [.ref (g.2.2 252), .int v3]) (rest := []) X hP hS (tX7_liesOn l X.2.2.2.2.2.2.1 (rfl : isMA 252 = true) hg63) mi_X7_179 rfl hl.1 rfl (Nat.le_of_ble_eq_true rfl) dX7_overlap_73 ⟨Nat.le_of_ble_eq_true rfl, Nat.le_of_ble_eq_true rfl⟩ ⟨Nat.zero_le _, Nat.zero_le _⟩) hS (fun H58 lc59 hP60 hS61 => ?_)
      clear hf55 hP hS hg63
      refine lv_aload_n hx hb dX7_overlap_76 rfl (lv_at hl 0 rfl) ?_
      refine gX7 X hP60 7 (v := .ref (g.2.2 252)) rfl (by decide) rfl wd_890 dX7_overlap_77 ?_
      refine lv_iload hx hb dX7_overlap_80 (lv_at hl 4 rfl) ?_
      obtain ⟨x64, kk65, hg71, hf70⟩ := bd_some hf62
      refine x_ci (x_runS (As := [.ref (g.2.2 252), .int v4]) (rest := [.int x56]) X hP60 hS61 (tX7_liesOn l X.2.2.2.2.2.2.1 (rfl : isMA 252 = true) hg71) mi_X7_179 rfl hl.1 rfl (Nat.le_of_ble_eq_true rfl) dX7_overlap_82 ⟨Nat.le_of_ble_eq_true rfl, Nat.le_of_ble_eq_true rfl⟩ ⟨Nat.zero_le _, Nat.zero_le _⟩) hS61 (fun H66 lc67 hP68 hS69 => ?_)
      clear hf62 hP60 hS61 hg71
      refine lv_iand hx hb dX7_overlap_85 ?_
      refine lv_if_eq (tgt := 105) hx hb dX7_overlap_86 (by decide) (fun c72 => ?_) (fun c72 => ?_)
      · have hf73 := if_at_t c72 hf70
        clear hf70
        obtain ⟨x74, ex74⟩ : ∃ q : Int32, q = v4 + (1 : Int32) := ⟨_, rfl⟩
        have hf75 := lk_at ex74 hf73
        clear hf73
        refine lv_iinc (v := x74) (lv' := [(4, .int x74), (0, .ref (g.2.2 246)), (1, .int v1), (2, .int v2), (3, .int v3)]) hx hb dX7_overlap_105 hl (k := 4) rfl (by rw [ex74]; rfl) (by decide) rfl (fun ls76 hl77 => ?_)
        clear hl
        refine lv_goto (tgt := 57) hx hb dX7_overlap_108 (by decide) ?_
        exact ih x74 kk65  _ _ _ hf75 hP68 hS69 (lv_sub hl77 [1, 2, 3, 4, 0] rfl)
      · have hf78 := if_at_f c72 hf70
        clear hf70
        exact hK89 v2 v3 v4 kk65  _ _ _ hf78 hP68 hS69 (lv_sub hl [1, 2, 3, 4] rfl)
set_option maxRecDepth 100000 in
set_option maxHeartbeats 4000000 in
theorem wX7_overlap_L42 {p : Program} {l : Launch} {en : Env} {s : State} {m : MethodId} {args : Array Value} {below : List Frame} {meth : Method} {c : Code} {g : Gx} (X : Cx p s m args c cX7_overlap 5 RX7 g) (hr : meth.sig.returnType = (some .int)) (hlocks : meth.locks = false) {h k1 : Hp} {r : Int32} {v1 : Int32} {v2 : Int32}  {K117 : Hp → Option (Int32 × Hp)} {K89 : Int32 → Int32 → Int32 → Hp → Option (Int32 × Hp)}
    (hK117 : ∀  (k : Hp) (H : Heap) (locs : List Loc) (ls : Array Slot), K117  k = some (r, k1) → va_P g.1 vwCl (WW g h k) H → va_S (inA g) s.heap H locs → lv_has ls 5 [(0, .ref (g.2.2 246)), (1, .int v1), (2, .int v2)] → W p l en (rmD 4) s m args below meth c H locs 0 0 (MQ below (QI g h k1 r) args s 0 0 (inA g)) (F0 m 117 ls [])) (hK89 : ∀ (v2 : Int32) (v3 : Int32) (v4 : Int32) (k : Hp) (H : Heap) (locs : List Loc) (ls : Array Slot), K89 v2 v3 v4 k = some (r, k1) → va_P g.1 vwCl (WW g h k) H → va_S (inA g) s.heap H locs → lv_has ls 5 [(1, .int v1), (2, .int v2), (3, .int v3), (4, .int v4)] → W p l en (rmD 4) s m args below meth c H locs 0 0 (MQ below (QI g h k1 r) args s 0 0 (inA g)) (F0 m 89 ls [])) :
    ∀ (n : Nat) (v3 : Int32) (k : Hp) (H : Heap) (locs : List Loc) (ls : Array Slot), fX7_overlap_L42 K117 K89 n v1 v2 v3 k = some (r, k1) → va_P g.1 vwCl (WW g h k) H → va_S (inA g) s.heap H locs → lv_has ls 5 [(0, .ref (g.2.2 246)), (1, .int v1), (2, .int v2), (3, .int v3)] → W p l en (rmD 4) s m args below meth c H locs 0 0 (MQ below (QI g h k1 r) args s 0 0 (inA g)) (F0 m 42 ls []) := by
  have hx := X.1
  have hb := X.2.1
  intro n
  induction n with
  | zero => intro v3 k H locs ls  hf; simp only [fX7_overlap_L42, reduceCtorEq] at hf
  | succ n ih =>
    intro v3 k H locs ls  hf hP hS hl
    rw [fX7_overlap_L42] at hf
    refine lv_iload_n hx hb dX7_overlap_42 rfl (lv_at hl 3 rfl) ?_
    refine lv_aload_n hx hb dX7_overlap_43 rfl (lv_at hl 0 rfl) ?_
    refine gX7 X hP 5 (v := .ref (g.2.2 250)) rfl (by decide) rfl wd_888 dX7_overlap_44 ?_
    refine lv_iconst (v := 0) hx hb dX7_overlap_47 (by decide) ?_
    obtain ⟨hc42, hf43⟩ := chk_some hf
    refine x_ildM X hP 250 rfl hc42 dX7_overlap_48 ?_
    refine lv_icmp_ge (tgt := 117) hx hb dX7_overlap_49 (by decide) (fun c44 => ?_) (fun c44 => ?_)
    · have hf45 := if_at_t c44 hf43
      clear hf43
      exact hK117 k  _ _ _ hf45 hP hS (lv_sub hl [0, 1, 2] rfl)
    · have hf46 := if_at_f c44 hf43
      clear hf43
      refine lv_iload_n hx hb dX7_overlap_52 rfl (lv_at hl 3 rfl) ?_
      refine lv_iconst (v := 1) hx hb dX7_overlap_53 (by decide) ?_
      refine lv_iadd hx hb dX7_overlap_54 ?_
      refine lv_topi (fun x47 ex47 => ?_)
      have hf48 := lk_at ex47 hf46
      clear hf46
      refine lv_istore (lv' := [(4, .int x47), (0, .ref (g.2.2 246)), (1, .int v1), (2, .int v2), (3, .int v3)]) hx hb dX7_overlap_55 hl (by decide) rfl (fun ls49 hl50 => ?_)
      clear hl
      refine wX7_overlap_L57 X hr hlocks  ?_ hK89 4096 x47 k _ _ _  hf48 hP hS (lv_sub hl50 [1, 2, 3, 4, 0] rfl)
      · intro  kk79 H80 lc81 ls82  hf86 hP83 hS84 hl85
        obtain ⟨x87, ex87⟩ : ∃ q : Int32, q = v3 + (1 : Int32) := ⟨_, rfl⟩
        have hf88 := lk_at ex87 hf86
        clear hf86
        refine lv_iinc (v := x87) (lv' := [(3, .int x87), (0, .ref (g.2.2 246)), (1, .int v1), (2, .int v2)]) hx hb dX7_overlap_111 hl85 (k := 3) rfl (by rw [ex87]; rfl) (by decide) rfl (fun ls89 hl90 => ?_)
        clear hl85
        refine lv_goto (tgt := 42) hx hb dX7_overlap_114 (by decide) ?_
        exact ih x87 kk79  _ _ _ hf88 hP83 hS84 (lv_sub hl90 [1, 2, 3, 0] rfl)
set_option maxRecDepth 100000 in
set_option maxHeartbeats 4000000 in
theorem wX7_overlap_L34 {p : Program} {l : Launch} {en : Env} {s : State} {m : MethodId} {args : Array Value} {below : List Frame} {meth : Method} {c : Code} {g : Gx} (X : Cx p s m args c cX7_overlap 5 RX7 g) (hr : meth.sig.returnType = (some .int)) (hlocks : meth.locks = false) {h k1 : Hp} {r : Int32} {v1 : Int32}  {K89 : Int32 → Int32 → Int32 → Hp → Option (Int32 × Hp)}
    (hK89 : ∀ (v2 : Int32) (v3 : Int32) (v4 : Int32) (k : Hp) (H : Heap) (locs : List Loc) (ls : Array Slot), K89 v2 v3 v4 k = some (r, k1) → va_P g.1 vwCl (WW g h k) H → va_S (inA g) s.heap H locs → lv_has ls 5 [(1, .int v1), (2, .int v2), (3, .int v3), (4, .int v4)] → W p l en (rmD 4) s m args below meth c H locs 0 0 (MQ below (QI g h k1 r) args s 0 0 (inA g)) (F0 m 89 ls [])) :
    ∀ (n : Nat) (v2 : Int32) (k : Hp) (H : Heap) (locs : List Loc) (ls : Array Slot), fX7_overlap_L34 K89 n v1 v2 k = some (r, k1) → va_P g.1 vwCl (WW g h k) H → va_S (inA g) s.heap H locs → lv_has ls 5 [(0, .ref (g.2.2 246)), (1, .int v1), (2, .int v2)] → W p l en (rmD 4) s m args below meth c H locs 0 0 (MQ below (QI g h k1 r) args s 0 0 (inA g)) (F0 m 34 ls []) := by
  have hx := X.1
  have hb := X.2.1
  intro n
  induction n with
  | zero => intro v2 k H locs ls  hf; simp only [fX7_overlap_L34, reduceCtorEq] at hf
  | succ n ih =>
    intro v2 k H locs ls  hf hP hS hl
    rw [fX7_overlap_L34] at hf
    refine lv_iload_n hx hb dX7_overlap_34 rfl (lv_at hl 2 rfl) ?_
    refine lv_bipush (v := 60) hx hb dX7_overlap_35 (by decide) ?_
    refine lv_icmp_gt (tgt := 130) hx hb dX7_overlap_37 (by decide) (fun c37 => ?_) (fun c37 => ?_)
    · have hf38 := if_at_t c37 hf
      clear hf
      refine lv_ldc (v := -1000000) hx hb X.2.2.2.1 (X.2.2.2.2.1 _ wd_1009) dX7_overlap_130 ?_
      obtain ⟨rfl, rfl⟩ := ret_inj hf38
      exact x_iret X hr hlocks hP hS dX7_overlap_132
    · have hf39 := if_at_f c37 hf
      clear hf
      refine lv_iconst (v := 0) hx hb dX7_overlap_40 (by decide) ?_
      refine lv_istore_n (lv' := [(3, .int (0 : Int32)), (0, .ref (g.2.2 246)), (1, .int v1), (2, .int v2)]) hx hb dX7_overlap_41 rfl hl (by decide) rfl (fun ls40 hl41 => ?_)
      clear hl
      refine wX7_overlap_L42 X hr hlocks  ?_ hK89 4096 (0 : Int32) k _ _ _  hf39 hP hS (lv_sub hl41 [1, 2, 3, 0] rfl)
      · intro  kk91 H92 lc93 ls94  hf98 hP95 hS96 hl97
        refine lv_aload_n hx hb dX7_overlap_117 rfl (lv_at hl97 0 rfl) ?_
        refine gX7 X hP95 7 (v := .ref (g.2.2 252)) rfl (by decide) rfl wd_890 dX7_overlap_118 ?_
        obtain ⟨⟨⟩, kk100, hg106, hf105⟩ := bd_some hf98
        refine x_cv (x_runS (As := [.ref (g.2.2 252)]) (rest := []) X hP95 hS96 (tX7_hourOf l X.2.2.2.2.2.2.1 (rfl : isMA 252 = true) hg106) mi_X7_183 rfl hl97.1 rfl (Nat.le_of_ble_eq_true rfl) dX7_overlap_121 ⟨Nat.le_of_ble_eq_true rfl, Nat.le_of_ble_eq_true rfl⟩ ⟨Nat.zero_le _, Nat.zero_le _⟩) hS96 (fun H101 lc102 hP103 hS104 => ?_)
        clear hf98 hP95 hS96 hg106
        obtain ⟨x107, ex107⟩ : ∃ q : Int32, q = v2 + (1 : Int32) := ⟨_, rfl⟩
        have hf108 := lk_at ex107 hf105
        clear hf105
        refine lv_iinc (v := x107) (lv' := [(2, .int x107), (0, .ref (g.2.2 246)), (1, .int v1)]) hx hb dX7_overlap_124 hl97 (k := 2) rfl (by rw [ex107]; rfl) (by decide) rfl (fun ls109 hl110 => ?_)
        clear hl97
        refine lv_goto (tgt := 34) hx hb dX7_overlap_127 (by decide) ?_
        exact ih x107 kk100  _ _ _ hf108 hP103 hS104 (lv_sub hl110 [1, 2, 0] rfl)
set_option maxRecDepth 100000 in
set_option maxHeartbeats 4000000 in
theorem tX7_overlap (l : Launch) {g : Gx} (hI : InjG g) {h k k1 : Hp} {a1 : Int32} {r : Int32}   (hf : fX7_overlap a1 k = some (r, k1)) : CI l yX7_overlap cX7_overlap 5 (some .int) 4 g [.ref (g.2.2 246), .int a1] h k h k1 r := by
  refine Met.ofW (cc := cX7_overlap) (maxL := 5) (ret := (some .int)) (by decide) rfl ?_
  intro p en s m args below meth c s₁ B hml hv
  obtain ⟨rfl, hSK, hSH, hP⟩ := hv
  have X : Cx p s m _ c cX7_overlap 5 RX7 g := ⟨B.exec, B.bytes, hml, findClass_of_methodNamed B.named, fun w hw => atoms_spec (ws := wsy yX7_overlap cX7_overlap 5 (some .int)) B.pre w (List.mem_cons_of_mem _ hw), hSK, hI, hSH⟩
  have hr := B.returns
  have hlocks := B.notSynchronized
  have hx := X.1
  have hb := X.2.1
  have hS : va_S (inA g) s.heap s.heap [] := va_S.rf
  clear hSK hSH hml B
  have hl := lv_entry ([.ref (g.2.2 246), .int a1]) (n := 5) (Nat.le_of_ble_eq_true rfl)
  rw [lg_entry_eq]
  generalize (lg_sl ([.ref (g.2.2 246), .int a1]) ++ List.replicate (5 - (lg_sl ([.ref (g.2.2 246), .int a1])).length) Slot.unset).toArray = ls at hl ⊢
  have hl : lv_has ls 5 [(0, .ref (g.2.2 246)), (1, .int a1)] := hl
  generalize ([.ref (g.2.2 246), .int a1] : List Value).toArray = args at X ⊢
  show W p l en (rmD 4) s m args below meth c s.heap [] 0 0 (MQ below (QI g h k1 r) args s 0 0 (inA g)) (F0 m 0 ls [])
  unfold fX7_overlap at hf
  refine lv_aload_n hx hb dX7_overlap_0 rfl (lv_at hl 0 rfl) ?_
  refine lv_iconst (v := 0) hx hb dX7_overlap_1 (by decide) ?_
  refine pX7 X hP hS 0 (by decide) rfl wd_883 rfl rfl rfl rfl seX7_0 dX7_overlap_2 (fun H1 lc2 kk3 ekk3 hP4 hS5 => ?_)
  have hf6 := lk_at ekk3 hf
  clear hf hP hS
  refine lv_aload_n hx hb dX7_overlap_5 rfl (lv_at hl 0 rfl) ?_
  obtain ⟨x7, kk8, hg14, hf13⟩ := bd_some hf6
  refine x_ci (x_runV (As := []) (rest := []) X hP4 hS5 246 (by decide) cl_M rfl (tX7_isThere l X.2.2.2.2.2.2.1  hg14) mi_X7_187 rfl hl.1 rfl (Nat.le_of_ble_eq_true rfl) dX7_overlap_6 ⟨Nat.le_of_ble_eq_true rfl, Nat.le_of_ble_eq_true rfl⟩ ⟨Nat.zero_le _, Nat.zero_le _⟩) hS5 (fun H9 lc10 hP11 hS12 => ?_)
  clear hf6 hP4 hS5 hg14
  refine lv_if_ne (tgt := 15) hx hb dX7_overlap_9 (by decide) (fun c15 => ?_) (fun c15 => ?_)
  · have hf16 := if_at_f c15 hf13
    clear hf13
    refine lv_iload_n hx hb dX7_overlap_15 rfl (lv_at hl 1 rfl) ?_
    refine lv_i2l hx hb dX7_overlap_16 rfl ?_
    refine lv_lconst (v := 0) hx hb dX7_overlap_17 (by decide) ?_
    refine lv_lconst (v := 1) hx hb dX7_overlap_18 (by decide) ?_
    obtain ⟨x17, kk18, hg24, hf23⟩ := bd_some hf16
    refine x_ci (x_runS (As := [.long a1.toInt64, .long (0 : Int64), .long (1 : Int64)]) (rest := []) X hP11 hS12 (tX7_in l X.2.2.2.2.2.2.1  hg24) mi_X7_57 rfl hl.1 rfl (Nat.le_of_ble_eq_true rfl) dX7_overlap_19 ⟨Nat.le_of_ble_eq_true rfl, Nat.le_of_ble_eq_true rfl⟩ ⟨Nat.zero_le _, Nat.zero_le _⟩) hS12 (fun H19 lc20 hP21 hS22 => ?_)
    clear hf16 hP11 hS12 hg24
    refine lv_if_ne (tgt := 28) hx hb dX7_overlap_22 (by decide) (fun c25 => ?_) (fun c25 => ?_)
    · have hf26 := if_at_f c25 hf23
      clear hf23
      refine lv_aload_n hx hb dX7_overlap_28 rfl (lv_at hl 0 rfl) ?_
      obtain ⟨⟨⟩, kk28, hg34, hf33⟩ := bd_some hf26
      refine x_cv (x_runV (As := []) (rest := []) X hP21 hS22 246 (by decide) cl_M rfl (tX7_layThen l X.2.2.2.2.2.2.1  hg34) mi_X7_231 rfl hl.1 rfl (Nat.le_of_ble_eq_true rfl) dX7_overlap_29 ⟨Nat.le_of_ble_eq_true rfl, Nat.le_of_ble_eq_true rfl⟩ ⟨Nat.zero_le _, Nat.zero_le _⟩) hS22 (fun H29 lc30 hP31 hS32 => ?_)
      clear hf26 hP21 hS22 hg34
      refine lv_iconst (v := 0) hx hb dX7_overlap_32 (by decide) ?_
      refine lv_istore_n (lv' := [(2, .int (0 : Int32)), (0, .ref (g.2.2 246)), (1, .int a1)]) hx hb dX7_overlap_33 rfl hl (by decide) rfl (fun ls35 hl36 => ?_)
      clear hl
      refine wX7_overlap_L34 X hr hlocks  ?_ 4096 (0 : Int32) kk28 _ _ _  hf33 hP31 hS32 (lv_sub hl36 [1, 2, 0] rfl)
      · intro x111 x112 x113 kk114 H115 lc116 ls117  hf121 hP118 hS119 hl120
        refine lv_iload_n hx hb dX7_overlap_89 rfl (lv_at hl120 0 rfl) ?_
        refine lv_if_ne (tgt := 97) hx hb dX7_overlap_90 (by decide) (fun c122 => ?_) (fun c122 => ?_)
        · have hf123 := if_at_f c122 hf121
          clear hf121
          refine lv_bipush (v := 10) hx hb dX7_overlap_97 (by decide) ?_
          refine lv_iload_n hx hb dX7_overlap_99 rfl (lv_at hl120 2 rfl) ?_
          refine lv_imul hx hb dX7_overlap_100 ?_
          refine lv_iload hx hb dX7_overlap_101 (lv_at hl120 3 rfl) ?_
          refine lv_iadd hx hb dX7_overlap_103 ?_
          obtain ⟨rfl, rfl⟩ := ret_inj hf123
          exact x_iret X hr hlocks hP118 hS119 dX7_overlap_104
        · have hf124 := if_at_t c122 hf121
          clear hf121
          refine lv_iload_n hx hb dX7_overlap_93 rfl (lv_at hl120 1 rfl) ?_
          refine lv_goto (tgt := 104) hx hb dX7_overlap_94 (by decide) ?_
          obtain ⟨rfl, rfl⟩ := ret_inj hf124
          exact x_iret X hr hlocks hP118 hS119 dX7_overlap_104
    · have hf125 := if_at_t c25 hf23
      clear hf23
      refine lv_ldc (v := -1000001) hx hb X.2.2.2.1 (X.2.2.2.2.1 _ wd_969) dX7_overlap_25 ?_
      obtain ⟨rfl, rfl⟩ := ret_inj hf125
      exact x_iret X hr hlocks hP21 hS22 dX7_overlap_27
  · have hf126 := if_at_t c15 hf13
    clear hf13
    refine lv_ldc (v := -1000002) hx hb X.2.2.2.1 (X.2.2.2.2.1 _ wd_1062) dX7_overlap_12 ?_
    obtain ⟨rfl, rfl⟩ := ret_inj hf126
    exact x_iret X hr hlocks hP11 hS12 dX7_overlap_14
