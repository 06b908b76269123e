set_option maxRecDepth 100000 in
set_option maxHeartbeats 4000000 in
theorem wX7_lift_L99 {p : Program} {l : Launch} {en : Env} {s : State} {m : MethodId} {args : Array Value} {below : List Frame} {meth : Method} {c : Code} {g : Gx} (X : Cx p s m args c cX7_lift 15 RX7 g) (hr : meth.sig.returnType = (some .long)) (hlocks : meth.locks = false) {h k1 : Hp} {r : Int64} {v1 : Int32} {v2 : Int32} {v3 : Int32} {v4 : Int32} {v5 : Int64} {v7 : Int64} {v9 : Int32}  {K179 : Int64 → Hp → Option (Int64 × Hp)}
    (hK179 : ∀ (v10 : Int64) (k : Hp) (H : Heap) (locs : List Loc) (ls : Array Slot), K179 v10 k = some (r, k1) → va_P g.1 vwCl (WW g h k) H → va_S (inA g) s.heap H locs → lv_has ls 15 [(0, .ref (g.2.2 246)), (1, .int v1), (2, .int v2), (3, .int v3), (4, .int v4), (5, .long v5), (7, .long v7), (9, .int v9), (10, .long v10)] → W p l en (rmD 5) s m args below meth c H locs 0 0 (MQ below (QL g h k1 r) args s 0 0 (inA g)) (F0 m 179 ls [])) :
    ∀ (n : Nat) (v10 : Int64) (v12 : Int32) (k : Hp) (H : Heap) (locs : List Loc) (ls : Array Slot), fX7_lift_L99 K179 n v1 v2 v3 v4 v5 v7 v9 v10 v12 k = some (r, k1) → va_P g.1 vwCl (WW g h k) H → va_S (inA g) s.heap H locs → lv_has ls 15 [(0, .ref (g.2.2 246)), (1, .int v1), (2, .int v2), (3, .int v3), (4, .int v4), (5, .long v5), (7, .long v7), (9, .int v9), (10, .long v10), (12, .int v12)] → W p l en (rmD 5) s m args below meth c H locs 0 0 (MQ below (QL g h k1 r) args s 0 0 (inA g)) (F0 m 99 ls []) := by
  have hx := X.1
  have hb := X.2.1
  intro n
  induction n with
  | zero => intro v10 v12 k H locs ls  hf; simp only [fX7_lift_L99, reduceCtorEq] at hf
  | succ n ih =>
    intro v10 v12 k H locs ls  hf hP hS hl
    rw [fX7_lift_L99] at hf
    refine lv_iload hx hb dX7_lift_99 (lv_at hl 9 rfl) ?_
    refine lv_aload_n hx hb dX7_lift_101 rfl (lv_at hl 0 rfl) ?_
    refine gX7 X hP 5 (v := .ref (g.2.2 250)) rfl (by decide) rfl wd_888 dX7_lift_102 ?_
    refine lv_iconst (v := 0) hx hb dX7_lift_105 (by decide) ?_
    obtain ⟨hc98, hf99⟩ := chk_some hf
    refine x_ildM X hP 250 rfl hc98 dX7_lift_106 ?_
    refine lv_icmp_ge (tgt := 179) hx hb dX7_lift_107 (by decide) (fun c100 => ?_) (fun c100 => ?_)
    · have hf101 := if_at_t c100 hf99
      clear hf99
      exact hK179 v10 k  _ _ _ hf101 hP hS (lv_sub hl [0, 1, 2, 3, 4, 5, 6, 7, 8] rfl)
    · have hf102 := if_at_f c100 hf99
      clear hf99
      refine lv_aload_n hx hb dX7_lift_110 rfl (lv_at hl 0 rfl) ?_
      refine gX7 X hP 5 (v := .ref (g.2.2 250)) rfl (by decide) rfl wd_888 dX7_lift_111 ?_
      refine lv_iload hx hb dX7_lift_114 (lv_at hl 9 rfl) ?_
      obtain ⟨x103, kk104, hg110, hf109⟩ := bd_some hf102
      refine x_ci (x_runS (As := [.ref (g.2.2 250), .int v12]) (rest := []) X hP hS (tX7_isIn l X.2.2.2.2.2.2.1 (rfl : isMA 250 = true) hg110) mi_X7_156 rfl hl.1 rfl (Nat.le_of_ble_eq_true rfl) dX7_lift_116 ⟨Nat.le_of_ble_eq_true rfl, Nat.le_of_ble_eq_true rfl⟩ ⟨Nat.zero_le _, Nat.zero_le _⟩) hS (fun H105 lc106 hP107 hS108 => ?_)
      clear hf102 hP hS hg110
      obtain ⟨J173_111, eJ173_111, hf124⟩ := jp_at hf109
      clear hf109
      have hJ173_111 : ∀ (J173_111v10 : Int64) (kk112 : Hp) (H113 : Heap) (lc114 : List Loc) (ls115 : Array Slot), J173_111 J173_111v10 kk112 = some (r, k1) → va_P g.1 vwCl (WW g h kk112) H113 → va_S (inA g) s.heap H113 lc114 → lv_has ls115 15 [(0, .ref (g.2.2 246)), (1, .int v1), (2, .int v2), (3, .int v3), (4, .int v4), (5, .long v5), (7, .long v7), (9, .int v9), (10, .long J173_111v10), (12, .int v12)] → W p l en (rmD 5) s m args below meth c H113 lc114 0 0 (MQ below (QL g h k1 r) args s 0 0 (inA g)) (F0 m 173 ls115 []) := by
        intro J173_111v10 kk112 H113 lc114 ls115 hf119 hP116 hS117 hl118
        clear hf124 hP107 hS108 hl
        subst eJ173_111
        obtain ⟨x120, ex120⟩ : ∃ q : Int32, q = v12 + (1 : Int32) := ⟨_, rfl⟩
        have hf121 := lk_at ex120 hf119
        clear hf119
        refine lv_iinc (v := x120) (lv' := [(12, .int x120), (0, .ref (g.2.2 246)), (1, .int v1), (2, .int v2), (3, .int v3), (4, .int v4), (5, .long v5), (7, .long v7), (9, .int v9), (10, .long J173_111v10)]) hx hb dX7_lift_173 hl118 (k := 9) rfl (by rw [ex120]; rfl) (by decide) rfl (fun ls122 hl123 => ?_)
        clear hl118
        refine lv_goto (tgt := 99) hx hb dX7_lift_176 (by decide) ?_
        exact ih J173_111v10 x120 kk112  _ _ _ hf121 hP116 hS117 (lv_sub hl123 [1, 2, 3, 4, 5, 6, 7, 8, 9, 0] rfl)
      clear eJ173_111
      refine lv_if_eq (tgt := 173) hx hb dX7_lift_119 (by decide) (fun c125 => ?_) (fun c125 => ?_)
      · have hf126 := if_at_t c125 hf124
        clear hf124
        exact hJ173_111 v10 kk104  _ _ _ hf126 hP107 hS108 (lv_sub hl [0, 1, 2, 3, 4, 5, 6, 7, 8, 9] rfl)
      · have hf127 := if_at_f c125 hf124
        clear hf124
        refine lv_lload hx hb dX7_lift_122 (lv_at hl 8 rfl) ?_
        refine lv_iload hx hb dX7_lift_124 (lv_at hl 7 rfl) ?_
        refine lv_iload hx hb dX7_lift_126 (lv_at hl 9 rfl) ?_
        obtain ⟨x128, kk129, hg135, hf134⟩ := bd_some hf127
        refine x_ci (x_runS (As := [.int v9, .int v12]) (rest := [.long v10]) X hP107 hS108 (tX7_has l X.2.2.2.2.2.2.1  hg135) mi_X7_175 rfl hl.1 rfl (Nat.le_of_ble_eq_true rfl) dX7_lift_128 ⟨Nat.le_of_ble_eq_true rfl, Nat.le_of_ble_eq_true rfl⟩ ⟨Nat.zero_le _, Nat.zero_le _⟩) hS108 (fun H130 lc131 hP132 hS133 => ?_)
        clear hf127 hP107 hS108 hg135
        obtain ⟨J145_136, eJ145_136, hf178⟩ := jp_at hf134
        clear hf134
        have hJ145_136 : ∀ (J145_136s0 : Int64) (kk137 : Hp) (H138 : Heap) (lc139 : List Loc) (ls140 : Array Slot), J145_136 J145_136s0 kk137 = some (r, k1) → va_P g.1 vwCl (WW g h kk137) H138 → va_S (inA g) s.heap H138 lc139 → lv_has ls140 15 [(0, .ref (g.2.2 246)), (1, .int v1), (2, .int v2), (3, .int v3), (4, .int v4), (5, .long v5), (7, .long v7), (9, .int v9), (12, .int v12)] → W p l en (rmD 5) s m args below meth c H138 lc139 0 0 (MQ below (QL g h k1 r) args s 0 0 (inA g)) (F0 m 145 ls140 [.long J145_136s0, .long v10]) := by
          intro J145_136s0 kk137 H138 lc139 ls140 hf144 hP141 hS142 hl143
          clear hf178 hP132 hS133 hl
          subst eJ145_136
          refine lv_lmul hx hb dX7_lift_145 ?_
          refine lv_topl (fun x145 ex145 => ?_)
          have hf146 := lk_at ex145 hf144
          clear hf144
          refine lv_lstore (lv' := [(10, .long x145), (0, .ref (g.2.2 246)), (1, .int v1), (2, .int v2), (3, .int v3), (4, .int v4), (5, .long v5), (7, .long v7), (9, .int v9), (12, .int v12)]) hx hb dX7_lift_146 hl143 (by decide) rfl (fun ls147 hl148 => ?_)
          clear hl143
          refine lv_aload_n hx hb dX7_lift_148 rfl (lv_at hl148 1 rfl) ?_
          refine gX7 X hP141 7 (v := .ref (g.2.2 252)) rfl (by decide) rfl wd_890 dX7_lift_149 ?_
          refine lv_iload hx hb dX7_lift_152 (lv_at hl148 9 rfl) ?_
          refine lv_iconst (v := 5) hx hb dX7_lift_154 (by decide) ?_
          refine lv_iload hx hb dX7_lift_155 (lv_at hl148 8 rfl) ?_
          refine lv_iload hx hb dX7_lift_157 (lv_at hl148 9 rfl) ?_
          obtain ⟨x149, kk150, hg156, hf155⟩ := bd_some hf146
          refine x_ci (x_runS (As := [.int v9, .int v12]) (rest := [.int (5 : Int32), .int v12, .ref (g.2.2 252)]) X hP141 hS142 (tX7_has l X.2.2.2.2.2.2.1  hg156) mi_X7_175 rfl hl148.1 rfl (Nat.le_of_ble_eq_true rfl) dX7_lift_159 ⟨Nat.le_of_ble_eq_true rfl, Nat.le_of_ble_eq_true rfl⟩ ⟨Nat.zero_le _, Nat.zero_le _⟩) hS142 (fun H151 lc152 hP153 hS154 => ?_)
          clear hf146 hP141 hS142 hg156
          obtain ⟨J170_157, eJ170_157, hf174⟩ := jp_at hf155
          clear hf155
          have hJ170_157 : ∀ (J170_157s0 : Int32) (kk158 : Hp) (H159 : Heap) (lc160 : List Loc) (ls161 : Array Slot), J170_157 J170_157s0 kk158 = some (r, k1) → va_P g.1 vwCl (WW g h kk158) H159 → va_S (inA g) s.heap H159 lc160 → lv_has ls161 15 [(0, .ref (g.2.2 246)), (1, .int v1), (2, .int v2), (3, .int v3), (4, .int v4), (5, .long v5), (7, .long v7), (9, .int v9), (10, .long x145), (12, .int v12)] → W p l en (rmD 5) s m args below meth c H159 lc160 0 0 (MQ below (QL g h k1 r) args s 0 0 (inA g)) (F0 m 170 ls161 [.int J170_157s0, .int (5 : Int32), .int v12, .ref (g.2.2 252)]) := by
            intro J170_157s0 kk158 H159 lc160 ls161 hf165 hP162 hS163 hl164
            clear hf174 hP153 hS154 hl148
            subst eJ170_157
            obtain ⟨⟨⟩, kk167, hg173, hf172⟩ := bd_some hf165
            refine x_cv (x_runS (As := [.ref (g.2.2 252), .int v12, .int (5 : Int32), .int J170_157s0]) (rest := []) X hP162 hS163 (tX7_be l X.2.2.2.2.2.2.1 (rfl : isMA 252 = true) hg173) mi_X7_163 rfl hl164.1 rfl (Nat.le_of_ble_eq_true rfl) dX7_lift_170 ⟨Nat.le_of_ble_eq_true rfl, Nat.le_of_ble_eq_true rfl⟩ ⟨Nat.zero_le _, Nat.zero_le _⟩) hS163 (fun H168 lc169 hP170 hS171 => ?_)
            clear hf165 hP162 hS163 hg173
            exact hJ173_111 x145 kk167  _ _ _ hf172 hP170 hS171 (lv_sub hl164 [0, 1, 2, 3, 4, 5, 6, 7, 8, 9] rfl)
          clear eJ170_157
          refine lv_if_eq (tgt := 169) hx hb dX7_lift_162 (by decide) (fun c175 => ?_) (fun c175 => ?_)
          · have hf176 := if_at_t c175 hf174
            clear hf174
            refine lv_iconst (v := 1) hx hb dX7_lift_169 (by decide) ?_
            exact hJ170_157 (1 : Int32) kk150  _ _ _ hf176 hP153 hS154 (lv_sub hl148 [1, 2, 3, 4, 5, 6, 7, 8, 0, 9] rfl)
          · have hf177 := if_at_f c175 hf174
            clear hf174
            refine lv_iconst (v := 0) hx hb dX7_lift_165 (by decide) ?_
            refine lv_goto (tgt := 170) hx hb dX7_lift_166 (by decide) ?_
            exact hJ170_157 (0 : Int32) kk150  _ _ _ hf177 hP153 hS154 (lv_sub hl148 [1, 2, 3, 4, 5, 6, 7, 8, 0, 9] rfl)
        clear eJ145_136
        refine lv_if_eq (tgt := 139) hx hb dX7_lift_131 (by decide) (fun c179 => ?_) (fun c179 => ?_)
        · have hf180 := if_at_t c179 hf178
          clear hf178
          refine lv_ldc2 (v := 10) hx hb X.2.2.2.1 (X.2.2.2.2.1 _ wd_1256) dX7_lift_139 ?_
          refine lv_iload_n hx hb dX7_lift_142 rfl (lv_at hl 3 rfl) ?_
          refine lv_i2l hx hb dX7_lift_143 rfl ?_
          refine lv_lsub hx hb dX7_lift_144 ?_
          exact hJ145_136 ((10 : Int64) - v3.toInt64) kk129  _ _ _ hf180 hP132 hS133 (lv_sub hl [0, 1, 2, 3, 4, 5, 6, 7, 9] rfl)
        · have hf181 := if_at_f c179 hf178
          clear hf178
          refine lv_iload_n hx hb dX7_lift_134 rfl (lv_at hl 3 rfl) ?_
          refine lv_i2l hx hb dX7_lift_135 rfl ?_
          refine lv_goto (tgt := 145) hx hb dX7_lift_136 (by decide) ?_
          exact hJ145_136 v3.toInt64 kk129  _ _ _ hf181 hP132 hS133 (lv_sub hl [0, 1, 2, 3, 4, 5, 6, 7, 9] rfl)
set_option maxRecDepth 100000 in
set_option maxHeartbeats 4000000 in
theorem wX7_lift_L61 {p : Program} {l : Launch} {en : Env} {s : State} {m : MethodId} {args : Array Value} {below : List Frame} {meth : Method} {c : Code} {g : Gx} (X : Cx p s m args c cX7_lift 15 RX7 g) (hr : meth.sig.returnType = (some .long)) (hlocks : meth.locks = false) {h k1 : Hp} {r : Int64} {v1 : Int32} {v2 : Int32} {v3 : Int32} {v4 : Int32}  {K222 : Int64 → Int64 → Hp → Option (Int64 × Hp)}
    (hK222 : ∀ (v5 : Int64) (v7 : Int64) (k : Hp) (H : Heap) (locs : List Loc) (ls : Array Slot), K222 v5 v7 k = some (r, k1) → va_P g.1 vwCl (WW g h k) H → va_S (inA g) s.heap H locs → lv_has ls 15 [(4, .int v4), (5, .long v5), (7, .long v7)] → W p l en (rmD 5) s m args below meth c H locs 0 0 (MQ below (QL g h k1 r) args s 0 0 (inA g)) (F0 m 222 ls [])) :
    ∀ (n : Nat) (v5 : Int64) (v7 : Int64) (v9 : Int32) (k : Hp) (H : Heap) (locs : List Loc) (ls : Array Slot), fX7_lift_L61 K222 n v1 v2 v3 v4 v5 v7 v9 k = some (r, k1) → va_P g.1 vwCl (WW g h k) H → va_S (inA g) s.heap H locs → lv_has ls 15 [(0, .ref (g.2.2 246)), (1, .int v1), (2, .int v2), (3, .int v3), (4, .int v4), (5, .long v5), (7, .long v7), (9, .int v9)] → W p l en (rmD 5) s m args below meth c H locs 0 0 (MQ below (QL g h k1 r) args s 0 0 (inA g)) (F0 m 61 ls []) := by
  have hx := X.1
  have hb := X.2.1
  intro n
  induction n with
  | zero => intro v5 v7 v9 k H locs ls  hf; simp only [fX7_lift_L61, reduceCtorEq] at hf
  | succ n ih =>
    intro v5 v7 v9 k H locs ls  hf hP hS hl
    rw [fX7_lift_L61] at hf
    refine lv_iload hx hb dX7_lift_61 (lv_at hl 7 rfl) ?_
    refine lv_iconst (v := 1) hx hb dX7_lift_63 (by decide) ?_
    refine lv_aload_n hx hb dX7_lift_64 rfl (lv_at hl 0 rfl) ?_
    refine gX7 X hP 5 (v := .ref (g.2.2 250)) rfl (by decide) rfl wd_888 dX7_lift_65 ?_
    refine lv_iconst (v := 0) hx hb dX7_lift_68 (by decide) ?_
    obtain ⟨hc56, hf57⟩ := chk_some hf
    refine x_ildM X hP 250 rfl hc56 dX7_lift_69 ?_
    refine x_ishl X dX7_lift_70 ?_
    refine lv_icmp_ge (tgt := 222) hx hb dX7_lift_71 (by decide) (fun c58 => ?_) (fun c58 => ?_)
    · have hf59 := if_at_t c58 hf57
      clear hf57
      exact hK222 v5 v7 k  _ _ _ hf59 hP hS (lv_sub hl [4, 5, 6] rfl)
    · have hf60 := if_at_f c58 hf57
      clear hf57
      refine lv_iload hx hb dX7_lift_74 (lv_at hl 7 rfl) ?_
      refine lv_aload_n hx hb dX7_lift_76 rfl (lv_at hl 0 rfl) ?_
      refine gX7 X hP 5 (v := .ref (g.2.2 250)) rfl (by decide) rfl wd_888 dX7_lift_77 ?_
      obtain ⟨x61, kk62, hg68, hf67⟩ := bd_some hf60
      refine x_ci (x_runS (As := [.ref (g.2.2 250)]) (rest := [.int v9]) X hP hS (tX7_ins l X.2.2.2.2.2.2.1 (rfl : isMA 250 = true) hg68) mi_X7_220 rfl hl.1 rfl (Nat.le_of_ble_eq_true rfl) dX7_lift_80 ⟨Nat.le_of_ble_eq_true rfl, Nat.le_of_ble_eq_true rfl⟩ ⟨Nat.zero_le _, Nat.zero_le _⟩) hS (fun H63 lc64 hP65 hS66 => ?_)
      clear hf60 hP hS hg68
      refine lv_iconst (v := -1) hx hb dX7_lift_83 (by decide) ?_
      refine lv_ixor hx hb dX7_lift_84 ?_
      refine lv_iand hx hb dX7_lift_85 ?_
      obtain ⟨J216_69, eJ216_69, hf82⟩ := jp_at hf67
      clear hf67
      have hJ216_69 : ∀ (J216_69v5 : Int64) (J216_69v7 : Int64) (kk70 : Hp) (H71 : Heap) (lc72 : List Loc) (ls73 : Array Slot), J216_69 J216_69v5 J216_69v7 kk70 = some (r, k1) → va_P g.1 vwCl (WW g h kk70) H71 → va_S (inA g) s.heap H71 lc72 → lv_has ls73 15 [(0, .ref (g.2.2 246)), (1, .int v1), (2, .int v2), (3, .int v3), (4, .int v4), (5, .long J216_69v5), (7, .long J216_69v7), (9, .int v9)] → W p l en (rmD 5) s m args below meth c H71 lc72 0 0 (MQ below (QL g h k1 r) args s 0 0 (inA g)) (F0 m 216 ls73 []) := by
        intro J216_69v5 J216_69v7 kk70 H71 lc72 ls73 hf77 hP74 hS75 hl76
        clear hf82 hP65 hS66 hl
        subst eJ216_69
        obtain ⟨x78, ex78⟩ : ∃ q : Int32, q = v9 + (1 : Int32) := ⟨_, rfl⟩
        have hf79 := lk_at ex78 hf77
        clear hf77
        refine lv_iinc (v := x78) (lv' := [(9, .int x78), (0, .ref (g.2.2 246)), (1, .int v1), (2, .int v2), (3, .int v3), (4, .int v4), (5, .long J216_69v5), (7, .long J216_69v7)]) hx hb dX7_lift_216 hl76 (k := 7) rfl (by rw [ex78]; rfl) (by decide) rfl (fun ls80 hl81 => ?_)
        clear hl76
        refine lv_goto (tgt := 61) hx hb dX7_lift_219 (by decide) ?_
        exact ih J216_69v5 J216_69v7 x78 kk70  _ _ _ hf79 hP74 hS75 (lv_sub hl81 [1, 2, 3, 4, 5, 6, 7, 0] rfl)
      clear eJ216_69
      refine lv_if_ne (tgt := 216) hx hb dX7_lift_86 (by decide) (fun c83 => ?_) (fun c83 => ?_)
      · have hf84 := if_at_f c83 hf82
        clear hf82
        exact hJ216_69 v5 v7 kk62  _ _ _ hf84 hP65 hS66 (lv_sub hl [0, 1, 2, 3, 4, 5, 6, 7] rfl)
      · have hf85 := if_at_t c83 hf82
        clear hf82
        refine lv_lconst (v := 1) hx hb dX7_lift_89 (by decide) ?_
        refine lv_lstore (lv' := [(10, .long (1 : Int64)), (0, .ref (g.2.2 246)), (1, .int v1), (2, .int v2), (3, .int v3), (4, .int v4), (5, .long v5), (7, .long v7), (9, .int v9)]) hx hb dX7_lift_90 hl (by decide) rfl (fun ls86 hl87 => ?_)
        clear hl
        refine lv_aload_n hx hb dX7_lift_92 rfl (lv_at hl87 1 rfl) ?_
        obtain ⟨⟨⟩, kk89, hg95, hf94⟩ := bd_some hf85
        refine x_cv (x_runV (As := []) (rest := []) X hP65 hS66 246 (by decide) cl_M rfl (tX7_layThen l X.2.2.2.2.2.2.1  hg95) mi_X7_231 rfl hl87.1 rfl (Nat.le_of_ble_eq_true rfl) dX7_lift_93 ⟨Nat.le_of_ble_eq_true rfl, Nat.le_of_ble_eq_true rfl⟩ ⟨Nat.zero_le _, Nat.zero_le _⟩) hS66 (fun H90 lc91 hP92 hS93 => ?_)
        clear hf85 hP65 hS66 hg95
        refine lv_iconst (v := 0) hx hb dX7_lift_96 (by decide) ?_
        refine lv_istore (lv' := [(12, .int (0 : Int32)), (10, .long (1 : Int64)), (0, .ref (g.2.2 246)), (1, .int v1), (2, .int v2), (3, .int v3), (4, .int v4), (5, .long v5), (7, .long v7), (9, .int v9)]) hx hb dX7_lift_97 hl87 (by decide) rfl (fun ls96 hl97 => ?_)
        clear hl87
        refine wX7_lift_L99 X hr hlocks  ?_ 4096 (1 : Int64) (0 : Int32) kk89 _ _ _  hf94 hP92 hS93 (lv_sub hl97 [2, 3, 4, 5, 6, 7, 8, 9, 1, 0] rfl)
        · intro x182 kk183 H184 lc185 ls186  hf190 hP187 hS188 hl189
          refine lv_aload_n hx hb dX7_lift_179 rfl (lv_at hl189 0 rfl) ?_
          refine gX7 X hP187 7 (v := .ref (g.2.2 252)) rfl (by decide) rfl wd_890 dX7_lift_180 ?_
          refine lv_iload_n hx hb dX7_lift_183 rfl (lv_at hl189 2 rfl) ?_
          obtain ⟨⟨⟩, kk192, hg198, hf197⟩ := bd_some hf190
          refine x_cv (x_runS (As := [.ref (g.2.2 252), .int v2]) (rest := []) X hP187 hS188 (tX7_hoursOf l X.2.2.2.2.2.2.1 (rfl : isMA 252 = true) hg198) mi_X7_234 rfl hl189.1 rfl (Nat.le_of_ble_eq_true rfl) dX7_lift_184 ⟨Nat.le_of_ble_eq_true rfl, Nat.le_of_ble_eq_true rfl⟩ ⟨Nat.zero_le _, Nat.zero_le _⟩) hS188 (fun H193 lc194 hP195 hS196 => ?_)
          clear hf190 hP187 hS188 hg198
          refine lv_lload hx hb dX7_lift_187 (lv_at hl189 6 rfl) ?_
          refine lv_lload hx hb dX7_lift_189 (lv_at hl189 8 rfl) ?_
          refine lv_ladd hx hb dX7_lift_191 ?_
          refine lv_topl (fun x199 ex199 => ?_)
          have hf200 := lk_at ex199 hf197
          clear hf197
          refine lv_lstore (lv' := [(7, .long x199), (0, .ref (g.2.2 246)), (1, .int v1), (2, .int v2), (3, .int v3), (4, .int v4), (5, .long v5), (9, .int v9), (10, .long x182)]) hx hb dX7_lift_192 hl189 (by decide) rfl (fun ls201 hl202 => ?_)
          clear hl189
          refine lv_lload hx hb dX7_lift_194 (lv_at hl202 6 rfl) ?_
          refine lv_aload_n hx hb dX7_lift_196 rfl (lv_at hl202 1 rfl) ?_
          refine gX7 X hP195 7 (v := .ref (g.2.2 252)) rfl (by decide) rfl wd_890 dX7_lift_197 ?_
          refine lv_iload_n hx hb dX7_lift_200 rfl (lv_at hl202 2 rfl) ?_
          obtain ⟨x203, kk204, hg210, hf209⟩ := bd_some hf200
          refine x_ci (x_runS (As := [.ref (g.2.2 252), .int v1]) (rest := [.long v5]) X hP195 hS196 (tX7_overOf l X.2.2.2.2.2.2.1 (rfl : isMA 252 = true) hg210) mi_X7_226 rfl hl202.1 rfl (Nat.le_of_ble_eq_true rfl) dX7_lift_201 ⟨Nat.le_of_ble_eq_true rfl, Nat.le_of_ble_eq_true rfl⟩ ⟨Nat.zero_le _, Nat.zero_le _⟩) hS196 (fun H205 lc206 hP207 hS208 => ?_)
          clear hf200 hP195 hS196 hg210
          obtain ⟨J213_211, eJ213_211, hf224⟩ := jp_at hf209
          clear hf209
          have hJ213_211 : ∀ (J213_211s0 : Int64) (kk212 : Hp) (H213 : Heap) (lc214 : List Loc) (ls215 : Array Slot), J213_211 J213_211s0 kk212 = some (r, k1) → va_P g.1 vwCl (WW g h kk212) H213 → va_S (inA g) s.heap H213 lc214 → lv_has ls215 15 [(0, .ref (g.2.2 246)), (1, .int v1), (2, .int v2), (3, .int v3), (4, .int v4), (7, .long x199), (9, .int v9)] → W p l en (rmD 5) s m args below meth c H213 lc214 0 0 (MQ below (QL g h k1 r) args s 0 0 (inA g)) (F0 m 213 ls215 [.long J213_211s0, .long v5]) := by
            intro J213_211s0 kk212 H213 lc214 ls215 hf219 hP216 hS217 hl218
            clear hf224 hP207 hS208 hl202
            subst eJ213_211
            refine lv_ladd hx hb dX7_lift_213 ?_
            refine lv_topl (fun x220 ex220 => ?_)
            have hf221 := lk_at ex220 hf219
            clear hf219
            refine lv_lstore (lv' := [(5, .long x220), (0, .ref (g.2.2 246)), (1, .int v1), (2, .int v2), (3, .int v3), (4, .int v4), (7, .long x199), (9, .int v9)]) hx hb dX7_lift_214 hl218 (by decide) rfl (fun ls222 hl223 => ?_)
            clear hl218
            exact hJ216_69 x220 x199 kk212  _ _ _ hf221 hP216 hS217 (lv_sub hl223 [1, 2, 3, 4, 5, 0, 6, 7] rfl)
          clear eJ213_211
          refine lv_if_ne (tgt := 212) hx hb dX7_lift_204 (by decide) (fun c225 => ?_) (fun c225 => ?_)
          · have hf226 := if_at_f c225 hf224
            clear hf224
            refine lv_lconst (v := 0) hx hb dX7_lift_212 (by decide) ?_
            exact hJ213_211 (0 : Int64) kk204  _ _ _ hf226 hP207 hS208 (lv_sub hl202 [1, 2, 3, 4, 5, 0, 7] rfl)
          · have hf227 := if_at_t c225 hf224
            clear hf224
            refine lv_lload hx hb dX7_lift_207 (lv_at hl202 8 rfl) ?_
            refine lv_goto (tgt := 213) hx hb dX7_lift_209 (by decide) ?_
            exact hJ213_211 x182 kk204  _ _ _ hf227 hP207 hS208 (lv_sub hl202 [1, 2, 3, 4, 5, 0, 7] rfl)
set_option maxRecDepth 100000 in
set_option maxHeartbeats 4000000 in
theorem wX7_lift_L230 {p : Program} {l : Launch} {en : Env} {s : State} {m : MethodId} {args : Array Value} {below : List Frame} {meth : Method} {c : Code} {g : Gx} (X : Cx p s m args c cX7_lift 15 RX7 g) (hr : meth.sig.returnType = (some .long)) (hlocks : meth.locks = false) {h k1 : Hp} {r : Int64} {v4 : Int32} {v5 : Int64} {v7 : Int64}  {K255 : Int64 → Hp → Option (Int64 × Hp)}
    (hK255 : ∀ (v9 : Int64) (k : Hp) (H : Heap) (locs : List Loc) (ls : Array Slot), K255 v9 k = some (r, k1) → va_P g.1 vwCl (WW g h k) H → va_S (inA g) s.heap H locs → lv_has ls 15 [(4, .int v4), (5, .long v5), (7, .long v7), (9, .long v9)] → W p l en (rmD 5) s m args below meth c H locs 0 0 (MQ below (QL g h k1 r) args s 0 0 (inA g)) (F0 m 255 ls [])) :
    ∀ (n : Nat) (v9 : Int64) (v11 : Int64) (k : Hp) (H : Heap) (locs : List Loc) (ls : Array Slot), fX7_lift_L230 K255 n v4 v5 v7 v9 v11 k = some (r, k1) → va_P g.1 vwCl (WW g h k) H → va_S (inA g) s.heap H locs → lv_has ls 15 [(4, .int v4), (5, .long v5), (7, .long v7), (9, .long v9), (11, .long v11)] → W p l en (rmD 5) s m args below meth c H locs 0 0 (MQ below (QL g h k1 r) args s 0 0 (inA g)) (F0 m 230 ls []) := by
  have hx := X.1
  have hb := X.2.1
  intro n
  induction n with
  | zero => intro v9 v11 k H locs ls  hf; simp only [fX7_lift_L230, reduceCtorEq] at hf
  | succ n ih =>
    intro v9 v11 k H locs ls  hf hP hS hl
    rw [fX7_lift_L230] at hf
    refine lv_lload hx hb dX7_lift_230 (lv_at hl 4 rfl) ?_
    refine lv_lconst (v := 0) hx hb dX7_lift_232 (by decide) ?_
    refine W.lcmp hx hb dX7_lift_233 ?_
    refine lv_if_eq (tgt := 255) hx hb dX7_lift_234 (by decide) (fun c242 => ?_) (fun c242 => ?_)
    · have hf243 := if_at_t c242 hf
      clear hf
      exact hK255 v9 k  _ _ _ hf243 hP hS (lv_sub hl [0, 1, 2, 3] rfl)
    · have hf244 := if_at_f c242 hf
      clear hf
      refine lv_lload hx hb dX7_lift_237 (lv_at hl 3 rfl) ?_
      refine lv_lload hx hb dX7_lift_239 (lv_at hl 4 rfl) ?_
      obtain ⟨hc245, hf246⟩ := chk_some hf244
      refine x_lrem X dX7_lift_241 (nzL_in hc245) ?_
      refine lv_topl (fun x247 ex247 => ?_)
      have hf248 := lk_at ex247 hf246
      clear hf246
      refine lv_lstore (lv' := [(13, .long x247), (4, .int v4), (5, .long v5), (7, .long v7), (9, .long v9), (11, .long v11)]) hx hb dX7_lift_242 hl (by decide) rfl (fun ls249 hl250 => ?_)
      clear hl
      refine lv_lload hx hb dX7_lift_244 (lv_at hl250 5 rfl) ?_
      refine lv_lstore (lv' := [(9, .long v11), (13, .long x247), (4, .int v4), (5, .long v5), (7, .long v7), (11, .long v11)]) hx hb dX7_lift_246 hl250 (by decide) rfl (fun ls251 hl252 => ?_)
      clear hl250
      refine lv_lload hx hb dX7_lift_248 (lv_at hl252 1 rfl) ?_
      refine lv_lstore (lv' := [(11, .long x247), (9, .long v11), (13, .long x247), (4, .int v4), (5, .long v5), (7, .long v7)]) hx hb dX7_lift_250 hl252 (by decide) rfl (fun ls253 hl254 => ?_)
      clear hl252
      refine lv_goto (tgt := 230) hx hb dX7_lift_252 (by decide) ?_
      exact ih v11 x247 k  _ _ _ hf248 hP hS (lv_sub hl254 [3, 4, 5, 1, 0] rfl)
set_option maxRecDepth 100000 in
set_option maxHeartbeats 4000000 in
theorem tX7_lift (l : Launch) {g : Gx} (hI : InjG g) {h k k1 : Hp} {a1 : Int32} {a2 : Int32} {a3 : Int32} {a4 : Int32} {r : Int64}   (hf : fX7_lift a1 a2 a3 a4 k = some (r, k1)) : CL l yX7_lift cX7_lift 15 (some .long) 5 g [.ref (g.2.2 246), .int a1, .int a2, .int a3, .int a4] h k h k1 r := by
  refine Met.ofW (cc := cX7_lift) (maxL := 15) (ret := (some .long)) (by decide) rfl ?_
  intro p en s m args below meth c s₁ B hml hv
  obtain ⟨rfl, hSK, hSH, hP⟩ := hv
  have X : Cx p s m _ c cX7_lift 15 RX7 g := ⟨B.exec, B.bytes, hml, findClass_of_methodNamed B.named, fun w hw => atoms_spec (ws := wsy yX7_lift cX7_lift 15 (some .long)) B.pre w (List.mem_cons_of_mem _ hw), hSK, hI, hSH⟩
  have hr := B.returns
  have hlocks := B.notSynchronized
  have hx := X.1
  have hb := X.2.1
  have hS : va_S (inA g) s.heap s.heap [] := va_S.rf
  clear hSK hSH hml B
  have hl := lv_entry ([.ref (g.2.2 246), .int a1, .int a2, .int a3, .int a4]) (n := 15) (Nat.le_of_ble_eq_true rfl)
  rw [lg_entry_eq]
  generalize (lg_sl ([.ref (g.2.2 246), .int a1, .int a2, .int a3, .int a4]) ++ List.replicate (15 - (lg_sl ([.ref (g.2.2 246), .int a1, .int a2, .int a3, .int a4])).length) Slot.unset).toArray = ls at hl ⊢
  have hl : lv_has ls 15 [(0, .ref (g.2.2 246)), (1, .int a1), (2, .int a2), (3, .int a3), (4, .int a4)] := hl
  generalize ([.ref (g.2.2 246), .int a1, .int a2, .int a3, .int a4] : List Value).toArray = args at X ⊢
  show W p l en (rmD 5) s m args below meth c s.heap [] 0 0 (MQ below (QL g h k1 r) args s 0 0 (inA g)) (F0 m 0 ls [])
  unfold fX7_lift at hf
  refine lv_aload_n hx hb dX7_lift_0 rfl (lv_at hl 0 rfl) ?_
  refine lv_iconst (v := 0) hx hb dX7_lift_1 (by decide) ?_
  refine pX7 X hP hS 0 (by decide) rfl wd_883 rfl rfl rfl rfl seX7_0 dX7_lift_2 (fun H1 lc2 kk3 ekk3 hP4 hS5 => ?_)
  have hf6 := lk_at ekk3 hf
  clear hf hP hS
  refine lv_aload_n hx hb dX7_lift_5 rfl (lv_at hl 0 rfl) ?_
  refine lv_iload_n hx hb dX7_lift_6 rfl (lv_at hl 1 rfl) ?_
  obtain ⟨x7, kk8, hg14, hf13⟩ := bd_some hf6
  refine x_ci (x_runV (As := [.int a1]) (rest := []) X hP4 hS5 246 (by decide) cl_M rfl (tX7_isCell l X.2.2.2.2.2.2.1  hg14) mi_X7_202 rfl hl.1 rfl (Nat.le_of_ble_eq_true rfl) dX7_lift_7 ⟨Nat.le_of_ble_eq_true rfl, Nat.le_of_ble_eq_true rfl⟩ ⟨Nat.zero_le _, Nat.zero_le _⟩) hS5 (fun H9 lc10 hP11 hS12 => ?_)
  clear hf6 hP4 hS5 hg14
  refine lv_if_eq (tgt := 48) hx hb dX7_lift_10 (by decide) (fun c15 => ?_) (fun c15 => ?_)
  · have hf16 := if_at_t c15 hf13
    clear hf13
    refine lv_ldc2 (v := -1000001) hx hb X.2.2.2.1 (X.2.2.2.2.1 _ wd_1257) dX7_lift_48 ?_
    obtain ⟨rfl, rfl⟩ := ret_inj hf16
    exact x_lret X hr hlocks hP11 hS12 dX7_lift_51
  · have hf17 := if_at_f c15 hf13
    clear hf13
    refine lv_iload_n hx hb dX7_lift_13 rfl (lv_at hl 2 rfl) ?_
    refine lv_i2l hx hb dX7_lift_14 rfl ?_
    refine lv_lconst (v := 0) hx hb dX7_lift_15 (by decide) ?_
    refine lv_ldc2 (v := 60) hx hb X.2.2.2.1 (X.2.2.2.2.1 _ wd_1164) dX7_lift_16 ?_
    obtain ⟨x18, kk19, hg25, hf24⟩ := bd_some hf17
    refine x_ci (x_runS (As := [.long a2.toInt64, .long (0 : Int64), .long (60 : Int64)]) (rest := []) X hP11 hS12 (tX7_in l X.2.2.2.2.2.2.1  hg25) mi_X7_57 rfl hl.1 rfl (Nat.le_of_ble_eq_true rfl) dX7_lift_19 ⟨Nat.le_of_ble_eq_true rfl, Nat.le_of_ble_eq_true rfl⟩ ⟨Nat.zero_le _, Nat.zero_le _⟩) hS12 (fun H20 lc21 hP22 hS23 => ?_)
    clear hf17 hP11 hS12 hg25
    refine lv_if_eq (tgt := 48) hx hb dX7_lift_22 (by decide) (fun c26 => ?_) (fun c26 => ?_)
    · have hf27 := if_at_t c26 hf24
      clear hf24
      refine lv_ldc2 (v := -1000001) hx hb X.2.2.2.1 (X.2.2.2.2.1 _ wd_1257) dX7_lift_48 ?_
      obtain ⟨rfl, rfl⟩ := ret_inj hf27
      exact x_lret X hr hlocks hP22 hS23 dX7_lift_51
    · have hf28 := if_at_f c26 hf24
      clear hf24
      refine lv_iload_n hx hb dX7_lift_25 rfl (lv_at hl 3 rfl) ?_
      refine lv_i2l hx hb dX7_lift_26 rfl ?_
      refine lv_lconst (v := 0) hx hb dX7_lift_27 (by decide) ?_
      refine lv_ldc2 (v := 10) hx hb X.2.2.2.1 (X.2.2.2.2.1 _ wd_1256) dX7_lift_28 ?_
      obtain ⟨x29, kk30, hg36, hf35⟩ := bd_some hf28
      refine x_ci (x_runS (As := [.long a3.toInt64, .long (0 : Int64), .long (10 : Int64)]) (rest := []) X hP22 hS23 (tX7_in l X.2.2.2.2.2.2.1  hg36) mi_X7_57 rfl hl.1 rfl (Nat.le_of_ble_eq_true rfl) dX7_lift_31 ⟨Nat.le_of_ble_eq_true rfl, Nat.le_of_ble_eq_true rfl⟩ ⟨Nat.zero_le _, Nat.zero_le _⟩) hS23 (fun H31 lc32 hP33 hS34 => ?_)
      clear hf28 hP22 hS23 hg36
      refine lv_if_eq (tgt := 48) hx hb dX7_lift_34 (by decide) (fun c37 => ?_) (fun c37 => ?_)
      · have hf38 := if_at_t c37 hf35
        clear hf35
        refine lv_ldc2 (v := -1000001) hx hb X.2.2.2.1 (X.2.2.2.2.1 _ wd_1257) dX7_lift_48 ?_
        obtain ⟨rfl, rfl⟩ := ret_inj hf38
        exact x_lret X hr hlocks hP33 hS34 dX7_lift_51
      · have hf39 := if_at_f c37 hf35
        clear hf35
        refine lv_iload hx hb dX7_lift_37 (lv_at hl 4 rfl) ?_
        refine lv_i2l hx hb dX7_lift_39 rfl ?_
        refine lv_lconst (v := 0) hx hb dX7_lift_40 (by decide) ?_
        refine lv_lconst (v := 1) hx hb dX7_lift_41 (by decide) ?_
        obtain ⟨x40, kk41, hg47, hf46⟩ := bd_some hf39
        refine x_ci (x_runS (As := [.long a4.toInt64, .long (0 : Int64), .long (1 : Int64)]) (rest := []) X hP33 hS34 (tX7_in l X.2.2.2.2.2.2.1  hg47) mi_X7_57 rfl hl.1 rfl (Nat.le_of_ble_eq_true rfl) dX7_lift_42 ⟨Nat.le_of_ble_eq_true rfl, Nat.le_of_ble_eq_true rfl⟩ ⟨Nat.zero_le _, Nat.zero_le _⟩) hS34 (fun H42 lc43 hP44 hS45 => ?_)
        clear hf39 hP33 hS34 hg47
        refine lv_if_ne (tgt := 52) hx hb dX7_lift_45 (by decide) (fun c48 => ?_) (fun c48 => ?_)
        · have hf49 := if_at_f c48 hf46
          clear hf46
          refine lv_lconst (v := 0) hx hb dX7_lift_52 (by decide) ?_
          refine lv_lstore (lv' := [(5, .long (0 : Int64)), (0, .ref (g.2.2 246)), (1, .int a1), (2, .int a2), (3, .int a3), (4, .int a4)]) hx hb dX7_lift_53 hl (by decide) rfl (fun ls50 hl51 => ?_)
          clear hl
          refine lv_lconst (v := 0) hx hb dX7_lift_55 (by decide) ?_
          refine lv_lstore (lv' := [(7, .long (0 : Int64)), (5, .long (0 : Int64)), (0, .ref (g.2.2 246)), (1, .int a1), (2, .int a2), (3, .int a3), (4, .int a4)]) hx hb dX7_lift_56 hl51 (by decide) rfl (fun ls52 hl53 => ?_)
          clear hl51
          refine lv_iconst (v := 0) hx hb dX7_lift_58 (by decide) ?_
          refine lv_istore (lv' := [(9, .int (0 : Int32)), (7, .long (0 : Int64)), (5, .long (0 : Int64)), (0, .ref (g.2.2 246)), (1, .int a1), (2, .int a2), (3, .int a3), (4, .int a4)]) hx hb dX7_lift_59 hl53 (by decide) rfl (fun ls54 hl55 => ?_)
          clear hl53
          refine wX7_lift_L61 X hr hlocks  ?_ 4096 (0 : Int64) (0 : Int64) (0 : Int32) kk41 _ _ _  hf49 hP44 hS45 (lv_sub hl55 [3, 4, 5, 6, 7, 2, 1, 0] rfl)
          · intro x228 x229 kk230 H231 lc232 ls233  hf237 hP234 hS235 hl236
            refine lv_lload hx hb dX7_lift_222 (lv_at hl236 1 rfl) ?_
            refine lv_lstore (lv' := [(9, .long x228), (4, .int a4), (5, .long x228), (7, .long x229)]) hx hb dX7_lift_224 hl236 (by decide) rfl (fun ls238 hl239 => ?_)
            clear hl236
            refine lv_lload hx hb dX7_lift_226 (lv_at hl239 3 rfl) ?_
            refine lv_lstore (lv' := [(11, .long x229), (9, .long x228), (4, .int a4), (5, .long x228), (7, .long x229)]) hx hb dX7_lift_228 hl239 (by decide) rfl (fun ls240 hl241 => ?_)
            clear hl239
            refine wX7_lift_L230 X hr hlocks  ?_ 4096 x228 x229 kk230 _ _ _  hf237 hP234 hS235 (lv_sub hl241 [2, 3, 4, 1, 0] rfl)
            · intro x255 kk256 H257 lc258 ls259  hf263 hP260 hS261 hl262
              refine lv_iload hx hb dX7_lift_255 (lv_at hl262 0 rfl) ?_
              refine lv_if_ne (tgt := 265) hx hb dX7_lift_257 (by decide) (fun c264 => ?_) (fun c264 => ?_)
              · have hf265 := if_at_f c264 hf263
                clear hf263
                refine lv_lload hx hb dX7_lift_265 (lv_at hl262 2 rfl) ?_
                refine lv_lload hx hb dX7_lift_267 (lv_at hl262 3 rfl) ?_
                obtain ⟨hc266, hf267⟩ := chk_some hf265
                refine lv_ldiv hx hb dX7_lift_269 (nzL_in hc266) ?_
                obtain ⟨rfl, rfl⟩ := ret_inj hf267
                exact x_lret X hr hlocks hP260 hS261 dX7_lift_270
              · have hf268 := if_at_t c264 hf263
                clear hf263
                refine lv_lload hx hb dX7_lift_260 (lv_at hl262 1 rfl) ?_
                refine lv_goto (tgt := 267) hx hb dX7_lift_262 (by decide) ?_
                refine lv_lload hx hb dX7_lift_267 (lv_at hl262 3 rfl) ?_
                obtain ⟨hc269, hf270⟩ := chk_some hf268
                refine lv_ldiv hx hb dX7_lift_269 (nzL_in hc269) ?_
                obtain ⟨rfl, rfl⟩ := ret_inj hf270
                exact x_lret X hr hlocks hP260 hS261 dX7_lift_270
        · have hf271 := if_at_t c48 hf46
          clear hf46
          refine lv_ldc2 (v := -1000001) hx hb X.2.2.2.1 (X.2.2.2.2.1 _ wd_1257) dX7_lift_48 ?_
          obtain ⟨rfl, rfl⟩ := ret_inj hf271
          exact x_lret X hr hlocks hP44 hS45 dX7_lift_51
set_option maxRecDepth 100000 in
set_option maxHeartbeats 4000000 in
theorem wX7_drawn_L66 {p : Program} {l : Launch} {en : Env} {s : State} {m : MethodId} {args : Array Value} {below : List Frame} {meth : Method} {c : Code} {g : Gx} (X : Cx p s m args c cX7_drawn 9 RX7 g) (hr : meth.sig.returnType = (some .int)) (hlocks : meth.locks = false) {h k1 : Hp} {r : Int32} {v1 : Int32} {v3 : Int32}  {K206 : Int32 → Hp → Option (Int32 × Hp)}
    (hK206 : ∀ (v6 : Int32) (k : Hp) (H : Heap) (locs : List Loc) (ls : Array Slot), K206 v6 k = some (r, k1) → va_P g.1 vwCl (WW g h k) H → va_S (inA g) s.heap H locs → lv_has ls 9 [(0, .ref (g.2.2 246)), (3, .int v3), (6, .int v6)] → W p l en (rmD 4) s m args below meth c H locs 0 0 (MQ below (QI g h k1 r) args s 0 0 (inA g)) (F0 m 206 ls [])) :
    ∀ (n : Nat) (v4 : Int64) (v6 : Int32) (v7 : Int32) (k : Hp) (H : Heap) (locs : List Loc) (ls : Array Slot), fX7_drawn_L66 K206 n v1 v3 v4 v6 v7 k = some (r, k1) → va_P g.1 vwCl (WW g h k) H → va_S (inA g) s.heap H locs → lv_has ls 9 [(0, .ref (g.2.2 246)), (1, .int v1), (3, .int v3), (4, .long v4), (6, .int v6), (7, .int v7)] → W p l en (rmD 4) s m args below meth c H locs 0 0 (MQ below (QI g h k1 r) args s 0 0 (inA g)) (F0 m 66 ls []) := by
  have hx := X.1
  have hb := X.2.1
  intro n
  induction n with
  | zero => intro v4 v6 v7 k H locs ls  hf; simp only [fX7_drawn_L66, reduceCtorEq] at hf
  | succ n ih =>
    intro v4 v6 v7 k H locs ls  hf hP hS hl
    rw [fX7_drawn_L66] at hf
    refine lv_iload hx hb dX7_drawn_66 (lv_at hl 5 rfl) ?_
    refine lv_iload_n hx hb dX7_drawn_68 rfl (lv_at hl 1 rfl) ?_
    refine lv_icmp_ge (tgt := 206) hx hb dX7_drawn_69 (by decide) (fun c65 => ?_) (fun c65 => ?_)
    · have hf66 := if_at_t c65 hf
      clear hf
      exact hK206 v6 k  _ _ _ hf66 hP hS (lv_sub hl [0, 2, 4] rfl)
    · have hf67 := if_at_f c65 hf
      clear hf
      refine lv_lload hx hb dX7_drawn_72 (lv_at hl 3 rfl) ?_
      refine lv_ldc2 (v := 16807) hx hb X.2.2.2.1 (X.2.2.2.2.1 _ wd_1263) dX7_drawn_74 ?_
      refine lv_lmul hx hb dX7_drawn_77 ?_
      refine lv_ldc2 (v := 2147483647) hx hb X.2.2.2.1 (X.2.2.2.2.1 _ wd_1264) dX7_drawn_78 ?_
      refine x_lrem X dX7_drawn_81 (by decide) ?_
      refine lv_topl (fun x68 ex68 => ?_)
      have hf69 := lk_at ex68 hf67
      clear hf67
      refine lv_lstore (lv' := [(4, .long x68), (0, .ref (g.2.2 246)), (1, .int v1), (3, .int v3), (6, .int v6), (7, .int v7)]) hx hb dX7_drawn_82 hl (by decide) rfl (fun ls70 hl71 => ?_)
      clear hl
      refine lv_lload hx hb dX7_drawn_84 (lv_at hl71 0 rfl) ?_
      refine lv_ldc2 (v := 3) hx hb X.2.2.2.1 (X.2.2.2.2.1 _ wd_1265) dX7_drawn_86 ?_
      refine x_lrem X dX7_drawn_89 (by decide) ?_
      refine lv_lconst (v := 0) hx hb dX7_drawn_90 (by decide) ?_
      refine W.lcmp hx hb dX7_drawn_91 ?_
      obtain ⟨J121_72, eJ121_72, hf148⟩ := jp_at hf69
      clear hf69
      have hJ121_72 : ∀  (kk73 : Hp) (H74 : Heap) (lc75 : List Loc) (ls76 : Array Slot), J121_72  kk73 = some (r, k1) → va_P g.1 vwCl (WW g h kk73) H74 → va_S (inA g) s.heap H74 lc75 → lv_has ls76 9 [(0, .ref (g.2.2 246)), (1, .int v1), (3, .int v3), (4, .long x68), (6, .int v6), (7, .int v7)] → W p l en (rmD 4) s m args below meth c H74 lc75 0 0 (MQ below (QI g h k1 r) args s 0 0 (inA g)) (F0 m 121 ls76 []) := by
        intro  kk73 H74 lc75 ls76 hf80 hP77 hS78 hl79
        clear hf148 hP hS hl71
        subst eJ121_72
        refine lv_lload hx hb dX7_drawn_121 (lv_at hl79 3 rfl) ?_
        refine lv_aload_n hx hb dX7_drawn_123 rfl (lv_at hl79 0 rfl) ?_
        refine gX7 X hP77 7 (v := .ref (g.2.2 252)) rfl (by decide) rfl wd_890 dX7_drawn_124 ?_
        refine lv_iconst (v := 0) hx hb dX7_drawn_127 (by decide) ?_
        obtain ⟨hc81, hf82⟩ := chk_some hf80
        refine x_ildM X hP77 252 rfl hc81 dX7_drawn_128 ?_
        refine lv_i2l hx hb dX7_drawn_129 rfl ?_
        obtain ⟨hc83, hf84⟩ := chk_some hf82
        refine x_lrem X dX7_drawn_130 (nzL_in hc83) ?_
        refine lv_l2i hx hb dX7_drawn_131 rfl ?_
        refine lv_topi (fun x85 ex85 => ?_)
        have hf86 := lk_at ex85 hf84
        clear hf84
        refine lv_istore (lv' := [(8, .int x85), (0, .ref (g.2.2 246)), (1, .int v1), (3, .int v3), (4, .long x68), (6, .int v6), (7, .int v7)]) hx hb dX7_drawn_132 hl79 (by decide) rfl (fun ls87 hl88 => ?_)
        clear hl79
        refine lv_aload_n hx hb dX7_drawn_134 rfl (lv_at hl88 1 rfl) ?_
        refine gX7 X hP77 7 (v := .ref (g.2.2 252)) rfl (by decide) rfl wd_890 dX7_drawn_135 ?_
        refine lv_iload hx hb dX7_drawn_138 (lv_at hl88 0 rfl) ?_
        obtain ⟨x89, kk90, hg96, hf95⟩ := bd_some hf86
        refine x_ci (x_runS (As := [.ref (g.2.2 252), .int x85]) (rest := []) X hP77 hS78 (tX7_isIn l X.2.2.2.2.2.2.1 (rfl : isMA 252 = true) hg96) mi_X7_156 rfl hl88.1 rfl (Nat.le_of_ble_eq_true rfl) dX7_drawn_140 ⟨Nat.le_of_ble_eq_true rfl, Nat.le_of_ble_eq_true rfl⟩ ⟨Nat.zero_le _, Nat.zero_le _⟩) hS78 (fun H91 lc92 hP93 hS94 => ?_)
        clear hf86 hP77 hS78 hg96
        obtain ⟨J175_97, eJ175_97, hf132⟩ := jp_at hf95
        clear hf95
        have hJ175_97 : ∀  (kk98 : Hp) (H99 : Heap) (lc100 : List Loc) (ls101 : Array Slot), J175_97  kk98 = some (r, k1) → va_P g.1 vwCl (WW g h kk98) H99 → va_S (inA g) s.heap H99 lc100 → lv_has ls101 9 [(0, .ref (g.2.2 246)), (1, .int v1), (3, .int v3), (4, .long x68), (6, .int v6), (7, .int v7)] → W p l en (rmD 4) s m args below meth c H99 lc100 0 0 (MQ below (QI g h k1 r) args s 0 0 (inA g)) (F0 m 175 ls101 []) := by
          intro  kk98 H99 lc100 ls101 hf105 hP102 hS103 hl104
          clear hf132 hP93 hS94 hl88
          subst eJ175_97
          refine lv_aload_n hx hb dX7_drawn_175 rfl (lv_at hl104 0 rfl) ?_
          refine gX7 X hP102 7 (v := .ref (g.2.2 252)) rfl (by decide) rfl wd_890 dX7_drawn_176 ?_
          obtain ⟨⟨⟩, kk107, hg113, hf112⟩ := bd_some hf105
          refine x_cv (x_runS (As := [.ref (g.2.2 252)]) (rest := []) X hP102 hS103 (tX7_hourOf l X.2.2.2.2.2.2.1 (rfl : isMA 252 = true) hg113) mi_X7_183 rfl hl104.1 rfl (Nat.le_of_ble_eq_true rfl) dX7_drawn_179 ⟨Nat.le_of_ble_eq_true rfl, Nat.le_of_ble_eq_true rfl⟩ ⟨Nat.zero_le _, Nat.zero_le _⟩) hS103 (fun H108 lc109 hP110 hS111 => ?_)
          clear hf105 hP102 hS103 hg113
          refine lv_iload hx hb dX7_drawn_182 (lv_at hl104 4 rfl) ?_
          refine lv_aload_n hx hb dX7_drawn_184 rfl (lv_at hl104 0 rfl) ?_
          refine gX7 X hP110 7 (v := .ref (g.2.2 252)) rfl (by decide) rfl wd_890 dX7_drawn_185 ?_
          refine lv_aload_n hx hb dX7_drawn_188 rfl (lv_at hl104 0 rfl) ?_
          refine gX7 X hP110 7 (v := .ref (g.2.2 252)) rfl (by decide) rfl wd_890 dX7_drawn_189 ?_
          refine lv_iconst (v := 3) hx hb dX7_drawn_192 (by decide) ?_
          obtain ⟨hc114, hf115⟩ := chk_some hf112
          refine x_ildM X hP110 252 rfl hc114 dX7_drawn_193 ?_
          obtain ⟨x116, kk117, hg123, hf122⟩ := bd_some hf115
          refine x_ci (x_runS (As := [.ref (g.2.2 252), .int (kk107 252 (3 : Int32).toNatClampNeg)]) (rest := [.int v6]) X hP110 hS111 (tX7_overOf l X.2.2.2.2.2.2.1 (rfl : isMA 252 = true) hg123) mi_X7_226 rfl hl104.1 rfl (Nat.le_of_ble_eq_true rfl) dX7_drawn_194 ⟨Nat.le_of_ble_eq_true rfl, Nat.le_of_ble_eq_true rfl⟩ ⟨Nat.zero_le _, Nat.zero_le _⟩) hS111 (fun H118 lc119 hP120 hS121 => ?_)
          clear hf115 hP110 hS111 hg123
          refine lv_iadd hx hb dX7_drawn_197 ?_
          refine lv_topi (fun x124 ex124 => ?_)
          have hf125 := lk_at ex124 hf122
          clear hf122
          refine lv_istore (lv' := [(6, .int x124), (0, .ref (g.2.2 246)), (1, .int v1), (3, .int v3), (4, .long x68), (7, .int v7)]) hx hb dX7_drawn_198 hl104 (by decide) rfl (fun ls126 hl127 => ?_)
          clear hl104
          obtain ⟨x128, ex128⟩ : ∃ q : Int32, q = v7 + (1 : Int32) := ⟨_, rfl⟩
          have hf129 := lk_at ex128 hf125
          clear hf125
          refine lv_iinc (v := x128) (lv' := [(7, .int x128), (6, .int x124), (0, .ref (g.2.2 246)), (1, .int v1), (3, .int v3), (4, .long x68)]) hx hb dX7_drawn_200 hl127 (k := 5) rfl (by rw [ex128]; rfl) (by decide) rfl (fun ls130 hl131 => ?_)
          clear hl127
          refine lv_goto (tgt := 66) hx hb dX7_drawn_203 (by decide) ?_
          exact ih x68 x124 x128 kk117  _ _ _ hf129 hP120 hS121 (lv_sub hl131 [2, 3, 4, 5, 1, 0] rfl)
        clear eJ175_97
        refine lv_if_ne (tgt := 175) hx hb dX7_drawn_143 (by decide) (fun c133 => ?_) (fun c133 => ?_)
        · have hf134 := if_at_f c133 hf132
          clear hf132
          exact hJ175_97 kk90  _ _ _ hf134 hP93 hS94 (lv_sub hl88 [1, 2, 3, 4, 5, 6] rfl)
        · have hf135 := if_at_t c133 hf132
          clear hf132
          refine lv_aload_n hx hb dX7_drawn_146 rfl (lv_at hl88 1 rfl) ?_
          refine gX7 X hP93 7 (v := .ref (g.2.2 252)) rfl (by decide) rfl wd_890 dX7_drawn_147 ?_
          refine lv_iload hx hb dX7_drawn_150 (lv_at hl88 0 rfl) ?_
          refine lv_lload hx hb dX7_drawn_152 (lv_at hl88 4 rfl) ?_
          refine lv_aload_n hx hb dX7_drawn_154 rfl (lv_at hl88 1 rfl) ?_
          refine gX7 X hP93 7 (v := .ref (g.2.2 252)) rfl (by decide) rfl wd_890 dX7_drawn_155 ?_
          refine lv_iconst (v := 2) hx hb dX7_drawn_158 (by decide) ?_
          obtain ⟨hc136, hf137⟩ := chk_some hf135
          refine x_ildM X hP93 252 rfl hc136 dX7_drawn_159 ?_
          refine lv_i2l hx hb dX7_drawn_160 rfl ?_
          obtain ⟨hc138, hf139⟩ := chk_some hf137
          refine x_lrem X dX7_drawn_161 (nzL_in hc138) ?_
          refine lv_l2i hx hb dX7_drawn_162 rfl ?_
          refine lv_lload hx hb dX7_drawn_163 (lv_at hl88 4 rfl) ?_
          refine lv_ldc2 (v := 9) hx hb X.2.2.2.1 (X.2.2.2.2.1 _ wd_1131) dX7_drawn_165 ?_
          refine x_lrem X dX7_drawn_168 (by decide) ?_
          refine lv_l2i hx hb dX7_drawn_169 rfl ?_
          refine lv_iconst (v := 1) hx hb dX7_drawn_170 (by decide) ?_
          refine lv_iadd hx hb dX7_drawn_171 ?_
          obtain ⟨⟨⟩, kk141, hg147, hf146⟩ := bd_some hf139
          refine x_cv (x_runS (As := [.ref (g.2.2 252), .int x85, .int ((lrm x68 ((kk90 252 (2 : Int32).toNatClampNeg).toInt64)).toInt32), .int (((lrm x68 (9 : Int64)).toInt32) + (1 : Int32))]) (rest := []) X hP93 hS94 (tX7_letIn l X.2.2.2.2.2.2.1 (rfl : isMA 252 = true) hg147) mi_X7_217 rfl hl88.1 rfl (Nat.le_of_ble_eq_true rfl) dX7_drawn_172 ⟨Nat.le_of_ble_eq_true rfl, Nat.le_of_ble_eq_true rfl⟩ ⟨Nat.zero_le _, Nat.zero_le _⟩) hS94 (fun H142 lc143 hP144 hS145 => ?_)
          clear hf139 hP93 hS94 hg147
          exact hJ175_97 kk141  _ _ _ hf146 hP144 hS145 (lv_sub hl88 [1, 2, 3, 4, 5, 6] rfl)
      clear eJ121_72
      refine lv_if_ne (tgt := 121) hx hb dX7_drawn_92 (by decide) (fun c149 => ?_) (fun c149 => ?_)
      · have hf150 := if_at_f c149 hf148
        clear hf148
        exact hJ121_72 k  _ _ _ hf150 hP hS (lv_sub hl71 [1, 2, 3, 0, 4, 5] rfl)
      · have hf151 := if_at_t c149 hf148
        clear hf148
        refine lv_aload_n hx hb dX7_drawn_95 rfl (lv_at hl71 1 rfl) ?_
        refine gX7 X hP 7 (v := .ref (g.2.2 252)) rfl (by decide) rfl wd_890 dX7_drawn_96 ?_
        refine lv_bipush (v := 8) hx hb dX7_drawn_99 (by decide) ?_
        refine lv_lload hx hb dX7_drawn_101 (lv_at hl71 0 rfl) ?_
        refine lv_aload_n hx hb dX7_drawn_103 rfl (lv_at hl71 1 rfl) ?_
        refine gX7 X hP 7 (v := .ref (g.2.2 252)) rfl (by decide) rfl wd_890 dX7_drawn_104 ?_
        refine lv_iconst (v := 1) hx hb dX7_drawn_107 (by decide) ?_
        obtain ⟨hc152, hf153⟩ := chk_some hf151
        refine x_ildM X hP 252 rfl hc152 dX7_drawn_108 ?_
        refine lv_i2l hx hb dX7_drawn_109 rfl ?_
        obtain ⟨hc154, hf155⟩ := chk_some hf153
        refine x_lrem X dX7_drawn_110 (nzL_in hc154) ?_
        refine lv_l2i hx hb dX7_drawn_111 rfl ?_
        refine lv_iadd hx hb dX7_drawn_112 ?_
        refine lv_lload hx hb dX7_drawn_113 (lv_at hl71 0 rfl) ?_
        refine lv_ldc2 (v := 5) hx hb X.2.2.2.1 (X.2.2.2.2.1 _ wd_1266) dX7_drawn_115 ?_
        refine x_lrem X dX7_drawn_118 (by decide) ?_
        refine lv_l2i hx hb dX7_drawn_119 rfl ?_
        obtain ⟨hc156, hf157⟩ := chk_some hf155
        refine x_istM X hP hS 252 rfl hc156 dX7_drawn_120 (fun H158 lc159 kk160 ekk160 hP161 hS162 => ?_)
        have hf163 := lk_at ekk160 hf157
        clear hf157 hP hS
        exact hJ121_72 kk160  _ _ _ hf163 hP161 hS162 (lv_sub hl71 [1, 2, 3, 0, 4, 5] rfl)
set_option maxRecDepth 100000 in
set_option maxHeartbeats 4000000 in
theorem tX7_drawn (l : Launch) {g : Gx} (hI : InjG g) {h k k1 : Hp} {a1 : Int32} {a2 : Int32} {a3 : Int32} {r : Int32}   (hf : fX7_drawn a1 a2 a3 k = some (r, k1)) : CI l yX7_drawn cX7_drawn 9 (some .int) 4 g [.ref (g.2.2 246), .int a1, .int a2, .int a3] h k h k1 r := by
  refine Met.ofW (cc := cX7_drawn) (maxL := 9) (ret := (some .int)) (by decide) rfl ?_
  intro p en s m args below meth c s₁ B hml hv
  obtain ⟨rfl, hSK, hSH, hP⟩ := hv
  have X : Cx p s m _ c cX7_drawn 9 RX7 g := ⟨B.exec, B.bytes, hml, findClass_of_methodNamed B.named, fun w hw => atoms_spec (ws := wsy yX7_drawn cX7_drawn 9 (some .int)) B.pre w (List.mem_cons_of_mem _ hw), hSK, hI, hSH⟩
  have hr := B.returns
  have hlocks := B.notSynchronized
  have hx := X.1
  have hb := X.2.1
  have hS : va_S (inA g) s.heap s.heap [] := va_S.rf
  clear hSK hSH hml B
  have hl := lv_entry ([.ref (g.2.2 246), .int a1, .int a2, .int a3]) (n := 9) (Nat.le_of_ble_eq_true rfl)
  rw [lg_entry_eq]
  generalize (lg_sl ([.ref (g.2.2 246), .int a1, .int a2, .int a3]) ++ List.replicate (9 - (lg_sl ([.ref (g.2.2 246), .int a1, .int a2, .int a3])).length) Slot.unset).toArray = ls at hl ⊢
  have hl : lv_has ls 9 [(0, .ref (g.2.2 246)), (1, .int a1), (2, .int a2), (3, .int a3)] := hl
  generalize ([.ref (g.2.2 246), .int a1, .int a2, .int a3] : List Value).toArray = args at X ⊢
  show W p l en (rmD 4) s m args below meth c s.heap [] 0 0 (MQ below (QI g h k1 r) args s 0 0 (inA g)) (F0 m 0 ls [])
  unfold fX7_drawn at hf
  refine lv_aload_n hx hb dX7_drawn_0 rfl (lv_at hl 0 rfl) ?_
  refine lv_iconst (v := 0) hx hb dX7_drawn_1 (by decide) ?_
  refine pX7 X hP hS 0 (by decide) rfl wd_883 rfl rfl rfl rfl seX7_0 dX7_drawn_2 (fun H1 lc2 kk3 ekk3 hP4 hS5 => ?_)
  have hf6 := lk_at ekk3 hf
  clear hf hP hS
  refine lv_aload_n hx hb dX7_drawn_5 rfl (lv_at hl 0 rfl) ?_
  obtain ⟨x7, kk8, hg14, hf13⟩ := bd_some hf6
  refine x_ci (x_runV (As := []) (rest := []) X hP4 hS5 246 (by decide) cl_M rfl (tX7_isThere l X.2.2.2.2.2.2.1  hg14) mi_X7_187 rfl hl.1 rfl (Nat.le_of_ble_eq_true rfl) dX7_drawn_6 ⟨Nat.le_of_ble_eq_true rfl, Nat.le_of_ble_eq_true rfl⟩ ⟨Nat.zero_le _, Nat.zero_le _⟩) hS5 (fun H9 lc10 hP11 hS12 => ?_)
  clear hf6 hP4 hS5 hg14
  refine lv_if_ne (tgt := 15) hx hb dX7_drawn_9 (by decide) (fun c15 => ?_) (fun c15 => ?_)
  · have hf16 := if_at_f c15 hf13
    clear hf13
    refine lv_iload_n hx hb dX7_drawn_15 rfl (lv_at hl 1 rfl) ?_
    refine lv_i2l hx hb dX7_drawn_16 rfl ?_
    refine lv_lconst (v := 0) hx hb dX7_drawn_17 (by decide) ?_
    refine lv_ldc2 (v := 60) hx hb X.2.2.2.1 (X.2.2.2.2.1 _ wd_1164) dX7_drawn_18 ?_
    obtain ⟨x17, kk18, hg24, hf23⟩ := bd_some hf16
    refine x_ci (x_runS (As := [.long a1.toInt64, .long (0 : Int64), .long (60 : Int64)]) (rest := []) X hP11 hS12 (tX7_in l X.2.2.2.2.2.2.1  hg24) mi_X7_57 rfl hl.1 rfl (Nat.le_of_ble_eq_true rfl) dX7_drawn_21 ⟨Nat.le_of_ble_eq_true rfl, Nat.le_of_ble_eq_true rfl⟩ ⟨Nat.zero_le _, Nat.zero_le _⟩) hS12 (fun H19 lc20 hP21 hS22 => ?_)
    clear hf16 hP11 hS12 hg24
    refine lv_if_eq (tgt := 49) hx hb dX7_drawn_24 (by decide) (fun c25 => ?_) (fun c25 => ?_)
    · have hf26 := if_at_t c25 hf23
      clear hf23
      refine lv_ldc (v := -1000001) hx hb X.2.2.2.1 (X.2.2.2.2.1 _ wd_969) dX7_drawn_49 ?_
      obtain ⟨rfl, rfl⟩ := ret_inj hf26
      exact x_iret X hr hlocks hP21 hS22 dX7_drawn_51
    · have hf27 := if_at_f c25 hf23
      clear hf23
      refine lv_iload_n hx hb dX7_drawn_27 rfl (lv_at hl 2 rfl) ?_
      refine lv_i2l hx hb dX7_drawn_28 rfl ?_
      refine lv_lconst (v := 1) hx hb dX7_drawn_29 (by decide) ?_
      refine lv_ldc2 (v := 999999) hx hb X.2.2.2.1 (X.2.2.2.2.1 _ wd_1262) dX7_drawn_30 ?_
      obtain ⟨x28, kk29, hg35, hf34⟩ := bd_some hf27
      refine x_ci (x_runS (As := [.long a2.toInt64, .long (1 : Int64), .long (999999 : Int64)]) (rest := []) X hP21 hS22 (tX7_in l X.2.2.2.2.2.2.1  hg35) mi_X7_57 rfl hl.1 rfl (Nat.le_of_ble_eq_true rfl) dX7_drawn_33 ⟨Nat.le_of_ble_eq_true rfl, Nat.le_of_ble_eq_true rfl⟩ ⟨Nat.zero_le _, Nat.zero_le _⟩) hS22 (fun H30 lc31 hP32 hS33 => ?_)
      clear hf27 hP21 hS22 hg35
      refine lv_if_eq (tgt := 49) hx hb dX7_drawn_36 (by decide) (fun c36 => ?_) (fun c36 => ?_)
      · have hf37 := if_at_t c36 hf34
        clear hf34
        refine lv_ldc (v := -1000001) hx hb X.2.2.2.1 (X.2.2.2.2.1 _ wd_969) dX7_drawn_49 ?_
        obtain ⟨rfl, rfl⟩ := ret_inj hf37
        exact x_iret X hr hlocks hP32 hS33 dX7_drawn_51
      · have hf38 := if_at_f c36 hf34
        clear hf34
        refine lv_iload_n hx hb dX7_drawn_39 rfl (lv_at hl 3 rfl) ?_
        refine lv_i2l hx hb dX7_drawn_40 rfl ?_
        refine lv_lconst (v := 0) hx hb dX7_drawn_41 (by decide) ?_
        refine lv_lconst (v := 1) hx hb dX7_drawn_42 (by decide) ?_
        obtain ⟨x39, kk40, hg46, hf45⟩ := bd_some hf38
        refine x_ci (x_runS (As := [.long a3.toInt64, .long (0 : Int64), .long (1 : Int64)]) (rest := []) X hP32 hS33 (tX7_in l X.2.2.2.2.2.2.1  hg46) mi_X7_57 rfl hl.1 rfl (Nat.le_of_ble_eq_true rfl) dX7_drawn_43 ⟨Nat.le_of_ble_eq_true rfl, Nat.le_of_ble_eq_true rfl⟩ ⟨Nat.zero_le _, Nat.zero_le _⟩) hS33 (fun H41 lc42 hP43 hS44 => ?_)
        clear hf38 hP32 hS33 hg46
        refine lv_if_ne (tgt := 52) hx hb dX7_drawn_46 (by decide) (fun c47 => ?_) (fun c47 => ?_)
        · have hf48 := if_at_f c47 hf45
          clear hf45
          refine lv_aload_n hx hb dX7_drawn_52 rfl (lv_at hl 0 rfl) ?_
          obtain ⟨⟨⟩, kk50, hg56, hf55⟩ := bd_some hf48
          refine x_cv (x_runV (As := []) (rest := []) X hP43 hS44 246 (by decide) cl_M rfl (tX7_layThen l X.2.2.2.2.2.2.1  hg56) mi_X7_231 rfl hl.1 rfl (Nat.le_of_ble_eq_true rfl) dX7_drawn_53 ⟨Nat.le_of_ble_eq_true rfl, Nat.le_of_ble_eq_true rfl⟩ ⟨Nat.zero_le _, Nat.zero_le _⟩) hS44 (fun H51 lc52 hP53 hS54 => ?_)
          clear hf48 hP43 hS44 hg56
          refine lv_iload_n hx hb dX7_drawn_56 rfl (lv_at hl 2 rfl) ?_
          refine lv_i2l hx hb dX7_drawn_57 rfl ?_
          refine lv_topl (fun x57 ex57 => ?_)
          have hf58 := lk_at ex57 hf55
          clear hf55
          refine lv_lstore (lv' := [(4, .long x57), (0, .ref (g.2.2 246)), (1, .int a1), (2, .int a2), (3, .int a3)]) hx hb dX7_drawn_58 hl (by decide) rfl (fun ls59 hl60 => ?_)
          clear hl
          refine lv_iconst (v := 0) hx hb dX7_drawn_60 (by decide) ?_
          refine lv_istore (lv' := [(6, .int (0 : Int32)), (4, .long x57), (0, .ref (g.2.2 246)), (1, .int a1), (2, .int a2), (3, .int a3)]) hx hb dX7_drawn_61 hl60 (by decide) rfl (fun ls61 hl62 => ?_)
          clear hl60
          refine lv_iconst (v := 0) hx hb dX7_drawn_63 (by decide) ?_
          refine lv_istore (lv' := [(7, .int (0 : Int32)), (6, .int (0 : Int32)), (4, .long x57), (0, .ref (g.2.2 246)), (1, .int a1), (2, .int a2), (3, .int a3)]) hx hb dX7_drawn_64 hl62 (by decide) rfl (fun ls63 hl64 => ?_)
          clear hl62
          refine wX7_drawn_L66 X hr hlocks  ?_ 4096 x57 (0 : Int32) (0 : Int32) kk50 _ _ _  hf58 hP53 hS54 (lv_sub hl64 [3, 4, 6, 2, 1, 0] rfl)
          · intro x164 kk165 H166 lc167 ls168  hf172 hP169 hS170 hl171
            refine lv_iload_n hx hb dX7_drawn_206 rfl (lv_at hl171 1 rfl) ?_
            refine lv_if_ne (tgt := 223) hx hb dX7_drawn_207 (by decide) (fun c173 => ?_) (fun c173 => ?_)
            · have hf174 := if_at_f c173 hf172
              clear hf172
              refine lv_iload hx hb dX7_drawn_223 (lv_at hl171 2 rfl) ?_
              obtain ⟨rfl, rfl⟩ := ret_inj hf174
              exact x_iret X hr hlocks hP169 hS170 dX7_drawn_225
            · have hf175 := if_at_t c173 hf172
              clear hf172
              refine lv_aload_n hx hb dX7_drawn_210 rfl (lv_at hl171 0 rfl) ?_
              refine gX7 X hP169 7 (v := .ref (g.2.2 252)) rfl (by decide) rfl wd_890 dX7_drawn_211 ?_
              obtain ⟨x176, kk177, hg183, hf182⟩ := bd_some hf175
              refine x_ci (x_runS (As := [.ref (g.2.2 252)]) (rest := []) X hP169 hS170 (tX7_numbered l X.2.2.2.2.2.2.1 (rfl : isMA 252 = true) hg183) mi_X7_196 rfl hl171.1 rfl (Nat.le_of_ble_eq_true rfl) dX7_drawn_214 ⟨Nat.le_of_ble_eq_true rfl, Nat.le_of_ble_eq_true rfl⟩ ⟨Nat.zero_le _, Nat.zero_le _⟩) hS170 (fun H178 lc179 hP180 hS181 => ?_)
              clear hf175 hP169 hS170 hg183
              obtain ⟨x184, kk185, hg191, hf190⟩ := bd_some hf182
              refine x_ci (x_runS (As := [.int x176]) (rest := []) X hP180 hS181 (tX7_bits l X.2.2.2.2.2.2.1  hg191) mi_X7_199 rfl hl171.1 rfl (Nat.le_of_ble_eq_true rfl) dX7_drawn_217 ⟨Nat.le_of_ble_eq_true rfl, Nat.le_of_ble_eq_true rfl⟩ ⟨Nat.zero_le _, Nat.zero_le _⟩) hS181 (fun H186 lc187 hP188 hS189 => ?_)
              clear hf182 hP180 hS181 hg191
              refine lv_goto (tgt := 225) hx hb dX7_drawn_220 (by decide) ?_
              obtain ⟨rfl, rfl⟩ := ret_inj hf190
              exact x_iret X hr hlocks hP188 hS189 dX7_drawn_225
        · have hf192 := if_at_t c47 hf45
          clear hf45
          refine lv_ldc (v := -1000001) hx hb X.2.2.2.1 (X.2.2.2.2.1 _ wd_969) dX7_drawn_49 ?_
          obtain ⟨rfl, rfl⟩ := ret_inj hf192
          exact x_iret X hr hlocks hP43 hS44 dX7_drawn_51
  · have hf193 := if_at_t c15 hf13
    clear hf13
    refine lv_ldc (v := -1000002) hx hb X.2.2.2.1 (X.2.2.2.2.1 _ wd_1062) dX7_drawn_12 ?_
    obtain ⟨rfl, rfl⟩ := ret_inj hf193
    exact x_iret X hr hlocks hP11 hS12 dX7_drawn_14
set_option maxRecDepth 100000 in
set_option maxHeartbeats 4000000 in
theorem wX7_image_L30 {p : Program} {l : Launch} {en : Env} {s : State} {m : MethodId} {args : Array Value} {below : List Frame} {meth : Method} {c : Code} {g : Gx} (X : Cx p s m args c cX7_image 3 RX7 g) (hr : meth.sig.returnType = (some .int)) (hlocks : meth.locks = false) {h k1 : Hp} {r : Int32} {v1 : Int32}  
     :
    ∀ (n : Nat) (v2 : Int32) (k : Hp) (H : Heap) (locs : List Loc) (ls : Array Slot), fX7_image_L30 n v1 v2 k = some (r, k1) → va_P g.1 vwCl (WW g h k) H → va_S (inA g) s.heap H locs → lv_has ls 3 [(0, .ref (g.2.2 246)), (1, .int v1), (2, .int v2)] → W p l en (rmD 1) s m args below meth c H locs 0 0 (MQ below (QI g h k1 r) args s 0 0 (inA g)) (F0 m 30 ls []) := by
  have hx := X.1
  have hb := X.2.1
  intro n
  induction n with
  | zero => intro v2 k H locs ls  hf; simp only [fX7_image_L30, reduceCtorEq] at hf
  | succ n ih =>
    intro v2 k H locs ls  hf hP hS hl
    rw [fX7_image_L30] at hf
    refine lv_iload_n hx hb dX7_image_30 rfl (lv_at hl 2 rfl) ?_
    refine lv_bipush (v := 50) hx hb dX7_image_31 (by decide) ?_
    refine lv_icmp_ge (tgt := 59) hx hb dX7_image_33 (by decide) (fun c29 => ?_) (fun c29 => ?_)
    · have hf30 := if_at_t c29 hf
      clear hf
      refine lv_aload_n hx hb dX7_image_59 rfl (lv_at hl 0 rfl) ?_
      refine gX7 X hP 20 (v := .ref (g.2.2 256)) rfl (by decide) rfl wd_903 dX7_image_60 ?_
      refine lv_iload_n hx hb dX7_image_63 rfl (lv_at hl 1 rfl) ?_
      refine lv_iconst (v := 1) hx hb dX7_image_64 (by decide) ?_
      obtain ⟨hc31, hf32⟩ := chk_some hf30
      refine x_zstM X hP hS hc31 dX7_image_65 (fun H33 lc34 kk35 ekk35 hP36 hS37 => ?_)
      have hf38 := lk_at ekk35 hf32
      clear hf32 hP hS
      refine lv_iconst (v := 1) hx hb dX7_image_66 (by decide) ?_
      obtain ⟨rfl, rfl⟩ := ret_inj hf38
      exact x_iret X hr hlocks hP36 hS37 dX7_image_67
    · have hf39 := if_at_f c29 hf
      clear hf
      refine lv_aload_n hx hb dX7_image_36 rfl (lv_at hl 0 rfl) ?_
      refine gX7 X hP 21 (v := .ref (g.2.2 257)) rfl (by decide) rfl wd_904 dX7_image_37 ?_
      refine lv_bipush (v := 50) hx hb dX7_image_40 (by decide) ?_
      refine lv_iload_n hx hb dX7_image_42 rfl (lv_at hl 1 rfl) ?_
      refine lv_imul hx hb dX7_image_43 ?_
      refine lv_iload_n hx hb dX7_image_44 rfl (lv_at hl 2 rfl) ?_
      refine lv_iadd hx hb dX7_image_45 ?_
      refine lv_aload_n hx hb dX7_image_46 rfl (lv_at hl 0 rfl) ?_
      refine gX7 X hP 5 (v := .ref (g.2.2 250)) rfl (by decide) rfl wd_888 dX7_image_47 ?_
      refine lv_iload_n hx hb dX7_image_50 rfl (lv_at hl 2 rfl) ?_
      obtain ⟨hc40, hf41⟩ := chk_some hf39
      refine x_ildM X hP 250 rfl hc40 dX7_image_51 ?_
      obtain ⟨hc42, hf43⟩ := chk_some hf41
      refine x_istM X hP hS 257 rfl hc42 dX7_image_52 (fun H44 lc45 kk46 ekk46 hP47 hS48 => ?_)
      have hf49 := lk_at ekk46 hf43
      clear hf43 hP hS
      obtain ⟨x50, ex50⟩ : ∃ q : Int32, q = v2 + (1 : Int32) := ⟨_, rfl⟩
      have hf51 := lk_at ex50 hf49
      clear hf49
      refine lv_iinc (v := x50) (lv' := [(2, .int x50), (0, .ref (g.2.2 246)), (1, .int v1)]) hx hb dX7_image_53 hl (k := 2) rfl (by rw [ex50]; rfl) (by decide) rfl (fun ls52 hl53 => ?_)
      clear hl
      refine lv_goto (tgt := 30) hx hb dX7_image_56 (by decide) ?_
      exact ih x50 kk46  _ _ _ hf51 hP47 hS48 (lv_sub hl53 [1, 2, 0] rfl)
set_option maxRecDepth 100000 in
set_option maxHeartbeats 4000000 in
theorem tX7_image (l : Launch) {g : Gx} (hI : InjG g) {h k k1 : Hp} {a1 : Int32} {r : Int32}   (hf : fX7_image a1 k = some (r, k1)) : CI l yX7_image cX7_image 3 (some .int) 1 g [.ref (g.2.2 246), .int a1] h k h k1 r := by
  refine Met.ofW (cc := cX7_image) (maxL := 3) (ret := (some .int)) (by decide) rfl ?_
  intro p en s m args below meth c s₁ B hml hv
  obtain ⟨rfl, hSK, hSH, hP⟩ := hv
  have X : Cx p s m _ c cX7_image 3 RX7 g := ⟨B.exec, B.bytes, hml, findClass_of_methodNamed B.named, fun w hw => atoms_spec (ws := wsy yX7_image cX7_image 3 (some .int)) B.pre w (List.mem_cons_of_mem _ hw), hSK, hI, hSH⟩
  have hr := B.returns
  have hlocks := B.notSynchronized
  have hx := X.1
  have hb := X.2.1
  have hS : va_S (inA g) s.heap s.heap [] := va_S.rf
  clear hSK hSH hml B
  have hl := lv_entry ([.ref (g.2.2 246), .int a1]) (n := 3) (Nat.le_of_ble_eq_true rfl)
  rw [lg_entry_eq]
  generalize (lg_sl ([.ref (g.2.2 246), .int a1]) ++ List.replicate (3 - (lg_sl ([.ref (g.2.2 246), .int a1])).length) Slot.unset).toArray = ls at hl ⊢
  have hl : lv_has ls 3 [(0, .ref (g.2.2 246)), (1, .int a1)] := hl
  generalize ([.ref (g.2.2 246), .int a1] : List Value).toArray = args at X ⊢
  show W p l en (rmD 1) s m args below meth c s.heap [] 0 0 (MQ below (QI g h k1 r) args s 0 0 (inA g)) (F0 m 0 ls [])
  unfold fX7_image at hf
  refine lv_aload_n hx hb dX7_image_0 rfl (lv_at hl 0 rfl) ?_
  refine lv_iconst (v := 0) hx hb dX7_image_1 (by decide) ?_
  refine pX7 X hP hS 0 (by decide) rfl wd_883 rfl rfl rfl rfl seX7_0 dX7_image_2 (fun H1 lc2 kk3 ekk3 hP4 hS5 => ?_)
  have hf6 := lk_at ekk3 hf
  clear hf hP hS
  refine lv_iload_n hx hb dX7_image_5 rfl (lv_at hl 1 rfl) ?_
  refine lv_i2l hx hb dX7_image_6 rfl ?_
  refine lv_lconst (v := 0) hx hb dX7_image_7 (by decide) ?_
  refine lv_lconst (v := 1) hx hb dX7_image_8 (by decide) ?_
  obtain ⟨x7, kk8, hg14, hf13⟩ := bd_some hf6
  refine x_ci (x_runS (As := [.long a1.toInt64, .long (0 : Int64), .long (1 : Int64)]) (rest := []) X hP4 hS5 (tX7_in l X.2.2.2.2.2.2.1  hg14) mi_X7_57 rfl hl.1 rfl (Nat.le_of_ble_eq_true rfl) dX7_image_9 ⟨Nat.le_of_ble_eq_true rfl, Nat.le_of_ble_eq_true rfl⟩ ⟨Nat.zero_le _, Nat.zero_le _⟩) hS5 (fun H9 lc10 hP11 hS12 => ?_)
  clear hf6 hP4 hS5 hg14
  refine lv_if_ne (tgt := 18) hx hb dX7_image_12 (by decide) (fun c15 => ?_) (fun c15 => ?_)
  · have hf16 := if_at_f c15 hf13
    clear hf13
    refine lv_aload_n hx hb dX7_image_18 rfl (lv_at hl 0 rfl) ?_
    obtain ⟨x17, kk18, hg24, hf23⟩ := bd_some hf16
    refine x_ci (x_runV (As := []) (rest := []) X hP11 hS12 246 (by decide) cl_M rfl (tX7_isThere l X.2.2.2.2.2.2.1  hg24) mi_X7_187 rfl hl.1 rfl (Nat.le_of_ble_eq_true rfl) dX7_image_19 ⟨Nat.le_of_ble_eq_true rfl, Nat.le_of_ble_eq_true rfl⟩ ⟨Nat.zero_le _, Nat.zero_le _⟩) hS12 (fun H19 lc20 hP21 hS22 => ?_)
    clear hf16 hP11 hS12 hg24
    refine lv_if_ne (tgt := 28) hx hb dX7_image_22 (by decide) (fun c25 => ?_) (fun c25 => ?_)
    · have hf26 := if_at_f c25 hf23
      clear hf23
      refine lv_iconst (v := 0) hx hb dX7_image_28 (by decide) ?_
      refine lv_istore_n (lv' := [(2, .int (0 : Int32)), (0, .ref (g.2.2 246)), (1, .int a1)]) hx hb dX7_image_29 rfl hl (by decide) rfl (fun ls27 hl28 => ?_)
      clear hl
      refine wX7_image_L30 X hr hlocks   4096 (0 : Int32) kk18 _ _ _  hf26 hP21 hS22 (lv_sub hl28 [1, 2, 0] rfl)
    · have hf54 := if_at_t c25 hf23
      clear hf23
      refine lv_ldc (v := -1000002) hx hb X.2.2.2.1 (X.2.2.2.2.1 _ wd_1062) dX7_image_25 ?_
      obtain ⟨rfl, rfl⟩ := ret_inj hf54
      exact x_iret X hr hlocks hP21 hS22 dX7_image_27
  · have hf55 := if_at_t c15 hf13
    clear hf13
    refine lv_ldc (v := -1000001) hx hb X.2.2.2.1 (X.2.2.2.2.1 _ wd_969) dX7_image_15 ?_
    obtain ⟨rfl, rfl⟩ := ret_inj hf55
    exact x_iret X hr hlocks hP11 hS12 dX7_image_17
set_option maxRecDepth 100000 in
set_option maxHeartbeats 4000000 in
theorem wX7_restore_L32 {p : Program} {l : Launch} {en : Env} {s : State} {m : MethodId} {args : Array Value} {below : List Frame} {meth : Method} {c : Code} {g : Gx} (X : Cx p s m args c cX7_restore 3 RX7 g) (hr : meth.sig.returnType = (some .int)) (hlocks : meth.locks = false) {h k1 : Hp} {r : Int32} {v1 : Int32}  
     :
    ∀ (n : Nat) (v2 : Int32) (k : Hp) (H : Heap) (locs : List Loc) (ls : Array Slot), fX7_restore_L32 n v1 v2 k = some (r, k1) → va_P g.1 vwCl (WW g h k) H → va_S (inA g) s.heap H locs → lv_has ls 3 [(0, .ref (g.2.2 246)), (1, .int v1), (2, .int v2)] → W p l en (rmD 1) s m args below meth c H locs 0 0 (MQ below (QI g h k1 r) args s 0 0 (inA g)) (F0 m 32 ls []) := by
  have hx := X.1
  have hb := X.2.1
  intro n
  induction n with
  | zero => intro v2 k H locs ls  hf; simp only [fX7_restore_L32, reduceCtorEq] at hf
  | succ n ih =>
    intro v2 k H locs ls  hf hP hS hl
    rw [fX7_restore_L32] at hf
    refine lv_iload_n hx hb dX7_restore_32 rfl (lv_at hl 2 rfl) ?_
    refine lv_bipush (v := 50) hx hb dX7_restore_33 (by decide) ?_
    refine lv_icmp_ge (tgt := 61) hx hb dX7_restore_35 (by decide) (fun c23 => ?_) (fun c23 => ?_)
    · have hf24 := if_at_t c23 hf
      clear hf
      refine lv_aload_n hx hb dX7_restore_61 rfl (lv_at hl 0 rfl) ?_
      refine lv_iconst (v := 0) hx hb dX7_restore_62 (by decide) ?_
      refine pX7 X hP hS 9 (by decide) rfl wd_892 rfl rfl rfl rfl seX7_9 dX7_restore_63 (fun H25 lc26 kk27 ekk27 hP28 hS29 => ?_)
      have hf30 := lk_at ekk27 hf24
      clear hf24 hP hS
      refine lv_iconst (v := 1) hx hb dX7_restore_66 (by decide) ?_
      obtain ⟨rfl, rfl⟩ := ret_inj hf30
      exact x_iret X hr hlocks hP28 hS29 dX7_restore_67
    · have hf31 := if_at_f c23 hf
      clear hf
      refine lv_aload_n hx hb dX7_restore_38 rfl (lv_at hl 0 rfl) ?_
      refine gX7 X hP 5 (v := .ref (g.2.2 250)) rfl (by decide) rfl wd_888 dX7_restore_39 ?_
      refine lv_iload_n hx hb dX7_restore_42 rfl (lv_at hl 2 rfl) ?_
      refine lv_aload_n hx hb dX7_restore_43 rfl (lv_at hl 0 rfl) ?_
      refine gX7 X hP 21 (v := .ref (g.2.2 257)) rfl (by decide) rfl wd_904 dX7_restore_44 ?_
      refine lv_bipush (v := 50) hx hb dX7_restore_47 (by decide) ?_
      refine lv_iload_n hx hb dX7_restore_49 rfl (lv_at hl 1 rfl) ?_
      refine lv_imul hx hb dX7_restore_50 ?_
      refine lv_iload_n hx hb dX7_restore_51 rfl (lv_at hl 2 rfl) ?_
      refine lv_iadd hx hb dX7_restore_52 ?_
      obtain ⟨hc32, hf33⟩ := chk_some hf31
      refine x_ildM X hP 257 rfl hc32 dX7_restore_53 ?_
      obtain ⟨hc34, hf35⟩ := chk_some hf33
      refine x_istM X hP hS 250 rfl hc34 dX7_restore_54 (fun H36 lc37 kk38 ekk38 hP39 hS40 => ?_)
      have hf41 := lk_at ekk38 hf35
      clear hf35 hP hS
      obtain ⟨x42, ex42⟩ : ∃ q : Int32, q = v2 + (1 : Int32) := ⟨_, rfl⟩
      have hf43 := lk_at ex42 hf41
      clear hf41
      refine lv_iinc (v := x42) (lv' := [(2, .int x42), (0, .ref (g.2.2 246)), (1, .int v1)]) hx hb dX7_restore_55 hl (k := 2) rfl (by rw [ex42]; rfl) (by decide) rfl (fun ls44 hl45 => ?_)
      clear hl
      refine lv_goto (tgt := 32) hx hb dX7_restore_58 (by decide) ?_
      exact ih x42 kk38  _ _ _ hf43 hP39 hS40 (lv_sub hl45 [1, 2, 0] rfl)
set_option maxRecDepth 100000 in
set_option maxHeartbeats 4000000 in
theorem tX7_restore (l : Launch) {g : Gx} (hI : InjG g) {h k k1 : Hp} {a1 : Int32} {r : Int32}   (hf : fX7_restore a1 k = some (r, k1)) : CI l yX7_restore cX7_restore 3 (some .int) 1 g [.ref (g.2.2 246), .int a1] h k h k1 r := by
  refine Met.ofW (cc := cX7_restore) (maxL := 3) (ret := (some .int)) (by decide) rfl ?_
  intro p en s m args below meth c s₁ B hml hv
  obtain ⟨rfl, hSK, hSH, hP⟩ := hv
  have X : Cx p s m _ c cX7_restore 3 RX7 g := ⟨B.exec, B.bytes, hml, findClass_of_methodNamed B.named, fun w hw => atoms_spec (ws := wsy yX7_restore cX7_restore 3 (some .int)) B.pre w (List.mem_cons_of_mem _ hw), hSK, hI, hSH⟩
  have hr := B.returns
  have hlocks := B.notSynchronized
  have hx := X.1
  have hb := X.2.1
  have hS : va_S (inA g) s.heap s.heap [] := va_S.rf
  clear hSK hSH hml B
  have hl := lv_entry ([.ref (g.2.2 246), .int a1]) (n := 3) (Nat.le_of_ble_eq_true rfl)
  rw [lg_entry_eq]
  generalize (lg_sl ([.ref (g.2.2 246), .int a1]) ++ List.replicate (3 - (lg_sl ([.ref (g.2.2 246), .int a1])).length) Slot.unset).toArray = ls at hl ⊢
  have hl : lv_has ls 3 [(0, .ref (g.2.2 246)), (1, .int a1)] := hl
  generalize ([.ref (g.2.2 246), .int a1] : List Value).toArray = args at X ⊢
  show W p l en (rmD 1) s m args below meth c s.heap [] 0 0 (MQ below (QI g h k1 r) args s 0 0 (inA g)) (F0 m 0 ls [])
  unfold fX7_restore at hf
  refine lv_aload_n hx hb dX7_restore_0 rfl (lv_at hl 0 rfl) ?_
  refine lv_iconst (v := 0) hx hb dX7_restore_1 (by decide) ?_
  refine pX7 X hP hS 0 (by decide) rfl wd_883 rfl rfl rfl rfl seX7_0 dX7_restore_2 (fun H1 lc2 kk3 ekk3 hP4 hS5 => ?_)
  have hf6 := lk_at ekk3 hf
  clear hf hP hS
  refine lv_iload_n hx hb dX7_restore_5 rfl (lv_at hl 1 rfl) ?_
  refine lv_i2l hx hb dX7_restore_6 rfl ?_
  refine lv_lconst (v := 0) hx hb dX7_restore_7 (by decide) ?_
  refine lv_lconst (v := 1) hx hb dX7_restore_8 (by decide) ?_
  obtain ⟨x7, kk8, hg14, hf13⟩ := bd_some hf6
  refine x_ci (x_runS (As := [.long a1.toInt64, .long (0 : Int64), .long (1 : Int64)]) (rest := []) X hP4 hS5 (tX7_in l X.2.2.2.2.2.2.1  hg14) mi_X7_57 rfl hl.1 rfl (Nat.le_of_ble_eq_true rfl) dX7_restore_9 ⟨Nat.le_of_ble_eq_true rfl, Nat.le_of_ble_eq_true rfl⟩ ⟨Nat.zero_le _, Nat.zero_le _⟩) hS5 (fun H9 lc10 hP11 hS12 => ?_)
  clear hf6 hP4 hS5 hg14
  refine lv_if_ne (tgt := 18) hx hb dX7_restore_12 (by decide) (fun c15 => ?_) (fun c15 => ?_)
  · have hf16 := if_at_f c15 hf13
    clear hf13
    refine lv_aload_n hx hb dX7_restore_18 rfl (lv_at hl 0 rfl) ?_
    refine gX7 X hP11 20 (v := .ref (g.2.2 256)) rfl (by decide) rfl wd_903 dX7_restore_19 ?_
    refine lv_iload_n hx hb dX7_restore_22 rfl (lv_at hl 1 rfl) ?_
    obtain ⟨hc17, hf18⟩ := chk_some hf16
    refine x_zldM X hP11 hc17 dX7_restore_23 ?_
    refine lv_if_ne (tgt := 30) hx hb dX7_restore_24 (by decide) (fun c19 => ?_) (fun c19 => ?_)
    · have hf20 := if_at_f c19 hf18
      clear hf18
      refine lv_iconst (v := 0) hx hb dX7_restore_30 (by decide) ?_
      refine lv_istore_n (lv' := [(2, .int (0 : Int32)), (0, .ref (g.2.2 246)), (1, .int a1)]) hx hb dX7_restore_31 rfl hl (by decide) rfl (fun ls21 hl22 => ?_)
      clear hl
      refine wX7_restore_L32 X hr hlocks   4096 (0 : Int32) kk8 _ _ _  hf20 hP11 hS12 (lv_sub hl22 [1, 2, 0] rfl)
    · have hf46 := if_at_t c19 hf18
      clear hf18
      refine lv_ldc (v := -1000002) hx hb X.2.2.2.1 (X.2.2.2.2.1 _ wd_1062) dX7_restore_27 ?_
      obtain ⟨rfl, rfl⟩ := ret_inj hf46
      exact x_iret X hr hlocks hP11 hS12 dX7_restore_29
  · have hf47 := if_at_t c15 hf13
    clear hf13
    refine lv_ldc (v := -1000001) hx hb X.2.2.2.1 (X.2.2.2.2.1 _ wd_969) dX7_restore_15 ?_
    obtain ⟨rfl, rfl⟩ := ret_inj hf47
    exact x_iret X hr hlocks hP11 hS12 dX7_restore_17
set_option maxRecDepth 100000 in
set_option maxHeartbeats 4000000 in
theorem tX7_isOf (l : Launch) {g : Gx} (hI : InjG g) {h k k1 : Hp} {a1 : Int32} {a2 : Int32} {r : Int32}   (hf : fX7_isOf a1 a2 k = some (r, k1)) : CI l yX7_isOf cX7_isOf 2 (some .boolean) 0 g [.int a1, .int a2] h k h k1 r := by
  refine Met.ofW (cc := cX7_isOf) (maxL := 2) (ret := (some .boolean)) (by decide) rfl ?_
  intro p en s m args below meth c s₁ B hml hv
  obtain ⟨rfl, hSK, hSH, hP⟩ := hv
  have X : Cx p s m _ c cX7_isOf 2 RX7 g := ⟨B.exec, B.bytes, hml, findClass_of_methodNamed B.named, fun w hw => atoms_spec (ws := wsy yX7_isOf cX7_isOf 2 (some .boolean)) B.pre w (List.mem_cons_of_mem _ hw), hSK, hI, hSH⟩
  have hr := B.returns
  have hlocks := B.notSynchronized
  have hx := X.1
  have hb := X.2.1
  have hS : va_S (inA g) s.heap s.heap [] := va_S.rf
  clear hSK hSH hml B
  have hl := lv_entry ([.int a1, .int a2]) (n := 2) (Nat.le_of_ble_eq_true rfl)
  rw [lg_entry_eq]
  generalize (lg_sl ([.int a1, .int a2]) ++ List.replicate (2 - (lg_sl ([.int a1, .int a2])).length) Slot.unset).toArray = ls at hl ⊢
  have hl : lv_has ls 2 [(0, .int a1), (1, .int a2)] := hl
  generalize ([.int a1, .int a2] : List Value).toArray = args at X ⊢
  show W p l en (rmD 0) s m args below meth c s.heap [] 0 0 (MQ below (QI g h k1 r) args s 0 0 (inA g)) (F0 m 0 ls [])
  unfold fX7_isOf at hf
  refine lv_iload_n hx hb dX7_isOf_0 rfl (lv_at hl 1 rfl) ?_
  refine lv_if_eq (tgt := 29) hx hb dX7_isOf_1 (by decide) (fun c1 => ?_) (fun c1 => ?_)
  · have hf2 := if_at_t c1 hf
    clear hf
    refine lv_iconst (v := 1) hx hb dX7_isOf_29 (by decide) ?_
    refine lv_goto (tgt := 34) hx hb dX7_isOf_30 (by decide) ?_
    obtain ⟨rfl, rfl⟩ := ret_inj hf2
    exact x_zret X hr hlocks rfl hP hS dX7_isOf_34
  · have hf3 := if_at_f c1 hf
    clear hf
    refine lv_iload_n hx hb dX7_isOf_4 rfl (lv_at hl 0 rfl) ?_
    refine lv_iload_n hx hb dX7_isOf_5 rfl (lv_at hl 1 rfl) ?_
    refine lv_icmp_eq (tgt := 29) hx hb dX7_isOf_6 (by decide) (fun c4 => ?_) (fun c4 => ?_)
    · have hf5 := if_at_t c4 hf3
      clear hf3
      refine lv_iconst (v := 1) hx hb dX7_isOf_29 (by decide) ?_
      refine lv_goto (tgt := 34) hx hb dX7_isOf_30 (by decide) ?_
      obtain ⟨rfl, rfl⟩ := ret_inj hf5
      exact x_zret X hr hlocks rfl hP hS dX7_isOf_34
    · have hf6 := if_at_f c4 hf3
      clear hf3
      refine lv_iload_n hx hb dX7_isOf_9 rfl (lv_at hl 1 rfl) ?_
      refine lv_iconst (v := 1) hx hb dX7_isOf_10 (by decide) ?_
      obtain ⟨J19_7, eJ19_7, hf22⟩ := jp_at hf6
      clear hf6
      have hJ19_7 : ∀  (kk8 : Hp) (H9 : Heap) (lc10 : List Loc) (ls11 : Array Slot), J19_7  kk8 = some (r, k1) → va_P g.1 vwCl (WW g h kk8) H9 → va_S (inA g) s.heap H9 lc10 → lv_has ls11 2 [(0, .int a1), (1, .int a2)] → W p l en (rmD 0) s m args below meth c H9 lc10 0 0 (MQ below (QI g h k1 r) args s 0 0 (inA g)) (F0 m 19 ls11 []) := by
        intro  kk8 H9 lc10 ls11 hf15 hP12 hS13 hl14
        clear hf22 hP hS hl
        subst eJ19_7
        refine lv_iload_n hx hb dX7_isOf_19 rfl (lv_at hl14 1 rfl) ?_
        refine lv_iconst (v := 4) hx hb dX7_isOf_20 (by decide) ?_
        refine lv_icmp_ne (tgt := 33) hx hb dX7_isOf_21 (by decide) (fun c16 => ?_) (fun c16 => ?_)
        · have hf17 := if_at_f c16 hf15
          clear hf15
          refine lv_iconst (v := 0) hx hb dX7_isOf_33 (by decide) ?_
          obtain ⟨rfl, rfl⟩ := ret_inj hf17
          exact x_zret X hr hlocks rfl hP12 hS13 dX7_isOf_34
        · have hf18 := if_at_t c16 hf15
          clear hf15
          refine lv_iload_n hx hb dX7_isOf_24 rfl (lv_at hl14 0 rfl) ?_
          refine lv_iconst (v := 5) hx hb dX7_isOf_25 (by decide) ?_
          refine lv_icmp_ne (tgt := 33) hx hb dX7_isOf_26 (by decide) (fun c19 => ?_) (fun c19 => ?_)
          · have hf20 := if_at_f c19 hf18
            clear hf18
            refine lv_iconst (v := 0) hx hb dX7_isOf_33 (by decide) ?_
            obtain ⟨rfl, rfl⟩ := ret_inj hf20
            exact x_zret X hr hlocks rfl hP12 hS13 dX7_isOf_34
          · have hf21 := if_at_t c19 hf18
            clear hf18
            refine lv_iconst (v := 1) hx hb dX7_isOf_29 (by decide) ?_
            refine lv_goto (tgt := 34) hx hb dX7_isOf_30 (by decide) ?_
            obtain ⟨rfl, rfl⟩ := ret_inj hf21
            exact x_zret X hr hlocks rfl hP12 hS13 dX7_isOf_34
      clear eJ19_7
      refine lv_icmp_ne (tgt := 19) hx hb dX7_isOf_11 (by decide) (fun c23 => ?_) (fun c23 => ?_)
      · have hf24 := if_at_f c23 hf22
        clear hf22
        exact hJ19_7 k  _ _ _ hf24 hP hS (lv_sub hl [0, 1] rfl)
      · have hf25 := if_at_t c23 hf22
        clear hf22
        refine lv_iload_n hx hb dX7_isOf_14 rfl (lv_at hl 0 rfl) ?_
        refine lv_iconst (v := 4) hx hb dX7_isOf_15 (by decide) ?_
        refine lv_icmp_lt (tgt := 29) hx hb dX7_isOf_16 (by decide) (fun c26 => ?_) (fun c26 => ?_)
        · have hf27 := if_at_t c26 hf25
          clear hf25
          refine lv_iconst (v := 1) hx hb dX7_isOf_29 (by decide) ?_
          refine lv_goto (tgt := 34) hx hb dX7_isOf_30 (by decide) ?_
          obtain ⟨rfl, rfl⟩ := ret_inj hf27
          exact x_zret X hr hlocks rfl hP hS dX7_isOf_34
        · have hf28 := if_at_f c26 hf25
          clear hf25
          exact hJ19_7 k  _ _ _ hf28 hP hS (lv_sub hl [0, 1] rfl)
set_option maxRecDepth 100000 in
set_option maxHeartbeats 4000000 in
theorem tX7_kind (l : Launch) {g : Gx} (hI : InjG g) {h k k1 : Hp} {a1 : Int32} {r : Int32}   (hf : fX7_kind a1 k = some (r, k1)) : CI l yX7_kind cX7_kind 2 (some .int) 2 g [.ref (g.2.2 246), .int a1] h k h k1 r := by
  refine Met.ofW (cc := cX7_kind) (maxL := 2) (ret := (some .int)) (by decide) rfl ?_
  intro p en s m args below meth c s₁ B hml hv
  obtain ⟨rfl, hSK, hSH, hP⟩ := hv
  have X : Cx p s m _ c cX7_kind 2 RX7 g := ⟨B.exec, B.bytes, hml, findClass_of_methodNamed B.named, fun w hw => atoms_spec (ws := wsy yX7_kind cX7_kind 2 (some .int)) B.pre w (List.mem_cons_of_mem _ hw), hSK, hI, hSH⟩
  have hr := B.returns
  have hlocks := B.notSynchronized
  have hx := X.1
  have hb := X.2.1
  have hS : va_S (inA g) s.heap s.heap [] := va_S.rf
  clear hSK hSH hml B
  have hl := lv_entry ([.ref (g.2.2 246), .int a1]) (n := 2) (Nat.le_of_ble_eq_true rfl)
  rw [lg_entry_eq]
  generalize (lg_sl ([.ref (g.2.2 246), .int a1]) ++ List.replicate (2 - (lg_sl ([.ref (g.2.2 246), .int a1])).length) Slot.unset).toArray = ls at hl ⊢
  have hl : lv_has ls 2 [(0, .ref (g.2.2 246)), (1, .int a1)] := hl
  generalize ([.ref (g.2.2 246), .int a1] : List Value).toArray = args at X ⊢
  show W p l en (rmD 2) s m args below meth c s.heap [] 0 0 (MQ below (QI g h k1 r) args s 0 0 (inA g)) (F0 m 0 ls [])
  unfold fX7_kind at hf
  refine lv_aload_n hx hb dX7_kind_0 rfl (lv_at hl 0 rfl) ?_
  refine lv_iconst (v := 0) hx hb dX7_kind_1 (by decide) ?_
  refine pX7 X hP hS 0 (by decide) rfl wd_883 rfl rfl rfl rfl seX7_0 dX7_kind_2 (fun H1 lc2 kk3 ekk3 hP4 hS5 => ?_)
  have hf6 := lk_at ekk3 hf
  clear hf hP hS
  refine lv_aload_n hx hb dX7_kind_5 rfl (lv_at hl 0 rfl) ?_
  refine lv_iload_n hx hb dX7_kind_6 rfl (lv_at hl 1 rfl) ?_
  obtain ⟨x7, kk8, hg14, hf13⟩ := bd_some hf6
  refine x_ci (x_runV (As := [.int a1]) (rest := []) X hP4 hS5 246 (by decide) cl_M rfl (tX7_isSheet l X.2.2.2.2.2.2.1  hg14) mi_X7_212 rfl hl.1 rfl (Nat.le_of_ble_eq_true rfl) dX7_kind_7 ⟨Nat.le_of_ble_eq_true rfl, Nat.le_of_ble_eq_true rfl⟩ ⟨Nat.zero_le _, Nat.zero_le _⟩) hS5 (fun H9 lc10 hP11 hS12 => ?_)
  clear hf6 hP4 hS5 hg14
  refine lv_if_eq (tgt := 25) hx hb dX7_kind_10 (by decide) (fun c15 => ?_) (fun c15 => ?_)
  · have hf16 := if_at_t c15 hf13
    clear hf13
    refine lv_ldc (v := -1000001) hx hb X.2.2.2.1 (X.2.2.2.2.1 _ wd_969) dX7_kind_25 ?_
    obtain ⟨rfl, rfl⟩ := ret_inj hf16
    exact x_iret X hr hlocks hP11 hS12 dX7_kind_27
  · have hf17 := if_at_f c15 hf13
    clear hf13
    refine lv_aload_n hx hb dX7_kind_13 rfl (lv_at hl 0 rfl) ?_
    refine gX7 X hP11 5 (v := .ref (g.2.2 250)) rfl (by decide) rfl wd_888 dX7_kind_14 ?_
    refine lv_iload_n hx hb dX7_kind_17 rfl (lv_at hl 1 rfl) ?_
    refine lv_iconst (v := 0) hx hb dX7_kind_18 (by decide) ?_
    obtain ⟨x18, kk19, hg25, hf24⟩ := bd_some hf17
    refine x_ci (x_runS (As := [.ref (g.2.2 250), .int a1, .int (0 : Int32)]) (rest := []) X hP11 hS12 (tX7_of l X.2.2.2.2.2.2.1 (rfl : isMA 250 = true) hg25) mi_X7_152 rfl hl.1 rfl (Nat.le_of_ble_eq_true rfl) dX7_kind_19 ⟨Nat.le_of_ble_eq_true rfl, Nat.le_of_ble_eq_true rfl⟩ ⟨Nat.zero_le _, Nat.zero_le _⟩) hS12 (fun H20 lc21 hP22 hS23 => ?_)
    clear hf17 hP11 hS12 hg25
    refine lv_goto (tgt := 27) hx hb dX7_kind_22 (by decide) ?_
    obtain ⟨rfl, rfl⟩ := ret_inj hf24
    exact x_iret X hr hlocks hP22 hS23 dX7_kind_27
set_option maxRecDepth 100000 in
set_option maxHeartbeats 4000000 in
theorem tX7_as (l : Launch) {g : Gx} (hI : InjG g) {h k k1 : Hp} {a1 : Int32} {a2 : Int32} {r : Int32}   (hf : fX7_as a1 a2 k = some (r, k1)) : CI l yX7_as cX7_as 3 (some .int) 2 g [.ref (g.2.2 246), .int a1, .int a2] h k h k1 r := by
  refine Met.ofW (cc := cX7_as) (maxL := 3) (ret := (some .int)) (by decide) rfl ?_
  intro p en s m args below meth c s₁ B hml hv
  obtain ⟨rfl, hSK, hSH, hP⟩ := hv
  have X : Cx p s m _ c cX7_as 3 RX7 g := ⟨B.exec, B.bytes, hml, findClass_of_methodNamed B.named, fun w hw => atoms_spec (ws := wsy yX7_as cX7_as 3 (some .int)) B.pre w (List.mem_cons_of_mem _ hw), hSK, hI, hSH⟩
  have hr := B.returns
  have hlocks := B.notSynchronized
  have hx := X.1
  have hb := X.2.1
  have hS : va_S (inA g) s.heap s.heap [] := va_S.rf
  clear hSK hSH hml B
  have hl := lv_entry ([.ref (g.2.2 246), .int a1, .int a2]) (n := 3) (Nat.le_of_ble_eq_true rfl)
  rw [lg_entry_eq]
  generalize (lg_sl ([.ref (g.2.2 246), .int a1, .int a2]) ++ List.replicate (3 - (lg_sl ([.ref (g.2.2 246), .int a1, .int a2])).length) Slot.unset).toArray = ls at hl ⊢
  have hl : lv_has ls 3 [(0, .ref (g.2.2 246)), (1, .int a1), (2, .int a2)] := hl
  generalize ([.ref (g.2.2 246), .int a1, .int a2] : List Value).toArray = args at X ⊢
  show W p l en (rmD 2) s m args below meth c s.heap [] 0 0 (MQ below (QI g h k1 r) args s 0 0 (inA g)) (F0 m 0 ls [])
  unfold fX7_as at hf
  refine lv_aload_n hx hb dX7_as_0 rfl (lv_at hl 0 rfl) ?_
  refine lv_iconst (v := 0) hx hb dX7_as_1 (by decide) ?_
  refine pX7 X hP hS 0 (by decide) rfl wd_883 rfl rfl rfl rfl seX7_0 dX7_as_2 (fun H1 lc2 kk3 ekk3 hP4 hS5 => ?_)
  have hf6 := lk_at ekk3 hf
  clear hf hP hS
  refine lv_aload_n hx hb dX7_as_5 rfl (lv_at hl 0 rfl) ?_
  refine lv_iload_n hx hb dX7_as_6 rfl (lv_at hl 1 rfl) ?_
  obtain ⟨x7, kk8, hg14, hf13⟩ := bd_some hf6
  refine x_ci (x_runV (As := [.int a1]) (rest := []) X hP4 hS5 246 (by decide) cl_M rfl (tX7_isSheet l X.2.2.2.2.2.2.1  hg14) mi_X7_212 rfl hl.1 rfl (Nat.le_of_ble_eq_true rfl) dX7_as_7 ⟨Nat.le_of_ble_eq_true rfl, Nat.le_of_ble_eq_true rfl⟩ ⟨Nat.zero_le _, Nat.zero_le _⟩) hS5 (fun H9 lc10 hP11 hS12 => ?_)
  clear hf6 hP4 hS5 hg14
  refine lv_if_eq (tgt := 25) hx hb dX7_as_10 (by decide) (fun c15 => ?_) (fun c15 => ?_)
  · have hf16 := if_at_t c15 hf13
    clear hf13
    refine lv_ldc (v := -1000001) hx hb X.2.2.2.1 (X.2.2.2.2.1 _ wd_969) dX7_as_25 ?_
    obtain ⟨rfl, rfl⟩ := ret_inj hf16
    exact x_iret X hr hlocks hP11 hS12 dX7_as_27
  · have hf17 := if_at_f c15 hf13
    clear hf13
    refine lv_iload_n hx hb dX7_as_13 rfl (lv_at hl 2 rfl) ?_
    refine lv_i2l hx hb dX7_as_14 rfl ?_
    refine lv_lconst (v := 0) hx hb dX7_as_15 (by decide) ?_
    refine lv_ldc2 (v := 5) hx hb X.2.2.2.1 (X.2.2.2.2.1 _ wd_1266) dX7_as_16 ?_
    obtain ⟨x18, kk19, hg25, hf24⟩ := bd_some hf17
    refine x_ci (x_runS (As := [.long a2.toInt64, .long (0 : Int64), .long (5 : Int64)]) (rest := []) X hP11 hS12 (tX7_in l X.2.2.2.2.2.2.1  hg25) mi_X7_57 rfl hl.1 rfl (Nat.le_of_ble_eq_true rfl) dX7_as_19 ⟨Nat.le_of_ble_eq_true rfl, Nat.le_of_ble_eq_true rfl⟩ ⟨Nat.zero_le _, Nat.zero_le _⟩) hS12 (fun H20 lc21 hP22 hS23 => ?_)
    clear hf17 hP11 hS12 hg25
    refine lv_if_ne (tgt := 28) hx hb dX7_as_22 (by decide) (fun c26 => ?_) (fun c26 => ?_)
    · have hf27 := if_at_f c26 hf24
      clear hf24
      refine lv_aload_n hx hb dX7_as_28 rfl (lv_at hl 0 rfl) ?_
      refine lv_iconst (v := 0) hx hb dX7_as_29 (by decide) ?_
      refine pX7 X hP22 hS23 1 (by decide) rfl wd_884 rfl rfl rfl rfl seX7_1 dX7_as_30 (fun H28 lc29 kk30 ekk30 hP31 hS32 => ?_)
      have hf33 := lk_at ekk30 hf27
      clear hf27 hP22 hS23
      refine lv_aload_n hx hb dX7_as_33 rfl (lv_at hl 0 rfl) ?_
      refine gX7 X hP31 5 (v := .ref (g.2.2 250)) rfl (by decide) rfl wd_888 dX7_as_34 ?_
      refine lv_iload_n hx hb dX7_as_37 rfl (lv_at hl 1 rfl) ?_
      refine lv_iconst (v := 0) hx hb dX7_as_38 (by decide) ?_
      obtain ⟨x34, kk35, hg41, hf40⟩ := bd_some hf33
      refine x_ci (x_runS (As := [.ref (g.2.2 250), .int a1, .int (0 : Int32)]) (rest := []) X hP31 hS32 (tX7_of l X.2.2.2.2.2.2.1 (rfl : isMA 250 = true) hg41) mi_X7_152 rfl hl.1 rfl (Nat.le_of_ble_eq_true rfl) dX7_as_39 ⟨Nat.le_of_ble_eq_true rfl, Nat.le_of_ble_eq_true rfl⟩ ⟨Nat.zero_le _, Nat.zero_le _⟩) hS32 (fun H36 lc37 hP38 hS39 => ?_)
      clear hf33 hP31 hS32 hg41
      refine lv_iload_n hx hb dX7_as_42 rfl (lv_at hl 2 rfl) ?_
      obtain ⟨x42, kk43, hg49, hf48⟩ := bd_some hf40
      refine x_ci (x_runS (As := [.int x34, .int a2]) (rest := []) X hP38 hS39 (tX7_isOf l X.2.2.2.2.2.2.1  hg49) mi_X7_287 rfl hl.1 rfl (Nat.le_of_ble_eq_true rfl) dX7_as_43 ⟨Nat.le_of_ble_eq_true rfl, Nat.le_of_ble_eq_true rfl⟩ ⟨Nat.zero_le _, Nat.zero_le _⟩) hS39 (fun H44 lc45 hP46 hS47 => ?_)
      clear hf40 hP38 hS39 hg49
      refine lv_if_eq (tgt := 53) hx hb dX7_as_46 (by decide) (fun c50 => ?_) (fun c50 => ?_)
      · have hf51 := if_at_t c50 hf48
        clear hf48
        refine lv_aload_n hx hb dX7_as_53 rfl (lv_at hl 0 rfl) ?_
        refine lv_iconst (v := 3) hx hb dX7_as_54 (by decide) ?_
        obtain ⟨x52, kk53, hg59, hf58⟩ := bd_some hf51
        refine x_ci (x_runV (As := [.int (3 : Int32)]) (rest := []) X hP46 hS47 246 (by decide) cl_M rfl (tX7_finding l X.2.2.2.2.2.2.1  hg59) mi_X7_68 rfl hl.1 rfl (Nat.le_of_ble_eq_true rfl) dX7_as_55 ⟨Nat.le_of_ble_eq_true rfl, Nat.le_of_ble_eq_true rfl⟩ ⟨Nat.zero_le _, Nat.zero_le _⟩) hS47 (fun H54 lc55 hP56 hS57 => ?_)
        clear hf51 hP46 hS47 hg59
        obtain ⟨rfl, rfl⟩ := ret_inj hf58
        exact x_iret X hr hlocks hP56 hS57 dX7_as_58
      · have hf60 := if_at_f c50 hf48
        clear hf48
        refine lv_iload_n hx hb dX7_as_49 rfl (lv_at hl 1 rfl) ?_
        refine lv_goto (tgt := 58) hx hb dX7_as_50 (by decide) ?_
        obtain ⟨rfl, rfl⟩ := ret_inj hf60
        exact x_iret X hr hlocks hP46 hS47 dX7_as_58
    · have hf61 := if_at_t c26 hf24
      clear hf24
      refine lv_ldc (v := -1000001) hx hb X.2.2.2.1 (X.2.2.2.2.1 _ wd_969) dX7_as_25 ?_
      obtain ⟨rfl, rfl⟩ := ret_inj hf61
      exact x_iret X hr hlocks hP22 hS23 dX7_as_27
set_option maxRecDepth 100000 in
set_option maxHeartbeats 4000000 in
theorem tX7_began (l : Launch) {g : Gx} (hI : InjG g) {h k k1 : Hp} {a1 : Int32}   (hf : fX7_began a1 k = some ((), k1)) : CV l yX7_began cX7_began 2 none 0 g [.ref (g.2.2 246), .int a1] h k h k1 := by
  refine Met.ofW (cc := cX7_began) (maxL := 2) (ret := none) (by decide) rfl ?_
  intro p en s m args below meth c s₁ B hml hv
  obtain ⟨rfl, hSK, hSH, hP⟩ := hv
  have X : Cx p s m _ c cX7_began 2 RX7 g := ⟨B.exec, B.bytes, hml, findClass_of_methodNamed B.named, fun w hw => atoms_spec (ws := wsy yX7_began cX7_began 2 none) B.pre w (List.mem_cons_of_mem _ hw), hSK, hI, hSH⟩
  have hr := B.returns
  have hlocks := B.notSynchronized
  have hx := X.1
  have hb := X.2.1
  have hS : va_S (inA g) s.heap s.heap [] := va_S.rf
  clear hSK hSH hml B
  have hl := lv_entry ([.ref (g.2.2 246), .int a1]) (n := 2) (Nat.le_of_ble_eq_true rfl)
  rw [lg_entry_eq]
  generalize (lg_sl ([.ref (g.2.2 246), .int a1]) ++ List.replicate (2 - (lg_sl ([.ref (g.2.2 246), .int a1])).length) Slot.unset).toArray = ls at hl ⊢
  have hl : lv_has ls 2 [(0, .ref (g.2.2 246)), (1, .int a1)] := hl
  generalize ([.ref (g.2.2 246), .int a1] : List Value).toArray = args at X ⊢
  show W p l en (rmD 0) s m args below meth c s.heap [] 0 0 (MQ below (QV g h k1) args s 0 0 (inA g)) (F0 m 0 ls [])
  unfold fX7_began at hf
  refine lv_aload_n hx hb dX7_began_0 rfl (lv_at hl 0 rfl) ?_
  refine gX7 X hP 23 (v := .int (k 246 23)) rfl (by decide) rfl wd_906 dX7_began_1 ?_
  refine lv_bipush (v := 16) hx hb dX7_began_4 (by decide) ?_
  refine lv_icmp_ge (tgt := 29) hx hb dX7_began_6 (by decide) (fun c1 => ?_) (fun c1 => ?_)
  · have hf2 := if_at_t c1 hf
    clear hf
    obtain ⟨-, rfl⟩ := ret_inj hf2
    exact x_vret X hr hlocks hP hS dX7_began_29
  · have hf3 := if_at_f c1 hf
    clear hf
    refine lv_aload_n hx hb dX7_began_9 rfl (lv_at hl 0 rfl) ?_
    refine gX7 X hP 22 (v := .ref (g.2.2 258)) rfl (by decide) rfl wd_905 dX7_began_10 ?_
    refine lv_aload_n hx hb dX7_began_13 rfl (lv_at hl 0 rfl) ?_
    refine gX7 X hP 23 (v := .int (k 246 23)) rfl (by decide) rfl wd_906 dX7_began_14 ?_
    refine lv_iload_n hx hb dX7_began_17 rfl (lv_at hl 1 rfl) ?_
    obtain ⟨hc4, hf5⟩ := chk_some hf3
    refine x_istM X hP hS 258 rfl hc4 dX7_began_18 (fun H6 lc7 kk8 ekk8 hP9 hS10 => ?_)
    have hf11 := lk_at ekk8 hf5
    clear hf5 hP hS
    refine lv_aload_n hx hb dX7_began_19 rfl (lv_at hl 0 rfl) ?_
    refine lv_dup hx hb dX7_began_20 rfl ?_
    refine gX7 X hP9 23 (v := .int (kk8 246 23)) rfl (by decide) rfl wd_906 dX7_began_21 ?_
    refine lv_iconst (v := 1) hx hb dX7_began_24 (by decide) ?_
    refine lv_iadd hx hb dX7_began_25 ?_
    refine pX7 X hP9 hS10 23 (by decide) rfl wd_906 rfl rfl rfl rfl seX7_23 dX7_began_26 (fun H12 lc13 kk14 ekk14 hP15 hS16 => ?_)
    have hf17 := lk_at ekk14 hf11
    clear hf11 hP9 hS10
    obtain ⟨-, rfl⟩ := ret_inj hf17
    exact x_vret X hr hlocks hP15 hS16 dX7_began_29
set_option maxRecDepth 100000 in
set_option maxHeartbeats 4000000 in
theorem tX7_plainSize (l : Launch) {g : Gx} (hI : InjG g) {h k k1 : Hp} {a1 : Int32} {r : Int32}   (hf : fX7_plainSize a1 k = some (r, k1)) : CI l yX7_plainSize cX7_plainSize 2 (some .int) 1 g [.ref (g.2.2 246), .int a1] h k h k1 r := by
  refine Met.ofW (cc := cX7_plainSize) (maxL := 2) (ret := (some .int)) (by decide) rfl ?_
  intro p en s m args below meth c s₁ B hml hv
  obtain ⟨rfl, hSK, hSH, hP⟩ := hv
  have X : Cx p s m _ c cX7_plainSize 2 RX7 g := ⟨B.exec, B.bytes, hml, findClass_of_methodNamed B.named, fun w hw => atoms_spec (ws := wsy yX7_plainSize cX7_plainSize 2 (some .int)) B.pre w (List.mem_cons_of_mem _ hw), hSK, hI, hSH⟩
  have hr := B.returns
  have hlocks := B.notSynchronized
  have hx := X.1
  have hb := X.2.1
  have hS : va_S (inA g) s.heap s.heap [] := va_S.rf
  clear hSK hSH hml B
  have hl := lv_entry ([.ref (g.2.2 246), .int a1]) (n := 2) (Nat.le_of_ble_eq_true rfl)
  rw [lg_entry_eq]
  generalize (lg_sl ([.ref (g.2.2 246), .int a1]) ++ List.replicate (2 - (lg_sl ([.ref (g.2.2 246), .int a1])).length) Slot.unset).toArray = ls at hl ⊢
  have hl : lv_has ls 2 [(0, .ref (g.2.2 246)), (1, .int a1)] := hl
  generalize ([.ref (g.2.2 246), .int a1] : List Value).toArray = args at X ⊢
  show W p l en (rmD 1) s m args below meth c s.heap [] 0 0 (MQ below (QI g h k1 r) args s 0 0 (inA g)) (F0 m 0 ls [])
  unfold fX7_plainSize at hf
  refine lv_aload_n hx hb dX7_plainSize_0 rfl (lv_at hl 0 rfl) ?_
  refine lv_bipush (v := 10) hx hb dX7_plainSize_1 (by decide) ?_
  obtain ⟨⟨⟩, kk2, hg8, hf7⟩ := bd_some hf
  refine x_cv (x_runV (As := [.int (10 : Int32)]) (rest := []) X hP hS 246 (by decide) cl_M rfl (tX7_began l X.2.2.2.2.2.2.1  hg8) mi_X7_293 rfl hl.1 rfl (Nat.le_of_ble_eq_true rfl) dX7_plainSize_3 ⟨Nat.le_of_ble_eq_true rfl, Nat.le_of_ble_eq_true rfl⟩ ⟨Nat.zero_le _, Nat.zero_le _⟩) hS (fun H3 lc4 hP5 hS6 => ?_)
  clear hf hP hS hg8
  refine lv_aload_n hx hb dX7_plainSize_6 rfl (lv_at hl 0 rfl) ?_
  refine gX7 X hP5 5 (v := .ref (g.2.2 250)) rfl (by decide) rfl wd_888 dX7_plainSize_7 ?_
  refine lv_iload_n hx hb dX7_plainSize_10 rfl (lv_at hl 1 rfl) ?_
  refine lv_iconst (v := 2) hx hb dX7_plainSize_11 (by decide) ?_
  obtain ⟨x9, kk10, hg16, hf15⟩ := bd_some hf7
  refine x_ci (x_runS (As := [.ref (g.2.2 250), .int a1, .int (2 : Int32)]) (rest := []) X hP5 hS6 (tX7_of l X.2.2.2.2.2.2.1 (rfl : isMA 250 = true) hg16) mi_X7_152 rfl hl.1 rfl (Nat.le_of_ble_eq_true rfl) dX7_plainSize_12 ⟨Nat.le_of_ble_eq_true rfl, Nat.le_of_ble_eq_true rfl⟩ ⟨Nat.zero_le _, Nat.zero_le _⟩) hS6 (fun H11 lc12 hP13 hS14 => ?_)
  clear hf7 hP5 hS6 hg16
  obtain ⟨rfl, rfl⟩ := ret_inj hf15
  exact x_iret X hr hlocks hP13 hS14 dX7_plainSize_15
set_option maxRecDepth 100000 in
set_option maxHeartbeats 4000000 in
theorem tX7_haarSize (l : Launch) {g : Gx} (hI : InjG g) {h k k1 : Hp} {a1 : Int32} {r : Int32}   (hf : fX7_haarSize a1 k = some (r, k1)) : CI l yX7_haarSize cX7_haarSize 4 (some .int) 2 g [.ref (g.2.2 246), .int a1] h k h k1 r := by
  refine Met.ofW (cc := cX7_haarSize) (maxL := 4) (ret := (some .int)) (by decide) rfl ?_
  intro p en s m args below meth c s₁ B hml hv
  obtain ⟨rfl, hSK, hSH, hP⟩ := hv
  have X : Cx p s m _ c cX7_haarSize 4 RX7 g := ⟨B.exec, B.bytes, hml, findClass_of_methodNamed B.named, fun w hw => atoms_spec (ws := wsy yX7_haarSize cX7_haarSize 4 (some .int)) B.pre w (List.mem_cons_of_mem _ hw), hSK, hI, hSH⟩
  have hr := B.returns
  have hlocks := B.notSynchronized
  have hx := X.1
  have hb := X.2.1
  have hS : va_S (inA g) s.heap s.heap [] := va_S.rf
  clear hSK hSH hml B
  have hl := lv_entry ([.ref (g.2.2 246), .int a1]) (n := 4) (Nat.le_of_ble_eq_true rfl)
  rw [lg_entry_eq]
  generalize (lg_sl ([.ref (g.2.2 246), .int a1]) ++ List.replicate (4 - (lg_sl ([.ref (g.2.2 246), .int a1])).length) Slot.unset).toArray = ls at hl ⊢
  have hl : lv_has ls 4 [(0, .ref (g.2.2 246)), (1, .int a1)] := hl
  generalize ([.ref (g.2.2 246), .int a1] : List Value).toArray = args at X ⊢
  show W p l en (rmD 2) s m args below meth c s.heap [] 0 0 (MQ below (QI g h k1 r) args s 0 0 (inA g)) (F0 m 0 ls [])
  unfold fX7_haarSize at hf
  refine lv_aload_n hx hb dX7_haarSize_0 rfl (lv_at hl 0 rfl) ?_
  refine gX7 X hP 5 (v := .ref (g.2.2 250)) rfl (by decide) rfl wd_888 dX7_haarSize_1 ?_
  refine lv_iload_n hx hb dX7_haarSize_4 rfl (lv_at hl 1 rfl) ?_
  refine lv_iconst (v := 0) hx hb dX7_haarSize_5 (by decide) ?_
  obtain ⟨x1, kk2, hg8, hf7⟩ := bd_some hf
  refine x_ci (x_runS (As := [.ref (g.2.2 250), .int a1, .int (0 : Int32)]) (rest := []) X hP hS (tX7_of l X.2.2.2.2.2.2.1 (rfl : isMA 250 = true) hg8) mi_X7_152 rfl hl.1 rfl (Nat.le_of_ble_eq_true rfl) dX7_haarSize_6 ⟨Nat.le_of_ble_eq_true rfl, Nat.le_of_ble_eq_true rfl⟩ ⟨Nat.zero_le _, Nat.zero_le _⟩) hS (fun H3 lc4 hP5 hS6 => ?_)
  clear hf hP hS hg8
  refine lv_iconst (v := 5) hx hb dX7_haarSize_9 (by decide) ?_
  obtain ⟨J18_9, eJ18_9, hf64⟩ := jp_at hf7
  clear hf7
  have hJ18_9 : ∀ (J18_9s0 : Int32) (kk10 : Hp) (H11 : Heap) (lc12 : List Loc) (ls13 : Array Slot), J18_9 J18_9s0 kk10 = some (r, k1) → va_P g.1 vwCl (WW g h kk10) H11 → va_S (inA g) s.heap H11 lc12 → lv_has ls13 4 [(0, .ref (g.2.2 246)), (1, .int a1)] → W p l en (rmD 2) s m args below meth c H11 lc12 0 0 (MQ below (QI g h k1 r) args s 0 0 (inA g)) (F0 m 18 ls13 [.int J18_9s0]) := by
    intro J18_9s0 kk10 H11 lc12 ls13 hf17 hP14 hS15 hl16
    clear hf64 hP5 hS6 hl
    subst eJ18_9
    refine lv_istore_n (lv' := [(2, .int J18_9s0), (0, .ref (g.2.2 246)), (1, .int a1)]) hx hb dX7_haarSize_18 rfl hl16 (by decide) rfl (fun ls18 hl19 => ?_)
    clear hl16
    refine lv_iload_n hx hb dX7_haarSize_19 rfl (lv_at hl19 0 rfl) ?_
    obtain ⟨J29_20, eJ29_20, hf52⟩ := jp_at hf17
    clear hf17
    have hJ29_20 : ∀  (kk21 : Hp) (H22 : Heap) (lc23 : List Loc) (ls24 : Array Slot), J29_20  kk21 = some (r, k1) → va_P g.1 vwCl (WW g h kk21) H22 → va_S (inA g) s.heap H22 lc23 → lv_has ls24 4 [(0, .ref (g.2.2 246)), (1, .int a1), (2, .int J18_9s0)] → W p l en (rmD 2) s m args below meth c H22 lc23 0 0 (MQ below (QI g h k1 r) args s 0 0 (inA g)) (F0 m 29 ls24 []) := by
      intro  kk21 H22 lc23 ls24 hf28 hP25 hS26 hl27
      clear hf52 hP14 hS15 hl19
      subst eJ29_20
      refine lv_aload_n hx hb dX7_haarSize_29 rfl (lv_at hl27 0 rfl) ?_
      refine lv_bipush (v := 13) hx hb dX7_haarSize_30 (by decide) ?_
      obtain ⟨⟨⟩, kk30, hg36, hf35⟩ := bd_some hf28
      refine x_cv (x_runV (As := [.int (13 : Int32)]) (rest := []) X hP25 hS26 246 (by decide) cl_M rfl (tX7_began l X.2.2.2.2.2.2.1  hg36) mi_X7_293 rfl hl27.1 rfl (Nat.le_of_ble_eq_true rfl) dX7_haarSize_32 ⟨Nat.le_of_ble_eq_true rfl, Nat.le_of_ble_eq_true rfl⟩ ⟨Nat.zero_le _, Nat.zero_le _⟩) hS26 (fun H31 lc32 hP33 hS34 => ?_)
      clear hf28 hP25 hS26 hg36
      refine lv_aload_n hx hb dX7_haarSize_35 rfl (lv_at hl27 0 rfl) ?_
      refine lv_iload_n hx hb dX7_haarSize_36 rfl (lv_at hl27 1 rfl) ?_
      obtain ⟨x37, kk38, hg44, hf43⟩ := bd_some hf35
      refine x_ci (x_runV (As := [.int a1]) (rest := []) X hP33 hS34 246 (by decide) cl_M rfl (tX7_plainSize l X.2.2.2.2.2.2.1  hg44) mi_X7_296 rfl hl27.1 rfl (Nat.le_of_ble_eq_true rfl) dX7_haarSize_37 ⟨Nat.le_of_ble_eq_true rfl, Nat.le_of_ble_eq_true rfl⟩ ⟨Nat.zero_le _, Nat.zero_le _⟩) hS34 (fun H39 lc40 hP41 hS42 => ?_)
      clear hf35 hP33 hS34 hg44
      refine lv_bipush (v := 100) hx hb dX7_haarSize_40 (by decide) ?_
      refine lv_isub hx hb dX7_haarSize_42 ?_
      refine lv_topi (fun x45 ex45 => ?_)
      have hf46 := lk_at ex45 hf43
      clear hf43
      refine lv_istore_n (lv' := [(3, .int x45), (0, .ref (g.2.2 246)), (1, .int a1), (2, .int J18_9s0)]) hx hb dX7_haarSize_43 rfl hl27 (by decide) rfl (fun ls47 hl48 => ?_)
      clear hl27
      refine lv_iload_n hx hb dX7_haarSize_44 rfl (lv_at hl48 3 rfl) ?_
      refine lv_if_eq (tgt := 54) hx hb dX7_haarSize_45 (by decide) (fun c49 => ?_) (fun c49 => ?_)
      · have hf50 := if_at_t c49 hf46
        clear hf46
        refine lv_iload_n hx hb dX7_haarSize_54 rfl (lv_at hl48 0 rfl) ?_
        obtain ⟨rfl, rfl⟩ := ret_inj hf50
        exact x_iret X hr hlocks hP41 hS42 dX7_haarSize_55
      · have hf51 := if_at_f c49 hf46
        clear hf46
        refine lv_iconst (v := 2) hx hb dX7_haarSize_48 (by decide) ?_
        refine lv_iload_n hx hb dX7_haarSize_49 rfl (lv_at hl48 0 rfl) ?_
        refine lv_imul hx hb dX7_haarSize_50 ?_
        refine lv_goto (tgt := 55) hx hb dX7_haarSize_51 (by decide) ?_
        obtain ⟨rfl, rfl⟩ := ret_inj hf51
        exact x_iret X hr hlocks hP41 hS42 dX7_haarSize_55
    clear eJ29_20
    refine lv_if_eq (tgt := 29) hx hb dX7_haarSize_20 (by decide) (fun c53 => ?_) (fun c53 => ?_)
    · have hf54 := if_at_t c53 hf52
      clear hf52
      exact hJ29_20 kk10  _ _ _ hf54 hP14 hS15 (lv_sub hl19 [1, 2, 0] rfl)
    · have hf55 := if_at_f c53 hf52
      clear hf52
      refine lv_aload_n hx hb dX7_haarSize_23 rfl (lv_at hl19 1 rfl) ?_
      refine lv_bipush (v := 14) hx hb dX7_haarSize_24 (by decide) ?_
      obtain ⟨⟨⟩, kk57, hg63, hf62⟩ := bd_some hf55
      refine x_cv (x_runV (As := [.int (14 : Int32)]) (rest := []) X hP14 hS15 246 (by decide) cl_M rfl (tX7_began l X.2.2.2.2.2.2.1  hg63) mi_X7_293 rfl hl19.1 rfl (Nat.le_of_ble_eq_true rfl) dX7_haarSize_26 ⟨Nat.le_of_ble_eq_true rfl, Nat.le_of_ble_eq_true rfl⟩ ⟨Nat.zero_le _, Nat.zero_le _⟩) hS15 (fun H58 lc59 hP60 hS61 => ?_)
      clear hf55 hP14 hS15 hg63
      exact hJ29_20 kk57  _ _ _ hf62 hP60 hS61 (lv_sub hl19 [1, 2, 0] rfl)
  clear eJ18_9
  refine lv_icmp_ne (tgt := 17) hx hb dX7_haarSize_10 (by decide) (fun c65 => ?_) (fun c65 => ?_)
  · have hf66 := if_at_f c65 hf64
    clear hf64
    refine lv_iconst (v := 0) hx hb dX7_haarSize_17 (by decide) ?_
    exact hJ18_9 (0 : Int32) kk2  _ _ _ hf66 hP5 hS6 (lv_sub hl [0, 1] rfl)
  · have hf67 := if_at_t c65 hf64
    clear hf64
    refine lv_iconst (v := 1) hx hb dX7_haarSize_13 (by decide) ?_
    refine lv_goto (tgt := 18) hx hb dX7_haarSize_14 (by decide) ?_
    exact hJ18_9 (1 : Int32) kk2  _ _ _ hf67 hP5 hS6 (lv_sub hl [0, 1] rfl)
set_option maxRecDepth 100000 in
set_option maxHeartbeats 4000000 in
theorem tX7_markOf (l : Launch) {g : Gx} (hI : InjG g) {h k k1 : Hp} {a1 : Int32} {r : Int32}   (hf : fX7_markOf a1 k = some (r, k1)) : CI l yX7_markOf cX7_markOf 4 (some .int) 3 g [.ref (g.2.2 246), .int a1] h k h k1 r := by
  refine Met.ofW (cc := cX7_markOf) (maxL := 4) (ret := (some .int)) (by decide) rfl ?_
  intro p en s m args below meth c s₁ B hml hv
  obtain ⟨rfl, hSK, hSH, hP⟩ := hv
  have X : Cx p s m _ c cX7_markOf 4 RX7 g := ⟨B.exec, B.bytes, hml, findClass_of_methodNamed B.named, fun w hw => atoms_spec (ws := wsy yX7_markOf cX7_markOf 4 (some .int)) B.pre w (List.mem_cons_of_mem _ hw), hSK, hI, hSH⟩
  have hr := B.returns
  have hlocks := B.notSynchronized
  have hx := X.1
  have hb := X.2.1
  have hS : va_S (inA g) s.heap s.heap [] := va_S.rf
  clear hSK hSH hml B
  have hl := lv_entry ([.ref (g.2.2 246), .int a1]) (n := 4) (Nat.le_of_ble_eq_true rfl)
  rw [lg_entry_eq]
  generalize (lg_sl ([.ref (g.2.2 246), .int a1]) ++ List.replicate (4 - (lg_sl ([.ref (g.2.2 246), .int a1])).length) Slot.unset).toArray = ls at hl ⊢
  have hl : lv_has ls 4 [(0, .ref (g.2.2 246)), (1, .int a1)] := hl
  generalize ([.ref (g.2.2 246), .int a1] : List Value).toArray = args at X ⊢
  show W p l en (rmD 3) s m args below meth c s.heap [] 0 0 (MQ below (QI g h k1 r) args s 0 0 (inA g)) (F0 m 0 ls [])
  unfold fX7_markOf at hf
  refine lv_aload_n hx hb dX7_markOf_0 rfl (lv_at hl 0 rfl) ?_
  refine gX7 X hP 5 (v := .ref (g.2.2 250)) rfl (by decide) rfl wd_888 dX7_markOf_1 ?_
  refine lv_iload_n hx hb dX7_markOf_4 rfl (lv_at hl 1 rfl) ?_
  refine lv_iconst (v := 0) hx hb dX7_markOf_5 (by decide) ?_
  obtain ⟨x1, kk2, hg8, hf7⟩ := bd_some hf
  refine x_ci (x_runS (As := [.ref (g.2.2 250), .int a1, .int (0 : Int32)]) (rest := []) X hP hS (tX7_of l X.2.2.2.2.2.2.1 (rfl : isMA 250 = true) hg8) mi_X7_152 rfl hl.1 rfl (Nat.le_of_ble_eq_true rfl) dX7_markOf_6 ⟨Nat.le_of_ble_eq_true rfl, Nat.le_of_ble_eq_true rfl⟩ ⟨Nat.zero_le _, Nat.zero_le _⟩) hS (fun H3 lc4 hP5 hS6 => ?_)
  clear hf hP hS hg8
  refine lv_istore_n (lv' := [(2, .int x1), (0, .ref (g.2.2 246)), (1, .int a1)]) hx hb dX7_markOf_9 rfl hl (by decide) rfl (fun ls9 hl10 => ?_)
  clear hl
  refine lv_iload_n hx hb dX7_markOf_10 rfl (lv_at hl10 0 rfl) ?_
  refine lv_iconst (v := 4) hx hb dX7_markOf_11 (by decide) ?_
  refine lv_icmp_lt (tgt := 35) hx hb dX7_markOf_12 (by decide) (fun c11 => ?_) (fun c11 => ?_)
  · have hf12 := if_at_t c11 hf7
    clear hf7
    refine lv_iload_n hx hb dX7_markOf_35 rfl (lv_at hl10 0 rfl) ?_
    refine lv_iconst (v := 1) hx hb dX7_markOf_36 (by decide) ?_
    obtain ⟨J56_13, eJ56_13, hf56⟩ := jp_at hf12
    clear hf12
    have hJ56_13 : ∀  (kk14 : Hp) (H15 : Heap) (lc16 : List Loc) (ls17 : Array Slot), J56_13  kk14 = some (r, k1) → va_P g.1 vwCl (WW g h kk14) H15 → va_S (inA g) s.heap H15 lc16 → lv_has ls17 4 [(0, .ref (g.2.2 246)), (1, .int a1), (2, .int x1)] → W p l en (rmD 3) s m args below meth c H15 lc16 0 0 (MQ below (QI g h k1 r) args s 0 0 (inA g)) (F0 m 56 ls17 []) := by
      intro  kk14 H15 lc16 ls17 hf21 hP18 hS19 hl20
      clear hf56 hP5 hS6 hl10
      subst eJ56_13
      refine lv_aload_n hx hb dX7_markOf_56 rfl (lv_at hl20 0 rfl) ?_
      refine lv_bipush (v := 21) hx hb dX7_markOf_57 (by decide) ?_
      obtain ⟨⟨⟩, kk23, hg29, hf28⟩ := bd_some hf21
      refine x_cv (x_runV (As := [.int (21 : Int32)]) (rest := []) X hP18 hS19 246 (by decide) cl_M rfl (tX7_began l X.2.2.2.2.2.2.1  hg29) mi_X7_293 rfl hl20.1 rfl (Nat.le_of_ble_eq_true rfl) dX7_markOf_59 ⟨Nat.le_of_ble_eq_true rfl, Nat.le_of_ble_eq_true rfl⟩ ⟨Nat.zero_le _, Nat.zero_le _⟩) hS19 (fun H24 lc25 hP26 hS27 => ?_)
      clear hf21 hP18 hS19 hg29
      refine lv_aload_n hx hb dX7_markOf_62 rfl (lv_at hl20 0 rfl) ?_
      refine lv_bipush (v := 20) hx hb dX7_markOf_63 (by decide) ?_
      obtain ⟨⟨⟩, kk31, hg37, hf36⟩ := bd_some hf28
      refine x_cv (x_runV (As := [.int (20 : Int32)]) (rest := []) X hP26 hS27 246 (by decide) cl_M rfl (tX7_began l X.2.2.2.2.2.2.1  hg37) mi_X7_293 rfl hl20.1 rfl (Nat.le_of_ble_eq_true rfl) dX7_markOf_65 ⟨Nat.le_of_ble_eq_true rfl, Nat.le_of_ble_eq_true rfl⟩ ⟨Nat.zero_le _, Nat.zero_le _⟩) hS27 (fun H32 lc33 hP34 hS35 => ?_)
      clear hf28 hP26 hS27 hg37
      refine lv_iload_n hx hb dX7_markOf_68 rfl (lv_at hl20 1 rfl) ?_
      refine lv_aload_n hx hb dX7_markOf_69 rfl (lv_at hl20 0 rfl) ?_
      refine gX7 X hP34 5 (v := .ref (g.2.2 250)) rfl (by decide) rfl wd_888 dX7_markOf_70 ?_
      refine lv_iload_n hx hb dX7_markOf_73 rfl (lv_at hl20 1 rfl) ?_
      refine lv_iconst (v := 3) hx hb dX7_markOf_74 (by decide) ?_
      obtain ⟨x38, kk39, hg45, hf44⟩ := bd_some hf36
      refine x_ci (x_runS (As := [.ref (g.2.2 250), .int a1, .int (3 : Int32)]) (rest := [.int a1]) X hP34 hS35 (tX7_of l X.2.2.2.2.2.2.1 (rfl : isMA 250 = true) hg45) mi_X7_152 rfl hl20.1 rfl (Nat.le_of_ble_eq_true rfl) dX7_markOf_75 ⟨Nat.le_of_ble_eq_true rfl, Nat.le_of_ble_eq_true rfl⟩ ⟨Nat.zero_le _, Nat.zero_le _⟩) hS35 (fun H40 lc41 hP42 hS43 => ?_)
      clear hf36 hP34 hS35 hg45
      refine lv_iadd hx hb dX7_markOf_78 ?_
      refine lv_topi (fun x46 ex46 => ?_)
      have hf47 := lk_at ex46 hf44
      clear hf44
      refine lv_istore_n (lv' := [(3, .int x46), (0, .ref (g.2.2 246)), (1, .int a1), (2, .int x1)]) hx hb dX7_markOf_79 rfl hl20 (by decide) rfl (fun ls48 hl49 => ?_)
      clear hl20
      refine lv_iload_n hx hb dX7_markOf_80 rfl (lv_at hl49 3 rfl) ?_
      refine lv_iconst (v := 1) hx hb dX7_markOf_81 (by decide) ?_
      refine lv_icmp_ne (tgt := 89) hx hb dX7_markOf_82 (by decide) (fun c50 => ?_) (fun c50 => ?_)
      · have hf51 := if_at_f c50 hf47
        clear hf47
        refine lv_iload_n hx hb dX7_markOf_89 rfl (lv_at hl49 3 rfl) ?_
        refine lv_iconst (v := 3) hx hb dX7_markOf_90 (by decide) ?_
        refine lv_icmp_ne (tgt := 102) hx hb dX7_markOf_91 (by decide) (fun c52 => ?_) (fun c52 => ?_)
        · have hf53 := if_at_f c52 hf51
          clear hf51
          refine lv_iconst (v := 2) hx hb dX7_markOf_102 (by decide) ?_
          refine lv_iload_n hx hb dX7_markOf_103 rfl (lv_at hl49 0 rfl) ?_
          refine lv_imul hx hb dX7_markOf_104 ?_
          obtain ⟨rfl, rfl⟩ := ret_inj hf53
          exact x_iret X hr hlocks hP42 hS43 dX7_markOf_105
        · have hf54 := if_at_t c52 hf51
          clear hf51
          refine lv_iload_n hx hb dX7_markOf_94 rfl (lv_at hl49 0 rfl) ?_
          refine lv_sipush (v := 1000) hx hb dX7_markOf_95 (by decide) ?_
          refine lv_isub hx hb dX7_markOf_98 ?_
          refine lv_goto (tgt := 105) hx hb dX7_markOf_99 (by decide) ?_
          obtain ⟨rfl, rfl⟩ := ret_inj hf54
          exact x_iret X hr hlocks hP42 hS43 dX7_markOf_105
      · have hf55 := if_at_t c50 hf47
        clear hf47
        refine lv_iload_n hx hb dX7_markOf_85 rfl (lv_at hl49 0 rfl) ?_
        refine lv_goto (tgt := 105) hx hb dX7_markOf_86 (by decide) ?_
        obtain ⟨rfl, rfl⟩ := ret_inj hf55
        exact x_iret X hr hlocks hP42 hS43 dX7_markOf_105
    clear eJ56_13
    refine lv_icmp_eq (tgt := 56) hx hb dX7_markOf_37 (by decide) (fun c57 => ?_) (fun c57 => ?_)
    · have hf58 := if_at_t c57 hf56
      clear hf56
      exact hJ56_13 kk2  _ _ _ hf58 hP5 hS6 (lv_sub hl10 [1, 2, 0] rfl)
    · have hf59 := if_at_f c57 hf56
      clear hf56
      refine lv_aload_n hx hb dX7_markOf_40 rfl (lv_at hl10 1 rfl) ?_
      refine lv_iload_n hx hb dX7_markOf_41 rfl (lv_at hl10 0 rfl) ?_
      refine lv_iconst (v := 3) hx hb dX7_markOf_42 (by decide) ?_
      obtain ⟨J53_60, eJ53_60, hf77⟩ := jp_at hf59
      clear hf59
      have hJ53_60 : ∀ (J53_60s0 : Int32) (kk61 : Hp) (H62 : Heap) (lc63 : List Loc) (ls64 : Array Slot), J53_60 J53_60s0 kk61 = some (r, k1) → va_P g.1 vwCl (WW g h kk61) H62 → va_S (inA g) s.heap H62 lc63 → lv_has ls64 4 [(0, .ref (g.2.2 246)), (1, .int a1), (2, .int x1)] → W p l en (rmD 3) s m args below meth c H62 lc63 0 0 (MQ below (QI g h k1 r) args s 0 0 (inA g)) (F0 m 53 ls64 [.int J53_60s0, .ref (g.2.2 246)]) := by
        intro J53_60s0 kk61 H62 lc63 ls64 hf68 hP65 hS66 hl67
        clear hf77 hP5 hS6 hl10
        subst eJ53_60
        obtain ⟨⟨⟩, kk70, hg76, hf75⟩ := bd_some hf68
        refine x_cv (x_runV (As := [.int J53_60s0]) (rest := []) X hP65 hS66 246 (by decide) cl_M rfl (tX7_began l X.2.2.2.2.2.2.1  hg76) mi_X7_293 rfl hl67.1 rfl (Nat.le_of_ble_eq_true rfl) dX7_markOf_53 ⟨Nat.le_of_ble_eq_true rfl, Nat.le_of_ble_eq_true rfl⟩ ⟨Nat.zero_le _, Nat.zero_le _⟩) hS66 (fun H71 lc72 hP73 hS74 => ?_)
        clear hf68 hP65 hS66 hg76
        exact hJ56_13 kk70  _ _ _ hf75 hP73 hS74 (lv_sub hl67 [0, 1, 2] rfl)
      clear eJ53_60
      refine lv_icmp_ne (tgt := 51) hx hb dX7_markOf_43 (by decide) (fun c78 => ?_) (fun c78 => ?_)
      · have hf79 := if_at_f c78 hf77
        clear hf77
        refine lv_bipush (v := 24) hx hb dX7_markOf_51 (by decide) ?_
        exact hJ53_60 (24 : Int32) kk2  _ _ _ hf79 hP5 hS6 (lv_sub hl10 [1, 2, 0] rfl)
      · have hf80 := if_at_t c78 hf77
        clear hf77
        refine lv_bipush (v := 22) hx hb dX7_markOf_46 (by decide) ?_
        refine lv_goto (tgt := 53) hx hb dX7_markOf_48 (by decide) ?_
        exact hJ53_60 (22 : Int32) kk2  _ _ _ hf80 hP5 hS6 (lv_sub hl10 [1, 2, 0] rfl)
  · have hf81 := if_at_f c11 hf7
    clear hf7
    refine lv_aload_n hx hb dX7_markOf_15 rfl (lv_at hl10 1 rfl) ?_
    refine lv_bipush (v := 23) hx hb dX7_markOf_16 (by decide) ?_
    obtain ⟨⟨⟩, kk83, hg89, hf88⟩ := bd_some hf81
    refine x_cv (x_runV (As := [.int (23 : Int32)]) (rest := []) X hP5 hS6 246 (by decide) cl_M rfl (tX7_began l X.2.2.2.2.2.2.1  hg89) mi_X7_293 rfl hl10.1 rfl (Nat.le_of_ble_eq_true rfl) dX7_markOf_18 ⟨Nat.le_of_ble_eq_true rfl, Nat.le_of_ble_eq_true rfl⟩ ⟨Nat.zero_le _, Nat.zero_le _⟩) hS6 (fun H84 lc85 hP86 hS87 => ?_)
    clear hf81 hP5 hS6 hg89
    refine lv_aload_n hx hb dX7_markOf_21 rfl (lv_at hl10 1 rfl) ?_
    refine lv_bipush (v := 20) hx hb dX7_markOf_22 (by decide) ?_
    obtain ⟨⟨⟩, kk91, hg97, hf96⟩ := bd_some hf88
    refine x_cv (x_runV (As := [.int (20 : Int32)]) (rest := []) X hP86 hS87 246 (by decide) cl_M rfl (tX7_began l X.2.2.2.2.2.2.1  hg97) mi_X7_293 rfl hl10.1 rfl (Nat.le_of_ble_eq_true rfl) dX7_markOf_24 ⟨Nat.le_of_ble_eq_true rfl, Nat.le_of_ble_eq_true rfl⟩ ⟨Nat.zero_le _, Nat.zero_le _⟩) hS87 (fun H92 lc93 hP94 hS95 => ?_)
    clear hf88 hP86 hS87 hg97
    refine lv_iload_n hx hb dX7_markOf_27 rfl (lv_at hl10 2 rfl) ?_
    refine lv_aload_n hx hb dX7_markOf_28 rfl (lv_at hl10 1 rfl) ?_
    refine lv_iload_n hx hb dX7_markOf_29 rfl (lv_at hl10 2 rfl) ?_
    obtain ⟨x98, kk99, hg105, hf104⟩ := bd_some hf96
    refine x_ci (x_runV (As := [.int a1]) (rest := [.int a1]) X hP94 hS95 246 (by decide) cl_M rfl (tX7_haarSize l X.2.2.2.2.2.2.1  hg105) mi_X7_299 rfl hl10.1 rfl (Nat.le_of_ble_eq_true rfl) dX7_markOf_30 ⟨Nat.le_of_ble_eq_true rfl, Nat.le_of_ble_eq_true rfl⟩ ⟨Nat.zero_le _, Nat.zero_le _⟩) hS95 (fun H100 lc101 hP102 hS103 => ?_)
    clear hf96 hP94 hS95 hg105
    refine lv_isub hx hb dX7_markOf_33 ?_
    obtain ⟨rfl, rfl⟩ := ret_inj hf104
    exact x_iret X hr hlocks hP102 hS103 dX7_markOf_34
set_option maxRecDepth 100000 in
set_option maxHeartbeats 4000000 in
theorem tX7_sizeOf (l : Launch) {g : Gx} (hI : InjG g) {h k k1 : Hp} {a1 : Int32} {r : Int32}   (hf : fX7_sizeOf a1 k = some (r, k1)) : CI l yX7_sizeOf cX7_sizeOf 4 (some .int) 4 g [.ref (g.2.2 246), .int a1] h k h k1 r := by
  refine Met.ofW (cc := cX7_sizeOf) (maxL := 4) (ret := (some .int)) (by decide) rfl ?_
  intro p en s m args below meth c s₁ B hml hv
  obtain ⟨rfl, hSK, hSH, hP⟩ := hv
  have X : Cx p s m _ c cX7_sizeOf 4 RX7 g := ⟨B.exec, B.bytes, hml, findClass_of_methodNamed B.named, fun w hw => atoms_spec (ws := wsy yX7_sizeOf cX7_sizeOf 4 (some .int)) B.pre w (List.mem_cons_of_mem _ hw), hSK, hI, hSH⟩
  have hr := B.returns
  have hlocks := B.notSynchronized
  have hx := X.1
  have hb := X.2.1
  have hS : va_S (inA g) s.heap s.heap [] := va_S.rf
  clear hSK hSH hml B
  have hl := lv_entry ([.ref (g.2.2 246), .int a1]) (n := 4) (Nat.le_of_ble_eq_true rfl)
  rw [lg_entry_eq]
  generalize (lg_sl ([.ref (g.2.2 246), .int a1]) ++ List.replicate (4 - (lg_sl ([.ref (g.2.2 246), .int a1])).length) Slot.unset).toArray = ls at hl ⊢
  have hl : lv_has ls 4 [(0, .ref (g.2.2 246)), (1, .int a1)] := hl
  generalize ([.ref (g.2.2 246), .int a1] : List Value).toArray = args at X ⊢
  show W p l en (rmD 4) s m args below meth c s.heap [] 0 0 (MQ below (QI g h k1 r) args s 0 0 (inA g)) (F0 m 0 ls [])
  unfold fX7_sizeOf at hf
  refine lv_aload_n hx hb dX7_sizeOf_0 rfl (lv_at hl 0 rfl) ?_
  refine gX7 X hP 5 (v := .ref (g.2.2 250)) rfl (by decide) rfl wd_888 dX7_sizeOf_1 ?_
  refine lv_iload_n hx hb dX7_sizeOf_4 rfl (lv_at hl 1 rfl) ?_
  refine lv_iconst (v := 0) hx hb dX7_sizeOf_5 (by decide) ?_
  obtain ⟨x1, kk2, hg8, hf7⟩ := bd_some hf
  refine x_ci (x_runS (As := [.ref (g.2.2 250), .int a1, .int (0 : Int32)]) (rest := []) X hP hS (tX7_of l X.2.2.2.2.2.2.1 (rfl : isMA 250 = true) hg8) mi_X7_152 rfl hl.1 rfl (Nat.le_of_ble_eq_true rfl) dX7_sizeOf_6 ⟨Nat.le_of_ble_eq_true rfl, Nat.le_of_ble_eq_true rfl⟩ ⟨Nat.zero_le _, Nat.zero_le _⟩) hS (fun H3 lc4 hP5 hS6 => ?_)
  clear hf hP hS hg8
  refine lv_istore_n (lv' := [(2, .int x1), (0, .ref (g.2.2 246)), (1, .int a1)]) hx hb dX7_sizeOf_9 rfl hl (by decide) rfl (fun ls9 hl10 => ?_)
  clear hl
  refine lv_iload_n hx hb dX7_sizeOf_10 rfl (lv_at hl10 0 rfl) ?_
  refine lv_iconst (v := 4) hx hb dX7_sizeOf_11 (by decide) ?_
  refine lv_icmp_lt (tgt := 21) hx hb dX7_sizeOf_12 (by decide) (fun c11 => ?_) (fun c11 => ?_)
  · have hf12 := if_at_t c11 hf7
    clear hf7
    refine lv_iload_n hx hb dX7_sizeOf_21 rfl (lv_at hl10 0 rfl) ?_
    refine lv_iconst (v := 2) hx hb dX7_sizeOf_22 (by decide) ?_
    obtain ⟨J32_13, eJ32_13, hf55⟩ := jp_at hf12
    clear hf12
    have hJ32_13 : ∀  (kk14 : Hp) (H15 : Heap) (lc16 : List Loc) (ls17 : Array Slot), J32_13  kk14 = some (r, k1) → va_P g.1 vwCl (WW g h kk14) H15 → va_S (inA g) s.heap H15 lc16 → lv_has ls17 4 [(0, .ref (g.2.2 246)), (1, .int a1), (2, .int x1)] → W p l en (rmD 4) s m args below meth c H15 lc16 0 0 (MQ below (QI g h k1 r) args s 0 0 (inA g)) (F0 m 32 ls17 []) := by
      intro  kk14 H15 lc16 ls17 hf21 hP18 hS19 hl20
      clear hf55 hP5 hS6 hl10
      subst eJ32_13
      refine lv_aload_n hx hb dX7_sizeOf_32 rfl (lv_at hl20 0 rfl) ?_
      refine lv_bipush (v := 11) hx hb dX7_sizeOf_33 (by decide) ?_
      obtain ⟨⟨⟩, kk23, hg29, hf28⟩ := bd_some hf21
      refine x_cv (x_runV (As := [.int (11 : Int32)]) (rest := []) X hP18 hS19 246 (by decide) cl_M rfl (tX7_began l X.2.2.2.2.2.2.1  hg29) mi_X7_293 rfl hl20.1 rfl (Nat.le_of_ble_eq_true rfl) dX7_sizeOf_35 ⟨Nat.le_of_ble_eq_true rfl, Nat.le_of_ble_eq_true rfl⟩ ⟨Nat.zero_le _, Nat.zero_le _⟩) hS19 (fun H24 lc25 hP26 hS27 => ?_)
      clear hf21 hP18 hS19 hg29
      refine lv_aload_n hx hb dX7_sizeOf_38 rfl (lv_at hl20 0 rfl) ?_
      refine lv_iload_n hx hb dX7_sizeOf_39 rfl (lv_at hl20 1 rfl) ?_
      obtain ⟨x30, kk31, hg37, hf36⟩ := bd_some hf28
      refine x_ci (x_runV (As := [.int a1]) (rest := []) X hP26 hS27 246 (by decide) cl_M rfl (tX7_plainSize l X.2.2.2.2.2.2.1  hg37) mi_X7_296 rfl hl20.1 rfl (Nat.le_of_ble_eq_true rfl) dX7_sizeOf_40 ⟨Nat.le_of_ble_eq_true rfl, Nat.le_of_ble_eq_true rfl⟩ ⟨Nat.zero_le _, Nat.zero_le _⟩) hS27 (fun H32 lc33 hP34 hS35 => ?_)
      clear hf28 hP26 hS27 hg37
      refine lv_istore_n (lv' := [(3, .int x30), (0, .ref (g.2.2 246)), (1, .int a1), (2, .int x1)]) hx hb dX7_sizeOf_43 rfl hl20 (by decide) rfl (fun ls38 hl39 => ?_)
      clear hl20
      refine lv_iload_n hx hb dX7_sizeOf_44 rfl (lv_at hl39 0 rfl) ?_
      refine lv_aload_n hx hb dX7_sizeOf_45 rfl (lv_at hl39 1 rfl) ?_
      refine lv_iload_n hx hb dX7_sizeOf_46 rfl (lv_at hl39 2 rfl) ?_
      obtain ⟨x40, kk41, hg47, hf46⟩ := bd_some hf36
      refine x_ci (x_runV (As := [.int a1]) (rest := [.int x30]) X hP34 hS35 246 (by decide) cl_M rfl (tX7_markOf l X.2.2.2.2.2.2.1  hg47) mi_X7_302 rfl hl39.1 rfl (Nat.le_of_ble_eq_true rfl) dX7_sizeOf_47 ⟨Nat.le_of_ble_eq_true rfl, Nat.le_of_ble_eq_true rfl⟩ ⟨Nat.zero_le _, Nat.zero_le _⟩) hS35 (fun H42 lc43 hP44 hS45 => ?_)
      clear hf36 hP34 hS35 hg47
      refine lv_iadd hx hb dX7_sizeOf_50 ?_
      refine lv_topi (fun x48 ex48 => ?_)
      have hf49 := lk_at ex48 hf46
      clear hf46
      refine lv_istore_n (lv' := [(3, .int x48), (0, .ref (g.2.2 246)), (1, .int a1), (2, .int x1)]) hx hb dX7_sizeOf_51 rfl hl39 (by decide) rfl (fun ls50 hl51 => ?_)
      clear hl39
      refine lv_iload_n hx hb dX7_sizeOf_52 rfl (lv_at hl51 3 rfl) ?_
      refine lv_iconst (v := 2) hx hb dX7_sizeOf_53 (by decide) ?_
      refine lv_icmp_ne (tgt := 62) hx hb dX7_sizeOf_54 (by decide) (fun c52 => ?_) (fun c52 => ?_)
      · have hf53 := if_at_f c52 hf49
        clear hf49
        refine lv_iload_n hx hb dX7_sizeOf_62 rfl (lv_at hl51 0 rfl) ?_
        obtain ⟨rfl, rfl⟩ := ret_inj hf53
        exact x_iret X hr hlocks hP44 hS45 dX7_sizeOf_63
      · have hf54 := if_at_t c52 hf49
        clear hf49
        refine lv_iload_n hx hb dX7_sizeOf_57 rfl (lv_at hl51 0 rfl) ?_
        refine lv_ineg hx hb dX7_sizeOf_58 ?_
        refine lv_goto (tgt := 63) hx hb dX7_sizeOf_59 (by decide) ?_
        obtain ⟨rfl, rfl⟩ := ret_inj hf54
        exact x_iret X hr hlocks hP44 hS45 dX7_sizeOf_63
    clear eJ32_13
    refine lv_icmp_ne (tgt := 32) hx hb dX7_sizeOf_23 (by decide) (fun c56 => ?_) (fun c56 => ?_)
    · have hf57 := if_at_f c56 hf55
      clear hf55
      exact hJ32_13 kk2  _ _ _ hf57 hP5 hS6 (lv_sub hl10 [1, 2, 0] rfl)
    · have hf58 := if_at_t c56 hf55
      clear hf55
      refine lv_aload_n hx hb dX7_sizeOf_26 rfl (lv_at hl10 1 rfl) ?_
      refine lv_bipush (v := 12) hx hb dX7_sizeOf_27 (by decide) ?_
      obtain ⟨⟨⟩, kk60, hg66, hf65⟩ := bd_some hf58
      refine x_cv (x_runV (As := [.int (12 : Int32)]) (rest := []) X hP5 hS6 246 (by decide) cl_M rfl (tX7_began l X.2.2.2.2.2.2.1  hg66) mi_X7_293 rfl hl10.1 rfl (Nat.le_of_ble_eq_true rfl) dX7_sizeOf_29 ⟨Nat.le_of_ble_eq_true rfl, Nat.le_of_ble_eq_true rfl⟩ ⟨Nat.zero_le _, Nat.zero_le _⟩) hS6 (fun H61 lc62 hP63 hS64 => ?_)
      clear hf58 hP5 hS6 hg66
      exact hJ32_13 kk60  _ _ _ hf65 hP63 hS64 (lv_sub hl10 [1, 2, 0] rfl)
  · have hf67 := if_at_f c11 hf7
    clear hf7
    refine lv_aload_n hx hb dX7_sizeOf_15 rfl (lv_at hl10 1 rfl) ?_
    refine lv_iload_n hx hb dX7_sizeOf_16 rfl (lv_at hl10 2 rfl) ?_
    obtain ⟨x68, kk69, hg75, hf74⟩ := bd_some hf67
    refine x_ci (x_runV (As := [.int a1]) (rest := []) X hP5 hS6 246 (by decide) cl_M rfl (tX7_haarSize l X.2.2.2.2.2.2.1  hg75) mi_X7_299 rfl hl10.1 rfl (Nat.le_of_ble_eq_true rfl) dX7_sizeOf_17 ⟨Nat.le_of_ble_eq_true rfl, Nat.le_of_ble_eq_true rfl⟩ ⟨Nat.zero_le _, Nat.zero_le _⟩) hS6 (fun H70 lc71 hP72 hS73 => ?_)
    clear hf67 hP5 hS6 hg75
    obtain ⟨rfl, rfl⟩ := ret_inj hf74
    exact x_iret X hr hlocks hP72 hS73 dX7_sizeOf_20
set_option maxRecDepth 100000 in
set_option maxHeartbeats 4000000 in
theorem tX7_ask (l : Launch) {g : Gx} (hI : InjG g) {h k k1 : Hp} {a1 : Int32} {a2 : Int32} {r : Int32}   (hf : fX7_ask a1 a2 k = some (r, k1)) : CI l yX7_ask cX7_ask 3 (some .int) 5 g [.ref (g.2.2 246), .int a1, .int a2] h k h k1 r := by
  refine Met.ofW (cc := cX7_ask) (maxL := 3) (ret := (some .int)) (by decide) rfl ?_
  intro p en s m args below meth c s₁ B hml hv
  obtain ⟨rfl, hSK, hSH, hP⟩ := hv
  have X : Cx p s m _ c cX7_ask 3 RX7 g := ⟨B.exec, B.bytes, hml, findClass_of_methodNamed B.named, fun w hw => atoms_spec (ws := wsy yX7_ask cX7_ask 3 (some .int)) B.pre w (List.mem_cons_of_mem _ hw), hSK, hI, hSH⟩
  have hr := B.returns
  have hlocks := B.notSynchronized
  have hx := X.1
  have hb := X.2.1
  have hS : va_S (inA g) s.heap s.heap [] := va_S.rf
  clear hSK hSH hml B
  have hl := lv_entry ([.ref (g.2.2 246), .int a1, .int a2]) (n := 3) (Nat.le_of_ble_eq_true rfl)
  rw [lg_entry_eq]
  generalize (lg_sl ([.ref (g.2.2 246), .int a1, .int a2]) ++ List.replicate (3 - (lg_sl ([.ref (g.2.2 246), .int a1, .int a2])).length) Slot.unset).toArray = ls at hl ⊢
  have hl : lv_has ls 3 [(0, .ref (g.2.2 246)), (1, .int a1), (2, .int a2)] := hl
  generalize ([.ref (g.2.2 246), .int a1, .int a2] : List Value).toArray = args at X ⊢
  show W p l en (rmD 5) s m args below meth c s.heap [] 0 0 (MQ below (QI g h k1 r) args s 0 0 (inA g)) (F0 m 0 ls [])
  unfold fX7_ask at hf
  refine lv_aload_n hx hb dX7_ask_0 rfl (lv_at hl 0 rfl) ?_
  refine lv_iconst (v := 0) hx hb dX7_ask_1 (by decide) ?_
  refine pX7 X hP hS 0 (by decide) rfl wd_883 rfl rfl rfl rfl seX7_0 dX7_ask_2 (fun H1 lc2 kk3 ekk3 hP4 hS5 => ?_)
  have hf6 := lk_at ekk3 hf
  clear hf hP hS
  refine lv_aload_n hx hb dX7_ask_5 rfl (lv_at hl 0 rfl) ?_
  refine lv_iload_n hx hb dX7_ask_6 rfl (lv_at hl 1 rfl) ?_
  obtain ⟨x7, kk8, hg14, hf13⟩ := bd_some hf6
  refine x_ci (x_runV (As := [.int a1]) (rest := []) X hP4 hS5 246 (by decide) cl_M rfl (tX7_isSheet l X.2.2.2.2.2.2.1  hg14) mi_X7_212 rfl hl.1 rfl (Nat.le_of_ble_eq_true rfl) dX7_ask_7 ⟨Nat.le_of_ble_eq_true rfl, Nat.le_of_ble_eq_true rfl⟩ ⟨Nat.zero_le _, Nat.zero_le _⟩) hS5 (fun H9 lc10 hP11 hS12 => ?_)
  clear hf6 hP4 hS5 hg14
  refine lv_if_eq (tgt := 23) hx hb dX7_ask_10 (by decide) (fun c15 => ?_) (fun c15 => ?_)
  · have hf16 := if_at_t c15 hf13
    clear hf13
    refine lv_ldc (v := -1000001) hx hb X.2.2.2.1 (X.2.2.2.2.1 _ wd_969) dX7_ask_23 ?_
    obtain ⟨rfl, rfl⟩ := ret_inj hf16
    exact x_iret X hr hlocks hP11 hS12 dX7_ask_25
  · have hf17 := if_at_f c15 hf13
    clear hf13
    refine lv_iload_n hx hb dX7_ask_13 rfl (lv_at hl 2 rfl) ?_
    refine lv_i2l hx hb dX7_ask_14 rfl ?_
    refine lv_lconst (v := 0) hx hb dX7_ask_15 (by decide) ?_
    refine lv_lconst (v := 1) hx hb dX7_ask_16 (by decide) ?_
    obtain ⟨x18, kk19, hg25, hf24⟩ := bd_some hf17
    refine x_ci (x_runS (As := [.long a2.toInt64, .long (0 : Int64), .long (1 : Int64)]) (rest := []) X hP11 hS12 (tX7_in l X.2.2.2.2.2.2.1  hg25) mi_X7_57 rfl hl.1 rfl (Nat.le_of_ble_eq_true rfl) dX7_ask_17 ⟨Nat.le_of_ble_eq_true rfl, Nat.le_of_ble_eq_true rfl⟩ ⟨Nat.zero_le _, Nat.zero_le _⟩) hS12 (fun H20 lc21 hP22 hS23 => ?_)
    clear hf17 hP11 hS12 hg25
    refine lv_if_ne (tgt := 26) hx hb dX7_ask_20 (by decide) (fun c26 => ?_) (fun c26 => ?_)
    · have hf27 := if_at_f c26 hf24
      clear hf24
      refine lv_aload_n hx hb dX7_ask_26 rfl (lv_at hl 0 rfl) ?_
      refine lv_iconst (v := 0) hx hb dX7_ask_27 (by decide) ?_
      refine pX7 X hP22 hS23 23 (by decide) rfl wd_906 rfl rfl rfl rfl seX7_23 dX7_ask_28 (fun H28 lc29 kk30 ekk30 hP31 hS32 => ?_)
      have hf33 := lk_at ekk30 hf27
      clear hf27 hP22 hS23
      refine lv_iload_n hx hb dX7_ask_31 rfl (lv_at hl 2 rfl) ?_
      refine lv_if_ne (tgt := 43) hx hb dX7_ask_32 (by decide) (fun c34 => ?_) (fun c34 => ?_)
      · have hf35 := if_at_f c34 hf33
        clear hf33
        refine lv_aload_n hx hb dX7_ask_43 rfl (lv_at hl 0 rfl) ?_
        refine lv_iload_n hx hb dX7_ask_44 rfl (lv_at hl 1 rfl) ?_
        obtain ⟨x36, kk37, hg43, hf42⟩ := bd_some hf35
        refine x_ci (x_runV (As := [.int a1]) (rest := []) X hP31 hS32 246 (by decide) cl_M rfl (tX7_markOf l X.2.2.2.2.2.2.1  hg43) mi_X7_302 rfl hl.1 rfl (Nat.le_of_ble_eq_true rfl) dX7_ask_45 ⟨Nat.le_of_ble_eq_true rfl, Nat.le_of_ble_eq_true rfl⟩ ⟨Nat.zero_le _, Nat.zero_le _⟩) hS32 (fun H38 lc39 hP40 hS41 => ?_)
        clear hf35 hP31 hS32 hg43
        obtain ⟨rfl, rfl⟩ := ret_inj hf42
        exact x_iret X hr hlocks hP40 hS41 dX7_ask_48
      · have hf44 := if_at_t c34 hf33
        clear hf33
        refine lv_aload_n hx hb dX7_ask_35 rfl (lv_at hl 0 rfl) ?_
        refine lv_iload_n hx hb dX7_ask_36 rfl (lv_at hl 1 rfl) ?_
        obtain ⟨x45, kk46, hg52, hf51⟩ := bd_some hf44
        refine x_ci (x_runV (As := [.int a1]) (rest := []) X hP31 hS32 246 (by decide) cl_M rfl (tX7_sizeOf l X.2.2.2.2.2.2.1  hg52) mi_X7_305 rfl hl.1 rfl (Nat.le_of_ble_eq_true rfl) dX7_ask_37 ⟨Nat.le_of_ble_eq_true rfl, Nat.le_of_ble_eq_true rfl⟩ ⟨Nat.zero_le _, Nat.zero_le _⟩) hS32 (fun H47 lc48 hP49 hS50 => ?_)
        clear hf44 hP31 hS32 hg52
        refine lv_goto (tgt := 48) hx hb dX7_ask_40 (by decide) ?_
        obtain ⟨rfl, rfl⟩ := ret_inj hf51
        exact x_iret X hr hlocks hP49 hS50 dX7_ask_48
    · have hf53 := if_at_t c26 hf24
      clear hf24
      refine lv_ldc (v := -1000001) hx hb X.2.2.2.1 (X.2.2.2.2.1 _ wd_969) dX7_ask_23 ?_
      obtain ⟨rfl, rfl⟩ := ret_inj hf53
      exact x_iret X hr hlocks hP22 hS23 dX7_ask_25
set_option maxRecDepth 100000 in
set_option maxHeartbeats 4000000 in
theorem tX7_trace (l : Launch) {g : Gx} (hI : InjG g) {h k k1 : Hp} {a1 : Int32} {r : Int32}   (hf : fX7_trace a1 k = some (r, k1)) : CI l yX7_trace cX7_trace 2 (some .int) 1 g [.ref (g.2.2 246), .int a1] h k h k1 r := by
  refine Met.ofW (cc := cX7_trace) (maxL := 2) (ret := (some .int)) (by decide) rfl ?_
  intro p en s m args below meth c s₁ B hml hv
  obtain ⟨rfl, hSK, hSH, hP⟩ := hv
  have X : Cx p s m _ c cX7_trace 2 RX7 g := ⟨B.exec, B.bytes, hml, findClass_of_methodNamed B.named, fun w hw => atoms_spec (ws := wsy yX7_trace cX7_trace 2 (some .int)) B.pre w (List.mem_cons_of_mem _ hw), hSK, hI, hSH⟩
  have hr := B.returns
  have hlocks := B.notSynchronized
  have hx := X.1
  have hb := X.2.1
  have hS : va_S (inA g) s.heap s.heap [] := va_S.rf
  clear hSK hSH hml B
  have hl := lv_entry ([.ref (g.2.2 246), .int a1]) (n := 2) (Nat.le_of_ble_eq_true rfl)
  rw [lg_entry_eq]
  generalize (lg_sl ([.ref (g.2.2 246), .int a1]) ++ List.replicate (2 - (lg_sl ([.ref (g.2.2 246), .int a1])).length) Slot.unset).toArray = ls at hl ⊢
  have hl : lv_has ls 2 [(0, .ref (g.2.2 246)), (1, .int a1)] := hl
  generalize ([.ref (g.2.2 246), .int a1] : List Value).toArray = args at X ⊢
  show W p l en (rmD 1) s m args below meth c s.heap [] 0 0 (MQ below (QI g h k1 r) args s 0 0 (inA g)) (F0 m 0 ls [])
  unfold fX7_trace at hf
  refine lv_aload_n hx hb dX7_trace_0 rfl (lv_at hl 0 rfl) ?_
  refine lv_iconst (v := 0) hx hb dX7_trace_1 (by decide) ?_
  refine pX7 X hP hS 0 (by decide) rfl wd_883 rfl rfl rfl rfl seX7_0 dX7_trace_2 (fun H1 lc2 kk3 ekk3 hP4 hS5 => ?_)
  have hf6 := lk_at ekk3 hf
  clear hf hP hS
  refine lv_iload_n hx hb dX7_trace_5 rfl (lv_at hl 1 rfl) ?_
  refine lv_i2l hx hb dX7_trace_6 rfl ?_
  refine lv_lconst (v := 0) hx hb dX7_trace_7 (by decide) ?_
  refine lv_aload_n hx hb dX7_trace_8 rfl (lv_at hl 0 rfl) ?_
  refine gX7 X hP4 23 (v := .int (kk3 246 23)) rfl (by decide) rfl wd_906 dX7_trace_9 ?_
  refine lv_iconst (v := 1) hx hb dX7_trace_12 (by decide) ?_
  refine lv_isub hx hb dX7_trace_13 ?_
  refine lv_i2l hx hb dX7_trace_14 rfl ?_
  obtain ⟨x7, kk8, hg14, hf13⟩ := bd_some hf6
  refine x_ci (x_runS (As := [.long a1.toInt64, .long (0 : Int64), .long (((kk3 246 23) - (1 : Int32)).toInt64)]) (rest := []) X hP4 hS5 (tX7_in l X.2.2.2.2.2.2.1  hg14) mi_X7_57 rfl hl.1 rfl (Nat.le_of_ble_eq_true rfl) dX7_trace_15 ⟨Nat.le_of_ble_eq_true rfl, Nat.le_of_ble_eq_true rfl⟩ ⟨Nat.zero_le _, Nat.zero_le _⟩) hS5 (fun H9 lc10 hP11 hS12 => ?_)
  clear hf6 hP4 hS5 hg14
  refine lv_if_eq (tgt := 30) hx hb dX7_trace_18 (by decide) (fun c15 => ?_) (fun c15 => ?_)
  · have hf16 := if_at_t c15 hf13
    clear hf13
    refine lv_ldc (v := -1000000) hx hb X.2.2.2.1 (X.2.2.2.2.1 _ wd_1009) dX7_trace_30 ?_
    obtain ⟨rfl, rfl⟩ := ret_inj hf16
    exact x_iret X hr hlocks hP11 hS12 dX7_trace_32
  · have hf17 := if_at_f c15 hf13
    clear hf13
    refine lv_aload_n hx hb dX7_trace_21 rfl (lv_at hl 0 rfl) ?_
    refine gX7 X hP11 22 (v := .ref (g.2.2 258)) rfl (by decide) rfl wd_905 dX7_trace_22 ?_
    refine lv_iload_n hx hb dX7_trace_25 rfl (lv_at hl 1 rfl) ?_
    obtain ⟨hc18, hf19⟩ := chk_some hf17
    refine x_ildM X hP11 258 rfl hc18 dX7_trace_26 ?_
    refine lv_goto (tgt := 32) hx hb dX7_trace_27 (by decide) ?_
    obtain ⟨rfl, rfl⟩ := ret_inj hf19
    exact x_iret X hr hlocks hP11 hS12 dX7_trace_32
set_option maxRecDepth 100000 in
set_option maxHeartbeats 4000000 in
theorem wX7_count_L58 {p : Program} {l : Launch} {en : Env} {s : State} {m : MethodId} {args : Array Value} {below : List Frame} {meth : Method} {c : Code} {g : Gx} (X : Cx p s m args c cX7_count 4 RX7 g) (hr : meth.sig.returnType = (some .int)) (hlocks : meth.locks = false) {h k1 : Hp} {r : Int32}   
     :
    ∀ (n : Nat) (v2 : Int32) (v3 : Int32) (k : Hp) (H : Heap) (locs : List Loc) (ls : Array Slot), fX7_count_L58 n v2 v3 k = some (r, k1) → va_P g.1 vwCl (WW g h k) H → va_S (inA g) s.heap H locs → lv_has ls 4 [(0, .ref (g.2.2 246)), (2, .int v2), (3, .int v3)] → W p l en (rmD 3) s m args below meth c H locs 0 0 (MQ below (QI g h k1 r) args s 0 0 (inA g)) (F0 m 58 ls []) := by
  have hx := X.1
  have hb := X.2.1
  intro n
  induction n with
  | zero => intro v2 v3 k H locs ls  hf; simp only [fX7_count_L58, reduceCtorEq] at hf
  | succ n ih =>
    intro v2 v3 k H locs ls  hf hP hS hl
    rw [fX7_count_L58] at hf
    refine lv_iload_n hx hb dX7_count_58 rfl (lv_at hl 2 rfl) ?_
    refine lv_bipush (v := 8) hx hb dX7_count_59 (by decide) ?_
    refine lv_icmp_ge (tgt := 87) hx hb dX7_count_61 (by decide) (fun c14 => ?_) (fun c14 => ?_)
    · have hf15 := if_at_t c14 hf
      clear hf
      refine lv_iload_n hx hb dX7_count_87 rfl (lv_at hl 1 rfl) ?_
      obtain ⟨rfl, rfl⟩ := ret_inj hf15
      exact x_iret X hr hlocks hP hS dX7_count_88
    · have hf16 := if_at_f c14 hf
      clear hf
      refine lv_iload_n hx hb dX7_count_64 rfl (lv_at hl 1 rfl) ?_
      refine lv_aload_n hx hb dX7_count_65 rfl (lv_at hl 0 rfl) ?_
      refine gX7 X hP 2 (v := .ref (g.2.2 247)) rfl (by decide) rfl wd_885 dX7_count_66 ?_
      refine lv_iload_n hx hb dX7_count_69 rfl (lv_at hl 2 rfl) ?_
      obtain ⟨hc17, hf18⟩ := chk_some hf16
      refine x_ildM X hP 247 rfl hc17 dX7_count_70 ?_
      obtain ⟨J79_19, eJ79_19, hf36⟩ := jp_at hf18
      clear hf18
      have hJ79_19 : ∀ (J79_19s0 : Int32) (kk20 : Hp) (H21 : Heap) (lc22 : List Loc) (ls23 : Array Slot), J79_19 J79_19s0 kk20 = some (r, k1) → va_P g.1 vwCl (WW g h kk20) H21 → va_S (inA g) s.heap H21 lc22 → lv_has ls23 4 [(0, .ref (g.2.2 246)), (3, .int v3)] → W p l en (rmD 3) s m args below meth c H21 lc22 0 0 (MQ below (QI g h k1 r) args s 0 0 (inA g)) (F0 m 79 ls23 [.int J79_19s0, .int v2]) := by
        intro J79_19s0 kk20 H21 lc22 ls23 hf27 hP24 hS25 hl26
        clear hf36 hP hS hl
        subst eJ79_19
        refine lv_iadd hx hb dX7_count_79 ?_
        refine lv_topi (fun x28 ex28 => ?_)
        have hf29 := lk_at ex28 hf27
        clear hf27
        refine lv_istore_n (lv' := [(2, .int x28), (0, .ref (g.2.2 246)), (3, .int v3)]) hx hb dX7_count_80 rfl hl26 (by decide) rfl (fun ls30 hl31 => ?_)
        clear hl26
        obtain ⟨x32, ex32⟩ : ∃ q : Int32, q = v3 + (1 : Int32) := ⟨_, rfl⟩
        have hf33 := lk_at ex32 hf29
        clear hf29
        refine lv_iinc (v := x32) (lv' := [(3, .int x32), (2, .int x28), (0, .ref (g.2.2 246))]) hx hb dX7_count_81 hl31 (k := 2) rfl (by rw [ex32]; rfl) (by decide) rfl (fun ls34 hl35 => ?_)
        clear hl31
        refine lv_goto (tgt := 58) hx hb dX7_count_84 (by decide) ?_
        exact ih x28 x32 kk20  _ _ _ hf33 hP24 hS25 (lv_sub hl35 [2, 1, 0] rfl)
      clear eJ79_19
      refine lv_if_lt (tgt := 78) hx hb dX7_count_71 (by decide) (fun c37 => ?_) (fun c37 => ?_)
      · have hf38 := if_at_t c37 hf36
        clear hf36
        refine lv_iconst (v := 0) hx hb dX7_count_78 (by decide) ?_
        exact hJ79_19 (0 : Int32) k  _ _ _ hf38 hP hS (lv_sub hl [0, 2] rfl)
      · have hf39 := if_at_f c37 hf36
        clear hf36
        refine lv_iconst (v := 1) hx hb dX7_count_74 (by decide) ?_
        refine lv_goto (tgt := 79) hx hb dX7_count_75 (by decide) ?_
        exact hJ79_19 (1 : Int32) k  _ _ _ hf39 hP hS (lv_sub hl [0, 2] rfl)
set_option maxRecDepth 100000 in
set_option maxHeartbeats 4000000 in
theorem tX7_count (l : Launch) {g : Gx} (hI : InjG g) {h k k1 : Hp} {a1 : Int32} {r : Int32}   (hf : fX7_count a1 k = some (r, k1)) : CI l yX7_count cX7_count 4 (some .int) 3 g [.ref (g.2.2 246), .int a1] h k h k1 r := by
  refine Met.ofW (cc := cX7_count) (maxL := 4) (ret := (some .int)) (by decide) rfl ?_
  intro p en s m args below meth c s₁ B hml hv
  obtain ⟨rfl, hSK, hSH, hP⟩ := hv
  have X : Cx p s m _ c cX7_count 4 RX7 g := ⟨B.exec, B.bytes, hml, findClass_of_methodNamed B.named, fun w hw => atoms_spec (ws := wsy yX7_count cX7_count 4 (some .int)) B.pre w (List.mem_cons_of_mem _ hw), hSK, hI, hSH⟩
  have hr := B.returns
  have hlocks := B.notSynchronized
  have hx := X.1
  have hb := X.2.1
  have hS : va_S (inA g) s.heap s.heap [] := va_S.rf
  clear hSK hSH hml B
  have hl := lv_entry ([.ref (g.2.2 246), .int a1]) (n := 4) (Nat.le_of_ble_eq_true rfl)
  rw [lg_entry_eq]
  generalize (lg_sl ([.ref (g.2.2 246), .int a1]) ++ List.replicate (4 - (lg_sl ([.ref (g.2.2 246), .int a1])).length) Slot.unset).toArray = ls at hl ⊢
  have hl : lv_has ls 4 [(0, .ref (g.2.2 246)), (1, .int a1)] := hl
  generalize ([.ref (g.2.2 246), .int a1] : List Value).toArray = args at X ⊢
  show W p l en (rmD 3) s m args below meth c s.heap [] 0 0 (MQ below (QI g h k1 r) args s 0 0 (inA g)) (F0 m 0 ls [])
  unfold fX7_count at hf
  refine lv_aload_n hx hb dX7_count_0 rfl (lv_at hl 0 rfl) ?_
  refine lv_iconst (v := 0) hx hb dX7_count_1 (by decide) ?_
  refine pX7 X hP hS 0 (by decide) rfl wd_883 rfl rfl rfl rfl seX7_0 dX7_count_2 (fun H1 lc2 kk3 ekk3 hP4 hS5 => ?_)
  have hf6 := lk_at ekk3 hf
  clear hf hP hS
  refine lv_iconst (v := 0) hx hb dX7_count_5 (by decide) ?_
  refine lv_istore_n (lv' := [(2, .int (0 : Int32)), (0, .ref (g.2.2 246)), (1, .int a1)]) hx hb dX7_count_6 rfl hl (by decide) rfl (fun ls7 hl8 => ?_)
  clear hl
  refine lv_iload_n hx hb dX7_count_7 rfl (lv_at hl8 2 rfl) ?_
  by_cases c9 : a1 = (0 : Int32)
  · have hf10 := if_at_t c9 hf6
    clear hf6
    refine lv_tableIn (tgt := 56) hx hb dX7_count_8 (by rw [c9]; decide) (by rw [c9]; decide) (by rw [c9]; rfl) (by decide) ?_
    refine lv_iconst (v := 0) hx hb dX7_count_56 (by decide) ?_
    refine lv_istore_n (lv' := [(3, .int (0 : Int32)), (2, .int (0 : Int32)), (0, .ref (g.2.2 246)), (1, .int a1)]) hx hb dX7_count_57 rfl hl8 (by decide) rfl (fun ls12 hl13 => ?_)
    clear hl8
    refine wX7_count_L58 X hr hlocks   4096 (0 : Int32) (0 : Int32) kk3 _ _ _  hf10 hP4 hS5 (lv_sub hl13 [2, 1, 0] rfl)
  · have hf11 := if_at_f c9 hf6
    clear hf6
    by_cases c40 : a1 = (1 : Int32)
    · have hf41 := if_at_t c40 hf11
      clear hf11
      refine lv_tableIn (tgt := 89) hx hb dX7_count_8 (by rw [c40]; decide) (by rw [c40]; decide) (by rw [c40]; rfl) (by decide) ?_
      refine lv_aload_n hx hb dX7_count_89 rfl (lv_at hl8 1 rfl) ?_
      refine gX7 X hP4 5 (v := .ref (g.2.2 250)) rfl (by decide) rfl wd_888 dX7_count_90 ?_
      refine lv_iconst (v := 0) hx hb dX7_count_93 (by decide) ?_
      obtain ⟨hc43, hf44⟩ := chk_some hf41
      refine x_ildM X hP4 250 rfl hc43 dX7_count_94 ?_
      obtain ⟨rfl, rfl⟩ := ret_inj hf44
      exact x_iret X hr hlocks hP4 hS5 dX7_count_95
    · have hf42 := if_at_f c40 hf11
      clear hf11
      by_cases c45 : a1 = (2 : Int32)
      · have hf46 := if_at_t c45 hf42
        clear hf42
        refine lv_tableIn (tgt := 96) hx hb dX7_count_8 (by rw [c45]; decide) (by rw [c45]; decide) (by rw [c45]; rfl) (by decide) ?_
        refine lv_aload_n hx hb dX7_count_96 rfl (lv_at hl8 1 rfl) ?_
        refine gX7 X hP4 5 (v := .ref (g.2.2 250)) rfl (by decide) rfl wd_888 dX7_count_97 ?_
        refine lv_iconst (v := 1) hx hb dX7_count_100 (by decide) ?_
        obtain ⟨hc48, hf49⟩ := chk_some hf46
        refine x_ildM X hP4 250 rfl hc48 dX7_count_101 ?_
        obtain ⟨rfl, rfl⟩ := ret_inj hf49
        exact x_iret X hr hlocks hP4 hS5 dX7_count_102
      · have hf47 := if_at_f c45 hf42
        clear hf42
        by_cases c50 : a1 = (3 : Int32)
        · have hf51 := if_at_t c50 hf47
          clear hf47
          refine lv_tableIn (tgt := 103) hx hb dX7_count_8 (by rw [c50]; decide) (by rw [c50]; decide) (by rw [c50]; rfl) (by decide) ?_
          refine lv_aload_n hx hb dX7_count_103 rfl (lv_at hl8 1 rfl) ?_
          refine gX7 X hP4 5 (v := .ref (g.2.2 250)) rfl (by decide) rfl wd_888 dX7_count_104 ?_
          refine lv_bipush (v := 6) hx hb dX7_count_107 (by decide) ?_
          obtain ⟨hc53, hf54⟩ := chk_some hf51
          refine x_ildM X hP4 250 rfl hc53 dX7_count_109 ?_
          obtain ⟨rfl, rfl⟩ := ret_inj hf54
          exact x_iret X hr hlocks hP4 hS5 dX7_count_110
        · have hf52 := if_at_f c50 hf47
          clear hf47
          by_cases c55 : a1 = (4 : Int32)
          · have hf56 := if_at_t c55 hf52
            clear hf52
            refine lv_tableIn (tgt := 111) hx hb dX7_count_8 (by rw [c55]; decide) (by rw [c55]; decide) (by rw [c55]; rfl) (by decide) ?_
            refine lv_aload_n hx hb dX7_count_111 rfl (lv_at hl8 1 rfl) ?_
            refine gX7 X hP4 5 (v := .ref (g.2.2 250)) rfl (by decide) rfl wd_888 dX7_count_112 ?_
            obtain ⟨x58, kk59, hg65, hf64⟩ := bd_some hf56
            refine x_ci (x_runS (As := [.ref (g.2.2 250)]) (rest := []) X hP4 hS5 (tX7_numbered l X.2.2.2.2.2.2.1 (rfl : isMA 250 = true) hg65) mi_X7_196 rfl hl8.1 rfl (Nat.le_of_ble_eq_true rfl) dX7_count_115 ⟨Nat.le_of_ble_eq_true rfl, Nat.le_of_ble_eq_true rfl⟩ ⟨Nat.zero_le _, Nat.zero_le _⟩) hS5 (fun H60 lc61 hP62 hS63 => ?_)
            clear hf56 hP4 hS5 hg65
            obtain ⟨x66, kk67, hg73, hf72⟩ := bd_some hf64
            refine x_ci (x_runS (As := [.int x58]) (rest := []) X hP62 hS63 (tX7_bits l X.2.2.2.2.2.2.1  hg73) mi_X7_199 rfl hl8.1 rfl (Nat.le_of_ble_eq_true rfl) dX7_count_118 ⟨Nat.le_of_ble_eq_true rfl, Nat.le_of_ble_eq_true rfl⟩ ⟨Nat.zero_le _, Nat.zero_le _⟩) hS63 (fun H68 lc69 hP70 hS71 => ?_)
            clear hf64 hP62 hS63 hg73
            obtain ⟨rfl, rfl⟩ := ret_inj hf72
            exact x_iret X hr hlocks hP70 hS71 dX7_count_121
          · have hf57 := if_at_f c55 hf52
            clear hf52
            by_cases c74 : a1 = (5 : Int32)
            · have hf75 := if_at_t c74 hf57
              clear hf57
              refine lv_tableIn (tgt := 122) hx hb dX7_count_8 (by rw [c74]; decide) (by rw [c74]; decide) (by rw [c74]; rfl) (by decide) ?_
              refine lv_aload_n hx hb dX7_count_122 rfl (lv_at hl8 1 rfl) ?_
              refine gX7 X hP4 5 (v := .ref (g.2.2 250)) rfl (by decide) rfl wd_888 dX7_count_123 ?_
              obtain ⟨x77, kk78, hg84, hf83⟩ := bd_some hf75
              refine x_ci (x_runS (As := [.ref (g.2.2 250)]) (rest := []) X hP4 hS5 (tX7_ins l X.2.2.2.2.2.2.1 (rfl : isMA 250 = true) hg84) mi_X7_220 rfl hl8.1 rfl (Nat.le_of_ble_eq_true rfl) dX7_count_126 ⟨Nat.le_of_ble_eq_true rfl, Nat.le_of_ble_eq_true rfl⟩ ⟨Nat.zero_le _, Nat.zero_le _⟩) hS5 (fun H79 lc80 hP81 hS82 => ?_)
              clear hf75 hP4 hS5 hg84
              obtain ⟨x85, kk86, hg92, hf91⟩ := bd_some hf83
              refine x_ci (x_runS (As := [.int x77]) (rest := []) X hP81 hS82 (tX7_bits l X.2.2.2.2.2.2.1  hg92) mi_X7_199 rfl hl8.1 rfl (Nat.le_of_ble_eq_true rfl) dX7_count_129 ⟨Nat.le_of_ble_eq_true rfl, Nat.le_of_ble_eq_true rfl⟩ ⟨Nat.zero_le _, Nat.zero_le _⟩) hS82 (fun H87 lc88 hP89 hS90 => ?_)
              clear hf83 hP81 hS82 hg92
              obtain ⟨rfl, rfl⟩ := ret_inj hf91
              exact x_iret X hr hlocks hP89 hS90 dX7_count_132
            · have hf76 := if_at_f c74 hf57
              clear hf57
              by_cases c93 : a1 = (6 : Int32)
              · have hf94 := if_at_t c93 hf76
                clear hf76
                refine lv_tableIn (tgt := 133) hx hb dX7_count_8 (by rw [c93]; decide) (by rw [c93]; decide) (by rw [c93]; rfl) (by decide) ?_
                refine lv_aload_n hx hb dX7_count_133 rfl (lv_at hl8 1 rfl) ?_
                refine gX7 X hP4 9 (v := .int (kk3 246 9)) rfl (by decide) rfl wd_892 dX7_count_134 ?_
                obtain ⟨rfl, rfl⟩ := ret_inj hf94
                exact x_iret X hr hlocks hP4 hS5 dX7_count_137
              · have hf95 := if_at_f c93 hf76
                clear hf76
                by_cases c96 : a1 = (7 : Int32)
                · have hf97 := if_at_t c96 hf95
                  clear hf95
                  refine lv_tableIn (tgt := 138) hx hb dX7_count_8 (by rw [c96]; decide) (by rw [c96]; decide) (by rw [c96]; rfl) (by decide) ?_
                  refine lv_aload_n hx hb dX7_count_138 rfl (lv_at hl8 1 rfl) ?_
                  refine gX7 X hP4 11 (v := .int (kk3 246 11)) rfl (by decide) rfl wd_894 dX7_count_139 ?_
                  obtain ⟨rfl, rfl⟩ := ret_inj hf97
                  exact x_iret X hr hlocks hP4 hS5 dX7_count_142
                · have hf98 := if_at_f c96 hf95
                  clear hf95
                  have q0 := sw_ne (j := 0) rfl c9
                  have q1 := sw_ne (j := 1) rfl c40
                  have q2 := sw_ne (j := 2) rfl c45
                  have q3 := sw_ne (j := 3) rfl c50
                  have q4 := sw_ne (j := 4) rfl c55
                  have q5 := sw_ne (j := 5) rfl c74
                  have q6 := sw_ne (j := 6) rfl c93
                  have q7 := sw_ne (j := 7) rfl c96
                  refine lv_tableOut (tgt := 143) hx hb dX7_count_8 (by omega) (by decide) ?_
                  clear q0 q1 q2 q3 q4 q5 q6 q7
                  refine lv_ldc (v := -1000001) hx hb X.2.2.2.1 (X.2.2.2.2.1 _ wd_969) dX7_count_143 ?_
                  obtain ⟨rfl, rfl⟩ := ret_inj hf98
                  exact x_iret X hr hlocks hP4 hS5 dX7_count_145
set_option maxRecDepth 100000 in
set_option maxHeartbeats 4000000 in
theorem tX7_status (l : Launch) {g : Gx} (hI : InjG g) {h k k1 : Hp}  {r : Int32}   (hf : fX7_status k = some (r, k1)) : CI l yX7_status cX7_status 1 (some .int) 0 g [.ref (g.2.2 246)] h k h k1 r := by
  refine Met.ofW (cc := cX7_status) (maxL := 1) (ret := (some .int)) (by decide) rfl ?_
  intro p en s m args below meth c s₁ B hml hv
  obtain ⟨rfl, hSK, hSH, hP⟩ := hv
  have X : Cx p s m _ c cX7_status 1 RX7 g := ⟨B.exec, B.bytes, hml, findClass_of_methodNamed B.named, fun w hw => atoms_spec (ws := wsy yX7_status cX7_status 1 (some .int)) B.pre w (List.mem_cons_of_mem _ hw), hSK, hI, hSH⟩
  have hr := B.returns
  have hlocks := B.notSynchronized
  have hx := X.1
  have hb := X.2.1
  have hS : va_S (inA g) s.heap s.heap [] := va_S.rf
  clear hSK hSH hml B
  have hl := lv_entry ([.ref (g.2.2 246)]) (n := 1) (Nat.le_of_ble_eq_true rfl)
  rw [lg_entry_eq]
  generalize (lg_sl ([.ref (g.2.2 246)]) ++ List.replicate (1 - (lg_sl ([.ref (g.2.2 246)])).length) Slot.unset).toArray = ls at hl ⊢
  have hl : lv_has ls 1 [(0, .ref (g.2.2 246))] := hl
  generalize ([.ref (g.2.2 246)] : List Value).toArray = args at X ⊢
  show W p l en (rmD 0) s m args below meth c s.heap [] 0 0 (MQ below (QI g h k1 r) args s 0 0 (inA g)) (F0 m 0 ls [])
  unfold fX7_status at hf
  refine lv_aload_n hx hb dX7_status_0 rfl (lv_at hl 0 rfl) ?_
  refine lv_iconst (v := 0) hx hb dX7_status_1 (by decide) ?_
  refine pX7 X hP hS 0 (by decide) rfl wd_883 rfl rfl rfl rfl seX7_0 dX7_status_2 (fun H1 lc2 kk3 ekk3 hP4 hS5 => ?_)
  have hf6 := lk_at ekk3 hf
  clear hf hP hS
  refine lv_aload_n hx hb dX7_status_5 rfl (lv_at hl 0 rfl) ?_
  refine gX7 X hP4 1 (v := .int (kk3 246 1)) rfl (by decide) rfl wd_884 dX7_status_6 ?_
  obtain ⟨rfl, rfl⟩ := ret_inj hf6
  exact x_iret X hr hlocks hP4 hS5 dX7_status_9
