set_option maxRecDepth 100000 in
set_option maxHeartbeats 4000000 in
theorem wX7_walk_L56 {p : Program} {l : Launch} {en : Env} {s : State} {m : MethodId} {args : Array Value} {below : List Frame} {meth : Method} {c : Code} {g : Gx} (X : Cx p s m args c cX7_walk 12 RX7 g) (hr : meth.sig.returnType = (some .int)) (hlocks : meth.locks = false) {h k1 : Hp} {r : Int32} {v1 : Int32} {v2 : Int32} {v3 : Int32}  {K94 : Hp → Option (Int32 × Hp)}
    (hK94 : ∀  (k : Hp) (H : Heap) (locs : List Loc) (ls : Array Slot), K94  k = some (r, k1) → va_P g.1 vwCl (WW g h k) H → va_S (inA g) s.heap H locs → lv_has ls 12 [(0, .ref (g.2.2 246)), (1, .int v1), (2, .int v2), (3, .int v3)] → W p l en (rmD 4) s m args below meth c H locs 0 0 (MQ below (QI g h k1 r) args s 0 0 (inA g)) (F0 m 94 ls [])) :
    ∀ (n : Nat) (v4 : Int32) (k : Hp) (H : Heap) (locs : List Loc) (ls : Array Slot), fX7_walk_L56 K94 n v1 v2 v3 v4 k = some (r, k1) → va_P g.1 vwCl (WW g h k) H → va_S (inA g) s.heap H locs → lv_has ls 12 [(0, .ref (g.2.2 246)), (1, .int v1), (2, .int v2), (3, .int v3), (4, .int v4)] → W p l en (rmD 4) s m args below meth c H locs 0 0 (MQ below (QI g h k1 r) args s 0 0 (inA g)) (F0 m 56 ls []) := by
  have hx := X.1
  have hb := X.2.1
  intro n
  induction n with
  | zero => intro v4 k H locs ls  hf; simp only [fX7_walk_L56, reduceCtorEq] at hf
  | succ n ih =>
    intro v4 k H locs ls  hf hP hS hl
    rw [fX7_walk_L56] at hf
    refine lv_iload hx hb dX7_walk_56 (lv_at hl 4 rfl) ?_
    refine lv_aload_n hx hb dX7_walk_58 rfl (lv_at hl 0 rfl) ?_
    refine gX7 X hP 5 (v := .ref (g.2.2 250)) rfl (by decide) rfl wd_888 dX7_walk_59 ?_
    refine lv_iconst (v := 2) hx hb dX7_walk_62 (by decide) ?_
    obtain ⟨hc53, hf54⟩ := chk_some hf
    refine x_ildM X hP 250 rfl hc53 dX7_walk_63 ?_
    refine lv_icmp_ge (tgt := 94) hx hb dX7_walk_64 (by decide) (fun c55 => ?_) (fun c55 => ?_)
    · have hf56 := if_at_t c55 hf54
      clear hf54
      exact hK94 k  _ _ _ hf56 hP hS (lv_sub hl [0, 1, 2, 3] rfl)
    · have hf57 := if_at_f c55 hf54
      clear hf54
      refine lv_aload_n hx hb dX7_walk_67 rfl (lv_at hl 0 rfl) ?_
      refine gX7 X hP 19 (v := .ref (g.2.2 255)) rfl (by decide) rfl wd_902 dX7_walk_68 ?_
      refine lv_bipush (v := 16) hx hb dX7_walk_71 (by decide) ?_
      refine lv_iload_n hx hb dX7_walk_73 rfl (lv_at hl 3 rfl) ?_
      refine lv_imul hx hb dX7_walk_74 ?_
      refine lv_iload hx hb dX7_walk_75 (lv_at hl 4 rfl) ?_
      refine lv_iadd hx hb dX7_walk_77 ?_
      refine lv_aload_n hx hb dX7_walk_78 rfl (lv_at hl 0 rfl) ?_
      refine gX7 X hP 7 (v := .ref (g.2.2 252)) rfl (by decide) rfl wd_890 dX7_walk_79 ?_
      refine lv_iload hx hb dX7_walk_82 (lv_at hl 4 rfl) ?_
      obtain ⟨x58, kk59, hg65, hf64⟩ := bd_some hf57
      refine x_ci (x_runS (As := [.ref (g.2.2 252), .int v4]) (rest := [.int (((16 : Int32) * v3) + v4), .ref (g.2.2 255)]) X hP hS (tX7_overOf l X.2.2.2.2.2.2.1 (rfl : isMA 252 = true) hg65) mi_X7_226 rfl hl.1 rfl (Nat.le_of_ble_eq_true rfl) dX7_walk_84 ⟨Nat.le_of_ble_eq_true rfl, Nat.le_of_ble_eq_true rfl⟩ ⟨Nat.zero_le _, Nat.zero_le _⟩) hS (fun H60 lc61 hP62 hS63 => ?_)
      clear hf57 hP hS hg65
      obtain ⟨hc66, hf67⟩ := chk_some hf64
      refine x_istM X hP62 hS63 255 rfl hc66 dX7_walk_87 (fun H68 lc69 kk70 ekk70 hP71 hS72 => ?_)
      have hf73 := lk_at ekk70 hf67
      clear hf67 hP62 hS63
      obtain ⟨x74, ex74⟩ : ∃ q : Int32, q = v4 + (1 : Int32) := ⟨_, rfl⟩
      have hf75 := lk_at ex74 hf73
      clear hf73
      refine lv_iinc (v := x74) (lv' := [(4, .int x74), (0, .ref (g.2.2 246)), (1, .int v1), (2, .int v2), (3, .int v3)]) hx hb dX7_walk_88 hl (k := 4) rfl (by rw [ex74]; rfl) (by decide) rfl (fun ls76 hl77 => ?_)
      clear hl
      refine lv_goto (tgt := 56) hx hb dX7_walk_91 (by decide) ?_
      exact ih x74 kk70  _ _ _ hf75 hP71 hS72 (lv_sub hl77 [1, 2, 3, 4, 0] rfl)
set_option maxRecDepth 100000 in
set_option maxHeartbeats 4000000 in
theorem wX7_walk_L41 {p : Program} {l : Launch} {en : Env} {s : State} {m : MethodId} {args : Array Value} {below : List Frame} {meth : Method} {c : Code} {g : Gx} (X : Cx p s m args c cX7_walk 12 RX7 g) (hr : meth.sig.returnType = (some .int)) (hlocks : meth.locks = false) {h k1 : Hp} {r : Int32} {v1 : Int32} {v2 : Int32}  {K100 : Hp → Option (Int32 × Hp)}
    (hK100 : ∀  (k : Hp) (H : Heap) (locs : List Loc) (ls : Array Slot), K100  k = some (r, k1) → va_P g.1 vwCl (WW g h k) H → va_S (inA g) s.heap H locs → lv_has ls 12 [(0, .ref (g.2.2 246)), (1, .int v1), (2, .int v2)] → W p l en (rmD 4) s m args below meth c H locs 0 0 (MQ below (QI g h k1 r) args s 0 0 (inA g)) (F0 m 100 ls [])) :
    ∀ (n : Nat) (v3 : Int32) (k : Hp) (H : Heap) (locs : List Loc) (ls : Array Slot), fX7_walk_L41 K100 n v1 v2 v3 k = some (r, k1) → va_P g.1 vwCl (WW g h k) H → va_S (inA g) s.heap H locs → lv_has ls 12 [(0, .ref (g.2.2 246)), (1, .int v1), (2, .int v2), (3, .int v3)] → W p l en (rmD 4) s m args below meth c H locs 0 0 (MQ below (QI g h k1 r) args s 0 0 (inA g)) (F0 m 41 ls []) := by
  have hx := X.1
  have hb := X.2.1
  intro n
  induction n with
  | zero => intro v3 k H locs ls  hf; simp only [fX7_walk_L41, reduceCtorEq] at hf
  | succ n ih =>
    intro v3 k H locs ls  hf hP hS hl
    rw [fX7_walk_L41] at hf
    refine lv_iload_n hx hb dX7_walk_41 rfl (lv_at hl 3 rfl) ?_
    refine lv_iload_n hx hb dX7_walk_42 rfl (lv_at hl 1 rfl) ?_
    refine lv_icmp_ge (tgt := 100) hx hb dX7_walk_43 (by decide) (fun c40 => ?_) (fun c40 => ?_)
    · have hf41 := if_at_t c40 hf
      clear hf
      exact hK100 k  _ _ _ hf41 hP hS (lv_sub hl [0, 1, 2] rfl)
    · have hf42 := if_at_f c40 hf
      clear hf
      refine lv_aload_n hx hb dX7_walk_46 rfl (lv_at hl 0 rfl) ?_
      refine gX7 X hP 7 (v := .ref (g.2.2 252)) rfl (by decide) rfl wd_890 dX7_walk_47 ?_
      obtain ⟨⟨⟩, kk44, hg50, hf49⟩ := bd_some hf42
      refine x_cv (x_runS (As := [.ref (g.2.2 252)]) (rest := []) X hP hS (tX7_hourOf l X.2.2.2.2.2.2.1 (rfl : isMA 252 = true) hg50) mi_X7_183 rfl hl.1 rfl (Nat.le_of_ble_eq_true rfl) dX7_walk_50 ⟨Nat.le_of_ble_eq_true rfl, Nat.le_of_ble_eq_true rfl⟩ ⟨Nat.zero_le _, Nat.zero_le _⟩) hS (fun H45 lc46 hP47 hS48 => ?_)
      clear hf42 hP hS hg50
      refine lv_iconst (v := 0) hx hb dX7_walk_53 (by decide) ?_
      refine lv_istore (lv' := [(4, .int (0 : Int32)), (0, .ref (g.2.2 246)), (1, .int v1), (2, .int v2), (3, .int v3)]) hx hb dX7_walk_54 hl (by decide) rfl (fun ls51 hl52 => ?_)
      clear hl
      refine wX7_walk_L56 X hr hlocks  ?_ 4096 (0 : Int32) kk44 _ _ _  hf49 hP47 hS48 (lv_sub hl52 [1, 2, 3, 4, 0] rfl)
      · intro  kk78 H79 lc80 ls81  hf85 hP82 hS83 hl84
        obtain ⟨x86, ex86⟩ : ∃ q : Int32, q = v3 + (1 : Int32) := ⟨_, rfl⟩
        have hf87 := lk_at ex86 hf85
        clear hf85
        refine lv_iinc (v := x86) (lv' := [(3, .int x86), (0, .ref (g.2.2 246)), (1, .int v1), (2, .int v2)]) hx hb dX7_walk_94 hl84 (k := 3) rfl (by rw [ex86]; rfl) (by decide) rfl (fun ls88 hl89 => ?_)
        clear hl84
        refine lv_goto (tgt := 41) hx hb dX7_walk_97 (by decide) ?_
        exact ih x86 kk78  _ _ _ hf87 hP82 hS83 (lv_sub hl89 [1, 2, 3, 0] rfl)
set_option maxRecDepth 100000 in
set_option maxHeartbeats 4000000 in
theorem wX7_walk_L105 {p : Program} {l : Launch} {en : Env} {s : State} {m : MethodId} {args : Array Value} {below : List Frame} {meth : Method} {c : Code} {g : Gx} (X : Cx p s m args c cX7_walk 12 RX7 g) (hr : meth.sig.returnType = (some .int)) (hlocks : meth.locks = false) {h k1 : Hp} {r : Int32} {v1 : Int32} {v2 : Int32}  {K121 : Int32 → Hp → Option (Int32 × Hp)}
    (hK121 : ∀ (v3 : Int32) (k : Hp) (H : Heap) (locs : List Loc) (ls : Array Slot), K121 v3 k = some (r, k1) → va_P g.1 vwCl (WW g h k) H → va_S (inA g) s.heap H locs → lv_has ls 12 [(0, .ref (g.2.2 246)), (1, .int v1), (2, .int v2), (3, .int v3)] → W p l en (rmD 4) s m args below meth c H locs 0 0 (MQ below (QI g h k1 r) args s 0 0 (inA g)) (F0 m 121 ls [])) :
    ∀ (n : Nat) (v3 : Int32) (v4 : Int32) (k : Hp) (H : Heap) (locs : List Loc) (ls : Array Slot), fX7_walk_L105 K121 n v1 v2 v3 v4 k = some (r, k1) → va_P g.1 vwCl (WW g h k) H → va_S (inA g) s.heap H locs → lv_has ls 12 [(0, .ref (g.2.2 246)), (1, .int v1), (2, .int v2), (3, .int v3), (4, .int v4)] → W p l en (rmD 4) s m args below meth c H locs 0 0 (MQ below (QI g h k1 r) args s 0 0 (inA g)) (F0 m 105 ls []) := by
  have hx := X.1
  have hb := X.2.1
  intro n
  induction n with
  | zero => intro v3 v4 k H locs ls  hf; simp only [fX7_walk_L105, reduceCtorEq] at hf
  | succ n ih =>
    intro v3 v4 k H locs ls  hf hP hS hl
    rw [fX7_walk_L105] at hf
    refine lv_iload hx hb dX7_walk_105 (lv_at hl 4 rfl) ?_
    refine lv_iload_n hx hb dX7_walk_107 rfl (lv_at hl 1 rfl) ?_
    refine lv_icmp_ge (tgt := 121) hx hb dX7_walk_108 (by decide) (fun c102 => ?_) (fun c102 => ?_)
    · have hf103 := if_at_t c102 hf
      clear hf
      exact hK121 v3 k  _ _ _ hf103 hP hS (lv_sub hl [0, 1, 2, 3] rfl)
    · have hf104 := if_at_f c102 hf
      clear hf
      refine lv_iload_n hx hb dX7_walk_111 rfl (lv_at hl 3 rfl) ?_
      refine lv_iconst (v := 3) hx hb dX7_walk_112 (by decide) ?_
      refine lv_imul hx hb dX7_walk_113 ?_
      refine lv_topi (fun x105 ex105 => ?_)
      have hf106 := lk_at ex105 hf104
      clear hf104
      refine lv_istore_n (lv' := [(3, .int x105), (0, .ref (g.2.2 246)), (1, .int v1), (2, .int v2), (4, .int v4)]) hx hb dX7_walk_114 rfl hl (by decide) rfl (fun ls107 hl108 => ?_)
      clear hl
      obtain ⟨x109, ex109⟩ : ∃ q : Int32, q = v4 + (1 : Int32) := ⟨_, rfl⟩
      have hf110 := lk_at ex109 hf106
      clear hf106
      refine lv_iinc (v := x109) (lv' := [(4, .int x109), (3, .int x105), (0, .ref (g.2.2 246)), (1, .int v1), (2, .int v2)]) hx hb dX7_walk_115 hl108 (k := 4) rfl (by rw [ex109]; rfl) (by decide) rfl (fun ls111 hl112 => ?_)
      clear hl108
      refine lv_goto (tgt := 105) hx hb dX7_walk_118 (by decide) ?_
      exact ih x105 x109 k  _ _ _ hf110 hP hS (lv_sub hl112 [2, 3, 4, 1, 0] rfl)
set_option maxRecDepth 100000 in
set_option maxHeartbeats 4000000 in
theorem wX7_walk_L159 {p : Program} {l : Launch} {en : Env} {s : State} {m : MethodId} {args : Array Value} {below : List Frame} {meth : Method} {c : Code} {g : Gx} (X : Cx p s m args c cX7_walk 12 RX7 g) (hr : meth.sig.returnType = (some .int)) (hlocks : meth.locks = false) {h k1 : Hp} {r : Int32} {v1 : Int32} {v2 : Int32} {v3 : Int32} {v4 : Int32} {v5 : Int32} {v6 : Int32}  {K249 : Int32 → Int32 → Hp → Option (Int32 × Hp)}
    (hK249 : ∀ (v9 : Int32) (v10 : Int32) (k : Hp) (H : Heap) (locs : List Loc) (ls : Array Slot), K249 v9 v10 k = some (r, k1) → va_P g.1 vwCl (WW g h k) H → va_S (inA g) s.heap H locs → lv_has ls 12 [(0, .ref (g.2.2 246)), (1, .int v1), (2, .int v2), (3, .int v3), (4, .int v4), (5, .int v5), (6, .int v6), (9, .int v9), (10, .int v10)] → W p l en (rmD 4) s m args below meth c H locs 0 0 (MQ below (QI g h k1 r) args s 0 0 (inA g)) (F0 m 249 ls [])) :
    ∀ (n : Nat) (v7 : Int32) (v8 : Int32) (v9 : Int32) (v10 : Int32) (v11 : Int32) (k : Hp) (H : Heap) (locs : List Loc) (ls : Array Slot), fX7_walk_L159 K249 n v1 v2 v3 v4 v5 v6 v7 v8 v9 v10 v11 k = some (r, k1) → va_P g.1 vwCl (WW g h k) H → va_S (inA g) s.heap H locs → lv_has ls 12 [(0, .ref (g.2.2 246)), (1, .int v1), (2, .int v2), (3, .int v3), (4, .int v4), (5, .int v5), (6, .int v6), (7, .int v7), (8, .int v8), (9, .int v9), (10, .int v10), (11, .int v11)] → W p l en (rmD 4) s m args below meth c H locs 0 0 (MQ below (QI g h k1 r) args s 0 0 (inA g)) (F0 m 159 ls []) := by
  have hx := X.1
  have hb := X.2.1
  intro n
  induction n with
  | zero => intro v7 v8 v9 v10 v11 k H locs ls  hf; simp only [fX7_walk_L159, reduceCtorEq] at hf
  | succ n ih =>
    intro v7 v8 v9 v10 v11 k H locs ls  hf hP hS hl
    rw [fX7_walk_L159] at hf
    refine lv_iload hx hb dX7_walk_159 (lv_at hl 11 rfl) ?_
    refine lv_iload_n hx hb dX7_walk_161 rfl (lv_at hl 1 rfl) ?_
    refine lv_icmp_ge (tgt := 249) hx hb dX7_walk_162 (by decide) (fun c147 => ?_) (fun c147 => ?_)
    · have hf148 := if_at_t c147 hf
      clear hf
      exact hK249 v9 v10 k  _ _ _ hf148 hP hS (lv_sub hl [0, 1, 2, 3, 4, 5, 6, 9, 10] rfl)
    · have hf149 := if_at_f c147 hf
      clear hf
      refine lv_iload hx hb dX7_walk_165 (lv_at hl 7 rfl) ?_
      refine lv_iload hx hb dX7_walk_167 (lv_at hl 6 rfl) ?_
      refine lv_iload hx hb dX7_walk_169 (lv_at hl 8 rfl) ?_
      obtain ⟨hc150, hf151⟩ := chk_some hf149
      refine lv_idiv hx hb dX7_walk_171 (nz_in hc150) ?_
      refine lv_iconst (v := 3) hx hb dX7_walk_172 (by decide) ?_
      refine x_irem X dX7_walk_173 (by decide) ?_
      refine lv_iconst (v := 1) hx hb dX7_walk_174 (by decide) ?_
      refine lv_isub hx hb dX7_walk_175 ?_
      refine lv_iadd hx hb dX7_walk_176 ?_
      refine lv_topi (fun x152 ex152 => ?_)
      have hf153 := lk_at ex152 hf151
      clear hf151
      refine lv_istore (lv' := [(7, .int x152), (0, .ref (g.2.2 246)), (1, .int v1), (2, .int v2), (3, .int v3), (4, .int v4), (5, .int v5), (6, .int v6), (8, .int v8), (9, .int v9), (10, .int v10), (11, .int v11)]) hx hb dX7_walk_177 hl (by decide) rfl (fun ls154 hl155 => ?_)
      clear hl
      refine lv_iload hx hb dX7_walk_179 (lv_at hl155 8 rfl) ?_
      refine lv_iconst (v := 1) hx hb dX7_walk_181 (by decide) ?_
      obtain ⟨J193_156, eJ193_156, hf226⟩ := jp_at hf153
      clear hf153
      have hJ193_156 : ∀ (J193_156s0 : Int32) (kk157 : Hp) (H158 : Heap) (lc159 : List Loc) (ls160 : Array Slot), J193_156 J193_156s0 kk157 = some (r, k1) → va_P g.1 vwCl (WW g h kk157) H158 → va_S (inA g) s.heap H158 lc159 → lv_has ls160 12 [(0, .ref (g.2.2 246)), (1, .int v1), (2, .int v2), (3, .int v3), (4, .int v4), (5, .int v5), (6, .int v6), (7, .int x152), (9, .int v9), (10, .int v10), (11, .int v11)] → W p l en (rmD 4) s m args below meth c H158 lc159 0 0 (MQ below (QI g h k1 r) args s 0 0 (inA g)) (F0 m 193 ls160 [.int J193_156s0]) := by
        intro J193_156s0 kk157 H158 lc159 ls160 hf164 hP161 hS162 hl163
        clear hf226 hP hS hl155
        subst eJ193_156
        refine lv_istore (lv' := [(8, .int J193_156s0), (0, .ref (g.2.2 246)), (1, .int v1), (2, .int v2), (3, .int v3), (4, .int v4), (5, .int v5), (6, .int v6), (7, .int x152), (9, .int v9), (10, .int v10), (11, .int v11)]) hx hb dX7_walk_193 hl163 (by decide) rfl (fun ls165 hl166 => ?_)
        clear hl163
        refine lv_iload hx hb dX7_walk_195 (lv_at hl166 10 rfl) ?_
        obtain ⟨J214_167, eJ214_167, hf201⟩ := jp_at hf164
        clear hf164
        have hJ214_167 : ∀ (J214_167s0 : Int32) (kk168 : Hp) (H169 : Heap) (lc170 : List Loc) (ls171 : Array Slot), J214_167 J214_167s0 kk168 = some (r, k1) → va_P g.1 vwCl (WW g h kk168) H169 → va_S (inA g) s.heap H169 lc170 → lv_has ls171 12 [(0, .ref (g.2.2 246)), (1, .int v1), (2, .int v2), (3, .int v3), (4, .int v4), (5, .int v5), (6, .int v6), (7, .int x152), (8, .int J193_156s0), (9, .int v9), (11, .int v11)] → W p l en (rmD 4) s m args below meth c H169 lc170 0 0 (MQ below (QI g h k1 r) args s 0 0 (inA g)) (F0 m 214 ls171 [.int J214_167s0]) := by
          intro J214_167s0 kk168 H169 lc170 ls171 hf175 hP172 hS173 hl174
          clear hf201 hP161 hS162 hl166
          subst eJ214_167
          refine lv_istore (lv' := [(10, .int J214_167s0), (0, .ref (g.2.2 246)), (1, .int v1), (2, .int v2), (3, .int v3), (4, .int v4), (5, .int v5), (6, .int v6), (7, .int x152), (8, .int J193_156s0), (9, .int v9), (11, .int v11)]) hx hb dX7_walk_214 hl174 (by decide) rfl (fun ls176 hl177 => ?_)
          clear hl174
          refine lv_iload hx hb dX7_walk_216 (lv_at hl177 10 rfl) ?_
          refine lv_iload hx hb dX7_walk_218 (lv_at hl177 0 rfl) ?_
          obtain ⟨J240_178, eJ240_178, hf195⟩ := jp_at hf175
          clear hf175
          have hJ240_178 : ∀ (J240_178s0 : Int32) (kk179 : Hp) (H180 : Heap) (lc181 : List Loc) (ls182 : Array Slot), J240_178 J240_178s0 kk179 = some (r, k1) → va_P g.1 vwCl (WW g h kk179) H180 → va_S (inA g) s.heap H180 lc181 → lv_has ls182 12 [(0, .ref (g.2.2 246)), (1, .int v1), (2, .int v2), (3, .int v3), (4, .int v4), (5, .int v5), (6, .int v6), (7, .int x152), (8, .int J193_156s0), (10, .int J214_167s0), (11, .int v11)] → W p l en (rmD 4) s m args below meth c H180 lc181 0 0 (MQ below (QI g h k1 r) args s 0 0 (inA g)) (F0 m 240 ls182 [.int J240_178s0, .int v9]) := by
            intro J240_178s0 kk179 H180 lc181 ls182 hf186 hP183 hS184 hl185
            clear hf195 hP172 hS173 hl177
            subst eJ240_178
            refine lv_iadd hx hb dX7_walk_240 ?_
            refine lv_topi (fun x187 ex187 => ?_)
            have hf188 := lk_at ex187 hf186
            clear hf186
            refine lv_istore (lv' := [(9, .int x187), (0, .ref (g.2.2 246)), (1, .int v1), (2, .int v2), (3, .int v3), (4, .int v4), (5, .int v5), (6, .int v6), (7, .int x152), (8, .int J193_156s0), (10, .int J214_167s0), (11, .int v11)]) hx hb dX7_walk_241 hl185 (by decide) rfl (fun ls189 hl190 => ?_)
            clear hl185
            obtain ⟨x191, ex191⟩ : ∃ q : Int32, q = v11 + (1 : Int32) := ⟨_, rfl⟩
            have hf192 := lk_at ex191 hf188
            clear hf188
            refine lv_iinc (v := x191) (lv' := [(11, .int x191), (9, .int x187), (0, .ref (g.2.2 246)), (1, .int v1), (2, .int v2), (3, .int v3), (4, .int v4), (5, .int v5), (6, .int v6), (7, .int x152), (8, .int J193_156s0), (10, .int J214_167s0)]) hx hb dX7_walk_243 hl190 (k := 11) rfl (by rw [ex191]; rfl) (by decide) rfl (fun ls193 hl194 => ?_)
            clear hl190
            refine lv_goto (tgt := 159) hx hb dX7_walk_246 (by decide) ?_
            exact ih x152 J193_156s0 x187 J214_167s0 x191 kk179  _ _ _ hf192 hP183 hS184 (lv_sub hl194 [2, 3, 4, 5, 6, 7, 8, 9, 10, 1, 11, 0] rfl)
          clear eJ240_178
          refine lv_if_eq (tgt := 239) hx hb dX7_walk_220 (by decide) (fun c196 => ?_) (fun c196 => ?_)
          · have hf197 := if_at_t c196 hf195
            clear hf195
            refine lv_iconst (v := 0) hx hb dX7_walk_239 (by decide) ?_
            exact hJ240_178 (0 : Int32) kk168  _ _ _ hf197 hP172 hS173 (lv_sub hl177 [1, 2, 3, 4, 5, 6, 7, 8, 9, 0, 11] rfl)
          · have hf198 := if_at_f c196 hf195
            clear hf195
            refine lv_aload_n hx hb dX7_walk_223 rfl (lv_at hl177 1 rfl) ?_
            refine gX7 X hP172 19 (v := .ref (g.2.2 255)) rfl (by decide) rfl wd_902 dX7_walk_224 ?_
            refine lv_bipush (v := 16) hx hb dX7_walk_227 (by decide) ?_
            refine lv_iload hx hb dX7_walk_229 (lv_at hl177 11 rfl) ?_
            refine lv_imul hx hb dX7_walk_231 ?_
            refine lv_iload hx hb dX7_walk_232 (lv_at hl177 8 rfl) ?_
            refine lv_iadd hx hb dX7_walk_234 ?_
            obtain ⟨hc199, hf200⟩ := chk_some hf198
            refine x_ildM X hP172 255 rfl hc199 dX7_walk_235 ?_
            refine lv_goto (tgt := 240) hx hb dX7_walk_236 (by decide) ?_
            exact hJ240_178 (kk168 255 (((16 : Int32) * v11) + x152).toNatClampNeg) kk168  _ _ _ hf200 hP172 hS173 (lv_sub hl177 [1, 2, 3, 4, 5, 6, 7, 8, 9, 0, 11] rfl)
        clear eJ214_167
        obtain ⟨J213_202, eJ213_202, hf211⟩ := jp_at hf201
        clear hf201
        have hJ213_202 : ∀  (kk203 : Hp) (H204 : Heap) (lc205 : List Loc) (ls206 : Array Slot), J213_202  kk203 = some (r, k1) → va_P g.1 vwCl (WW g h kk203) H204 → va_S (inA g) s.heap H204 lc205 → lv_has ls206 12 [(0, .ref (g.2.2 246)), (1, .int v1), (2, .int v2), (3, .int v3), (4, .int v4), (5, .int v5), (6, .int v6), (7, .int x152), (8, .int J193_156s0), (9, .int v9), (11, .int v11)] → W p l en (rmD 4) s m args below meth c H204 lc205 0 0 (MQ below (QI g h k1 r) args s 0 0 (inA g)) (F0 m 213 ls206 []) := by
          intro  kk203 H204 lc205 ls206 hf210 hP207 hS208 hl209
          clear hf211 hP161 hS162 hl166
          subst eJ213_202
          refine lv_iconst (v := 0) hx hb dX7_walk_213 (by decide) ?_
          exact hJ214_167 (0 : Int32) kk203  _ _ _ hf210 hP207 hS208 (lv_sub hl209 [0, 1, 2, 3, 4, 5, 6, 7, 8, 9, 10] rfl)
        clear eJ213_202
        refine lv_if_eq (tgt := 213) hx hb dX7_walk_197 (by decide) (fun c212 => ?_) (fun c212 => ?_)
        · have hf213 := if_at_t c212 hf211
          clear hf211
          exact hJ213_202 kk157  _ _ _ hf213 hP161 hS162 (lv_sub hl166 [1, 2, 3, 4, 5, 6, 7, 8, 0, 9, 11] rfl)
        · have hf214 := if_at_f c212 hf211
          clear hf211
          refine lv_aload_n hx hb dX7_walk_200 rfl (lv_at hl166 1 rfl) ?_
          refine lv_iload hx hb dX7_walk_201 (lv_at hl166 8 rfl) ?_
          obtain ⟨x215, kk216, hg222, hf221⟩ := bd_some hf214
          refine x_ci (x_runV (As := [.int x152]) (rest := []) X hP161 hS162 246 (by decide) cl_M rfl (tX7_isCell l X.2.2.2.2.2.2.1  hg222) mi_X7_202 rfl hl166.1 rfl (Nat.le_of_ble_eq_true rfl) dX7_walk_203 ⟨Nat.le_of_ble_eq_true rfl, Nat.le_of_ble_eq_true rfl⟩ ⟨Nat.zero_le _, Nat.zero_le _⟩) hS162 (fun H217 lc218 hP219 hS220 => ?_)
          clear hf214 hP161 hS162 hg222
          refine lv_if_eq (tgt := 213) hx hb dX7_walk_206 (by decide) (fun c223 => ?_) (fun c223 => ?_)
          · have hf224 := if_at_t c223 hf221
            clear hf221
            exact hJ213_202 kk216  _ _ _ hf224 hP219 hS220 (lv_sub hl166 [1, 2, 3, 4, 5, 6, 7, 8, 0, 9, 11] rfl)
          · have hf225 := if_at_f c223 hf221
            clear hf221
            refine lv_iconst (v := 1) hx hb dX7_walk_209 (by decide) ?_
            refine lv_goto (tgt := 214) hx hb dX7_walk_210 (by decide) ?_
            exact hJ214_167 (1 : Int32) kk216  _ _ _ hf225 hP219 hS220 (lv_sub hl166 [1, 2, 3, 4, 5, 6, 7, 8, 0, 9, 11] rfl)
      clear eJ193_156
      refine lv_icmp_le (tgt := 192) hx hb dX7_walk_182 (by decide) (fun c227 => ?_) (fun c227 => ?_)
      · have hf228 := if_at_t c227 hf226
        clear hf226
        refine lv_iconst (v := 1) hx hb dX7_walk_192 (by decide) ?_
        exact hJ193_156 (1 : Int32) k  _ _ _ hf228 hP hS (lv_sub hl155 [1, 2, 3, 4, 5, 6, 7, 0, 9, 10, 11] rfl)
      · have hf229 := if_at_f c227 hf226
        clear hf226
        refine lv_iload hx hb dX7_walk_185 (lv_at hl155 8 rfl) ?_
        refine lv_iconst (v := 3) hx hb dX7_walk_187 (by decide) ?_
        refine lv_idiv hx hb dX7_walk_188 (by decide) ?_
        refine lv_goto (tgt := 193) hx hb dX7_walk_189 (by decide) ?_
        exact hJ193_156 (v8 / (3 : Int32)) k  _ _ _ hf229 hP hS (lv_sub hl155 [1, 2, 3, 4, 5, 6, 7, 0, 9, 10, 11] rfl)
set_option maxRecDepth 100000 in
set_option maxHeartbeats 4000000 in
theorem wX7_walk_L131 {p : Program} {l : Launch} {en : Env} {s : State} {m : MethodId} {args : Array Value} {below : List Frame} {meth : Method} {c : Code} {g : Gx} (X : Cx p s m args c cX7_walk 12 RX7 g) (hr : meth.sig.returnType = (some .int)) (hlocks : meth.locks = false) {h k1 : Hp} {r : Int32} {v1 : Int32} {v2 : Int32} {v3 : Int32}  {K282 : Int32 → Int32 → Hp → Option (Int32 × Hp)}
    (hK282 : ∀ (v4 : Int32) (v5 : Int32) (k : Hp) (H : Heap) (locs : List Loc) (ls : Array Slot), K282 v4 v5 k = some (r, k1) → va_P g.1 vwCl (WW g h k) H → va_S (inA g) s.heap H locs → lv_has ls 12 [(0, .ref (g.2.2 246)), (1, .int v1), (2, .int v2), (3, .int v3), (4, .int v4), (5, .int v5)] → W p l en (rmD 4) s m args below meth c H locs 0 0 (MQ below (QI g h k1 r) args s 0 0 (inA g)) (F0 m 282 ls [])) :
    ∀ (n : Nat) (v4 : Int32) (v5 : Int32) (v6 : Int32) (k : Hp) (H : Heap) (locs : List Loc) (ls : Array Slot), fX7_walk_L131 K282 n v1 v2 v3 v4 v5 v6 k = some (r, k1) → va_P g.1 vwCl (WW g h k) H → va_S (inA g) s.heap H locs → lv_has ls 12 [(0, .ref (g.2.2 246)), (1, .int v1), (2, .int v2), (3, .int v3), (4, .int v4), (5, .int v5), (6, .int v6)] → W p l en (rmD 4) s m args below meth c H locs 0 0 (MQ below (QI g h k1 r) args s 0 0 (inA g)) (F0 m 131 ls []) := by
  have hx := X.1
  have hb := X.2.1
  intro n
  induction n with
  | zero => intro v4 v5 v6 k H locs ls  hf; simp only [fX7_walk_L131, reduceCtorEq] at hf
  | succ n ih =>
    intro v4 v5 v6 k H locs ls  hf hP hS hl
    rw [fX7_walk_L131] at hf
    refine lv_iload hx hb dX7_walk_131 (lv_at hl 6 rfl) ?_
    refine lv_iload_n hx hb dX7_walk_133 rfl (lv_at hl 3 rfl) ?_
    refine lv_icmp_ge (tgt := 282) hx hb dX7_walk_134 (by decide) (fun c128 => ?_) (fun c128 => ?_)
    · have hf129 := if_at_t c128 hf
      clear hf
      exact hK282 v4 v5 k  _ _ _ hf129 hP hS (lv_sub hl [0, 1, 2, 3, 4, 5] rfl)
    · have hf130 := if_at_f c128 hf
      clear hf
      refine lv_aload_n hx hb dX7_walk_137 rfl (lv_at hl 0 rfl) ?_
      refine gX7 X hP 5 (v := .ref (g.2.2 250)) rfl (by decide) rfl wd_888 dX7_walk_138 ?_
      refine lv_iconst (v := 4) hx hb dX7_walk_141 (by decide) ?_
      obtain ⟨hc131, hf132⟩ := chk_some hf130
      refine x_ildM X hP 250 rfl hc131 dX7_walk_142 ?_
      refine lv_topi (fun x133 ex133 => ?_)
      have hf134 := lk_at ex133 hf132
      clear hf132
      refine lv_istore (lv' := [(7, .int x133), (0, .ref (g.2.2 246)), (1, .int v1), (2, .int v2), (3, .int v3), (4, .int v4), (5, .int v5), (6, .int v6)]) hx hb dX7_walk_143 hl (by decide) rfl (fun ls135 hl136 => ?_)
      clear hl
      refine lv_iload_n hx hb dX7_walk_145 rfl (lv_at hl136 4 rfl) ?_
      refine lv_iconst (v := 3) hx hb dX7_walk_146 (by decide) ?_
      refine lv_idiv hx hb dX7_walk_147 (by decide) ?_
      refine lv_topi (fun x137 ex137 => ?_)
      have hf138 := lk_at ex137 hf134
      clear hf134
      refine lv_istore (lv' := [(8, .int x137), (7, .int x133), (0, .ref (g.2.2 246)), (1, .int v1), (2, .int v2), (3, .int v3), (4, .int v4), (5, .int v5), (6, .int v6)]) hx hb dX7_walk_148 hl136 (by decide) rfl (fun ls139 hl140 => ?_)
      clear hl136
      refine lv_iconst (v := 0) hx hb dX7_walk_150 (by decide) ?_
      refine lv_istore (lv' := [(9, .int (0 : Int32)), (8, .int x137), (7, .int x133), (0, .ref (g.2.2 246)), (1, .int v1), (2, .int v2), (3, .int v3), (4, .int v4), (5, .int v5), (6, .int v6)]) hx hb dX7_walk_151 hl140 (by decide) rfl (fun ls141 hl142 => ?_)
      clear hl140
      refine lv_iconst (v := 1) hx hb dX7_walk_153 (by decide) ?_
      refine lv_istore (lv' := [(10, .int (1 : Int32)), (9, .int (0 : Int32)), (8, .int x137), (7, .int x133), (0, .ref (g.2.2 246)), (1, .int v1), (2, .int v2), (3, .int v3), (4, .int v4), (5, .int v5), (6, .int v6)]) hx hb dX7_walk_154 hl142 (by decide) rfl (fun ls143 hl144 => ?_)
      clear hl142
      refine lv_iconst (v := 0) hx hb dX7_walk_156 (by decide) ?_
      refine lv_istore (lv' := [(11, .int (0 : Int32)), (10, .int (1 : Int32)), (9, .int (0 : Int32)), (8, .int x137), (7, .int x133), (0, .ref (g.2.2 246)), (1, .int v1), (2, .int v2), (3, .int v3), (4, .int v4), (5, .int v5), (6, .int v6)]) hx hb dX7_walk_157 hl144 (by decide) rfl (fun ls145 hl146 => ?_)
      clear hl144
      refine wX7_walk_L159 X hr hlocks  ?_ 4096 x133 x137 (0 : Int32) (1 : Int32) (0 : Int32) k _ _ _  hf138 hP hS (lv_sub hl146 [5, 6, 7, 8, 9, 10, 11, 4, 3, 2, 1, 0] rfl)
      · intro x230 x231 kk232 H233 lc234 ls235  hf239 hP236 hS237 hl238
        refine lv_iload hx hb dX7_walk_249 (lv_at hl238 8 rfl) ?_
        obtain ⟨J276_240, eJ276_240, hf253⟩ := jp_at hf239
        clear hf239
        have hJ276_240 : ∀ (J276_240v4 : Int32) (J276_240v5 : Int32) (kk241 : Hp) (H242 : Heap) (lc243 : List Loc) (ls244 : Array Slot), J276_240 J276_240v4 J276_240v5 kk241 = some (r, k1) → va_P g.1 vwCl (WW g h kk241) H242 → va_S (inA g) s.heap H242 lc243 → lv_has ls244 12 [(0, .ref (g.2.2 246)), (1, .int v1), (2, .int v2), (3, .int v3), (4, .int J276_240v4), (5, .int J276_240v5), (6, .int v6)] → W p l en (rmD 4) s m args below meth c H242 lc243 0 0 (MQ below (QI g h k1 r) args s 0 0 (inA g)) (F0 m 276 ls244 []) := by
          intro J276_240v4 J276_240v5 kk241 H242 lc243 ls244 hf248 hP245 hS246 hl247
          clear hf253 hP236 hS237 hl238
          subst eJ276_240
          obtain ⟨x249, ex249⟩ : ∃ q : Int32, q = v6 + (1 : Int32) := ⟨_, rfl⟩
          have hf250 := lk_at ex249 hf248
          clear hf248
          refine lv_iinc (v := x249) (lv' := [(6, .int x249), (0, .ref (g.2.2 246)), (1, .int v1), (2, .int v2), (3, .int v3), (4, .int J276_240v4), (5, .int J276_240v5)]) hx hb dX7_walk_276 hl247 (k := 6) rfl (by rw [ex249]; rfl) (by decide) rfl (fun ls251 hl252 => ?_)
          clear hl247
          refine lv_goto (tgt := 131) hx hb dX7_walk_279 (by decide) ?_
          exact ih J276_240v4 J276_240v5 x249 kk241  _ _ _ hf250 hP245 hS246 (lv_sub hl252 [1, 2, 3, 4, 5, 6, 0] rfl)
        clear eJ276_240
        refine lv_if_eq (tgt := 276) hx hb dX7_walk_251 (by decide) (fun c254 => ?_) (fun c254 => ?_)
        · have hf255 := if_at_t c254 hf253
          clear hf253
          exact hJ276_240 v4 v5 kk232  _ _ _ hf255 hP236 hS237 (lv_sub hl238 [0, 1, 2, 3, 4, 5, 6] rfl)
        · have hf256 := if_at_f c254 hf253
          clear hf253
          refine lv_iload hx hb dX7_walk_254 (lv_at hl238 4 rfl) ?_
          refine lv_ldc (v := -1000000) hx hb X.2.2.2.1 (X.2.2.2.2.1 _ wd_1009) dX7_walk_256 ?_
          obtain ⟨J268_257, eJ268_257, hf270⟩ := jp_at hf256
          clear hf256
          have hJ268_257 : ∀  (kk258 : Hp) (H259 : Heap) (lc260 : List Loc) (ls261 : Array Slot), J268_257  kk258 = some (r, k1) → va_P g.1 vwCl (WW g h kk258) H259 → va_S (inA g) s.heap H259 lc260 → lv_has ls261 12 [(0, .ref (g.2.2 246)), (1, .int v1), (2, .int v2), (3, .int v3), (6, .int v6), (9, .int x230)] → W p l en (rmD 4) s m args below meth c H259 lc260 0 0 (MQ below (QI g h k1 r) args s 0 0 (inA g)) (F0 m 268 ls261 []) := by
            intro  kk258 H259 lc260 ls261 hf265 hP262 hS263 hl264
            clear hf270 hP236 hS237 hl238
            subst eJ268_257
            refine lv_iload hx hb dX7_walk_268 (lv_at hl264 5 rfl) ?_
            refine lv_istore (lv' := [(4, .int x230), (0, .ref (g.2.2 246)), (1, .int v1), (2, .int v2), (3, .int v3), (6, .int v6), (9, .int x230)]) hx hb dX7_walk_270 hl264 (by decide) rfl (fun ls266 hl267 => ?_)
            clear hl264
            refine lv_iload hx hb dX7_walk_272 (lv_at hl267 5 rfl) ?_
            refine lv_istore (lv' := [(5, .int v6), (4, .int x230), (0, .ref (g.2.2 246)), (1, .int v1), (2, .int v2), (3, .int v3), (6, .int v6), (9, .int x230)]) hx hb dX7_walk_274 hl267 (by decide) rfl (fun ls268 hl269 => ?_)
            clear hl267
            exact hJ276_240 x230 v6 kk258  _ _ _ hf265 hP262 hS263 (lv_sub hl269 [2, 3, 4, 5, 1, 0, 6] rfl)
          clear eJ268_257
          refine lv_icmp_eq (tgt := 268) hx hb dX7_walk_258 (by decide) (fun c271 => ?_) (fun c271 => ?_)
          · have hf272 := if_at_t c271 hf270
            clear hf270
            exact hJ268_257 kk232  _ _ _ hf272 hP236 hS237 (lv_sub hl238 [0, 1, 2, 3, 6, 7] rfl)
          · have hf273 := if_at_f c271 hf270
            clear hf270
            refine lv_iload hx hb dX7_walk_261 (lv_at hl238 7 rfl) ?_
            refine lv_iload hx hb dX7_walk_263 (lv_at hl238 4 rfl) ?_
            refine lv_icmp_ge (tgt := 276) hx hb dX7_walk_265 (by decide) (fun c274 => ?_) (fun c274 => ?_)
            · have hf275 := if_at_t c274 hf273
              clear hf273
              exact hJ276_240 v4 v5 kk232  _ _ _ hf275 hP236 hS237 (lv_sub hl238 [0, 1, 2, 3, 4, 5, 6] rfl)
            · have hf276 := if_at_f c274 hf273
              clear hf273
              exact hJ268_257 kk232  _ _ _ hf276 hP236 hS237 (lv_sub hl238 [0, 1, 2, 3, 6, 7] rfl)
set_option maxRecDepth 100000 in
set_option maxHeartbeats 4000000 in
theorem wX7_walk_L306 {p : Program} {l : Launch} {en : Env} {s : State} {m : MethodId} {args : Array Value} {below : List Frame} {meth : Method} {c : Code} {g : Gx} (X : Cx p s m args c cX7_walk 12 RX7 g) (hr : meth.sig.returnType = (some .int)) (hlocks : meth.locks = false) {h k1 : Hp} {r : Int32} {v1 : Int32} {v2 : Int32} {v5 : Int32}  {K353 : Int32 → Hp → Option (Int32 × Hp)}
    (hK353 : ∀ (v6 : Int32) (k : Hp) (H : Heap) (locs : List Loc) (ls : Array Slot), K353 v6 k = some (r, k1) → va_P g.1 vwCl (WW g h k) H → va_S (inA g) s.heap H locs → lv_has ls 12 [(1, .int v1), (2, .int v2), (6, .int v6)] → W p l en (rmD 4) s m args below meth c H locs 0 0 (MQ below (QI g h k1 r) args s 0 0 (inA g)) (F0 m 353 ls [])) :
    ∀ (n : Nat) (v6 : Int32) (v7 : Int32) (v8 : Int32) (k : Hp) (H : Heap) (locs : List Loc) (ls : Array Slot), fX7_walk_L306 K353 n v1 v2 v5 v6 v7 v8 k = some (r, k1) → va_P g.1 vwCl (WW g h k) H → va_S (inA g) s.heap H locs → lv_has ls 12 [(1, .int v1), (2, .int v2), (5, .int v5), (6, .int v6), (7, .int v7), (8, .int v8)] → W p l en (rmD 4) s m args below meth c H locs 0 0 (MQ below (QI g h k1 r) args s 0 0 (inA g)) (F0 m 306 ls []) := by
  have hx := X.1
  have hb := X.2.1
  intro n
  induction n with
  | zero => intro v6 v7 v8 k H locs ls  hf; simp only [fX7_walk_L306, reduceCtorEq] at hf
  | succ n ih =>
    intro v6 v7 v8 k H locs ls  hf hP hS hl
    rw [fX7_walk_L306] at hf
    refine lv_iload hx hb dX7_walk_306 (lv_at hl 5 rfl) ?_
    refine lv_iload_n hx hb dX7_walk_308 rfl (lv_at hl 1 rfl) ?_
    refine lv_icmp_gt (tgt := 353) hx hb dX7_walk_309 (by decide) (fun c301 => ?_) (fun c301 => ?_)
    · have hf302 := if_at_t c301 hf
      clear hf
      exact hK353 v6 k  _ _ _ hf302 hP hS (lv_sub hl [0, 1, 3] rfl)
    · have hf303 := if_at_f c301 hf
      clear hf
      refine lv_iload_n hx hb dX7_walk_312 rfl (lv_at hl 1 rfl) ?_
      refine lv_iload_n hx hb dX7_walk_313 rfl (lv_at hl 0 rfl) ?_
      refine lv_icmp_ge (tgt := 353) hx hb dX7_walk_314 (by decide) (fun c304 => ?_) (fun c304 => ?_)
      · have hf305 := if_at_t c304 hf303
        clear hf303
        exact hK353 v6 k  _ _ _ hf305 hP hS (lv_sub hl [0, 1, 3] rfl)
      · have hf306 := if_at_f c304 hf303
        clear hf303
        refine lv_iload hx hb dX7_walk_317 (lv_at hl 3 rfl) ?_
        refine lv_iload hx hb dX7_walk_319 (lv_at hl 2 rfl) ?_
        refine lv_iload hx hb dX7_walk_321 (lv_at hl 4 rfl) ?_
        obtain ⟨hc307, hf308⟩ := chk_some hf306
        refine lv_idiv hx hb dX7_walk_323 (nz_in hc307) ?_
        refine lv_iconst (v := 3) hx hb dX7_walk_324 (by decide) ?_
        refine x_irem X dX7_walk_325 (by decide) ?_
        refine lv_iconst (v := 1) hx hb dX7_walk_326 (by decide) ?_
        refine lv_isub hx hb dX7_walk_327 ?_
        refine lv_iadd hx hb dX7_walk_328 ?_
        refine lv_topi (fun x309 ex309 => ?_)
        have hf310 := lk_at ex309 hf308
        clear hf308
        refine lv_istore (lv' := [(6, .int x309), (1, .int v1), (2, .int v2), (5, .int v5), (7, .int v7), (8, .int v8)]) hx hb dX7_walk_329 hl (by decide) rfl (fun ls311 hl312 => ?_)
        clear hl
        refine lv_iload hx hb dX7_walk_331 (lv_at hl312 4 rfl) ?_
        refine lv_iconst (v := 1) hx hb dX7_walk_333 (by decide) ?_
        obtain ⟨J345_313, eJ345_313, hf328⟩ := jp_at hf310
        clear hf310
        have hJ345_313 : ∀ (J345_313s0 : Int32) (kk314 : Hp) (H315 : Heap) (lc316 : List Loc) (ls317 : Array Slot), J345_313 J345_313s0 kk314 = some (r, k1) → va_P g.1 vwCl (WW g h kk314) H315 → va_S (inA g) s.heap H315 lc316 → lv_has ls317 12 [(1, .int v1), (2, .int v2), (5, .int v5), (6, .int x309), (8, .int v8)] → W p l en (rmD 4) s m args below meth c H315 lc316 0 0 (MQ below (QI g h k1 r) args s 0 0 (inA g)) (F0 m 345 ls317 [.int J345_313s0]) := by
          intro J345_313s0 kk314 H315 lc316 ls317 hf321 hP318 hS319 hl320
          clear hf328 hP hS hl312
          subst eJ345_313
          refine lv_istore (lv' := [(7, .int J345_313s0), (1, .int v1), (2, .int v2), (5, .int v5), (6, .int x309), (8, .int v8)]) hx hb dX7_walk_345 hl320 (by decide) rfl (fun ls322 hl323 => ?_)
          clear hl320
          obtain ⟨x324, ex324⟩ : ∃ q : Int32, q = v8 + (1 : Int32) := ⟨_, rfl⟩
          have hf325 := lk_at ex324 hf321
          clear hf321
          refine lv_iinc (v := x324) (lv' := [(8, .int x324), (7, .int J345_313s0), (1, .int v1), (2, .int v2), (5, .int v5), (6, .int x309)]) hx hb dX7_walk_347 hl323 (k := 5) rfl (by rw [ex324]; rfl) (by decide) rfl (fun ls326 hl327 => ?_)
          clear hl323
          refine lv_goto (tgt := 306) hx hb dX7_walk_350 (by decide) ?_
          exact ih x309 J345_313s0 x324 kk314  _ _ _ hf325 hP318 hS319 (lv_sub hl327 [2, 3, 4, 5, 1, 0] rfl)
        clear eJ345_313
        refine lv_icmp_le (tgt := 344) hx hb dX7_walk_334 (by decide) (fun c329 => ?_) (fun c329 => ?_)
        · have hf330 := if_at_t c329 hf328
          clear hf328
          refine lv_iconst (v := 1) hx hb dX7_walk_344 (by decide) ?_
          exact hJ345_313 (1 : Int32) k  _ _ _ hf330 hP hS (lv_sub hl312 [1, 2, 3, 0, 5] rfl)
        · have hf331 := if_at_f c329 hf328
          clear hf328
          refine lv_iload hx hb dX7_walk_337 (lv_at hl312 4 rfl) ?_
          refine lv_iconst (v := 3) hx hb dX7_walk_339 (by decide) ?_
          refine lv_idiv hx hb dX7_walk_340 (by decide) ?_
          refine lv_goto (tgt := 345) hx hb dX7_walk_341 (by decide) ?_
          exact hJ345_313 (v7 / (3 : Int32)) k  _ _ _ hf331 hP hS (lv_sub hl312 [1, 2, 3, 0, 5] rfl)
set_option maxRecDepth 100000 in
set_option maxHeartbeats 4000000 in
theorem tX7_walk (l : Launch) {g : Gx} (hI : InjG g) {h k k1 : Hp} {a1 : Int32} {a2 : Int32} {r : Int32}   (hf : fX7_walk a1 a2 k = some (r, k1)) : CI l yX7_walk cX7_walk 12 (some .int) 4 g [.ref (g.2.2 246), .int a1, .int a2] h k h k1 r := by
  refine Met.ofW (cc := cX7_walk) (maxL := 12) (ret := (some .int)) (by decide) rfl ?_
  intro p en s m args below meth c s₁ B hml hv
  obtain ⟨rfl, hSK, hSH, hP⟩ := hv
  have X : Cx p s m _ c cX7_walk 12 RX7 g := ⟨B.exec, B.bytes, hml, findClass_of_methodNamed B.named, fun w hw => atoms_spec (ws := wsy yX7_walk cX7_walk 12 (some .int)) B.pre w (List.mem_cons_of_mem _ hw), hSK, hI, hSH⟩
  have hr := B.returns
  have hlocks := B.notSynchronized
  have hx := X.1
  have hb := X.2.1
  have hS : va_S (inA g) s.heap s.heap [] := va_S.rf
  clear hSK hSH hml B
  have hl := lv_entry ([.ref (g.2.2 246), .int a1, .int a2]) (n := 12) (Nat.le_of_ble_eq_true rfl)
  rw [lg_entry_eq]
  generalize (lg_sl ([.ref (g.2.2 246), .int a1, .int a2]) ++ List.replicate (12 - (lg_sl ([.ref (g.2.2 246), .int a1, .int a2])).length) Slot.unset).toArray = ls at hl ⊢
  have hl : lv_has ls 12 [(0, .ref (g.2.2 246)), (1, .int a1), (2, .int a2)] := hl
  generalize ([.ref (g.2.2 246), .int a1, .int a2] : List Value).toArray = args at X ⊢
  show W p l en (rmD 4) s m args below meth c s.heap [] 0 0 (MQ below (QI g h k1 r) args s 0 0 (inA g)) (F0 m 0 ls [])
  unfold fX7_walk at hf
  refine lv_aload_n hx hb dX7_walk_0 rfl (lv_at hl 0 rfl) ?_
  refine lv_iconst (v := 0) hx hb dX7_walk_1 (by decide) ?_
  refine pX7 X hP hS 0 (by decide) rfl wd_883 rfl rfl rfl rfl seX7_0 dX7_walk_2 (fun H1 lc2 kk3 ekk3 hP4 hS5 => ?_)
  have hf6 := lk_at ekk3 hf
  clear hf hP hS
  refine lv_aload_n hx hb dX7_walk_5 rfl (lv_at hl 0 rfl) ?_
  obtain ⟨x7, kk8, hg14, hf13⟩ := bd_some hf6
  refine x_ci (x_runV (As := []) (rest := []) X hP4 hS5 246 (by decide) cl_M rfl (tX7_isThere l X.2.2.2.2.2.2.1  hg14) mi_X7_187 rfl hl.1 rfl (Nat.le_of_ble_eq_true rfl) dX7_walk_6 ⟨Nat.le_of_ble_eq_true rfl, Nat.le_of_ble_eq_true rfl⟩ ⟨Nat.zero_le _, Nat.zero_le _⟩) hS5 (fun H9 lc10 hP11 hS12 => ?_)
  clear hf6 hP4 hS5 hg14
  refine lv_if_ne (tgt := 15) hx hb dX7_walk_9 (by decide) (fun c15 => ?_) (fun c15 => ?_)
  · have hf16 := if_at_f c15 hf13
    clear hf13
    refine lv_iload_n hx hb dX7_walk_15 rfl (lv_at hl 1 rfl) ?_
    refine lv_i2l hx hb dX7_walk_16 rfl ?_
    refine lv_lconst (v := 1) hx hb dX7_walk_17 (by decide) ?_
    refine lv_ldc2 (v := 6) hx hb X.2.2.2.1 (X.2.2.2.2.1 _ wd_1188) dX7_walk_18 ?_
    obtain ⟨x17, kk18, hg24, hf23⟩ := bd_some hf16
    refine x_ci (x_runS (As := [.long a1.toInt64, .long (1 : Int64), .long (6 : Int64)]) (rest := []) X hP11 hS12 (tX7_in l X.2.2.2.2.2.2.1  hg24) mi_X7_57 rfl hl.1 rfl (Nat.le_of_ble_eq_true rfl) dX7_walk_21 ⟨Nat.le_of_ble_eq_true rfl, Nat.le_of_ble_eq_true rfl⟩ ⟨Nat.zero_le _, Nat.zero_le _⟩) hS12 (fun H19 lc20 hP21 hS22 => ?_)
    clear hf16 hP11 hS12 hg24
    refine lv_if_eq (tgt := 32) hx hb dX7_walk_24 (by decide) (fun c25 => ?_) (fun c25 => ?_)
    · have hf26 := if_at_t c25 hf23
      clear hf23
      refine lv_ldc (v := -1000001) hx hb X.2.2.2.1 (X.2.2.2.2.1 _ wd_969) dX7_walk_32 ?_
      obtain ⟨rfl, rfl⟩ := ret_inj hf26
      exact x_iret X hr hlocks hP21 hS22 dX7_walk_34
    · have hf27 := if_at_f c25 hf23
      clear hf23
      refine lv_iload_n hx hb dX7_walk_27 rfl (lv_at hl 2 rfl) ?_
      refine lv_iconst (v := -1) hx hb dX7_walk_28 (by decide) ?_
      refine lv_icmp_ge (tgt := 35) hx hb dX7_walk_29 (by decide) (fun c28 => ?_) (fun c28 => ?_)
      · have hf29 := if_at_t c28 hf27
        clear hf27
        refine lv_aload_n hx hb dX7_walk_35 rfl (lv_at hl 0 rfl) ?_
        obtain ⟨⟨⟩, kk31, hg37, hf36⟩ := bd_some hf29
        refine x_cv (x_runV (As := []) (rest := []) X hP21 hS22 246 (by decide) cl_M rfl (tX7_layThen l X.2.2.2.2.2.2.1  hg37) mi_X7_231 rfl hl.1 rfl (Nat.le_of_ble_eq_true rfl) dX7_walk_36 ⟨Nat.le_of_ble_eq_true rfl, Nat.le_of_ble_eq_true rfl⟩ ⟨Nat.zero_le _, Nat.zero_le _⟩) hS22 (fun H32 lc33 hP34 hS35 => ?_)
        clear hf29 hP21 hS22 hg37
        refine lv_iconst (v := 0) hx hb dX7_walk_39 (by decide) ?_
        refine lv_istore_n (lv' := [(3, .int (0 : Int32)), (0, .ref (g.2.2 246)), (1, .int a1), (2, .int a2)]) hx hb dX7_walk_40 rfl hl (by decide) rfl (fun ls38 hl39 => ?_)
        clear hl
        refine wX7_walk_L41 X hr hlocks  ?_ 4096 (0 : Int32) kk31 _ _ _  hf36 hP34 hS35 (lv_sub hl39 [1, 2, 3, 0] rfl)
        · intro  kk90 H91 lc92 ls93  hf97 hP94 hS95 hl96
          refine lv_iconst (v := 1) hx hb dX7_walk_100 (by decide) ?_
          refine lv_istore_n (lv' := [(3, .int (1 : Int32)), (0, .ref (g.2.2 246)), (1, .int a1), (2, .int a2)]) hx hb dX7_walk_101 rfl hl96 (by decide) rfl (fun ls98 hl99 => ?_)
          clear hl96
          refine lv_iconst (v := 0) hx hb dX7_walk_102 (by decide) ?_
          refine lv_istore (lv' := [(4, .int (0 : Int32)), (3, .int (1 : Int32)), (0, .ref (g.2.2 246)), (1, .int a1), (2, .int a2)]) hx hb dX7_walk_103 hl99 (by decide) rfl (fun ls100 hl101 => ?_)
          clear hl99
          refine wX7_walk_L105 X hr hlocks  ?_ 4096 (1 : Int32) (0 : Int32) kk90 _ _ _  hf97 hP94 hS95 (lv_sub hl101 [2, 3, 4, 1, 0] rfl)
          · intro x113 kk114 H115 lc116 ls117  hf121 hP118 hS119 hl120
            refine lv_ldc (v := -1000000) hx hb X.2.2.2.1 (X.2.2.2.2.1 _ wd_1009) dX7_walk_121 ?_
            refine lv_istore (lv' := [(4, .int (-1000000 : Int32)), (0, .ref (g.2.2 246)), (1, .int a1), (2, .int a2), (3, .int x113)]) hx hb dX7_walk_123 hl120 (by decide) rfl (fun ls122 hl123 => ?_)
            clear hl120
            refine lv_iconst (v := 0) hx hb dX7_walk_125 (by decide) ?_
            refine lv_istore (lv' := [(5, .int (0 : Int32)), (4, .int (-1000000 : Int32)), (0, .ref (g.2.2 246)), (1, .int a1), (2, .int a2), (3, .int x113)]) hx hb dX7_walk_126 hl123 (by decide) rfl (fun ls124 hl125 => ?_)
            clear hl123
            refine lv_iconst (v := 0) hx hb dX7_walk_128 (by decide) ?_
            refine lv_istore (lv' := [(6, .int (0 : Int32)), (5, .int (0 : Int32)), (4, .int (-1000000 : Int32)), (0, .ref (g.2.2 246)), (1, .int a1), (2, .int a2), (3, .int x113)]) hx hb dX7_walk_129 hl125 (by decide) rfl (fun ls126 hl127 => ?_)
            clear hl125
            refine wX7_walk_L131 X hr hlocks  ?_ 4096 (-1000000 : Int32) (0 : Int32) (0 : Int32) kk114 _ _ _  hf121 hP118 hS119 (lv_sub hl127 [3, 4, 5, 6, 2, 1, 0] rfl)
            · intro x277 x278 kk279 H280 lc281 ls282  hf286 hP283 hS284 hl285
              refine lv_iload_n hx hb dX7_walk_282 rfl (lv_at hl285 2 rfl) ?_
              refine lv_iconst (v := -1) hx hb dX7_walk_283 (by decide) ?_
              refine lv_icmp_ne (tgt := 290) hx hb dX7_walk_284 (by decide) (fun c287 => ?_) (fun c287 => ?_)
              · have hf288 := if_at_f c287 hf286
                clear hf286
                refine lv_aload_n hx hb dX7_walk_290 rfl (lv_at hl285 0 rfl) ?_
                refine gX7 X hP283 5 (v := .ref (g.2.2 250)) rfl (by decide) rfl wd_888 dX7_walk_291 ?_
                refine lv_iconst (v := 4) hx hb dX7_walk_294 (by decide) ?_
                obtain ⟨hc289, hf290⟩ := chk_some hf288
                refine x_ildM X hP283 250 rfl hc289 dX7_walk_295 ?_
                refine lv_topi (fun x291 ex291 => ?_)
                have hf292 := lk_at ex291 hf290
                clear hf290
                refine lv_istore (lv' := [(6, .int x291), (0, .ref (g.2.2 246)), (1, .int a1), (2, .int a2), (3, .int x113), (4, .int x277), (5, .int x278)]) hx hb dX7_walk_296 hl285 (by decide) rfl (fun ls293 hl294 => ?_)
                clear hl285
                refine lv_iload_n hx hb dX7_walk_298 rfl (lv_at hl294 4 rfl) ?_
                refine lv_iconst (v := 3) hx hb dX7_walk_299 (by decide) ?_
                refine lv_idiv hx hb dX7_walk_300 (by decide) ?_
                refine lv_topi (fun x295 ex295 => ?_)
                have hf296 := lk_at ex295 hf292
                clear hf292
                refine lv_istore (lv' := [(7, .int x295), (6, .int x291), (0, .ref (g.2.2 246)), (1, .int a1), (2, .int a2), (3, .int x113), (4, .int x277), (5, .int x278)]) hx hb dX7_walk_301 hl294 (by decide) rfl (fun ls297 hl298 => ?_)
                clear hl294
                refine lv_iconst (v := 0) hx hb dX7_walk_303 (by decide) ?_
                refine lv_istore (lv' := [(8, .int (0 : Int32)), (7, .int x295), (6, .int x291), (0, .ref (g.2.2 246)), (1, .int a1), (2, .int a2), (3, .int x113), (4, .int x277), (5, .int x278)]) hx hb dX7_walk_304 hl298 (by decide) rfl (fun ls299 hl300 => ?_)
                clear hl298
                refine wX7_walk_L306 X hr hlocks  ?_ 4096 x291 x295 (0 : Int32) kk279 _ _ _  hf296 hP283 hS284 (lv_sub hl300 [4, 5, 8, 2, 1, 0] rfl)
                · intro x332 kk333 H334 lc335 ls336  hf340 hP337 hS338 hl339
                  refine lv_iload_n hx hb dX7_walk_353 rfl (lv_at hl339 1 rfl) ?_
                  refine lv_iload_n hx hb dX7_walk_354 rfl (lv_at hl339 0 rfl) ?_
                  refine lv_icmp_ge (tgt := 363) hx hb dX7_walk_355 (by decide) (fun c341 => ?_) (fun c341 => ?_)
                  · have hf342 := if_at_t c341 hf340
                    clear hf340
                    refine lv_ldc (v := -1000000) hx hb X.2.2.2.1 (X.2.2.2.2.1 _ wd_1009) dX7_walk_363 ?_
                    obtain ⟨rfl, rfl⟩ := ret_inj hf342
                    exact x_iret X hr hlocks hP337 hS338 dX7_walk_365
                  · have hf343 := if_at_f c341 hf340
                    clear hf340
                    refine lv_iload hx hb dX7_walk_358 (lv_at hl339 2 rfl) ?_
                    refine lv_goto (tgt := 365) hx hb dX7_walk_360 (by decide) ?_
                    obtain ⟨rfl, rfl⟩ := ret_inj hf343
                    exact x_iret X hr hlocks hP337 hS338 dX7_walk_365
              · have hf344 := if_at_t c287 hf286
                clear hf286
                refine lv_iload hx hb dX7_walk_287 (lv_at hl285 4 rfl) ?_
                obtain ⟨rfl, rfl⟩ := ret_inj hf344
                exact x_iret X hr hlocks hP283 hS284 dX7_walk_289
      · have hf345 := if_at_f c28 hf27
        clear hf27
        refine lv_ldc (v := -1000001) hx hb X.2.2.2.1 (X.2.2.2.2.1 _ wd_969) dX7_walk_32 ?_
        obtain ⟨rfl, rfl⟩ := ret_inj hf345
        exact x_iret X hr hlocks hP21 hS22 dX7_walk_34
  · have hf346 := if_at_t c15 hf13
    clear hf13
    refine lv_ldc (v := -1000002) hx hb X.2.2.2.1 (X.2.2.2.2.1 _ wd_1062) dX7_walk_12 ?_
    obtain ⟨rfl, rfl⟩ := ret_inj hf346
    exact x_iret X hr hlocks hP11 hS12 dX7_walk_14
set_option maxRecDepth 100000 in
set_option maxHeartbeats 4000000 in
theorem wX7_meet_L31 {p : Program} {l : Launch} {en : Env} {s : State} {m : MethodId} {args : Array Value} {below : List Frame} {meth : Method} {c : Code} {g : Gx} (X : Cx p s m args c cX7_meet 4 RX7 g) (hr : meth.sig.returnType = (some .int)) (hlocks : meth.locks = false) {h k1 : Hp} {r : Int32} {v1 : Int32}  
     :
    ∀ (n : Nat) (v2 : Int32) (v3 : Int32) (k : Hp) (H : Heap) (locs : List Loc) (ls : Array Slot), fX7_meet_L31 n v1 v2 v3 k = some (r, k1) → va_P g.1 vwCl (WW g h k) H → va_S (inA g) s.heap H locs → lv_has ls 4 [(0, .ref (g.2.2 246)), (1, .int v1), (2, .int v2), (3, .int v3)] → W p l en (rmD 4) s m args below meth c H locs 0 0 (MQ below (QI g h k1 r) args s 0 0 (inA g)) (F0 m 31 ls []) := by
  have hx := X.1
  have hb := X.2.1
  intro n
  induction n with
  | zero => intro v2 v3 k H locs ls  hf; simp only [fX7_meet_L31, reduceCtorEq] at hf
  | succ n ih =>
    intro v2 v3 k H locs ls  hf hP hS hl
    rw [fX7_meet_L31] at hf
    refine lv_iload_n hx hb dX7_meet_31 rfl (lv_at hl 3 rfl) ?_
    refine lv_bipush (v := 20) hx hb dX7_meet_32 (by decide) ?_
    refine lv_icmp_gt (tgt := 86) hx hb dX7_meet_34 (by decide) (fun c33 => ?_) (fun c33 => ?_)
    · have hf34 := if_at_t c33 hf
      clear hf
      refine lv_ldc (v := -1000000) hx hb X.2.2.2.1 (X.2.2.2.2.1 _ wd_1009) dX7_meet_86 ?_
      obtain ⟨rfl, rfl⟩ := ret_inj hf34
      exact x_iret X hr hlocks hP hS dX7_meet_88
    · have hf35 := if_at_f c33 hf
      clear hf
      refine lv_aload_n hx hb dX7_meet_37 rfl (lv_at hl 0 rfl) ?_
      refine gX7 X hP 7 (v := .ref (g.2.2 252)) rfl (by decide) rfl wd_890 dX7_meet_38 ?_
      refine lv_iload_n hx hb dX7_meet_41 rfl (lv_at hl 1 rfl) ?_
      obtain ⟨x36, kk37, hg43, hf42⟩ := bd_some hf35
      refine x_ci (x_runS (As := [.ref (g.2.2 252), .int v1]) (rest := []) X hP hS (tX7_liesOn l X.2.2.2.2.2.2.1 (rfl : isMA 252 = true) hg43) mi_X7_179 rfl hl.1 rfl (Nat.le_of_ble_eq_true rfl) dX7_meet_42 ⟨Nat.le_of_ble_eq_true rfl, Nat.le_of_ble_eq_true rfl⟩ ⟨Nat.zero_le _, Nat.zero_le _⟩) hS (fun H38 lc39 hP40 hS41 => ?_)
      clear hf35 hP hS hg43
      refine lv_iload_n hx hb dX7_meet_45 rfl (lv_at hl 2 rfl) ?_
      refine lv_iand hx hb dX7_meet_46 ?_
      refine lv_if_eq (tgt := 52) hx hb dX7_meet_47 (by decide) (fun c44 => ?_) (fun c44 => ?_)
      · have hf45 := if_at_t c44 hf42
        clear hf42
        refine lv_iload_n hx hb dX7_meet_52 rfl (lv_at hl 2 rfl) ?_
        refine lv_iload_n hx hb dX7_meet_53 rfl (lv_at hl 2 rfl) ?_
        refine lv_iconst (v := 1) hx hb dX7_meet_54 (by decide) ?_
        refine x_ishl X dX7_meet_55 ?_
        refine lv_ior hx hb dX7_meet_56 ?_
        refine lv_iload_n hx hb dX7_meet_57 rfl (lv_at hl 2 rfl) ?_
        refine lv_iconst (v := 1) hx hb dX7_meet_58 (by decide) ?_
        refine x_ishr X dX7_meet_59 ?_
        refine lv_ior hx hb dX7_meet_60 ?_
        refine lv_iconst (v := 1) hx hb dX7_meet_61 (by decide) ?_
        refine lv_aload_n hx hb dX7_meet_62 rfl (lv_at hl 0 rfl) ?_
        refine gX7 X hP40 5 (v := .ref (g.2.2 250)) rfl (by decide) rfl wd_888 dX7_meet_63 ?_
        refine lv_iconst (v := 2) hx hb dX7_meet_66 (by decide) ?_
        obtain ⟨hc46, hf47⟩ := chk_some hf45
        refine x_ildM X hP40 250 rfl hc46 dX7_meet_67 ?_
        refine x_ishl X dX7_meet_68 ?_
        refine lv_iconst (v := 1) hx hb dX7_meet_69 (by decide) ?_
        refine lv_isub hx hb dX7_meet_70 ?_
        refine lv_iand hx hb dX7_meet_71 ?_
        refine lv_topi (fun x48 ex48 => ?_)
        have hf49 := lk_at ex48 hf47
        clear hf47
        refine lv_istore_n (lv' := [(2, .int x48), (0, .ref (g.2.2 246)), (1, .int v1), (3, .int v3)]) hx hb dX7_meet_72 rfl hl (by decide) rfl (fun ls50 hl51 => ?_)
        clear hl
        refine lv_aload_n hx hb dX7_meet_73 rfl (lv_at hl51 1 rfl) ?_
        refine gX7 X hP40 7 (v := .ref (g.2.2 252)) rfl (by decide) rfl wd_890 dX7_meet_74 ?_
        obtain ⟨⟨⟩, kk53, hg59, hf58⟩ := bd_some hf49
        refine x_cv (x_runS (As := [.ref (g.2.2 252)]) (rest := []) X hP40 hS41 (tX7_hourOf l X.2.2.2.2.2.2.1 (rfl : isMA 252 = true) hg59) mi_X7_183 rfl hl51.1 rfl (Nat.le_of_ble_eq_true rfl) dX7_meet_77 ⟨Nat.le_of_ble_eq_true rfl, Nat.le_of_ble_eq_true rfl⟩ ⟨Nat.zero_le _, Nat.zero_le _⟩) hS41 (fun H54 lc55 hP56 hS57 => ?_)
        clear hf49 hP40 hS41 hg59
        obtain ⟨x60, ex60⟩ : ∃ q : Int32, q = v3 + (1 : Int32) := ⟨_, rfl⟩
        have hf61 := lk_at ex60 hf58
        clear hf58
        refine lv_iinc (v := x60) (lv' := [(3, .int x60), (2, .int x48), (0, .ref (g.2.2 246)), (1, .int v1)]) hx hb dX7_meet_80 hl51 (k := 3) rfl (by rw [ex60]; rfl) (by decide) rfl (fun ls62 hl63 => ?_)
        clear hl51
        refine lv_goto (tgt := 31) hx hb dX7_meet_83 (by decide) ?_
        exact ih x48 x60 kk53  _ _ _ hf61 hP56 hS57 (lv_sub hl63 [2, 3, 1, 0] rfl)
      · have hf64 := if_at_f c44 hf42
        clear hf42
        refine lv_iload_n hx hb dX7_meet_50 rfl (lv_at hl 3 rfl) ?_
        obtain ⟨rfl, rfl⟩ := ret_inj hf64
        exact x_iret X hr hlocks hP40 hS41 dX7_meet_51
set_option maxRecDepth 100000 in
set_option maxHeartbeats 4000000 in
theorem tX7_meet (l : Launch) {g : Gx} (hI : InjG g) {h k k1 : Hp} {a1 : Int32} {r : Int32}   (hf : fX7_meet a1 k = some (r, k1)) : CI l yX7_meet cX7_meet 4 (some .int) 4 g [.ref (g.2.2 246), .int a1] h k h k1 r := by
  refine Met.ofW (cc := cX7_meet) (maxL := 4) (ret := (some .int)) (by decide) rfl ?_
  intro p en s m args below meth c s₁ B hml hv
  obtain ⟨rfl, hSK, hSH, hP⟩ := hv
  have X : Cx p s m _ c cX7_meet 4 RX7 g := ⟨B.exec, B.bytes, hml, findClass_of_methodNamed B.named, fun w hw => atoms_spec (ws := wsy yX7_meet cX7_meet 4 (some .int)) B.pre w (List.mem_cons_of_mem _ hw), hSK, hI, hSH⟩
  have hr := B.returns
  have hlocks := B.notSynchronized
  have hx := X.1
  have hb := X.2.1
  have hS : va_S (inA g) s.heap s.heap [] := va_S.rf
  clear hSK hSH hml B
  have hl := lv_entry ([.ref (g.2.2 246), .int a1]) (n := 4) (Nat.le_of_ble_eq_true rfl)
  rw [lg_entry_eq]
  generalize (lg_sl ([.ref (g.2.2 246), .int a1]) ++ List.replicate (4 - (lg_sl ([.ref (g.2.2 246), .int a1])).length) Slot.unset).toArray = ls at hl ⊢
  have hl : lv_has ls 4 [(0, .ref (g.2.2 246)), (1, .int a1)] := hl
  generalize ([.ref (g.2.2 246), .int a1] : List Value).toArray = args at X ⊢
  show W p l en (rmD 4) s m args below meth c s.heap [] 0 0 (MQ below (QI g h k1 r) args s 0 0 (inA g)) (F0 m 0 ls [])
  unfold fX7_meet at hf
  refine lv_aload_n hx hb dX7_meet_0 rfl (lv_at hl 0 rfl) ?_
  refine lv_iconst (v := 0) hx hb dX7_meet_1 (by decide) ?_
  refine pX7 X hP hS 0 (by decide) rfl wd_883 rfl rfl rfl rfl seX7_0 dX7_meet_2 (fun H1 lc2 kk3 ekk3 hP4 hS5 => ?_)
  have hf6 := lk_at ekk3 hf
  clear hf hP hS
  refine lv_aload_n hx hb dX7_meet_5 rfl (lv_at hl 0 rfl) ?_
  refine lv_iload_n hx hb dX7_meet_6 rfl (lv_at hl 1 rfl) ?_
  obtain ⟨x7, kk8, hg14, hf13⟩ := bd_some hf6
  refine x_ci (x_runV (As := [.int a1]) (rest := []) X hP4 hS5 246 (by decide) cl_M rfl (tX7_isSheet l X.2.2.2.2.2.2.1  hg14) mi_X7_212 rfl hl.1 rfl (Nat.le_of_ble_eq_true rfl) dX7_meet_7 ⟨Nat.le_of_ble_eq_true rfl, Nat.le_of_ble_eq_true rfl⟩ ⟨Nat.zero_le _, Nat.zero_le _⟩) hS5 (fun H9 lc10 hP11 hS12 => ?_)
  clear hf6 hP4 hS5 hg14
  refine lv_if_ne (tgt := 16) hx hb dX7_meet_10 (by decide) (fun c15 => ?_) (fun c15 => ?_)
  · have hf16 := if_at_f c15 hf13
    clear hf13
    refine lv_aload_n hx hb dX7_meet_16 rfl (lv_at hl 0 rfl) ?_
    obtain ⟨⟨⟩, kk18, hg24, hf23⟩ := bd_some hf16
    refine x_cv (x_runV (As := []) (rest := []) X hP11 hS12 246 (by decide) cl_M rfl (tX7_layThen l X.2.2.2.2.2.2.1  hg24) mi_X7_231 rfl hl.1 rfl (Nat.le_of_ble_eq_true rfl) dX7_meet_17 ⟨Nat.le_of_ble_eq_true rfl, Nat.le_of_ble_eq_true rfl⟩ ⟨Nat.zero_le _, Nat.zero_le _⟩) hS12 (fun H19 lc20 hP21 hS22 => ?_)
    clear hf16 hP11 hS12 hg24
    refine lv_iconst (v := 1) hx hb dX7_meet_20 (by decide) ?_
    refine lv_aload_n hx hb dX7_meet_21 rfl (lv_at hl 0 rfl) ?_
    refine gX7 X hP21 5 (v := .ref (g.2.2 250)) rfl (by decide) rfl wd_888 dX7_meet_22 ?_
    refine lv_iconst (v := 4) hx hb dX7_meet_25 (by decide) ?_
    obtain ⟨hc25, hf26⟩ := chk_some hf23
    refine x_ildM X hP21 250 rfl hc25 dX7_meet_26 ?_
    refine x_ishl X dX7_meet_27 ?_
    refine lv_topi (fun x27 ex27 => ?_)
    have hf28 := lk_at ex27 hf26
    clear hf26
    refine lv_istore_n (lv' := [(2, .int x27), (0, .ref (g.2.2 246)), (1, .int a1)]) hx hb dX7_meet_28 rfl hl (by decide) rfl (fun ls29 hl30 => ?_)
    clear hl
    refine lv_iconst (v := 0) hx hb dX7_meet_29 (by decide) ?_
    refine lv_istore_n (lv' := [(3, .int (0 : Int32)), (2, .int x27), (0, .ref (g.2.2 246)), (1, .int a1)]) hx hb dX7_meet_30 rfl hl30 (by decide) rfl (fun ls31 hl32 => ?_)
    clear hl30
    refine wX7_meet_L31 X hr hlocks   4096 x27 (0 : Int32) kk18 _ _ _  hf28 hP21 hS22 (lv_sub hl32 [2, 3, 1, 0] rfl)
  · have hf65 := if_at_t c15 hf13
    clear hf13
    refine lv_ldc (v := -1000001) hx hb X.2.2.2.1 (X.2.2.2.2.1 _ wd_969) dX7_meet_13 ?_
    obtain ⟨rfl, rfl⟩ := ret_inj hf65
    exact x_iret X hr hlocks hP11 hS12 dX7_meet_15
set_option maxRecDepth 100000 in
set_option maxHeartbeats 4000000 in
theorem wX7_site_L48 {p : Program} {l : Launch} {en : Env} {s : State} {m : MethodId} {args : Array Value} {below : List Frame} {meth : Method} {c : Code} {g : Gx} (X : Cx p s m args c cX7_site 7 RX7 g) (hr : meth.sig.returnType = (some .int)) (hlocks : meth.locks = false) {h k1 : Hp} {r : Int32} {v1 : Int32} {v2 : Int32}  {K110 : Int32 → Int32 → Hp → Option (Int32 × Hp)}
    (hK110 : ∀ (v3 : Int32) (v4 : Int32) (k : Hp) (H : Heap) (locs : List Loc) (ls : Array Slot), K110 v3 v4 k = some (r, k1) → va_P g.1 vwCl (WW g h k) H → va_S (inA g) s.heap H locs → lv_has ls 7 [(2, .int v2), (3, .int v3), (4, .int v4)] → W p l en (rmD 5) s m args below meth c H locs 0 0 (MQ below (QI g h k1 r) args s 0 0 (inA g)) (F0 m 110 ls [])) :
    ∀ (n : Nat) (v3 : Int32) (v4 : Int32) (v5 : Int32) (k : Hp) (H : Heap) (locs : List Loc) (ls : Array Slot), fX7_site_L48 K110 n v1 v2 v3 v4 v5 k = some (r, k1) → va_P g.1 vwCl (WW g h k) H → va_S (inA g) s.heap H locs → lv_has ls 7 [(0, .ref (g.2.2 246)), (1, .int v1), (2, .int v2), (3, .int v3), (4, .int v4), (5, .int v5)] → W p l en (rmD 5) s m args below meth c H locs 0 0 (MQ below (QI g h k1 r) args s 0 0 (inA g)) (F0 m 48 ls []) := by
  have hx := X.1
  have hb := X.2.1
  intro n
  induction n with
  | zero => intro v3 v4 v5 k H locs ls  hf; simp only [fX7_site_L48, reduceCtorEq] at hf
  | succ n ih =>
    intro v3 v4 v5 k H locs ls  hf hP hS hl
    rw [fX7_site_L48] at hf
    refine lv_iload hx hb dX7_site_48 (lv_at hl 5 rfl) ?_
    refine lv_aload_n hx hb dX7_site_50 rfl (lv_at hl 0 rfl) ?_
    refine gX7 X hP 5 (v := .ref (g.2.2 250)) rfl (by decide) rfl wd_888 dX7_site_51 ?_
    refine lv_iconst (v := 2) hx hb dX7_site_54 (by decide) ?_
    obtain ⟨hc44, hf45⟩ := chk_some hf
    refine x_ildM X hP 250 rfl hc44 dX7_site_55 ?_
    refine lv_icmp_ge (tgt := 110) hx hb dX7_site_56 (by decide) (fun c46 => ?_) (fun c46 => ?_)
    · have hf47 := if_at_t c46 hf45
      clear hf45
      exact hK110 v3 v4 k  _ _ _ hf47 hP hS (lv_sub hl [2, 3, 4] rfl)
    · have hf48 := if_at_f c46 hf45
      clear hf45
      refine lv_aload_n hx hb dX7_site_59 rfl (lv_at hl 0 rfl) ?_
      obtain ⟨⟨⟩, kk50, hg56, hf55⟩ := bd_some hf48
      refine x_cv (x_runV (As := []) (rest := []) X hP hS 246 (by decide) cl_M rfl (tX7_layThen l X.2.2.2.2.2.2.1  hg56) mi_X7_231 rfl hl.1 rfl (Nat.le_of_ble_eq_true rfl) dX7_site_60 ⟨Nat.le_of_ble_eq_true rfl, Nat.le_of_ble_eq_true rfl⟩ ⟨Nat.zero_le _, Nat.zero_le _⟩) hS (fun H51 lc52 hP53 hS54 => ?_)
      clear hf48 hP hS hg56
      refine lv_aload_n hx hb dX7_site_63 rfl (lv_at hl 0 rfl) ?_
      refine gX7 X hP53 7 (v := .ref (g.2.2 252)) rfl (by decide) rfl wd_890 dX7_site_64 ?_
      refine lv_iconst (v := 3) hx hb dX7_site_67 (by decide) ?_
      refine lv_iload hx hb dX7_site_68 (lv_at hl 5 rfl) ?_
      obtain ⟨hc57, hf58⟩ := chk_some hf55
      refine x_istM X hP53 hS54 252 rfl hc57 dX7_site_70 (fun H59 lc60 kk61 ekk61 hP62 hS63 => ?_)
      have hf64 := lk_at ekk61 hf58
      clear hf58 hP53 hS54
      refine lv_aload_n hx hb dX7_site_71 rfl (lv_at hl 0 rfl) ?_
      refine gX7 X hP62 7 (v := .ref (g.2.2 252)) rfl (by decide) rfl wd_890 dX7_site_72 ?_
      refine lv_iload_n hx hb dX7_site_75 rfl (lv_at hl 1 rfl) ?_
      obtain ⟨⟨⟩, kk66, hg72, hf71⟩ := bd_some hf64
      refine x_cv (x_runS (As := [.ref (g.2.2 252), .int v1]) (rest := []) X hP62 hS63 (tX7_hoursOf l X.2.2.2.2.2.2.1 (rfl : isMA 252 = true) hg72) mi_X7_234 rfl hl.1 rfl (Nat.le_of_ble_eq_true rfl) dX7_site_76 ⟨Nat.le_of_ble_eq_true rfl, Nat.le_of_ble_eq_true rfl⟩ ⟨Nat.zero_le _, Nat.zero_le _⟩) hS63 (fun H67 lc68 hP69 hS70 => ?_)
      clear hf64 hP62 hS63 hg72
      refine lv_aload_n hx hb dX7_site_79 rfl (lv_at hl 0 rfl) ?_
      refine gX7 X hP69 7 (v := .ref (g.2.2 252)) rfl (by decide) rfl wd_890 dX7_site_80 ?_
      obtain ⟨x73, kk74, hg80, hf79⟩ := bd_some hf71
      refine x_ci (x_runS (As := [.ref (g.2.2 252)]) (rest := []) X hP69 hS70 (tX7_numbered l X.2.2.2.2.2.2.1 (rfl : isMA 252 = true) hg80) mi_X7_196 rfl hl.1 rfl (Nat.le_of_ble_eq_true rfl) dX7_site_83 ⟨Nat.le_of_ble_eq_true rfl, Nat.le_of_ble_eq_true rfl⟩ ⟨Nat.zero_le _, Nat.zero_le _⟩) hS70 (fun H75 lc76 hP77 hS78 => ?_)
      clear hf71 hP69 hS70 hg80
      obtain ⟨x81, kk82, hg88, hf87⟩ := bd_some hf79
      refine x_ci (x_runS (As := [.int x73]) (rest := []) X hP77 hS78 (tX7_bits l X.2.2.2.2.2.2.1  hg88) mi_X7_199 rfl hl.1 rfl (Nat.le_of_ble_eq_true rfl) dX7_site_86 ⟨Nat.le_of_ble_eq_true rfl, Nat.le_of_ble_eq_true rfl⟩ ⟨Nat.zero_le _, Nat.zero_le _⟩) hS78 (fun H83 lc84 hP85 hS86 => ?_)
      clear hf79 hP77 hS78 hg88
      refine lv_istore (lv' := [(6, .int x81), (0, .ref (g.2.2 246)), (1, .int v1), (2, .int v2), (3, .int v3), (4, .int v4), (5, .int v5)]) hx hb dX7_site_89 hl (by decide) rfl (fun ls89 hl90 => ?_)
      clear hl
      refine lv_iload hx hb dX7_site_91 (lv_at hl90 0 rfl) ?_
      refine lv_iload_n hx hb dX7_site_93 rfl (lv_at hl90 4 rfl) ?_
      obtain ⟨J104_91, eJ104_91, hf104⟩ := jp_at hf87
      clear hf87
      have hJ104_91 : ∀ (J104_91v3 : Int32) (J104_91v4 : Int32) (kk92 : Hp) (H93 : Heap) (lc94 : List Loc) (ls95 : Array Slot), J104_91 J104_91v3 J104_91v4 kk92 = some (r, k1) → va_P g.1 vwCl (WW g h kk92) H93 → va_S (inA g) s.heap H93 lc94 → lv_has ls95 7 [(0, .ref (g.2.2 246)), (1, .int v1), (2, .int v2), (3, .int J104_91v3), (4, .int J104_91v4), (5, .int v5)] → W p l en (rmD 5) s m args below meth c H93 lc94 0 0 (MQ below (QI g h k1 r) args s 0 0 (inA g)) (F0 m 104 ls95 []) := by
        intro J104_91v3 J104_91v4 kk92 H93 lc94 ls95 hf99 hP96 hS97 hl98
        clear hf104 hP85 hS86 hl90
        subst eJ104_91
        obtain ⟨x100, ex100⟩ : ∃ q : Int32, q = v5 + (1 : Int32) := ⟨_, rfl⟩
        have hf101 := lk_at ex100 hf99
        clear hf99
        refine lv_iinc (v := x100) (lv' := [(5, .int x100), (0, .ref (g.2.2 246)), (1, .int v1), (2, .int v2), (3, .int J104_91v3), (4, .int J104_91v4)]) hx hb dX7_site_104 hl98 (k := 5) rfl (by rw [ex100]; rfl) (by decide) rfl (fun ls102 hl103 => ?_)
        clear hl98
        refine lv_goto (tgt := 48) hx hb dX7_site_107 (by decide) ?_
        exact ih J104_91v3 J104_91v4 x100 kk92  _ _ _ hf101 hP96 hS97 (lv_sub hl103 [1, 2, 3, 4, 5, 0] rfl)
      clear eJ104_91
      refine lv_icmp_le (tgt := 104) hx hb dX7_site_94 (by decide) (fun c105 => ?_) (fun c105 => ?_)
      · have hf106 := if_at_t c105 hf104
        clear hf104
        exact hJ104_91 v3 v4 kk82  _ _ _ hf106 hP85 hS86 (lv_sub hl90 [1, 2, 3, 4, 5, 6] rfl)
      · have hf107 := if_at_f c105 hf104
        clear hf104
        refine lv_iload hx hb dX7_site_97 (lv_at hl90 0 rfl) ?_
        refine lv_istore_n (lv' := [(3, .int x81), (6, .int x81), (0, .ref (g.2.2 246)), (1, .int v1), (2, .int v2), (4, .int v4), (5, .int v5)]) hx hb dX7_site_99 rfl hl90 (by decide) rfl (fun ls108 hl109 => ?_)
        clear hl90
        refine lv_iload hx hb dX7_site_100 (lv_at hl109 6 rfl) ?_
        refine lv_istore (lv' := [(4, .int v5), (3, .int x81), (6, .int x81), (0, .ref (g.2.2 246)), (1, .int v1), (2, .int v2), (5, .int v5)]) hx hb dX7_site_102 hl109 (by decide) rfl (fun ls110 hl111 => ?_)
        clear hl109
        exact hJ104_91 x81 v5 kk82  _ _ _ hf107 hP85 hS86 (lv_sub hl111 [3, 4, 5, 1, 0, 6] rfl)
set_option maxRecDepth 100000 in
set_option maxHeartbeats 4000000 in
theorem tX7_site (l : Launch) {g : Gx} (hI : InjG g) {h k k1 : Hp} {a1 : Int32} {a2 : Int32} {r : Int32}   (hf : fX7_site a1 a2 k = some (r, k1)) : CI l yX7_site cX7_site 7 (some .int) 5 g [.ref (g.2.2 246), .int a1, .int a2] h k h k1 r := by
  refine Met.ofW (cc := cX7_site) (maxL := 7) (ret := (some .int)) (by decide) rfl ?_
  intro p en s m args below meth c s₁ B hml hv
  obtain ⟨rfl, hSK, hSH, hP⟩ := hv
  have X : Cx p s m _ c cX7_site 7 RX7 g := ⟨B.exec, B.bytes, hml, findClass_of_methodNamed B.named, fun w hw => atoms_spec (ws := wsy yX7_site cX7_site 7 (some .int)) B.pre w (List.mem_cons_of_mem _ hw), hSK, hI, hSH⟩
  have hr := B.returns
  have hlocks := B.notSynchronized
  have hx := X.1
  have hb := X.2.1
  have hS : va_S (inA g) s.heap s.heap [] := va_S.rf
  clear hSK hSH hml B
  have hl := lv_entry ([.ref (g.2.2 246), .int a1, .int a2]) (n := 7) (Nat.le_of_ble_eq_true rfl)
  rw [lg_entry_eq]
  generalize (lg_sl ([.ref (g.2.2 246), .int a1, .int a2]) ++ List.replicate (7 - (lg_sl ([.ref (g.2.2 246), .int a1, .int a2])).length) Slot.unset).toArray = ls at hl ⊢
  have hl : lv_has ls 7 [(0, .ref (g.2.2 246)), (1, .int a1), (2, .int a2)] := hl
  generalize ([.ref (g.2.2 246), .int a1, .int a2] : List Value).toArray = args at X ⊢
  show W p l en (rmD 5) s m args below meth c s.heap [] 0 0 (MQ below (QI g h k1 r) args s 0 0 (inA g)) (F0 m 0 ls [])
  unfold fX7_site at hf
  refine lv_aload_n hx hb dX7_site_0 rfl (lv_at hl 0 rfl) ?_
  refine lv_iconst (v := 0) hx hb dX7_site_1 (by decide) ?_
  refine pX7 X hP hS 0 (by decide) rfl wd_883 rfl rfl rfl rfl seX7_0 dX7_site_2 (fun H1 lc2 kk3 ekk3 hP4 hS5 => ?_)
  have hf6 := lk_at ekk3 hf
  clear hf hP hS
  refine lv_aload_n hx hb dX7_site_5 rfl (lv_at hl 0 rfl) ?_
  obtain ⟨x7, kk8, hg14, hf13⟩ := bd_some hf6
  refine x_ci (x_runV (As := []) (rest := []) X hP4 hS5 246 (by decide) cl_M rfl (tX7_isThere l X.2.2.2.2.2.2.1  hg14) mi_X7_187 rfl hl.1 rfl (Nat.le_of_ble_eq_true rfl) dX7_site_6 ⟨Nat.le_of_ble_eq_true rfl, Nat.le_of_ble_eq_true rfl⟩ ⟨Nat.zero_le _, Nat.zero_le _⟩) hS5 (fun H9 lc10 hP11 hS12 => ?_)
  clear hf6 hP4 hS5 hg14
  refine lv_if_ne (tgt := 15) hx hb dX7_site_9 (by decide) (fun c15 => ?_) (fun c15 => ?_)
  · have hf16 := if_at_f c15 hf13
    clear hf13
    refine lv_iload_n hx hb dX7_site_15 rfl (lv_at hl 1 rfl) ?_
    refine lv_i2l hx hb dX7_site_16 rfl ?_
    refine lv_lconst (v := 1) hx hb dX7_site_17 (by decide) ?_
    refine lv_ldc2 (v := 30) hx hb X.2.2.2.1 (X.2.2.2.2.1 _ wd_1197) dX7_site_18 ?_
    obtain ⟨x17, kk18, hg24, hf23⟩ := bd_some hf16
    refine x_ci (x_runS (As := [.long a1.toInt64, .long (1 : Int64), .long (30 : Int64)]) (rest := []) X hP11 hS12 (tX7_in l X.2.2.2.2.2.2.1  hg24) mi_X7_57 rfl hl.1 rfl (Nat.le_of_ble_eq_true rfl) dX7_site_21 ⟨Nat.le_of_ble_eq_true rfl, Nat.le_of_ble_eq_true rfl⟩ ⟨Nat.zero_le _, Nat.zero_le _⟩) hS12 (fun H19 lc20 hP21 hS22 => ?_)
    clear hf16 hP11 hS12 hg24
    refine lv_if_eq (tgt := 37) hx hb dX7_site_24 (by decide) (fun c25 => ?_) (fun c25 => ?_)
    · have hf26 := if_at_t c25 hf23
      clear hf23
      refine lv_ldc (v := -1000001) hx hb X.2.2.2.1 (X.2.2.2.2.1 _ wd_969) dX7_site_37 ?_
      obtain ⟨rfl, rfl⟩ := ret_inj hf26
      exact x_iret X hr hlocks hP21 hS22 dX7_site_39
    · have hf27 := if_at_f c25 hf23
      clear hf23
      refine lv_iload_n hx hb dX7_site_27 rfl (lv_at hl 2 rfl) ?_
      refine lv_i2l hx hb dX7_site_28 rfl ?_
      refine lv_lconst (v := 0) hx hb dX7_site_29 (by decide) ?_
      refine lv_lconst (v := 1) hx hb dX7_site_30 (by decide) ?_
      obtain ⟨x28, kk29, hg35, hf34⟩ := bd_some hf27
      refine x_ci (x_runS (As := [.long a2.toInt64, .long (0 : Int64), .long (1 : Int64)]) (rest := []) X hP21 hS22 (tX7_in l X.2.2.2.2.2.2.1  hg35) mi_X7_57 rfl hl.1 rfl (Nat.le_of_ble_eq_true rfl) dX7_site_31 ⟨Nat.le_of_ble_eq_true rfl, Nat.le_of_ble_eq_true rfl⟩ ⟨Nat.zero_le _, Nat.zero_le _⟩) hS22 (fun H30 lc31 hP32 hS33 => ?_)
      clear hf27 hP21 hS22 hg35
      refine lv_if_ne (tgt := 40) hx hb dX7_site_34 (by decide) (fun c36 => ?_) (fun c36 => ?_)
      · have hf37 := if_at_f c36 hf34
        clear hf34
        refine lv_iconst (v := -1) hx hb dX7_site_40 (by decide) ?_
        refine lv_istore_n (lv' := [(3, .int (-1 : Int32)), (0, .ref (g.2.2 246)), (1, .int a1), (2, .int a2)]) hx hb dX7_site_41 rfl hl (by decide) rfl (fun ls38 hl39 => ?_)
        clear hl
        refine lv_iconst (v := 0) hx hb dX7_site_42 (by decide) ?_
        refine lv_istore (lv' := [(4, .int (0 : Int32)), (3, .int (-1 : Int32)), (0, .ref (g.2.2 246)), (1, .int a1), (2, .int a2)]) hx hb dX7_site_43 hl39 (by decide) rfl (fun ls40 hl41 => ?_)
        clear hl39
        refine lv_iconst (v := 0) hx hb dX7_site_45 (by decide) ?_
        refine lv_istore (lv' := [(5, .int (0 : Int32)), (4, .int (0 : Int32)), (3, .int (-1 : Int32)), (0, .ref (g.2.2 246)), (1, .int a1), (2, .int a2)]) hx hb dX7_site_46 hl41 (by decide) rfl (fun ls42 hl43 => ?_)
        clear hl41
        refine wX7_site_L48 X hr hlocks  ?_ 4096 (-1 : Int32) (0 : Int32) (0 : Int32) kk29 _ _ _  hf37 hP32 hS33 (lv_sub hl43 [3, 4, 5, 2, 1, 0] rfl)
        · intro x112 x113 kk114 H115 lc116 ls117  hf121 hP118 hS119 hl120
          refine lv_iload_n hx hb dX7_site_110 rfl (lv_at hl120 0 rfl) ?_
          refine lv_if_ne (tgt := 119) hx hb dX7_site_111 (by decide) (fun c122 => ?_) (fun c122 => ?_)
          · have hf123 := if_at_f c122 hf121
            clear hf121
            refine lv_iload_n hx hb dX7_site_119 rfl (lv_at hl120 1 rfl) ?_
            obtain ⟨rfl, rfl⟩ := ret_inj hf123
            exact x_iret X hr hlocks hP118 hS119 dX7_site_120
          · have hf124 := if_at_t c122 hf121
            clear hf121
            refine lv_iload hx hb dX7_site_114 (lv_at hl120 2 rfl) ?_
            refine lv_goto (tgt := 120) hx hb dX7_site_116 (by decide) ?_
            obtain ⟨rfl, rfl⟩ := ret_inj hf124
            exact x_iret X hr hlocks hP118 hS119 dX7_site_120
      · have hf125 := if_at_t c36 hf34
        clear hf34
        refine lv_ldc (v := -1000001) hx hb X.2.2.2.1 (X.2.2.2.2.1 _ wd_969) dX7_site_37 ?_
        obtain ⟨rfl, rfl⟩ := ret_inj hf125
        exact x_iret X hr hlocks hP32 hS33 dX7_site_39
  · have hf126 := if_at_t c15 hf13
    clear hf13
    refine lv_ldc (v := -1000002) hx hb X.2.2.2.1 (X.2.2.2.2.1 _ wd_1062) dX7_site_12 ?_
    obtain ⟨rfl, rfl⟩ := ret_inj hf126
    exact x_iret X hr hlocks hP11 hS12 dX7_site_14
set_option maxRecDepth 100000 in
set_option maxHeartbeats 4000000 in
theorem tX7_numberedBy (l : Launch) {g : Gx} (hI : InjG g) {h k k1 : Hp} {a1 : Int32} {a2 : Int32} {r : Int32}   (hf : fX7_numberedBy a1 a2 k = some (r, k1)) : CI l yX7_numberedBy cX7_numberedBy 3 (some .int) 5 g [.ref (g.2.2 246), .int a1, .int a2] h k h k1 r := by
  refine Met.ofW (cc := cX7_numberedBy) (maxL := 3) (ret := (some .int)) (by decide) rfl ?_
  intro p en s m args below meth c s₁ B hml hv
  obtain ⟨rfl, hSK, hSH, hP⟩ := hv
  have X : Cx p s m _ c cX7_numberedBy 3 RX7 g := ⟨B.exec, B.bytes, hml, findClass_of_methodNamed B.named, fun w hw => atoms_spec (ws := wsy yX7_numberedBy cX7_numberedBy 3 (some .int)) B.pre w (List.mem_cons_of_mem _ hw), hSK, hI, hSH⟩
  have hr := B.returns
  have hlocks := B.notSynchronized
  have hx := X.1
  have hb := X.2.1
  have hS : va_S (inA g) s.heap s.heap [] := va_S.rf
  clear hSK hSH hml B
  have hl := lv_entry ([.ref (g.2.2 246), .int a1, .int a2]) (n := 3) (Nat.le_of_ble_eq_true rfl)
  rw [lg_entry_eq]
  generalize (lg_sl ([.ref (g.2.2 246), .int a1, .int a2]) ++ List.replicate (3 - (lg_sl ([.ref (g.2.2 246), .int a1, .int a2])).length) Slot.unset).toArray = ls at hl ⊢
  have hl : lv_has ls 3 [(0, .ref (g.2.2 246)), (1, .int a1), (2, .int a2)] := hl
  generalize ([.ref (g.2.2 246), .int a1, .int a2] : List Value).toArray = args at X ⊢
  show W p l en (rmD 5) s m args below meth c s.heap [] 0 0 (MQ below (QI g h k1 r) args s 0 0 (inA g)) (F0 m 0 ls [])
  unfold fX7_numberedBy at hf
  refine lv_aload_n hx hb dX7_numberedBy_0 rfl (lv_at hl 0 rfl) ?_
  obtain ⟨⟨⟩, kk2, hg8, hf7⟩ := bd_some hf
  refine x_cv (x_runV (As := []) (rest := []) X hP hS 246 (by decide) cl_M rfl (tX7_layThen l X.2.2.2.2.2.2.1  hg8) mi_X7_231 rfl hl.1 rfl (Nat.le_of_ble_eq_true rfl) dX7_numberedBy_1 ⟨Nat.le_of_ble_eq_true rfl, Nat.le_of_ble_eq_true rfl⟩ ⟨Nat.zero_le _, Nat.zero_le _⟩) hS (fun H3 lc4 hP5 hS6 => ?_)
  clear hf hP hS hg8
  refine lv_aload_n hx hb dX7_numberedBy_4 rfl (lv_at hl 0 rfl) ?_
  refine gX7 X hP5 7 (v := .ref (g.2.2 252)) rfl (by decide) rfl wd_890 dX7_numberedBy_5 ?_
  refine lv_iconst (v := 5) hx hb dX7_numberedBy_8 (by decide) ?_
  refine lv_iload_n hx hb dX7_numberedBy_9 rfl (lv_at hl 1 rfl) ?_
  obtain ⟨hc9, hf10⟩ := chk_some hf7
  refine x_istM X hP5 hS6 252 rfl hc9 dX7_numberedBy_10 (fun H11 lc12 kk13 ekk13 hP14 hS15 => ?_)
  have hf16 := lk_at ekk13 hf10
  clear hf10 hP5 hS6
  refine lv_aload_n hx hb dX7_numberedBy_11 rfl (lv_at hl 0 rfl) ?_
  refine gX7 X hP14 7 (v := .ref (g.2.2 252)) rfl (by decide) rfl wd_890 dX7_numberedBy_12 ?_
  refine lv_iload_n hx hb dX7_numberedBy_15 rfl (lv_at hl 2 rfl) ?_
  obtain ⟨⟨⟩, kk18, hg24, hf23⟩ := bd_some hf16
  refine x_cv (x_runS (As := [.ref (g.2.2 252), .int a2]) (rest := []) X hP14 hS15 (tX7_hoursOf l X.2.2.2.2.2.2.1 (rfl : isMA 252 = true) hg24) mi_X7_234 rfl hl.1 rfl (Nat.le_of_ble_eq_true rfl) dX7_numberedBy_16 ⟨Nat.le_of_ble_eq_true rfl, Nat.le_of_ble_eq_true rfl⟩ ⟨Nat.zero_le _, Nat.zero_le _⟩) hS15 (fun H19 lc20 hP21 hS22 => ?_)
  clear hf16 hP14 hS15 hg24
  refine lv_aload_n hx hb dX7_numberedBy_19 rfl (lv_at hl 0 rfl) ?_
  refine gX7 X hP21 7 (v := .ref (g.2.2 252)) rfl (by decide) rfl wd_890 dX7_numberedBy_20 ?_
  obtain ⟨x25, kk26, hg32, hf31⟩ := bd_some hf23
  refine x_ci (x_runS (As := [.ref (g.2.2 252)]) (rest := []) X hP21 hS22 (tX7_numbered l X.2.2.2.2.2.2.1 (rfl : isMA 252 = true) hg32) mi_X7_196 rfl hl.1 rfl (Nat.le_of_ble_eq_true rfl) dX7_numberedBy_23 ⟨Nat.le_of_ble_eq_true rfl, Nat.le_of_ble_eq_true rfl⟩ ⟨Nat.zero_le _, Nat.zero_le _⟩) hS22 (fun H27 lc28 hP29 hS30 => ?_)
  clear hf23 hP21 hS22 hg32
  obtain ⟨x33, kk34, hg40, hf39⟩ := bd_some hf31
  refine x_ci (x_runS (As := [.int x25]) (rest := []) X hP29 hS30 (tX7_bits l X.2.2.2.2.2.2.1  hg40) mi_X7_199 rfl hl.1 rfl (Nat.le_of_ble_eq_true rfl) dX7_numberedBy_26 ⟨Nat.le_of_ble_eq_true rfl, Nat.le_of_ble_eq_true rfl⟩ ⟨Nat.zero_le _, Nat.zero_le _⟩) hS30 (fun H35 lc36 hP37 hS38 => ?_)
  clear hf31 hP29 hS30 hg40
  obtain ⟨rfl, rfl⟩ := ret_inj hf39
  exact x_iret X hr hlocks hP37 hS38 dX7_numberedBy_29
set_option maxRecDepth 100000 in
set_option maxHeartbeats 4000000 in
theorem wX7_waking_L56 {p : Program} {l : Launch} {en : Env} {s : State} {m : MethodId} {args : Array Value} {below : List Frame} {meth : Method} {c : Code} {g : Gx} (X : Cx p s m args c cX7_waking 6 RX7 g) (hr : meth.sig.returnType = (some .int)) (hlocks : meth.locks = false) {h k1 : Hp} {r : Int32} {v1 : Int32} {v2 : Int32} {v3 : Int32}  {K95 : Int32 → Hp → Option (Int32 × Hp)}
    (hK95 : ∀ (v4 : Int32) (k : Hp) (H : Heap) (locs : List Loc) (ls : Array Slot), K95 v4 k = some (r, k1) → va_P g.1 vwCl (WW g h k) H → va_S (inA g) s.heap H locs → lv_has ls 6 [(2, .int v2), (4, .int v4)] → W p l en (rmD 6) s m args below meth c H locs 0 0 (MQ below (QI g h k1 r) args s 0 0 (inA g)) (F0 m 95 ls [])) :
    ∀ (n : Nat) (v4 : Int32) (v5 : Int32) (k : Hp) (H : Heap) (locs : List Loc) (ls : Array Slot), fX7_waking_L56 K95 n v1 v2 v3 v4 v5 k = some (r, k1) → va_P g.1 vwCl (WW g h k) H → va_S (inA g) s.heap H locs → lv_has ls 6 [(0, .ref (g.2.2 246)), (1, .int v1), (2, .int v2), (3, .int v3), (4, .int v4), (5, .int v5)] → W p l en (rmD 6) s m args below meth c H locs 0 0 (MQ below (QI g h k1 r) args s 0 0 (inA g)) (F0 m 56 ls []) := by
  have hx := X.1
  have hb := X.2.1
  intro n
  induction n with
  | zero => intro v4 v5 k H locs ls  hf; simp only [fX7_waking_L56, reduceCtorEq] at hf
  | succ n ih =>
    intro v4 v5 k H locs ls  hf hP hS hl
    rw [fX7_waking_L56] at hf
    refine lv_iload hx hb dX7_waking_56 (lv_at hl 5 rfl) ?_
    refine lv_if_lt (tgt := 95) hx hb dX7_waking_58 (by decide) (fun c52 => ?_) (fun c52 => ?_)
    · have hf53 := if_at_t c52 hf
      clear hf
      exact hK95 v4 k  _ _ _ hf53 hP hS (lv_sub hl [2, 4] rfl)
    · have hf54 := if_at_f c52 hf
      clear hf
      refine lv_iload hx hb dX7_waking_61 (lv_at hl 5 rfl) ?_
      obtain ⟨x55, kk56, hg62, hf61⟩ := bd_some hf54
      refine x_ci (x_runS (As := [.int v5]) (rest := []) X hP hS (tX7_bits l X.2.2.2.2.2.2.1  hg62) mi_X7_199 rfl hl.1 rfl (Nat.le_of_ble_eq_true rfl) dX7_waking_63 ⟨Nat.le_of_ble_eq_true rfl, Nat.le_of_ble_eq_true rfl⟩ ⟨Nat.zero_le _, Nat.zero_le _⟩) hS (fun H57 lc58 hP59 hS60 => ?_)
      clear hf54 hP hS hg62
      refine lv_iload hx hb dX7_waking_66 (lv_at hl 4 rfl) ?_
      obtain ⟨x63, kk64, hg70, hf69⟩ := bd_some hf61
      refine x_ci (x_runS (As := [.int v4]) (rest := [.int x55]) X hP59 hS60 (tX7_bits l X.2.2.2.2.2.2.1  hg70) mi_X7_199 rfl hl.1 rfl (Nat.le_of_ble_eq_true rfl) dX7_waking_68 ⟨Nat.le_of_ble_eq_true rfl, Nat.le_of_ble_eq_true rfl⟩ ⟨Nat.zero_le _, Nat.zero_le _⟩) hS60 (fun H65 lc66 hP67 hS68 => ?_)
      clear hf61 hP59 hS60 hg70
      obtain ⟨J89_71, eJ89_71, hf84⟩ := jp_at hf69
      clear hf69
      have hJ89_71 : ∀ (J89_71v4 : Int32) (kk72 : Hp) (H73 : Heap) (lc74 : List Loc) (ls75 : Array Slot), J89_71 J89_71v4 kk72 = some (r, k1) → va_P g.1 vwCl (WW g h kk72) H73 → va_S (inA g) s.heap H73 lc74 → lv_has ls75 6 [(0, .ref (g.2.2 246)), (1, .int v1), (2, .int v2), (3, .int v3), (4, .int J89_71v4), (5, .int v5)] → W p l en (rmD 6) s m args below meth c H73 lc74 0 0 (MQ below (QI g h k1 r) args s 0 0 (inA g)) (F0 m 89 ls75 []) := by
        intro J89_71v4 kk72 H73 lc74 ls75 hf79 hP76 hS77 hl78
        clear hf84 hP67 hS68 hl
        subst eJ89_71
        obtain ⟨x80, ex80⟩ : ∃ q : Int32, q = v5 + (-1 : Int32) := ⟨_, rfl⟩
        have hf81 := lk_at ex80 hf79
        clear hf79
        refine lv_iinc (v := x80) (lv' := [(5, .int x80), (0, .ref (g.2.2 246)), (1, .int v1), (2, .int v2), (3, .int v3), (4, .int J89_71v4)]) hx hb dX7_waking_89 hl78 (k := 5) rfl (by rw [ex80]; rfl) (by decide) rfl (fun ls82 hl83 => ?_)
        clear hl78
        refine lv_goto (tgt := 56) hx hb dX7_waking_92 (by decide) ?_
        exact ih J89_71v4 x80 kk72  _ _ _ hf81 hP76 hS77 (lv_sub hl83 [1, 2, 3, 4, 5, 0] rfl)
      clear eJ89_71
      refine lv_icmp_gt (tgt := 89) hx hb dX7_waking_71 (by decide) (fun c85 => ?_) (fun c85 => ?_)
      · have hf86 := if_at_t c85 hf84
        clear hf84
        exact hJ89_71 v4 kk64  _ _ _ hf86 hP67 hS68 (lv_sub hl [0, 1, 2, 3, 4, 5] rfl)
      · have hf87 := if_at_f c85 hf84
        clear hf84
        refine lv_aload_n hx hb dX7_waking_74 rfl (lv_at hl 0 rfl) ?_
        refine lv_iload hx hb dX7_waking_75 (lv_at hl 5 rfl) ?_
        refine lv_iload_n hx hb dX7_waking_77 rfl (lv_at hl 1 rfl) ?_
        obtain ⟨x88, kk89, hg95, hf94⟩ := bd_some hf87
        refine x_ci (x_runV (As := [.int v5, .int v1]) (rest := []) X hP67 hS68 246 (by decide) cl_M rfl (tX7_numberedBy l X.2.2.2.2.2.2.1  hg95) mi_X7_242 rfl hl.1 rfl (Nat.le_of_ble_eq_true rfl) dX7_waking_78 ⟨Nat.le_of_ble_eq_true rfl, Nat.le_of_ble_eq_true rfl⟩ ⟨Nat.zero_le _, Nat.zero_le _⟩) hS68 (fun H90 lc91 hP92 hS93 => ?_)
        clear hf87 hP67 hS68 hg95
        refine lv_iload_n hx hb dX7_waking_81 rfl (lv_at hl 3 rfl) ?_
        refine lv_icmp_ne (tgt := 89) hx hb dX7_waking_82 (by decide) (fun c96 => ?_) (fun c96 => ?_)
        · have hf97 := if_at_f c96 hf94
          clear hf94
          exact hJ89_71 v4 kk89  _ _ _ hf97 hP92 hS93 (lv_sub hl [0, 1, 2, 3, 4, 5] rfl)
        · have hf98 := if_at_t c96 hf94
          clear hf94
          refine lv_iload hx hb dX7_waking_85 (lv_at hl 5 rfl) ?_
          refine lv_istore (lv' := [(4, .int v5), (0, .ref (g.2.2 246)), (1, .int v1), (2, .int v2), (3, .int v3), (5, .int v5)]) hx hb dX7_waking_87 hl (by decide) rfl (fun ls99 hl100 => ?_)
          clear hl
          exact hJ89_71 v5 kk89  _ _ _ hf98 hP92 hS93 (lv_sub hl100 [1, 2, 3, 4, 0, 5] rfl)
set_option maxRecDepth 100000 in
set_option maxHeartbeats 4000000 in
theorem tX7_waking (l : Launch) {g : Gx} (hI : InjG g) {h k k1 : Hp} {a1 : Int32} {a2 : Int32} {r : Int32}   (hf : fX7_waking a1 a2 k = some (r, k1)) : CI l yX7_waking cX7_waking 6 (some .int) 6 g [.ref (g.2.2 246), .int a1, .int a2] h k h k1 r := by
  refine Met.ofW (cc := cX7_waking) (maxL := 6) (ret := (some .int)) (by decide) rfl ?_
  intro p en s m args below meth c s₁ B hml hv
  obtain ⟨rfl, hSK, hSH, hP⟩ := hv
  have X : Cx p s m _ c cX7_waking 6 RX7 g := ⟨B.exec, B.bytes, hml, findClass_of_methodNamed B.named, fun w hw => atoms_spec (ws := wsy yX7_waking cX7_waking 6 (some .int)) B.pre w (List.mem_cons_of_mem _ hw), hSK, hI, hSH⟩
  have hr := B.returns
  have hlocks := B.notSynchronized
  have hx := X.1
  have hb := X.2.1
  have hS : va_S (inA g) s.heap s.heap [] := va_S.rf
  clear hSK hSH hml B
  have hl := lv_entry ([.ref (g.2.2 246), .int a1, .int a2]) (n := 6) (Nat.le_of_ble_eq_true rfl)
  rw [lg_entry_eq]
  generalize (lg_sl ([.ref (g.2.2 246), .int a1, .int a2]) ++ List.replicate (6 - (lg_sl ([.ref (g.2.2 246), .int a1, .int a2])).length) Slot.unset).toArray = ls at hl ⊢
  have hl : lv_has ls 6 [(0, .ref (g.2.2 246)), (1, .int a1), (2, .int a2)] := hl
  generalize ([.ref (g.2.2 246), .int a1, .int a2] : List Value).toArray = args at X ⊢
  show W p l en (rmD 6) s m args below meth c s.heap [] 0 0 (MQ below (QI g h k1 r) args s 0 0 (inA g)) (F0 m 0 ls [])
  unfold fX7_waking at hf
  refine lv_aload_n hx hb dX7_waking_0 rfl (lv_at hl 0 rfl) ?_
  refine lv_iconst (v := 0) hx hb dX7_waking_1 (by decide) ?_
  refine pX7 X hP hS 0 (by decide) rfl wd_883 rfl rfl rfl rfl seX7_0 dX7_waking_2 (fun H1 lc2 kk3 ekk3 hP4 hS5 => ?_)
  have hf6 := lk_at ekk3 hf
  clear hf hP hS
  refine lv_aload_n hx hb dX7_waking_5 rfl (lv_at hl 0 rfl) ?_
  obtain ⟨x7, kk8, hg14, hf13⟩ := bd_some hf6
  refine x_ci (x_runV (As := []) (rest := []) X hP4 hS5 246 (by decide) cl_M rfl (tX7_isThere l X.2.2.2.2.2.2.1  hg14) mi_X7_187 rfl hl.1 rfl (Nat.le_of_ble_eq_true rfl) dX7_waking_6 ⟨Nat.le_of_ble_eq_true rfl, Nat.le_of_ble_eq_true rfl⟩ ⟨Nat.zero_le _, Nat.zero_le _⟩) hS5 (fun H9 lc10 hP11 hS12 => ?_)
  clear hf6 hP4 hS5 hg14
  refine lv_if_ne (tgt := 15) hx hb dX7_waking_9 (by decide) (fun c15 => ?_) (fun c15 => ?_)
  · have hf16 := if_at_f c15 hf13
    clear hf13
    refine lv_iload_n hx hb dX7_waking_15 rfl (lv_at hl 1 rfl) ?_
    refine lv_i2l hx hb dX7_waking_16 rfl ?_
    refine lv_lconst (v := 1) hx hb dX7_waking_17 (by decide) ?_
    refine lv_ldc2 (v := 30) hx hb X.2.2.2.1 (X.2.2.2.2.1 _ wd_1197) dX7_waking_18 ?_
    obtain ⟨x17, kk18, hg24, hf23⟩ := bd_some hf16
    refine x_ci (x_runS (As := [.long a1.toInt64, .long (1 : Int64), .long (30 : Int64)]) (rest := []) X hP11 hS12 (tX7_in l X.2.2.2.2.2.2.1  hg24) mi_X7_57 rfl hl.1 rfl (Nat.le_of_ble_eq_true rfl) dX7_waking_21 ⟨Nat.le_of_ble_eq_true rfl, Nat.le_of_ble_eq_true rfl⟩ ⟨Nat.zero_le _, Nat.zero_le _⟩) hS12 (fun H19 lc20 hP21 hS22 => ?_)
    clear hf16 hP11 hS12 hg24
    refine lv_if_eq (tgt := 37) hx hb dX7_waking_24 (by decide) (fun c25 => ?_) (fun c25 => ?_)
    · have hf26 := if_at_t c25 hf23
      clear hf23
      refine lv_ldc (v := -1000001) hx hb X.2.2.2.1 (X.2.2.2.2.1 _ wd_969) dX7_waking_37 ?_
      obtain ⟨rfl, rfl⟩ := ret_inj hf26
      exact x_iret X hr hlocks hP21 hS22 dX7_waking_39
    · have hf27 := if_at_f c25 hf23
      clear hf23
      refine lv_iload_n hx hb dX7_waking_27 rfl (lv_at hl 2 rfl) ?_
      refine lv_i2l hx hb dX7_waking_28 rfl ?_
      refine lv_lconst (v := 0) hx hb dX7_waking_29 (by decide) ?_
      refine lv_lconst (v := 1) hx hb dX7_waking_30 (by decide) ?_
      obtain ⟨x28, kk29, hg35, hf34⟩ := bd_some hf27
      refine x_ci (x_runS (As := [.long a2.toInt64, .long (0 : Int64), .long (1 : Int64)]) (rest := []) X hP21 hS22 (tX7_in l X.2.2.2.2.2.2.1  hg35) mi_X7_57 rfl hl.1 rfl (Nat.le_of_ble_eq_true rfl) dX7_waking_31 ⟨Nat.le_of_ble_eq_true rfl, Nat.le_of_ble_eq_true rfl⟩ ⟨Nat.zero_le _, Nat.zero_le _⟩) hS22 (fun H30 lc31 hP32 hS33 => ?_)
      clear hf27 hP21 hS22 hg35
      refine lv_if_ne (tgt := 40) hx hb dX7_waking_34 (by decide) (fun c36 => ?_) (fun c36 => ?_)
      · have hf37 := if_at_f c36 hf34
        clear hf34
        refine lv_aload_n hx hb dX7_waking_40 rfl (lv_at hl 0 rfl) ?_
        refine lv_bipush (v := 15) hx hb dX7_waking_41 (by decide) ?_
        refine lv_iload_n hx hb dX7_waking_43 rfl (lv_at hl 1 rfl) ?_
        obtain ⟨x38, kk39, hg45, hf44⟩ := bd_some hf37
        refine x_ci (x_runV (As := [.int (15 : Int32), .int a1]) (rest := []) X hP32 hS33 246 (by decide) cl_M rfl (tX7_numberedBy l X.2.2.2.2.2.2.1  hg45) mi_X7_242 rfl hl.1 rfl (Nat.le_of_ble_eq_true rfl) dX7_waking_44 ⟨Nat.le_of_ble_eq_true rfl, Nat.le_of_ble_eq_true rfl⟩ ⟨Nat.zero_le _, Nat.zero_le _⟩) hS33 (fun H40 lc41 hP42 hS43 => ?_)
        clear hf37 hP32 hS33 hg45
        refine lv_istore_n (lv' := [(3, .int x38), (0, .ref (g.2.2 246)), (1, .int a1), (2, .int a2)]) hx hb dX7_waking_47 rfl hl (by decide) rfl (fun ls46 hl47 => ?_)
        clear hl
        refine lv_bipush (v := 15) hx hb dX7_waking_48 (by decide) ?_
        refine lv_istore (lv' := [(4, .int (15 : Int32)), (3, .int x38), (0, .ref (g.2.2 246)), (1, .int a1), (2, .int a2)]) hx hb dX7_waking_50 hl47 (by decide) rfl (fun ls48 hl49 => ?_)
        clear hl47
        refine lv_bipush (v := 14) hx hb dX7_waking_52 (by decide) ?_
        refine lv_istore (lv' := [(5, .int (14 : Int32)), (4, .int (15 : Int32)), (3, .int x38), (0, .ref (g.2.2 246)), (1, .int a1), (2, .int a2)]) hx hb dX7_waking_54 hl49 (by decide) rfl (fun ls50 hl51 => ?_)
        clear hl49
        refine wX7_waking_L56 X hr hlocks  ?_ 4096 (15 : Int32) (14 : Int32) kk39 _ _ _  hf44 hP42 hS43 (lv_sub hl51 [3, 4, 5, 2, 1, 0] rfl)
        · intro x101 kk102 H103 lc104 ls105  hf109 hP106 hS107 hl108
          refine lv_iload_n hx hb dX7_waking_95 rfl (lv_at hl108 0 rfl) ?_
          refine lv_if_ne (tgt := 104) hx hb dX7_waking_96 (by decide) (fun c110 => ?_) (fun c110 => ?_)
          · have hf111 := if_at_f c110 hf109
            clear hf109
            refine lv_iload hx hb dX7_waking_104 (lv_at hl108 1 rfl) ?_
            obtain ⟨x112, kk113, hg119, hf118⟩ := bd_some hf111
            refine x_ci (x_runS (As := [.int x101]) (rest := []) X hP106 hS107 (tX7_bits l X.2.2.2.2.2.2.1  hg119) mi_X7_199 rfl hl108.1 rfl (Nat.le_of_ble_eq_true rfl) dX7_waking_106 ⟨Nat.le_of_ble_eq_true rfl, Nat.le_of_ble_eq_true rfl⟩ ⟨Nat.zero_le _, Nat.zero_le _⟩) hS107 (fun H114 lc115 hP116 hS117 => ?_)
            clear hf111 hP106 hS107 hg119
            obtain ⟨rfl, rfl⟩ := ret_inj hf118
            exact x_iret X hr hlocks hP116 hS117 dX7_waking_109
          · have hf120 := if_at_t c110 hf109
            clear hf109
            refine lv_iload hx hb dX7_waking_99 (lv_at hl108 1 rfl) ?_
            refine lv_goto (tgt := 109) hx hb dX7_waking_101 (by decide) ?_
            obtain ⟨rfl, rfl⟩ := ret_inj hf120
            exact x_iret X hr hlocks hP106 hS107 dX7_waking_109
      · have hf121 := if_at_t c36 hf34
        clear hf34
        refine lv_ldc (v := -1000001) hx hb X.2.2.2.1 (X.2.2.2.2.1 _ wd_969) dX7_waking_37 ?_
        obtain ⟨rfl, rfl⟩ := ret_inj hf121
        exact x_iret X hr hlocks hP32 hS33 dX7_waking_39
  · have hf122 := if_at_t c15 hf13
    clear hf13
    refine lv_ldc (v := -1000002) hx hb X.2.2.2.1 (X.2.2.2.2.1 _ wd_1062) dX7_waking_12 ?_
    obtain ⟨rfl, rfl⟩ := ret_inj hf122
    exact x_iret X hr hlocks hP11 hS12 dX7_waking_14
set_option maxRecDepth 100000 in
set_option maxHeartbeats 4000000 in
theorem wX7_meant_L72 {p : Program} {l : Launch} {en : Env} {s : State} {m : MethodId} {args : Array Value} {below : List Frame} {meth : Method} {c : Code} {g : Gx} (X : Cx p s m args c cX7_meant 9 RX7 g) (hr : meth.sig.returnType = (some .int)) (hlocks : meth.locks = false) {h k1 : Hp} {r : Int32} {v1 : Int32} {v2 : Int32} {v3 : Int32} {v4 : Int32} {v5 : Int32} {v6 : Int32}  {K118 : Int32 → Hp → Option (Int32 × Hp)}
    (hK118 : ∀ (v7 : Int32) (k : Hp) (H : Heap) (locs : List Loc) (ls : Array Slot), K118 v7 k = some (r, k1) → va_P g.1 vwCl (WW g h k) H → va_S (inA g) s.heap H locs → lv_has ls 9 [(0, .ref (g.2.2 246)), (1, .int v1), (2, .int v2), (3, .int v3), (4, .int v4), (5, .int v5), (6, .int v6), (7, .int v7)] → W p l en (rmD 3) s m args below meth c H locs 0 0 (MQ below (QI g h k1 r) args s 0 0 (inA g)) (F0 m 118 ls [])) :
    ∀ (n : Nat) (v7 : Int32) (v8 : Int32) (k : Hp) (H : Heap) (locs : List Loc) (ls : Array Slot), fX7_meant_L72 K118 n v1 v2 v3 v4 v5 v6 v7 v8 k = some (r, k1) → va_P g.1 vwCl (WW g h k) H → va_S (inA g) s.heap H locs → lv_has ls 9 [(0, .ref (g.2.2 246)), (1, .int v1), (2, .int v2), (3, .int v3), (4, .int v4), (5, .int v5), (6, .int v6), (7, .int v7), (8, .int v8)] → W p l en (rmD 3) s m args below meth c H locs 0 0 (MQ below (QI g h k1 r) args s 0 0 (inA g)) (F0 m 72 ls []) := by
  have hx := X.1
  have hb := X.2.1
  intro n
  induction n with
  | zero => intro v7 v8 k H locs ls  hf; simp only [fX7_meant_L72, reduceCtorEq] at hf
  | succ n ih =>
    intro v7 v8 k H locs ls  hf hP hS hl
    rw [fX7_meant_L72] at hf
    refine lv_iload hx hb dX7_meant_72 (lv_at hl 8 rfl) ?_
    refine lv_aload_n hx hb dX7_meant_74 rfl (lv_at hl 0 rfl) ?_
    refine gX7 X hP 5 (v := .ref (g.2.2 250)) rfl (by decide) rfl wd_888 dX7_meant_75 ?_
    refine lv_iconst (v := 0) hx hb dX7_meant_78 (by decide) ?_
    obtain ⟨hc55, hf56⟩ := chk_some hf
    refine x_ildM X hP 250 rfl hc55 dX7_meant_79 ?_
    refine lv_icmp_ge (tgt := 118) hx hb dX7_meant_80 (by decide) (fun c57 => ?_) (fun c57 => ?_)
    · have hf58 := if_at_t c57 hf56
      clear hf56
      exact hK118 v7 k  _ _ _ hf58 hP hS (lv_sub hl [0, 1, 2, 3, 4, 5, 6, 7] rfl)
    · have hf59 := if_at_f c57 hf56
      clear hf56
      refine lv_iload hx hb dX7_meant_83 (lv_at hl 7 rfl) ?_
      refine lv_iload hx hb dX7_meant_85 (lv_at hl 6 rfl) ?_
      refine lv_iload hx hb dX7_meant_87 (lv_at hl 8 rfl) ?_
      obtain ⟨x60, kk61, hg67, hf66⟩ := bd_some hf59
      refine x_ci (x_runS (As := [.int v6, .int v8]) (rest := [.int v7]) X hP hS (tX7_has l X.2.2.2.2.2.2.1  hg67) mi_X7_175 rfl hl.1 rfl (Nat.le_of_ble_eq_true rfl) dX7_meant_89 ⟨Nat.le_of_ble_eq_true rfl, Nat.le_of_ble_eq_true rfl⟩ ⟨Nat.zero_le _, Nat.zero_le _⟩) hS (fun H62 lc63 hP64 hS65 => ?_)
      clear hf59 hP hS hg67
      obtain ⟨J109_68, eJ109_68, hf85⟩ := jp_at hf66
      clear hf66
      have hJ109_68 : ∀ (J109_68s0 : Int32) (kk69 : Hp) (H70 : Heap) (lc71 : List Loc) (ls72 : Array Slot), J109_68 J109_68s0 kk69 = some (r, k1) → va_P g.1 vwCl (WW g h kk69) H70 → va_S (inA g) s.heap H70 lc71 → lv_has ls72 9 [(0, .ref (g.2.2 246)), (1, .int v1), (2, .int v2), (3, .int v3), (4, .int v4), (5, .int v5), (6, .int v6), (8, .int v8)] → W p l en (rmD 3) s m args below meth c H70 lc71 0 0 (MQ below (QI g h k1 r) args s 0 0 (inA g)) (F0 m 109 ls72 [.int J109_68s0, .int v7]) := by
        intro J109_68s0 kk69 H70 lc71 ls72 hf76 hP73 hS74 hl75
        clear hf85 hP64 hS65 hl
        subst eJ109_68
        refine lv_iadd hx hb dX7_meant_109 ?_
        refine lv_topi (fun x77 ex77 => ?_)
        have hf78 := lk_at ex77 hf76
        clear hf76
        refine lv_istore (lv' := [(7, .int x77), (0, .ref (g.2.2 246)), (1, .int v1), (2, .int v2), (3, .int v3), (4, .int v4), (5, .int v5), (6, .int v6), (8, .int v8)]) hx hb dX7_meant_110 hl75 (by decide) rfl (fun ls79 hl80 => ?_)
        clear hl75
        obtain ⟨x81, ex81⟩ : ∃ q : Int32, q = v8 + (1 : Int32) := ⟨_, rfl⟩
        have hf82 := lk_at ex81 hf78
        clear hf78
        refine lv_iinc (v := x81) (lv' := [(8, .int x81), (7, .int x77), (0, .ref (g.2.2 246)), (1, .int v1), (2, .int v2), (3, .int v3), (4, .int v4), (5, .int v5), (6, .int v6)]) hx hb dX7_meant_112 hl80 (k := 8) rfl (by rw [ex81]; rfl) (by decide) rfl (fun ls83 hl84 => ?_)
        clear hl80
        refine lv_goto (tgt := 72) hx hb dX7_meant_115 (by decide) ?_
        exact ih x77 x81 kk69  _ _ _ hf82 hP73 hS74 (lv_sub hl84 [2, 3, 4, 5, 6, 7, 8, 1, 0] rfl)
      clear eJ109_68
      refine lv_if_eq (tgt := 108) hx hb dX7_meant_92 (by decide) (fun c86 => ?_) (fun c86 => ?_)
      · have hf87 := if_at_t c86 hf85
        clear hf85
        refine lv_iconst (v := 0) hx hb dX7_meant_108 (by decide) ?_
        exact hJ109_68 (0 : Int32) kk61  _ _ _ hf87 hP64 hS65 (lv_sub hl [0, 1, 2, 3, 4, 5, 6, 8] rfl)
      · have hf88 := if_at_f c86 hf85
        clear hf85
        refine lv_aload_n hx hb dX7_meant_95 rfl (lv_at hl 0 rfl) ?_
        refine gX7 X hP64 5 (v := .ref (g.2.2 250)) rfl (by decide) rfl wd_888 dX7_meant_96 ?_
        refine lv_iload hx hb dX7_meant_99 (lv_at hl 8 rfl) ?_
        refine lv_iconst (v := 3) hx hb dX7_meant_101 (by decide) ?_
        obtain ⟨x89, kk90, hg96, hf95⟩ := bd_some hf88
        refine x_ci (x_runS (As := [.ref (g.2.2 250), .int v8, .int (3 : Int32)]) (rest := [.int v7]) X hP64 hS65 (tX7_of l X.2.2.2.2.2.2.1 (rfl : isMA 250 = true) hg96) mi_X7_152 rfl hl.1 rfl (Nat.le_of_ble_eq_true rfl) dX7_meant_102 ⟨Nat.le_of_ble_eq_true rfl, Nat.le_of_ble_eq_true rfl⟩ ⟨Nat.zero_le _, Nat.zero_le _⟩) hS65 (fun H91 lc92 hP93 hS94 => ?_)
        clear hf88 hP64 hS65 hg96
        refine lv_goto (tgt := 109) hx hb dX7_meant_105 (by decide) ?_
        exact hJ109_68 x89 kk90  _ _ _ hf95 hP93 hS94 (lv_sub hl [0, 1, 2, 3, 4, 5, 6, 8] rfl)
set_option maxRecDepth 100000 in
set_option maxHeartbeats 4000000 in
theorem wX7_meant_L53 {p : Program} {l : Launch} {en : Env} {s : State} {m : MethodId} {args : Array Value} {below : List Frame} {meth : Method} {c : Code} {g : Gx} (X : Cx p s m args c cX7_meant 9 RX7 g) (hr : meth.sig.returnType = (some .int)) (hlocks : meth.locks = false) {h k1 : Hp} {r : Int32} {v1 : Int32} {v2 : Int32}  {K171 : Int32 → Int32 → Int32 → Hp → Option (Int32 × Hp)}
    (hK171 : ∀ (v3 : Int32) (v4 : Int32) (v5 : Int32) (k : Hp) (H : Heap) (locs : List Loc) (ls : Array Slot), K171 v3 v4 v5 k = some (r, k1) → va_P g.1 vwCl (WW g h k) H → va_S (inA g) s.heap H locs → lv_has ls 9 [(2, .int v2), (3, .int v3), (4, .int v4), (5, .int v5)] → W p l en (rmD 3) s m args below meth c H locs 0 0 (MQ below (QI g h k1 r) args s 0 0 (inA g)) (F0 m 171 ls [])) :
    ∀ (n : Nat) (v3 : Int32) (v4 : Int32) (v5 : Int32) (v6 : Int32) (k : Hp) (H : Heap) (locs : List Loc) (ls : Array Slot), fX7_meant_L53 K171 n v1 v2 v3 v4 v5 v6 k = some (r, k1) → va_P g.1 vwCl (WW g h k) H → va_S (inA g) s.heap H locs → lv_has ls 9 [(0, .ref (g.2.2 246)), (1, .int v1), (2, .int v2), (3, .int v3), (4, .int v4), (5, .int v5), (6, .int v6)] → W p l en (rmD 3) s m args below meth c H locs 0 0 (MQ below (QI g h k1 r) args s 0 0 (inA g)) (F0 m 53 ls []) := by
  have hx := X.1
  have hb := X.2.1
  intro n
  induction n with
  | zero => intro v3 v4 v5 v6 k H locs ls  hf; simp only [fX7_meant_L53, reduceCtorEq] at hf
  | succ n ih =>
    intro v3 v4 v5 v6 k H locs ls  hf hP hS hl
    rw [fX7_meant_L53] at hf
    refine lv_iload hx hb dX7_meant_53 (lv_at hl 6 rfl) ?_
    refine lv_iconst (v := 1) hx hb dX7_meant_55 (by decide) ?_
    refine lv_aload_n hx hb dX7_meant_56 rfl (lv_at hl 0 rfl) ?_
    refine gX7 X hP 5 (v := .ref (g.2.2 250)) rfl (by decide) rfl wd_888 dX7_meant_57 ?_
    refine lv_iconst (v := 0) hx hb dX7_meant_60 (by decide) ?_
    obtain ⟨hc46, hf47⟩ := chk_some hf
    refine x_ildM X hP 250 rfl hc46 dX7_meant_61 ?_
    refine x_ishl X dX7_meant_62 ?_
    refine lv_icmp_ge (tgt := 171) hx hb dX7_meant_63 (by decide) (fun c48 => ?_) (fun c48 => ?_)
    · have hf49 := if_at_t c48 hf47
      clear hf47
      exact hK171 v3 v4 v5 k  _ _ _ hf49 hP hS (lv_sub hl [2, 3, 4, 5] rfl)
    · have hf50 := if_at_f c48 hf47
      clear hf47
      refine lv_iconst (v := 0) hx hb dX7_meant_66 (by decide) ?_
      refine lv_istore (lv' := [(7, .int (0 : Int32)), (0, .ref (g.2.2 246)), (1, .int v1), (2, .int v2), (3, .int v3), (4, .int v4), (5, .int v5), (6, .int v6)]) hx hb dX7_meant_67 hl (by decide) rfl (fun ls51 hl52 => ?_)
      clear hl
      refine lv_iconst (v := 0) hx hb dX7_meant_69 (by decide) ?_
      refine lv_istore (lv' := [(8, .int (0 : Int32)), (7, .int (0 : Int32)), (0, .ref (g.2.2 246)), (1, .int v1), (2, .int v2), (3, .int v3), (4, .int v4), (5, .int v5), (6, .int v6)]) hx hb dX7_meant_70 hl52 (by decide) rfl (fun ls53 hl54 => ?_)
      clear hl52
      refine wX7_meant_L72 X hr hlocks  ?_ 4096 (0 : Int32) (0 : Int32) k _ _ _  hf50 hP hS (lv_sub hl54 [2, 3, 4, 5, 6, 7, 8, 1, 0] rfl)
      · intro x97 kk98 H99 lc100 ls101  hf105 hP102 hS103 hl104
        refine lv_iload hx hb dX7_meant_118 (lv_at hl104 6 rfl) ?_
        refine lv_aload_n hx hb dX7_meant_120 rfl (lv_at hl104 0 rfl) ?_
        refine gX7 X hP102 5 (v := .ref (g.2.2 250)) rfl (by decide) rfl wd_888 dX7_meant_121 ?_
        obtain ⟨x106, kk107, hg113, hf112⟩ := bd_some hf105
        refine x_ci (x_runS (As := [.ref (g.2.2 250)]) (rest := [.int v6]) X hP102 hS103 (tX7_ins l X.2.2.2.2.2.2.1 (rfl : isMA 250 = true) hg113) mi_X7_220 rfl hl104.1 rfl (Nat.le_of_ble_eq_true rfl) dX7_meant_124 ⟨Nat.le_of_ble_eq_true rfl, Nat.le_of_ble_eq_true rfl⟩ ⟨Nat.zero_le _, Nat.zero_le _⟩) hS103 (fun H108 lc109 hP110 hS111 => ?_)
        clear hf105 hP102 hS103 hg113
        refine lv_iconst (v := -1) hx hb dX7_meant_127 (by decide) ?_
        refine lv_ixor hx hb dX7_meant_128 ?_
        refine lv_iand hx hb dX7_meant_129 ?_
        obtain ⟨J165_114, eJ165_114, hf127⟩ := jp_at hf112
        clear hf112
        have hJ165_114 : ∀ (J165_114v3 : Int32) (J165_114v4 : Int32) (J165_114v5 : Int32) (kk115 : Hp) (H116 : Heap) (lc117 : List Loc) (ls118 : Array Slot), J165_114 J165_114v3 J165_114v4 J165_114v5 kk115 = some (r, k1) → va_P g.1 vwCl (WW g h kk115) H116 → va_S (inA g) s.heap H116 lc117 → lv_has ls118 9 [(0, .ref (g.2.2 246)), (1, .int v1), (2, .int v2), (3, .int J165_114v3), (4, .int J165_114v4), (5, .int J165_114v5), (6, .int v6)] → W p l en (rmD 3) s m args below meth c H116 lc117 0 0 (MQ below (QI g h k1 r) args s 0 0 (inA g)) (F0 m 165 ls118 []) := by
          intro J165_114v3 J165_114v4 J165_114v5 kk115 H116 lc117 ls118 hf122 hP119 hS120 hl121
          clear hf127 hP110 hS111 hl104
          subst eJ165_114
          obtain ⟨x123, ex123⟩ : ∃ q : Int32, q = v6 + (1 : Int32) := ⟨_, rfl⟩
          have hf124 := lk_at ex123 hf122
          clear hf122
          refine lv_iinc (v := x123) (lv' := [(6, .int x123), (0, .ref (g.2.2 246)), (1, .int v1), (2, .int v2), (3, .int J165_114v3), (4, .int J165_114v4), (5, .int J165_114v5)]) hx hb dX7_meant_165 hl121 (k := 6) rfl (by rw [ex123]; rfl) (by decide) rfl (fun ls125 hl126 => ?_)
          clear hl121
          refine lv_goto (tgt := 53) hx hb dX7_meant_168 (by decide) ?_
          exact ih J165_114v3 J165_114v4 J165_114v5 x123 kk115  _ _ _ hf124 hP119 hS120 (lv_sub hl126 [1, 2, 3, 4, 5, 6, 0] rfl)
        clear eJ165_114
        refine lv_if_ne (tgt := 165) hx hb dX7_meant_130 (by decide) (fun c128 => ?_) (fun c128 => ?_)
        · have hf129 := if_at_f c128 hf127
          clear hf127
          exact hJ165_114 v3 v4 v5 kk107  _ _ _ hf129 hP110 hS111 (lv_sub hl104 [0, 1, 2, 3, 4, 5, 6] rfl)
        · have hf130 := if_at_t c128 hf127
          clear hf127
          refine lv_iload hx hb dX7_meant_133 (lv_at hl104 7 rfl) ?_
          refine lv_iload_n hx hb dX7_meant_135 rfl (lv_at hl104 1 rfl) ?_
          refine lv_icmp_ne (tgt := 165) hx hb dX7_meant_136 (by decide) (fun c131 => ?_) (fun c131 => ?_)
          · have hf132 := if_at_f c131 hf130
            clear hf130
            exact hJ165_114 v3 v4 v5 kk107  _ _ _ hf132 hP110 hS111 (lv_sub hl104 [0, 1, 2, 3, 4, 5, 6] rfl)
          · have hf133 := if_at_t c131 hf130
            clear hf130
            refine lv_iload_n hx hb dX7_meant_139 rfl (lv_at hl104 3 rfl) ?_
            obtain ⟨J153_134, eJ153_134, hf153⟩ := jp_at hf133
            clear hf133
            have hJ153_134 : ∀ (J153_134s0 : Int32) (kk135 : Hp) (H136 : Heap) (lc137 : List Loc) (ls138 : Array Slot), J153_134 J153_134s0 kk135 = some (r, k1) → va_P g.1 vwCl (WW g h kk135) H136 → va_S (inA g) s.heap H136 lc137 → lv_has ls138 9 [(0, .ref (g.2.2 246)), (1, .int v1), (2, .int v2), (3, .int v3), (5, .int v5), (6, .int v6)] → W p l en (rmD 3) s m args below meth c H136 lc137 0 0 (MQ below (QI g h k1 r) args s 0 0 (inA g)) (F0 m 153 ls138 [.int J153_134s0]) := by
              intro J153_134s0 kk135 H136 lc137 ls138 hf142 hP139 hS140 hl141
              clear hf153 hP110 hS111 hl104
              subst eJ153_134
              refine lv_istore (lv' := [(4, .int J153_134s0), (0, .ref (g.2.2 246)), (1, .int v1), (2, .int v2), (3, .int v3), (5, .int v5), (6, .int v6)]) hx hb dX7_meant_153 hl141 (by decide) rfl (fun ls143 hl144 => ?_)
              clear hl141
              refine lv_iload hx hb dX7_meant_155 (lv_at hl144 5 rfl) ?_
              refine lv_iload hx hb dX7_meant_157 (lv_at hl144 6 rfl) ?_
              refine lv_ior hx hb dX7_meant_159 ?_
              refine lv_topi (fun x145 ex145 => ?_)
              have hf146 := lk_at ex145 hf142
              clear hf142
              refine lv_istore (lv' := [(5, .int x145), (4, .int J153_134s0), (0, .ref (g.2.2 246)), (1, .int v1), (2, .int v2), (3, .int v3), (6, .int v6)]) hx hb dX7_meant_160 hl144 (by decide) rfl (fun ls147 hl148 => ?_)
              clear hl144
              obtain ⟨x149, ex149⟩ : ∃ q : Int32, q = v3 + (1 : Int32) := ⟨_, rfl⟩
              have hf150 := lk_at ex149 hf146
              clear hf146
              refine lv_iinc (v := x149) (lv' := [(3, .int x149), (5, .int x145), (4, .int J153_134s0), (0, .ref (g.2.2 246)), (1, .int v1), (2, .int v2), (6, .int v6)]) hx hb dX7_meant_162 hl148 (k := 5) rfl (by rw [ex149]; rfl) (by decide) rfl (fun ls151 hl152 => ?_)
              clear hl148
              exact hJ165_114 x149 J153_134s0 x145 kk135  _ _ _ hf150 hP139 hS140 (lv_sub hl152 [3, 4, 5, 0, 2, 1, 6] rfl)
            clear eJ153_134
            refine lv_if_ne (tgt := 148) hx hb dX7_meant_140 (by decide) (fun c154 => ?_) (fun c154 => ?_)
            · have hf155 := if_at_f c154 hf153
              clear hf153
              refine lv_iload hx hb dX7_meant_148 (lv_at hl104 4 rfl) ?_
              refine lv_iload hx hb dX7_meant_150 (lv_at hl104 6 rfl) ?_
              refine lv_iand hx hb dX7_meant_152 ?_
              exact hJ153_134 (v4 &&& v6) kk107  _ _ _ hf155 hP110 hS111 (lv_sub hl104 [0, 1, 2, 3, 5, 6] rfl)
            · have hf156 := if_at_t c154 hf153
              clear hf153
              refine lv_iload hx hb dX7_meant_143 (lv_at hl104 6 rfl) ?_
              refine lv_goto (tgt := 153) hx hb dX7_meant_145 (by decide) ?_
              exact hJ153_134 v6 kk107  _ _ _ hf156 hP110 hS111 (lv_sub hl104 [0, 1, 2, 3, 5, 6] rfl)
set_option maxRecDepth 100000 in
set_option maxHeartbeats 4000000 in
theorem tX7_meant (l : Launch) {g : Gx} (hI : InjG g) {h k k1 : Hp} {a1 : Int32} {a2 : Int32} {r : Int32}   (hf : fX7_meant a1 a2 k = some (r, k1)) : CI l yX7_meant cX7_meant 9 (some .int) 3 g [.ref (g.2.2 246), .int a1, .int a2] h k h k1 r := by
  refine Met.ofW (cc := cX7_meant) (maxL := 9) (ret := (some .int)) (by decide) rfl ?_
  intro p en s m args below meth c s₁ B hml hv
  obtain ⟨rfl, hSK, hSH, hP⟩ := hv
  have X : Cx p s m _ c cX7_meant 9 RX7 g := ⟨B.exec, B.bytes, hml, findClass_of_methodNamed B.named, fun w hw => atoms_spec (ws := wsy yX7_meant cX7_meant 9 (some .int)) B.pre w (List.mem_cons_of_mem _ hw), hSK, hI, hSH⟩
  have hr := B.returns
  have hlocks := B.notSynchronized
  have hx := X.1
  have hb := X.2.1
  have hS : va_S (inA g) s.heap s.heap [] := va_S.rf
  clear hSK hSH hml B
  have hl := lv_entry ([.ref (g.2.2 246), .int a1, .int a2]) (n := 9) (Nat.le_of_ble_eq_true rfl)
  rw [lg_entry_eq]
  generalize (lg_sl ([.ref (g.2.2 246), .int a1, .int a2]) ++ List.replicate (9 - (lg_sl ([.ref (g.2.2 246), .int a1, .int a2])).length) Slot.unset).toArray = ls at hl ⊢
  have hl : lv_has ls 9 [(0, .ref (g.2.2 246)), (1, .int a1), (2, .int a2)] := hl
  generalize ([.ref (g.2.2 246), .int a1, .int a2] : List Value).toArray = args at X ⊢
  show W p l en (rmD 3) s m args below meth c s.heap [] 0 0 (MQ below (QI g h k1 r) args s 0 0 (inA g)) (F0 m 0 ls [])
  unfold fX7_meant at hf
  refine lv_aload_n hx hb dX7_meant_0 rfl (lv_at hl 0 rfl) ?_
  refine lv_iconst (v := 0) hx hb dX7_meant_1 (by decide) ?_
  refine pX7 X hP hS 0 (by decide) rfl wd_883 rfl rfl rfl rfl seX7_0 dX7_meant_2 (fun H1 lc2 kk3 ekk3 hP4 hS5 => ?_)
  have hf6 := lk_at ekk3 hf
  clear hf hP hS
  refine lv_aload_n hx hb dX7_meant_5 rfl (lv_at hl 0 rfl) ?_
  obtain ⟨x7, kk8, hg14, hf13⟩ := bd_some hf6
  refine x_ci (x_runV (As := []) (rest := []) X hP4 hS5 246 (by decide) cl_M rfl (tX7_isThere l X.2.2.2.2.2.2.1  hg14) mi_X7_187 rfl hl.1 rfl (Nat.le_of_ble_eq_true rfl) dX7_meant_6 ⟨Nat.le_of_ble_eq_true rfl, Nat.le_of_ble_eq_true rfl⟩ ⟨Nat.zero_le _, Nat.zero_le _⟩) hS5 (fun H9 lc10 hP11 hS12 => ?_)
  clear hf6 hP4 hS5 hg14
  refine lv_if_ne (tgt := 15) hx hb dX7_meant_9 (by decide) (fun c15 => ?_) (fun c15 => ?_)
  · have hf16 := if_at_f c15 hf13
    clear hf13
    refine lv_iload_n hx hb dX7_meant_15 rfl (lv_at hl 1 rfl) ?_
    refine lv_i2l hx hb dX7_meant_16 rfl ?_
    refine lv_lconst (v := 0) hx hb dX7_meant_17 (by decide) ?_
    refine lv_ldc2 (v := 54) hx hb X.2.2.2.1 (X.2.2.2.2.1 _ wd_1210) dX7_meant_18 ?_
    obtain ⟨x17, kk18, hg24, hf23⟩ := bd_some hf16
    refine x_ci (x_runS (As := [.long a1.toInt64, .long (0 : Int64), .long (54 : Int64)]) (rest := []) X hP11 hS12 (tX7_in l X.2.2.2.2.2.2.1  hg24) mi_X7_57 rfl hl.1 rfl (Nat.le_of_ble_eq_true rfl) dX7_meant_21 ⟨Nat.le_of_ble_eq_true rfl, Nat.le_of_ble_eq_true rfl⟩ ⟨Nat.zero_le _, Nat.zero_le _⟩) hS12 (fun H19 lc20 hP21 hS22 => ?_)
    clear hf16 hP11 hS12 hg24
    refine lv_if_eq (tgt := 39) hx hb dX7_meant_24 (by decide) (fun c25 => ?_) (fun c25 => ?_)
    · have hf26 := if_at_t c25 hf23
      clear hf23
      refine lv_ldc (v := -1000001) hx hb X.2.2.2.1 (X.2.2.2.2.1 _ wd_969) dX7_meant_39 ?_
      obtain ⟨rfl, rfl⟩ := ret_inj hf26
      exact x_iret X hr hlocks hP21 hS22 dX7_meant_41
    · have hf27 := if_at_f c25 hf23
      clear hf23
      refine lv_iload_n hx hb dX7_meant_27 rfl (lv_at hl 2 rfl) ?_
      refine lv_i2l hx hb dX7_meant_28 rfl ?_
      refine lv_lconst (v := 0) hx hb dX7_meant_29 (by decide) ?_
      refine lv_ldc2 (v := 2) hx hb X.2.2.2.1 (X.2.2.2.2.1 _ wd_968) dX7_meant_30 ?_
      obtain ⟨x28, kk29, hg35, hf34⟩ := bd_some hf27
      refine x_ci (x_runS (As := [.long a2.toInt64, .long (0 : Int64), .long (2 : Int64)]) (rest := []) X hP21 hS22 (tX7_in l X.2.2.2.2.2.2.1  hg35) mi_X7_57 rfl hl.1 rfl (Nat.le_of_ble_eq_true rfl) dX7_meant_33 ⟨Nat.le_of_ble_eq_true rfl, Nat.le_of_ble_eq_true rfl⟩ ⟨Nat.zero_le _, Nat.zero_le _⟩) hS22 (fun H30 lc31 hP32 hS33 => ?_)
      clear hf27 hP21 hS22 hg35
      refine lv_if_ne (tgt := 42) hx hb dX7_meant_36 (by decide) (fun c36 => ?_) (fun c36 => ?_)
      · have hf37 := if_at_f c36 hf34
        clear hf34
        refine lv_iconst (v := 0) hx hb dX7_meant_42 (by decide) ?_
        refine lv_istore_n (lv' := [(3, .int (0 : Int32)), (0, .ref (g.2.2 246)), (1, .int a1), (2, .int a2)]) hx hb dX7_meant_43 rfl hl (by decide) rfl (fun ls38 hl39 => ?_)
        clear hl
        refine lv_iconst (v := 0) hx hb dX7_meant_44 (by decide) ?_
        refine lv_istore (lv' := [(4, .int (0 : Int32)), (3, .int (0 : Int32)), (0, .ref (g.2.2 246)), (1, .int a1), (2, .int a2)]) hx hb dX7_meant_45 hl39 (by decide) rfl (fun ls40 hl41 => ?_)
        clear hl39
        refine lv_iconst (v := 0) hx hb dX7_meant_47 (by decide) ?_
        refine lv_istore (lv' := [(5, .int (0 : Int32)), (4, .int (0 : Int32)), (3, .int (0 : Int32)), (0, .ref (g.2.2 246)), (1, .int a1), (2, .int a2)]) hx hb dX7_meant_48 hl41 (by decide) rfl (fun ls42 hl43 => ?_)
        clear hl41
        refine lv_iconst (v := 0) hx hb dX7_meant_50 (by decide) ?_
        refine lv_istore (lv' := [(6, .int (0 : Int32)), (5, .int (0 : Int32)), (4, .int (0 : Int32)), (3, .int (0 : Int32)), (0, .ref (g.2.2 246)), (1, .int a1), (2, .int a2)]) hx hb dX7_meant_51 hl43 (by decide) rfl (fun ls44 hl45 => ?_)
        clear hl43
        refine wX7_meant_L53 X hr hlocks  ?_ 4096 (0 : Int32) (0 : Int32) (0 : Int32) (0 : Int32) kk29 _ _ _  hf37 hP32 hS33 (lv_sub hl45 [4, 5, 6, 3, 2, 1, 0] rfl)
        · intro x157 x158 x159 kk160 H161 lc162 ls163  hf167 hP164 hS165 hl166
          refine lv_iload_n hx hb dX7_meant_171 rfl (lv_at hl166 0 rfl) ?_
          refine lv_if_ne (tgt := 179) hx hb dX7_meant_172 (by decide) (fun c168 => ?_) (fun c168 => ?_)
          · have hf169 := if_at_f c168 hf167
            clear hf167
            refine lv_iload_n hx hb dX7_meant_179 rfl (lv_at hl166 0 rfl) ?_
            refine lv_iconst (v := 1) hx hb dX7_meant_180 (by decide) ?_
            refine lv_icmp_ne (tgt := 189) hx hb dX7_meant_181 (by decide) (fun c170 => ?_) (fun c170 => ?_)
            · have hf171 := if_at_f c170 hf169
              clear hf169
              refine lv_iload hx hb dX7_meant_189 (lv_at hl166 3 rfl) ?_
              obtain ⟨rfl, rfl⟩ := ret_inj hf171
              exact x_iret X hr hlocks hP164 hS165 dX7_meant_191
            · have hf172 := if_at_t c170 hf169
              clear hf169
              refine lv_iload hx hb dX7_meant_184 (lv_at hl166 2 rfl) ?_
              refine lv_goto (tgt := 191) hx hb dX7_meant_186 (by decide) ?_
              obtain ⟨rfl, rfl⟩ := ret_inj hf172
              exact x_iret X hr hlocks hP164 hS165 dX7_meant_191
          · have hf173 := if_at_t c168 hf167
            clear hf167
            refine lv_iload_n hx hb dX7_meant_175 rfl (lv_at hl166 1 rfl) ?_
            refine lv_goto (tgt := 191) hx hb dX7_meant_176 (by decide) ?_
            obtain ⟨rfl, rfl⟩ := ret_inj hf173
            exact x_iret X hr hlocks hP164 hS165 dX7_meant_191
      · have hf174 := if_at_t c36 hf34
        clear hf34
        refine lv_ldc (v := -1000001) hx hb X.2.2.2.1 (X.2.2.2.2.1 _ wd_969) dX7_meant_39 ?_
        obtain ⟨rfl, rfl⟩ := ret_inj hf174
        exact x_iret X hr hlocks hP32 hS33 dX7_meant_41
  · have hf175 := if_at_t c15 hf13
    clear hf13
    refine lv_ldc (v := -1000002) hx hb X.2.2.2.1 (X.2.2.2.2.1 _ wd_1062) dX7_meant_12 ?_
    obtain ⟨rfl, rfl⟩ := ret_inj hf175
    exact x_iret X hr hlocks hP11 hS12 dX7_meant_14
set_option maxRecDepth 100000 in
set_option maxHeartbeats 4000000 in
theorem tX7_pailsOf (l : Launch) {g : Gx} (hI : InjG g) {h k k1 : Hp} {a1 : Int32} {r : Int32}   (hf : fX7_pailsOf a1 k = some (r, k1)) : CI l yX7_pailsOf cX7_pailsOf 2 (some .int) 2 g [.ref (g.2.2 246), .int a1] h k h k1 r := by
  refine Met.ofW (cc := cX7_pailsOf) (maxL := 2) (ret := (some .int)) (by decide) rfl ?_
  intro p en s m args below meth c s₁ B hml hv
  obtain ⟨rfl, hSK, hSH, hP⟩ := hv
  have X : Cx p s m _ c cX7_pailsOf 2 RX7 g := ⟨B.exec, B.bytes, hml, findClass_of_methodNamed B.named, fun w hw => atoms_spec (ws := wsy yX7_pailsOf cX7_pailsOf 2 (some .int)) B.pre w (List.mem_cons_of_mem _ hw), hSK, hI, hSH⟩
  have hr := B.returns
  have hlocks := B.notSynchronized
  have hx := X.1
  have hb := X.2.1
  have hS : va_S (inA g) s.heap s.heap [] := va_S.rf
  clear hSK hSH hml B
  have hl := lv_entry ([.ref (g.2.2 246), .int a1]) (n := 2) (Nat.le_of_ble_eq_true rfl)
  rw [lg_entry_eq]
  generalize (lg_sl ([.ref (g.2.2 246), .int a1]) ++ List.replicate (2 - (lg_sl ([.ref (g.2.2 246), .int a1])).length) Slot.unset).toArray = ls at hl ⊢
  have hl : lv_has ls 2 [(0, .ref (g.2.2 246)), (1, .int a1)] := hl
  generalize ([.ref (g.2.2 246), .int a1] : List Value).toArray = args at X ⊢
  show W p l en (rmD 2) s m args below meth c s.heap [] 0 0 (MQ below (QI g h k1 r) args s 0 0 (inA g)) (F0 m 0 ls [])
  unfold fX7_pailsOf at hf
  refine lv_aload_n hx hb dX7_pailsOf_0 rfl (lv_at hl 0 rfl) ?_
  refine gX7 X hP 5 (v := .ref (g.2.2 250)) rfl (by decide) rfl wd_888 dX7_pailsOf_1 ?_
  refine lv_iload_n hx hb dX7_pailsOf_4 rfl (lv_at hl 1 rfl) ?_
  obtain ⟨x1, kk2, hg8, hf7⟩ := bd_some hf
  refine x_ci (x_runS (As := [.ref (g.2.2 250), .int a1]) (rest := []) X hP hS (tX7_isIn l X.2.2.2.2.2.2.1 (rfl : isMA 250 = true) hg8) mi_X7_156 rfl hl.1 rfl (Nat.le_of_ble_eq_true rfl) dX7_pailsOf_5 ⟨Nat.le_of_ble_eq_true rfl, Nat.le_of_ble_eq_true rfl⟩ ⟨Nat.zero_le _, Nat.zero_le _⟩) hS (fun H3 lc4 hP5 hS6 => ?_)
  clear hf hP hS hg8
  refine lv_if_eq (tgt := 33) hx hb dX7_pailsOf_8 (by decide) (fun c9 => ?_) (fun c9 => ?_)
  · have hf10 := if_at_t c9 hf7
    clear hf7
    refine lv_iconst (v := 0) hx hb dX7_pailsOf_33 (by decide) ?_
    obtain ⟨rfl, rfl⟩ := ret_inj hf10
    exact x_iret X hr hlocks hP5 hS6 dX7_pailsOf_34
  · have hf11 := if_at_f c9 hf7
    clear hf7
    refine lv_aload_n hx hb dX7_pailsOf_11 rfl (lv_at hl 0 rfl) ?_
    refine gX7 X hP5 5 (v := .ref (g.2.2 250)) rfl (by decide) rfl wd_888 dX7_pailsOf_12 ?_
    refine lv_iload_n hx hb dX7_pailsOf_15 rfl (lv_at hl 1 rfl) ?_
    refine lv_iconst (v := 2) hx hb dX7_pailsOf_16 (by decide) ?_
    obtain ⟨x12, kk13, hg19, hf18⟩ := bd_some hf11
    refine x_ci (x_runS (As := [.ref (g.2.2 250), .int a1, .int (2 : Int32)]) (rest := []) X hP5 hS6 (tX7_of l X.2.2.2.2.2.2.1 (rfl : isMA 250 = true) hg19) mi_X7_152 rfl hl.1 rfl (Nat.le_of_ble_eq_true rfl) dX7_pailsOf_17 ⟨Nat.le_of_ble_eq_true rfl, Nat.le_of_ble_eq_true rfl⟩ ⟨Nat.zero_le _, Nat.zero_le _⟩) hS6 (fun H14 lc15 hP16 hS17 => ?_)
    clear hf11 hP5 hS6 hg19
    refine lv_aload_n hx hb dX7_pailsOf_20 rfl (lv_at hl 0 rfl) ?_
    refine gX7 X hP16 5 (v := .ref (g.2.2 250)) rfl (by decide) rfl wd_888 dX7_pailsOf_21 ?_
    refine lv_iload_n hx hb dX7_pailsOf_24 rfl (lv_at hl 1 rfl) ?_
    refine lv_iconst (v := 3) hx hb dX7_pailsOf_25 (by decide) ?_
    obtain ⟨x20, kk21, hg27, hf26⟩ := bd_some hf18
    refine x_ci (x_runS (As := [.ref (g.2.2 250), .int a1, .int (3 : Int32)]) (rest := [.int x12]) X hP16 hS17 (tX7_of l X.2.2.2.2.2.2.1 (rfl : isMA 250 = true) hg27) mi_X7_152 rfl hl.1 rfl (Nat.le_of_ble_eq_true rfl) dX7_pailsOf_26 ⟨Nat.le_of_ble_eq_true rfl, Nat.le_of_ble_eq_true rfl⟩ ⟨Nat.zero_le _, Nat.zero_le _⟩) hS17 (fun H22 lc23 hP24 hS25 => ?_)
    clear hf18 hP16 hS17 hg27
    refine lv_imul hx hb dX7_pailsOf_29 ?_
    refine lv_goto (tgt := 34) hx hb dX7_pailsOf_30 (by decide) ?_
    obtain ⟨rfl, rfl⟩ := ret_inj hf26
    exact x_iret X hr hlocks hP24 hS25 dX7_pailsOf_34
set_option maxRecDepth 100000 in
set_option maxHeartbeats 4000000 in
theorem wX7_share_L43 {p : Program} {l : Launch} {en : Env} {s : State} {m : MethodId} {args : Array Value} {below : List Frame} {meth : Method} {c : Code} {g : Gx} (X : Cx p s m args c cX7_share 7 RX7 g) (hr : meth.sig.returnType = (some .int)) (hlocks : meth.locks = false) {h k1 : Hp} {r : Int32} {v1 : Int32} {v2 : Int32}  {K69 : Int32 → Hp → Option (Int32 × Hp)}
    (hK69 : ∀ (v3 : Int32) (k : Hp) (H : Heap) (locs : List Loc) (ls : Array Slot), K69 v3 k = some (r, k1) → va_P g.1 vwCl (WW g h k) H → va_S (inA g) s.heap H locs → lv_has ls 7 [(0, .ref (g.2.2 246)), (1, .int v1), (2, .int v2), (3, .int v3)] → W p l en (rmD 3) s m args below meth c H locs 0 0 (MQ below (QI g h k1 r) args s 0 0 (inA g)) (F0 m 69 ls [])) :
    ∀ (n : Nat) (v3 : Int32) (v4 : Int32) (k : Hp) (H : Heap) (locs : List Loc) (ls : Array Slot), fX7_share_L43 K69 n v1 v2 v3 v4 k = some (r, k1) → va_P g.1 vwCl (WW g h k) H → va_S (inA g) s.heap H locs → lv_has ls 7 [(0, .ref (g.2.2 246)), (1, .int v1), (2, .int v2), (3, .int v3), (4, .int v4)] → W p l en (rmD 3) s m args below meth c H locs 0 0 (MQ below (QI g h k1 r) args s 0 0 (inA g)) (F0 m 43 ls []) := by
  have hx := X.1
  have hb := X.2.1
  intro n
  induction n with
  | zero => intro v3 v4 k H locs ls  hf; simp only [fX7_share_L43, reduceCtorEq] at hf
  | succ n ih =>
    intro v3 v4 k H locs ls  hf hP hS hl
    rw [fX7_share_L43] at hf
    refine lv_iload hx hb dX7_share_43 (lv_at hl 4 rfl) ?_
    refine lv_aload_n hx hb dX7_share_45 rfl (lv_at hl 0 rfl) ?_
    refine gX7 X hP 5 (v := .ref (g.2.2 250)) rfl (by decide) rfl wd_888 dX7_share_46 ?_
    refine lv_iconst (v := 0) hx hb dX7_share_49 (by decide) ?_
    obtain ⟨hc42, hf43⟩ := chk_some hf
    refine x_ildM X hP 250 rfl hc42 dX7_share_50 ?_
    refine lv_icmp_ge (tgt := 69) hx hb dX7_share_51 (by decide) (fun c44 => ?_) (fun c44 => ?_)
    · have hf45 := if_at_t c44 hf43
      clear hf43
      exact hK69 v3 k  _ _ _ hf45 hP hS (lv_sub hl [0, 1, 2, 3] rfl)
    · have hf46 := if_at_f c44 hf43
      clear hf43
      refine lv_iload_n hx hb dX7_share_54 rfl (lv_at hl 3 rfl) ?_
      refine lv_aload_n hx hb dX7_share_55 rfl (lv_at hl 0 rfl) ?_
      refine lv_iload hx hb dX7_share_56 (lv_at hl 4 rfl) ?_
      obtain ⟨x47, kk48, hg54, hf53⟩ := bd_some hf46
      refine x_ci (x_runV (As := [.int v4]) (rest := [.int v3]) X hP hS 246 (by decide) cl_M rfl (tX7_pailsOf l X.2.2.2.2.2.2.1  hg54) mi_X7_249 rfl hl.1 rfl (Nat.le_of_ble_eq_true rfl) dX7_share_58 ⟨Nat.le_of_ble_eq_true rfl, Nat.le_of_ble_eq_true rfl⟩ ⟨Nat.zero_le _, Nat.zero_le _⟩) hS (fun H49 lc50 hP51 hS52 => ?_)
      clear hf46 hP hS hg54
      refine lv_iadd hx hb dX7_share_61 ?_
      refine lv_topi (fun x55 ex55 => ?_)
      have hf56 := lk_at ex55 hf53
      clear hf53
      refine lv_istore_n (lv' := [(3, .int x55), (0, .ref (g.2.2 246)), (1, .int v1), (2, .int v2), (4, .int v4)]) hx hb dX7_share_62 rfl hl (by decide) rfl (fun ls57 hl58 => ?_)
      clear hl
      obtain ⟨x59, ex59⟩ : ∃ q : Int32, q = v4 + (1 : Int32) := ⟨_, rfl⟩
      have hf60 := lk_at ex59 hf56
      clear hf56
      refine lv_iinc (v := x59) (lv' := [(4, .int x59), (3, .int x55), (0, .ref (g.2.2 246)), (1, .int v1), (2, .int v2)]) hx hb dX7_share_63 hl58 (k := 4) rfl (by rw [ex59]; rfl) (by decide) rfl (fun ls61 hl62 => ?_)
      clear hl58
      refine lv_goto (tgt := 43) hx hb dX7_share_66 (by decide) ?_
      exact ih x55 x59 kk48  _ _ _ hf60 hP51 hS52 (lv_sub hl62 [2, 3, 4, 1, 0] rfl)
set_option maxRecDepth 100000 in
set_option maxHeartbeats 4000000 in
theorem wX7_share_L78 {p : Program} {l : Launch} {en : Env} {s : State} {m : MethodId} {args : Array Value} {below : List Frame} {meth : Method} {c : Code} {g : Gx} (X : Cx p s m args c cX7_share 7 RX7 g) (hr : meth.sig.returnType = (some .int)) (hlocks : meth.locks = false) {h k1 : Hp} {r : Int32} {v1 : Int32} {v2 : Int32} {v3 : Int32}  {K135 : Int32 → Int32 → Hp → Option (Int32 × Hp)}
    (hK135 : ∀ (v4 : Int32) (v5 : Int32) (k : Hp) (H : Heap) (locs : List Loc) (ls : Array Slot), K135 v4 v5 k = some (r, k1) → va_P g.1 vwCl (WW g h k) H → va_S (inA g) s.heap H locs → lv_has ls 7 [(0, .ref (g.2.2 246)), (1, .int v1), (2, .int v2), (3, .int v3), (4, .int v4), (5, .int v5)] → W p l en (rmD 3) s m args below meth c H locs 0 0 (MQ below (QI g h k1 r) args s 0 0 (inA g)) (F0 m 135 ls [])) :
    ∀ (n : Nat) (v4 : Int32) (v5 : Int32) (v6 : Int32) (k : Hp) (H : Heap) (locs : List Loc) (ls : Array Slot), fX7_share_L78 K135 n v1 v2 v3 v4 v5 v6 k = some (r, k1) → va_P g.1 vwCl (WW g h k) H → va_S (inA g) s.heap H locs → lv_has ls 7 [(0, .ref (g.2.2 246)), (1, .int v1), (2, .int v2), (3, .int v3), (4, .int v4), (5, .int v5), (6, .int v6)] → W p l en (rmD 3) s m args below meth c H locs 0 0 (MQ below (QI g h k1 r) args s 0 0 (inA g)) (F0 m 78 ls []) := by
  have hx := X.1
  have hb := X.2.1
  intro n
  induction n with
  | zero => intro v4 v5 v6 k H locs ls  hf; simp only [fX7_share_L78, reduceCtorEq] at hf
  | succ n ih =>
    intro v4 v5 v6 k H locs ls  hf hP hS hl
    rw [fX7_share_L78] at hf
    refine lv_iload hx hb dX7_share_78 (lv_at hl 6 rfl) ?_
    refine lv_aload_n hx hb dX7_share_80 rfl (lv_at hl 0 rfl) ?_
    refine gX7 X hP 5 (v := .ref (g.2.2 250)) rfl (by decide) rfl wd_888 dX7_share_81 ?_
    refine lv_iconst (v := 0) hx hb dX7_share_84 (by decide) ?_
    obtain ⟨hc78, hf79⟩ := chk_some hf
    refine x_ildM X hP 250 rfl hc78 dX7_share_85 ?_
    refine lv_icmp_ge (tgt := 135) hx hb dX7_share_86 (by decide) (fun c80 => ?_) (fun c80 => ?_)
    · have hf81 := if_at_t c80 hf79
      clear hf79
      exact hK135 v4 v5 k  _ _ _ hf81 hP hS (lv_sub hl [0, 1, 2, 3, 4, 5] rfl)
    · have hf82 := if_at_f c80 hf79
      clear hf79
      refine lv_iload hx hb dX7_share_89 (lv_at hl 4 rfl) ?_
      refine lv_iload_n hx hb dX7_share_91 rfl (lv_at hl 2 rfl) ?_
      refine lv_aload_n hx hb dX7_share_92 rfl (lv_at hl 0 rfl) ?_
      refine lv_iload hx hb dX7_share_93 (lv_at hl 6 rfl) ?_
      obtain ⟨x83, kk84, hg90, hf89⟩ := bd_some hf82
      refine x_ci (x_runV (As := [.int v6]) (rest := [.int v2, .int v4]) X hP hS 246 (by decide) cl_M rfl (tX7_pailsOf l X.2.2.2.2.2.2.1  hg90) mi_X7_249 rfl hl.1 rfl (Nat.le_of_ble_eq_true rfl) dX7_share_95 ⟨Nat.le_of_ble_eq_true rfl, Nat.le_of_ble_eq_true rfl⟩ ⟨Nat.zero_le _, Nat.zero_le _⟩) hS (fun H85 lc86 hP87 hS88 => ?_)
      clear hf82 hP hS hg90
      refine lv_imul hx hb dX7_share_98 ?_
      refine lv_iload_n hx hb dX7_share_99 rfl (lv_at hl 3 rfl) ?_
      obtain ⟨hc91, hf92⟩ := chk_some hf89
      refine lv_idiv hx hb dX7_share_100 (nz_in hc91) ?_
      refine lv_isub hx hb dX7_share_101 ?_
      refine lv_topi (fun x93 ex93 => ?_)
      have hf94 := lk_at ex93 hf92
      clear hf92
      refine lv_istore (lv' := [(4, .int x93), (0, .ref (g.2.2 246)), (1, .int v1), (2, .int v2), (3, .int v3), (5, .int v5), (6, .int v6)]) hx hb dX7_share_102 hl (by decide) rfl (fun ls95 hl96 => ?_)
      clear hl
      refine lv_iload hx hb dX7_share_104 (lv_at hl96 5 rfl) ?_
      refine lv_iload hx hb dX7_share_106 (lv_at hl96 6 rfl) ?_
      refine lv_iload_n hx hb dX7_share_108 rfl (lv_at hl96 2 rfl) ?_
      obtain ⟨J126_97, eJ126_97, hf114⟩ := jp_at hf94
      clear hf94
      have hJ126_97 : ∀ (J126_97s0 : Int32) (kk98 : Hp) (H99 : Heap) (lc100 : List Loc) (ls101 : Array Slot), J126_97 J126_97s0 kk98 = some (r, k1) → va_P g.1 vwCl (WW g h kk98) H99 → va_S (inA g) s.heap H99 lc100 → lv_has ls101 7 [(0, .ref (g.2.2 246)), (1, .int v1), (2, .int v2), (3, .int v3), (4, .int x93), (6, .int v6)] → W p l en (rmD 3) s m args below meth c H99 lc100 0 0 (MQ below (QI g h k1 r) args s 0 0 (inA g)) (F0 m 126 ls101 [.int J126_97s0, .int v5]) := by
        intro J126_97s0 kk98 H99 lc100 ls101 hf105 hP102 hS103 hl104
        clear hf114 hP87 hS88 hl96
        subst eJ126_97
        refine lv_iadd hx hb dX7_share_126 ?_
        refine lv_topi (fun x106 ex106 => ?_)
        have hf107 := lk_at ex106 hf105
        clear hf105
        refine lv_istore (lv' := [(5, .int x106), (0, .ref (g.2.2 246)), (1, .int v1), (2, .int v2), (3, .int v3), (4, .int x93), (6, .int v6)]) hx hb dX7_share_127 hl104 (by decide) rfl (fun ls108 hl109 => ?_)
        clear hl104
        obtain ⟨x110, ex110⟩ : ∃ q : Int32, q = v6 + (1 : Int32) := ⟨_, rfl⟩
        have hf111 := lk_at ex110 hf107
        clear hf107
        refine lv_iinc (v := x110) (lv' := [(6, .int x110), (5, .int x106), (0, .ref (g.2.2 246)), (1, .int v1), (2, .int v2), (3, .int v3), (4, .int x93)]) hx hb dX7_share_129 hl109 (k := 6) rfl (by rw [ex110]; rfl) (by decide) rfl (fun ls112 hl113 => ?_)
        clear hl109
        refine lv_goto (tgt := 78) hx hb dX7_share_132 (by decide) ?_
        exact ih x93 x106 x110 kk98  _ _ _ hf111 hP102 hS103 (lv_sub hl113 [2, 3, 4, 5, 6, 1, 0] rfl)
      clear eJ126_97
      obtain ⟨J125_115, eJ125_115, hf124⟩ := jp_at hf114
      clear hf114
      have hJ125_115 : ∀  (kk116 : Hp) (H117 : Heap) (lc118 : List Loc) (ls119 : Array Slot), J125_115  kk116 = some (r, k1) → va_P g.1 vwCl (WW g h kk116) H117 → va_S (inA g) s.heap H117 lc118 → lv_has ls119 7 [(0, .ref (g.2.2 246)), (1, .int v1), (2, .int v2), (3, .int v3), (4, .int x93), (6, .int v6)] → W p l en (rmD 3) s m args below meth c H117 lc118 0 0 (MQ below (QI g h k1 r) args s 0 0 (inA g)) (F0 m 125 ls119 [.int v5]) := by
        intro  kk116 H117 lc118 ls119 hf123 hP120 hS121 hl122
        clear hf124 hP87 hS88 hl96
        subst eJ125_115
        refine lv_iconst (v := 0) hx hb dX7_share_125 (by decide) ?_
        exact hJ126_97 (0 : Int32) kk116  _ _ _ hf123 hP120 hS121 (lv_sub hl122 [0, 1, 2, 3, 4, 5] rfl)
      clear eJ125_115
      refine lv_icmp_ge (tgt := 125) hx hb dX7_share_109 (by decide) (fun c125 => ?_) (fun c125 => ?_)
      · have hf126 := if_at_t c125 hf124
        clear hf124
        exact hJ125_115 kk84  _ _ _ hf126 hP87 hS88 (lv_sub hl96 [1, 2, 3, 4, 0, 6] rfl)
      · have hf127 := if_at_f c125 hf124
        clear hf124
        refine lv_aload_n hx hb dX7_share_112 rfl (lv_at hl96 1 rfl) ?_
        refine lv_iload hx hb dX7_share_113 (lv_at hl96 6 rfl) ?_
        obtain ⟨x128, kk129, hg135, hf134⟩ := bd_some hf127
        refine x_ci (x_runV (As := [.int v6]) (rest := [.int v5]) X hP87 hS88 246 (by decide) cl_M rfl (tX7_pailsOf l X.2.2.2.2.2.2.1  hg135) mi_X7_249 rfl hl96.1 rfl (Nat.le_of_ble_eq_true rfl) dX7_share_115 ⟨Nat.le_of_ble_eq_true rfl, Nat.le_of_ble_eq_true rfl⟩ ⟨Nat.zero_le _, Nat.zero_le _⟩) hS88 (fun H130 lc131 hP132 hS133 => ?_)
        clear hf127 hP87 hS88 hg135
        refine lv_if_le (tgt := 125) hx hb dX7_share_118 (by decide) (fun c136 => ?_) (fun c136 => ?_)
        · have hf137 := if_at_t c136 hf134
          clear hf134
          exact hJ125_115 kk129  _ _ _ hf137 hP132 hS133 (lv_sub hl96 [1, 2, 3, 4, 0, 6] rfl)
        · have hf138 := if_at_f c136 hf134
          clear hf134
          refine lv_iconst (v := 1) hx hb dX7_share_121 (by decide) ?_
          refine lv_goto (tgt := 126) hx hb dX7_share_122 (by decide) ?_
          exact hJ126_97 (1 : Int32) kk129  _ _ _ hf138 hP132 hS133 (lv_sub hl96 [1, 2, 3, 4, 0, 6] rfl)
set_option maxRecDepth 100000 in
set_option maxHeartbeats 4000000 in
theorem tX7_share (l : Launch) {g : Gx} (hI : InjG g) {h k k1 : Hp} {a1 : Int32} {a2 : Int32} {r : Int32}   (hf : fX7_share a1 a2 k = some (r, k1)) : CI l yX7_share cX7_share 7 (some .int) 3 g [.ref (g.2.2 246), .int a1, .int a2] h k h k1 r := by
  refine Met.ofW (cc := cX7_share) (maxL := 7) (ret := (some .int)) (by decide) rfl ?_
  intro p en s m args below meth c s₁ B hml hv
  obtain ⟨rfl, hSK, hSH, hP⟩ := hv
  have X : Cx p s m _ c cX7_share 7 RX7 g := ⟨B.exec, B.bytes, hml, findClass_of_methodNamed B.named, fun w hw => atoms_spec (ws := wsy yX7_share cX7_share 7 (some .int)) B.pre w (List.mem_cons_of_mem _ hw), hSK, hI, hSH⟩
  have hr := B.returns
  have hlocks := B.notSynchronized
  have hx := X.1
  have hb := X.2.1
  have hS : va_S (inA g) s.heap s.heap [] := va_S.rf
  clear hSK hSH hml B
  have hl := lv_entry ([.ref (g.2.2 246), .int a1, .int a2]) (n := 7) (Nat.le_of_ble_eq_true rfl)
  rw [lg_entry_eq]
  generalize (lg_sl ([.ref (g.2.2 246), .int a1, .int a2]) ++ List.replicate (7 - (lg_sl ([.ref (g.2.2 246), .int a1, .int a2])).length) Slot.unset).toArray = ls at hl ⊢
  have hl : lv_has ls 7 [(0, .ref (g.2.2 246)), (1, .int a1), (2, .int a2)] := hl
  generalize ([.ref (g.2.2 246), .int a1, .int a2] : List Value).toArray = args at X ⊢
  show W p l en (rmD 3) s m args below meth c s.heap [] 0 0 (MQ below (QI g h k1 r) args s 0 0 (inA g)) (F0 m 0 ls [])
  unfold fX7_share at hf
  refine lv_aload_n hx hb dX7_share_0 rfl (lv_at hl 0 rfl) ?_
  refine lv_iconst (v := 0) hx hb dX7_share_1 (by decide) ?_
  refine pX7 X hP hS 0 (by decide) rfl wd_883 rfl rfl rfl rfl seX7_0 dX7_share_2 (fun H1 lc2 kk3 ekk3 hP4 hS5 => ?_)
  have hf6 := lk_at ekk3 hf
  clear hf hP hS
  refine lv_aload_n hx hb dX7_share_5 rfl (lv_at hl 0 rfl) ?_
  refine lv_iload_n hx hb dX7_share_6 rfl (lv_at hl 1 rfl) ?_
  obtain ⟨x7, kk8, hg14, hf13⟩ := bd_some hf6
  refine x_ci (x_runV (As := [.int a1]) (rest := []) X hP4 hS5 246 (by decide) cl_M rfl (tX7_isSheet l X.2.2.2.2.2.2.1  hg14) mi_X7_212 rfl hl.1 rfl (Nat.le_of_ble_eq_true rfl) dX7_share_7 ⟨Nat.le_of_ble_eq_true rfl, Nat.le_of_ble_eq_true rfl⟩ ⟨Nat.zero_le _, Nat.zero_le _⟩) hS5 (fun H9 lc10 hP11 hS12 => ?_)
  clear hf6 hP4 hS5 hg14
  refine lv_if_eq (tgt := 25) hx hb dX7_share_10 (by decide) (fun c15 => ?_) (fun c15 => ?_)
  · have hf16 := if_at_t c15 hf13
    clear hf13
    refine lv_ldc (v := -1000001) hx hb X.2.2.2.1 (X.2.2.2.2.1 _ wd_969) dX7_share_25 ?_
    obtain ⟨rfl, rfl⟩ := ret_inj hf16
    exact x_iret X hr hlocks hP11 hS12 dX7_share_27
  · have hf17 := if_at_f c15 hf13
    clear hf13
    refine lv_iload_n hx hb dX7_share_13 rfl (lv_at hl 2 rfl) ?_
    refine lv_i2l hx hb dX7_share_14 rfl ?_
    refine lv_lconst (v := 0) hx hb dX7_share_15 (by decide) ?_
    refine lv_ldc2 (v := 999) hx hb X.2.2.2.1 (X.2.2.2.2.1 _ wd_1215) dX7_share_16 ?_
    obtain ⟨x18, kk19, hg25, hf24⟩ := bd_some hf17
    refine x_ci (x_runS (As := [.long a2.toInt64, .long (0 : Int64), .long (999 : Int64)]) (rest := []) X hP11 hS12 (tX7_in l X.2.2.2.2.2.2.1  hg25) mi_X7_57 rfl hl.1 rfl (Nat.le_of_ble_eq_true rfl) dX7_share_19 ⟨Nat.le_of_ble_eq_true rfl, Nat.le_of_ble_eq_true rfl⟩ ⟨Nat.zero_le _, Nat.zero_le _⟩) hS12 (fun H20 lc21 hP22 hS23 => ?_)
    clear hf17 hP11 hS12 hg25
    refine lv_if_ne (tgt := 28) hx hb dX7_share_22 (by decide) (fun c26 => ?_) (fun c26 => ?_)
    · have hf27 := if_at_f c26 hf24
      clear hf24
      refine lv_aload_n hx hb dX7_share_28 rfl (lv_at hl 0 rfl) ?_
      refine lv_iload_n hx hb dX7_share_29 rfl (lv_at hl 1 rfl) ?_
      obtain ⟨x28, kk29, hg35, hf34⟩ := bd_some hf27
      refine x_ci (x_runV (As := [.int a1]) (rest := []) X hP22 hS23 246 (by decide) cl_M rfl (tX7_pailsOf l X.2.2.2.2.2.2.1  hg35) mi_X7_249 rfl hl.1 rfl (Nat.le_of_ble_eq_true rfl) dX7_share_30 ⟨Nat.le_of_ble_eq_true rfl, Nat.le_of_ble_eq_true rfl⟩ ⟨Nat.zero_le _, Nat.zero_le _⟩) hS23 (fun H30 lc31 hP32 hS33 => ?_)
      clear hf27 hP22 hS23 hg35
      refine lv_if_ne (tgt := 38) hx hb dX7_share_33 (by decide) (fun c36 => ?_) (fun c36 => ?_)
      · have hf37 := if_at_f c36 hf34
        clear hf34
        refine lv_iconst (v := 0) hx hb dX7_share_38 (by decide) ?_
        refine lv_istore_n (lv' := [(3, .int (0 : Int32)), (0, .ref (g.2.2 246)), (1, .int a1), (2, .int a2)]) hx hb dX7_share_39 rfl hl (by decide) rfl (fun ls38 hl39 => ?_)
        clear hl
        refine lv_iconst (v := 0) hx hb dX7_share_40 (by decide) ?_
        refine lv_istore (lv' := [(4, .int (0 : Int32)), (3, .int (0 : Int32)), (0, .ref (g.2.2 246)), (1, .int a1), (2, .int a2)]) hx hb dX7_share_41 hl39 (by decide) rfl (fun ls40 hl41 => ?_)
        clear hl39
        refine wX7_share_L43 X hr hlocks  ?_ 4096 (0 : Int32) (0 : Int32) kk29 _ _ _  hf37 hP32 hS33 (lv_sub hl41 [2, 3, 4, 1, 0] rfl)
        · intro x63 kk64 H65 lc66 ls67  hf71 hP68 hS69 hl70
          refine lv_iload_n hx hb dX7_share_69 rfl (lv_at hl70 2 rfl) ?_
          refine lv_istore (lv' := [(4, .int a2), (0, .ref (g.2.2 246)), (1, .int a1), (2, .int a2), (3, .int x63)]) hx hb dX7_share_70 hl70 (by decide) rfl (fun ls72 hl73 => ?_)
          clear hl70
          refine lv_iconst (v := 0) hx hb dX7_share_72 (by decide) ?_
          refine lv_istore (lv' := [(5, .int (0 : Int32)), (4, .int a2), (0, .ref (g.2.2 246)), (1, .int a1), (2, .int a2), (3, .int x63)]) hx hb dX7_share_73 hl73 (by decide) rfl (fun ls74 hl75 => ?_)
          clear hl73
          refine lv_iconst (v := 0) hx hb dX7_share_75 (by decide) ?_
          refine lv_istore (lv' := [(6, .int (0 : Int32)), (5, .int (0 : Int32)), (4, .int a2), (0, .ref (g.2.2 246)), (1, .int a1), (2, .int a2), (3, .int x63)]) hx hb dX7_share_76 hl75 (by decide) rfl (fun ls76 hl77 => ?_)
          clear hl75
          refine wX7_share_L78 X hr hlocks  ?_ 4096 a2 (0 : Int32) (0 : Int32) kk64 _ _ _  hf71 hP68 hS69 (lv_sub hl77 [3, 4, 5, 6, 2, 1, 0] rfl)
          · intro x139 x140 kk141 H142 lc143 ls144  hf148 hP145 hS146 hl147
            refine lv_iload_n hx hb dX7_share_135 rfl (lv_at hl147 2 rfl) ?_
            refine lv_aload_n hx hb dX7_share_136 rfl (lv_at hl147 0 rfl) ?_
            refine lv_iload_n hx hb dX7_share_137 rfl (lv_at hl147 1 rfl) ?_
            obtain ⟨x149, kk150, hg156, hf155⟩ := bd_some hf148
            refine x_ci (x_runV (As := [.int a1]) (rest := [.int a2]) X hP145 hS146 246 (by decide) cl_M rfl (tX7_pailsOf l X.2.2.2.2.2.2.1  hg156) mi_X7_249 rfl hl147.1 rfl (Nat.le_of_ble_eq_true rfl) dX7_share_138 ⟨Nat.le_of_ble_eq_true rfl, Nat.le_of_ble_eq_true rfl⟩ ⟨Nat.zero_le _, Nat.zero_le _⟩) hS146 (fun H151 lc152 hP153 hS154 => ?_)
            clear hf148 hP145 hS146 hg156
            refine lv_imul hx hb dX7_share_141 ?_
            refine lv_iload_n hx hb dX7_share_142 rfl (lv_at hl147 3 rfl) ?_
            obtain ⟨hc157, hf158⟩ := chk_some hf155
            refine lv_idiv hx hb dX7_share_143 (nz_in hc157) ?_
            refine lv_iload hx hb dX7_share_144 (lv_at hl147 5 rfl) ?_
            refine lv_iload hx hb dX7_share_146 (lv_at hl147 4 rfl) ?_
            refine lv_icmp_ge (tgt := 155) hx hb dX7_share_148 (by decide) (fun c159 => ?_) (fun c159 => ?_)
            · have hf160 := if_at_t c159 hf158
              clear hf158
              refine lv_iconst (v := 0) hx hb dX7_share_155 (by decide) ?_
              refine lv_iadd hx hb dX7_share_156 ?_
              obtain ⟨rfl, rfl⟩ := ret_inj hf160
              exact x_iret X hr hlocks hP153 hS154 dX7_share_157
            · have hf161 := if_at_f c159 hf158
              clear hf158
              refine lv_iconst (v := 1) hx hb dX7_share_151 (by decide) ?_
              refine lv_goto (tgt := 156) hx hb dX7_share_152 (by decide) ?_
              refine lv_iadd hx hb dX7_share_156 ?_
              obtain ⟨rfl, rfl⟩ := ret_inj hf161
              exact x_iret X hr hlocks hP153 hS154 dX7_share_157
      · have hf162 := if_at_t c36 hf34
        clear hf34
        refine lv_iconst (v := 0) hx hb dX7_share_36 (by decide) ?_
        obtain ⟨rfl, rfl⟩ := ret_inj hf162
        exact x_iret X hr hlocks hP32 hS33 dX7_share_37
    · have hf163 := if_at_t c26 hf24
      clear hf24
      refine lv_ldc (v := -1000001) hx hb X.2.2.2.1 (X.2.2.2.2.1 _ wd_969) dX7_share_25 ?_
      obtain ⟨rfl, rfl⟩ := ret_inj hf163
      exact x_iret X hr hlocks hP22 hS23 dX7_share_27
set_option maxRecDepth 100000 in
set_option maxHeartbeats 4000000 in
theorem tX7_turnWind (l : Launch) {g : Gx} (hI : InjG g) {h k k1 : Hp} {a1 : Nat}  (ha1 : isMA a1 = true) (hf : fX7_turnWind a1 k = some ((), k1)) : CV l yX7_turnWind cX7_turnWind 1 none 1 g [.ref (g.2.2 a1)] h k h k1 := by
  refine Met.ofW (cc := cX7_turnWind) (maxL := 1) (ret := none) (by decide) rfl ?_
  intro p en s m args below meth c s₁ B hml hv
  obtain ⟨rfl, hSK, hSH, hP⟩ := hv
  have X : Cx p s m _ c cX7_turnWind 1 RX7 g := ⟨B.exec, B.bytes, hml, findClass_of_methodNamed B.named, fun w hw => atoms_spec (ws := wsy yX7_turnWind cX7_turnWind 1 none) B.pre w (List.mem_cons_of_mem _ hw), hSK, hI, hSH⟩
  have hr := B.returns
  have hlocks := B.notSynchronized
  have hx := X.1
  have hb := X.2.1
  have hS : va_S (inA g) s.heap s.heap [] := va_S.rf
  clear hSK hSH hml B
  have hl := lv_entry ([.ref (g.2.2 a1)]) (n := 1) (Nat.le_of_ble_eq_true rfl)
  rw [lg_entry_eq]
  generalize (lg_sl ([.ref (g.2.2 a1)]) ++ List.replicate (1 - (lg_sl ([.ref (g.2.2 a1)])).length) Slot.unset).toArray = ls at hl ⊢
  have hl : lv_has ls 1 [(0, .ref (g.2.2 a1))] := hl
  generalize ([.ref (g.2.2 a1)] : List Value).toArray = args at X ⊢
  show W p l en (rmD 1) s m args below meth c s.heap [] 0 0 (MQ below (QV g h k1) args s 0 0 (inA g)) (F0 m 0 ls [])
  unfold fX7_turnWind at hf
  refine lv_aload_n hx hb dX7_turnWind_0 rfl (lv_at hl 0 rfl) ?_
  refine lv_bipush (v := 8) hx hb dX7_turnWind_1 (by decide) ?_
  refine lv_aload_n hx hb dX7_turnWind_3 rfl (lv_at hl 0 rfl) ?_
  refine lv_bipush (v := 6) hx hb dX7_turnWind_4 (by decide) ?_
  obtain ⟨hc1, hf2⟩ := chk_some hf
  refine x_ildM X hP a1 ha1 hc1 dX7_turnWind_6 ?_
  refine lv_aload_n hx hb dX7_turnWind_7 rfl (lv_at hl 0 rfl) ?_
  refine lv_iconst (v := 1) hx hb dX7_turnWind_8 (by decide) ?_
  obtain ⟨hc3, hf4⟩ := chk_some hf2
  refine x_ildM X hP a1 ha1 hc3 dX7_turnWind_9 ?_
  obtain ⟨hc5, hf6⟩ := chk_some hf4
  refine x_irem X dX7_turnWind_10 (nz_in hc5) ?_
  refine lv_iadd hx hb dX7_turnWind_11 ?_
  refine lv_iconst (v := 4) hx hb dX7_turnWind_12 (by decide) ?_
  refine lv_aload_n hx hb dX7_turnWind_13 rfl (lv_at hl 0 rfl) ?_
  obtain ⟨x7, kk8, hg14, hf13⟩ := bd_some hf6
  refine x_ci (x_runS (As := [.ref (g.2.2 a1)]) (rest := [.int (4 : Int32), .int ((8 : Int32) + (irm (k a1 (6 : Int32).toNatClampNeg) (k a1 (1 : Int32).toNatClampNeg))), .ref (g.2.2 a1)]) X hP hS (tX7_windOf l X.2.2.2.2.2.2.1 ha1 hg14) mi_X7_167 rfl hl.1 rfl (Nat.le_of_ble_eq_true rfl) dX7_turnWind_14 ⟨Nat.le_of_ble_eq_true rfl, Nat.le_of_ble_eq_true rfl⟩ ⟨Nat.zero_le _, Nat.zero_le _⟩) hS (fun H9 lc10 hP11 hS12 => ?_)
  clear hf6 hP hS hg14
  refine lv_isub hx hb dX7_turnWind_17 ?_
  obtain ⟨hc15, hf16⟩ := chk_some hf13
  refine x_istM X hP11 hS12 a1 ha1 hc15 dX7_turnWind_18 (fun H17 lc18 kk19 ekk19 hP20 hS21 => ?_)
  have hf22 := lk_at ekk19 hf16
  clear hf16 hP11 hS12
  obtain ⟨-, rfl⟩ := ret_inj hf22
  exact x_vret X hr hlocks hP20 hS21 dX7_turnWind_19
set_option maxRecDepth 100000 in
set_option maxHeartbeats 4000000 in
theorem wX7_afterTurns_L40 {p : Program} {l : Launch} {en : Env} {s : State} {m : MethodId} {args : Array Value} {below : List Frame} {meth : Method} {c : Code} {g : Gx} (X : Cx p s m args c cX7_afterTurns 8 RX7 g) (hr : meth.sig.returnType = (some .int)) (hlocks : meth.locks = false) {h k1 : Hp} {r : Int32} {v2 : Int32} {v3 : Int32} {v4 : Int32} {v5 : Int32} {v6 : Int32}  {K62 : Hp → Option (Int32 × Hp)}
    (hK62 : ∀  (k : Hp) (H : Heap) (locs : List Loc) (ls : Array Slot), K62  k = some (r, k1) → va_P g.1 vwCl (WW g h k) H → va_S (inA g) s.heap H locs → lv_has ls 8 [(0, .ref (g.2.2 246)), (3, .int v3), (5, .int v5), (6, .int v6)] → W p l en (rmD 5) s m args below meth c H locs 0 0 (MQ below (QI g h k1 r) args s 0 0 (inA g)) (F0 m 62 ls [])) :
    ∀ (n : Nat) (v7 : Int32) (k : Hp) (H : Heap) (locs : List Loc) (ls : Array Slot), fX7_afterTurns_L40 K62 n v2 v3 v4 v5 v6 v7 k = some (r, k1) → va_P g.1 vwCl (WW g h k) H → va_S (inA g) s.heap H locs → lv_has ls 8 [(0, .ref (g.2.2 246)), (2, .int v2), (3, .int v3), (4, .int v4), (5, .int v5), (6, .int v6), (7, .int v7)] → W p l en (rmD 5) s m args below meth c H locs 0 0 (MQ below (QI g h k1 r) args s 0 0 (inA g)) (F0 m 40 ls []) := by
  have hx := X.1
  have hb := X.2.1
  intro n
  induction n with
  | zero => intro v7 k H locs ls  hf; simp only [fX7_afterTurns_L40, reduceCtorEq] at hf
  | succ n ih =>
    intro v7 k H locs ls  hf hP hS hl
    rw [fX7_afterTurns_L40] at hf
    refine lv_iload hx hb dX7_afterTurns_40 (lv_at hl 6 rfl) ?_
    refine lv_iload_n hx hb dX7_afterTurns_42 rfl (lv_at hl 1 rfl) ?_
    refine lv_iload hx hb dX7_afterTurns_43 (lv_at hl 3 rfl) ?_
    refine lv_iadd hx hb dX7_afterTurns_45 ?_
    refine lv_icmp_ge (tgt := 62) hx hb dX7_afterTurns_46 (by decide) (fun c38 => ?_) (fun c38 => ?_)
    · have hf39 := if_at_t c38 hf
      clear hf
      exact hK62 k  _ _ _ hf39 hP hS (lv_sub hl [0, 2, 4, 5] rfl)
    · have hf40 := if_at_f c38 hf
      clear hf
      refine lv_aload_n hx hb dX7_afterTurns_49 rfl (lv_at hl 0 rfl) ?_
      refine gX7 X hP 7 (v := .ref (g.2.2 252)) rfl (by decide) rfl wd_890 dX7_afterTurns_50 ?_
      obtain ⟨⟨⟩, kk42, hg48, hf47⟩ := bd_some hf40
      refine x_cv (x_runS (As := [.ref (g.2.2 252)]) (rest := []) X hP hS (tX7_turnWind l X.2.2.2.2.2.2.1 (rfl : isMA 252 = true) hg48) mi_X7_252 rfl hl.1 rfl (Nat.le_of_ble_eq_true rfl) dX7_afterTurns_53 ⟨Nat.le_of_ble_eq_true rfl, Nat.le_of_ble_eq_true rfl⟩ ⟨Nat.zero_le _, Nat.zero_le _⟩) hS (fun H43 lc44 hP45 hS46 => ?_)
      clear hf40 hP hS hg48
      obtain ⟨x49, ex49⟩ : ∃ q : Int32, q = v7 + (1 : Int32) := ⟨_, rfl⟩
      have hf50 := lk_at ex49 hf47
      clear hf47
      refine lv_iinc (v := x49) (lv' := [(7, .int x49), (0, .ref (g.2.2 246)), (2, .int v2), (3, .int v3), (4, .int v4), (5, .int v5), (6, .int v6)]) hx hb dX7_afterTurns_56 hl (k := 6) rfl (by rw [ex49]; rfl) (by decide) rfl (fun ls51 hl52 => ?_)
      clear hl
      refine lv_goto (tgt := 40) hx hb dX7_afterTurns_59 (by decide) ?_
      exact ih x49 kk42  _ _ _ hf50 hP45 hS46 (lv_sub hl52 [1, 2, 3, 4, 5, 6, 0] rfl)
set_option maxRecDepth 100000 in
set_option maxHeartbeats 4000000 in
theorem tX7_afterTurns (l : Launch) {g : Gx} (hI : InjG g) {h k k1 : Hp} {a1 : Int32} {a2 : Int32} {a3 : Int32} {a4 : Int32} {a5 : Int32} {r : Int32}   (hf : fX7_afterTurns a1 a2 a3 a4 a5 k = some (r, k1)) : CI l yX7_afterTurns cX7_afterTurns 8 (some .int) 5 g [.ref (g.2.2 246), .int a1, .int a2, .int a3, .int a4, .int a5] h k h k1 r := by
  refine Met.ofW (cc := cX7_afterTurns) (maxL := 8) (ret := (some .int)) (by decide) rfl ?_
  intro p en s m args below meth c s₁ B hml hv
  obtain ⟨rfl, hSK, hSH, hP⟩ := hv
  have X : Cx p s m _ c cX7_afterTurns 8 RX7 g := ⟨B.exec, B.bytes, hml, findClass_of_methodNamed B.named, fun w hw => atoms_spec (ws := wsy yX7_afterTurns cX7_afterTurns 8 (some .int)) B.pre w (List.mem_cons_of_mem _ hw), hSK, hI, hSH⟩
  have hr := B.returns
  have hlocks := B.notSynchronized
  have hx := X.1
  have hb := X.2.1
  have hS : va_S (inA g) s.heap s.heap [] := va_S.rf
  clear hSK hSH hml B
  have hl := lv_entry ([.ref (g.2.2 246), .int a1, .int a2, .int a3, .int a4, .int a5]) (n := 8) (Nat.le_of_ble_eq_true rfl)
  rw [lg_entry_eq]
  generalize (lg_sl ([.ref (g.2.2 246), .int a1, .int a2, .int a3, .int a4, .int a5]) ++ List.replicate (8 - (lg_sl ([.ref (g.2.2 246), .int a1, .int a2, .int a3, .int a4, .int a5])).length) Slot.unset).toArray = ls at hl ⊢
  have hl : lv_has ls 8 [(0, .ref (g.2.2 246)), (1, .int a1), (2, .int a2), (3, .int a3), (4, .int a4), (5, .int a5)] := hl
  generalize ([.ref (g.2.2 246), .int a1, .int a2, .int a3, .int a4, .int a5] : List Value).toArray = args at X ⊢
  show W p l en (rmD 5) s m args below meth c s.heap [] 0 0 (MQ below (QI g h k1 r) args s 0 0 (inA g)) (F0 m 0 ls [])
  unfold fX7_afterTurns at hf
  refine lv_aload_n hx hb dX7_afterTurns_0 rfl (lv_at hl 0 rfl) ?_
  refine gX7 X hP 5 (v := .ref (g.2.2 250)) rfl (by decide) rfl wd_888 dX7_afterTurns_1 ?_
  refine lv_iconst (v := 4) hx hb dX7_afterTurns_4 (by decide) ?_
  obtain ⟨hc1, hf2⟩ := chk_some hf
  refine x_ildM X hP 250 rfl hc1 dX7_afterTurns_5 ?_
  refine lv_iload_n hx hb dX7_afterTurns_6 rfl (lv_at hl 1 rfl) ?_
  refine lv_iadd hx hb dX7_afterTurns_7 ?_
  refine lv_topi (fun x3 ex3 => ?_)
  have hf4 := lk_at ex3 hf2
  clear hf2
  refine lv_istore (lv' := [(6, .int x3), (0, .ref (g.2.2 246)), (1, .int a1), (2, .int a2), (3, .int a3), (4, .int a4), (5, .int a5)]) hx hb dX7_afterTurns_8 hl (by decide) rfl (fun ls5 hl6 => ?_)
  clear hl
  refine lv_aload_n hx hb dX7_afterTurns_10 rfl (lv_at hl6 1 rfl) ?_
  refine lv_iload hx hb dX7_afterTurns_11 (lv_at hl6 0 rfl) ?_
  obtain ⟨x7, kk8, hg14, hf13⟩ := bd_some hf4
  refine x_ci (x_runV (As := [.int x3]) (rest := []) X hP hS 246 (by decide) cl_M rfl (tX7_isCell l X.2.2.2.2.2.2.1  hg14) mi_X7_202 rfl hl6.1 rfl (Nat.le_of_ble_eq_true rfl) dX7_afterTurns_13 ⟨Nat.le_of_ble_eq_true rfl, Nat.le_of_ble_eq_true rfl⟩ ⟨Nat.zero_le _, Nat.zero_le _⟩) hS (fun H9 lc10 hP11 hS12 => ?_)
  clear hf4 hP hS hg14
  refine lv_if_eq (tgt := 30) hx hb dX7_afterTurns_16 (by decide) (fun c15 => ?_) (fun c15 => ?_)
  · have hf16 := if_at_t c15 hf13
    clear hf13
    refine lv_ldc (v := -1000000) hx hb X.2.2.2.1 (X.2.2.2.2.1 _ wd_1009) dX7_afterTurns_30 ?_
    obtain ⟨rfl, rfl⟩ := ret_inj hf16
    exact x_iret X hr hlocks hP11 hS12 dX7_afterTurns_32
  · have hf17 := if_at_f c15 hf13
    clear hf13
    refine lv_aload_n hx hb dX7_afterTurns_19 rfl (lv_at hl6 1 rfl) ?_
    refine lv_iload hx hb dX7_afterTurns_20 (lv_at hl6 0 rfl) ?_
    refine lv_iload_n hx hb dX7_afterTurns_22 rfl (lv_at hl6 4 rfl) ?_
    refine lv_iadd hx hb dX7_afterTurns_23 ?_
    obtain ⟨x18, kk19, hg25, hf24⟩ := bd_some hf17
    refine x_ci (x_runV (As := [.int (x3 + a3)]) (rest := []) X hP11 hS12 246 (by decide) cl_M rfl (tX7_isCell l X.2.2.2.2.2.2.1  hg25) mi_X7_202 rfl hl6.1 rfl (Nat.le_of_ble_eq_true rfl) dX7_afterTurns_24 ⟨Nat.le_of_ble_eq_true rfl, Nat.le_of_ble_eq_true rfl⟩ ⟨Nat.zero_le _, Nat.zero_le _⟩) hS12 (fun H20 lc21 hP22 hS23 => ?_)
    clear hf17 hP11 hS12 hg25
    refine lv_if_ne (tgt := 33) hx hb dX7_afterTurns_27 (by decide) (fun c26 => ?_) (fun c26 => ?_)
    · have hf27 := if_at_f c26 hf24
      clear hf24
      refine lv_aload_n hx hb dX7_afterTurns_33 rfl (lv_at hl6 1 rfl) ?_
      obtain ⟨⟨⟩, kk29, hg35, hf34⟩ := bd_some hf27
      refine x_cv (x_runV (As := []) (rest := []) X hP22 hS23 246 (by decide) cl_M rfl (tX7_layThen l X.2.2.2.2.2.2.1  hg35) mi_X7_231 rfl hl6.1 rfl (Nat.le_of_ble_eq_true rfl) dX7_afterTurns_34 ⟨Nat.le_of_ble_eq_true rfl, Nat.le_of_ble_eq_true rfl⟩ ⟨Nat.zero_le _, Nat.zero_le _⟩) hS23 (fun H30 lc31 hP32 hS33 => ?_)
      clear hf27 hP22 hS23 hg35
      refine lv_iconst (v := 0) hx hb dX7_afterTurns_37 (by decide) ?_
      refine lv_istore (lv' := [(7, .int (0 : Int32)), (6, .int x3), (0, .ref (g.2.2 246)), (1, .int a1), (2, .int a2), (3, .int a3), (4, .int a4), (5, .int a5)]) hx hb dX7_afterTurns_38 hl6 (by decide) rfl (fun ls36 hl37 => ?_)
      clear hl6
      refine wX7_afterTurns_L40 X hr hlocks  ?_ 4096 (0 : Int32) kk29 _ _ _  hf34 hP32 hS33 (lv_sub hl37 [2, 4, 5, 6, 7, 1, 0] rfl)
      · intro  kk53 H54 lc55 ls56  hf60 hP57 hS58 hl59
        refine lv_aload_n hx hb dX7_afterTurns_62 rfl (lv_at hl59 0 rfl) ?_
        refine gX7 X hP57 7 (v := .ref (g.2.2 252)) rfl (by decide) rfl wd_890 dX7_afterTurns_63 ?_
        refine lv_iload hx hb dX7_afterTurns_66 (lv_at hl59 2 rfl) ?_
        obtain ⟨⟨⟩, kk62, hg68, hf67⟩ := bd_some hf60
        refine x_cv (x_runS (As := [.ref (g.2.2 252), .int a5]) (rest := []) X hP57 hS58 (tX7_hoursOf l X.2.2.2.2.2.2.1 (rfl : isMA 252 = true) hg68) mi_X7_234 rfl hl59.1 rfl (Nat.le_of_ble_eq_true rfl) dX7_afterTurns_68 ⟨Nat.le_of_ble_eq_true rfl, Nat.le_of_ble_eq_true rfl⟩ ⟨Nat.zero_le _, Nat.zero_le _⟩) hS58 (fun H63 lc64 hP65 hS66 => ?_)
        clear hf60 hP57 hS58 hg68
        refine lv_aload_n hx hb dX7_afterTurns_71 rfl (lv_at hl59 0 rfl) ?_
        refine gX7 X hP65 7 (v := .ref (g.2.2 252)) rfl (by decide) rfl wd_890 dX7_afterTurns_72 ?_
        refine lv_iload hx hb dX7_afterTurns_75 (lv_at hl59 3 rfl) ?_
        refine lv_iload_n hx hb dX7_afterTurns_77 rfl (lv_at hl59 1 rfl) ?_
        refine lv_iadd hx hb dX7_afterTurns_78 ?_
        obtain ⟨x69, kk70, hg76, hf75⟩ := bd_some hf67
        refine x_ci (x_runS (As := [.ref (g.2.2 252), .int (x3 + a3)]) (rest := []) X hP65 hS66 (tX7_overOf l X.2.2.2.2.2.2.1 (rfl : isMA 252 = true) hg76) mi_X7_226 rfl hl59.1 rfl (Nat.le_of_ble_eq_true rfl) dX7_afterTurns_79 ⟨Nat.le_of_ble_eq_true rfl, Nat.le_of_ble_eq_true rfl⟩ ⟨Nat.zero_le _, Nat.zero_le _⟩) hS66 (fun H71 lc72 hP73 hS74 => ?_)
        clear hf67 hP65 hS66 hg76
        obtain ⟨rfl, rfl⟩ := ret_inj hf75
        exact x_iret X hr hlocks hP73 hS74 dX7_afterTurns_82
    · have hf77 := if_at_t c26 hf24
      clear hf24
      refine lv_ldc (v := -1000000) hx hb X.2.2.2.1 (X.2.2.2.2.1 _ wd_1009) dX7_afterTurns_30 ?_
      obtain ⟨rfl, rfl⟩ := ret_inj hf77
      exact x_iret X hr hlocks hP22 hS23 dX7_afterTurns_32
set_option maxRecDepth 100000 in
set_option maxHeartbeats 4000000 in
theorem wX7_byTurns_L130 {p : Program} {l : Launch} {en : Env} {s : State} {m : MethodId} {args : Array Value} {below : List Frame} {meth : Method} {c : Code} {g : Gx} (X : Cx p s m args c cX7_byTurns 12 RX7 g) (hr : meth.sig.returnType = (some .int)) (hlocks : meth.locks = false) {h k1 : Hp} {r : Int32} {v1 : Int32} {v2 : Int32} {v3 : Int32} {v4 : Int32} {v5 : Int32} {v6 : Int32} {v7 : Int32} {v8 : Int32}  {K182 : Int32 → Hp → Option (Int32 × Hp)}
    (hK182 : ∀ (v9 : Int32) (k : Hp) (H : Heap) (locs : List Loc) (ls : Array Slot), K182 v9 k = some (r, k1) → va_P g.1 vwCl (WW g h k) H → va_S (inA g) s.heap H locs → lv_has ls 12 [(0, .ref (g.2.2 246)), (1, .int v1), (2, .int v2), (3, .int v3), (4, .int v4), (5, .int v5), (6, .int v6), (7, .int v7), (8, .int v8), (9, .int v9)] → W p l en (rmD 6) s m args below meth c H locs 0 0 (MQ below (QI g h k1 r) args s 0 0 (inA g)) (F0 m 182 ls [])) :
    ∀ (n : Nat) (v9 : Int32) (v10 : Int32) (k : Hp) (H : Heap) (locs : List Loc) (ls : Array Slot), fX7_byTurns_L130 K182 n v1 v2 v3 v4 v5 v6 v7 v8 v9 v10 k = some (r, k1) → va_P g.1 vwCl (WW g h k) H → va_S (inA g) s.heap H locs → lv_has ls 12 [(0, .ref (g.2.2 246)), (1, .int v1), (2, .int v2), (3, .int v3), (4, .int v4), (5, .int v5), (6, .int v6), (7, .int v7), (8, .int v8), (9, .int v9), (10, .int v10)] → W p l en (rmD 6) s m args below meth c H locs 0 0 (MQ below (QI g h k1 r) args s 0 0 (inA g)) (F0 m 130 ls []) := by
  have hx := X.1
  have hb := X.2.1
  intro n
  induction n with
  | zero => intro v9 v10 k H locs ls  hf; simp only [fX7_byTurns_L130, reduceCtorEq] at hf
  | succ n ih =>
    intro v9 v10 k H locs ls  hf hP hS hl
    rw [fX7_byTurns_L130] at hf
    refine lv_iload hx hb dX7_byTurns_130 (lv_at hl 10 rfl) ?_
    refine lv_iload_n hx hb dX7_byTurns_132 rfl (lv_at hl 1 rfl) ?_
    refine lv_iconst (v := 3) hx hb dX7_byTurns_133 (by decide) ?_
    obtain ⟨J142_108, eJ142_108, hf149⟩ := jp_at hf
    clear hf
    have hJ142_108 : ∀ (J142_108s0 : Int32) (kk109 : Hp) (H110 : Heap) (lc111 : List Loc) (ls112 : Array Slot), J142_108 J142_108s0 kk109 = some (r, k1) → va_P g.1 vwCl (WW g h kk109) H110 → va_S (inA g) s.heap H110 lc111 → lv_has ls112 12 [(0, .ref (g.2.2 246)), (1, .int v1), (2, .int v2), (3, .int v3), (4, .int v4), (5, .int v5), (6, .int v6), (7, .int v7), (8, .int v8), (9, .int v9), (10, .int v10)] → W p l en (rmD 6) s m args below meth c H110 lc111 0 0 (MQ below (QI g h k1 r) args s 0 0 (inA g)) (F0 m 142 ls112 [.int J142_108s0, .int v10]) := by
      intro J142_108s0 kk109 H110 lc111 ls112 hf116 hP113 hS114 hl115
      clear hf149 hP hS hl
      subst eJ142_108
      refine lv_icmp_gt (tgt := 182) hx hb dX7_byTurns_142 (by decide) (fun c117 => ?_) (fun c117 => ?_)
      · have hf118 := if_at_t c117 hf116
        clear hf116
        exact hK182 v9 kk109  _ _ _ hf118 hP113 hS114 (lv_sub hl115 [0, 1, 2, 3, 4, 5, 6, 7, 8, 9] rfl)
      · have hf119 := if_at_f c117 hf116
        clear hf116
        refine lv_aload_n hx hb dX7_byTurns_145 rfl (lv_at hl115 0 rfl) ?_
        refine lv_iload hx hb dX7_byTurns_146 (lv_at hl115 4 rfl) ?_
        refine lv_iload hx hb dX7_byTurns_148 (lv_at hl115 6 rfl) ?_
        refine lv_iload hx hb dX7_byTurns_150 (lv_at hl115 8 rfl) ?_
        refine lv_iload hx hb dX7_byTurns_152 (lv_at hl115 10 rfl) ?_
        refine lv_iload_n hx hb dX7_byTurns_154 rfl (lv_at hl115 2 rfl) ?_
        obtain ⟨x120, kk121, hg127, hf126⟩ := bd_some hf119
        refine x_ci (x_runV (As := [.int v4, .int v6, .int v8, .int v10, .int v2]) (rest := []) X hP113 hS114 246 (by decide) cl_M rfl (tX7_afterTurns l X.2.2.2.2.2.2.1  hg127) mi_X7_257 rfl hl115.1 rfl (Nat.le_of_ble_eq_true rfl) dX7_byTurns_155 ⟨Nat.le_of_ble_eq_true rfl, Nat.le_of_ble_eq_true rfl⟩ ⟨Nat.zero_le _, Nat.zero_le _⟩) hS114 (fun H122 lc123 hP124 hS125 => ?_)
        clear hf119 hP113 hS114 hg127
        refine lv_istore (lv' := [(11, .int x120), (0, .ref (g.2.2 246)), (1, .int v1), (2, .int v2), (3, .int v3), (4, .int v4), (5, .int v5), (6, .int v6), (7, .int v7), (8, .int v8), (9, .int v9), (10, .int v10)]) hx hb dX7_byTurns_158 hl115 (by decide) rfl (fun ls128 hl129 => ?_)
        clear hl115
        refine lv_iload hx hb dX7_byTurns_160 (lv_at hl129 0 rfl) ?_
        refine lv_iload hx hb dX7_byTurns_162 (lv_at hl129 10 rfl) ?_
        obtain ⟨J174_130, eJ174_130, hf145⟩ := jp_at hf126
        clear hf126
        have hJ174_130 : ∀ (J174_130s0 : Int32) (kk131 : Hp) (H132 : Heap) (lc133 : List Loc) (ls134 : Array Slot), J174_130 J174_130s0 kk131 = some (r, k1) → va_P g.1 vwCl (WW g h kk131) H132 → va_S (inA g) s.heap H132 lc133 → lv_has ls134 12 [(0, .ref (g.2.2 246)), (1, .int v1), (2, .int v2), (3, .int v3), (4, .int v4), (5, .int v5), (6, .int v6), (7, .int v7), (8, .int v8), (10, .int v10)] → W p l en (rmD 6) s m args below meth c H132 lc133 0 0 (MQ below (QI g h k1 r) args s 0 0 (inA g)) (F0 m 174 ls134 [.int J174_130s0]) := by
          intro J174_130s0 kk131 H132 lc133 ls134 hf138 hP135 hS136 hl137
          clear hf145 hP124 hS125 hl129
          subst eJ174_130
          refine lv_istore (lv' := [(9, .int J174_130s0), (0, .ref (g.2.2 246)), (1, .int v1), (2, .int v2), (3, .int v3), (4, .int v4), (5, .int v5), (6, .int v6), (7, .int v7), (8, .int v8), (10, .int v10)]) hx hb dX7_byTurns_174 hl137 (by decide) rfl (fun ls139 hl140 => ?_)
          clear hl137
          obtain ⟨x141, ex141⟩ : ∃ q : Int32, q = v10 + (1 : Int32) := ⟨_, rfl⟩
          have hf142 := lk_at ex141 hf138
          clear hf138
          refine lv_iinc (v := x141) (lv' := [(10, .int x141), (9, .int J174_130s0), (0, .ref (g.2.2 246)), (1, .int v1), (2, .int v2), (3, .int v3), (4, .int v4), (5, .int v5), (6, .int v6), (7, .int v7), (8, .int v8)]) hx hb dX7_byTurns_176 hl140 (k := 10) rfl (by rw [ex141]; rfl) (by decide) rfl (fun ls143 hl144 => ?_)
          clear hl140
          refine lv_goto (tgt := 130) hx hb dX7_byTurns_179 (by decide) ?_
          exact ih J174_130s0 x141 kk131  _ _ _ hf142 hP135 hS136 (lv_sub hl144 [2, 3, 4, 5, 6, 7, 8, 9, 10, 1, 0] rfl)
        clear eJ174_130
        refine lv_icmp_le (tgt := 172) hx hb dX7_byTurns_164 (by decide) (fun c146 => ?_) (fun c146 => ?_)
        · have hf147 := if_at_t c146 hf145
          clear hf145
          refine lv_iload hx hb dX7_byTurns_172 (lv_at hl129 10 rfl) ?_
          exact hJ174_130 v9 kk121  _ _ _ hf147 hP124 hS125 (lv_sub hl129 [1, 2, 3, 4, 5, 6, 7, 8, 9, 11] rfl)
        · have hf148 := if_at_f c146 hf145
          clear hf145
          refine lv_iload hx hb dX7_byTurns_167 (lv_at hl129 0 rfl) ?_
          refine lv_goto (tgt := 174) hx hb dX7_byTurns_169 (by decide) ?_
          exact hJ174_130 x120 kk121  _ _ _ hf148 hP124 hS125 (lv_sub hl129 [1, 2, 3, 4, 5, 6, 7, 8, 9, 11] rfl)
    clear eJ142_108
    refine lv_icmp_le (tgt := 141) hx hb dX7_byTurns_134 (by decide) (fun c150 => ?_) (fun c150 => ?_)
    · have hf151 := if_at_t c150 hf149
      clear hf149
      refine lv_iconst (v := 0) hx hb dX7_byTurns_141 (by decide) ?_
      exact hJ142_108 (0 : Int32) k  _ _ _ hf151 hP hS (lv_sub hl [0, 1, 2, 3, 4, 5, 6, 7, 8, 9, 10] rfl)
    · have hf152 := if_at_f c150 hf149
      clear hf149
      refine lv_iconst (v := 1) hx hb dX7_byTurns_137 (by decide) ?_
      refine lv_goto (tgt := 142) hx hb dX7_byTurns_138 (by decide) ?_
      exact hJ142_108 (1 : Int32) k  _ _ _ hf152 hP hS (lv_sub hl [0, 1, 2, 3, 4, 5, 6, 7, 8, 9, 10] rfl)
set_option maxRecDepth 100000 in
set_option maxHeartbeats 4000000 in
theorem wX7_byTurns_L108 {p : Program} {l : Launch} {en : Env} {s : State} {m : MethodId} {args : Array Value} {below : List Frame} {meth : Method} {c : Code} {g : Gx} (X : Cx p s m args c cX7_byTurns 12 RX7 g) (hr : meth.sig.returnType = (some .int)) (hlocks : meth.locks = false) {h k1 : Hp} {r : Int32} {v1 : Int32} {v2 : Int32} {v3 : Int32} {v4 : Int32} {v5 : Int32} {v6 : Int32}  {K218 : Int32 → Hp → Option (Int32 × Hp)}
    (hK218 : ∀ (v7 : Int32) (k : Hp) (H : Heap) (locs : List Loc) (ls : Array Slot), K218 v7 k = some (r, k1) → va_P g.1 vwCl (WW g h k) H → va_S (inA g) s.heap H locs → lv_has ls 12 [(0, .ref (g.2.2 246)), (1, .int v1), (2, .int v2), (3, .int v3), (4, .int v4), (5, .int v5), (6, .int v6), (7, .int v7)] → W p l en (rmD 6) s m args below meth c H locs 0 0 (MQ below (QI g h k1 r) args s 0 0 (inA g)) (F0 m 218 ls [])) :
    ∀ (n : Nat) (v7 : Int32) (v8 : Int32) (k : Hp) (H : Heap) (locs : List Loc) (ls : Array Slot), fX7_byTurns_L108 K218 n v1 v2 v3 v4 v5 v6 v7 v8 k = some (r, k1) → va_P g.1 vwCl (WW g h k) H → va_S (inA g) s.heap H locs → lv_has ls 12 [(0, .ref (g.2.2 246)), (1, .int v1), (2, .int v2), (3, .int v3), (4, .int v4), (5, .int v5), (6, .int v6), (7, .int v7), (8, .int v8)] → W p l en (rmD 6) s m args below meth c H locs 0 0 (MQ below (QI g h k1 r) args s 0 0 (inA g)) (F0 m 108 ls []) := by
  have hx := X.1
  have hb := X.2.1
  intro n
  induction n with
  | zero => intro v7 v8 k H locs ls  hf; simp only [fX7_byTurns_L108, reduceCtorEq] at hf
  | succ n ih =>
    intro v7 v8 k H locs ls  hf hP hS hl
    rw [fX7_byTurns_L108] at hf
    refine lv_iload hx hb dX7_byTurns_108 (lv_at hl 8 rfl) ?_
    refine lv_iload_n hx hb dX7_byTurns_110 rfl (lv_at hl 1 rfl) ?_
    refine lv_iconst (v := 2) hx hb dX7_byTurns_111 (by decide) ?_
    obtain ⟨J120_92, eJ120_92, hf207⟩ := jp_at hf
    clear hf
    have hJ120_92 : ∀ (J120_92s0 : Int32) (kk93 : Hp) (H94 : Heap) (lc95 : List Loc) (ls96 : Array Slot), J120_92 J120_92s0 kk93 = some (r, k1) → va_P g.1 vwCl (WW g h kk93) H94 → va_S (inA g) s.heap H94 lc95 → lv_has ls96 12 [(0, .ref (g.2.2 246)), (1, .int v1), (2, .int v2), (3, .int v3), (4, .int v4), (5, .int v5), (6, .int v6), (7, .int v7), (8, .int v8)] → W p l en (rmD 6) s m args below meth c H94 lc95 0 0 (MQ below (QI g h k1 r) args s 0 0 (inA g)) (F0 m 120 ls96 [.int J120_92s0, .int v8]) := by
      intro J120_92s0 kk93 H94 lc95 ls96 hf100 hP97 hS98 hl99
      clear hf207 hP hS hl
      subst eJ120_92
      refine lv_icmp_gt (tgt := 218) hx hb dX7_byTurns_120 (by decide) (fun c101 => ?_) (fun c101 => ?_)
      · have hf102 := if_at_t c101 hf100
        clear hf100
        exact hK218 v7 kk93  _ _ _ hf102 hP97 hS98 (lv_sub hl99 [0, 1, 2, 3, 4, 5, 6, 7] rfl)
      · have hf103 := if_at_f c101 hf100
        clear hf100
        refine lv_ldc (v := -1000000) hx hb X.2.2.2.1 (X.2.2.2.2.1 _ wd_1009) dX7_byTurns_123 ?_
        refine lv_istore (lv' := [(9, .int (-1000000 : Int32)), (0, .ref (g.2.2 246)), (1, .int v1), (2, .int v2), (3, .int v3), (4, .int v4), (5, .int v5), (6, .int v6), (7, .int v7), (8, .int v8)]) hx hb dX7_byTurns_125 hl99 (by decide) rfl (fun ls104 hl105 => ?_)
        clear hl99
        refine lv_iconst (v := 0) hx hb dX7_byTurns_127 (by decide) ?_
        refine lv_istore (lv' := [(10, .int (0 : Int32)), (9, .int (-1000000 : Int32)), (0, .ref (g.2.2 246)), (1, .int v1), (2, .int v2), (3, .int v3), (4, .int v4), (5, .int v5), (6, .int v6), (7, .int v7), (8, .int v8)]) hx hb dX7_byTurns_128 hl105 (by decide) rfl (fun ls106 hl107 => ?_)
        clear hl105
        refine wX7_byTurns_L130 X hr hlocks  ?_ 4096 (-1000000 : Int32) (0 : Int32) kk93 _ _ _  hf103 hP97 hS98 (lv_sub hl107 [2, 3, 4, 5, 6, 7, 8, 9, 10, 1, 0] rfl)
        · intro x153 kk154 H155 lc156 ls157  hf161 hP158 hS159 hl160
          refine lv_iload hx hb dX7_byTurns_182 (lv_at hl160 9 rfl) ?_
          refine lv_ldc (v := -1000000) hx hb X.2.2.2.1 (X.2.2.2.2.1 _ wd_1009) dX7_byTurns_184 ?_
          obtain ⟨J210_162, eJ210_162, hf177⟩ := jp_at hf161
          clear hf161
          have hJ210_162 : ∀ (J210_162s0 : Int32) (kk163 : Hp) (H164 : Heap) (lc165 : List Loc) (ls166 : Array Slot), J210_162 J210_162s0 kk163 = some (r, k1) → va_P g.1 vwCl (WW g h kk163) H164 → va_S (inA g) s.heap H164 lc165 → lv_has ls166 12 [(0, .ref (g.2.2 246)), (1, .int v1), (2, .int v2), (3, .int v3), (4, .int v4), (5, .int v5), (6, .int v6), (8, .int v8)] → W p l en (rmD 6) s m args below meth c H164 lc165 0 0 (MQ below (QI g h k1 r) args s 0 0 (inA g)) (F0 m 210 ls166 [.int J210_162s0]) := by
            intro J210_162s0 kk163 H164 lc165 ls166 hf170 hP167 hS168 hl169
            clear hf177 hP158 hS159 hl160
            subst eJ210_162
            refine lv_istore (lv' := [(7, .int J210_162s0), (0, .ref (g.2.2 246)), (1, .int v1), (2, .int v2), (3, .int v3), (4, .int v4), (5, .int v5), (6, .int v6), (8, .int v8)]) hx hb dX7_byTurns_210 hl169 (by decide) rfl (fun ls171 hl172 => ?_)
            clear hl169
            obtain ⟨x173, ex173⟩ : ∃ q : Int32, q = v8 + (1 : Int32) := ⟨_, rfl⟩
            have hf174 := lk_at ex173 hf170
            clear hf170
            refine lv_iinc (v := x173) (lv' := [(8, .int x173), (7, .int J210_162s0), (0, .ref (g.2.2 246)), (1, .int v1), (2, .int v2), (3, .int v3), (4, .int v4), (5, .int v5), (6, .int v6)]) hx hb dX7_byTurns_212 hl172 (k := 8) rfl (by rw [ex173]; rfl) (by decide) rfl (fun ls175 hl176 => ?_)
            clear hl172
            refine lv_goto (tgt := 108) hx hb dX7_byTurns_215 (by decide) ?_
            exact ih J210_162s0 x173 kk163  _ _ _ hf174 hP167 hS168 (lv_sub hl176 [2, 3, 4, 5, 6, 7, 8, 1, 0] rfl)
          clear eJ210_162
          obtain ⟨J208_178, eJ208_178, hf187⟩ := jp_at hf177
          clear hf177
          have hJ208_178 : ∀  (kk179 : Hp) (H180 : Heap) (lc181 : List Loc) (ls182 : Array Slot), J208_178  kk179 = some (r, k1) → va_P g.1 vwCl (WW g h kk179) H180 → va_S (inA g) s.heap H180 lc181 → lv_has ls182 12 [(0, .ref (g.2.2 246)), (1, .int v1), (2, .int v2), (3, .int v3), (4, .int v4), (5, .int v5), (6, .int v6), (7, .int v7), (8, .int v8)] → W p l en (rmD 6) s m args below meth c H180 lc181 0 0 (MQ below (QI g h k1 r) args s 0 0 (inA g)) (F0 m 208 ls182 []) := by
            intro  kk179 H180 lc181 ls182 hf186 hP183 hS184 hl185
            clear hf187 hP158 hS159 hl160
            subst eJ208_178
            refine lv_iload hx hb dX7_byTurns_208 (lv_at hl185 7 rfl) ?_
            exact hJ210_162 v7 kk179  _ _ _ hf186 hP183 hS184 (lv_sub hl185 [0, 1, 2, 3, 4, 5, 6, 8] rfl)
          clear eJ208_178
          refine lv_icmp_eq (tgt := 208) hx hb dX7_byTurns_186 (by decide) (fun c188 => ?_) (fun c188 => ?_)
          · have hf189 := if_at_t c188 hf187
            clear hf187
            exact hJ208_178 kk154  _ _ _ hf189 hP158 hS159 (lv_sub hl160 [0, 1, 2, 3, 4, 5, 6, 7, 8] rfl)
          · have hf190 := if_at_f c188 hf187
            clear hf187
            refine lv_iload hx hb dX7_byTurns_189 (lv_at hl160 7 rfl) ?_
            refine lv_ldc (v := -1000000) hx hb X.2.2.2.1 (X.2.2.2.2.1 _ wd_1009) dX7_byTurns_191 ?_
            obtain ⟨J203_191, eJ203_191, hf200⟩ := jp_at hf190
            clear hf190
            have hJ203_191 : ∀  (kk192 : Hp) (H193 : Heap) (lc194 : List Loc) (ls195 : Array Slot), J203_191  kk192 = some (r, k1) → va_P g.1 vwCl (WW g h kk192) H193 → va_S (inA g) s.heap H193 lc194 → lv_has ls195 12 [(0, .ref (g.2.2 246)), (1, .int v1), (2, .int v2), (3, .int v3), (4, .int v4), (5, .int v5), (6, .int v6), (8, .int v8), (9, .int x153)] → W p l en (rmD 6) s m args below meth c H193 lc194 0 0 (MQ below (QI g h k1 r) args s 0 0 (inA g)) (F0 m 203 ls195 []) := by
              intro  kk192 H193 lc194 ls195 hf199 hP196 hS197 hl198
              clear hf200 hP158 hS159 hl160
              subst eJ203_191
              refine lv_iload hx hb dX7_byTurns_203 (lv_at hl198 8 rfl) ?_
              refine lv_goto (tgt := 210) hx hb dX7_byTurns_205 (by decide) ?_
              exact hJ210_162 x153 kk192  _ _ _ hf199 hP196 hS197 (lv_sub hl198 [0, 1, 2, 3, 4, 5, 6, 7] rfl)
            clear eJ203_191
            refine lv_icmp_eq (tgt := 203) hx hb dX7_byTurns_193 (by decide) (fun c201 => ?_) (fun c201 => ?_)
            · have hf202 := if_at_t c201 hf200
              clear hf200
              exact hJ203_191 kk154  _ _ _ hf202 hP158 hS159 (lv_sub hl160 [0, 1, 2, 3, 4, 5, 6, 8, 9] rfl)
            · have hf203 := if_at_f c201 hf200
              clear hf200
              refine lv_iload hx hb dX7_byTurns_196 (lv_at hl160 9 rfl) ?_
              refine lv_iload hx hb dX7_byTurns_198 (lv_at hl160 7 rfl) ?_
              refine lv_icmp_ge (tgt := 208) hx hb dX7_byTurns_200 (by decide) (fun c204 => ?_) (fun c204 => ?_)
              · have hf205 := if_at_t c204 hf203
                clear hf203
                exact hJ208_178 kk154  _ _ _ hf205 hP158 hS159 (lv_sub hl160 [0, 1, 2, 3, 4, 5, 6, 7, 8] rfl)
              · have hf206 := if_at_f c204 hf203
                clear hf203
                exact hJ203_191 kk154  _ _ _ hf206 hP158 hS159 (lv_sub hl160 [0, 1, 2, 3, 4, 5, 6, 8, 9] rfl)
    clear eJ120_92
    refine lv_icmp_le (tgt := 119) hx hb dX7_byTurns_112 (by decide) (fun c208 => ?_) (fun c208 => ?_)
    · have hf209 := if_at_t c208 hf207
      clear hf207
      refine lv_iconst (v := 0) hx hb dX7_byTurns_119 (by decide) ?_
      exact hJ120_92 (0 : Int32) k  _ _ _ hf209 hP hS (lv_sub hl [0, 1, 2, 3, 4, 5, 6, 7, 8] rfl)
    · have hf210 := if_at_f c208 hf207
      clear hf207
      refine lv_iconst (v := 1) hx hb dX7_byTurns_115 (by decide) ?_
      refine lv_goto (tgt := 120) hx hb dX7_byTurns_116 (by decide) ?_
      exact hJ120_92 (1 : Int32) k  _ _ _ hf210 hP hS (lv_sub hl [0, 1, 2, 3, 4, 5, 6, 7, 8] rfl)
set_option maxRecDepth 100000 in
set_option maxHeartbeats 4000000 in
theorem wX7_byTurns_L77 {p : Program} {l : Launch} {en : Env} {s : State} {m : MethodId} {args : Array Value} {below : List Frame} {meth : Method} {c : Code} {g : Gx} (X : Cx p s m args c cX7_byTurns 12 RX7 g) (hr : meth.sig.returnType = (some .int)) (hlocks : meth.locks = false) {h k1 : Hp} {r : Int32} {v1 : Int32} {v2 : Int32} {v3 : Int32} {v4 : Int32}  {K240 : Int32 → Hp → Option (Int32 × Hp)}
    (hK240 : ∀ (v5 : Int32) (k : Hp) (H : Heap) (locs : List Loc) (ls : Array Slot), K240 v5 k = some (r, k1) → va_P g.1 vwCl (WW g h k) H → va_S (inA g) s.heap H locs → lv_has ls 12 [(0, .ref (g.2.2 246)), (1, .int v1), (2, .int v2), (3, .int v3), (4, .int v4), (5, .int v5)] → W p l en (rmD 6) s m args below meth c H locs 0 0 (MQ below (QI g h k1 r) args s 0 0 (inA g)) (F0 m 240 ls [])) :
    ∀ (n : Nat) (v5 : Int32) (v6 : Int32) (k : Hp) (H : Heap) (locs : List Loc) (ls : Array Slot), fX7_byTurns_L77 K240 n v1 v2 v3 v4 v5 v6 k = some (r, k1) → va_P g.1 vwCl (WW g h k) H → va_S (inA g) s.heap H locs → lv_has ls 12 [(0, .ref (g.2.2 246)), (1, .int v1), (2, .int v2), (3, .int v3), (4, .int v4), (5, .int v5), (6, .int v6)] → W p l en (rmD 6) s m args below meth c H locs 0 0 (MQ below (QI g h k1 r) args s 0 0 (inA g)) (F0 m 77 ls []) := by
  have hx := X.1
  have hb := X.2.1
  intro n
  induction n with
  | zero => intro v5 v6 k H locs ls  hf; simp only [fX7_byTurns_L77, reduceCtorEq] at hf
  | succ n ih =>
    intro v5 v6 k H locs ls  hf hP hS hl
    rw [fX7_byTurns_L77] at hf
    refine lv_iload hx hb dX7_byTurns_77 (lv_at hl 6 rfl) ?_
    refine lv_iload_n hx hb dX7_byTurns_79 rfl (lv_at hl 1 rfl) ?_
    refine lv_iconst (v := 1) hx hb dX7_byTurns_80 (by decide) ?_
    obtain ⟨J89_67, eJ89_67, hf243⟩ := jp_at hf
    clear hf
    have hJ89_67 : ∀ (J89_67s0 : Int32) (kk68 : Hp) (H69 : Heap) (lc70 : List Loc) (ls71 : Array Slot), J89_67 J89_67s0 kk68 = some (r, k1) → va_P g.1 vwCl (WW g h kk68) H69 → va_S (inA g) s.heap H69 lc70 → lv_has ls71 12 [(0, .ref (g.2.2 246)), (1, .int v1), (2, .int v2), (3, .int v3), (4, .int v4), (5, .int v5), (6, .int v6)] → W p l en (rmD 6) s m args below meth c H69 lc70 0 0 (MQ below (QI g h k1 r) args s 0 0 (inA g)) (F0 m 89 ls71 [.int J89_67s0, .int v6]) := by
      intro J89_67s0 kk68 H69 lc70 ls71 hf75 hP72 hS73 hl74
      clear hf243 hP hS hl
      subst eJ89_67
      refine lv_icmp_gt (tgt := 240) hx hb dX7_byTurns_89 (by decide) (fun c76 => ?_) (fun c76 => ?_)
      · have hf77 := if_at_t c76 hf75
        clear hf75
        exact hK240 v5 kk68  _ _ _ hf77 hP72 hS73 (lv_sub hl74 [0, 1, 2, 3, 4, 5] rfl)
      · have hf78 := if_at_f c76 hf75
        clear hf75
        refine lv_ldc (v := -1000000) hx hb X.2.2.2.1 (X.2.2.2.2.1 _ wd_1009) dX7_byTurns_92 ?_
        refine lv_istore (lv' := [(7, .int (-1000000 : Int32)), (0, .ref (g.2.2 246)), (1, .int v1), (2, .int v2), (3, .int v3), (4, .int v4), (5, .int v5), (6, .int v6)]) hx hb dX7_byTurns_94 hl74 (by decide) rfl (fun ls79 hl80 => ?_)
        clear hl74
        refine lv_iload_n hx hb dX7_byTurns_96 rfl (lv_at hl80 2 rfl) ?_
        refine lv_iconst (v := 2) hx hb dX7_byTurns_97 (by decide) ?_
        obtain ⟨J106_81, eJ106_81, hf239⟩ := jp_at hf78
        clear hf78
        have hJ106_81 : ∀ (J106_81s0 : Int32) (kk82 : Hp) (H83 : Heap) (lc84 : List Loc) (ls85 : Array Slot), J106_81 J106_81s0 kk82 = some (r, k1) → va_P g.1 vwCl (WW g h kk82) H83 → va_S (inA g) s.heap H83 lc84 → lv_has ls85 12 [(0, .ref (g.2.2 246)), (1, .int v1), (2, .int v2), (3, .int v3), (4, .int v4), (5, .int v5), (6, .int v6), (7, .int (-1000000 : Int32))] → W p l en (rmD 6) s m args below meth c H83 lc84 0 0 (MQ below (QI g h k1 r) args s 0 0 (inA g)) (F0 m 106 ls85 [.int J106_81s0]) := by
          intro J106_81s0 kk82 H83 lc84 ls85 hf89 hP86 hS87 hl88
          clear hf239 hP72 hS73 hl80
          subst eJ106_81
          refine lv_istore (lv' := [(8, .int J106_81s0), (0, .ref (g.2.2 246)), (1, .int v1), (2, .int v2), (3, .int v3), (4, .int v4), (5, .int v5), (6, .int v6), (7, .int (-1000000 : Int32))]) hx hb dX7_byTurns_106 hl88 (by decide) rfl (fun ls90 hl91 => ?_)
          clear hl88
          refine wX7_byTurns_L108 X hr hlocks  ?_ 4096 (-1000000 : Int32) J106_81s0 kk82 _ _ _  hf89 hP86 hS87 (lv_sub hl91 [1, 2, 3, 4, 5, 6, 7, 8, 0] rfl)
          · intro x211 kk212 H213 lc214 ls215  hf219 hP216 hS217 hl218
            refine lv_iload hx hb dX7_byTurns_218 (lv_at hl218 7 rfl) ?_
            refine lv_iload hx hb dX7_byTurns_220 (lv_at hl218 5 rfl) ?_
            obtain ⟨J232_220, eJ232_220, hf235⟩ := jp_at hf219
            clear hf219
            have hJ232_220 : ∀ (J232_220s0 : Int32) (kk221 : Hp) (H222 : Heap) (lc223 : List Loc) (ls224 : Array Slot), J232_220 J232_220s0 kk221 = some (r, k1) → va_P g.1 vwCl (WW g h kk221) H222 → va_S (inA g) s.heap H222 lc223 → lv_has ls224 12 [(0, .ref (g.2.2 246)), (1, .int v1), (2, .int v2), (3, .int v3), (4, .int v4), (6, .int v6)] → W p l en (rmD 6) s m args below meth c H222 lc223 0 0 (MQ below (QI g h k1 r) args s 0 0 (inA g)) (F0 m 232 ls224 [.int J232_220s0]) := by
              intro J232_220s0 kk221 H222 lc223 ls224 hf228 hP225 hS226 hl227
              clear hf235 hP216 hS217 hl218
              subst eJ232_220
              refine lv_istore (lv' := [(5, .int J232_220s0), (0, .ref (g.2.2 246)), (1, .int v1), (2, .int v2), (3, .int v3), (4, .int v4), (6, .int v6)]) hx hb dX7_byTurns_232 hl227 (by decide) rfl (fun ls229 hl230 => ?_)
              clear hl227
              obtain ⟨x231, ex231⟩ : ∃ q : Int32, q = v6 + (1 : Int32) := ⟨_, rfl⟩
              have hf232 := lk_at ex231 hf228
              clear hf228
              refine lv_iinc (v := x231) (lv' := [(6, .int x231), (5, .int J232_220s0), (0, .ref (g.2.2 246)), (1, .int v1), (2, .int v2), (3, .int v3), (4, .int v4)]) hx hb dX7_byTurns_234 hl230 (k := 6) rfl (by rw [ex231]; rfl) (by decide) rfl (fun ls233 hl234 => ?_)
              clear hl230
              refine lv_goto (tgt := 77) hx hb dX7_byTurns_237 (by decide) ?_
              exact ih J232_220s0 x231 kk221  _ _ _ hf232 hP225 hS226 (lv_sub hl234 [2, 3, 4, 5, 6, 1, 0] rfl)
            clear eJ232_220
            refine lv_icmp_le (tgt := 230) hx hb dX7_byTurns_222 (by decide) (fun c236 => ?_) (fun c236 => ?_)
            · have hf237 := if_at_t c236 hf235
              clear hf235
              refine lv_iload hx hb dX7_byTurns_230 (lv_at hl218 5 rfl) ?_
              exact hJ232_220 v5 kk212  _ _ _ hf237 hP216 hS217 (lv_sub hl218 [0, 1, 2, 3, 4, 6] rfl)
            · have hf238 := if_at_f c236 hf235
              clear hf235
              refine lv_iload hx hb dX7_byTurns_225 (lv_at hl218 7 rfl) ?_
              refine lv_goto (tgt := 232) hx hb dX7_byTurns_227 (by decide) ?_
              exact hJ232_220 x211 kk212  _ _ _ hf238 hP216 hS217 (lv_sub hl218 [0, 1, 2, 3, 4, 6] rfl)
        clear eJ106_81
        refine lv_icmp_le (tgt := 105) hx hb dX7_byTurns_98 (by decide) (fun c240 => ?_) (fun c240 => ?_)
        · have hf241 := if_at_t c240 hf239
          clear hf239
          refine lv_iconst (v := 0) hx hb dX7_byTurns_105 (by decide) ?_
          exact hJ106_81 (0 : Int32) kk68  _ _ _ hf241 hP72 hS73 (lv_sub hl80 [1, 2, 3, 4, 5, 6, 7, 0] rfl)
        · have hf242 := if_at_f c240 hf239
          clear hf239
          refine lv_iconst (v := -1) hx hb dX7_byTurns_101 (by decide) ?_
          refine lv_goto (tgt := 106) hx hb dX7_byTurns_102 (by decide) ?_
          exact hJ106_81 (-1 : Int32) kk68  _ _ _ hf242 hP72 hS73 (lv_sub hl80 [1, 2, 3, 4, 5, 6, 7, 0] rfl)
    clear eJ89_67
    refine lv_icmp_le (tgt := 88) hx hb dX7_byTurns_81 (by decide) (fun c244 => ?_) (fun c244 => ?_)
    · have hf245 := if_at_t c244 hf243
      clear hf243
      refine lv_iconst (v := 0) hx hb dX7_byTurns_88 (by decide) ?_
      exact hJ89_67 (0 : Int32) k  _ _ _ hf245 hP hS (lv_sub hl [0, 1, 2, 3, 4, 5, 6] rfl)
    · have hf246 := if_at_f c244 hf243
      clear hf243
      refine lv_iconst (v := 1) hx hb dX7_byTurns_84 (by decide) ?_
      refine lv_goto (tgt := 89) hx hb dX7_byTurns_85 (by decide) ?_
      exact hJ89_67 (1 : Int32) k  _ _ _ hf246 hP hS (lv_sub hl [0, 1, 2, 3, 4, 5, 6] rfl)
set_option maxRecDepth 100000 in
set_option maxHeartbeats 4000000 in
theorem wX7_byTurns_L56 {p : Program} {l : Launch} {en : Env} {s : State} {m : MethodId} {args : Array Value} {below : List Frame} {meth : Method} {c : Code} {g : Gx} (X : Cx p s m args c cX7_byTurns 12 RX7 g) (hr : meth.sig.returnType = (some .int)) (hlocks : meth.locks = false) {h k1 : Hp} {r : Int32} {v1 : Int32} {v2 : Int32}  
     :
    ∀ (n : Nat) (v3 : Int32) (v4 : Int32) (k : Hp) (H : Heap) (locs : List Loc) (ls : Array Slot), fX7_byTurns_L56 n v1 v2 v3 v4 k = some (r, k1) → va_P g.1 vwCl (WW g h k) H → va_S (inA g) s.heap H locs → lv_has ls 12 [(0, .ref (g.2.2 246)), (1, .int v1), (2, .int v2), (3, .int v3), (4, .int v4)] → W p l en (rmD 6) s m args below meth c H locs 0 0 (MQ below (QI g h k1 r) args s 0 0 (inA g)) (F0 m 56 ls []) := by
  have hx := X.1
  have hb := X.2.1
  intro n
  induction n with
  | zero => intro v3 v4 k H locs ls  hf; simp only [fX7_byTurns_L56, reduceCtorEq] at hf
  | succ n ih =>
    intro v3 v4 k H locs ls  hf hP hS hl
    rw [fX7_byTurns_L56] at hf
    refine lv_iload hx hb dX7_byTurns_56 (lv_at hl 4 rfl) ?_
    refine lv_iload_n hx hb dX7_byTurns_58 rfl (lv_at hl 1 rfl) ?_
    obtain ⟨J67_51, eJ67_51, hf301⟩ := jp_at hf
    clear hf
    have hJ67_51 : ∀ (J67_51s0 : Int32) (kk52 : Hp) (H53 : Heap) (lc54 : List Loc) (ls55 : Array Slot), J67_51 J67_51s0 kk52 = some (r, k1) → va_P g.1 vwCl (WW g h kk52) H53 → va_S (inA g) s.heap H53 lc54 → lv_has ls55 12 [(0, .ref (g.2.2 246)), (1, .int v1), (2, .int v2), (3, .int v3), (4, .int v4)] → W p l en (rmD 6) s m args below meth c H53 lc54 0 0 (MQ below (QI g h k1 r) args s 0 0 (inA g)) (F0 m 67 ls55 [.int J67_51s0, .int v4]) := by
      intro J67_51s0 kk52 H53 lc54 ls55 hf59 hP56 hS57 hl58
      clear hf301 hP hS hl
      subst eJ67_51
      refine lv_icmp_gt (tgt := 272) hx hb dX7_byTurns_67 (by decide) (fun c60 => ?_) (fun c60 => ?_)
      · have hf61 := if_at_t c60 hf59
        clear hf59
        refine lv_iload_n hx hb dX7_byTurns_272 rfl (lv_at hl58 3 rfl) ?_
        obtain ⟨rfl, rfl⟩ := ret_inj hf61
        exact x_iret X hr hlocks hP56 hS57 dX7_byTurns_273
      · have hf62 := if_at_f c60 hf59
        clear hf59
        refine lv_ldc (v := -1000000) hx hb X.2.2.2.1 (X.2.2.2.2.1 _ wd_1009) dX7_byTurns_70 ?_
        refine lv_istore (lv' := [(5, .int (-1000000 : Int32)), (0, .ref (g.2.2 246)), (1, .int v1), (2, .int v2), (3, .int v3), (4, .int v4)]) hx hb dX7_byTurns_72 hl58 (by decide) rfl (fun ls63 hl64 => ?_)
        clear hl58
        refine lv_iconst (v := 0) hx hb dX7_byTurns_74 (by decide) ?_
        refine lv_istore (lv' := [(6, .int (0 : Int32)), (5, .int (-1000000 : Int32)), (0, .ref (g.2.2 246)), (1, .int v1), (2, .int v2), (3, .int v3), (4, .int v4)]) hx hb dX7_byTurns_75 hl64 (by decide) rfl (fun ls65 hl66 => ?_)
        clear hl64
        refine wX7_byTurns_L77 X hr hlocks  ?_ 4096 (-1000000 : Int32) (0 : Int32) kk52 _ _ _  hf62 hP56 hS57 (lv_sub hl66 [2, 3, 4, 5, 6, 1, 0] rfl)
        · intro x247 kk248 H249 lc250 ls251  hf255 hP252 hS253 hl254
          refine lv_iload hx hb dX7_byTurns_240 (lv_at hl254 5 rfl) ?_
          refine lv_ldc (v := -1000000) hx hb X.2.2.2.1 (X.2.2.2.2.1 _ wd_1009) dX7_byTurns_242 ?_
          obtain ⟨J265_256, eJ265_256, hf271⟩ := jp_at hf255
          clear hf255
          have hJ265_256 : ∀ (J265_256s0 : Int32) (kk257 : Hp) (H258 : Heap) (lc259 : List Loc) (ls260 : Array Slot), J265_256 J265_256s0 kk257 = some (r, k1) → va_P g.1 vwCl (WW g h kk257) H258 → va_S (inA g) s.heap H258 lc259 → lv_has ls260 12 [(0, .ref (g.2.2 246)), (1, .int v1), (2, .int v2), (4, .int v4)] → W p l en (rmD 6) s m args below meth c H258 lc259 0 0 (MQ below (QI g h k1 r) args s 0 0 (inA g)) (F0 m 265 ls260 [.int J265_256s0]) := by
            intro J265_256s0 kk257 H258 lc259 ls260 hf264 hP261 hS262 hl263
            clear hf271 hP252 hS253 hl254
            subst eJ265_256
            refine lv_istore_n (lv' := [(3, .int J265_256s0), (0, .ref (g.2.2 246)), (1, .int v1), (2, .int v2), (4, .int v4)]) hx hb dX7_byTurns_265 rfl hl263 (by decide) rfl (fun ls265 hl266 => ?_)
            clear hl263
            obtain ⟨x267, ex267⟩ : ∃ q : Int32, q = v4 + (1 : Int32) := ⟨_, rfl⟩
            have hf268 := lk_at ex267 hf264
            clear hf264
            refine lv_iinc (v := x267) (lv' := [(4, .int x267), (3, .int J265_256s0), (0, .ref (g.2.2 246)), (1, .int v1), (2, .int v2)]) hx hb dX7_byTurns_266 hl266 (k := 4) rfl (by rw [ex267]; rfl) (by decide) rfl (fun ls269 hl270 => ?_)
            clear hl266
            refine lv_goto (tgt := 56) hx hb dX7_byTurns_269 (by decide) ?_
            exact ih J265_256s0 x267 kk257  _ _ _ hf268 hP261 hS262 (lv_sub hl270 [2, 3, 4, 1, 0] rfl)
          clear eJ265_256
          obtain ⟨J264_272, eJ264_272, hf281⟩ := jp_at hf271
          clear hf271
          have hJ264_272 : ∀  (kk273 : Hp) (H274 : Heap) (lc275 : List Loc) (ls276 : Array Slot), J264_272  kk273 = some (r, k1) → va_P g.1 vwCl (WW g h kk273) H274 → va_S (inA g) s.heap H274 lc275 → lv_has ls276 12 [(0, .ref (g.2.2 246)), (1, .int v1), (2, .int v2), (3, .int v3), (4, .int v4)] → W p l en (rmD 6) s m args below meth c H274 lc275 0 0 (MQ below (QI g h k1 r) args s 0 0 (inA g)) (F0 m 264 ls276 []) := by
            intro  kk273 H274 lc275 ls276 hf280 hP277 hS278 hl279
            clear hf281 hP252 hS253 hl254
            subst eJ264_272
            refine lv_iload_n hx hb dX7_byTurns_264 rfl (lv_at hl279 3 rfl) ?_
            exact hJ265_256 v3 kk273  _ _ _ hf280 hP277 hS278 (lv_sub hl279 [0, 1, 2, 4] rfl)
          clear eJ264_272
          refine lv_icmp_eq (tgt := 264) hx hb dX7_byTurns_244 (by decide) (fun c282 => ?_) (fun c282 => ?_)
          · have hf283 := if_at_t c282 hf281
            clear hf281
            exact hJ264_272 kk248  _ _ _ hf283 hP252 hS253 (lv_sub hl254 [0, 1, 2, 3, 4] rfl)
          · have hf284 := if_at_f c282 hf281
            clear hf281
            refine lv_iload_n hx hb dX7_byTurns_247 rfl (lv_at hl254 3 rfl) ?_
            refine lv_ldc (v := -1000000) hx hb X.2.2.2.1 (X.2.2.2.2.1 _ wd_1009) dX7_byTurns_248 ?_
            obtain ⟨J259_285, eJ259_285, hf294⟩ := jp_at hf284
            clear hf284
            have hJ259_285 : ∀  (kk286 : Hp) (H287 : Heap) (lc288 : List Loc) (ls289 : Array Slot), J259_285  kk286 = some (r, k1) → va_P g.1 vwCl (WW g h kk286) H287 → va_S (inA g) s.heap H287 lc288 → lv_has ls289 12 [(0, .ref (g.2.2 246)), (1, .int v1), (2, .int v2), (4, .int v4), (5, .int x247)] → W p l en (rmD 6) s m args below meth c H287 lc288 0 0 (MQ below (QI g h k1 r) args s 0 0 (inA g)) (F0 m 259 ls289 []) := by
              intro  kk286 H287 lc288 ls289 hf293 hP290 hS291 hl292
              clear hf294 hP252 hS253 hl254
              subst eJ259_285
              refine lv_iload hx hb dX7_byTurns_259 (lv_at hl292 4 rfl) ?_
              refine lv_goto (tgt := 265) hx hb dX7_byTurns_261 (by decide) ?_
              exact hJ265_256 x247 kk286  _ _ _ hf293 hP290 hS291 (lv_sub hl292 [0, 1, 2, 3] rfl)
            clear eJ259_285
            refine lv_icmp_eq (tgt := 259) hx hb dX7_byTurns_250 (by decide) (fun c295 => ?_) (fun c295 => ?_)
            · have hf296 := if_at_t c295 hf294
              clear hf294
              exact hJ259_285 kk248  _ _ _ hf296 hP252 hS253 (lv_sub hl254 [0, 1, 2, 4, 5] rfl)
            · have hf297 := if_at_f c295 hf294
              clear hf294
              refine lv_iload hx hb dX7_byTurns_253 (lv_at hl254 5 rfl) ?_
              refine lv_iload_n hx hb dX7_byTurns_255 rfl (lv_at hl254 3 rfl) ?_
              refine lv_icmp_ge (tgt := 264) hx hb dX7_byTurns_256 (by decide) (fun c298 => ?_) (fun c298 => ?_)
              · have hf299 := if_at_t c298 hf297
                clear hf297
                exact hJ264_272 kk248  _ _ _ hf299 hP252 hS253 (lv_sub hl254 [0, 1, 2, 3, 4] rfl)
              · have hf300 := if_at_f c298 hf297
                clear hf297
                exact hJ259_285 kk248  _ _ _ hf300 hP252 hS253 (lv_sub hl254 [0, 1, 2, 4, 5] rfl)
    clear eJ67_51
    refine lv_if_le (tgt := 66) hx hb dX7_byTurns_59 (by decide) (fun c302 => ?_) (fun c302 => ?_)
    · have hf303 := if_at_t c302 hf301
      clear hf301
      refine lv_iconst (v := 0) hx hb dX7_byTurns_66 (by decide) ?_
      exact hJ67_51 (0 : Int32) k  _ _ _ hf303 hP hS (lv_sub hl [0, 1, 2, 3, 4] rfl)
    · have hf304 := if_at_f c302 hf301
      clear hf301
      refine lv_iconst (v := 1) hx hb dX7_byTurns_62 (by decide) ?_
      refine lv_goto (tgt := 67) hx hb dX7_byTurns_63 (by decide) ?_
      exact hJ67_51 (1 : Int32) k  _ _ _ hf304 hP hS (lv_sub hl [0, 1, 2, 3, 4] rfl)
set_option maxRecDepth 100000 in
set_option maxHeartbeats 4000000 in
theorem tX7_byTurns (l : Launch) {g : Gx} (hI : InjG g) {h k k1 : Hp} {a1 : Int32} {a2 : Int32} {r : Int32}   (hf : fX7_byTurns a1 a2 k = some (r, k1)) : CI l yX7_byTurns cX7_byTurns 12 (some .int) 6 g [.ref (g.2.2 246), .int a1, .int a2] h k h k1 r := by
  refine Met.ofW (cc := cX7_byTurns) (maxL := 12) (ret := (some .int)) (by decide) rfl ?_
  intro p en s m args below meth c s₁ B hml hv
  obtain ⟨rfl, hSK, hSH, hP⟩ := hv
  have X : Cx p s m _ c cX7_byTurns 12 RX7 g := ⟨B.exec, B.bytes, hml, findClass_of_methodNamed B.named, fun w hw => atoms_spec (ws := wsy yX7_byTurns cX7_byTurns 12 (some .int)) B.pre w (List.mem_cons_of_mem _ hw), hSK, hI, hSH⟩
  have hr := B.returns
  have hlocks := B.notSynchronized
  have hx := X.1
  have hb := X.2.1
  have hS : va_S (inA g) s.heap s.heap [] := va_S.rf
  clear hSK hSH hml B
  have hl := lv_entry ([.ref (g.2.2 246), .int a1, .int a2]) (n := 12) (Nat.le_of_ble_eq_true rfl)
  rw [lg_entry_eq]
  generalize (lg_sl ([.ref (g.2.2 246), .int a1, .int a2]) ++ List.replicate (12 - (lg_sl ([.ref (g.2.2 246), .int a1, .int a2])).length) Slot.unset).toArray = ls at hl ⊢
  have hl : lv_has ls 12 [(0, .ref (g.2.2 246)), (1, .int a1), (2, .int a2)] := hl
  generalize ([.ref (g.2.2 246), .int a1, .int a2] : List Value).toArray = args at X ⊢
  show W p l en (rmD 6) s m args below meth c s.heap [] 0 0 (MQ below (QI g h k1 r) args s 0 0 (inA g)) (F0 m 0 ls [])
  unfold fX7_byTurns at hf
  refine lv_aload_n hx hb dX7_byTurns_0 rfl (lv_at hl 0 rfl) ?_
  refine lv_iconst (v := 0) hx hb dX7_byTurns_1 (by decide) ?_
  refine pX7 X hP hS 0 (by decide) rfl wd_883 rfl rfl rfl rfl seX7_0 dX7_byTurns_2 (fun H1 lc2 kk3 ekk3 hP4 hS5 => ?_)
  have hf6 := lk_at ekk3 hf
  clear hf hP hS
  refine lv_aload_n hx hb dX7_byTurns_5 rfl (lv_at hl 0 rfl) ?_
  obtain ⟨x7, kk8, hg14, hf13⟩ := bd_some hf6
  refine x_ci (x_runV (As := []) (rest := []) X hP4 hS5 246 (by decide) cl_M rfl (tX7_isThere l X.2.2.2.2.2.2.1  hg14) mi_X7_187 rfl hl.1 rfl (Nat.le_of_ble_eq_true rfl) dX7_byTurns_6 ⟨Nat.le_of_ble_eq_true rfl, Nat.le_of_ble_eq_true rfl⟩ ⟨Nat.zero_le _, Nat.zero_le _⟩) hS5 (fun H9 lc10 hP11 hS12 => ?_)
  clear hf6 hP4 hS5 hg14
  refine lv_if_ne (tgt := 15) hx hb dX7_byTurns_9 (by decide) (fun c15 => ?_) (fun c15 => ?_)
  · have hf16 := if_at_f c15 hf13
    clear hf13
    refine lv_iload_n hx hb dX7_byTurns_15 rfl (lv_at hl 1 rfl) ?_
    refine lv_i2l hx hb dX7_byTurns_16 rfl ?_
    refine lv_lconst (v := 0) hx hb dX7_byTurns_17 (by decide) ?_
    refine lv_ldc2 (v := 4) hx hb X.2.2.2.1 (X.2.2.2.2.1 _ wd_1117) dX7_byTurns_18 ?_
    obtain ⟨x17, kk18, hg24, hf23⟩ := bd_some hf16
    refine x_ci (x_runS (As := [.long a1.toInt64, .long (0 : Int64), .long (4 : Int64)]) (rest := []) X hP11 hS12 (tX7_in l X.2.2.2.2.2.2.1  hg24) mi_X7_57 rfl hl.1 rfl (Nat.le_of_ble_eq_true rfl) dX7_byTurns_21 ⟨Nat.le_of_ble_eq_true rfl, Nat.le_of_ble_eq_true rfl⟩ ⟨Nat.zero_le _, Nat.zero_le _⟩) hS12 (fun H19 lc20 hP21 hS22 => ?_)
    clear hf16 hP11 hS12 hg24
    refine lv_if_eq (tgt := 39) hx hb dX7_byTurns_24 (by decide) (fun c25 => ?_) (fun c25 => ?_)
    · have hf26 := if_at_t c25 hf23
      clear hf23
      refine lv_ldc (v := -1000001) hx hb X.2.2.2.1 (X.2.2.2.2.1 _ wd_969) dX7_byTurns_39 ?_
      obtain ⟨rfl, rfl⟩ := ret_inj hf26
      exact x_iret X hr hlocks hP21 hS22 dX7_byTurns_41
    · have hf27 := if_at_f c25 hf23
      clear hf23
      refine lv_iload_n hx hb dX7_byTurns_27 rfl (lv_at hl 2 rfl) ?_
      refine lv_i2l hx hb dX7_byTurns_28 rfl ?_
      refine lv_lconst (v := 1) hx hb dX7_byTurns_29 (by decide) ?_
      refine lv_ldc2 (v := 20) hx hb X.2.2.2.1 (X.2.2.2.2.1 _ wd_1224) dX7_byTurns_30 ?_
      obtain ⟨x28, kk29, hg35, hf34⟩ := bd_some hf27
      refine x_ci (x_runS (As := [.long a2.toInt64, .long (1 : Int64), .long (20 : Int64)]) (rest := []) X hP21 hS22 (tX7_in l X.2.2.2.2.2.2.1  hg35) mi_X7_57 rfl hl.1 rfl (Nat.le_of_ble_eq_true rfl) dX7_byTurns_33 ⟨Nat.le_of_ble_eq_true rfl, Nat.le_of_ble_eq_true rfl⟩ ⟨Nat.zero_le _, Nat.zero_le _⟩) hS22 (fun H30 lc31 hP32 hS33 => ?_)
      clear hf27 hP21 hS22 hg35
      refine lv_if_ne (tgt := 42) hx hb dX7_byTurns_36 (by decide) (fun c36 => ?_) (fun c36 => ?_)
      · have hf37 := if_at_f c36 hf34
        clear hf34
        refine lv_ldc (v := -1000000) hx hb X.2.2.2.1 (X.2.2.2.2.1 _ wd_1009) dX7_byTurns_42 ?_
        refine lv_istore_n (lv' := [(3, .int (-1000000 : Int32)), (0, .ref (g.2.2 246)), (1, .int a1), (2, .int a2)]) hx hb dX7_byTurns_44 rfl hl (by decide) rfl (fun ls38 hl39 => ?_)
        clear hl
        refine lv_iload_n hx hb dX7_byTurns_45 rfl (lv_at hl39 2 rfl) ?_
        obtain ⟨J54_40, eJ54_40, hf305⟩ := jp_at hf37
        clear hf37
        have hJ54_40 : ∀ (J54_40s0 : Int32) (kk41 : Hp) (H42 : Heap) (lc43 : List Loc) (ls44 : Array Slot), J54_40 J54_40s0 kk41 = some (r, k1) → va_P g.1 vwCl (WW g h kk41) H42 → va_S (inA g) s.heap H42 lc43 → lv_has ls44 12 [(0, .ref (g.2.2 246)), (1, .int a1), (2, .int a2), (3, .int (-1000000 : Int32))] → W p l en (rmD 6) s m args below meth c H42 lc43 0 0 (MQ below (QI g h k1 r) args s 0 0 (inA g)) (F0 m 54 ls44 [.int J54_40s0]) := by
          intro J54_40s0 kk41 H42 lc43 ls44 hf48 hP45 hS46 hl47
          clear hf305 hP32 hS33 hl39
          subst eJ54_40
          refine lv_istore (lv' := [(4, .int J54_40s0), (0, .ref (g.2.2 246)), (1, .int a1), (2, .int a2), (3, .int (-1000000 : Int32))]) hx hb dX7_byTurns_54 hl47 (by decide) rfl (fun ls49 hl50 => ?_)
          clear hl47
          refine wX7_byTurns_L56 X hr hlocks   4096 (-1000000 : Int32) J54_40s0 kk41 _ _ _  hf48 hP45 hS46 (lv_sub hl50 [1, 2, 3, 4, 0] rfl)
        clear eJ54_40
        refine lv_if_le (tgt := 53) hx hb dX7_byTurns_46 (by decide) (fun c306 => ?_) (fun c306 => ?_)
        · have hf307 := if_at_t c306 hf305
          clear hf305
          refine lv_iconst (v := 0) hx hb dX7_byTurns_53 (by decide) ?_
          exact hJ54_40 (0 : Int32) kk29  _ _ _ hf307 hP32 hS33 (lv_sub hl39 [1, 2, 3, 0] rfl)
        · have hf308 := if_at_f c306 hf305
          clear hf305
          refine lv_iconst (v := -1) hx hb dX7_byTurns_49 (by decide) ?_
          refine lv_goto (tgt := 54) hx hb dX7_byTurns_50 (by decide) ?_
          exact hJ54_40 (-1 : Int32) kk29  _ _ _ hf308 hP32 hS33 (lv_sub hl39 [1, 2, 3, 0] rfl)
      · have hf309 := if_at_t c36 hf34
        clear hf34
        refine lv_ldc (v := -1000001) hx hb X.2.2.2.1 (X.2.2.2.2.1 _ wd_969) dX7_byTurns_39 ?_
        obtain ⟨rfl, rfl⟩ := ret_inj hf309
        exact x_iret X hr hlocks hP32 hS33 dX7_byTurns_41
  · have hf310 := if_at_t c15 hf13
    clear hf13
    refine lv_ldc (v := -1000002) hx hb X.2.2.2.1 (X.2.2.2.2.1 _ wd_1062) dX7_byTurns_12 ?_
    obtain ⟨rfl, rfl⟩ := ret_inj hf310
    exact x_iret X hr hlocks hP11 hS12 dX7_byTurns_14
set_option maxRecDepth 100000 in
set_option maxHeartbeats 4000000 in
theorem tX7_rowFound (l : Launch) {g : Gx} (hI : InjG g) {h k k1 : Hp} {a1 : Int32} {a2 : Int32} {a3 : Int32} {r : Int32}   (hf : fX7_rowFound a1 a2 a3 k = some (r, k1)) : CI l yX7_rowFound cX7_rowFound 4 (some .int) 1 g [.ref (g.2.2 246), .int a1, .int a2, .int a3] h k h k1 r := by
  refine Met.ofW (cc := cX7_rowFound) (maxL := 4) (ret := (some .int)) (by decide) rfl ?_
  intro p en s m args below meth c s₁ B hml hv
  obtain ⟨rfl, hSK, hSH, hP⟩ := hv
  have X : Cx p s m _ c cX7_rowFound 4 RX7 g := ⟨B.exec, B.bytes, hml, findClass_of_methodNamed B.named, fun w hw => atoms_spec (ws := wsy yX7_rowFound cX7_rowFound 4 (some .int)) B.pre w (List.mem_cons_of_mem _ hw), hSK, hI, hSH⟩
  have hr := B.returns
  have hlocks := B.notSynchronized
  have hx := X.1
  have hb := X.2.1
  have hS : va_S (inA g) s.heap s.heap [] := va_S.rf
  clear hSK hSH hml B
  have hl := lv_entry ([.ref (g.2.2 246), .int a1, .int a2, .int a3]) (n := 4) (Nat.le_of_ble_eq_true rfl)
  rw [lg_entry_eq]
  generalize (lg_sl ([.ref (g.2.2 246), .int a1, .int a2, .int a3]) ++ List.replicate (4 - (lg_sl ([.ref (g.2.2 246), .int a1, .int a2, .int a3])).length) Slot.unset).toArray = ls at hl ⊢
  have hl : lv_has ls 4 [(0, .ref (g.2.2 246)), (1, .int a1), (2, .int a2), (3, .int a3)] := hl
  generalize ([.ref (g.2.2 246), .int a1, .int a2, .int a3] : List Value).toArray = args at X ⊢
  show W p l en (rmD 1) s m args below meth c s.heap [] 0 0 (MQ below (QI g h k1 r) args s 0 0 (inA g)) (F0 m 0 ls [])
  unfold fX7_rowFound at hf
  refine lv_aload_n hx hb dX7_rowFound_0 rfl (lv_at hl 0 rfl) ?_
  refine gX7 X hP 2 (v := .ref (g.2.2 247)) rfl (by decide) rfl wd_885 dX7_rowFound_1 ?_
  refine lv_iload_n hx hb dX7_rowFound_4 rfl (lv_at hl 1 rfl) ?_
  obtain ⟨hc1, hf2⟩ := chk_some hf
  refine x_ildM X hP 247 rfl hc1 dX7_rowFound_5 ?_
  refine lv_if_ge (tgt := 15) hx hb dX7_rowFound_6 (by decide) (fun c3 => ?_) (fun c3 => ?_)
  · have hf4 := if_at_t c3 hf2
    clear hf2
    refine lv_iload_n hx hb dX7_rowFound_15 rfl (lv_at hl 2 rfl) ?_
    obtain ⟨J35_5, eJ35_5, hf22⟩ := jp_at hf4
    clear hf4
    have hJ35_5 : ∀  (kk6 : Hp) (H7 : Heap) (lc8 : List Loc) (ls9 : Array Slot), J35_5  kk6 = some (r, k1) → va_P g.1 vwCl (WW g h kk6) H7 → va_S (inA g) s.heap H7 lc8 → lv_has ls9 4 [(0, .ref (g.2.2 246))] → W p l en (rmD 1) s m args below meth c H7 lc8 0 0 (MQ below (QI g h k1 r) args s 0 0 (inA g)) (F0 m 35 ls9 []) := by
      intro  kk6 H7 lc8 ls9 hf13 hP10 hS11 hl12
      clear hf22 hP hS hl
      subst eJ35_5
      refine lv_aload_n hx hb dX7_rowFound_35 rfl (lv_at hl12 0 rfl) ?_
      refine lv_iconst (v := 2) hx hb dX7_rowFound_36 (by decide) ?_
      obtain ⟨x14, kk15, hg21, hf20⟩ := bd_some hf13
      refine x_ci (x_runV (As := [.int (2 : Int32)]) (rest := []) X hP10 hS11 246 (by decide) cl_M rfl (tX7_finding l X.2.2.2.2.2.2.1  hg21) mi_X7_68 rfl hl12.1 rfl (Nat.le_of_ble_eq_true rfl) dX7_rowFound_37 ⟨Nat.le_of_ble_eq_true rfl, Nat.le_of_ble_eq_true rfl⟩ ⟨Nat.zero_le _, Nat.zero_le _⟩) hS11 (fun H16 lc17 hP18 hS19 => ?_)
      clear hf13 hP10 hS11 hg21
      obtain ⟨rfl, rfl⟩ := ret_inj hf20
      exact x_iret X hr hlocks hP18 hS19 dX7_rowFound_40
    clear eJ35_5
    refine lv_if_lt (tgt := 35) hx hb dX7_rowFound_16 (by decide) (fun c23 => ?_) (fun c23 => ?_)
    · have hf24 := if_at_t c23 hf22
      clear hf22
      exact hJ35_5 k  _ _ _ hf24 hP hS (lv_sub hl [0] rfl)
    · have hf25 := if_at_f c23 hf22
      clear hf22
      refine lv_iload_n hx hb dX7_rowFound_19 rfl (lv_at hl 2 rfl) ?_
      refine lv_i2l hx hb dX7_rowFound_20 rfl ?_
      refine lv_iload_n hx hb dX7_rowFound_21 rfl (lv_at hl 3 rfl) ?_
      refine lv_i2l hx hb dX7_rowFound_22 rfl ?_
      refine lv_ladd hx hb dX7_rowFound_23 ?_
      refine lv_aload_n hx hb dX7_rowFound_24 rfl (lv_at hl 0 rfl) ?_
      refine gX7 X hP 3 (v := .ref (g.2.2 248)) rfl (by decide) rfl wd_886 dX7_rowFound_25 ?_
      refine lv_iload_n hx hb dX7_rowFound_28 rfl (lv_at hl 1 rfl) ?_
      obtain ⟨hc26, hf27⟩ := chk_some hf25
      refine x_ildM X hP 248 rfl hc26 dX7_rowFound_29 ?_
      refine lv_i2l hx hb dX7_rowFound_30 rfl ?_
      refine W.lcmp hx hb dX7_rowFound_31 ?_
      refine lv_if_le (tgt := 41) hx hb dX7_rowFound_32 (by decide) (fun c28 => ?_) (fun c28 => ?_)
      · have hf29 := if_at_t c28 hf27
        clear hf27
        refine lv_aload_n hx hb dX7_rowFound_41 rfl (lv_at hl 0 rfl) ?_
        refine lv_iconst (v := 0) hx hb dX7_rowFound_42 (by decide) ?_
        refine pX7 X hP hS 1 (by decide) rfl wd_884 rfl rfl rfl rfl seX7_1 dX7_rowFound_43 (fun H30 lc31 kk32 ekk32 hP33 hS34 => ?_)
        have hf35 := lk_at ekk32 hf29
        clear hf29 hP hS
        refine lv_iconst (v := 0) hx hb dX7_rowFound_46 (by decide) ?_
        obtain ⟨rfl, rfl⟩ := ret_inj hf35
        exact x_iret X hr hlocks hP33 hS34 dX7_rowFound_47
      · have hf36 := if_at_f c28 hf27
        clear hf27
        exact hJ35_5 k  _ _ _ hf36 hP hS (lv_sub hl [0] rfl)
  · have hf37 := if_at_f c3 hf2
    clear hf2
    refine lv_aload_n hx hb dX7_rowFound_9 rfl (lv_at hl 0 rfl) ?_
    refine lv_iconst (v := 1) hx hb dX7_rowFound_10 (by decide) ?_
    obtain ⟨x38, kk39, hg45, hf44⟩ := bd_some hf37
    refine x_ci (x_runV (As := [.int (1 : Int32)]) (rest := []) X hP hS 246 (by decide) cl_M rfl (tX7_finding l X.2.2.2.2.2.2.1  hg45) mi_X7_68 rfl hl.1 rfl (Nat.le_of_ble_eq_true rfl) dX7_rowFound_11 ⟨Nat.le_of_ble_eq_true rfl, Nat.le_of_ble_eq_true rfl⟩ ⟨Nat.zero_le _, Nat.zero_le _⟩) hS (fun H40 lc41 hP42 hS43 => ?_)
    clear hf37 hP hS hg45
    obtain ⟨rfl, rfl⟩ := ret_inj hf44
    exact x_iret X hr hlocks hP42 hS43 dX7_rowFound_14
set_option maxRecDepth 100000 in
set_option maxHeartbeats 4000000 in
theorem tX7_isMany (l : Launch) {g : Gx} (hI : InjG g) {h k k1 : Hp} {a1 : Int32} {a2 : Int32} {r : Int32}   (hf : fX7_isMany a1 a2 k = some (r, k1)) : CI l yX7_isMany cX7_isMany 2 (some .boolean) 2 g [.int a1, .int a2] h k h k1 r := by
  refine Met.ofW (cc := cX7_isMany) (maxL := 2) (ret := (some .boolean)) (by decide) rfl ?_
  intro p en s m args below meth c s₁ B hml hv
  obtain ⟨rfl, hSK, hSH, hP⟩ := hv
  have X : Cx p s m _ c cX7_isMany 2 RX7 g := ⟨B.exec, B.bytes, hml, findClass_of_methodNamed B.named, fun w hw => atoms_spec (ws := wsy yX7_isMany cX7_isMany 2 (some .boolean)) B.pre w (List.mem_cons_of_mem _ hw), hSK, hI, hSH⟩
  have hr := B.returns
  have hlocks := B.notSynchronized
  have hx := X.1
  have hb := X.2.1
  have hS : va_S (inA g) s.heap s.heap [] := va_S.rf
  clear hSK hSH hml B
  have hl := lv_entry ([.int a1, .int a2]) (n := 2) (Nat.le_of_ble_eq_true rfl)
  rw [lg_entry_eq]
  generalize (lg_sl ([.int a1, .int a2]) ++ List.replicate (2 - (lg_sl ([.int a1, .int a2])).length) Slot.unset).toArray = ls at hl ⊢
  have hl : lv_has ls 2 [(0, .int a1), (1, .int a2)] := hl
  generalize ([.int a1, .int a2] : List Value).toArray = args at X ⊢
  show W p l en (rmD 2) s m args below meth c s.heap [] 0 0 (MQ below (QI g h k1 r) args s 0 0 (inA g)) (F0 m 0 ls [])
  unfold fX7_isMany at hf
  refine lv_iload_n hx hb dX7_isMany_0 rfl (lv_at hl 0 rfl) ?_
  obtain ⟨x1, kk2, hg8, hf7⟩ := bd_some hf
  refine x_ci (x_runS (As := [.int a1]) (rest := []) X hP hS (tX7_isRow l X.2.2.2.2.2.2.1  hg8) mi_X7_61 rfl hl.1 rfl (Nat.le_of_ble_eq_true rfl) dX7_isMany_1 ⟨Nat.le_of_ble_eq_true rfl, Nat.le_of_ble_eq_true rfl⟩ ⟨Nat.zero_le _, Nat.zero_le _⟩) hS (fun H3 lc4 hP5 hS6 => ?_)
  clear hf hP hS hg8
  refine lv_if_eq (tgt := 23) hx hb dX7_isMany_4 (by decide) (fun c9 => ?_) (fun c9 => ?_)
  · have hf10 := if_at_t c9 hf7
    clear hf7
    refine lv_iconst (v := 0) hx hb dX7_isMany_23 (by decide) ?_
    obtain ⟨rfl, rfl⟩ := ret_inj hf10
    exact x_zret X hr hlocks rfl hP5 hS6 dX7_isMany_24
  · have hf11 := if_at_f c9 hf7
    clear hf7
    refine lv_iload_n hx hb dX7_isMany_7 rfl (lv_at hl 1 rfl) ?_
    refine lv_i2l hx hb dX7_isMany_8 rfl ?_
    refine lv_lconst (v := 1) hx hb dX7_isMany_9 (by decide) ?_
    refine lv_ldc2 (v := 12) hx hb X.2.2.2.1 (X.2.2.2.2.1 _ wd_1239) dX7_isMany_10 ?_
    obtain ⟨x12, kk13, hg19, hf18⟩ := bd_some hf11
    refine x_ci (x_runS (As := [.long a2.toInt64, .long (1 : Int64), .long (12 : Int64)]) (rest := []) X hP5 hS6 (tX7_in l X.2.2.2.2.2.2.1  hg19) mi_X7_57 rfl hl.1 rfl (Nat.le_of_ble_eq_true rfl) dX7_isMany_13 ⟨Nat.le_of_ble_eq_true rfl, Nat.le_of_ble_eq_true rfl⟩ ⟨Nat.zero_le _, Nat.zero_le _⟩) hS6 (fun H14 lc15 hP16 hS17 => ?_)
    clear hf11 hP5 hS6 hg19
    refine lv_if_eq (tgt := 23) hx hb dX7_isMany_16 (by decide) (fun c20 => ?_) (fun c20 => ?_)
    · have hf21 := if_at_t c20 hf18
      clear hf18
      refine lv_iconst (v := 0) hx hb dX7_isMany_23 (by decide) ?_
      obtain ⟨rfl, rfl⟩ := ret_inj hf21
      exact x_zret X hr hlocks rfl hP16 hS17 dX7_isMany_24
    · have hf22 := if_at_f c20 hf18
      clear hf18
      refine lv_iconst (v := 1) hx hb dX7_isMany_19 (by decide) ?_
      refine lv_goto (tgt := 24) hx hb dX7_isMany_20 (by decide) ?_
      obtain ⟨rfl, rfl⟩ := ret_inj hf22
      exact x_zret X hr hlocks rfl hP16 hS17 dX7_isMany_24
set_option maxRecDepth 100000 in
set_option maxHeartbeats 4000000 in
theorem wX7_allSo_L30 {p : Program} {l : Launch} {en : Env} {s : State} {m : MethodId} {args : Array Value} {below : List Frame} {meth : Method} {c : Code} {g : Gx} (X : Cx p s m args c cX7_allSo 10 RX7 g) (hr : meth.sig.returnType = (some .int)) (hlocks : meth.locks = false) {h k1 : Hp} {r : Int32} {v1 : Int32} {v3 : Int32} {v4 : Int32} {v5 : Int32} {v6 : Int32} {v7 : Int32}  {K88 : Int32 → Hp → Option (Int32 × Hp)}
    (hK88 : ∀ (v8 : Int32) (k : Hp) (H : Heap) (locs : List Loc) (ls : Array Slot), K88 v8 k = some (r, k1) → va_P g.1 vwCl (WW g h k) H → va_S (inA g) s.heap H locs → lv_has ls 10 [(0, .ref (g.2.2 246)), (1, .int v1), (3, .int v3), (4, .int v4), (5, .int v5), (6, .int v6), (7, .int v7), (8, .int v8)] → W p l en (rmD 4) s m args below meth c H locs 0 0 (MQ below (QI g h k1 r) args s 0 0 (inA g)) (F0 m 88 ls [])) :
    ∀ (n : Nat) (v8 : Int32) (v9 : Int32) (k : Hp) (H : Heap) (locs : List Loc) (ls : Array Slot), fX7_allSo_L30 K88 n v1 v3 v4 v5 v6 v7 v8 v9 k = some (r, k1) → va_P g.1 vwCl (WW g h k) H → va_S (inA g) s.heap H locs → lv_has ls 10 [(0, .ref (g.2.2 246)), (1, .int v1), (3, .int v3), (4, .int v4), (5, .int v5), (6, .int v6), (7, .int v7), (8, .int v8), (9, .int v9)] → W p l en (rmD 4) s m args below meth c H locs 0 0 (MQ below (QI g h k1 r) args s 0 0 (inA g)) (F0 m 30 ls []) := by
  have hx := X.1
  have hb := X.2.1
  intro n
  induction n with
  | zero => intro v8 v9 k H locs ls  hf; simp only [fX7_allSo_L30, reduceCtorEq] at hf
  | succ n ih =>
    intro v8 v9 k H locs ls  hf hP hS hl
    rw [fX7_allSo_L30] at hf
    refine lv_iload hx hb dX7_allSo_30 (lv_at hl 8 rfl) ?_
    refine lv_iload hx hb dX7_allSo_32 (lv_at hl 4 rfl) ?_
    refine lv_icmp_ge (tgt := 88) hx hb dX7_allSo_34 (by decide) (fun c28 => ?_) (fun c28 => ?_)
    · have hf29 := if_at_t c28 hf
      clear hf
      exact hK88 v8 k  _ _ _ hf29 hP hS (lv_sub hl [0, 1, 2, 3, 4, 5, 6, 7] rfl)
    · have hf30 := if_at_f c28 hf
      clear hf
      refine lv_aload_n hx hb dX7_allSo_37 rfl (lv_at hl 0 rfl) ?_
      refine gX7 X hP 7 (v := .ref (g.2.2 252)) rfl (by decide) rfl wd_890 dX7_allSo_38 ?_
      obtain ⟨⟨⟩, kk32, hg38, hf37⟩ := bd_some hf30
      refine x_cv (x_runS (As := [.ref (g.2.2 252)]) (rest := []) X hP hS (tX7_hourOf l X.2.2.2.2.2.2.1 (rfl : isMA 252 = true) hg38) mi_X7_183 rfl hl.1 rfl (Nat.le_of_ble_eq_true rfl) dX7_allSo_41 ⟨Nat.le_of_ble_eq_true rfl, Nat.le_of_ble_eq_true rfl⟩ ⟨Nat.zero_le _, Nat.zero_le _⟩) hS (fun H33 lc34 hP35 hS36 => ?_)
      clear hf30 hP hS hg38
      refine lv_iload hx hb dX7_allSo_44 (lv_at hl 7 rfl) ?_
      obtain ⟨J80_39, eJ80_39, hf54⟩ := jp_at hf37
      clear hf37
      have hJ80_39 : ∀ (J80_39s0 : Int32) (kk40 : Hp) (H41 : Heap) (lc42 : List Loc) (ls43 : Array Slot), J80_39 J80_39s0 kk40 = some (r, k1) → va_P g.1 vwCl (WW g h kk40) H41 → va_S (inA g) s.heap H41 lc42 → lv_has ls43 10 [(0, .ref (g.2.2 246)), (1, .int v1), (3, .int v3), (4, .int v4), (5, .int v5), (6, .int v6), (7, .int v7), (9, .int v9)] → W p l en (rmD 4) s m args below meth c H41 lc42 0 0 (MQ below (QI g h k1 r) args s 0 0 (inA g)) (F0 m 80 ls43 [.int J80_39s0]) := by
        intro J80_39s0 kk40 H41 lc42 ls43 hf47 hP44 hS45 hl46
        clear hf54 hP35 hS36 hl
        subst eJ80_39
        refine lv_istore (lv' := [(8, .int J80_39s0), (0, .ref (g.2.2 246)), (1, .int v1), (3, .int v3), (4, .int v4), (5, .int v5), (6, .int v6), (7, .int v7), (9, .int v9)]) hx hb dX7_allSo_80 hl46 (by decide) rfl (fun ls48 hl49 => ?_)
        clear hl46
        obtain ⟨x50, ex50⟩ : ∃ q : Int32, q = v9 + (1 : Int32) := ⟨_, rfl⟩
        have hf51 := lk_at ex50 hf47
        clear hf47
        refine lv_iinc (v := x50) (lv' := [(9, .int x50), (8, .int J80_39s0), (0, .ref (g.2.2 246)), (1, .int v1), (3, .int v3), (4, .int v4), (5, .int v5), (6, .int v6), (7, .int v7)]) hx hb dX7_allSo_82 hl49 (k := 8) rfl (by rw [ex50]; rfl) (by decide) rfl (fun ls52 hl53 => ?_)
        clear hl49
        refine lv_goto (tgt := 30) hx hb dX7_allSo_85 (by decide) ?_
        exact ih J80_39s0 x50 kk40  _ _ _ hf51 hP44 hS45 (lv_sub hl53 [2, 3, 4, 5, 6, 7, 8, 1, 0] rfl)
      clear eJ80_39
      obtain ⟨J79_55, eJ79_55, hf64⟩ := jp_at hf54
      clear hf54
      have hJ79_55 : ∀  (kk56 : Hp) (H57 : Heap) (lc58 : List Loc) (ls59 : Array Slot), J79_55  kk56 = some (r, k1) → va_P g.1 vwCl (WW g h kk56) H57 → va_S (inA g) s.heap H57 lc58 → lv_has ls59 10 [(0, .ref (g.2.2 246)), (1, .int v1), (3, .int v3), (4, .int v4), (5, .int v5), (6, .int v6), (7, .int v7), (9, .int v9)] → W p l en (rmD 4) s m args below meth c H57 lc58 0 0 (MQ below (QI g h k1 r) args s 0 0 (inA g)) (F0 m 79 ls59 []) := by
        intro  kk56 H57 lc58 ls59 hf63 hP60 hS61 hl62
        clear hf64 hP35 hS36 hl
        subst eJ79_55
        refine lv_iconst (v := 0) hx hb dX7_allSo_79 (by decide) ?_
        exact hJ80_39 (0 : Int32) kk56  _ _ _ hf63 hP60 hS61 (lv_sub hl62 [0, 1, 2, 3, 4, 5, 6, 7] rfl)
      clear eJ79_55
      refine lv_if_eq (tgt := 79) hx hb dX7_allSo_46 (by decide) (fun c65 => ?_) (fun c65 => ?_)
      · have hf66 := if_at_t c65 hf64
        clear hf64
        exact hJ79_55 kk32  _ _ _ hf66 hP35 hS36 (lv_sub hl [0, 1, 2, 3, 4, 5, 6, 8] rfl)
      · have hf67 := if_at_f c65 hf64
        clear hf64
        refine lv_aload_n hx hb dX7_allSo_49 rfl (lv_at hl 0 rfl) ?_
        refine gX7 X hP35 7 (v := .ref (g.2.2 252)) rfl (by decide) rfl wd_890 dX7_allSo_50 ?_
        refine lv_aload_n hx hb dX7_allSo_53 rfl (lv_at hl 0 rfl) ?_
        refine gX7 X hP35 7 (v := .ref (g.2.2 252)) rfl (by decide) rfl wd_890 dX7_allSo_54 ?_
        refine lv_iconst (v := 4) hx hb dX7_allSo_57 (by decide) ?_
        obtain ⟨hc68, hf69⟩ := chk_some hf67
        refine x_ildM X hP35 252 rfl hc68 dX7_allSo_58 ?_
        obtain ⟨x70, kk71, hg77, hf76⟩ := bd_some hf69
        refine x_ci (x_runS (As := [.ref (g.2.2 252), .int (kk32 252 (4 : Int32).toNatClampNeg)]) (rest := []) X hP35 hS36 (tX7_overOf l X.2.2.2.2.2.2.1 (rfl : isMA 252 = true) hg77) mi_X7_226 rfl hl.1 rfl (Nat.le_of_ble_eq_true rfl) dX7_allSo_59 ⟨Nat.le_of_ble_eq_true rfl, Nat.le_of_ble_eq_true rfl⟩ ⟨Nat.zero_le _, Nat.zero_le _⟩) hS36 (fun H72 lc73 hP74 hS75 => ?_)
        clear hf69 hP35 hS36 hg77
        refine lv_aload_n hx hb dX7_allSo_62 rfl (lv_at hl 0 rfl) ?_
        refine gX7 X hP74 4 (v := .ref (g.2.2 249)) rfl (by decide) rfl wd_887 dX7_allSo_63 ?_
        refine lv_iload hx hb dX7_allSo_66 (lv_at hl 3 rfl) ?_
        refine lv_iload hx hb dX7_allSo_68 (lv_at hl 8 rfl) ?_
        refine lv_iadd hx hb dX7_allSo_70 ?_
        obtain ⟨hc78, hf79⟩ := chk_some hf76
        refine x_ildM X hP74 249 rfl hc78 dX7_allSo_71 ?_
        refine lv_icmp_ne (tgt := 79) hx hb dX7_allSo_72 (by decide) (fun c80 => ?_) (fun c80 => ?_)
        · have hf81 := if_at_f c80 hf79
          clear hf79
          exact hJ79_55 kk71  _ _ _ hf81 hP74 hS75 (lv_sub hl [0, 1, 2, 3, 4, 5, 6, 8] rfl)
        · have hf82 := if_at_t c80 hf79
          clear hf79
          refine lv_iconst (v := 1) hx hb dX7_allSo_75 (by decide) ?_
          refine lv_goto (tgt := 80) hx hb dX7_allSo_76 (by decide) ?_
          exact hJ80_39 (1 : Int32) kk71  _ _ _ hf82 hP74 hS75 (lv_sub hl [0, 1, 2, 3, 4, 5, 6, 8] rfl)
set_option maxRecDepth 100000 in
set_option maxHeartbeats 4000000 in
theorem wX7_allSo_L6 {p : Program} {l : Launch} {en : Env} {s : State} {m : MethodId} {args : Array Value} {below : List Frame} {meth : Method} {c : Code} {g : Gx} (X : Cx p s m args c cX7_allSo 10 RX7 g) (hr : meth.sig.returnType = (some .int)) (hlocks : meth.locks = false) {h k1 : Hp} {r : Int32} {v1 : Int32} {v3 : Int32} {v4 : Int32} {v5 : Int32}  
     :
    ∀ (n : Nat) (v6 : Int32) (v7 : Int32) (k : Hp) (H : Heap) (locs : List Loc) (ls : Array Slot), fX7_allSo_L6 n v1 v3 v4 v5 v6 v7 k = some (r, k1) → va_P g.1 vwCl (WW g h k) H → va_S (inA g) s.heap H locs → lv_has ls 10 [(0, .ref (g.2.2 246)), (1, .int v1), (3, .int v3), (4, .int v4), (5, .int v5), (6, .int v6), (7, .int v7)] → W p l en (rmD 4) s m args below meth c H locs 0 0 (MQ below (QI g h k1 r) args s 0 0 (inA g)) (F0 m 6 ls []) := by
  have hx := X.1
  have hb := X.2.1
  intro n
  induction n with
  | zero => intro v6 v7 k H locs ls  hf; simp only [fX7_allSo_L6, reduceCtorEq] at hf
  | succ n ih =>
    intro v6 v7 k H locs ls  hf hP hS hl
    rw [fX7_allSo_L6] at hf
    refine lv_iload hx hb dX7_allSo_6 (lv_at hl 6 rfl) ?_
    refine lv_iload_n hx hb dX7_allSo_8 rfl (lv_at hl 2 rfl) ?_
    refine lv_icmp_gt (tgt := 112) hx hb dX7_allSo_9 (by decide) (fun c5 => ?_) (fun c5 => ?_)
    · have hf6 := if_at_t c5 hf
      clear hf
      refine lv_iload hx hb dX7_allSo_112 (lv_at hl 5 rfl) ?_
      obtain ⟨rfl, rfl⟩ := ret_inj hf6
      exact x_iret X hr hlocks hP hS dX7_allSo_114
    · have hf7 := if_at_f c5 hf
      clear hf
      refine lv_aload_n hx hb dX7_allSo_12 rfl (lv_at hl 0 rfl) ?_
      obtain ⟨⟨⟩, kk9, hg15, hf14⟩ := bd_some hf7
      refine x_cv (x_runV (As := []) (rest := []) X hP hS 246 (by decide) cl_M rfl (tX7_layThen l X.2.2.2.2.2.2.1  hg15) mi_X7_231 rfl hl.1 rfl (Nat.le_of_ble_eq_true rfl) dX7_allSo_13 ⟨Nat.le_of_ble_eq_true rfl, Nat.le_of_ble_eq_true rfl⟩ ⟨Nat.zero_le _, Nat.zero_le _⟩) hS (fun H10 lc11 hP12 hS13 => ?_)
      clear hf7 hP hS hg15
      refine lv_aload_n hx hb dX7_allSo_16 rfl (lv_at hl 0 rfl) ?_
      refine gX7 X hP12 7 (v := .ref (g.2.2 252)) rfl (by decide) rfl wd_890 dX7_allSo_17 ?_
      refine lv_iload_n hx hb dX7_allSo_20 rfl (lv_at hl 1 rfl) ?_
      refine lv_iload hx hb dX7_allSo_21 (lv_at hl 6 rfl) ?_
      obtain ⟨hc16, hf17⟩ := chk_some hf14
      refine x_istM X hP12 hS13 252 rfl hc16 dX7_allSo_23 (fun H18 lc19 kk20 ekk20 hP21 hS22 => ?_)
      have hf23 := lk_at ekk20 hf17
      clear hf17 hP12 hS13
      refine lv_iconst (v := 1) hx hb dX7_allSo_24 (by decide) ?_
      refine lv_istore (lv' := [(8, .int (1 : Int32)), (0, .ref (g.2.2 246)), (1, .int v1), (3, .int v3), (4, .int v4), (5, .int v5), (6, .int v6), (7, .int v7)]) hx hb dX7_allSo_25 hl (by decide) rfl (fun ls24 hl25 => ?_)
      clear hl
      refine lv_iconst (v := 0) hx hb dX7_allSo_27 (by decide) ?_
      refine lv_istore (lv' := [(9, .int (0 : Int32)), (8, .int (1 : Int32)), (0, .ref (g.2.2 246)), (1, .int v1), (3, .int v3), (4, .int v4), (5, .int v5), (6, .int v6), (7, .int v7)]) hx hb dX7_allSo_28 hl25 (by decide) rfl (fun ls26 hl27 => ?_)
      clear hl25
      refine wX7_allSo_L30 X hr hlocks  ?_ 4096 (1 : Int32) (0 : Int32) kk20 _ _ _  hf23 hP21 hS22 (lv_sub hl27 [2, 3, 4, 5, 6, 7, 8, 1, 0] rfl)
      · intro x83 kk84 H85 lc86 ls87  hf91 hP88 hS89 hl90
        refine lv_iload hx hb dX7_allSo_88 (lv_at hl90 5 rfl) ?_
        refine lv_iload hx hb dX7_allSo_90 (lv_at hl90 7 rfl) ?_
        obtain ⟨J103_92, eJ103_92, hf109⟩ := jp_at hf91
        clear hf91
        have hJ103_92 : ∀ (J103_92s0 : Int32) (kk93 : Hp) (H94 : Heap) (lc95 : List Loc) (ls96 : Array Slot), J103_92 J103_92s0 kk93 = some (r, k1) → va_P g.1 vwCl (WW g h kk93) H94 → va_S (inA g) s.heap H94 lc95 → lv_has ls96 10 [(0, .ref (g.2.2 246)), (1, .int v1), (3, .int v3), (4, .int v4), (5, .int v5), (7, .int v7)] → W p l en (rmD 4) s m args below meth c H94 lc95 0 0 (MQ below (QI g h k1 r) args s 0 0 (inA g)) (F0 m 103 ls96 [.int J103_92s0, .int v6]) := by
          intro J103_92s0 kk93 H94 lc95 ls96 hf100 hP97 hS98 hl99
          clear hf109 hP88 hS89 hl90
          subst eJ103_92
          refine lv_ior hx hb dX7_allSo_103 ?_
          refine lv_topi (fun x101 ex101 => ?_)
          have hf102 := lk_at ex101 hf100
          clear hf100
          refine lv_istore (lv' := [(6, .int x101), (0, .ref (g.2.2 246)), (1, .int v1), (3, .int v3), (4, .int v4), (5, .int v5), (7, .int v7)]) hx hb dX7_allSo_104 hl99 (by decide) rfl (fun ls103 hl104 => ?_)
          clear hl99
          obtain ⟨x105, ex105⟩ : ∃ q : Int32, q = v7 + (1 : Int32) := ⟨_, rfl⟩
          have hf106 := lk_at ex105 hf102
          clear hf102
          refine lv_iinc (v := x105) (lv' := [(7, .int x105), (6, .int x101), (0, .ref (g.2.2 246)), (1, .int v1), (3, .int v3), (4, .int v4), (5, .int v5)]) hx hb dX7_allSo_106 hl104 (k := 6) rfl (by rw [ex105]; rfl) (by decide) rfl (fun ls107 hl108 => ?_)
          clear hl104
          refine lv_goto (tgt := 6) hx hb dX7_allSo_109 (by decide) ?_
          exact ih x101 x105 kk93  _ _ _ hf106 hP97 hS98 (lv_sub hl108 [2, 3, 4, 5, 6, 1, 0] rfl)
        clear eJ103_92
        refine lv_if_eq (tgt := 102) hx hb dX7_allSo_92 (by decide) (fun c110 => ?_) (fun c110 => ?_)
        · have hf111 := if_at_t c110 hf109
          clear hf109
          refine lv_iconst (v := 0) hx hb dX7_allSo_102 (by decide) ?_
          exact hJ103_92 (0 : Int32) kk84  _ _ _ hf111 hP88 hS89 (lv_sub hl90 [0, 1, 2, 3, 4, 6] rfl)
        · have hf112 := if_at_f c110 hf109
          clear hf109
          refine lv_iconst (v := 1) hx hb dX7_allSo_95 (by decide) ?_
          refine lv_iload hx hb dX7_allSo_96 (lv_at hl90 6 rfl) ?_
          refine x_ishl X dX7_allSo_98 ?_
          refine lv_goto (tgt := 103) hx hb dX7_allSo_99 (by decide) ?_
          exact hJ103_92 (shlI (1 : Int32) v7) kk84  _ _ _ hf112 hP88 hS89 (lv_sub hl90 [0, 1, 2, 3, 4, 6] rfl)
set_option maxRecDepth 100000 in
set_option maxHeartbeats 4000000 in
theorem tX7_allSo (l : Launch) {g : Gx} (hI : InjG g) {h k k1 : Hp} {a1 : Int32} {a2 : Int32} {a3 : Int32} {a4 : Int32} {a5 : Int32} {r : Int32}   (hf : fX7_allSo a1 a2 a3 a4 a5 k = some (r, k1)) : CI l yX7_allSo cX7_allSo 10 (some .int) 4 g [.ref (g.2.2 246), .int a1, .int a2, .int a3, .int a4, .int a5] h k h k1 r := by
  refine Met.ofW (cc := cX7_allSo) (maxL := 10) (ret := (some .int)) (by decide) rfl ?_
  intro p en s m args below meth c s₁ B hml hv
  obtain ⟨rfl, hSK, hSH, hP⟩ := hv
  have X : Cx p s m _ c cX7_allSo 10 RX7 g := ⟨B.exec, B.bytes, hml, findClass_of_methodNamed B.named, fun w hw => atoms_spec (ws := wsy yX7_allSo cX7_allSo 10 (some .int)) B.pre w (List.mem_cons_of_mem _ hw), hSK, hI, hSH⟩
  have hr := B.returns
  have hlocks := B.notSynchronized
  have hx := X.1
  have hb := X.2.1
  have hS : va_S (inA g) s.heap s.heap [] := va_S.rf
  clear hSK hSH hml B
  have hl := lv_entry ([.ref (g.2.2 246), .int a1, .int a2, .int a3, .int a4, .int a5]) (n := 10) (Nat.le_of_ble_eq_true rfl)
  rw [lg_entry_eq]
  generalize (lg_sl ([.ref (g.2.2 246), .int a1, .int a2, .int a3, .int a4, .int a5]) ++ List.replicate (10 - (lg_sl ([.ref (g.2.2 246), .int a1, .int a2, .int a3, .int a4, .int a5])).length) Slot.unset).toArray = ls at hl ⊢
  have hl : lv_has ls 10 [(0, .ref (g.2.2 246)), (1, .int a1), (2, .int a2), (3, .int a3), (4, .int a4), (5, .int a5)] := hl
  generalize ([.ref (g.2.2 246), .int a1, .int a2, .int a3, .int a4, .int a5] : List Value).toArray = args at X ⊢
  show W p l en (rmD 4) s m args below meth c s.heap [] 0 0 (MQ below (QI g h k1 r) args s 0 0 (inA g)) (F0 m 0 ls [])
  unfold fX7_allSo at hf
  refine lv_iconst (v := 0) hx hb dX7_allSo_0 (by decide) ?_
  refine lv_istore (lv' := [(6, .int (0 : Int32)), (0, .ref (g.2.2 246)), (1, .int a1), (2, .int a2), (3, .int a3), (4, .int a4), (5, .int a5)]) hx hb dX7_allSo_1 hl (by decide) rfl (fun ls1 hl2 => ?_)
  clear hl
  refine lv_iload_n hx hb dX7_allSo_3 rfl (lv_at hl2 3 rfl) ?_
  refine lv_istore (lv' := [(7, .int a2), (6, .int (0 : Int32)), (0, .ref (g.2.2 246)), (1, .int a1), (2, .int a2), (3, .int a3), (4, .int a4), (5, .int a5)]) hx hb dX7_allSo_4 hl2 (by decide) rfl (fun ls3 hl4 => ?_)
  clear hl2
  refine wX7_allSo_L6 X hr hlocks   4096 (0 : Int32) a2 k _ _ _  hf hP hS (lv_sub hl4 [2, 3, 5, 6, 7, 1, 0] rfl)
set_option maxRecDepth 100000 in
set_option maxHeartbeats 4000000 in
theorem tX7_who (l : Launch) {g : Gx} (hI : InjG g) {h k k1 : Hp} {a1 : Int32} {a2 : Int32} {a3 : Int32} {a4 : Int32} {a5 : Int32} {r : Int32}   (hf : fX7_who a1 a2 a3 a4 a5 k = some (r, k1)) : CI l yX7_who cX7_who 8 (some .int) 5 g [.ref (g.2.2 246), .int a1, .int a2, .int a3, .int a4, .int a5] h k h k1 r := by
  refine Met.ofW (cc := cX7_who) (maxL := 8) (ret := (some .int)) (by decide) rfl ?_
  intro p en s m args below meth c s₁ B hml hv
  obtain ⟨rfl, hSK, hSH, hP⟩ := hv
  have X : Cx p s m _ c cX7_who 8 RX7 g := ⟨B.exec, B.bytes, hml, findClass_of_methodNamed B.named, fun w hw => atoms_spec (ws := wsy yX7_who cX7_who 8 (some .int)) B.pre w (List.mem_cons_of_mem _ hw), hSK, hI, hSH⟩
  have hr := B.returns
  have hlocks := B.notSynchronized
  have hx := X.1
  have hb := X.2.1
  have hS : va_S (inA g) s.heap s.heap [] := va_S.rf
  clear hSK hSH hml B
  have hl := lv_entry ([.ref (g.2.2 246), .int a1, .int a2, .int a3, .int a4, .int a5]) (n := 8) (Nat.le_of_ble_eq_true rfl)
  rw [lg_entry_eq]
  generalize (lg_sl ([.ref (g.2.2 246), .int a1, .int a2, .int a3, .int a4, .int a5]) ++ List.replicate (8 - (lg_sl ([.ref (g.2.2 246), .int a1, .int a2, .int a3, .int a4, .int a5])).length) Slot.unset).toArray = ls at hl ⊢
  have hl : lv_has ls 8 [(0, .ref (g.2.2 246)), (1, .int a1), (2, .int a2), (3, .int a3), (4, .int a4), (5, .int a5)] := hl
  generalize ([.ref (g.2.2 246), .int a1, .int a2, .int a3, .int a4, .int a5] : List Value).toArray = args at X ⊢
  show W p l en (rmD 5) s m args below meth c s.heap [] 0 0 (MQ below (QI g h k1 r) args s 0 0 (inA g)) (F0 m 0 ls [])
  unfold fX7_who at hf
  refine lv_aload_n hx hb dX7_who_0 rfl (lv_at hl 0 rfl) ?_
  refine lv_iconst (v := 0) hx hb dX7_who_1 (by decide) ?_
  refine pX7 X hP hS 0 (by decide) rfl wd_883 rfl rfl rfl rfl seX7_0 dX7_who_2 (fun H1 lc2 kk3 ekk3 hP4 hS5 => ?_)
  have hf6 := lk_at ekk3 hf
  clear hf hP hS
  refine lv_aload_n hx hb dX7_who_5 rfl (lv_at hl 0 rfl) ?_
  refine lv_iload_n hx hb dX7_who_6 rfl (lv_at hl 1 rfl) ?_
  obtain ⟨x7, kk8, hg14, hf13⟩ := bd_some hf6
  refine x_ci (x_runV (As := [.int a1]) (rest := []) X hP4 hS5 246 (by decide) cl_M rfl (tX7_isSheet l X.2.2.2.2.2.2.1  hg14) mi_X7_212 rfl hl.1 rfl (Nat.le_of_ble_eq_true rfl) dX7_who_7 ⟨Nat.le_of_ble_eq_true rfl, Nat.le_of_ble_eq_true rfl⟩ ⟨Nat.zero_le _, Nat.zero_le _⟩) hS5 (fun H9 lc10 hP11 hS12 => ?_)
  clear hf6 hP4 hS5 hg14
  refine lv_if_eq (tgt := 34) hx hb dX7_who_10 (by decide) (fun c15 => ?_) (fun c15 => ?_)
  · have hf16 := if_at_t c15 hf13
    clear hf13
    refine lv_ldc (v := -1000001) hx hb X.2.2.2.1 (X.2.2.2.2.1 _ wd_969) dX7_who_34 ?_
    obtain ⟨rfl, rfl⟩ := ret_inj hf16
    exact x_iret X hr hlocks hP11 hS12 dX7_who_36
  · have hf17 := if_at_f c15 hf13
    clear hf13
    refine lv_iload_n hx hb dX7_who_13 rfl (lv_at hl 2 rfl) ?_
    refine lv_i2l hx hb dX7_who_14 rfl ?_
    refine lv_lconst (v := 0) hx hb dX7_who_15 (by decide) ?_
    refine lv_ldc2 (v := 2) hx hb X.2.2.2.1 (X.2.2.2.2.1 _ wd_968) dX7_who_16 ?_
    obtain ⟨x18, kk19, hg25, hf24⟩ := bd_some hf17
    refine x_ci (x_runS (As := [.long a2.toInt64, .long (0 : Int64), .long (2 : Int64)]) (rest := []) X hP11 hS12 (tX7_in l X.2.2.2.2.2.2.1  hg25) mi_X7_57 rfl hl.1 rfl (Nat.le_of_ble_eq_true rfl) dX7_who_19 ⟨Nat.le_of_ble_eq_true rfl, Nat.le_of_ble_eq_true rfl⟩ ⟨Nat.zero_le _, Nat.zero_le _⟩) hS12 (fun H20 lc21 hP22 hS23 => ?_)
    clear hf17 hP11 hS12 hg25
    refine lv_if_eq (tgt := 34) hx hb dX7_who_22 (by decide) (fun c26 => ?_) (fun c26 => ?_)
    · have hf27 := if_at_t c26 hf24
      clear hf24
      refine lv_ldc (v := -1000001) hx hb X.2.2.2.1 (X.2.2.2.2.1 _ wd_969) dX7_who_34 ?_
      obtain ⟨rfl, rfl⟩ := ret_inj hf27
      exact x_iret X hr hlocks hP22 hS23 dX7_who_36
    · have hf28 := if_at_f c26 hf24
      clear hf24
      refine lv_iload_n hx hb dX7_who_25 rfl (lv_at hl 3 rfl) ?_
      refine lv_iload hx hb dX7_who_26 (lv_at hl 5 rfl) ?_
      obtain ⟨x29, kk30, hg36, hf35⟩ := bd_some hf28
      refine x_ci (x_runS (As := [.int a3, .int a5]) (rest := []) X hP22 hS23 (tX7_isMany l X.2.2.2.2.2.2.1  hg36) mi_X7_263 rfl hl.1 rfl (Nat.le_of_ble_eq_true rfl) dX7_who_28 ⟨Nat.le_of_ble_eq_true rfl, Nat.le_of_ble_eq_true rfl⟩ ⟨Nat.zero_le _, Nat.zero_le _⟩) hS23 (fun H31 lc32 hP33 hS34 => ?_)
      clear hf28 hP22 hS23 hg36
      refine lv_if_ne (tgt := 37) hx hb dX7_who_31 (by decide) (fun c37 => ?_) (fun c37 => ?_)
      · have hf38 := if_at_f c37 hf35
        clear hf35
        refine lv_aload_n hx hb dX7_who_37 rfl (lv_at hl 0 rfl) ?_
        refine gX7 X hP33 5 (v := .ref (g.2.2 250)) rfl (by decide) rfl wd_888 dX7_who_38 ?_
        refine lv_iload_n hx hb dX7_who_41 rfl (lv_at hl 1 rfl) ?_
        obtain ⟨x39, kk40, hg46, hf45⟩ := bd_some hf38
        refine x_ci (x_runS (As := [.ref (g.2.2 250), .int a1]) (rest := []) X hP33 hS34 (tX7_isIn l X.2.2.2.2.2.2.1 (rfl : isMA 250 = true) hg46) mi_X7_156 rfl hl.1 rfl (Nat.le_of_ble_eq_true rfl) dX7_who_42 ⟨Nat.le_of_ble_eq_true rfl, Nat.le_of_ble_eq_true rfl⟩ ⟨Nat.zero_le _, Nat.zero_le _⟩) hS34 (fun H41 lc42 hP43 hS44 => ?_)
        clear hf38 hP33 hS34 hg46
        refine lv_if_ne (tgt := 51) hx hb dX7_who_45 (by decide) (fun c47 => ?_) (fun c47 => ?_)
        · have hf48 := if_at_f c47 hf45
          clear hf45
          refine lv_aload_n hx hb dX7_who_51 rfl (lv_at hl 0 rfl) ?_
          refine lv_iload_n hx hb dX7_who_52 rfl (lv_at hl 3 rfl) ?_
          refine lv_iload hx hb dX7_who_53 (lv_at hl 4 rfl) ?_
          refine lv_iload hx hb dX7_who_55 (lv_at hl 5 rfl) ?_
          obtain ⟨x49, kk50, hg56, hf55⟩ := bd_some hf48
          refine x_ci (x_runV (As := [.int a3, .int a4, .int a5]) (rest := []) X hP43 hS44 246 (by decide) cl_M rfl (tX7_rowFound l X.2.2.2.2.2.2.1  hg56) mi_X7_266 rfl hl.1 rfl (Nat.le_of_ble_eq_true rfl) dX7_who_57 ⟨Nat.le_of_ble_eq_true rfl, Nat.le_of_ble_eq_true rfl⟩ ⟨Nat.zero_le _, Nat.zero_le _⟩) hS44 (fun H51 lc52 hP53 hS54 => ?_)
          clear hf48 hP43 hS44 hg56
          refine lv_istore (lv' := [(6, .int x49), (0, .ref (g.2.2 246)), (1, .int a1), (2, .int a2), (3, .int a3), (4, .int a4), (5, .int a5)]) hx hb dX7_who_60 hl (by decide) rfl (fun ls57 hl58 => ?_)
          clear hl
          refine lv_iload hx hb dX7_who_62 (lv_at hl58 0 rfl) ?_
          refine lv_if_eq (tgt := 70) hx hb dX7_who_64 (by decide) (fun c59 => ?_) (fun c59 => ?_)
          · have hf60 := if_at_t c59 hf55
            clear hf55
            refine lv_bipush (v := 14) hx hb dX7_who_70 (by decide) ?_
            refine lv_bipush (v := 6) hx hb dX7_who_72 (by decide) ?_
            refine lv_iload_n hx hb dX7_who_74 rfl (lv_at hl58 2 rfl) ?_
            refine lv_imul hx hb dX7_who_75 ?_
            refine lv_iadd hx hb dX7_who_76 ?_
            refine lv_iload_n hx hb dX7_who_77 rfl (lv_at hl58 3 rfl) ?_
            obtain ⟨J95_61, eJ95_61, hf113⟩ := jp_at hf60
            clear hf60
            have hJ95_61 : ∀ (J95_61s0 : Int32) (kk62 : Hp) (H63 : Heap) (lc64 : List Loc) (ls65 : Array Slot), J95_61 J95_61s0 kk62 = some (r, k1) → va_P g.1 vwCl (WW g h kk62) H63 → va_S (inA g) s.heap H63 lc64 → lv_has ls65 8 [(0, .ref (g.2.2 246)), (2, .int a2), (3, .int a3), (4, .int a4), (5, .int a5)] → W p l en (rmD 5) s m args below meth c H63 lc64 0 0 (MQ below (QI g h k1 r) args s 0 0 (inA g)) (F0 m 95 ls65 [.int J95_61s0, .int ((14 : Int32) + ((6 : Int32) * a1))]) := by
              intro J95_61s0 kk62 H63 lc64 ls65 hf69 hP66 hS67 hl68
              clear hf113 hP53 hS54 hl58
              subst eJ95_61
              refine lv_iadd hx hb dX7_who_95 ?_
              refine lv_topi (fun x70 ex70 => ?_)
              have hf71 := lk_at ex70 hf69
              clear hf69
              refine lv_istore (lv' := [(7, .int x70), (0, .ref (g.2.2 246)), (2, .int a2), (3, .int a3), (4, .int a4), (5, .int a5)]) hx hb dX7_who_96 hl68 (by decide) rfl (fun ls72 hl73 => ?_)
              clear hl68
              refine lv_aload_n hx hb dX7_who_98 rfl (lv_at hl73 1 rfl) ?_
              refine lv_iload hx hb dX7_who_99 (lv_at hl73 0 rfl) ?_
              refine lv_iload_n hx hb dX7_who_101 rfl (lv_at hl73 2 rfl) ?_
              refine lv_iconst (v := 1) hx hb dX7_who_102 (by decide) ?_
              obtain ⟨J111_74, eJ111_74, hf109⟩ := jp_at hf71
              clear hf71
              have hJ111_74 : ∀ (J111_74s0 : Int32) (kk75 : Hp) (H76 : Heap) (lc77 : List Loc) (ls78 : Array Slot), J111_74 J111_74s0 kk75 = some (r, k1) → va_P g.1 vwCl (WW g h kk75) H76 → va_S (inA g) s.heap H76 lc77 → lv_has ls78 8 [(0, .ref (g.2.2 246)), (2, .int a2), (3, .int a3), (4, .int a4), (5, .int a5)] → W p l en (rmD 5) s m args below meth c H76 lc77 0 0 (MQ below (QI g h k1 r) args s 0 0 (inA g)) (F0 m 111 ls78 [.int J111_74s0, .int x70, .ref (g.2.2 246)]) := by
                intro J111_74s0 kk75 H76 lc77 ls78 hf82 hP79 hS80 hl81
                clear hf109 hP66 hS67 hl73
                subst eJ111_74
                refine lv_iload_n hx hb dX7_who_111 rfl (lv_at hl81 1 rfl) ?_
                obtain ⟨J137_83, eJ137_83, hf100⟩ := jp_at hf82
                clear hf82
                have hJ137_83 : ∀ (J137_83s0 : Int32) (kk84 : Hp) (H85 : Heap) (lc86 : List Loc) (ls87 : Array Slot), J137_83 J137_83s0 kk84 = some (r, k1) → va_P g.1 vwCl (WW g h kk84) H85 → va_S (inA g) s.heap H85 lc86 → lv_has ls87 8 [(3, .int a3), (4, .int a4), (5, .int a5)] → W p l en (rmD 5) s m args below meth c H85 lc86 0 0 (MQ below (QI g h k1 r) args s 0 0 (inA g)) (F0 m 137 ls87 [.int J137_83s0, .int J111_74s0, .int x70, .ref (g.2.2 246)]) := by
                  intro J137_83s0 kk84 H85 lc86 ls87 hf91 hP88 hS89 hl90
                  clear hf100 hP79 hS80 hl81
                  subst eJ137_83
                  refine lv_bipush (v := 40) hx hb dX7_who_137 (by decide) ?_
                  refine lv_iload_n hx hb dX7_who_139 rfl (lv_at hl90 0 rfl) ?_
                  refine lv_imul hx hb dX7_who_140 ?_
                  refine lv_iload hx hb dX7_who_141 (lv_at hl90 1 rfl) ?_
                  refine lv_iadd hx hb dX7_who_143 ?_
                  refine lv_iload hx hb dX7_who_144 (lv_at hl90 2 rfl) ?_
                  obtain ⟨x92, kk93, hg99, hf98⟩ := bd_some hf91
                  refine x_ci (x_runV (As := [.int x70, .int J111_74s0, .int J137_83s0, .int (((40 : Int32) * a3) + a4), .int a5]) (rest := []) X hP88 hS89 246 (by decide) cl_M rfl (tX7_allSo l X.2.2.2.2.2.2.1  hg99) mi_X7_270 rfl hl90.1 rfl (Nat.le_of_ble_eq_true rfl) dX7_who_146 ⟨Nat.le_of_ble_eq_true rfl, Nat.le_of_ble_eq_true rfl⟩ ⟨Nat.zero_le _, Nat.zero_le _⟩) hS89 (fun H94 lc95 hP96 hS97 => ?_)
                  clear hf91 hP88 hS89 hg99
                  obtain ⟨rfl, rfl⟩ := ret_inj hf98
                  exact x_iret X hr hlocks hP96 hS97 dX7_who_149
                clear eJ137_83
                refine lv_if_ne (tgt := 119) hx hb dX7_who_112 (by decide) (fun c101 => ?_) (fun c101 => ?_)
                · have hf102 := if_at_f c101 hf100
                  clear hf100
                  refine lv_iload_n hx hb dX7_who_119 rfl (lv_at hl81 1 rfl) ?_
                  refine lv_iconst (v := 1) hx hb dX7_who_120 (by decide) ?_
                  refine lv_icmp_ne (tgt := 135) hx hb dX7_who_121 (by decide) (fun c103 => ?_) (fun c103 => ?_)
                  · have hf104 := if_at_f c103 hf102
                    clear hf102
                    refine lv_bipush (v := 9) hx hb dX7_who_135 (by decide) ?_
                    exact hJ137_83 (9 : Int32) kk75  _ _ _ hf104 hP79 hS80 (lv_sub hl81 [2, 3, 4] rfl)
                  · have hf105 := if_at_t c103 hf102
                    clear hf102
                    refine lv_aload_n hx hb dX7_who_124 rfl (lv_at hl81 0 rfl) ?_
                    refine gX7 X hP79 5 (v := .ref (g.2.2 250)) rfl (by decide) rfl wd_888 dX7_who_125 ?_
                    refine lv_iconst (v := 2) hx hb dX7_who_128 (by decide) ?_
                    obtain ⟨hc106, hf107⟩ := chk_some hf105
                    refine x_ildM X hP79 250 rfl hc106 dX7_who_129 ?_
                    refine lv_iconst (v := 1) hx hb dX7_who_130 (by decide) ?_
                    refine lv_isub hx hb dX7_who_131 ?_
                    refine lv_goto (tgt := 137) hx hb dX7_who_132 (by decide) ?_
                    exact hJ137_83 ((kk75 250 (2 : Int32).toNatClampNeg) - (1 : Int32)) kk75  _ _ _ hf107 hP79 hS80 (lv_sub hl81 [2, 3, 4] rfl)
                · have hf108 := if_at_t c101 hf100
                  clear hf100
                  refine lv_iconst (v := 5) hx hb dX7_who_115 (by decide) ?_
                  refine lv_goto (tgt := 137) hx hb dX7_who_116 (by decide) ?_
                  exact hJ137_83 (5 : Int32) kk75  _ _ _ hf108 hP79 hS80 (lv_sub hl81 [2, 3, 4] rfl)
              clear eJ111_74
              refine lv_icmp_ne (tgt := 110) hx hb dX7_who_103 (by decide) (fun c110 => ?_) (fun c110 => ?_)
              · have hf111 := if_at_f c110 hf109
                clear hf109
                refine lv_iconst (v := 1) hx hb dX7_who_110 (by decide) ?_
                exact hJ111_74 (1 : Int32) kk62  _ _ _ hf111 hP66 hS67 (lv_sub hl73 [1, 2, 3, 4, 5] rfl)
              · have hf112 := if_at_t c110 hf109
                clear hf109
                refine lv_iconst (v := 0) hx hb dX7_who_106 (by decide) ?_
                refine lv_goto (tgt := 111) hx hb dX7_who_107 (by decide) ?_
                exact hJ111_74 (0 : Int32) kk62  _ _ _ hf112 hP66 hS67 (lv_sub hl73 [1, 2, 3, 4, 5] rfl)
            clear eJ95_61
            refine lv_if_ne (tgt := 85) hx hb dX7_who_78 (by decide) (fun c114 => ?_) (fun c114 => ?_)
            · have hf115 := if_at_f c114 hf113
              clear hf113
              refine lv_iload_n hx hb dX7_who_85 rfl (lv_at hl58 3 rfl) ?_
              refine lv_iconst (v := 1) hx hb dX7_who_86 (by decide) ?_
              refine lv_icmp_ne (tgt := 94) hx hb dX7_who_87 (by decide) (fun c116 => ?_) (fun c116 => ?_)
              · have hf117 := if_at_f c116 hf115
                clear hf115
                refine lv_iconst (v := 3) hx hb dX7_who_94 (by decide) ?_
                exact hJ95_61 (3 : Int32) kk50  _ _ _ hf117 hP53 hS54 (lv_sub hl58 [1, 3, 4, 5, 6] rfl)
              · have hf118 := if_at_t c116 hf115
                clear hf115
                refine lv_iconst (v := 1) hx hb dX7_who_90 (by decide) ?_
                refine lv_goto (tgt := 95) hx hb dX7_who_91 (by decide) ?_
                exact hJ95_61 (1 : Int32) kk50  _ _ _ hf118 hP53 hS54 (lv_sub hl58 [1, 3, 4, 5, 6] rfl)
            · have hf119 := if_at_t c114 hf113
              clear hf113
              refine lv_iconst (v := 0) hx hb dX7_who_81 (by decide) ?_
              refine lv_goto (tgt := 95) hx hb dX7_who_82 (by decide) ?_
              exact hJ95_61 (0 : Int32) kk50  _ _ _ hf119 hP53 hS54 (lv_sub hl58 [1, 3, 4, 5, 6] rfl)
          · have hf120 := if_at_f c59 hf55
            clear hf55
            refine lv_iload hx hb dX7_who_67 (lv_at hl58 0 rfl) ?_
            obtain ⟨rfl, rfl⟩ := ret_inj hf120
            exact x_iret X hr hlocks hP53 hS54 dX7_who_69
        · have hf121 := if_at_t c47 hf45
          clear hf45
          refine lv_ldc (v := -1000002) hx hb X.2.2.2.1 (X.2.2.2.2.1 _ wd_1062) dX7_who_48 ?_
          obtain ⟨rfl, rfl⟩ := ret_inj hf121
          exact x_iret X hr hlocks hP43 hS44 dX7_who_50
      · have hf122 := if_at_t c37 hf35
        clear hf35
        refine lv_ldc (v := -1000001) hx hb X.2.2.2.1 (X.2.2.2.2.1 _ wd_969) dX7_who_34 ?_
        obtain ⟨rfl, rfl⟩ := ret_inj hf122
        exact x_iret X hr hlocks hP33 hS34 dX7_who_36
set_option maxRecDepth 100000 in
set_option maxHeartbeats 4000000 in
theorem tX7_gusts (l : Launch) {g : Gx} (hI : InjG g) {h k k1 : Hp} {a1 : Int32} {a2 : Int32} {a3 : Int32} {a4 : Int32} {r : Int32}   (hf : fX7_gusts a1 a2 a3 a4 k = some (r, k1)) : CI l yX7_gusts cX7_gusts 6 (some .int) 5 g [.ref (g.2.2 246), .int a1, .int a2, .int a3, .int a4] h k h k1 r := by
  refine Met.ofW (cc := cX7_gusts) (maxL := 6) (ret := (some .int)) (by decide) rfl ?_
  intro p en s m args below meth c s₁ B hml hv
  obtain ⟨rfl, hSK, hSH, hP⟩ := hv
  have X : Cx p s m _ c cX7_gusts 6 RX7 g := ⟨B.exec, B.bytes, hml, findClass_of_methodNamed B.named, fun w hw => atoms_spec (ws := wsy yX7_gusts cX7_gusts 6 (some .int)) B.pre w (List.mem_cons_of_mem _ hw), hSK, hI, hSH⟩
  have hr := B.returns
  have hlocks := B.notSynchronized
  have hx := X.1
  have hb := X.2.1
  have hS : va_S (inA g) s.heap s.heap [] := va_S.rf
  clear hSK hSH hml B
  have hl := lv_entry ([.ref (g.2.2 246), .int a1, .int a2, .int a3, .int a4]) (n := 6) (Nat.le_of_ble_eq_true rfl)
  rw [lg_entry_eq]
  generalize (lg_sl ([.ref (g.2.2 246), .int a1, .int a2, .int a3, .int a4]) ++ List.replicate (6 - (lg_sl ([.ref (g.2.2 246), .int a1, .int a2, .int a3, .int a4])).length) Slot.unset).toArray = ls at hl ⊢
  have hl : lv_has ls 6 [(0, .ref (g.2.2 246)), (1, .int a1), (2, .int a2), (3, .int a3), (4, .int a4)] := hl
  generalize ([.ref (g.2.2 246), .int a1, .int a2, .int a3, .int a4] : List Value).toArray = args at X ⊢
  show W p l en (rmD 5) s m args below meth c s.heap [] 0 0 (MQ below (QI g h k1 r) args s 0 0 (inA g)) (F0 m 0 ls [])
  unfold fX7_gusts at hf
  refine lv_aload_n hx hb dX7_gusts_0 rfl (lv_at hl 0 rfl) ?_
  refine lv_iconst (v := 0) hx hb dX7_gusts_1 (by decide) ?_
  refine pX7 X hP hS 0 (by decide) rfl wd_883 rfl rfl rfl rfl seX7_0 dX7_gusts_2 (fun H1 lc2 kk3 ekk3 hP4 hS5 => ?_)
  have hf6 := lk_at ekk3 hf
  clear hf hP hS
  refine lv_aload_n hx hb dX7_gusts_5 rfl (lv_at hl 0 rfl) ?_
  refine lv_iload_n hx hb dX7_gusts_6 rfl (lv_at hl 1 rfl) ?_
  obtain ⟨x7, kk8, hg14, hf13⟩ := bd_some hf6
  refine x_ci (x_runV (As := [.int a1]) (rest := []) X hP4 hS5 246 (by decide) cl_M rfl (tX7_isWind l X.2.2.2.2.2.2.1  hg14) mi_X7_205 rfl hl.1 rfl (Nat.le_of_ble_eq_true rfl) dX7_gusts_7 ⟨Nat.le_of_ble_eq_true rfl, Nat.le_of_ble_eq_true rfl⟩ ⟨Nat.zero_le _, Nat.zero_le _⟩) hS5 (fun H9 lc10 hP11 hS12 => ?_)
  clear hf6 hP4 hS5 hg14
  refine lv_if_eq (tgt := 22) hx hb dX7_gusts_10 (by decide) (fun c15 => ?_) (fun c15 => ?_)
  · have hf16 := if_at_t c15 hf13
    clear hf13
    refine lv_ldc (v := -1000001) hx hb X.2.2.2.1 (X.2.2.2.2.1 _ wd_969) dX7_gusts_22 ?_
    obtain ⟨rfl, rfl⟩ := ret_inj hf16
    exact x_iret X hr hlocks hP11 hS12 dX7_gusts_24
  · have hf17 := if_at_f c15 hf13
    clear hf13
    refine lv_iload_n hx hb dX7_gusts_13 rfl (lv_at hl 2 rfl) ?_
    refine lv_iload hx hb dX7_gusts_14 (lv_at hl 4 rfl) ?_
    obtain ⟨x18, kk19, hg25, hf24⟩ := bd_some hf17
    refine x_ci (x_runS (As := [.int a2, .int a4]) (rest := []) X hP11 hS12 (tX7_isMany l X.2.2.2.2.2.2.1  hg25) mi_X7_263 rfl hl.1 rfl (Nat.le_of_ble_eq_true rfl) dX7_gusts_16 ⟨Nat.le_of_ble_eq_true rfl, Nat.le_of_ble_eq_true rfl⟩ ⟨Nat.zero_le _, Nat.zero_le _⟩) hS12 (fun H20 lc21 hP22 hS23 => ?_)
    clear hf17 hP11 hS12 hg25
    refine lv_if_ne (tgt := 25) hx hb dX7_gusts_19 (by decide) (fun c26 => ?_) (fun c26 => ?_)
    · have hf27 := if_at_f c26 hf24
      clear hf24
      refine lv_aload_n hx hb dX7_gusts_25 rfl (lv_at hl 0 rfl) ?_
      refine lv_iload_n hx hb dX7_gusts_26 rfl (lv_at hl 2 rfl) ?_
      refine lv_iload_n hx hb dX7_gusts_27 rfl (lv_at hl 3 rfl) ?_
      refine lv_iload hx hb dX7_gusts_28 (lv_at hl 4 rfl) ?_
      obtain ⟨x28, kk29, hg35, hf34⟩ := bd_some hf27
      refine x_ci (x_runV (As := [.int a2, .int a3, .int a4]) (rest := []) X hP22 hS23 246 (by decide) cl_M rfl (tX7_rowFound l X.2.2.2.2.2.2.1  hg35) mi_X7_266 rfl hl.1 rfl (Nat.le_of_ble_eq_true rfl) dX7_gusts_30 ⟨Nat.le_of_ble_eq_true rfl, Nat.le_of_ble_eq_true rfl⟩ ⟨Nat.zero_le _, Nat.zero_le _⟩) hS23 (fun H30 lc31 hP32 hS33 => ?_)
      clear hf27 hP22 hS23 hg35
      refine lv_istore (lv' := [(5, .int x28), (0, .ref (g.2.2 246)), (1, .int a1), (2, .int a2), (3, .int a3), (4, .int a4)]) hx hb dX7_gusts_33 hl (by decide) rfl (fun ls36 hl37 => ?_)
      clear hl
      refine lv_iload hx hb dX7_gusts_35 (lv_at hl37 0 rfl) ?_
      refine lv_if_eq (tgt := 45) hx hb dX7_gusts_37 (by decide) (fun c38 => ?_) (fun c38 => ?_)
      · have hf39 := if_at_t c38 hf34
        clear hf34
        refine lv_aload_n hx hb dX7_gusts_45 rfl (lv_at hl37 1 rfl) ?_
        refine lv_bipush (v := 8) hx hb dX7_gusts_46 (by decide) ?_
        refine lv_iload_n hx hb dX7_gusts_48 rfl (lv_at hl37 2 rfl) ?_
        refine lv_iadd hx hb dX7_gusts_49 ?_
        refine lv_iconst (v := 0) hx hb dX7_gusts_50 (by decide) ?_
        refine lv_iconst (v := 4) hx hb dX7_gusts_51 (by decide) ?_
        refine lv_bipush (v := 40) hx hb dX7_gusts_52 (by decide) ?_
        refine lv_iload_n hx hb dX7_gusts_54 rfl (lv_at hl37 3 rfl) ?_
        refine lv_imul hx hb dX7_gusts_55 ?_
        refine lv_iload_n hx hb dX7_gusts_56 rfl (lv_at hl37 4 rfl) ?_
        refine lv_iadd hx hb dX7_gusts_57 ?_
        refine lv_iload hx hb dX7_gusts_58 (lv_at hl37 5 rfl) ?_
        obtain ⟨x40, kk41, hg47, hf46⟩ := bd_some hf39
        refine x_ci (x_runV (As := [.int ((8 : Int32) + a1), .int (0 : Int32), .int (4 : Int32), .int (((40 : Int32) * a2) + a3), .int a4]) (rest := []) X hP32 hS33 246 (by decide) cl_M rfl (tX7_allSo l X.2.2.2.2.2.2.1  hg47) mi_X7_270 rfl hl37.1 rfl (Nat.le_of_ble_eq_true rfl) dX7_gusts_60 ⟨Nat.le_of_ble_eq_true rfl, Nat.le_of_ble_eq_true rfl⟩ ⟨Nat.zero_le _, Nat.zero_le _⟩) hS33 (fun H42 lc43 hP44 hS45 => ?_)
        clear hf39 hP32 hS33 hg47
        obtain ⟨rfl, rfl⟩ := ret_inj hf46
        exact x_iret X hr hlocks hP44 hS45 dX7_gusts_63
      · have hf48 := if_at_f c38 hf34
        clear hf34
        refine lv_iload hx hb dX7_gusts_40 (lv_at hl37 0 rfl) ?_
        refine lv_goto (tgt := 63) hx hb dX7_gusts_42 (by decide) ?_
        obtain ⟨rfl, rfl⟩ := ret_inj hf48
        exact x_iret X hr hlocks hP32 hS33 dX7_gusts_63
    · have hf49 := if_at_t c26 hf24
      clear hf24
      refine lv_ldc (v := -1000001) hx hb X.2.2.2.1 (X.2.2.2.2.1 _ wd_969) dX7_gusts_22 ?_
      obtain ⟨rfl, rfl⟩ := ret_inj hf49
      exact x_iret X hr hlocks hP22 hS23 dX7_gusts_24
