set_option maxRecDepth 100000 in
set_option maxHeartbeats 4000000 in
theorem wX3_weighWalks_L10 {p : Program} {l : Launch} {en : Env} {s : State} {m : MethodId} {args : Array Value} {below : List Frame} {meth : Method} {c : Code} {g : Gx} (X : Cx p s m args c cX3_weighWalks 5 RX3 g) (hr : meth.sig.returnType = none) (hlocks : meth.locks = false) {k h1 : Hp} {v1 : Nat} {v2 : Int32} (hv1 : isE v1) {K38 : Hp → Option (Unit × Hp)}
    (hK38 : ∀  (h : Hp) (H : Heap) (locs : List Loc) (ls : Array Slot), K38  h = some ((), h1) → va_P g.1 vwCl (WW g h k) H → va_S (inA g) s.heap H locs → lv_has ls 5 [(0, .ref (g.2.2 210)), (1, .ref (g.2.2 v1)), (2, .int v2)] → W p l en (rmD 4) s m args below meth c H locs 0 0 (MQ below (QV g h1 k) args s 0 0 (inA g)) (F0 m 38 ls [])) :
    ∀ (n : Nat) (v3 : Int32) (h : Hp) (H : Heap) (locs : List Loc) (ls : Array Slot), fX3_weighWalks_L10 K38 n v1 v2 v3 h = some ((), h1) → va_P g.1 vwCl (WW g h k) H → va_S (inA g) s.heap H locs → lv_has ls 5 [(0, .ref (g.2.2 210)), (1, .ref (g.2.2 v1)), (2, .int v2), (3, .int v3)] → W p l en (rmD 4) s m args below meth c H locs 0 0 (MQ below (QV g h1 k) args s 0 0 (inA g)) (F0 m 10 ls []) := by
  have hx := X.1
  have hb := X.2.1
  intro n
  induction n with
  | zero => intro v3 h H locs ls  hf; simp only [fX3_weighWalks_L10, reduceCtorEq] at hf
  | succ n ih =>
    intro v3 h H locs ls  hf hP hS hl
    rw [fX3_weighWalks_L10] at hf
    refine lv_iload_n hx hb dX3_weighWalks_10 rfl (lv_at hl 3 rfl) ?_
    refine lv_iload_n hx hb dX3_weighWalks_11 rfl (lv_at hl 2 rfl) ?_
    refine lv_icmp_ge (tgt := 38) hx hb dX3_weighWalks_12 (by decide) (fun c11 => ?_) (fun c11 => ?_)
    · have hf12 := if_at_t c11 hf
      clear hf
      exact hK38 h  _ _ _ hf12 hP hS (lv_sub hl [0, 1, 2] rfl)
    · have hf13 := if_at_f c11 hf
      clear hf
      refine lv_aload_n hx hb dX3_weighWalks_15 rfl (lv_at hl 0 rfl) ?_
      refine gX3 X hP 0 (v := .ref (g.2.2 14)) rfl (by decide) rfl wd_240 dX3_weighWalks_16 ?_
      obtain ⟨⟨⟩, hh15, hg21, hf20⟩ := bd_some hf13
      refine x_cv (x_runV (As := []) (rest := []) X hP hS 14 (by decide) (cl_E (⟨rfl, by decide⟩ : isE 14)) rfl (tX2_passHour l X.2.2.2.2.2.2.1 (⟨rfl, by decide⟩ : isE 14) hg21) mi_X3_37 rfl hl.1 rfl (Nat.le_of_ble_eq_true rfl) dX3_weighWalks_19 ⟨Nat.le_of_ble_eq_true rfl, Nat.le_of_ble_eq_true rfl⟩ ⟨Nat.zero_le _, Nat.zero_le _⟩) hS (fun H16 lc17 hP18 hS19 => ?_)
      clear hf13 hP hS hg21
      refine lv_aload_n hx hb dX3_weighWalks_22 rfl (lv_at hl 0 rfl) ?_
      refine lv_aload_n hx hb dX3_weighWalks_23 rfl (lv_at hl 0 rfl) ?_
      refine gX3 X hP18 1 (v := .ref (g.2.2 211)) rfl (by decide) rfl wd_241 dX3_weighWalks_24 ?_
      refine lv_iload_n hx hb dX3_weighWalks_27 rfl (lv_at hl 3 rfl) ?_
      obtain ⟨hc22, hf23⟩ := chk_some hf20
      refine x_overT X hP18 hc22 dX3_weighWalks_28 ?_
      obtain ⟨⟨⟩, hh25, hg31, hf30⟩ := bd_some hf23
      refine x_cv (x_runV (As := [.ref (g.2.2 (212 + v3.toNatClampNeg))]) (rest := []) X hP18 hS19 210 (by decide) cl_Fo rfl (tX3_noteOver l X.2.2.2.2.2.2.1 (ia_ov hc22) hg31) mi_X3_64 rfl hl.1 rfl (Nat.le_of_ble_eq_true rfl) dX3_weighWalks_29 ⟨Nat.le_of_ble_eq_true rfl, Nat.le_of_ble_eq_true rfl⟩ ⟨Nat.zero_le _, Nat.zero_le _⟩) hS19 (fun H26 lc27 hP28 hS29 => ?_)
      clear hf23 hP18 hS19 hg31
      obtain ⟨x32, ex32⟩ : ∃ q : Int32, q = v3 + (1 : Int32) := ⟨_, rfl⟩
      have hf33 := lk_at ex32 hf30
      clear hf30
      refine lv_iinc (v := x32) (lv' := [(3, .int x32), (0, .ref (g.2.2 210)), (1, .ref (g.2.2 v1)), (2, .int v2)]) hx hb dX3_weighWalks_32 hl (k := 3) rfl (by rw [ex32]; rfl) (by decide) rfl (fun ls34 hl35 => ?_)
      clear hl
      refine lv_goto (tgt := 10) hx hb dX3_weighWalks_35 (by decide) ?_
      exact ih x32 hh25  _ _ _ hf33 hP28 hS29 (lv_sub hl35 [1, 2, 3, 0] rfl)
set_option maxRecDepth 100000 in
set_option maxHeartbeats 4000000 in
theorem wX3_weighWalks_L59 {p : Program} {l : Launch} {en : Env} {s : State} {m : MethodId} {args : Array Value} {below : List Frame} {meth : Method} {c : Code} {g : Gx} (X : Cx p s m args c cX3_weighWalks 5 RX3 g) (hr : meth.sig.returnType = none) (hlocks : meth.locks = false) {k h1 : Hp} {v1 : Nat} {v3 : Int32} (hv1 : isE v1) {K95 : Hp → Option (Unit × Hp)}
    (hK95 : ∀  (h : Hp) (H : Heap) (locs : List Loc) (ls : Array Slot), K95  h = some ((), h1) → va_P g.1 vwCl (WW g h k) H → va_S (inA g) s.heap H locs → lv_has ls 5 [(0, .ref (g.2.2 210)), (1, .ref (g.2.2 v1)), (3, .int v3)] → W p l en (rmD 4) s m args below meth c H locs 0 0 (MQ below (QV g h1 k) args s 0 0 (inA g)) (F0 m 95 ls [])) :
    ∀ (n : Nat) (v4 : Int32) (h : Hp) (H : Heap) (locs : List Loc) (ls : Array Slot), fX3_weighWalks_L59 K95 n v1 v3 v4 h = some ((), h1) → va_P g.1 vwCl (WW g h k) H → va_S (inA g) s.heap H locs → lv_has ls 5 [(0, .ref (g.2.2 210)), (1, .ref (g.2.2 v1)), (3, .int v3), (4, .int v4)] → W p l en (rmD 4) s m args below meth c H locs 0 0 (MQ below (QV g h1 k) args s 0 0 (inA g)) (F0 m 59 ls []) := by
  have hx := X.1
  have hb := X.2.1
  intro n
  induction n with
  | zero => intro v4 h H locs ls  hf; simp only [fX3_weighWalks_L59, reduceCtorEq] at hf
  | succ n ih =>
    intro v4 h H locs ls  hf hP hS hl
    rw [fX3_weighWalks_L59] at hf
    refine lv_iload hx hb dX3_weighWalks_59 (lv_at hl 3 rfl) ?_
    refine lv_aload_n hx hb dX3_weighWalks_61 rfl (lv_at hl 1 rfl) ?_
    refine gX2 X hP hv1 7 (v := .int (h v1 7)) rfl (by decide) rfl wd_116 dX3_weighWalks_62 ?_
    refine lv_icmp_ge (tgt := 95) hx hb dX3_weighWalks_65 (by decide) (fun c63 => ?_) (fun c63 => ?_)
    · have hf64 := if_at_t c63 hf
      clear hf
      exact hK95 h  _ _ _ hf64 hP hS (lv_sub hl [0, 1, 2] rfl)
    · have hf65 := if_at_f c63 hf
      clear hf
      refine lv_aload_n hx hb dX3_weighWalks_68 rfl (lv_at hl 0 rfl) ?_
      refine gX3 X hP 2 (v := .ref (g.2.2 218)) rfl (by decide) rfl wd_242 dX3_weighWalks_69 ?_
      refine lv_iload_n hx hb dX3_weighWalks_72 rfl (lv_at hl 2 rfl) ?_
      obtain ⟨hc66, hf67⟩ := chk_some hf65
      refine x_leastF X hP hc66 dX3_weighWalks_73 ?_
      refine lv_iload hx hb dX3_weighWalks_74 (lv_at hl 3 rfl) ?_
      refine lv_aload_n hx hb dX3_weighWalks_76 rfl (lv_at hl 0 rfl) ?_
      refine lv_iload_n hx hb dX3_weighWalks_77 rfl (lv_at hl 2 rfl) ?_
      refine lv_aload_n hx hb dX3_weighWalks_78 rfl (lv_at hl 0 rfl) ?_
      refine lv_iload_n hx hb dX3_weighWalks_79 rfl (lv_at hl 2 rfl) ?_
      refine lv_iload hx hb dX3_weighWalks_80 (lv_at hl 3 rfl) ?_
      obtain ⟨x68, hh69, hg75, hf74⟩ := bd_some hf67
      refine x_ci (x_runV (As := [.int v3, .int v4]) (rest := [.int v3, .ref (g.2.2 210), .int v4, .ref (g.2.2 (219 + v3.toNatClampNeg))]) X hP hS 210 (by decide) cl_Fo rfl (tX3_bestNext l X.2.2.2.2.2.2.1  hg75) mi_X3_60 rfl hl.1 rfl (Nat.le_of_ble_eq_true rfl) dX3_weighWalks_82 ⟨Nat.le_of_ble_eq_true rfl, Nat.le_of_ble_eq_true rfl⟩ ⟨Nat.zero_le _, Nat.zero_le _⟩) hS (fun H70 lc71 hP72 hS73 => ?_)
      clear hf67 hP hS hg75
      obtain ⟨x76, hh77, hg83, hf82⟩ := bd_some hf74
      refine x_ci (x_runV (As := [.int v3, .int x68]) (rest := [.int v4, .ref (g.2.2 (219 + v3.toNatClampNeg))]) X hP72 hS73 210 (by decide) cl_Fo rfl (tX3_weightOf l X.2.2.2.2.2.2.1  hg83) mi_X3_77 rfl hl.1 rfl (Nat.le_of_ble_eq_true rfl) dX3_weighWalks_85 ⟨Nat.le_of_ble_eq_true rfl, Nat.le_of_ble_eq_true rfl⟩ ⟨Nat.zero_le _, Nat.zero_le _⟩) hS73 (fun H78 lc79 hP80 hS81 => ?_)
      clear hf74 hP72 hS73 hg83
      obtain ⟨hc84, hf85⟩ := chk_some hf82
      refine x_istC X hP80 hS81 (219 + v3.toNatClampNeg) (ia_lf hc66) hc84 dX3_weighWalks_88 (fun H86 lc87 hh88 ehh88 hP89 hS90 => ?_)
      have hf91 := lk_at ehh88 hf85
      clear hf85 hP80 hS81
      obtain ⟨x92, ex92⟩ : ∃ q : Int32, q = v4 + (1 : Int32) := ⟨_, rfl⟩
      have hf93 := lk_at ex92 hf91
      clear hf91
      refine lv_iinc (v := x92) (lv' := [(4, .int x92), (0, .ref (g.2.2 210)), (1, .ref (g.2.2 v1)), (3, .int v3)]) hx hb dX3_weighWalks_89 hl (k := 3) rfl (by rw [ex92]; rfl) (by decide) rfl (fun ls94 hl95 => ?_)
      clear hl
      refine lv_goto (tgt := 59) hx hb dX3_weighWalks_92 (by decide) ?_
      exact ih x92 hh88  _ _ _ hf93 hP89 hS90 (lv_sub hl95 [1, 2, 3, 0] rfl)
set_option maxRecDepth 100000 in
set_option maxHeartbeats 4000000 in
theorem wX3_weighWalks_L52 {p : Program} {l : Launch} {en : Env} {s : State} {m : MethodId} {args : Array Value} {below : List Frame} {meth : Method} {c : Code} {g : Gx} (X : Cx p s m args c cX3_weighWalks 5 RX3 g) (hr : meth.sig.returnType = none) (hlocks : meth.locks = false) {k h1 : Hp} {v1 : Nat} (hv1 : isE v1) 
     :
    ∀ (n : Nat) (v3 : Int32) (h : Hp) (H : Heap) (locs : List Loc) (ls : Array Slot), fX3_weighWalks_L52 n v1 v3 h = some ((), h1) → va_P g.1 vwCl (WW g h k) H → va_S (inA g) s.heap H locs → lv_has ls 5 [(0, .ref (g.2.2 210)), (1, .ref (g.2.2 v1)), (3, .int v3)] → W p l en (rmD 4) s m args below meth c H locs 0 0 (MQ below (QV g h1 k) args s 0 0 (inA g)) (F0 m 52 ls []) := by
  have hx := X.1
  have hb := X.2.1
  intro n
  induction n with
  | zero => intro v3 h H locs ls  hf; simp only [fX3_weighWalks_L52, reduceCtorEq] at hf
  | succ n ih =>
    intro v3 h H locs ls  hf hP hS hl
    rw [fX3_weighWalks_L52] at hf
    refine lv_iload_n hx hb dX3_weighWalks_52 rfl (lv_at hl 2 rfl) ?_
    refine lv_if_lt (tgt := 101) hx hb dX3_weighWalks_53 (by decide) (fun c58 => ?_) (fun c58 => ?_)
    · have hf59 := if_at_t c58 hf
      clear hf
      obtain ⟨-, rfl⟩ := ret_inj hf59
      exact x_vret X hr hlocks hP hS dX3_weighWalks_101
    · have hf60 := if_at_f c58 hf
      clear hf
      refine lv_iconst (v := 0) hx hb dX3_weighWalks_56 (by decide) ?_
      refine lv_istore (lv' := [(4, .int (0 : Int32)), (0, .ref (g.2.2 210)), (1, .ref (g.2.2 v1)), (3, .int v3)]) hx hb dX3_weighWalks_57 hl (by decide) rfl (fun ls61 hl62 => ?_)
      clear hl
      refine wX3_weighWalks_L59 X hr hlocks hv1 ?_ 4096 (0 : Int32) h _ _ _  hf60 hP hS (lv_sub hl62 [1, 2, 3, 0] rfl)
      · intro  hh96 H97 lc98 ls99  hf103 hP100 hS101 hl102
        obtain ⟨x104, ex104⟩ : ∃ q : Int32, q = v3 + (-1 : Int32) := ⟨_, rfl⟩
        have hf105 := lk_at ex104 hf103
        clear hf103
        refine lv_iinc (v := x104) (lv' := [(3, .int x104), (0, .ref (g.2.2 210)), (1, .ref (g.2.2 v1))]) hx hb dX3_weighWalks_95 hl102 (k := 2) rfl (by rw [ex104]; rfl) (by decide) rfl (fun ls106 hl107 => ?_)
        clear hl102
        refine lv_goto (tgt := 52) hx hb dX3_weighWalks_98 (by decide) ?_
        exact ih x104 hh96  _ _ _ hf105 hP100 hS101 (lv_sub hl107 [1, 2, 0] rfl)
set_option maxRecDepth 100000 in
set_option maxHeartbeats 4000000 in
theorem tX3_weighWalks (l : Launch) {g : Gx} (hI : InjG g) {h k h1 : Hp} {a1 : Nat} {a2 : Int32}  (ha1 : isE a1) (hf : fX3_weighWalks a1 a2 h = some ((), h1)) : CV l yX3_weighWalks cX3_weighWalks 5 none 4 g [.ref (g.2.2 210), .ref (g.2.2 a1), .int a2] h k h1 k := by
  refine Met.ofW (cc := cX3_weighWalks) (maxL := 5) (ret := none) (by decide) rfl ?_
  intro p en s m args below meth c s₁ B hml hv
  obtain ⟨rfl, hSK, hSH, hP⟩ := hv
  have X : Cx p s m _ c cX3_weighWalks 5 RX3 g := ⟨B.exec, B.bytes, hml, findClass_of_methodNamed B.named, fun w hw => atoms_spec (ws := wsy yX3_weighWalks cX3_weighWalks 5 none) B.pre w (List.mem_cons_of_mem _ hw), hSK, hI, hSH⟩
  have hr := B.returns
  have hlocks := B.notSynchronized
  have hx := X.1
  have hb := X.2.1
  have hS : va_S (inA g) s.heap s.heap [] := va_S.rf
  clear hSK hSH hml B
  have hl := lv_entry ([.ref (g.2.2 210), .ref (g.2.2 a1), .int a2]) (n := 5) (Nat.le_of_ble_eq_true rfl)
  rw [lg_entry_eq]
  generalize (lg_sl ([.ref (g.2.2 210), .ref (g.2.2 a1), .int a2]) ++ List.replicate (5 - (lg_sl ([.ref (g.2.2 210), .ref (g.2.2 a1), .int a2])).length) Slot.unset).toArray = ls at hl ⊢
  have hl : lv_has ls 5 [(0, .ref (g.2.2 210)), (1, .ref (g.2.2 a1)), (2, .int a2)] := hl
  generalize ([.ref (g.2.2 210), .ref (g.2.2 a1), .int a2] : List Value).toArray = args at X ⊢
  show W p l en (rmD 4) s m args below meth c s.heap [] 0 0 (MQ below (QV g h1 k) args s 0 0 (inA g)) (F0 m 0 ls [])
  unfold fX3_weighWalks at hf
  refine lv_aload_n hx hb dX3_weighWalks_0 rfl (lv_at hl 0 rfl) ?_
  refine gX3 X hP 0 (v := .ref (g.2.2 14)) rfl (by decide) rfl wd_240 dX3_weighWalks_1 ?_
  refine lv_aload_n hx hb dX3_weighWalks_4 rfl (lv_at hl 1 rfl) ?_
  obtain ⟨⟨⟩, hh2, hg8, hf7⟩ := bd_some hf
  refine x_cv (x_runV (As := [.ref (g.2.2 a1)]) (rest := []) X hP hS 14 (by decide) (cl_E (⟨rfl, by decide⟩ : isE 14)) rfl (tX2_become l X.2.2.2.2.2.2.1 (⟨rfl, by decide⟩ : isE 14) ha1 hg8) mi_X3_33 rfl hl.1 rfl (Nat.le_of_ble_eq_true rfl) dX3_weighWalks_5 ⟨Nat.le_of_ble_eq_true rfl, Nat.le_of_ble_eq_true rfl⟩ ⟨Nat.zero_le _, Nat.zero_le _⟩) hS (fun H3 lc4 hP5 hS6 => ?_)
  clear hf hP hS hg8
  refine lv_iconst (v := 0) hx hb dX3_weighWalks_8 (by decide) ?_
  refine lv_istore_n (lv' := [(3, .int (0 : Int32)), (0, .ref (g.2.2 210)), (1, .ref (g.2.2 a1)), (2, .int a2)]) hx hb dX3_weighWalks_9 rfl hl (by decide) rfl (fun ls9 hl10 => ?_)
  clear hl
  refine wX3_weighWalks_L10 X hr hlocks ha1 ?_ 4096 (0 : Int32) hh2 _ _ _  hf7 hP5 hS6 (lv_sub hl10 [1, 2, 3, 0] rfl)
  · intro  hh36 H37 lc38 ls39  hf43 hP40 hS41 hl42
    refine lv_aload_n hx hb dX3_weighWalks_38 rfl (lv_at hl42 0 rfl) ?_
    refine gX3 X hP40 2 (v := .ref (g.2.2 218)) rfl (by decide) rfl wd_242 dX3_weighWalks_39 ?_
    refine lv_iload_n hx hb dX3_weighWalks_42 rfl (lv_at hl42 2 rfl) ?_
    obtain ⟨hc44, hf45⟩ := chk_some hf43
    refine x_leastF X hP40 hc44 dX3_weighWalks_43 ?_
    refine lv_iconst (v := 0) hx hb dX3_weighWalks_44 (by decide) ?_
    obtain ⟨⟨⟩, hh47, hg53, hf52⟩ := bd_some hf45
    refine x_cv (x_runS (As := [.ref (g.2.2 (219 + a2.toNatClampNeg)), .int (0 : Int32)]) (rest := []) X hP40 hS41 (tJ7_fill l X.2.2.2.2.2.2.1 (ia_lf hc44) hg53) mi_X3_68 rfl hl42.1 rfl (Nat.le_of_ble_eq_true rfl) dX3_weighWalks_45 ⟨Nat.le_of_ble_eq_true rfl, Nat.le_of_ble_eq_true rfl⟩ ⟨Nat.zero_le _, Nat.zero_le _⟩) hS41 (fun H48 lc49 hP50 hS51 => ?_)
    clear hf45 hP40 hS41 hg53
    refine lv_iload_n hx hb dX3_weighWalks_48 rfl (lv_at hl42 2 rfl) ?_
    refine lv_iconst (v := 1) hx hb dX3_weighWalks_49 (by decide) ?_
    refine lv_isub hx hb dX3_weighWalks_50 ?_
    refine lv_topi (fun x54 ex54 => ?_)
    have hf55 := lk_at ex54 hf52
    clear hf52
    refine lv_istore_n (lv' := [(3, .int x54), (0, .ref (g.2.2 210)), (1, .ref (g.2.2 a1)), (2, .int a2)]) hx hb dX3_weighWalks_51 rfl hl42 (by decide) rfl (fun ls56 hl57 => ?_)
    clear hl42
    refine wX3_weighWalks_L52 X hr hlocks ha1  4096 x54 hh47 _ _ _  hf55 hP50 hS51 (lv_sub hl57 [1, 2, 0] rfl)
set_option maxRecDepth 100000 in
set_option maxHeartbeats 4000000 in
theorem tX3_leastSeen (l : Launch) {g : Gx} (hI : InjG g) {h k h1 : Hp} {a1 : Nat} {a2 : Int32} {r : Int32}  (ha1 : isE a1) (hf : fX3_leastSeen a1 a2 h = some (r, h1)) : CI l yX3_leastSeen cX3_leastSeen 3 (some .int) 5 g [.ref (g.2.2 210), .ref (g.2.2 a1), .int a2] h k h1 k r := by
  refine Met.ofW (cc := cX3_leastSeen) (maxL := 3) (ret := (some .int)) (by decide) rfl ?_
  intro p en s m args below meth c s₁ B hml hv
  obtain ⟨rfl, hSK, hSH, hP⟩ := hv
  have X : Cx p s m _ c cX3_leastSeen 3 RX3 g := ⟨B.exec, B.bytes, hml, findClass_of_methodNamed B.named, fun w hw => atoms_spec (ws := wsy yX3_leastSeen cX3_leastSeen 3 (some .int)) B.pre w (List.mem_cons_of_mem _ hw), hSK, hI, hSH⟩
  have hr := B.returns
  have hlocks := B.notSynchronized
  have hx := X.1
  have hb := X.2.1
  have hS : va_S (inA g) s.heap s.heap [] := va_S.rf
  clear hSK hSH hml B
  have hl := lv_entry ([.ref (g.2.2 210), .ref (g.2.2 a1), .int a2]) (n := 3) (Nat.le_of_ble_eq_true rfl)
  rw [lg_entry_eq]
  generalize (lg_sl ([.ref (g.2.2 210), .ref (g.2.2 a1), .int a2]) ++ List.replicate (3 - (lg_sl ([.ref (g.2.2 210), .ref (g.2.2 a1), .int a2])).length) Slot.unset).toArray = ls at hl ⊢
  have hl : lv_has ls 3 [(0, .ref (g.2.2 210)), (1, .ref (g.2.2 a1)), (2, .int a2)] := hl
  generalize ([.ref (g.2.2 210), .ref (g.2.2 a1), .int a2] : List Value).toArray = args at X ⊢
  show W p l en (rmD 5) s m args below meth c s.heap [] 0 0 (MQ below (QI g h1 k r) args s 0 0 (inA g)) (F0 m 0 ls [])
  unfold fX3_leastSeen at hf
  refine lv_aload_n hx hb dX3_leastSeen_0 rfl (lv_at hl 0 rfl) ?_
  refine lv_aload_n hx hb dX3_leastSeen_1 rfl (lv_at hl 1 rfl) ?_
  refine lv_iload_n hx hb dX3_leastSeen_2 rfl (lv_at hl 2 rfl) ?_
  obtain ⟨⟨⟩, hh2, hg8, hf7⟩ := bd_some hf
  refine x_cv (x_runV (As := [.ref (g.2.2 a1), .int a2]) (rest := []) X hP hS 210 (by decide) cl_Fo rfl (tX3_weighWalks l X.2.2.2.2.2.2.1 ha1 hg8) mi_X3_52 rfl hl.1 rfl (Nat.le_of_ble_eq_true rfl) dX3_leastSeen_3 ⟨Nat.le_of_ble_eq_true rfl, Nat.le_of_ble_eq_true rfl⟩ ⟨Nat.zero_le _, Nat.zero_le _⟩) hS (fun H3 lc4 hP5 hS6 => ?_)
  clear hf hP hS hg8
  refine lv_aload_n hx hb dX3_leastSeen_6 rfl (lv_at hl 0 rfl) ?_
  refine gX3 X hP5 2 (v := .ref (g.2.2 218)) rfl (by decide) rfl wd_242 dX3_leastSeen_7 ?_
  refine lv_iconst (v := 0) hx hb dX3_leastSeen_10 (by decide) ?_
  obtain ⟨hc9, hf10⟩ := chk_some hf7
  refine x_leastF X hP5 hc9 dX3_leastSeen_11 ?_
  refine lv_aload_n hx hb dX3_leastSeen_12 rfl (lv_at hl 1 rfl) ?_
  refine gX2 X hP5 ha1 9 (v := .int (hh2 a1 9)) rfl (by decide) rfl wd_124 dX3_leastSeen_13 ?_
  obtain ⟨hc11, hf12⟩ := chk_some hf10
  refine x_ildC X hP5 (219 + (0 : Int32).toNatClampNeg) (ia_lf hc9) hc11 dX3_leastSeen_16 ?_
  obtain ⟨rfl, rfl⟩ := ret_inj hf12
  exact x_iret X hr hlocks hP5 hS6 dX3_leastSeen_17
set_option maxRecDepth 100000 in
set_option maxHeartbeats 4000000 in
theorem wX3_leastSeenCell_L15 {p : Program} {l : Launch} {en : Env} {s : State} {m : MethodId} {args : Array Value} {below : List Frame} {meth : Method} {c : Code} {g : Gx} (X : Cx p s m args c cX3_leastSeenCell 6 RX3 g) (hr : meth.sig.returnType = (some .int)) (hlocks : meth.locks = false) {k h1 : Hp} {r : Int32} {v3 : Int32}  
     :
    ∀ (n : Nat) (v4 : Int32) (v5 : Int32) (h : Hp) (H : Heap) (locs : List Loc) (ls : Array Slot), fX3_leastSeenCell_L15 n v3 v4 v5 h = some (r, h1) → va_P g.1 vwCl (WW g h k) H → va_S (inA g) s.heap H locs → lv_has ls 6 [(0, .ref (g.2.2 210)), (3, .int v3), (4, .int v4), (5, .int v5)] → W p l en (rmD 5) s m args below meth c H locs 0 0 (MQ below (QI g h1 k r) args s 0 0 (inA g)) (F0 m 15 ls []) := by
  have hx := X.1
  have hb := X.2.1
  intro n
  induction n with
  | zero => intro v4 v5 h H locs ls  hf; simp only [fX3_leastSeenCell_L15, reduceCtorEq] at hf
  | succ n ih =>
    intro v4 v5 h H locs ls  hf hP hS hl
    rw [fX3_leastSeenCell_L15] at hf
    refine lv_iload hx hb dX3_leastSeenCell_15 (lv_at hl 3 rfl) ?_
    refine lv_iload_n hx hb dX3_leastSeenCell_17 rfl (lv_at hl 1 rfl) ?_
    refine lv_icmp_gt (tgt := 37) hx hb dX3_leastSeenCell_18 (by decide) (fun c15 => ?_) (fun c15 => ?_)
    · have hf16 := if_at_t c15 hf
      clear hf
      refine lv_iload hx hb dX3_leastSeenCell_37 (lv_at hl 2 rfl) ?_
      obtain ⟨rfl, rfl⟩ := ret_inj hf16
      exact x_iret X hr hlocks hP hS dX3_leastSeenCell_39
    · have hf17 := if_at_f c15 hf
      clear hf
      refine lv_aload_n hx hb dX3_leastSeenCell_21 rfl (lv_at hl 0 rfl) ?_
      refine lv_iload hx hb dX3_leastSeenCell_22 (lv_at hl 3 rfl) ?_
      refine lv_iload hx hb dX3_leastSeenCell_24 (lv_at hl 2 rfl) ?_
      obtain ⟨x18, hh19, hg25, hf24⟩ := bd_some hf17
      refine x_ci (x_runV (As := [.int v5, .int v4]) (rest := []) X hP hS 210 (by decide) cl_Fo rfl (tX3_bestNext l X.2.2.2.2.2.2.1  hg25) mi_X3_60 rfl hl.1 rfl (Nat.le_of_ble_eq_true rfl) dX3_leastSeenCell_26 ⟨Nat.le_of_ble_eq_true rfl, Nat.le_of_ble_eq_true rfl⟩ ⟨Nat.zero_le _, Nat.zero_le _⟩) hS (fun H20 lc21 hP22 hS23 => ?_)
      clear hf17 hP hS hg25
      refine lv_istore (lv' := [(4, .int x18), (0, .ref (g.2.2 210)), (3, .int v3), (5, .int v5)]) hx hb dX3_leastSeenCell_29 hl (by decide) rfl (fun ls26 hl27 => ?_)
      clear hl
      obtain ⟨x28, ex28⟩ : ∃ q : Int32, q = v5 + (1 : Int32) := ⟨_, rfl⟩
      have hf29 := lk_at ex28 hf24
      clear hf24
      refine lv_iinc (v := x28) (lv' := [(5, .int x28), (4, .int x18), (0, .ref (g.2.2 210)), (3, .int v3)]) hx hb dX3_leastSeenCell_31 hl27 (k := 3) rfl (by rw [ex28]; rfl) (by decide) rfl (fun ls30 hl31 => ?_)
      clear hl27
      refine lv_goto (tgt := 15) hx hb dX3_leastSeenCell_34 (by decide) ?_
      exact ih x18 x28 hh19  _ _ _ hf29 hP22 hS23 (lv_sub hl31 [2, 3, 1, 0] rfl)
set_option maxRecDepth 100000 in
set_option maxHeartbeats 4000000 in
theorem tX3_leastSeenCell (l : Launch) {g : Gx} (hI : InjG g) {h k h1 : Hp} {a1 : Nat} {a2 : Int32} {a3 : Int32} {r : Int32}  (ha1 : isE a1) (hf : fX3_leastSeenCell a1 a2 a3 h = some (r, h1)) : CI l yX3_leastSeenCell cX3_leastSeenCell 6 (some .int) 5 g [.ref (g.2.2 210), .ref (g.2.2 a1), .int a2, .int a3] h k h1 k r := by
  refine Met.ofW (cc := cX3_leastSeenCell) (maxL := 6) (ret := (some .int)) (by decide) rfl ?_
  intro p en s m args below meth c s₁ B hml hv
  obtain ⟨rfl, hSK, hSH, hP⟩ := hv
  have X : Cx p s m _ c cX3_leastSeenCell 6 RX3 g := ⟨B.exec, B.bytes, hml, findClass_of_methodNamed B.named, fun w hw => atoms_spec (ws := wsy yX3_leastSeenCell cX3_leastSeenCell 6 (some .int)) B.pre w (List.mem_cons_of_mem _ hw), hSK, hI, hSH⟩
  have hr := B.returns
  have hlocks := B.notSynchronized
  have hx := X.1
  have hb := X.2.1
  have hS : va_S (inA g) s.heap s.heap [] := va_S.rf
  clear hSK hSH hml B
  have hl := lv_entry ([.ref (g.2.2 210), .ref (g.2.2 a1), .int a2, .int a3]) (n := 6) (Nat.le_of_ble_eq_true rfl)
  rw [lg_entry_eq]
  generalize (lg_sl ([.ref (g.2.2 210), .ref (g.2.2 a1), .int a2, .int a3]) ++ List.replicate (6 - (lg_sl ([.ref (g.2.2 210), .ref (g.2.2 a1), .int a2, .int a3])).length) Slot.unset).toArray = ls at hl ⊢
  have hl : lv_has ls 6 [(0, .ref (g.2.2 210)), (1, .ref (g.2.2 a1)), (2, .int a2), (3, .int a3)] := hl
  generalize ([.ref (g.2.2 210), .ref (g.2.2 a1), .int a2, .int a3] : List Value).toArray = args at X ⊢
  show W p l en (rmD 5) s m args below meth c s.heap [] 0 0 (MQ below (QI g h1 k r) args s 0 0 (inA g)) (F0 m 0 ls [])
  unfold fX3_leastSeenCell at hf
  refine lv_aload_n hx hb dX3_leastSeenCell_0 rfl (lv_at hl 0 rfl) ?_
  refine lv_aload_n hx hb dX3_leastSeenCell_1 rfl (lv_at hl 1 rfl) ?_
  refine lv_iload_n hx hb dX3_leastSeenCell_2 rfl (lv_at hl 2 rfl) ?_
  obtain ⟨⟨⟩, hh2, hg8, hf7⟩ := bd_some hf
  refine x_cv (x_runV (As := [.ref (g.2.2 a1), .int a2]) (rest := []) X hP hS 210 (by decide) cl_Fo rfl (tX3_weighWalks l X.2.2.2.2.2.2.1 ha1 hg8) mi_X3_52 rfl hl.1 rfl (Nat.le_of_ble_eq_true rfl) dX3_leastSeenCell_3 ⟨Nat.le_of_ble_eq_true rfl, Nat.le_of_ble_eq_true rfl⟩ ⟨Nat.zero_le _, Nat.zero_le _⟩) hS (fun H3 lc4 hP5 hS6 => ?_)
  clear hf hP hS hg8
  refine lv_aload_n hx hb dX3_leastSeenCell_6 rfl (lv_at hl 1 rfl) ?_
  refine gX2 X hP5 ha1 9 (v := .int (hh2 a1 9)) rfl (by decide) rfl wd_124 dX3_leastSeenCell_7 ?_
  refine lv_topi (fun x9 ex9 => ?_)
  have hf10 := lk_at ex9 hf7
  clear hf7
  refine lv_istore (lv' := [(4, .int x9), (0, .ref (g.2.2 210)), (1, .ref (g.2.2 a1)), (2, .int a2), (3, .int a3)]) hx hb dX3_leastSeenCell_10 hl (by decide) rfl (fun ls11 hl12 => ?_)
  clear hl
  refine lv_iconst (v := 0) hx hb dX3_leastSeenCell_12 (by decide) ?_
  refine lv_istore (lv' := [(5, .int (0 : Int32)), (4, .int x9), (0, .ref (g.2.2 210)), (1, .ref (g.2.2 a1)), (2, .int a2), (3, .int a3)]) hx hb dX3_leastSeenCell_13 hl12 (by decide) rfl (fun ls13 hl14 => ?_)
  clear hl12
  refine wX3_leastSeenCell_L15 X hr hlocks   4096 x9 (0 : Int32) hh2 _ _ _  hf10 hP5 hS6 (lv_sub hl14 [2, 5, 1, 0] rfl)
set_option maxRecDepth 100000 in
set_option maxHeartbeats 4000000 in
theorem tX6_walk (l : Launch) {g : Gx} (hI : InjG g) {h k h1 : Hp} {a1 : Int32} {a2 : Int32} {r : Int32}   (hf : fX6_walk a1 a2 h = some (r, h1)) : CI l yX6_walk cX6_walk 3 (some .int) 6 g [.ref (g.2.2 203), .int a1, .int a2] h k h1 k r := by
  refine Met.ofW (cc := cX6_walk) (maxL := 3) (ret := (some .int)) (by decide) rfl ?_
  intro p en s m args below meth c s₁ B hml hv
  obtain ⟨rfl, hSK, hSH, hP⟩ := hv
  have X : Cx p s m _ c cX6_walk 3 RX6 g := ⟨B.exec, B.bytes, hml, findClass_of_methodNamed B.named, fun w hw => atoms_spec (ws := wsy yX6_walk cX6_walk 3 (some .int)) B.pre w (List.mem_cons_of_mem _ hw), hSK, hI, hSH⟩
  have hr := B.returns
  have hlocks := B.notSynchronized
  have hx := X.1
  have hb := X.2.1
  have hS : va_S (inA g) s.heap s.heap [] := va_S.rf
  clear hSK hSH hml B
  have hl := lv_entry ([.ref (g.2.2 203), .int a1, .int a2]) (n := 3) (Nat.le_of_ble_eq_true rfl)
  rw [lg_entry_eq]
  generalize (lg_sl ([.ref (g.2.2 203), .int a1, .int a2]) ++ List.replicate (3 - (lg_sl ([.ref (g.2.2 203), .int a1, .int a2])).length) Slot.unset).toArray = ls at hl ⊢
  have hl : lv_has ls 3 [(0, .ref (g.2.2 203)), (1, .int a1), (2, .int a2)] := hl
  generalize ([.ref (g.2.2 203), .int a1, .int a2] : List Value).toArray = args at X ⊢
  show W p l en (rmD 6) s m args below meth c s.heap [] 0 0 (MQ below (QI g h1 k r) args s 0 0 (inA g)) (F0 m 0 ls [])
  unfold fX6_walk at hf
  refine lv_aload_n hx hb dX6_walk_0 rfl (lv_at hl 0 rfl) ?_
  refine gX6 X hP 2 (v := .ref (g.2.2 0)) rfl (by decide) rfl wd_299 dX6_walk_1 ?_
  refine gX2 X hP (⟨rfl, by decide⟩ : isE 0) 6 (v := .int (h 0 6)) rfl (by decide) rfl wd_113 dX6_walk_4 ?_
  refine lv_if_ne (tgt := 13) hx hb dX6_walk_7 (by decide) (fun c1 => ?_) (fun c1 => ?_)
  · have hf2 := if_at_f c1 hf
    clear hf
    refine lv_iload_n hx hb dX6_walk_13 rfl (lv_at hl 1 rfl) ?_
    refine lv_iconst (v := 1) hx hb dX6_walk_14 (by decide) ?_
    refine lv_bipush (v := 6) hx hb dX6_walk_15 (by decide) ?_
    obtain ⟨x3, hh4, hg10, hf9⟩ := bd_some hf2
    refine x_ci (x_runS (As := [.int a1, .int (1 : Int32), .int (6 : Int32)]) (rest := []) X hP hS (tX6_isWithin l X.2.2.2.2.2.2.1  hg10) mi_X6_59 rfl hl.1 rfl (Nat.le_of_ble_eq_true rfl) dX6_walk_17 ⟨Nat.le_of_ble_eq_true rfl, Nat.le_of_ble_eq_true rfl⟩ ⟨Nat.zero_le _, Nat.zero_le _⟩) hS (fun H5 lc6 hP7 hS8 => ?_)
    clear hf2 hP hS hg10
    refine lv_if_eq (tgt := 28) hx hb dX6_walk_20 (by decide) (fun c11 => ?_) (fun c11 => ?_)
    · have hf12 := if_at_t c11 hf9
      clear hf9
      refine lv_ldc (v := -1000001) hx hb X.2.2.2.1 (X.2.2.2.2.1 _ wd_335) dX6_walk_28 ?_
      obtain ⟨rfl, rfl⟩ := ret_inj hf12
      exact x_iret X hr hlocks hP7 hS8 dX6_walk_30
    · have hf13 := if_at_f c11 hf9
      clear hf9
      refine lv_iload_n hx hb dX6_walk_23 rfl (lv_at hl 2 rfl) ?_
      refine lv_iconst (v := -1) hx hb dX6_walk_24 (by decide) ?_
      refine lv_icmp_ge (tgt := 31) hx hb dX6_walk_25 (by decide) (fun c14 => ?_) (fun c14 => ?_)
      · have hf15 := if_at_t c14 hf13
        clear hf13
        refine lv_iload_n hx hb dX6_walk_31 rfl (lv_at hl 2 rfl) ?_
        refine lv_iload_n hx hb dX6_walk_32 rfl (lv_at hl 1 rfl) ?_
        refine lv_icmp_lt (tgt := 39) hx hb dX6_walk_33 (by decide) (fun c16 => ?_) (fun c16 => ?_)
        · have hf17 := if_at_t c16 hf15
          clear hf15
          refine lv_iload_n hx hb dX6_walk_39 rfl (lv_at hl 2 rfl) ?_
          refine lv_iconst (v := -1) hx hb dX6_walk_40 (by decide) ?_
          refine lv_icmp_ne (tgt := 59) hx hb dX6_walk_41 (by decide) (fun c18 => ?_) (fun c18 => ?_)
          · have hf19 := if_at_f c18 hf17
            clear hf17
            refine lv_aload_n hx hb dX6_walk_59 rfl (lv_at hl 0 rfl) ?_
            refine gX6 X hP7 5 (v := .ref (g.2.2 210)) rfl (by decide) rfl wd_302 dX6_walk_60 ?_
            refine lv_aload_n hx hb dX6_walk_63 rfl (lv_at hl 0 rfl) ?_
            refine gX6 X hP7 2 (v := .ref (g.2.2 0)) rfl (by decide) rfl wd_299 dX6_walk_64 ?_
            refine lv_iload_n hx hb dX6_walk_67 rfl (lv_at hl 1 rfl) ?_
            refine lv_iload_n hx hb dX6_walk_68 rfl (lv_at hl 2 rfl) ?_
            obtain ⟨x20, hh21, hg27, hf26⟩ := bd_some hf19
            refine x_ci (x_runV (As := [.ref (g.2.2 0), .int a1, .int a2]) (rest := []) X hP7 hS8 210 (by decide) cl_Fo rfl (tX3_leastSeenCell l X.2.2.2.2.2.2.1 (⟨rfl, by decide⟩ : isE 0) hg27) mi_X6_243 rfl hl.1 rfl (Nat.le_of_ble_eq_true rfl) dX6_walk_69 ⟨Nat.le_of_ble_eq_true rfl, Nat.le_of_ble_eq_true rfl⟩ ⟨Nat.zero_le _, Nat.zero_le _⟩) hS8 (fun H22 lc23 hP24 hS25 => ?_)
            clear hf19 hP7 hS8 hg27
            obtain ⟨rfl, rfl⟩ := ret_inj hf26
            exact x_iret X hr hlocks hP24 hS25 dX6_walk_72
          · have hf28 := if_at_t c18 hf17
            clear hf17
            refine lv_aload_n hx hb dX6_walk_44 rfl (lv_at hl 0 rfl) ?_
            refine gX6 X hP7 5 (v := .ref (g.2.2 210)) rfl (by decide) rfl wd_302 dX6_walk_45 ?_
            refine lv_aload_n hx hb dX6_walk_48 rfl (lv_at hl 0 rfl) ?_
            refine gX6 X hP7 2 (v := .ref (g.2.2 0)) rfl (by decide) rfl wd_299 dX6_walk_49 ?_
            refine lv_iload_n hx hb dX6_walk_52 rfl (lv_at hl 1 rfl) ?_
            obtain ⟨x29, hh30, hg36, hf35⟩ := bd_some hf28
            refine x_ci (x_runV (As := [.ref (g.2.2 0), .int a1]) (rest := []) X hP7 hS8 210 (by decide) cl_Fo rfl (tX3_leastSeen l X.2.2.2.2.2.2.1 (⟨rfl, by decide⟩ : isE 0) hg36) mi_X6_240 rfl hl.1 rfl (Nat.le_of_ble_eq_true rfl) dX6_walk_53 ⟨Nat.le_of_ble_eq_true rfl, Nat.le_of_ble_eq_true rfl⟩ ⟨Nat.zero_le _, Nat.zero_le _⟩) hS8 (fun H31 lc32 hP33 hS34 => ?_)
            clear hf28 hP7 hS8 hg36
            refine lv_goto (tgt := 72) hx hb dX6_walk_56 (by decide) ?_
            obtain ⟨rfl, rfl⟩ := ret_inj hf35
            exact x_iret X hr hlocks hP33 hS34 dX6_walk_72
        · have hf37 := if_at_f c16 hf15
          clear hf15
          refine lv_ldc (v := -1000000) hx hb X.2.2.2.1 (X.2.2.2.2.1 _ wd_643) dX6_walk_36 ?_
          obtain ⟨rfl, rfl⟩ := ret_inj hf37
          exact x_iret X hr hlocks hP7 hS8 dX6_walk_38
      · have hf38 := if_at_f c14 hf13
        clear hf13
        refine lv_ldc (v := -1000001) hx hb X.2.2.2.1 (X.2.2.2.2.1 _ wd_335) dX6_walk_28 ?_
        obtain ⟨rfl, rfl⟩ := ret_inj hf38
        exact x_iret X hr hlocks hP7 hS8 dX6_walk_30
  · have hf39 := if_at_t c1 hf
    clear hf
    refine lv_ldc (v := -1000002) hx hb X.2.2.2.1 (X.2.2.2.2.1 _ wd_470) dX6_walk_10 ?_
    obtain ⟨rfl, rfl⟩ := ret_inj hf39
    exact x_iret X hr hlocks hP hS dX6_walk_12
set_option maxRecDepth 100000 in
set_option maxHeartbeats 4000000 in
theorem wX3_firstMeeting_L18 {p : Program} {l : Launch} {en : Env} {s : State} {m : MethodId} {args : Array Value} {below : List Frame} {meth : Method} {c : Code} {g : Gx} (X : Cx p s m args c cX3_firstMeeting 5 RX3 g) (hr : meth.sig.returnType = (some .int)) (hlocks : meth.locks = false) {k h1 : Hp} {r : Int32} {v1 : Nat} {v2 : Int32} (hv1 : isE v1) 
     :
    ∀ (n : Nat) (v3 : Int32) (v4 : Int32) (h : Hp) (H : Heap) (locs : List Loc) (ls : Array Slot), fX3_firstMeeting_L18 n v1 v2 v3 v4 h = some (r, h1) → va_P g.1 vwCl (WW g h k) H → va_S (inA g) s.heap H locs → lv_has ls 5 [(0, .ref (g.2.2 210)), (1, .ref (g.2.2 v1)), (2, .int v2), (3, .int v3), (4, .int v4)] → W p l en (rmD 4) s m args below meth c H locs 0 0 (MQ below (QI g h1 k r) args s 0 0 (inA g)) (F0 m 18 ls []) := by
  have hx := X.1
  have hb := X.2.1
  intro n
  induction n with
  | zero => intro v3 v4 h H locs ls  hf; simp only [fX3_firstMeeting_L18, reduceCtorEq] at hf
  | succ n ih =>
    intro v3 v4 h H locs ls  hf hP hS hl
    rw [fX3_firstMeeting_L18] at hf
    refine lv_iload hx hb dX3_firstMeeting_18 (lv_at hl 4 rfl) ?_
    refine lv_bipush (v := 20) hx hb dX3_firstMeeting_20 (by decide) ?_
    refine lv_icmp_gt (tgt := 75) hx hb dX3_firstMeeting_22 (by decide) (fun c15 => ?_) (fun c15 => ?_)
    · have hf16 := if_at_t c15 hf
      clear hf
      refine lv_ldc (v := -1000000) hx hb X.2.2.2.1 (X.2.2.2.2.1 _ wd_621) dX3_firstMeeting_75 ?_
      obtain ⟨rfl, rfl⟩ := ret_inj hf16
      exact x_iret X hr hlocks hP hS dX3_firstMeeting_77
    · have hf17 := if_at_f c15 hf
      clear hf
      refine lv_aload_n hx hb dX3_firstMeeting_25 rfl (lv_at hl 0 rfl) ?_
      refine gX3 X hP 0 (v := .ref (g.2.2 14)) rfl (by decide) rfl wd_240 dX3_firstMeeting_26 ?_
      refine lv_iload_n hx hb dX3_firstMeeting_29 rfl (lv_at hl 2 rfl) ?_
      obtain ⟨x18, hh19, hg25, hf24⟩ := bd_some hf17
      refine x_ci (x_runV (As := [.int v2]) (rest := []) X hP hS 14 (by decide) (cl_E (⟨rfl, by decide⟩ : isE 14)) rfl (tX2_cellsUnder l X.2.2.2.2.2.2.1 (⟨rfl, by decide⟩ : isE 14) hg25) mi_X3_92 rfl hl.1 rfl (Nat.le_of_ble_eq_true rfl) dX3_firstMeeting_30 ⟨Nat.le_of_ble_eq_true rfl, Nat.le_of_ble_eq_true rfl⟩ ⟨Nat.zero_le _, Nat.zero_le _⟩) hS (fun H20 lc21 hP22 hS23 => ?_)
      clear hf17 hP hS hg25
      refine lv_iload_n hx hb dX3_firstMeeting_33 rfl (lv_at hl 3 rfl) ?_
      refine lv_iand hx hb dX3_firstMeeting_34 ?_
      refine lv_if_eq (tgt := 41) hx hb dX3_firstMeeting_35 (by decide) (fun c26 => ?_) (fun c26 => ?_)
      · have hf27 := if_at_t c26 hf24
        clear hf24
        refine lv_iload_n hx hb dX3_firstMeeting_41 rfl (lv_at hl 3 rfl) ?_
        refine lv_iload_n hx hb dX3_firstMeeting_42 rfl (lv_at hl 3 rfl) ?_
        refine lv_iconst (v := 1) hx hb dX3_firstMeeting_43 (by decide) ?_
        refine x_ishl X dX3_firstMeeting_44 ?_
        refine lv_iload_n hx hb dX3_firstMeeting_45 rfl (lv_at hl 3 rfl) ?_
        refine lv_iconst (v := 1) hx hb dX3_firstMeeting_46 (by decide) ?_
        refine x_ishr X dX3_firstMeeting_47 ?_
        refine lv_ior hx hb dX3_firstMeeting_48 ?_
        refine lv_ior hx hb dX3_firstMeeting_49 ?_
        refine lv_topi (fun x28 ex28 => ?_)
        have hf29 := lk_at ex28 hf27
        clear hf27
        refine lv_istore_n (lv' := [(3, .int x28), (0, .ref (g.2.2 210)), (1, .ref (g.2.2 v1)), (2, .int v2), (4, .int v4)]) hx hb dX3_firstMeeting_50 rfl hl (by decide) rfl (fun ls30 hl31 => ?_)
        clear hl
        refine lv_iload_n hx hb dX3_firstMeeting_51 rfl (lv_at hl31 0 rfl) ?_
        refine lv_iconst (v := 1) hx hb dX3_firstMeeting_52 (by decide) ?_
        refine lv_aload_n hx hb dX3_firstMeeting_53 rfl (lv_at hl31 2 rfl) ?_
        refine gX2 X hP22 hv1 7 (v := .int (hh19 v1 7)) rfl (by decide) rfl wd_116 dX3_firstMeeting_54 ?_
        refine x_ishl X dX3_firstMeeting_57 ?_
        refine lv_iconst (v := 1) hx hb dX3_firstMeeting_58 (by decide) ?_
        refine lv_isub hx hb dX3_firstMeeting_59 ?_
        refine lv_iand hx hb dX3_firstMeeting_60 ?_
        refine lv_topi (fun x32 ex32 => ?_)
        have hf33 := lk_at ex32 hf29
        clear hf29
        refine lv_istore_n (lv' := [(3, .int x32), (0, .ref (g.2.2 210)), (1, .ref (g.2.2 v1)), (2, .int v2), (4, .int v4)]) hx hb dX3_firstMeeting_61 rfl hl31 (by decide) rfl (fun ls34 hl35 => ?_)
        clear hl31
        refine lv_aload_n hx hb dX3_firstMeeting_62 rfl (lv_at hl35 1 rfl) ?_
        refine gX3 X hP22 0 (v := .ref (g.2.2 14)) rfl (by decide) rfl wd_240 dX3_firstMeeting_63 ?_
        obtain ⟨⟨⟩, hh37, hg43, hf42⟩ := bd_some hf33
        refine x_cv (x_runV (As := []) (rest := []) X hP22 hS23 14 (by decide) (cl_E (⟨rfl, by decide⟩ : isE 14)) rfl (tX2_passHour l X.2.2.2.2.2.2.1 (⟨rfl, by decide⟩ : isE 14) hg43) mi_X3_37 rfl hl35.1 rfl (Nat.le_of_ble_eq_true rfl) dX3_firstMeeting_66 ⟨Nat.le_of_ble_eq_true rfl, Nat.le_of_ble_eq_true rfl⟩ ⟨Nat.zero_le _, Nat.zero_le _⟩) hS23 (fun H38 lc39 hP40 hS41 => ?_)
        clear hf33 hP22 hS23 hg43
        obtain ⟨x44, ex44⟩ : ∃ q : Int32, q = v4 + (1 : Int32) := ⟨_, rfl⟩
        have hf45 := lk_at ex44 hf42
        clear hf42
        refine lv_iinc (v := x44) (lv' := [(4, .int x44), (3, .int x32), (0, .ref (g.2.2 210)), (1, .ref (g.2.2 v1)), (2, .int v2)]) hx hb dX3_firstMeeting_69 hl35 (k := 4) rfl (by rw [ex44]; rfl) (by decide) rfl (fun ls46 hl47 => ?_)
        clear hl35
        refine lv_goto (tgt := 18) hx hb dX3_firstMeeting_72 (by decide) ?_
        exact ih x32 x44 hh37  _ _ _ hf45 hP40 hS41 (lv_sub hl47 [2, 3, 4, 1, 0] rfl)
      · have hf48 := if_at_f c26 hf24
        clear hf24
        refine lv_iload hx hb dX3_firstMeeting_38 (lv_at hl 4 rfl) ?_
        obtain ⟨rfl, rfl⟩ := ret_inj hf48
        exact x_iret X hr hlocks hP22 hS23 dX3_firstMeeting_40
set_option maxRecDepth 100000 in
set_option maxHeartbeats 4000000 in
theorem tX3_firstMeeting (l : Launch) {g : Gx} (hI : InjG g) {h k h1 : Hp} {a1 : Nat} {a2 : Int32} {r : Int32}  (ha1 : isE a1) (hf : fX3_firstMeeting a1 a2 h = some (r, h1)) : CI l yX3_firstMeeting cX3_firstMeeting 5 (some .int) 4 g [.ref (g.2.2 210), .ref (g.2.2 a1), .int a2] h k h1 k r := by
  refine Met.ofW (cc := cX3_firstMeeting) (maxL := 5) (ret := (some .int)) (by decide) rfl ?_
  intro p en s m args below meth c s₁ B hml hv
  obtain ⟨rfl, hSK, hSH, hP⟩ := hv
  have X : Cx p s m _ c cX3_firstMeeting 5 RX3 g := ⟨B.exec, B.bytes, hml, findClass_of_methodNamed B.named, fun w hw => atoms_spec (ws := wsy yX3_firstMeeting cX3_firstMeeting 5 (some .int)) B.pre w (List.mem_cons_of_mem _ hw), hSK, hI, hSH⟩
  have hr := B.returns
  have hlocks := B.notSynchronized
  have hx := X.1
  have hb := X.2.1
  have hS : va_S (inA g) s.heap s.heap [] := va_S.rf
  clear hSK hSH hml B
  have hl := lv_entry ([.ref (g.2.2 210), .ref (g.2.2 a1), .int a2]) (n := 5) (Nat.le_of_ble_eq_true rfl)
  rw [lg_entry_eq]
  generalize (lg_sl ([.ref (g.2.2 210), .ref (g.2.2 a1), .int a2]) ++ List.replicate (5 - (lg_sl ([.ref (g.2.2 210), .ref (g.2.2 a1), .int a2])).length) Slot.unset).toArray = ls at hl ⊢
  have hl : lv_has ls 5 [(0, .ref (g.2.2 210)), (1, .ref (g.2.2 a1)), (2, .int a2)] := hl
  generalize ([.ref (g.2.2 210), .ref (g.2.2 a1), .int a2] : List Value).toArray = args at X ⊢
  show W p l en (rmD 4) s m args below meth c s.heap [] 0 0 (MQ below (QI g h1 k r) args s 0 0 (inA g)) (F0 m 0 ls [])
  unfold fX3_firstMeeting at hf
  refine lv_aload_n hx hb dX3_firstMeeting_0 rfl (lv_at hl 0 rfl) ?_
  refine gX3 X hP 0 (v := .ref (g.2.2 14)) rfl (by decide) rfl wd_240 dX3_firstMeeting_1 ?_
  refine lv_aload_n hx hb dX3_firstMeeting_4 rfl (lv_at hl 1 rfl) ?_
  obtain ⟨⟨⟩, hh2, hg8, hf7⟩ := bd_some hf
  refine x_cv (x_runV (As := [.ref (g.2.2 a1)]) (rest := []) X hP hS 14 (by decide) (cl_E (⟨rfl, by decide⟩ : isE 14)) rfl (tX2_become l X.2.2.2.2.2.2.1 (⟨rfl, by decide⟩ : isE 14) ha1 hg8) mi_X3_33 rfl hl.1 rfl (Nat.le_of_ble_eq_true rfl) dX3_firstMeeting_5 ⟨Nat.le_of_ble_eq_true rfl, Nat.le_of_ble_eq_true rfl⟩ ⟨Nat.zero_le _, Nat.zero_le _⟩) hS (fun H3 lc4 hP5 hS6 => ?_)
  clear hf hP hS hg8
  refine lv_iconst (v := 1) hx hb dX3_firstMeeting_8 (by decide) ?_
  refine lv_aload_n hx hb dX3_firstMeeting_9 rfl (lv_at hl 1 rfl) ?_
  refine gX2 X hP5 ha1 9 (v := .int (hh2 a1 9)) rfl (by decide) rfl wd_124 dX3_firstMeeting_10 ?_
  refine x_ishl X dX3_firstMeeting_13 ?_
  refine lv_topi (fun x9 ex9 => ?_)
  have hf10 := lk_at ex9 hf7
  clear hf7
  refine lv_istore_n (lv' := [(3, .int x9), (0, .ref (g.2.2 210)), (1, .ref (g.2.2 a1)), (2, .int a2)]) hx hb dX3_firstMeeting_14 rfl hl (by decide) rfl (fun ls11 hl12 => ?_)
  clear hl
  refine lv_iconst (v := 0) hx hb dX3_firstMeeting_15 (by decide) ?_
  refine lv_istore (lv' := [(4, .int (0 : Int32)), (3, .int x9), (0, .ref (g.2.2 210)), (1, .ref (g.2.2 a1)), (2, .int a2)]) hx hb dX3_firstMeeting_16 hl12 (by decide) rfl (fun ls13 hl14 => ?_)
  clear hl12
  refine wX3_firstMeeting_L18 X hr hlocks ha1  4096 x9 (0 : Int32) hh2 _ _ _  hf10 hP5 hS6 (lv_sub hl14 [2, 3, 4, 1, 0] rfl)
set_option maxRecDepth 100000 in
set_option maxHeartbeats 4000000 in
theorem tX6_meet (l : Launch) {g : Gx} (hI : InjG g) {h k h1 : Hp} {a1 : Int32} {r : Int32}   (hf : fX6_meet a1 h = some (r, h1)) : CI l yX6_meet cX6_meet 2 (some .int) 5 g [.ref (g.2.2 203), .int a1] h k h1 k r := by
  refine Met.ofW (cc := cX6_meet) (maxL := 2) (ret := (some .int)) (by decide) rfl ?_
  intro p en s m args below meth c s₁ B hml hv
  obtain ⟨rfl, hSK, hSH, hP⟩ := hv
  have X : Cx p s m _ c cX6_meet 2 RX6 g := ⟨B.exec, B.bytes, hml, findClass_of_methodNamed B.named, fun w hw => atoms_spec (ws := wsy yX6_meet cX6_meet 2 (some .int)) B.pre w (List.mem_cons_of_mem _ hw), hSK, hI, hSH⟩
  have hr := B.returns
  have hlocks := B.notSynchronized
  have hx := X.1
  have hb := X.2.1
  have hS : va_S (inA g) s.heap s.heap [] := va_S.rf
  clear hSK hSH hml B
  have hl := lv_entry ([.ref (g.2.2 203), .int a1]) (n := 2) (Nat.le_of_ble_eq_true rfl)
  rw [lg_entry_eq]
  generalize (lg_sl ([.ref (g.2.2 203), .int a1]) ++ List.replicate (2 - (lg_sl ([.ref (g.2.2 203), .int a1])).length) Slot.unset).toArray = ls at hl ⊢
  have hl : lv_has ls 2 [(0, .ref (g.2.2 203)), (1, .int a1)] := hl
  generalize ([.ref (g.2.2 203), .int a1] : List Value).toArray = args at X ⊢
  show W p l en (rmD 5) s m args below meth c s.heap [] 0 0 (MQ below (QI g h1 k r) args s 0 0 (inA g)) (F0 m 0 ls [])
  unfold fX6_meet at hf
  refine lv_aload_n hx hb dX6_meet_0 rfl (lv_at hl 0 rfl) ?_
  refine gX6 X hP 2 (v := .ref (g.2.2 0)) rfl (by decide) rfl wd_299 dX6_meet_1 ?_
  refine lv_iload_n hx hb dX6_meet_4 rfl (lv_at hl 1 rfl) ?_
  obtain ⟨x1, hh2, hg8, hf7⟩ := bd_some hf
  refine x_ci (x_runV (As := [.int a1]) (rest := []) X hP hS 0 (by decide) (cl_E (⟨rfl, by decide⟩ : isE 0)) rfl (tX2_isSheet l X.2.2.2.2.2.2.1 (⟨rfl, by decide⟩ : isE 0) hg8) mi_X6_175 rfl hl.1 rfl (Nat.le_of_ble_eq_true rfl) dX6_meet_5 ⟨Nat.le_of_ble_eq_true rfl, Nat.le_of_ble_eq_true rfl⟩ ⟨Nat.zero_le _, Nat.zero_le _⟩) hS (fun H3 lc4 hP5 hS6 => ?_)
  clear hf hP hS hg8
  refine lv_if_ne (tgt := 14) hx hb dX6_meet_8 (by decide) (fun c9 => ?_) (fun c9 => ?_)
  · have hf10 := if_at_f c9 hf7
    clear hf7
    refine lv_aload_n hx hb dX6_meet_14 rfl (lv_at hl 0 rfl) ?_
    refine gX6 X hP5 5 (v := .ref (g.2.2 210)) rfl (by decide) rfl wd_302 dX6_meet_15 ?_
    refine lv_aload_n hx hb dX6_meet_18 rfl (lv_at hl 0 rfl) ?_
    refine gX6 X hP5 2 (v := .ref (g.2.2 0)) rfl (by decide) rfl wd_299 dX6_meet_19 ?_
    refine lv_iload_n hx hb dX6_meet_22 rfl (lv_at hl 1 rfl) ?_
    obtain ⟨x11, hh12, hg18, hf17⟩ := bd_some hf10
    refine x_ci (x_runV (As := [.ref (g.2.2 0), .int a1]) (rest := []) X hP5 hS6 210 (by decide) cl_Fo rfl (tX3_firstMeeting l X.2.2.2.2.2.2.1 (⟨rfl, by decide⟩ : isE 0) hg18) mi_X6_247 rfl hl.1 rfl (Nat.le_of_ble_eq_true rfl) dX6_meet_23 ⟨Nat.le_of_ble_eq_true rfl, Nat.le_of_ble_eq_true rfl⟩ ⟨Nat.zero_le _, Nat.zero_le _⟩) hS6 (fun H13 lc14 hP15 hS16 => ?_)
    clear hf10 hP5 hS6 hg18
    obtain ⟨rfl, rfl⟩ := ret_inj hf17
    exact x_iret X hr hlocks hP15 hS16 dX6_meet_26
  · have hf19 := if_at_t c9 hf7
    clear hf7
    refine lv_ldc (v := -1000001) hx hb X.2.2.2.1 (X.2.2.2.2.1 _ wd_335) dX6_meet_11 ?_
    obtain ⟨rfl, rfl⟩ := ret_inj hf19
    exact x_iret X hr hlocks hP5 hS6 dX6_meet_13
set_option maxRecDepth 100000 in
set_option maxHeartbeats 4000000 in
theorem tJ6_bitCount (l : Launch) {g : Gx} (hI : InjG g) {h k h1 : Hp} {a1 : Int32} {r : Int32}   (hf : fJ6_bitCount a1 h = some (r, h1)) : CI l yJ6_bitCount_0f7a4 cJ6_bitCount_0f7a4 1 (some .int) 0 g [.int a1] h k h1 k r := by
  refine Met.ofW (cc := cJ6_bitCount_0f7a4) (maxL := 1) (ret := (some .int)) (by decide) rfl ?_
  intro p en s m args below meth c s₁ B hml hv
  obtain ⟨rfl, hSK, hSH, hP⟩ := hv
  have X : Cx p s m _ c cJ6_bitCount_0f7a4 1 RJ6 g := ⟨B.exec, B.bytes, hml, findClass_of_methodNamed B.named, fun w hw => atoms_spec (ws := wsy yJ6_bitCount_0f7a4 cJ6_bitCount_0f7a4 1 (some .int)) B.pre w (List.mem_cons_of_mem _ hw), hSK, hI, hSH⟩
  have hr := B.returns
  have hlocks := B.notSynchronized
  have hx := X.1
  have hb := X.2.1
  have hS : va_S (inA g) s.heap s.heap [] := va_S.rf
  clear hSK hSH hml B
  have hl := lv_entry ([.int a1]) (n := 1) (Nat.le_of_ble_eq_true rfl)
  rw [lg_entry_eq]
  generalize (lg_sl ([.int a1]) ++ List.replicate (1 - (lg_sl ([.int a1])).length) Slot.unset).toArray = ls at hl ⊢
  have hl : lv_has ls 1 [(0, .int a1)] := hl
  generalize ([.int a1] : List Value).toArray = args at X ⊢
  show W p l en (rmD 0) s m args below meth c s.heap [] 0 0 (MQ below (QI g h1 k r) args s 0 0 (inA g)) (F0 m 0 ls [])
  unfold fJ6_bitCount at hf
  refine lv_iload_n hx hb dJ6_bitCount_0f7a4_0 rfl (lv_at hl 0 rfl) ?_
  refine lv_iload_n hx hb dJ6_bitCount_0f7a4_1 rfl (lv_at hl 0 rfl) ?_
  refine lv_iconst (v := 1) hx hb dJ6_bitCount_0f7a4_2 (by decide) ?_
  refine x_iushr X dJ6_bitCount_0f7a4_3 ?_
  refine lv_ldcw (v := 1431655765) hx hb X.2.2.2.1 (X.2.2.2.2.1 _ wd_697) dJ6_bitCount_0f7a4_4 ?_
  refine lv_iand hx hb dJ6_bitCount_0f7a4_7 ?_
  refine lv_isub hx hb dJ6_bitCount_0f7a4_8 ?_
  refine lv_topi (fun x1 ex1 => ?_)
  have hf2 := lk_at ex1 hf
  clear hf
  refine lv_istore_n (lv' := [(0, .int x1)]) hx hb dJ6_bitCount_0f7a4_9 rfl hl (by decide) rfl (fun ls3 hl4 => ?_)
  clear hl
  refine lv_iload_n hx hb dJ6_bitCount_0f7a4_10 rfl (lv_at hl4 0 rfl) ?_
  refine lv_ldcw (v := 858993459) hx hb X.2.2.2.1 (X.2.2.2.2.1 _ wd_698) dJ6_bitCount_0f7a4_11 ?_
  refine lv_iand hx hb dJ6_bitCount_0f7a4_14 ?_
  refine lv_iload_n hx hb dJ6_bitCount_0f7a4_15 rfl (lv_at hl4 0 rfl) ?_
  refine lv_iconst (v := 2) hx hb dJ6_bitCount_0f7a4_16 (by decide) ?_
  refine x_iushr X dJ6_bitCount_0f7a4_17 ?_
  refine lv_ldcw (v := 858993459) hx hb X.2.2.2.1 (X.2.2.2.2.1 _ wd_698) dJ6_bitCount_0f7a4_18 ?_
  refine lv_iand hx hb dJ6_bitCount_0f7a4_21 ?_
  refine lv_iadd hx hb dJ6_bitCount_0f7a4_22 ?_
  refine lv_topi (fun x5 ex5 => ?_)
  have hf6 := lk_at ex5 hf2
  clear hf2
  refine lv_istore_n (lv' := [(0, .int x5)]) hx hb dJ6_bitCount_0f7a4_23 rfl hl4 (by decide) rfl (fun ls7 hl8 => ?_)
  clear hl4
  refine lv_iload_n hx hb dJ6_bitCount_0f7a4_24 rfl (lv_at hl8 0 rfl) ?_
  refine lv_iload_n hx hb dJ6_bitCount_0f7a4_25 rfl (lv_at hl8 0 rfl) ?_
  refine lv_iconst (v := 4) hx hb dJ6_bitCount_0f7a4_26 (by decide) ?_
  refine x_iushr X dJ6_bitCount_0f7a4_27 ?_
  refine lv_iadd hx hb dJ6_bitCount_0f7a4_28 ?_
  refine lv_ldcw (v := 252645135) hx hb X.2.2.2.1 (X.2.2.2.2.1 _ wd_699) dJ6_bitCount_0f7a4_29 ?_
  refine lv_iand hx hb dJ6_bitCount_0f7a4_32 ?_
  refine lv_topi (fun x9 ex9 => ?_)
  have hf10 := lk_at ex9 hf6
  clear hf6
  refine lv_istore_n (lv' := [(0, .int x9)]) hx hb dJ6_bitCount_0f7a4_33 rfl hl8 (by decide) rfl (fun ls11 hl12 => ?_)
  clear hl8
  refine lv_iload_n hx hb dJ6_bitCount_0f7a4_34 rfl (lv_at hl12 0 rfl) ?_
  refine lv_iload_n hx hb dJ6_bitCount_0f7a4_35 rfl (lv_at hl12 0 rfl) ?_
  refine lv_bipush (v := 8) hx hb dJ6_bitCount_0f7a4_36 (by decide) ?_
  refine x_iushr X dJ6_bitCount_0f7a4_38 ?_
  refine lv_iadd hx hb dJ6_bitCount_0f7a4_39 ?_
  refine lv_topi (fun x13 ex13 => ?_)
  have hf14 := lk_at ex13 hf10
  clear hf10
  refine lv_istore_n (lv' := [(0, .int x13)]) hx hb dJ6_bitCount_0f7a4_40 rfl hl12 (by decide) rfl (fun ls15 hl16 => ?_)
  clear hl12
  refine lv_iload_n hx hb dJ6_bitCount_0f7a4_41 rfl (lv_at hl16 0 rfl) ?_
  refine lv_iload_n hx hb dJ6_bitCount_0f7a4_42 rfl (lv_at hl16 0 rfl) ?_
  refine lv_bipush (v := 16) hx hb dJ6_bitCount_0f7a4_43 (by decide) ?_
  refine x_iushr X dJ6_bitCount_0f7a4_45 ?_
  refine lv_iadd hx hb dJ6_bitCount_0f7a4_46 ?_
  refine lv_topi (fun x17 ex17 => ?_)
  have hf18 := lk_at ex17 hf14
  clear hf14
  refine lv_istore_n (lv' := [(0, .int x17)]) hx hb dJ6_bitCount_0f7a4_47 rfl hl16 (by decide) rfl (fun ls19 hl20 => ?_)
  clear hl16
  refine lv_iload_n hx hb dJ6_bitCount_0f7a4_48 rfl (lv_at hl20 0 rfl) ?_
  refine lv_bipush (v := 63) hx hb dJ6_bitCount_0f7a4_49 (by decide) ?_
  refine lv_iand hx hb dJ6_bitCount_0f7a4_51 ?_
  obtain ⟨rfl, rfl⟩ := ret_inj hf18
  exact x_iret X hr hlocks hP hS dJ6_bitCount_0f7a4_52
set_option maxRecDepth 100000 in
set_option maxHeartbeats 4000000 in
theorem wX3_bestStand_L47 {p : Program} {l : Launch} {en : Env} {s : State} {m : MethodId} {args : Array Value} {below : List Frame} {meth : Method} {c : Code} {g : Gx} (X : Cx p s m args c cX3_bestStand 7 RX3 g) (hr : meth.sig.returnType = (some .int)) (hlocks : meth.locks = false) {k h1 : Hp} {r : Int32} {v1 : Nat} {v2 : Int32} {v3 : Int32} {v4 : Int32} {v5 : Int32} (hv1 : isE v1) {K86 : Hp → Option (Int32 × Hp)}
    (hK86 : ∀  (h : Hp) (H : Heap) (locs : List Loc) (ls : Array Slot), K86  h = some (r, h1) → va_P g.1 vwCl (WW g h k) H → va_S (inA g) s.heap H locs → lv_has ls 7 [(0, .ref (g.2.2 210)), (1, .ref (g.2.2 v1)), (2, .int v2), (3, .int v3), (4, .int v4)] → W p l en (rmD 4) s m args below meth c H locs 0 0 (MQ below (QI g h1 k r) args s 0 0 (inA g)) (F0 m 86 ls [])) :
    ∀ (n : Nat) (v6 : Int32) (h : Hp) (H : Heap) (locs : List Loc) (ls : Array Slot), fX3_bestStand_L47 K86 n v1 v2 v3 v4 v5 v6 h = some (r, h1) → va_P g.1 vwCl (WW g h k) H → va_S (inA g) s.heap H locs → lv_has ls 7 [(0, .ref (g.2.2 210)), (1, .ref (g.2.2 v1)), (2, .int v2), (3, .int v3), (4, .int v4), (5, .int v5), (6, .int v6)] → W p l en (rmD 4) s m args below meth c H locs 0 0 (MQ below (QI g h1 k r) args s 0 0 (inA g)) (F0 m 47 ls []) := by
  have hx := X.1
  have hb := X.2.1
  intro n
  induction n with
  | zero => intro v6 h H locs ls  hf; simp only [fX3_bestStand_L47, reduceCtorEq] at hf
  | succ n ih =>
    intro v6 h H locs ls  hf hP hS hl
    rw [fX3_bestStand_L47] at hf
    refine lv_iload hx hb dX3_bestStand_47 (lv_at hl 5 rfl) ?_
    refine lv_if_eq (tgt := 86) hx hb dX3_bestStand_49 (by decide) (fun c50 => ?_) (fun c50 => ?_)
    · have hf51 := if_at_t c50 hf
      clear hf
      exact hK86 h  _ _ _ hf51 hP hS (lv_sub hl [0, 1, 2, 3, 4] rfl)
    · have hf52 := if_at_f c50 hf
      clear hf
      refine lv_iload hx hb dX3_bestStand_52 (lv_at hl 6 rfl) ?_
      refine lv_aload_n hx hb dX3_bestStand_54 rfl (lv_at hl 1 rfl) ?_
      refine gX2 X hP hv1 7 (v := .int (h v1 7)) rfl (by decide) rfl wd_116 dX3_bestStand_55 ?_
      refine lv_icmp_ge (tgt := 86) hx hb dX3_bestStand_58 (by decide) (fun c53 => ?_) (fun c53 => ?_)
      · have hf54 := if_at_t c53 hf52
        clear hf52
        exact hK86 h  _ _ _ hf54 hP hS (lv_sub hl [0, 1, 2, 3, 4] rfl)
      · have hf55 := if_at_f c53 hf52
        clear hf52
        refine lv_aload_n hx hb dX3_bestStand_61 rfl (lv_at hl 0 rfl) ?_
        refine gX3 X hP 3 (v := .ref (g.2.2 226)) rfl (by decide) rfl wd_243 dX3_bestStand_62 ?_
        refine lv_iload hx hb dX3_bestStand_65 (lv_at hl 6 rfl) ?_
        refine lv_dup2_11 hx hb dX3_bestStand_67 rfl rfl ?_
        obtain ⟨hc56, hf57⟩ := chk_some hf55
        refine x_ildC X hP 226 rfl hc56 dX3_bestStand_68 ?_
        refine lv_aload_n hx hb dX3_bestStand_69 rfl (lv_at hl 0 rfl) ?_
        refine gX3 X hP 0 (v := .ref (g.2.2 14)) rfl (by decide) rfl wd_240 dX3_bestStand_70 ?_
        refine lv_iload hx hb dX3_bestStand_73 (lv_at hl 6 rfl) ?_
        obtain ⟨x58, hh59, hg65, hf64⟩ := bd_some hf57
        refine x_ci (x_runV (As := [.int v6]) (rest := [.int (h 226 v6.toNatClampNeg), .int v6, .ref (g.2.2 226)]) X hP hS 14 (by decide) (cl_E (⟨rfl, by decide⟩ : isE 14)) rfl (tX2_sheetsOn l X.2.2.2.2.2.2.1 (⟨rfl, by decide⟩ : isE 14) hg65) mi_X3_102 rfl hl.1 rfl (Nat.le_of_ble_eq_true rfl) dX3_bestStand_75 ⟨Nat.le_of_ble_eq_true rfl, Nat.le_of_ble_eq_true rfl⟩ ⟨Nat.zero_le _, Nat.zero_le _⟩) hS (fun H60 lc61 hP62 hS63 => ?_)
        clear hf57 hP hS hg65
        refine lv_ior hx hb dX3_bestStand_78 ?_
        obtain ⟨hc66, hf67⟩ := chk_some hf64
        refine x_istC X hP62 hS63 226 rfl hc66 dX3_bestStand_79 (fun H68 lc69 hh70 ehh70 hP71 hS72 => ?_)
        have hf73 := lk_at ehh70 hf67
        clear hf67 hP62 hS63
        obtain ⟨x74, ex74⟩ : ∃ q : Int32, q = v6 + (1 : Int32) := ⟨_, rfl⟩
        have hf75 := lk_at ex74 hf73
        clear hf73
        refine lv_iinc (v := x74) (lv' := [(6, .int x74), (0, .ref (g.2.2 210)), (1, .ref (g.2.2 v1)), (2, .int v2), (3, .int v3), (4, .int v4), (5, .int v5)]) hx hb dX3_bestStand_80 hl (k := 6) rfl (by rw [ex74]; rfl) (by decide) rfl (fun ls76 hl77 => ?_)
        clear hl
        refine lv_goto (tgt := 47) hx hb dX3_bestStand_83 (by decide) ?_
        exact ih x74 hh70  _ _ _ hf75 hP71 hS72 (lv_sub hl77 [1, 2, 3, 4, 5, 6, 0] rfl)
set_option maxRecDepth 100000 in
set_option maxHeartbeats 4000000 in
theorem wX3_bestStand_L22 {p : Program} {l : Launch} {en : Env} {s : State} {m : MethodId} {args : Array Value} {below : List Frame} {meth : Method} {c : Code} {g : Gx} (X : Cx p s m args c cX3_bestStand 7 RX3 g) (hr : meth.sig.returnType = (some .int)) (hlocks : meth.locks = false) {k h1 : Hp} {r : Int32} {v1 : Nat} {v2 : Int32} {v3 : Int32} (hv1 : isE v1) {K92 : Hp → Option (Int32 × Hp)}
    (hK92 : ∀  (h : Hp) (H : Heap) (locs : List Loc) (ls : Array Slot), K92  h = some (r, h1) → va_P g.1 vwCl (WW g h k) H → va_S (inA g) s.heap H locs → lv_has ls 7 [(0, .ref (g.2.2 210)), (1, .ref (g.2.2 v1)), (3, .int v3)] → W p l en (rmD 4) s m args below meth c H locs 0 0 (MQ below (QI g h1 k r) args s 0 0 (inA g)) (F0 m 92 ls [])) :
    ∀ (n : Nat) (v4 : Int32) (h : Hp) (H : Heap) (locs : List Loc) (ls : Array Slot), fX3_bestStand_L22 K92 n v1 v2 v3 v4 h = some (r, h1) → va_P g.1 vwCl (WW g h k) H → va_S (inA g) s.heap H locs → lv_has ls 7 [(0, .ref (g.2.2 210)), (1, .ref (g.2.2 v1)), (2, .int v2), (3, .int v3), (4, .int v4)] → W p l en (rmD 4) s m args below meth c H locs 0 0 (MQ below (QI g h1 k r) args s 0 0 (inA g)) (F0 m 22 ls []) := by
  have hx := X.1
  have hb := X.2.1
  intro n
  induction n with
  | zero => intro v4 h H locs ls  hf; simp only [fX3_bestStand_L22, reduceCtorEq] at hf
  | succ n ih =>
    intro v4 h H locs ls  hf hP hS hl
    rw [fX3_bestStand_L22] at hf
    refine lv_iload hx hb dX3_bestStand_22 (lv_at hl 4 rfl) ?_
    refine lv_iload_n hx hb dX3_bestStand_24 rfl (lv_at hl 2 rfl) ?_
    refine lv_icmp_ge (tgt := 92) hx hb dX3_bestStand_25 (by decide) (fun c27 => ?_) (fun c27 => ?_)
    · have hf28 := if_at_t c27 hf
      clear hf
      exact hK92 h  _ _ _ hf28 hP hS (lv_sub hl [0, 1, 3] rfl)
    · have hf29 := if_at_f c27 hf
      clear hf
      refine lv_aload_n hx hb dX3_bestStand_28 rfl (lv_at hl 0 rfl) ?_
      refine gX3 X hP 0 (v := .ref (g.2.2 14)) rfl (by decide) rfl wd_240 dX3_bestStand_29 ?_
      obtain ⟨x30, hh31, hg37, hf36⟩ := bd_some hf29
      refine x_ci (x_runV (As := []) (rest := []) X hP hS 14 (by decide) (cl_E (⟨rfl, by decide⟩ : isE 14)) rfl (tX2_clerkIsAwake l X.2.2.2.2.2.2.1 (⟨rfl, by decide⟩ : isE 14) hg37) mi_X3_98 rfl hl.1 rfl (Nat.le_of_ble_eq_true rfl) dX3_bestStand_32 ⟨Nat.le_of_ble_eq_true rfl, Nat.le_of_ble_eq_true rfl⟩ ⟨Nat.zero_le _, Nat.zero_le _⟩) hS (fun H32 lc33 hP34 hS35 => ?_)
      clear hf29 hP hS hg37
      refine lv_istore (lv' := [(5, .int x30), (0, .ref (g.2.2 210)), (1, .ref (g.2.2 v1)), (2, .int v2), (3, .int v3), (4, .int v4)]) hx hb dX3_bestStand_35 hl (by decide) rfl (fun ls38 hl39 => ?_)
      clear hl
      refine lv_aload_n hx hb dX3_bestStand_37 rfl (lv_at hl39 1 rfl) ?_
      refine gX3 X hP34 0 (v := .ref (g.2.2 14)) rfl (by decide) rfl wd_240 dX3_bestStand_38 ?_
      obtain ⟨⟨⟩, hh41, hg47, hf46⟩ := bd_some hf36
      refine x_cv (x_runV (As := []) (rest := []) X hP34 hS35 14 (by decide) (cl_E (⟨rfl, by decide⟩ : isE 14)) rfl (tX2_passHour l X.2.2.2.2.2.2.1 (⟨rfl, by decide⟩ : isE 14) hg47) mi_X3_37 rfl hl39.1 rfl (Nat.le_of_ble_eq_true rfl) dX3_bestStand_41 ⟨Nat.le_of_ble_eq_true rfl, Nat.le_of_ble_eq_true rfl⟩ ⟨Nat.zero_le _, Nat.zero_le _⟩) hS35 (fun H42 lc43 hP44 hS45 => ?_)
      clear hf36 hP34 hS35 hg47
      refine lv_iconst (v := 0) hx hb dX3_bestStand_44 (by decide) ?_
      refine lv_istore (lv' := [(6, .int (0 : Int32)), (5, .int x30), (0, .ref (g.2.2 210)), (1, .ref (g.2.2 v1)), (2, .int v2), (3, .int v3), (4, .int v4)]) hx hb dX3_bestStand_45 hl39 (by decide) rfl (fun ls48 hl49 => ?_)
      clear hl39
      refine wX3_bestStand_L47 X hr hlocks hv1 ?_ 4096 (0 : Int32) hh41 _ _ _  hf46 hP44 hS45 (lv_sub hl49 [2, 3, 4, 5, 6, 1, 0] rfl)
      · intro  hh78 H79 lc80 ls81  hf85 hP82 hS83 hl84
        obtain ⟨x86, ex86⟩ : ∃ q : Int32, q = v4 + (1 : Int32) := ⟨_, rfl⟩
        have hf87 := lk_at ex86 hf85
        clear hf85
        refine lv_iinc (v := x86) (lv' := [(4, .int x86), (0, .ref (g.2.2 210)), (1, .ref (g.2.2 v1)), (2, .int v2), (3, .int v3)]) hx hb dX3_bestStand_86 hl84 (k := 4) rfl (by rw [ex86]; rfl) (by decide) rfl (fun ls88 hl89 => ?_)
        clear hl84
        refine lv_goto (tgt := 22) hx hb dX3_bestStand_89 (by decide) ?_
        exact ih x86 hh78  _ _ _ hf87 hP82 hS83 (lv_sub hl89 [1, 2, 3, 4, 0] rfl)
set_option maxRecDepth 100000 in
set_option maxHeartbeats 4000000 in
theorem wX3_bestStand_L98 {p : Program} {l : Launch} {en : Env} {s : State} {m : MethodId} {args : Array Value} {below : List Frame} {meth : Method} {c : Code} {g : Gx} (X : Cx p s m args c cX3_bestStand 7 RX3 g) (hr : meth.sig.returnType = (some .int)) (hlocks : meth.locks = false) {k h1 : Hp} {r : Int32} {v1 : Nat} {v3 : Int32} (hv1 : isE v1) {K140 : Int32 → Hp → Option (Int32 × Hp)}
    (hK140 : ∀ (v4 : Int32) (h : Hp) (H : Heap) (locs : List Loc) (ls : Array Slot), K140 v4 h = some (r, h1) → va_P g.1 vwCl (WW g h k) H → va_S (inA g) s.heap H locs → lv_has ls 7 [(0, .ref (g.2.2 210)), (3, .int v3), (4, .int v4)] → W p l en (rmD 4) s m args below meth c H locs 0 0 (MQ below (QI g h1 k r) args s 0 0 (inA g)) (F0 m 140 ls [])) :
    ∀ (n : Nat) (v4 : Int32) (v5 : Int32) (h : Hp) (H : Heap) (locs : List Loc) (ls : Array Slot), fX3_bestStand_L98 K140 n v1 v3 v4 v5 h = some (r, h1) → va_P g.1 vwCl (WW g h k) H → va_S (inA g) s.heap H locs → lv_has ls 7 [(0, .ref (g.2.2 210)), (1, .ref (g.2.2 v1)), (3, .int v3), (4, .int v4), (5, .int v5)] → W p l en (rmD 4) s m args below meth c H locs 0 0 (MQ below (QI g h1 k r) args s 0 0 (inA g)) (F0 m 98 ls []) := by
  have hx := X.1
  have hb := X.2.1
  intro n
  induction n with
  | zero => intro v4 v5 h H locs ls  hf; simp only [fX3_bestStand_L98, reduceCtorEq] at hf
  | succ n ih =>
    intro v4 v5 h H locs ls  hf hP hS hl
    rw [fX3_bestStand_L98] at hf
    refine lv_iload hx hb dX3_bestStand_98 (lv_at hl 4 rfl) ?_
    refine lv_aload_n hx hb dX3_bestStand_100 rfl (lv_at hl 1 rfl) ?_
    refine gX2 X hP hv1 7 (v := .int (h v1 7)) rfl (by decide) rfl wd_116 dX3_bestStand_101 ?_
    refine lv_icmp_ge (tgt := 140) hx hb dX3_bestStand_104 (by decide) (fun c102 => ?_) (fun c102 => ?_)
    · have hf103 := if_at_t c102 hf
      clear hf
      exact hK140 v4 h  _ _ _ hf103 hP hS (lv_sub hl [0, 2, 3] rfl)
    · have hf104 := if_at_f c102 hf
      clear hf
      refine lv_aload_n hx hb dX3_bestStand_107 rfl (lv_at hl 0 rfl) ?_
      refine gX3 X hP 3 (v := .ref (g.2.2 226)) rfl (by decide) rfl wd_243 dX3_bestStand_108 ?_
      refine lv_iload hx hb dX3_bestStand_111 (lv_at hl 4 rfl) ?_
      obtain ⟨hc105, hf106⟩ := chk_some hf104
      refine x_ildC X hP 226 rfl hc105 dX3_bestStand_113 ?_
      obtain ⟨x107, hh108, hg114, hf113⟩ := bd_some hf106
      refine x_ci (x_runS (As := [.int (h 226 v5.toNatClampNeg)]) (rest := []) X hP hS (tJ6_bitCount l X.2.2.2.2.2.2.1  hg114) mi_X3_105 rfl hl.1 rfl (Nat.le_of_ble_eq_true rfl) dX3_bestStand_114 ⟨Nat.le_of_ble_eq_true rfl, Nat.le_of_ble_eq_true rfl⟩ ⟨Nat.zero_le _, Nat.zero_le _⟩) hS (fun H109 lc110 hP111 hS112 => ?_)
      clear hf106 hP hS hg114
      refine lv_aload_n hx hb dX3_bestStand_117 rfl (lv_at hl 0 rfl) ?_
      refine gX3 X hP111 3 (v := .ref (g.2.2 226)) rfl (by decide) rfl wd_243 dX3_bestStand_118 ?_
      refine lv_iload hx hb dX3_bestStand_121 (lv_at hl 3 rfl) ?_
      obtain ⟨hc115, hf116⟩ := chk_some hf113
      refine x_ildC X hP111 226 rfl hc115 dX3_bestStand_123 ?_
      obtain ⟨x117, hh118, hg124, hf123⟩ := bd_some hf116
      refine x_ci (x_runS (As := [.int (hh108 226 v4.toNatClampNeg)]) (rest := [.int x107]) X hP111 hS112 (tJ6_bitCount l X.2.2.2.2.2.2.1  hg124) mi_X3_105 rfl hl.1 rfl (Nat.le_of_ble_eq_true rfl) dX3_bestStand_124 ⟨Nat.le_of_ble_eq_true rfl, Nat.le_of_ble_eq_true rfl⟩ ⟨Nat.zero_le _, Nat.zero_le _⟩) hS112 (fun H119 lc120 hP121 hS122 => ?_)
      clear hf116 hP111 hS112 hg124
      obtain ⟨J134_125, eJ134_125, hf138⟩ := jp_at hf123
      clear hf123
      have hJ134_125 : ∀ (J134_125v4 : Int32) (hh126 : Hp) (H127 : Heap) (lc128 : List Loc) (ls129 : Array Slot), J134_125 J134_125v4 hh126 = some (r, h1) → va_P g.1 vwCl (WW g hh126 k) H127 → va_S (inA g) s.heap H127 lc128 → lv_has ls129 7 [(0, .ref (g.2.2 210)), (1, .ref (g.2.2 v1)), (3, .int v3), (4, .int J134_125v4), (5, .int v5)] → W p l en (rmD 4) s m args below meth c H127 lc128 0 0 (MQ below (QI g h1 k r) args s 0 0 (inA g)) (F0 m 134 ls129 []) := by
        intro J134_125v4 hh126 H127 lc128 ls129 hf133 hP130 hS131 hl132
        clear hf138 hP121 hS122 hl
        subst eJ134_125
        obtain ⟨x134, ex134⟩ : ∃ q : Int32, q = v5 + (1 : Int32) := ⟨_, rfl⟩
        have hf135 := lk_at ex134 hf133
        clear hf133
        refine lv_iinc (v := x134) (lv' := [(5, .int x134), (0, .ref (g.2.2 210)), (1, .ref (g.2.2 v1)), (3, .int v3), (4, .int J134_125v4)]) hx hb dX3_bestStand_134 hl132 (k := 4) rfl (by rw [ex134]; rfl) (by decide) rfl (fun ls136 hl137 => ?_)
        clear hl132
        refine lv_goto (tgt := 98) hx hb dX3_bestStand_137 (by decide) ?_
        exact ih J134_125v4 x134 hh126  _ _ _ hf135 hP130 hS131 (lv_sub hl137 [1, 2, 3, 4, 0] rfl)
      clear eJ134_125
      refine lv_icmp_le (tgt := 134) hx hb dX3_bestStand_127 (by decide) (fun c139 => ?_) (fun c139 => ?_)
      · have hf140 := if_at_t c139 hf138
        clear hf138
        exact hJ134_125 v4 hh118  _ _ _ hf140 hP121 hS122 (lv_sub hl [0, 1, 2, 3, 4] rfl)
      · have hf141 := if_at_f c139 hf138
        clear hf138
        refine lv_iload hx hb dX3_bestStand_130 (lv_at hl 4 rfl) ?_
        refine lv_istore (lv' := [(4, .int v5), (0, .ref (g.2.2 210)), (1, .ref (g.2.2 v1)), (3, .int v3), (5, .int v5)]) hx hb dX3_bestStand_132 hl (by decide) rfl (fun ls142 hl143 => ?_)
        clear hl
        exact hJ134_125 v5 hh118  _ _ _ hf141 hP121 hS122 (lv_sub hl143 [1, 2, 3, 0, 4] rfl)
set_option maxRecDepth 100000 in
set_option maxHeartbeats 4000000 in
theorem tX3_bestStand (l : Launch) {g : Gx} (hI : InjG g) {h k h1 : Hp} {a1 : Nat} {a2 : Int32} {a3 : Int32} {r : Int32}  (ha1 : isE a1) (hf : fX3_bestStand a1 a2 a3 h = some (r, h1)) : CI l yX3_bestStand cX3_bestStand 7 (some .int) 4 g [.ref (g.2.2 210), .ref (g.2.2 a1), .int a2, .int a3] h k h1 k r := by
  refine Met.ofW (cc := cX3_bestStand) (maxL := 7) (ret := (some .int)) (by decide) rfl ?_
  intro p en s m args below meth c s₁ B hml hv
  obtain ⟨rfl, hSK, hSH, hP⟩ := hv
  have X : Cx p s m _ c cX3_bestStand 7 RX3 g := ⟨B.exec, B.bytes, hml, findClass_of_methodNamed B.named, fun w hw => atoms_spec (ws := wsy yX3_bestStand cX3_bestStand 7 (some .int)) B.pre w (List.mem_cons_of_mem _ hw), hSK, hI, hSH⟩
  have hr := B.returns
  have hlocks := B.notSynchronized
  have hx := X.1
  have hb := X.2.1
  have hS : va_S (inA g) s.heap s.heap [] := va_S.rf
  clear hSK hSH hml B
  have hl := lv_entry ([.ref (g.2.2 210), .ref (g.2.2 a1), .int a2, .int a3]) (n := 7) (Nat.le_of_ble_eq_true rfl)
  rw [lg_entry_eq]
  generalize (lg_sl ([.ref (g.2.2 210), .ref (g.2.2 a1), .int a2, .int a3]) ++ List.replicate (7 - (lg_sl ([.ref (g.2.2 210), .ref (g.2.2 a1), .int a2, .int a3])).length) Slot.unset).toArray = ls at hl ⊢
  have hl : lv_has ls 7 [(0, .ref (g.2.2 210)), (1, .ref (g.2.2 a1)), (2, .int a2), (3, .int a3)] := hl
  generalize ([.ref (g.2.2 210), .ref (g.2.2 a1), .int a2, .int a3] : List Value).toArray = args at X ⊢
  show W p l en (rmD 4) s m args below meth c s.heap [] 0 0 (MQ below (QI g h1 k r) args s 0 0 (inA g)) (F0 m 0 ls [])
  unfold fX3_bestStand at hf
  refine lv_aload_n hx hb dX3_bestStand_0 rfl (lv_at hl 0 rfl) ?_
  refine gX3 X hP 0 (v := .ref (g.2.2 14)) rfl (by decide) rfl wd_240 dX3_bestStand_1 ?_
  refine lv_aload_n hx hb dX3_bestStand_4 rfl (lv_at hl 1 rfl) ?_
  obtain ⟨⟨⟩, hh2, hg8, hf7⟩ := bd_some hf
  refine x_cv (x_runV (As := [.ref (g.2.2 a1)]) (rest := []) X hP hS 14 (by decide) (cl_E (⟨rfl, by decide⟩ : isE 14)) rfl (tX2_become l X.2.2.2.2.2.2.1 (⟨rfl, by decide⟩ : isE 14) ha1 hg8) mi_X3_33 rfl hl.1 rfl (Nat.le_of_ble_eq_true rfl) dX3_bestStand_5 ⟨Nat.le_of_ble_eq_true rfl, Nat.le_of_ble_eq_true rfl⟩ ⟨Nat.zero_le _, Nat.zero_le _⟩) hS (fun H3 lc4 hP5 hS6 => ?_)
  clear hf hP hS hg8
  refine lv_aload_n hx hb dX3_bestStand_8 rfl (lv_at hl 0 rfl) ?_
  refine gX3 X hP5 3 (v := .ref (g.2.2 226)) rfl (by decide) rfl wd_243 dX3_bestStand_9 ?_
  refine lv_aload_n hx hb dX3_bestStand_12 rfl (lv_at hl 1 rfl) ?_
  obtain ⟨x9, hh10, hg16, hf15⟩ := bd_some hf7
  refine x_ci (x_runV (As := []) (rest := [.ref (g.2.2 226)]) X hP5 hS6 a1 (isE_lt ha1) (cl_E ha1) rfl (tX2_withNumber l X.2.2.2.2.2.2.1 ha1 hg16) mi_X3_95 rfl hl.1 rfl (Nat.le_of_ble_eq_true rfl) dX3_bestStand_13 ⟨Nat.le_of_ble_eq_true rfl, Nat.le_of_ble_eq_true rfl⟩ ⟨Nat.zero_le _, Nat.zero_le _⟩) hS6 (fun H11 lc12 hP13 hS14 => ?_)
  clear hf7 hP5 hS6 hg16
  obtain ⟨⟨⟩, hh18, hg24, hf23⟩ := bd_some hf15
  refine x_cv (x_runS (As := [.ref (g.2.2 226), .int x9]) (rest := []) X hP13 hS14 (tJ7_fill l X.2.2.2.2.2.2.1 (rfl : isIA 226 = true) hg24) mi_X3_68 rfl hl.1 rfl (Nat.le_of_ble_eq_true rfl) dX3_bestStand_16 ⟨Nat.le_of_ble_eq_true rfl, Nat.le_of_ble_eq_true rfl⟩ ⟨Nat.zero_le _, Nat.zero_le _⟩) hS14 (fun H19 lc20 hP21 hS22 => ?_)
  clear hf15 hP13 hS14 hg24
  refine lv_iconst (v := 0) hx hb dX3_bestStand_19 (by decide) ?_
  refine lv_istore (lv' := [(4, .int (0 : Int32)), (0, .ref (g.2.2 210)), (1, .ref (g.2.2 a1)), (2, .int a2), (3, .int a3)]) hx hb dX3_bestStand_20 hl (by decide) rfl (fun ls25 hl26 => ?_)
  clear hl
  refine wX3_bestStand_L22 X hr hlocks ha1 ?_ 4096 (0 : Int32) hh18 _ _ _  hf23 hP21 hS22 (lv_sub hl26 [1, 2, 3, 4, 0] rfl)
  · intro  hh90 H91 lc92 ls93  hf97 hP94 hS95 hl96
    refine lv_iconst (v := 0) hx hb dX3_bestStand_92 (by decide) ?_
    refine lv_istore (lv' := [(4, .int (0 : Int32)), (0, .ref (g.2.2 210)), (1, .ref (g.2.2 a1)), (3, .int a3)]) hx hb dX3_bestStand_93 hl96 (by decide) rfl (fun ls98 hl99 => ?_)
    clear hl96
    refine lv_iconst (v := 1) hx hb dX3_bestStand_95 (by decide) ?_
    refine lv_istore (lv' := [(5, .int (1 : Int32)), (4, .int (0 : Int32)), (0, .ref (g.2.2 210)), (1, .ref (g.2.2 a1)), (3, .int a3)]) hx hb dX3_bestStand_96 hl99 (by decide) rfl (fun ls100 hl101 => ?_)
    clear hl99
    refine wX3_bestStand_L98 X hr hlocks ha1 ?_ 4096 (0 : Int32) (1 : Int32) hh90 _ _ _  hf97 hP94 hS95 (lv_sub hl101 [2, 3, 4, 1, 0] rfl)
    · intro x144 hh145 H146 lc147 ls148  hf152 hP149 hS150 hl151
      refine lv_iload_n hx hb dX3_bestStand_140 rfl (lv_at hl151 1 rfl) ?_
      refine lv_if_ne (tgt := 149) hx hb dX3_bestStand_141 (by decide) (fun c153 => ?_) (fun c153 => ?_)
      · have hf154 := if_at_f c153 hf152
        clear hf152
        refine lv_aload_n hx hb dX3_bestStand_149 rfl (lv_at hl151 0 rfl) ?_
        refine gX3 X hP149 3 (v := .ref (g.2.2 226)) rfl (by decide) rfl wd_243 dX3_bestStand_150 ?_
        refine lv_iload hx hb dX3_bestStand_153 (lv_at hl151 2 rfl) ?_
        obtain ⟨hc155, hf156⟩ := chk_some hf154
        refine x_ildC X hP149 226 rfl hc155 dX3_bestStand_155 ?_
        obtain ⟨x157, hh158, hg164, hf163⟩ := bd_some hf156
        refine x_ci (x_runS (As := [.int (hh145 226 x144.toNatClampNeg)]) (rest := []) X hP149 hS150 (tJ6_bitCount l X.2.2.2.2.2.2.1  hg164) mi_X3_105 rfl hl151.1 rfl (Nat.le_of_ble_eq_true rfl) dX3_bestStand_156 ⟨Nat.le_of_ble_eq_true rfl, Nat.le_of_ble_eq_true rfl⟩ ⟨Nat.zero_le _, Nat.zero_le _⟩) hS150 (fun H159 lc160 hP161 hS162 => ?_)
        clear hf156 hP149 hS150 hg164
        obtain ⟨rfl, rfl⟩ := ret_inj hf163
        exact x_iret X hr hlocks hP161 hS162 dX3_bestStand_159
      · have hf165 := if_at_t c153 hf152
        clear hf152
        refine lv_iload hx hb dX3_bestStand_144 (lv_at hl151 2 rfl) ?_
        refine lv_goto (tgt := 159) hx hb dX3_bestStand_146 (by decide) ?_
        obtain ⟨rfl, rfl⟩ := ret_inj hf165
        exact x_iret X hr hlocks hP149 hS150 dX3_bestStand_159
set_option maxRecDepth 100000 in
set_option maxHeartbeats 4000000 in
theorem tX6_site (l : Launch) {g : Gx} (hI : InjG g) {h k h1 : Hp} {a1 : Int32} {a2 : Int32} {r : Int32}   (hf : fX6_site a1 a2 h = some (r, h1)) : CI l yX6_site cX6_site 3 (some .int) 5 g [.ref (g.2.2 203), .int a1, .int a2] h k h1 k r := by
  refine Met.ofW (cc := cX6_site) (maxL := 3) (ret := (some .int)) (by decide) rfl ?_
  intro p en s m args below meth c s₁ B hml hv
  obtain ⟨rfl, hSK, hSH, hP⟩ := hv
  have X : Cx p s m _ c cX6_site 3 RX6 g := ⟨B.exec, B.bytes, hml, findClass_of_methodNamed B.named, fun w hw => atoms_spec (ws := wsy yX6_site cX6_site 3 (some .int)) B.pre w (List.mem_cons_of_mem _ hw), hSK, hI, hSH⟩
  have hr := B.returns
  have hlocks := B.notSynchronized
  have hx := X.1
  have hb := X.2.1
  have hS : va_S (inA g) s.heap s.heap [] := va_S.rf
  clear hSK hSH hml B
  have hl := lv_entry ([.ref (g.2.2 203), .int a1, .int a2]) (n := 3) (Nat.le_of_ble_eq_true rfl)
  rw [lg_entry_eq]
  generalize (lg_sl ([.ref (g.2.2 203), .int a1, .int a2]) ++ List.replicate (3 - (lg_sl ([.ref (g.2.2 203), .int a1, .int a2])).length) Slot.unset).toArray = ls at hl ⊢
  have hl : lv_has ls 3 [(0, .ref (g.2.2 203)), (1, .int a1), (2, .int a2)] := hl
  generalize ([.ref (g.2.2 203), .int a1, .int a2] : List Value).toArray = args at X ⊢
  show W p l en (rmD 5) s m args below meth c s.heap [] 0 0 (MQ below (QI g h1 k r) args s 0 0 (inA g)) (F0 m 0 ls [])
  unfold fX6_site at hf
  refine lv_aload_n hx hb dX6_site_0 rfl (lv_at hl 0 rfl) ?_
  refine gX6 X hP 2 (v := .ref (g.2.2 0)) rfl (by decide) rfl wd_299 dX6_site_1 ?_
  refine gX2 X hP (⟨rfl, by decide⟩ : isE 0) 6 (v := .int (h 0 6)) rfl (by decide) rfl wd_113 dX6_site_4 ?_
  refine lv_if_ne (tgt := 13) hx hb dX6_site_7 (by decide) (fun c1 => ?_) (fun c1 => ?_)
  · have hf2 := if_at_f c1 hf
    clear hf
    refine lv_iload_n hx hb dX6_site_13 rfl (lv_at hl 1 rfl) ?_
    refine lv_iconst (v := 1) hx hb dX6_site_14 (by decide) ?_
    refine lv_bipush (v := 30) hx hb dX6_site_15 (by decide) ?_
    obtain ⟨x3, hh4, hg10, hf9⟩ := bd_some hf2
    refine x_ci (x_runS (As := [.int a1, .int (1 : Int32), .int (30 : Int32)]) (rest := []) X hP hS (tX6_isWithin l X.2.2.2.2.2.2.1  hg10) mi_X6_59 rfl hl.1 rfl (Nat.le_of_ble_eq_true rfl) dX6_site_17 ⟨Nat.le_of_ble_eq_true rfl, Nat.le_of_ble_eq_true rfl⟩ ⟨Nat.zero_le _, Nat.zero_le _⟩) hS (fun H5 lc6 hP7 hS8 => ?_)
    clear hf2 hP hS hg10
    refine lv_if_eq (tgt := 32) hx hb dX6_site_20 (by decide) (fun c11 => ?_) (fun c11 => ?_)
    · have hf12 := if_at_t c11 hf9
      clear hf9
      refine lv_ldc (v := -1000001) hx hb X.2.2.2.1 (X.2.2.2.2.1 _ wd_335) dX6_site_32 ?_
      obtain ⟨rfl, rfl⟩ := ret_inj hf12
      exact x_iret X hr hlocks hP7 hS8 dX6_site_34
    · have hf13 := if_at_f c11 hf9
      clear hf9
      refine lv_iload_n hx hb dX6_site_23 rfl (lv_at hl 2 rfl) ?_
      refine lv_iconst (v := 0) hx hb dX6_site_24 (by decide) ?_
      refine lv_iconst (v := 1) hx hb dX6_site_25 (by decide) ?_
      obtain ⟨x14, hh15, hg21, hf20⟩ := bd_some hf13
      refine x_ci (x_runS (As := [.int a2, .int (0 : Int32), .int (1 : Int32)]) (rest := []) X hP7 hS8 (tX6_isWithin l X.2.2.2.2.2.2.1  hg21) mi_X6_59 rfl hl.1 rfl (Nat.le_of_ble_eq_true rfl) dX6_site_26 ⟨Nat.le_of_ble_eq_true rfl, Nat.le_of_ble_eq_true rfl⟩ ⟨Nat.zero_le _, Nat.zero_le _⟩) hS8 (fun H16 lc17 hP18 hS19 => ?_)
      clear hf13 hP7 hS8 hg21
      refine lv_if_ne (tgt := 35) hx hb dX6_site_29 (by decide) (fun c22 => ?_) (fun c22 => ?_)
      · have hf23 := if_at_f c22 hf20
        clear hf20
        refine lv_aload_n hx hb dX6_site_35 rfl (lv_at hl 0 rfl) ?_
        refine gX6 X hP18 5 (v := .ref (g.2.2 210)) rfl (by decide) rfl wd_302 dX6_site_36 ?_
        refine lv_aload_n hx hb dX6_site_39 rfl (lv_at hl 0 rfl) ?_
        refine gX6 X hP18 2 (v := .ref (g.2.2 0)) rfl (by decide) rfl wd_299 dX6_site_40 ?_
        refine lv_iload_n hx hb dX6_site_43 rfl (lv_at hl 1 rfl) ?_
        refine lv_iload_n hx hb dX6_site_44 rfl (lv_at hl 2 rfl) ?_
        obtain ⟨x24, hh25, hg31, hf30⟩ := bd_some hf23
        refine x_ci (x_runV (As := [.ref (g.2.2 0), .int a1, .int a2]) (rest := []) X hP18 hS19 210 (by decide) cl_Fo rfl (tX3_bestStand l X.2.2.2.2.2.2.1 (⟨rfl, by decide⟩ : isE 0) hg31) mi_X6_250 rfl hl.1 rfl (Nat.le_of_ble_eq_true rfl) dX6_site_45 ⟨Nat.le_of_ble_eq_true rfl, Nat.le_of_ble_eq_true rfl⟩ ⟨Nat.zero_le _, Nat.zero_le _⟩) hS19 (fun H26 lc27 hP28 hS29 => ?_)
        clear hf23 hP18 hS19 hg31
        obtain ⟨rfl, rfl⟩ := ret_inj hf30
        exact x_iret X hr hlocks hP28 hS29 dX6_site_48
      · have hf32 := if_at_t c22 hf20
        clear hf20
        refine lv_ldc (v := -1000001) hx hb X.2.2.2.1 (X.2.2.2.2.1 _ wd_335) dX6_site_32 ?_
        obtain ⟨rfl, rfl⟩ := ret_inj hf32
        exact x_iret X hr hlocks hP18 hS19 dX6_site_34
  · have hf33 := if_at_t c1 hf
    clear hf
    refine lv_ldc (v := -1000002) hx hb X.2.2.2.1 (X.2.2.2.2.1 _ wd_470) dX6_site_10 ?_
    obtain ⟨rfl, rfl⟩ := ret_inj hf33
    exact x_iret X hr hlocks hP hS dX6_site_12
set_option maxRecDepth 100000 in
set_option maxHeartbeats 4000000 in
theorem wX3_numberedBy_L5 {p : Program} {l : Launch} {en : Env} {s : State} {m : MethodId} {args : Array Value} {below : List Frame} {meth : Method} {c : Code} {g : Gx} (X : Cx p s m args c cX3_numberedBy 5 RX3 g) (hr : meth.sig.returnType = (some .int)) (hlocks : meth.locks = false) {k h1 : Hp} {r : Int32} {v1 : Int32}  {K40 : Int32 → Hp → Option (Int32 × Hp)}
    (hK40 : ∀ (v3 : Int32) (h : Hp) (H : Heap) (locs : List Loc) (ls : Array Slot), K40 v3 h = some (r, h1) → va_P g.1 vwCl (WW g h k) H → va_S (inA g) s.heap H locs → lv_has ls 5 [(3, .int v3)] → W p l en (rmD 1) s m args below meth c H locs 0 0 (MQ below (QI g h1 k r) args s 0 0 (inA g)) (F0 m 40 ls [])) :
    ∀ (n : Nat) (v3 : Int32) (v4 : Int32) (h : Hp) (H : Heap) (locs : List Loc) (ls : Array Slot), fX3_numberedBy_L5 K40 n v1 v3 v4 h = some (r, h1) → va_P g.1 vwCl (WW g h k) H → va_S (inA g) s.heap H locs → lv_has ls 5 [(0, .ref (g.2.2 210)), (1, .int v1), (3, .int v3), (4, .int v4)] → W p l en (rmD 1) s m args below meth c H locs 0 0 (MQ below (QI g h1 k r) args s 0 0 (inA g)) (F0 m 5 ls []) := by
  have hx := X.1
  have hb := X.2.1
  intro n
  induction n with
  | zero => intro v3 v4 h H locs ls  hf; simp only [fX3_numberedBy_L5, reduceCtorEq] at hf
  | succ n ih =>
    intro v3 v4 h H locs ls  hf hP hS hl
    rw [fX3_numberedBy_L5] at hf
    refine lv_iload hx hb dX3_numberedBy_5 (lv_at hl 3 rfl) ?_
    refine lv_iconst (v := 4) hx hb dX3_numberedBy_7 (by decide) ?_
    refine lv_icmp_ge (tgt := 40) hx hb dX3_numberedBy_8 (by decide) (fun c5 => ?_) (fun c5 => ?_)
    · have hf6 := if_at_t c5 hf
      clear hf
      exact hK40 v3 h  _ _ _ hf6 hP hS (lv_sub hl [2] rfl)
    · have hf7 := if_at_f c5 hf
      clear hf
      refine lv_iload_n hx hb dX3_numberedBy_11 rfl (lv_at hl 2 rfl) ?_
      refine lv_iload_n hx hb dX3_numberedBy_12 rfl (lv_at hl 1 rfl) ?_
      refine lv_iload hx hb dX3_numberedBy_13 (lv_at hl 3 rfl) ?_
      refine x_ishr X dX3_numberedBy_15 ?_
      refine lv_iconst (v := 1) hx hb dX3_numberedBy_16 (by decide) ?_
      refine lv_iand hx hb dX3_numberedBy_17 ?_
      obtain ⟨J32_8, eJ32_8, hf25⟩ := jp_at hf7
      clear hf7
      have hJ32_8 : ∀ (J32_8s0 : Int32) (hh9 : Hp) (H10 : Heap) (lc11 : List Loc) (ls12 : Array Slot), J32_8 J32_8s0 hh9 = some (r, h1) → va_P g.1 vwCl (WW g hh9 k) H10 → va_S (inA g) s.heap H10 lc11 → lv_has ls12 5 [(0, .ref (g.2.2 210)), (1, .int v1), (4, .int v4)] → W p l en (rmD 1) s m args below meth c H10 lc11 0 0 (MQ below (QI g h1 k r) args s 0 0 (inA g)) (F0 m 32 ls12 [.int J32_8s0, .int v3]) := by
        intro J32_8s0 hh9 H10 lc11 ls12 hf16 hP13 hS14 hl15
        clear hf25 hP hS hl
        subst eJ32_8
        refine lv_ior hx hb dX3_numberedBy_32 ?_
        refine lv_topi (fun x17 ex17 => ?_)
        have hf18 := lk_at ex17 hf16
        clear hf16
        refine lv_istore_n (lv' := [(3, .int x17), (0, .ref (g.2.2 210)), (1, .int v1), (4, .int v4)]) hx hb dX3_numberedBy_33 rfl hl15 (by decide) rfl (fun ls19 hl20 => ?_)
        clear hl15
        obtain ⟨x21, ex21⟩ : ∃ q : Int32, q = v4 + (1 : Int32) := ⟨_, rfl⟩
        have hf22 := lk_at ex21 hf18
        clear hf18
        refine lv_iinc (v := x21) (lv' := [(4, .int x21), (3, .int x17), (0, .ref (g.2.2 210)), (1, .int v1)]) hx hb dX3_numberedBy_34 hl20 (k := 3) rfl (by rw [ex21]; rfl) (by decide) rfl (fun ls23 hl24 => ?_)
        clear hl20
        refine lv_goto (tgt := 5) hx hb dX3_numberedBy_37 (by decide) ?_
        exact ih x17 x21 hh9  _ _ _ hf22 hP13 hS14 (lv_sub hl24 [2, 3, 1, 0] rfl)
      clear eJ32_8
      refine lv_if_eq (tgt := 31) hx hb dX3_numberedBy_18 (by decide) (fun c26 => ?_) (fun c26 => ?_)
      · have hf27 := if_at_t c26 hf25
        clear hf25
        refine lv_iconst (v := 0) hx hb dX3_numberedBy_31 (by decide) ?_
        exact hJ32_8 (0 : Int32) h  _ _ _ hf27 hP hS (lv_sub hl [0, 1, 3] rfl)
      · have hf28 := if_at_f c26 hf25
        clear hf25
        refine lv_aload_n hx hb dX3_numberedBy_21 rfl (lv_at hl 0 rfl) ?_
        refine gX3 X hP 3 (v := .ref (g.2.2 226)) rfl (by decide) rfl wd_243 dX3_numberedBy_22 ?_
        refine lv_iload hx hb dX3_numberedBy_25 (lv_at hl 3 rfl) ?_
        obtain ⟨hc29, hf30⟩ := chk_some hf28
        refine x_ildC X hP 226 rfl hc29 dX3_numberedBy_27 ?_
        refine lv_goto (tgt := 32) hx hb dX3_numberedBy_28 (by decide) ?_
        exact hJ32_8 (h 226 v4.toNatClampNeg) h  _ _ _ hf30 hP hS (lv_sub hl [0, 1, 3] rfl)
set_option maxRecDepth 100000 in
set_option maxHeartbeats 4000000 in
theorem tX3_numberedBy (l : Launch) {g : Gx} (hI : InjG g) {h k h1 : Hp} {a1 : Int32} {a2 : Int32} {r : Int32}   (hf : fX3_numberedBy a1 a2 h = some (r, h1)) : CI l yX3_numberedBy cX3_numberedBy 5 (some .int) 1 g [.ref (g.2.2 210), .int a1, .int a2] h k h1 k r := by
  refine Met.ofW (cc := cX3_numberedBy) (maxL := 5) (ret := (some .int)) (by decide) rfl ?_
  intro p en s m args below meth c s₁ B hml hv
  obtain ⟨rfl, hSK, hSH, hP⟩ := hv
  have X : Cx p s m _ c cX3_numberedBy 5 RX3 g := ⟨B.exec, B.bytes, hml, findClass_of_methodNamed B.named, fun w hw => atoms_spec (ws := wsy yX3_numberedBy cX3_numberedBy 5 (some .int)) B.pre w (List.mem_cons_of_mem _ hw), hSK, hI, hSH⟩
  have hr := B.returns
  have hlocks := B.notSynchronized
  have hx := X.1
  have hb := X.2.1
  have hS : va_S (inA g) s.heap s.heap [] := va_S.rf
  clear hSK hSH hml B
  have hl := lv_entry ([.ref (g.2.2 210), .int a1, .int a2]) (n := 5) (Nat.le_of_ble_eq_true rfl)
  rw [lg_entry_eq]
  generalize (lg_sl ([.ref (g.2.2 210), .int a1, .int a2]) ++ List.replicate (5 - (lg_sl ([.ref (g.2.2 210), .int a1, .int a2])).length) Slot.unset).toArray = ls at hl ⊢
  have hl : lv_has ls 5 [(0, .ref (g.2.2 210)), (1, .int a1), (2, .int a2)] := hl
  generalize ([.ref (g.2.2 210), .int a1, .int a2] : List Value).toArray = args at X ⊢
  show W p l en (rmD 1) s m args below meth c s.heap [] 0 0 (MQ below (QI g h1 k r) args s 0 0 (inA g)) (F0 m 0 ls [])
  unfold fX3_numberedBy at hf
  refine lv_iload_n hx hb dX3_numberedBy_0 rfl (lv_at hl 2 rfl) ?_
  refine lv_istore_n (lv' := [(3, .int a2), (0, .ref (g.2.2 210)), (1, .int a1), (2, .int a2)]) hx hb dX3_numberedBy_1 rfl hl (by decide) rfl (fun ls1 hl2 => ?_)
  clear hl
  refine lv_iconst (v := 0) hx hb dX3_numberedBy_2 (by decide) ?_
  refine lv_istore (lv' := [(4, .int (0 : Int32)), (3, .int a2), (0, .ref (g.2.2 210)), (1, .int a1), (2, .int a2)]) hx hb dX3_numberedBy_3 hl2 (by decide) rfl (fun ls3 hl4 => ?_)
  clear hl2
  refine wX3_numberedBy_L5 X hr hlocks  ?_ 4096 a2 (0 : Int32) h _ _ _  hf hP hS (lv_sub hl4 [2, 3, 1, 0] rfl)
  · intro x31 hh32 H33 lc34 ls35  hf39 hP36 hS37 hl38
    refine lv_iload_n hx hb dX3_numberedBy_40 rfl (lv_at hl38 0 rfl) ?_
    obtain ⟨x40, hh41, hg47, hf46⟩ := bd_some hf39
    refine x_ci (x_runS (As := [.int x31]) (rest := []) X hP36 hS37 (tJ6_bitCount l X.2.2.2.2.2.2.1  hg47) mi_X3_105 rfl hl38.1 rfl (Nat.le_of_ble_eq_true rfl) dX3_numberedBy_41 ⟨Nat.le_of_ble_eq_true rfl, Nat.le_of_ble_eq_true rfl⟩ ⟨Nat.zero_le _, Nat.zero_le _⟩) hS37 (fun H42 lc43 hP44 hS45 => ?_)
    clear hf39 hP36 hS37 hg47
    obtain ⟨rfl, rfl⟩ := ret_inj hf46
    exact x_iret X hr hlocks hP44 hS45 dX3_numberedBy_44
set_option maxRecDepth 100000 in
set_option maxHeartbeats 4000000 in
theorem wX3_leastAwake_L18 {p : Program} {l : Launch} {en : Env} {s : State} {m : MethodId} {args : Array Value} {below : List Frame} {meth : Method} {c : Code} {g : Gx} (X : Cx p s m args c cX3_leastAwake 7 RX3 g) (hr : meth.sig.returnType = (some .int)) (hlocks : meth.locks = false) {k h1 : Hp} {r : Int32} {v1 : Nat} {v2 : Int32} (hv1 : isE v1) {K68 : Hp → Option (Int32 × Hp)}
    (hK68 : ∀  (h : Hp) (H : Heap) (locs : List Loc) (ls : Array Slot), K68  h = some (r, h1) → va_P g.1 vwCl (WW g h k) H → va_S (inA g) s.heap H locs → lv_has ls 7 [(0, .ref (g.2.2 210)), (1, .ref (g.2.2 v1))] → W p l en (rmD 4) s m args below meth c H locs 0 0 (MQ below (QI g h1 k r) args s 0 0 (inA g)) (F0 m 68 ls [])) :
    ∀ (n : Nat) (v3 : Int32) (h : Hp) (H : Heap) (locs : List Loc) (ls : Array Slot), fX3_leastAwake_L18 K68 n v1 v2 v3 h = some (r, h1) → va_P g.1 vwCl (WW g h k) H → va_S (inA g) s.heap H locs → lv_has ls 7 [(0, .ref (g.2.2 210)), (1, .ref (g.2.2 v1)), (2, .int v2), (3, .int v3)] → W p l en (rmD 4) s m args below meth c H locs 0 0 (MQ below (QI g h1 k r) args s 0 0 (inA g)) (F0 m 18 ls []) := by
  have hx := X.1
  have hb := X.2.1
  intro n
  induction n with
  | zero => intro v3 h H locs ls  hf; simp only [fX3_leastAwake_L18, reduceCtorEq] at hf
  | succ n ih =>
    intro v3 h H locs ls  hf hP hS hl
    rw [fX3_leastAwake_L18] at hf
    refine lv_iload_n hx hb dX3_leastAwake_18 rfl (lv_at hl 3 rfl) ?_
    refine lv_iload_n hx hb dX3_leastAwake_19 rfl (lv_at hl 2 rfl) ?_
    refine lv_icmp_ge (tgt := 68) hx hb dX3_leastAwake_20 (by decide) (fun c19 => ?_) (fun c19 => ?_)
    · have hf20 := if_at_t c19 hf
      clear hf
      exact hK68 h  _ _ _ hf20 hP hS (lv_sub hl [0, 1] rfl)
    · have hf21 := if_at_f c19 hf
      clear hf
      refine lv_aload_n hx hb dX3_leastAwake_23 rfl (lv_at hl 0 rfl) ?_
      refine gX3 X hP 0 (v := .ref (g.2.2 14)) rfl (by decide) rfl wd_240 dX3_leastAwake_24 ?_
      refine gX2 X hP (⟨rfl, by decide⟩ : isE 14) 13 (v := .int (h 14 13)) rfl (by decide) rfl wd_139 dX3_leastAwake_27 ?_
      refine lv_iconst (v := 3) hx hb dX3_leastAwake_30 (by decide) ?_
      refine lv_iand hx hb dX3_leastAwake_31 ?_
      refine lv_topi (fun x22 ex22 => ?_)
      have hf23 := lk_at ex22 hf21
      clear hf21
      refine lv_istore (lv' := [(4, .int x22), (0, .ref (g.2.2 210)), (1, .ref (g.2.2 v1)), (2, .int v2), (3, .int v3)]) hx hb dX3_leastAwake_32 hl (by decide) rfl (fun ls24 hl25 => ?_)
      clear hl
      refine lv_aload_n hx hb dX3_leastAwake_34 rfl (lv_at hl25 1 rfl) ?_
      refine gX3 X hP 0 (v := .ref (g.2.2 14)) rfl (by decide) rfl wd_240 dX3_leastAwake_35 ?_
      obtain ⟨⟨⟩, hh27, hg33, hf32⟩ := bd_some hf23
      refine x_cv (x_runV (As := []) (rest := []) X hP hS 14 (by decide) (cl_E (⟨rfl, by decide⟩ : isE 14)) rfl (tX2_passHour l X.2.2.2.2.2.2.1 (⟨rfl, by decide⟩ : isE 14) hg33) mi_X3_37 rfl hl25.1 rfl (Nat.le_of_ble_eq_true rfl) dX3_leastAwake_38 ⟨Nat.le_of_ble_eq_true rfl, Nat.le_of_ble_eq_true rfl⟩ ⟨Nat.zero_le _, Nat.zero_le _⟩) hS (fun H28 lc29 hP30 hS31 => ?_)
      clear hf23 hP hS hg33
      refine lv_aload_n hx hb dX3_leastAwake_41 rfl (lv_at hl25 1 rfl) ?_
      refine gX3 X hP30 3 (v := .ref (g.2.2 226)) rfl (by decide) rfl wd_243 dX3_leastAwake_42 ?_
      refine lv_iload hx hb dX3_leastAwake_45 (lv_at hl25 0 rfl) ?_
      refine lv_dup2_11 hx hb dX3_leastAwake_47 rfl rfl ?_
      obtain ⟨hc34, hf35⟩ := chk_some hf32
      refine x_ildC X hP30 226 rfl hc34 dX3_leastAwake_48 ?_
      refine lv_aload_n hx hb dX3_leastAwake_49 rfl (lv_at hl25 1 rfl) ?_
      refine gX3 X hP30 0 (v := .ref (g.2.2 14)) rfl (by decide) rfl wd_240 dX3_leastAwake_50 ?_
      refine lv_aload_n hx hb dX3_leastAwake_53 rfl (lv_at hl25 2 rfl) ?_
      refine gX2 X hP30 hv1 8 (v := .int (hh27 v1 8)) rfl (by decide) rfl wd_120 dX3_leastAwake_54 ?_
      obtain ⟨x36, hh37, hg43, hf42⟩ := bd_some hf35
      refine x_ci (x_runV (As := [.int (hh27 v1 8)]) (rest := [.int (hh27 226 x22.toNatClampNeg), .int x22, .ref (g.2.2 226)]) X hP30 hS31 14 (by decide) (cl_E (⟨rfl, by decide⟩ : isE 14)) rfl (tX2_sheetsOn l X.2.2.2.2.2.2.1 (⟨rfl, by decide⟩ : isE 14) hg43) mi_X3_102 rfl hl25.1 rfl (Nat.le_of_ble_eq_true rfl) dX3_leastAwake_57 ⟨Nat.le_of_ble_eq_true rfl, Nat.le_of_ble_eq_true rfl⟩ ⟨Nat.zero_le _, Nat.zero_le _⟩) hS31 (fun H38 lc39 hP40 hS41 => ?_)
      clear hf35 hP30 hS31 hg43
      refine lv_ior hx hb dX3_leastAwake_60 ?_
      obtain ⟨hc44, hf45⟩ := chk_some hf42
      refine x_istC X hP40 hS41 226 rfl hc44 dX3_leastAwake_61 (fun H46 lc47 hh48 ehh48 hP49 hS50 => ?_)
      have hf51 := lk_at ehh48 hf45
      clear hf45 hP40 hS41
      obtain ⟨x52, ex52⟩ : ∃ q : Int32, q = v3 + (1 : Int32) := ⟨_, rfl⟩
      have hf53 := lk_at ex52 hf51
      clear hf51
      refine lv_iinc (v := x52) (lv' := [(3, .int x52), (4, .int x22), (0, .ref (g.2.2 210)), (1, .ref (g.2.2 v1)), (2, .int v2)]) hx hb dX3_leastAwake_62 hl25 (k := 4) rfl (by rw [ex52]; rfl) (by decide) rfl (fun ls54 hl55 => ?_)
      clear hl25
      refine lv_goto (tgt := 18) hx hb dX3_leastAwake_65 (by decide) ?_
      exact ih x52 hh48  _ _ _ hf53 hP49 hS50 (lv_sub hl55 [2, 3, 4, 0] rfl)
set_option maxRecDepth 100000 in
set_option maxHeartbeats 4000000 in
theorem wX3_leastAwake_L90 {p : Program} {l : Launch} {en : Env} {s : State} {m : MethodId} {args : Array Value} {below : List Frame} {meth : Method} {c : Code} {g : Gx} (X : Cx p s m args c cX3_leastAwake 7 RX3 g) (hr : meth.sig.returnType = (some .int)) (hlocks : meth.locks = false) {k h1 : Hp} {r : Int32} {v3 : Int32} {v4 : Int32}  
     :
    ∀ (n : Nat) (v5 : Int32) (v6 : Int32) (h : Hp) (H : Heap) (locs : List Loc) (ls : Array Slot), fX3_leastAwake_L90 n v3 v4 v5 v6 h = some (r, h1) → va_P g.1 vwCl (WW g h k) H → va_S (inA g) s.heap H locs → lv_has ls 7 [(0, .ref (g.2.2 210)), (3, .int v3), (4, .int v4), (5, .int v5), (6, .int v6)] → W p l en (rmD 4) s m args below meth c H locs 0 0 (MQ below (QI g h1 k r) args s 0 0 (inA g)) (F0 m 90 ls []) := by
  have hx := X.1
  have hb := X.2.1
  intro n
  induction n with
  | zero => intro v5 v6 h H locs ls  hf; simp only [fX3_leastAwake_L90, reduceCtorEq] at hf
  | succ n ih =>
    intro v5 v6 h H locs ls  hf hP hS hl
    rw [fX3_leastAwake_L90] at hf
    refine lv_iload hx hb dX3_leastAwake_90 (lv_at hl 4 rfl) ?_
    refine lv_if_lt (tgt := 130) hx hb dX3_leastAwake_92 (by decide) (fun c88 => ?_) (fun c88 => ?_)
    · have hf89 := if_at_t c88 hf
      clear hf
      refine lv_iload hx hb dX3_leastAwake_130 (lv_at hl 3 rfl) ?_
      obtain ⟨rfl, rfl⟩ := ret_inj hf89
      exact x_iret X hr hlocks hP hS dX3_leastAwake_132
    · have hf90 := if_at_f c88 hf
      clear hf
      refine lv_aload_n hx hb dX3_leastAwake_95 rfl (lv_at hl 0 rfl) ?_
      refine lv_iload hx hb dX3_leastAwake_96 (lv_at hl 4 rfl) ?_
      refine lv_iload_n hx hb dX3_leastAwake_98 rfl (lv_at hl 1 rfl) ?_
      obtain ⟨x91, hh92, hg98, hf97⟩ := bd_some hf90
      refine x_ci (x_runV (As := [.int v6, .int v3]) (rest := []) X hP hS 210 (by decide) cl_Fo rfl (tX3_numberedBy l X.2.2.2.2.2.2.1  hg98) mi_X3_116 rfl hl.1 rfl (Nat.le_of_ble_eq_true rfl) dX3_leastAwake_99 ⟨Nat.le_of_ble_eq_true rfl, Nat.le_of_ble_eq_true rfl⟩ ⟨Nat.zero_le _, Nat.zero_le _⟩) hS (fun H93 lc94 hP95 hS96 => ?_)
      clear hf90 hP hS hg98
      refine lv_iload hx hb dX3_leastAwake_102 (lv_at hl 2 rfl) ?_
      obtain ⟨J124_99, eJ124_99, hf112⟩ := jp_at hf97
      clear hf97
      have hJ124_99 : ∀ (J124_99v5 : Int32) (hh100 : Hp) (H101 : Heap) (lc102 : List Loc) (ls103 : Array Slot), J124_99 J124_99v5 hh100 = some (r, h1) → va_P g.1 vwCl (WW g hh100 k) H101 → va_S (inA g) s.heap H101 lc102 → lv_has ls103 7 [(0, .ref (g.2.2 210)), (3, .int v3), (4, .int v4), (5, .int J124_99v5), (6, .int v6)] → W p l en (rmD 4) s m args below meth c H101 lc102 0 0 (MQ below (QI g h1 k r) args s 0 0 (inA g)) (F0 m 124 ls103 []) := by
        intro J124_99v5 hh100 H101 lc102 ls103 hf107 hP104 hS105 hl106
        clear hf112 hP95 hS96 hl
        subst eJ124_99
        obtain ⟨x108, ex108⟩ : ∃ q : Int32, q = v6 + (-1 : Int32) := ⟨_, rfl⟩
        have hf109 := lk_at ex108 hf107
        clear hf107
        refine lv_iinc (v := x108) (lv' := [(6, .int x108), (0, .ref (g.2.2 210)), (3, .int v3), (4, .int v4), (5, .int J124_99v5)]) hx hb dX3_leastAwake_124 hl106 (k := 4) rfl (by rw [ex108]; rfl) (by decide) rfl (fun ls110 hl111 => ?_)
        clear hl106
        refine lv_goto (tgt := 90) hx hb dX3_leastAwake_127 (by decide) ?_
        exact ih J124_99v5 x108 hh100  _ _ _ hf109 hP104 hS105 (lv_sub hl111 [1, 2, 3, 4, 0] rfl)
      clear eJ124_99
      refine lv_icmp_ne (tgt := 124) hx hb dX3_leastAwake_104 (by decide) (fun c113 => ?_) (fun c113 => ?_)
      · have hf114 := if_at_f c113 hf112
        clear hf112
        exact hJ124_99 v5 hh92  _ _ _ hf114 hP95 hS96 (lv_sub hl [0, 1, 2, 3, 4] rfl)
      · have hf115 := if_at_t c113 hf112
        clear hf112
        refine lv_iload hx hb dX3_leastAwake_107 (lv_at hl 4 rfl) ?_
        obtain ⟨x116, hh117, hg123, hf122⟩ := bd_some hf115
        refine x_ci (x_runS (As := [.int v6]) (rest := []) X hP95 hS96 (tJ6_bitCount l X.2.2.2.2.2.2.1  hg123) mi_X3_105 rfl hl.1 rfl (Nat.le_of_ble_eq_true rfl) dX3_leastAwake_109 ⟨Nat.le_of_ble_eq_true rfl, Nat.le_of_ble_eq_true rfl⟩ ⟨Nat.zero_le _, Nat.zero_le _⟩) hS96 (fun H118 lc119 hP120 hS121 => ?_)
        clear hf115 hP95 hS96 hg123
        refine lv_iload hx hb dX3_leastAwake_112 (lv_at hl 3 rfl) ?_
        obtain ⟨x124, hh125, hg131, hf130⟩ := bd_some hf122
        refine x_ci (x_runS (As := [.int v5]) (rest := [.int x116]) X hP120 hS121 (tJ6_bitCount l X.2.2.2.2.2.2.1  hg131) mi_X3_105 rfl hl.1 rfl (Nat.le_of_ble_eq_true rfl) dX3_leastAwake_114 ⟨Nat.le_of_ble_eq_true rfl, Nat.le_of_ble_eq_true rfl⟩ ⟨Nat.zero_le _, Nat.zero_le _⟩) hS121 (fun H126 lc127 hP128 hS129 => ?_)
        clear hf122 hP120 hS121 hg131
        refine lv_icmp_gt (tgt := 124) hx hb dX3_leastAwake_117 (by decide) (fun c132 => ?_) (fun c132 => ?_)
        · have hf133 := if_at_t c132 hf130
          clear hf130
          exact hJ124_99 v5 hh125  _ _ _ hf133 hP128 hS129 (lv_sub hl [0, 1, 2, 3, 4] rfl)
        · have hf134 := if_at_f c132 hf130
          clear hf130
          refine lv_iload hx hb dX3_leastAwake_120 (lv_at hl 4 rfl) ?_
          refine lv_istore (lv' := [(5, .int v6), (0, .ref (g.2.2 210)), (3, .int v3), (4, .int v4), (6, .int v6)]) hx hb dX3_leastAwake_122 hl (by decide) rfl (fun ls135 hl136 => ?_)
          clear hl
          exact hJ124_99 v6 hh125  _ _ _ hf134 hP128 hS129 (lv_sub hl136 [1, 2, 3, 0, 4] rfl)
set_option maxRecDepth 100000 in
set_option maxHeartbeats 4000000 in
theorem tX3_leastAwake (l : Launch) {g : Gx} (hI : InjG g) {h k h1 : Hp} {a1 : Nat} {a2 : Int32} {r : Int32}  (ha1 : isE a1) (hf : fX3_leastAwake a1 a2 h = some (r, h1)) : CI l yX3_leastAwake cX3_leastAwake 7 (some .int) 4 g [.ref (g.2.2 210), .ref (g.2.2 a1), .int a2] h k h1 k r := by
  refine Met.ofW (cc := cX3_leastAwake) (maxL := 7) (ret := (some .int)) (by decide) rfl ?_
  intro p en s m args below meth c s₁ B hml hv
  obtain ⟨rfl, hSK, hSH, hP⟩ := hv
  have X : Cx p s m _ c cX3_leastAwake 7 RX3 g := ⟨B.exec, B.bytes, hml, findClass_of_methodNamed B.named, fun w hw => atoms_spec (ws := wsy yX3_leastAwake cX3_leastAwake 7 (some .int)) B.pre w (List.mem_cons_of_mem _ hw), hSK, hI, hSH⟩
  have hr := B.returns
  have hlocks := B.notSynchronized
  have hx := X.1
  have hb := X.2.1
  have hS : va_S (inA g) s.heap s.heap [] := va_S.rf
  clear hSK hSH hml B
  have hl := lv_entry ([.ref (g.2.2 210), .ref (g.2.2 a1), .int a2]) (n := 7) (Nat.le_of_ble_eq_true rfl)
  rw [lg_entry_eq]
  generalize (lg_sl ([.ref (g.2.2 210), .ref (g.2.2 a1), .int a2]) ++ List.replicate (7 - (lg_sl ([.ref (g.2.2 210), .ref (g.2.2 a1), .int a2])).length) Slot.unset).toArray = ls at hl ⊢
  have hl : lv_has ls 7 [(0, .ref (g.2.2 210)), (1, .ref (g.2.2 a1)), (2, .int a2)] := hl
  generalize ([.ref (g.2.2 210), .ref (g.2.2 a1), .int a2] : List Value).toArray = args at X ⊢
  show W p l en (rmD 4) s m args below meth c s.heap [] 0 0 (MQ below (QI g h1 k r) args s 0 0 (inA g)) (F0 m 0 ls [])
  unfold fX3_leastAwake at hf
  refine lv_aload_n hx hb dX3_leastAwake_0 rfl (lv_at hl 0 rfl) ?_
  refine gX3 X hP 0 (v := .ref (g.2.2 14)) rfl (by decide) rfl wd_240 dX3_leastAwake_1 ?_
  refine lv_aload_n hx hb dX3_leastAwake_4 rfl (lv_at hl 1 rfl) ?_
  obtain ⟨⟨⟩, hh2, hg8, hf7⟩ := bd_some hf
  refine x_cv (x_runV (As := [.ref (g.2.2 a1)]) (rest := []) X hP hS 14 (by decide) (cl_E (⟨rfl, by decide⟩ : isE 14)) rfl (tX2_become l X.2.2.2.2.2.2.1 (⟨rfl, by decide⟩ : isE 14) ha1 hg8) mi_X3_33 rfl hl.1 rfl (Nat.le_of_ble_eq_true rfl) dX3_leastAwake_5 ⟨Nat.le_of_ble_eq_true rfl, Nat.le_of_ble_eq_true rfl⟩ ⟨Nat.zero_le _, Nat.zero_le _⟩) hS (fun H3 lc4 hP5 hS6 => ?_)
  clear hf hP hS hg8
  refine lv_aload_n hx hb dX3_leastAwake_8 rfl (lv_at hl 0 rfl) ?_
  refine gX3 X hP5 3 (v := .ref (g.2.2 226)) rfl (by decide) rfl wd_243 dX3_leastAwake_9 ?_
  refine lv_iconst (v := 0) hx hb dX3_leastAwake_12 (by decide) ?_
  obtain ⟨⟨⟩, hh10, hg16, hf15⟩ := bd_some hf7
  refine x_cv (x_runS (As := [.ref (g.2.2 226), .int (0 : Int32)]) (rest := []) X hP5 hS6 (tJ7_fill l X.2.2.2.2.2.2.1 (rfl : isIA 226 = true) hg16) mi_X3_68 rfl hl.1 rfl (Nat.le_of_ble_eq_true rfl) dX3_leastAwake_13 ⟨Nat.le_of_ble_eq_true rfl, Nat.le_of_ble_eq_true rfl⟩ ⟨Nat.zero_le _, Nat.zero_le _⟩) hS6 (fun H11 lc12 hP13 hS14 => ?_)
  clear hf7 hP5 hS6 hg16
  refine lv_iconst (v := 0) hx hb dX3_leastAwake_16 (by decide) ?_
  refine lv_istore_n (lv' := [(3, .int (0 : Int32)), (0, .ref (g.2.2 210)), (1, .ref (g.2.2 a1)), (2, .int a2)]) hx hb dX3_leastAwake_17 rfl hl (by decide) rfl (fun ls17 hl18 => ?_)
  clear hl
  refine wX3_leastAwake_L18 X hr hlocks ha1 ?_ 4096 (0 : Int32) hh10 _ _ _  hf15 hP13 hS14 (lv_sub hl18 [1, 2, 3, 0] rfl)
  · intro  hh56 H57 lc58 ls59  hf63 hP60 hS61 hl62
    refine lv_aload_n hx hb dX3_leastAwake_68 rfl (lv_at hl62 1 rfl) ?_
    obtain ⟨x64, hh65, hg71, hf70⟩ := bd_some hf63
    refine x_ci (x_runV (As := []) (rest := []) X hP60 hS61 a1 (isE_lt ha1) (cl_E ha1) rfl (tX2_withNumber l X.2.2.2.2.2.2.1 ha1 hg71) mi_X3_95 rfl hl62.1 rfl (Nat.le_of_ble_eq_true rfl) dX3_leastAwake_69 ⟨Nat.le_of_ble_eq_true rfl, Nat.le_of_ble_eq_true rfl⟩ ⟨Nat.zero_le _, Nat.zero_le _⟩) hS61 (fun H66 lc67 hP68 hS69 => ?_)
    clear hf63 hP60 hS61 hg71
    refine lv_istore_n (lv' := [(3, .int x64), (0, .ref (g.2.2 210)), (1, .ref (g.2.2 a1))]) hx hb dX3_leastAwake_72 rfl hl62 (by decide) rfl (fun ls72 hl73 => ?_)
    clear hl62
    refine lv_aload_n hx hb dX3_leastAwake_73 rfl (lv_at hl73 1 rfl) ?_
    refine lv_bipush (v := 15) hx hb dX3_leastAwake_74 (by decide) ?_
    refine lv_iload_n hx hb dX3_leastAwake_76 rfl (lv_at hl73 0 rfl) ?_
    obtain ⟨x74, hh75, hg81, hf80⟩ := bd_some hf70
    refine x_ci (x_runV (As := [.int (15 : Int32), .int x64]) (rest := []) X hP68 hS69 210 (by decide) cl_Fo rfl (tX3_numberedBy l X.2.2.2.2.2.2.1  hg81) mi_X3_116 rfl hl73.1 rfl (Nat.le_of_ble_eq_true rfl) dX3_leastAwake_77 ⟨Nat.le_of_ble_eq_true rfl, Nat.le_of_ble_eq_true rfl⟩ ⟨Nat.zero_le _, Nat.zero_le _⟩) hS69 (fun H76 lc77 hP78 hS79 => ?_)
    clear hf70 hP68 hS69 hg81
    refine lv_istore (lv' := [(4, .int x74), (3, .int x64), (0, .ref (g.2.2 210)), (1, .ref (g.2.2 a1))]) hx hb dX3_leastAwake_80 hl73 (by decide) rfl (fun ls82 hl83 => ?_)
    clear hl73
    refine lv_bipush (v := 15) hx hb dX3_leastAwake_82 (by decide) ?_
    refine lv_istore (lv' := [(5, .int (15 : Int32)), (4, .int x74), (3, .int x64), (0, .ref (g.2.2 210)), (1, .ref (g.2.2 a1))]) hx hb dX3_leastAwake_84 hl83 (by decide) rfl (fun ls84 hl85 => ?_)
    clear hl83
    refine lv_bipush (v := 14) hx hb dX3_leastAwake_86 (by decide) ?_
    refine lv_istore (lv' := [(6, .int (14 : Int32)), (5, .int (15 : Int32)), (4, .int x74), (3, .int x64), (0, .ref (g.2.2 210)), (1, .ref (g.2.2 a1))]) hx hb dX3_leastAwake_88 hl85 (by decide) rfl (fun ls86 hl87 => ?_)
    clear hl85
    refine wX3_leastAwake_L90 X hr hlocks   4096 (15 : Int32) (14 : Int32) hh75 _ _ _  hf80 hP78 hS79 (lv_sub hl87 [4, 3, 2, 1, 0] rfl)
set_option maxRecDepth 100000 in
set_option maxHeartbeats 4000000 in
theorem tX6_waking (l : Launch) {g : Gx} (hI : InjG g) {h k h1 : Hp} {a1 : Int32} {a2 : Int32} {r : Int32}   (hf : fX6_waking a1 a2 h = some (r, h1)) : CI l yX6_waking cX6_waking 4 (some .int) 5 g [.ref (g.2.2 203), .int a1, .int a2] h k h1 k r := by
  refine Met.ofW (cc := cX6_waking) (maxL := 4) (ret := (some .int)) (by decide) rfl ?_
  intro p en s m args below meth c s₁ B hml hv
  obtain ⟨rfl, hSK, hSH, hP⟩ := hv
  have X : Cx p s m _ c cX6_waking 4 RX6 g := ⟨B.exec, B.bytes, hml, findClass_of_methodNamed B.named, fun w hw => atoms_spec (ws := wsy yX6_waking cX6_waking 4 (some .int)) B.pre w (List.mem_cons_of_mem _ hw), hSK, hI, hSH⟩
  have hr := B.returns
  have hlocks := B.notSynchronized
  have hx := X.1
  have hb := X.2.1
  have hS : va_S (inA g) s.heap s.heap [] := va_S.rf
  clear hSK hSH hml B
  have hl := lv_entry ([.ref (g.2.2 203), .int a1, .int a2]) (n := 4) (Nat.le_of_ble_eq_true rfl)
  rw [lg_entry_eq]
  generalize (lg_sl ([.ref (g.2.2 203), .int a1, .int a2]) ++ List.replicate (4 - (lg_sl ([.ref (g.2.2 203), .int a1, .int a2])).length) Slot.unset).toArray = ls at hl ⊢
  have hl : lv_has ls 4 [(0, .ref (g.2.2 203)), (1, .int a1), (2, .int a2)] := hl
  generalize ([.ref (g.2.2 203), .int a1, .int a2] : List Value).toArray = args at X ⊢
  show W p l en (rmD 5) s m args below meth c s.heap [] 0 0 (MQ below (QI g h1 k r) args s 0 0 (inA g)) (F0 m 0 ls [])
  unfold fX6_waking at hf
  refine lv_aload_n hx hb dX6_waking_0 rfl (lv_at hl 0 rfl) ?_
  refine gX6 X hP 2 (v := .ref (g.2.2 0)) rfl (by decide) rfl wd_299 dX6_waking_1 ?_
  refine gX2 X hP (⟨rfl, by decide⟩ : isE 0) 6 (v := .int (h 0 6)) rfl (by decide) rfl wd_113 dX6_waking_4 ?_
  refine lv_if_ne (tgt := 13) hx hb dX6_waking_7 (by decide) (fun c1 => ?_) (fun c1 => ?_)
  · have hf2 := if_at_f c1 hf
    clear hf
    refine lv_iload_n hx hb dX6_waking_13 rfl (lv_at hl 1 rfl) ?_
    refine lv_iconst (v := 1) hx hb dX6_waking_14 (by decide) ?_
    refine lv_bipush (v := 30) hx hb dX6_waking_15 (by decide) ?_
    obtain ⟨x3, hh4, hg10, hf9⟩ := bd_some hf2
    refine x_ci (x_runS (As := [.int a1, .int (1 : Int32), .int (30 : Int32)]) (rest := []) X hP hS (tX6_isWithin l X.2.2.2.2.2.2.1  hg10) mi_X6_59 rfl hl.1 rfl (Nat.le_of_ble_eq_true rfl) dX6_waking_17 ⟨Nat.le_of_ble_eq_true rfl, Nat.le_of_ble_eq_true rfl⟩ ⟨Nat.zero_le _, Nat.zero_le _⟩) hS (fun H5 lc6 hP7 hS8 => ?_)
    clear hf2 hP hS hg10
    refine lv_if_eq (tgt := 32) hx hb dX6_waking_20 (by decide) (fun c11 => ?_) (fun c11 => ?_)
    · have hf12 := if_at_t c11 hf9
      clear hf9
      refine lv_ldc (v := -1000001) hx hb X.2.2.2.1 (X.2.2.2.2.1 _ wd_335) dX6_waking_32 ?_
      obtain ⟨rfl, rfl⟩ := ret_inj hf12
      exact x_iret X hr hlocks hP7 hS8 dX6_waking_34
    · have hf13 := if_at_f c11 hf9
      clear hf9
      refine lv_iload_n hx hb dX6_waking_23 rfl (lv_at hl 2 rfl) ?_
      refine lv_iconst (v := 0) hx hb dX6_waking_24 (by decide) ?_
      refine lv_iconst (v := 1) hx hb dX6_waking_25 (by decide) ?_
      obtain ⟨x14, hh15, hg21, hf20⟩ := bd_some hf13
      refine x_ci (x_runS (As := [.int a2, .int (0 : Int32), .int (1 : Int32)]) (rest := []) X hP7 hS8 (tX6_isWithin l X.2.2.2.2.2.2.1  hg21) mi_X6_59 rfl hl.1 rfl (Nat.le_of_ble_eq_true rfl) dX6_waking_26 ⟨Nat.le_of_ble_eq_true rfl, Nat.le_of_ble_eq_true rfl⟩ ⟨Nat.zero_le _, Nat.zero_le _⟩) hS8 (fun H16 lc17 hP18 hS19 => ?_)
      clear hf13 hP7 hS8 hg21
      refine lv_if_ne (tgt := 35) hx hb dX6_waking_29 (by decide) (fun c22 => ?_) (fun c22 => ?_)
      · have hf23 := if_at_f c22 hf20
        clear hf20
        refine lv_aload_n hx hb dX6_waking_35 rfl (lv_at hl 0 rfl) ?_
        refine gX6 X hP18 5 (v := .ref (g.2.2 210)) rfl (by decide) rfl wd_302 dX6_waking_36 ?_
        refine lv_aload_n hx hb dX6_waking_39 rfl (lv_at hl 0 rfl) ?_
        refine gX6 X hP18 2 (v := .ref (g.2.2 0)) rfl (by decide) rfl wd_299 dX6_waking_40 ?_
        refine lv_iload_n hx hb dX6_waking_43 rfl (lv_at hl 1 rfl) ?_
        obtain ⟨x24, hh25, hg31, hf30⟩ := bd_some hf23
        refine x_ci (x_runV (As := [.ref (g.2.2 0), .int a1]) (rest := []) X hP18 hS19 210 (by decide) cl_Fo rfl (tX3_leastAwake l X.2.2.2.2.2.2.1 (⟨rfl, by decide⟩ : isE 0) hg31) mi_X6_253 rfl hl.1 rfl (Nat.le_of_ble_eq_true rfl) dX6_waking_44 ⟨Nat.le_of_ble_eq_true rfl, Nat.le_of_ble_eq_true rfl⟩ ⟨Nat.zero_le _, Nat.zero_le _⟩) hS19 (fun H26 lc27 hP28 hS29 => ?_)
        clear hf23 hP18 hS19 hg31
        refine lv_istore_n (lv' := [(3, .int x24), (0, .ref (g.2.2 203)), (1, .int a1), (2, .int a2)]) hx hb dX6_waking_47 rfl hl (by decide) rfl (fun ls32 hl33 => ?_)
        clear hl
        refine lv_iload_n hx hb dX6_waking_48 rfl (lv_at hl33 3 rfl) ?_
        refine lv_if_ne (tgt := 56) hx hb dX6_waking_49 (by decide) (fun c34 => ?_) (fun c34 => ?_)
        · have hf35 := if_at_f c34 hf30
          clear hf30
          refine lv_iload_n hx hb dX6_waking_56 rfl (lv_at hl33 0 rfl) ?_
          obtain ⟨x36, hh37, hg43, hf42⟩ := bd_some hf35
          refine x_ci (x_runS (As := [.int x24]) (rest := []) X hP28 hS29 (tJ6_bitCount l X.2.2.2.2.2.2.1  hg43) mi_X6_256 rfl hl33.1 rfl (Nat.le_of_ble_eq_true rfl) dX6_waking_57 ⟨Nat.le_of_ble_eq_true rfl, Nat.le_of_ble_eq_true rfl⟩ ⟨Nat.zero_le _, Nat.zero_le _⟩) hS29 (fun H38 lc39 hP40 hS41 => ?_)
          clear hf35 hP28 hS29 hg43
          obtain ⟨rfl, rfl⟩ := ret_inj hf42
          exact x_iret X hr hlocks hP40 hS41 dX6_waking_60
        · have hf44 := if_at_t c34 hf30
          clear hf30
          refine lv_iload_n hx hb dX6_waking_52 rfl (lv_at hl33 0 rfl) ?_
          refine lv_goto (tgt := 60) hx hb dX6_waking_53 (by decide) ?_
          obtain ⟨rfl, rfl⟩ := ret_inj hf44
          exact x_iret X hr hlocks hP28 hS29 dX6_waking_60
      · have hf45 := if_at_t c22 hf20
        clear hf20
        refine lv_ldc (v := -1000001) hx hb X.2.2.2.1 (X.2.2.2.2.1 _ wd_335) dX6_waking_32 ?_
        obtain ⟨rfl, rfl⟩ := ret_inj hf45
        exact x_iret X hr hlocks hP18 hS19 dX6_waking_34
  · have hf46 := if_at_t c1 hf
    clear hf
    refine lv_ldc (v := -1000002) hx hb X.2.2.2.1 (X.2.2.2.2.1 _ wd_470) dX6_waking_10 ?_
    obtain ⟨rfl, rfl⟩ := ret_inj hf46
    exact x_iret X hr hlocks hP hS dX6_waking_12
set_option maxRecDepth 100000 in
set_option maxHeartbeats 4000000 in
theorem wX2_thicknessOfSet_L4 {p : Program} {l : Launch} {en : Env} {s : State} {m : MethodId} {args : Array Value} {below : List Frame} {meth : Method} {c : Code} {g : Gx} (X : Cx p s m args c cX2_thicknessOfSet 4 RX2 g) (hr : meth.sig.returnType = (some .int)) (hlocks : meth.locks = false) {k h1 : Hp} {r : Int32} {v0 : Nat} {v1 : Int32} (hv0 : isE v0) 
     :
    ∀ (n : Nat) (v2 : Int32) (v3 : Int32) (h : Hp) (H : Heap) (locs : List Loc) (ls : Array Slot), fX2_thicknessOfSet_L4 n v0 v1 v2 v3 h = some (r, h1) → va_P g.1 vwCl (WW g h k) H → va_S (inA g) s.heap H locs → lv_has ls 4 [(0, .ref (g.2.2 v0)), (1, .int v1), (2, .int v2), (3, .int v3)] → W p l en (rmD 0) s m args below meth c H locs 0 0 (MQ below (QI g h1 k r) args s 0 0 (inA g)) (F0 m 4 ls []) := by
  have hx := X.1
  have hb := X.2.1
  intro n
  induction n with
  | zero => intro v2 v3 h H locs ls  hf; simp only [fX2_thicknessOfSet_L4, reduceCtorEq] at hf
  | succ n ih =>
    intro v2 v3 h H locs ls  hf hP hS hl
    rw [fX2_thicknessOfSet_L4] at hf
    refine lv_iload_n hx hb dX2_thicknessOfSet_4 rfl (lv_at hl 3 rfl) ?_
    refine lv_aload_n hx hb dX2_thicknessOfSet_5 rfl (lv_at hl 0 rfl) ?_
    refine gX2 X hP hv0 12 (v := .int (h v0 12)) rfl (by decide) rfl wd_133 dX2_thicknessOfSet_6 ?_
    refine lv_icmp_ge (tgt := 39) hx hb dX2_thicknessOfSet_9 (by decide) (fun c5 => ?_) (fun c5 => ?_)
    · have hf6 := if_at_t c5 hf
      clear hf
      refine lv_iload_n hx hb dX2_thicknessOfSet_39 rfl (lv_at hl 2 rfl) ?_
      obtain ⟨rfl, rfl⟩ := ret_inj hf6
      exact x_iret X hr hlocks hP hS dX2_thicknessOfSet_40
    · have hf7 := if_at_f c5 hf
      clear hf
      refine lv_iload_n hx hb dX2_thicknessOfSet_12 rfl (lv_at hl 2 rfl) ?_
      refine lv_iload_n hx hb dX2_thicknessOfSet_13 rfl (lv_at hl 1 rfl) ?_
      refine lv_iload_n hx hb dX2_thicknessOfSet_14 rfl (lv_at hl 3 rfl) ?_
      refine x_ishr X dX2_thicknessOfSet_15 ?_
      refine lv_iconst (v := 1) hx hb dX2_thicknessOfSet_16 (by decide) ?_
      refine lv_iand hx hb dX2_thicknessOfSet_17 ?_
      obtain ⟨J31_8, eJ31_8, hf25⟩ := jp_at hf7
      clear hf7
      have hJ31_8 : ∀ (J31_8s0 : Int32) (hh9 : Hp) (H10 : Heap) (lc11 : List Loc) (ls12 : Array Slot), J31_8 J31_8s0 hh9 = some (r, h1) → va_P g.1 vwCl (WW g hh9 k) H10 → va_S (inA g) s.heap H10 lc11 → lv_has ls12 4 [(0, .ref (g.2.2 v0)), (1, .int v1), (3, .int v3)] → W p l en (rmD 0) s m args below meth c H10 lc11 0 0 (MQ below (QI g h1 k r) args s 0 0 (inA g)) (F0 m 31 ls12 [.int J31_8s0, .int v2]) := by
        intro J31_8s0 hh9 H10 lc11 ls12 hf16 hP13 hS14 hl15
        clear hf25 hP hS hl
        subst eJ31_8
        refine lv_iadd hx hb dX2_thicknessOfSet_31 ?_
        refine lv_topi (fun x17 ex17 => ?_)
        have hf18 := lk_at ex17 hf16
        clear hf16
        refine lv_istore_n (lv' := [(2, .int x17), (0, .ref (g.2.2 v0)), (1, .int v1), (3, .int v3)]) hx hb dX2_thicknessOfSet_32 rfl hl15 (by decide) rfl (fun ls19 hl20 => ?_)
        clear hl15
        obtain ⟨x21, ex21⟩ : ∃ q : Int32, q = v3 + (1 : Int32) := ⟨_, rfl⟩
        have hf22 := lk_at ex21 hf18
        clear hf18
        refine lv_iinc (v := x21) (lv' := [(3, .int x21), (2, .int x17), (0, .ref (g.2.2 v0)), (1, .int v1)]) hx hb dX2_thicknessOfSet_33 hl20 (k := 3) rfl (by rw [ex21]; rfl) (by decide) rfl (fun ls23 hl24 => ?_)
        clear hl20
        refine lv_goto (tgt := 4) hx hb dX2_thicknessOfSet_36 (by decide) ?_
        exact ih x17 x21 hh9  _ _ _ hf22 hP13 hS14 (lv_sub hl24 [2, 3, 1, 0] rfl)
      clear eJ31_8
      refine lv_if_eq (tgt := 30) hx hb dX2_thicknessOfSet_18 (by decide) (fun c26 => ?_) (fun c26 => ?_)
      · have hf27 := if_at_t c26 hf25
        clear hf25
        refine lv_iconst (v := 0) hx hb dX2_thicknessOfSet_30 (by decide) ?_
        exact hJ31_8 (0 : Int32) h  _ _ _ hf27 hP hS (lv_sub hl [0, 1, 3] rfl)
      · have hf28 := if_at_f c26 hf25
        clear hf25
        refine lv_aload_n hx hb dX2_thicknessOfSet_21 rfl (lv_at hl 0 rfl) ?_
        refine gX2 X hP hv0 4 (v := .ref (g.2.2 (v0 + 5))) rfl (by decide) rfl wd_105 dX2_thicknessOfSet_22 ?_
        refine lv_iload_n hx hb dX2_thicknessOfSet_25 rfl (lv_at hl 3 rfl) ?_
        obtain ⟨hc29, hf30⟩ := chk_some hf28
        refine x_ildC X hP (v0 + 5) (ia_E5 hv0) hc29 dX2_thicknessOfSet_26 ?_
        refine lv_goto (tgt := 31) hx hb dX2_thicknessOfSet_27 (by decide) ?_
        exact hJ31_8 (h (v0 + 5) v3.toNatClampNeg) h  _ _ _ hf30 hP hS (lv_sub hl [0, 1, 3] rfl)
set_option maxRecDepth 100000 in
set_option maxHeartbeats 4000000 in
theorem tX2_thicknessOfSet (l : Launch) {g : Gx} (hI : InjG g) {h k h1 : Hp} {e : Nat} {a1 : Int32} {r : Int32}  (he : isE e) (hf : fX2_thicknessOfSet e a1 h = some (r, h1)) : CI l yX2_thicknessOfSet cX2_thicknessOfSet 4 (some .int) 0 g [.ref (g.2.2 e), .int a1] h k h1 k r := by
  refine Met.ofW (cc := cX2_thicknessOfSet) (maxL := 4) (ret := (some .int)) (by decide) rfl ?_
  intro p en s m args below meth c s₁ B hml hv
  obtain ⟨rfl, hSK, hSH, hP⟩ := hv
  have X : Cx p s m _ c cX2_thicknessOfSet 4 RX2 g := ⟨B.exec, B.bytes, hml, findClass_of_methodNamed B.named, fun w hw => atoms_spec (ws := wsy yX2_thicknessOfSet cX2_thicknessOfSet 4 (some .int)) B.pre w (List.mem_cons_of_mem _ hw), hSK, hI, hSH⟩
  have hr := B.returns
  have hlocks := B.notSynchronized
  have hx := X.1
  have hb := X.2.1
  have hS : va_S (inA g) s.heap s.heap [] := va_S.rf
  clear hSK hSH hml B
  have hl := lv_entry ([.ref (g.2.2 e), .int a1]) (n := 4) (Nat.le_of_ble_eq_true rfl)
  rw [lg_entry_eq]
  generalize (lg_sl ([.ref (g.2.2 e), .int a1]) ++ List.replicate (4 - (lg_sl ([.ref (g.2.2 e), .int a1])).length) Slot.unset).toArray = ls at hl ⊢
  have hl : lv_has ls 4 [(0, .ref (g.2.2 e)), (1, .int a1)] := hl
  generalize ([.ref (g.2.2 e), .int a1] : List Value).toArray = args at X ⊢
  show W p l en (rmD 0) s m args below meth c s.heap [] 0 0 (MQ below (QI g h1 k r) args s 0 0 (inA g)) (F0 m 0 ls [])
  unfold fX2_thicknessOfSet at hf
  refine lv_iconst (v := 0) hx hb dX2_thicknessOfSet_0 (by decide) ?_
  refine lv_istore_n (lv' := [(2, .int (0 : Int32)), (0, .ref (g.2.2 e)), (1, .int a1)]) hx hb dX2_thicknessOfSet_1 rfl hl (by decide) rfl (fun ls1 hl2 => ?_)
  clear hl
  refine lv_iconst (v := 0) hx hb dX2_thicknessOfSet_2 (by decide) ?_
  refine lv_istore_n (lv' := [(3, .int (0 : Int32)), (2, .int (0 : Int32)), (0, .ref (g.2.2 e)), (1, .int a1)]) hx hb dX2_thicknessOfSet_3 rfl hl2 (by decide) rfl (fun ls3 hl4 => ?_)
  clear hl2
  refine wX2_thicknessOfSet_L4 X hr hlocks he  4096 (0 : Int32) (0 : Int32) h _ _ _  hf hP hS (lv_sub hl4 [2, 3, 1, 0] rfl)
set_option maxRecDepth 100000 in
set_option maxHeartbeats 4000000 in
theorem wX2_setsAsThick_L14 {p : Program} {l : Launch} {en : Env} {s : State} {m : MethodId} {args : Array Value} {below : List Frame} {meth : Method} {c : Code} {g : Gx} (X : Cx p s m args c cX2_setsAsThick 7 RX2 g) (hr : meth.sig.returnType = (some .int)) (hlocks : meth.locks = false) {k h1 : Hp} {r : Int32} {v0 : Nat} {v1 : Int32} {v2 : Int32} (hv0 : isE v0) {K70 : Int32 → Int32 → Int32 → Hp → Option (Int32 × Hp)}
    (hK70 : ∀ (v3 : Int32) (v4 : Int32) (v5 : Int32) (h : Hp) (H : Heap) (locs : List Loc) (ls : Array Slot), K70 v3 v4 v5 h = some (r, h1) → va_P g.1 vwCl (WW g h k) H → va_S (inA g) s.heap H locs → lv_has ls 7 [(2, .int v2), (3, .int v3), (4, .int v4), (5, .int v5)] → W p l en (rmD 1) s m args below meth c H locs 0 0 (MQ below (QI g h1 k r) args s 0 0 (inA g)) (F0 m 70 ls [])) :
    ∀ (n : Nat) (v3 : Int32) (v4 : Int32) (v5 : Int32) (v6 : Int32) (h : Hp) (H : Heap) (locs : List Loc) (ls : Array Slot), fX2_setsAsThick_L14 K70 n v0 v1 v2 v3 v4 v5 v6 h = some (r, h1) → va_P g.1 vwCl (WW g h k) H → va_S (inA g) s.heap H locs → lv_has ls 7 [(0, .ref (g.2.2 v0)), (1, .int v1), (2, .int v2), (3, .int v3), (4, .int v4), (5, .int v5), (6, .int v6)] → W p l en (rmD 1) s m args below meth c H locs 0 0 (MQ below (QI g h1 k r) args s 0 0 (inA g)) (F0 m 14 ls []) := by
  have hx := X.1
  have hb := X.2.1
  intro n
  induction n with
  | zero => intro v3 v4 v5 v6 h H locs ls  hf; simp only [fX2_setsAsThick_L14, reduceCtorEq] at hf
  | succ n ih =>
    intro v3 v4 v5 v6 h H locs ls  hf hP hS hl
    rw [fX2_setsAsThick_L14] at hf
    refine lv_iload hx hb dX2_setsAsThick_14 (lv_at hl 6 rfl) ?_
    refine lv_iconst (v := 1) hx hb dX2_setsAsThick_16 (by decide) ?_
    refine lv_aload_n hx hb dX2_setsAsThick_17 rfl (lv_at hl 0 rfl) ?_
    refine gX2 X hP hv0 12 (v := .int (h v0 12)) rfl (by decide) rfl wd_133 dX2_setsAsThick_18 ?_
    refine x_ishl X dX2_setsAsThick_21 ?_
    refine lv_icmp_ge (tgt := 70) hx hb dX2_setsAsThick_22 (by decide) (fun c11 => ?_) (fun c11 => ?_)
    · have hf12 := if_at_t c11 hf
      clear hf
      exact hK70 v3 v4 v5 h  _ _ _ hf12 hP hS (lv_sub hl [2, 3, 4, 5] rfl)
    · have hf13 := if_at_f c11 hf
      clear hf
      refine lv_iload hx hb dX2_setsAsThick_25 (lv_at hl 6 rfl) ?_
      refine lv_aload_n hx hb dX2_setsAsThick_27 rfl (lv_at hl 0 rfl) ?_
      refine gX2 X hP hv0 14 (v := .int (h v0 14)) rfl (by decide) rfl wd_140 dX2_setsAsThick_28 ?_
      refine lv_iconst (v := -1) hx hb dX2_setsAsThick_31 (by decide) ?_
      refine lv_ixor hx hb dX2_setsAsThick_32 ?_
      refine lv_iand hx hb dX2_setsAsThick_33 ?_
      obtain ⟨J64_14, eJ64_14, hf27⟩ := jp_at hf13
      clear hf13
      have hJ64_14 : ∀ (J64_14v3 : Int32) (J64_14v4 : Int32) (J64_14v5 : Int32) (hh15 : Hp) (H16 : Heap) (lc17 : List Loc) (ls18 : Array Slot), J64_14 J64_14v3 J64_14v4 J64_14v5 hh15 = some (r, h1) → va_P g.1 vwCl (WW g hh15 k) H16 → va_S (inA g) s.heap H16 lc17 → lv_has ls18 7 [(0, .ref (g.2.2 v0)), (1, .int v1), (2, .int v2), (3, .int J64_14v3), (4, .int J64_14v4), (5, .int J64_14v5), (6, .int v6)] → W p l en (rmD 1) s m args below meth c H16 lc17 0 0 (MQ below (QI g h1 k r) args s 0 0 (inA g)) (F0 m 64 ls18 []) := by
        intro J64_14v3 J64_14v4 J64_14v5 hh15 H16 lc17 ls18 hf22 hP19 hS20 hl21
        clear hf27 hP hS hl
        subst eJ64_14
        obtain ⟨x23, ex23⟩ : ∃ q : Int32, q = v6 + (1 : Int32) := ⟨_, rfl⟩
        have hf24 := lk_at ex23 hf22
        clear hf22
        refine lv_iinc (v := x23) (lv' := [(6, .int x23), (0, .ref (g.2.2 v0)), (1, .int v1), (2, .int v2), (3, .int J64_14v3), (4, .int J64_14v4), (5, .int J64_14v5)]) hx hb dX2_setsAsThick_64 hl21 (k := 6) rfl (by rw [ex23]; rfl) (by decide) rfl (fun ls25 hl26 => ?_)
        clear hl21
        refine lv_goto (tgt := 14) hx hb dX2_setsAsThick_67 (by decide) ?_
        exact ih J64_14v3 J64_14v4 J64_14v5 x23 hh15  _ _ _ hf24 hP19 hS20 (lv_sub hl26 [1, 2, 3, 4, 5, 6, 0] rfl)
      clear eJ64_14
      refine lv_if_ne (tgt := 64) hx hb dX2_setsAsThick_34 (by decide) (fun c28 => ?_) (fun c28 => ?_)
      · have hf29 := if_at_f c28 hf27
        clear hf27
        exact hJ64_14 v3 v4 v5 h  _ _ _ hf29 hP hS (lv_sub hl [0, 1, 2, 3, 4, 5, 6] rfl)
      · have hf30 := if_at_t c28 hf27
        clear hf27
        refine lv_aload_n hx hb dX2_setsAsThick_37 rfl (lv_at hl 0 rfl) ?_
        refine lv_iload hx hb dX2_setsAsThick_38 (lv_at hl 6 rfl) ?_
        obtain ⟨x31, hh32, hg38, hf37⟩ := bd_some hf30
        refine x_ci (x_runV (As := [.int v6]) (rest := []) X hP hS v0 (isE_lt hv0) (cl_E hv0) rfl (tX2_thicknessOfSet l X.2.2.2.2.2.2.1 hv0 hg38) mi_X2_122 rfl hl.1 rfl (Nat.le_of_ble_eq_true rfl) dX2_setsAsThick_40 ⟨Nat.le_of_ble_eq_true rfl, Nat.le_of_ble_eq_true rfl⟩ ⟨Nat.zero_le _, Nat.zero_le _⟩) hS (fun H33 lc34 hP35 hS36 => ?_)
        clear hf30 hP hS hg38
        refine lv_iload_n hx hb dX2_setsAsThick_43 rfl (lv_at hl 1 rfl) ?_
        refine lv_icmp_ne (tgt := 64) hx hb dX2_setsAsThick_44 (by decide) (fun c39 => ?_) (fun c39 => ?_)
        · have hf40 := if_at_f c39 hf37
          clear hf37
          exact hJ64_14 v3 v4 v5 hh32  _ _ _ hf40 hP35 hS36 (lv_sub hl [0, 1, 2, 3, 4, 5, 6] rfl)
        · have hf41 := if_at_t c39 hf37
          clear hf37
          obtain ⟨x42, ex42⟩ : ∃ q : Int32, q = v3 + (1 : Int32) := ⟨_, rfl⟩
          have hf43 := lk_at ex42 hf41
          clear hf41
          refine lv_iinc (v := x42) (lv' := [(3, .int x42), (0, .ref (g.2.2 v0)), (1, .int v1), (2, .int v2), (4, .int v4), (5, .int v5), (6, .int v6)]) hx hb dX2_setsAsThick_47 hl (k := 3) rfl (by rw [ex42]; rfl) (by decide) rfl (fun ls44 hl45 => ?_)
          clear hl
          refine lv_iload hx hb dX2_setsAsThick_50 (lv_at hl45 4 rfl) ?_
          refine lv_iload hx hb dX2_setsAsThick_52 (lv_at hl45 6 rfl) ?_
          refine lv_iand hx hb dX2_setsAsThick_54 ?_
          refine lv_topi (fun x46 ex46 => ?_)
          have hf47 := lk_at ex46 hf43
          clear hf43
          refine lv_istore (lv' := [(4, .int x46), (3, .int x42), (0, .ref (g.2.2 v0)), (1, .int v1), (2, .int v2), (5, .int v5), (6, .int v6)]) hx hb dX2_setsAsThick_55 hl45 (by decide) rfl (fun ls48 hl49 => ?_)
          clear hl45
          refine lv_iload hx hb dX2_setsAsThick_57 (lv_at hl49 5 rfl) ?_
          refine lv_iload hx hb dX2_setsAsThick_59 (lv_at hl49 6 rfl) ?_
          refine lv_ior hx hb dX2_setsAsThick_61 ?_
          refine lv_topi (fun x50 ex50 => ?_)
          have hf51 := lk_at ex50 hf47
          clear hf47
          refine lv_istore (lv' := [(5, .int x50), (4, .int x46), (3, .int x42), (0, .ref (g.2.2 v0)), (1, .int v1), (2, .int v2), (6, .int v6)]) hx hb dX2_setsAsThick_62 hl49 (by decide) rfl (fun ls52 hl53 => ?_)
          clear hl49
          exact hJ64_14 x42 x46 x50 hh32  _ _ _ hf51 hP35 hS36 (lv_sub hl53 [3, 4, 5, 2, 1, 0, 6] rfl)
set_option maxRecDepth 100000 in
set_option maxHeartbeats 4000000 in
theorem tX2_setsAsThick (l : Launch) {g : Gx} (hI : InjG g) {h k h1 : Hp} {e : Nat} {a1 : Int32} {a2 : Int32} {r : Int32}  (he : isE e) (hf : fX2_setsAsThick e a1 a2 h = some (r, h1)) : CI l yX2_setsAsThick cX2_setsAsThick 7 (some .int) 1 g [.ref (g.2.2 e), .int a1, .int a2] h k h1 k r := by
  refine Met.ofW (cc := cX2_setsAsThick) (maxL := 7) (ret := (some .int)) (by decide) rfl ?_
  intro p en s m args below meth c s₁ B hml hv
  obtain ⟨rfl, hSK, hSH, hP⟩ := hv
  have X : Cx p s m _ c cX2_setsAsThick 7 RX2 g := ⟨B.exec, B.bytes, hml, findClass_of_methodNamed B.named, fun w hw => atoms_spec (ws := wsy yX2_setsAsThick cX2_setsAsThick 7 (some .int)) B.pre w (List.mem_cons_of_mem _ hw), hSK, hI, hSH⟩
  have hr := B.returns
  have hlocks := B.notSynchronized
  have hx := X.1
  have hb := X.2.1
  have hS : va_S (inA g) s.heap s.heap [] := va_S.rf
  clear hSK hSH hml B
  have hl := lv_entry ([.ref (g.2.2 e), .int a1, .int a2]) (n := 7) (Nat.le_of_ble_eq_true rfl)
  rw [lg_entry_eq]
  generalize (lg_sl ([.ref (g.2.2 e), .int a1, .int a2]) ++ List.replicate (7 - (lg_sl ([.ref (g.2.2 e), .int a1, .int a2])).length) Slot.unset).toArray = ls at hl ⊢
  have hl : lv_has ls 7 [(0, .ref (g.2.2 e)), (1, .int a1), (2, .int a2)] := hl
  generalize ([.ref (g.2.2 e), .int a1, .int a2] : List Value).toArray = args at X ⊢
  show W p l en (rmD 1) s m args below meth c s.heap [] 0 0 (MQ below (QI g h1 k r) args s 0 0 (inA g)) (F0 m 0 ls [])
  unfold fX2_setsAsThick at hf
  refine lv_iconst (v := 0) hx hb dX2_setsAsThick_0 (by decide) ?_
  refine lv_istore_n (lv' := [(3, .int (0 : Int32)), (0, .ref (g.2.2 e)), (1, .int a1), (2, .int a2)]) hx hb dX2_setsAsThick_1 rfl hl (by decide) rfl (fun ls1 hl2 => ?_)
  clear hl
  refine lv_aload_n hx hb dX2_setsAsThick_2 rfl (lv_at hl2 1 rfl) ?_
  refine gX2 X hP he 14 (v := .int (h e 14)) rfl (by decide) rfl wd_140 dX2_setsAsThick_3 ?_
  refine lv_topi (fun x3 ex3 => ?_)
  have hf4 := lk_at ex3 hf
  clear hf
  refine lv_istore (lv' := [(4, .int x3), (3, .int (0 : Int32)), (0, .ref (g.2.2 e)), (1, .int a1), (2, .int a2)]) hx hb dX2_setsAsThick_6 hl2 (by decide) rfl (fun ls5 hl6 => ?_)
  clear hl2
  refine lv_iconst (v := 0) hx hb dX2_setsAsThick_8 (by decide) ?_
  refine lv_istore (lv' := [(5, .int (0 : Int32)), (4, .int x3), (3, .int (0 : Int32)), (0, .ref (g.2.2 e)), (1, .int a1), (2, .int a2)]) hx hb dX2_setsAsThick_9 hl6 (by decide) rfl (fun ls7 hl8 => ?_)
  clear hl6
  refine lv_iconst (v := 0) hx hb dX2_setsAsThick_11 (by decide) ?_
  refine lv_istore (lv' := [(6, .int (0 : Int32)), (5, .int (0 : Int32)), (4, .int x3), (3, .int (0 : Int32)), (0, .ref (g.2.2 e)), (1, .int a1), (2, .int a2)]) hx hb dX2_setsAsThick_12 hl8 (by decide) rfl (fun ls9 hl10 => ?_)
  clear hl8
  refine wX2_setsAsThick_L14 X hr hlocks he ?_ 4096 (0 : Int32) x3 (0 : Int32) (0 : Int32) h _ _ _  hf4 hP hS (lv_sub hl10 [4, 5, 6, 3, 2, 1, 0] rfl)
  · intro x54 x55 x56 hh57 H58 lc59 ls60  hf64 hP61 hS62 hl63
    refine lv_iload_n hx hb dX2_setsAsThick_70 rfl (lv_at hl63 0 rfl) ?_
    refine lv_if_ne (tgt := 76) hx hb dX2_setsAsThick_71 (by decide) (fun c65 => ?_) (fun c65 => ?_)
    · have hf66 := if_at_f c65 hf64
      clear hf64
      refine lv_iload_n hx hb dX2_setsAsThick_76 rfl (lv_at hl63 0 rfl) ?_
      refine lv_iconst (v := 2) hx hb dX2_setsAsThick_77 (by decide) ?_
      refine lv_icmp_ne (tgt := 84) hx hb dX2_setsAsThick_78 (by decide) (fun c67 => ?_) (fun c67 => ?_)
      · have hf68 := if_at_f c67 hf66
        clear hf66
        refine lv_iload_n hx hb dX2_setsAsThick_84 rfl (lv_at hl63 1 rfl) ?_
        refine lv_if_ne (tgt := 92) hx hb dX2_setsAsThick_85 (by decide) (fun c69 => ?_) (fun c69 => ?_)
        · have hf70 := if_at_f c69 hf68
          clear hf68
          refine lv_iload hx hb dX2_setsAsThick_92 (lv_at hl63 2 rfl) ?_
          obtain ⟨rfl, rfl⟩ := ret_inj hf70
          exact x_iret X hr hlocks hP61 hS62 dX2_setsAsThick_94
        · have hf71 := if_at_t c69 hf68
          clear hf68
          refine lv_iconst (v := 0) hx hb dX2_setsAsThick_88 (by decide) ?_
          refine lv_goto (tgt := 94) hx hb dX2_setsAsThick_89 (by decide) ?_
          obtain ⟨rfl, rfl⟩ := ret_inj hf71
          exact x_iret X hr hlocks hP61 hS62 dX2_setsAsThick_94
      · have hf72 := if_at_t c67 hf66
        clear hf66
        refine lv_iload hx hb dX2_setsAsThick_81 (lv_at hl63 3 rfl) ?_
        obtain ⟨rfl, rfl⟩ := ret_inj hf72
        exact x_iret X hr hlocks hP61 hS62 dX2_setsAsThick_83
    · have hf73 := if_at_t c65 hf64
      clear hf64
      refine lv_iload_n hx hb dX2_setsAsThick_74 rfl (lv_at hl63 1 rfl) ?_
      obtain ⟨rfl, rfl⟩ := ret_inj hf73
      exact x_iret X hr hlocks hP61 hS62 dX2_setsAsThick_75
set_option maxRecDepth 100000 in
set_option maxHeartbeats 4000000 in
theorem tX6_meant (l : Launch) {g : Gx} (hI : InjG g) {h k h1 : Hp} {a1 : Int32} {a2 : Int32} {r : Int32}   (hf : fX6_meant a1 a2 h = some (r, h1)) : CI l yX6_meant cX6_meant 3 (some .int) 2 g [.ref (g.2.2 203), .int a1, .int a2] h k h1 k r := by
  refine Met.ofW (cc := cX6_meant) (maxL := 3) (ret := (some .int)) (by decide) rfl ?_
  intro p en s m args below meth c s₁ B hml hv
  obtain ⟨rfl, hSK, hSH, hP⟩ := hv
  have X : Cx p s m _ c cX6_meant 3 RX6 g := ⟨B.exec, B.bytes, hml, findClass_of_methodNamed B.named, fun w hw => atoms_spec (ws := wsy yX6_meant cX6_meant 3 (some .int)) B.pre w (List.mem_cons_of_mem _ hw), hSK, hI, hSH⟩
  have hr := B.returns
  have hlocks := B.notSynchronized
  have hx := X.1
  have hb := X.2.1
  have hS : va_S (inA g) s.heap s.heap [] := va_S.rf
  clear hSK hSH hml B
  have hl := lv_entry ([.ref (g.2.2 203), .int a1, .int a2]) (n := 3) (Nat.le_of_ble_eq_true rfl)
  rw [lg_entry_eq]
  generalize (lg_sl ([.ref (g.2.2 203), .int a1, .int a2]) ++ List.replicate (3 - (lg_sl ([.ref (g.2.2 203), .int a1, .int a2])).length) Slot.unset).toArray = ls at hl ⊢
  have hl : lv_has ls 3 [(0, .ref (g.2.2 203)), (1, .int a1), (2, .int a2)] := hl
  generalize ([.ref (g.2.2 203), .int a1, .int a2] : List Value).toArray = args at X ⊢
  show W p l en (rmD 2) s m args below meth c s.heap [] 0 0 (MQ below (QI g h1 k r) args s 0 0 (inA g)) (F0 m 0 ls [])
  unfold fX6_meant at hf
  refine lv_aload_n hx hb dX6_meant_0 rfl (lv_at hl 0 rfl) ?_
  refine gX6 X hP 2 (v := .ref (g.2.2 0)) rfl (by decide) rfl wd_299 dX6_meant_1 ?_
  refine gX2 X hP (⟨rfl, by decide⟩ : isE 0) 6 (v := .int (h 0 6)) rfl (by decide) rfl wd_113 dX6_meant_4 ?_
  refine lv_if_ne (tgt := 13) hx hb dX6_meant_7 (by decide) (fun c1 => ?_) (fun c1 => ?_)
  · have hf2 := if_at_f c1 hf
    clear hf
    refine lv_iload_n hx hb dX6_meant_13 rfl (lv_at hl 1 rfl) ?_
    refine lv_iconst (v := 0) hx hb dX6_meant_14 (by decide) ?_
    refine lv_bipush (v := 54) hx hb dX6_meant_15 (by decide) ?_
    obtain ⟨x3, hh4, hg10, hf9⟩ := bd_some hf2
    refine x_ci (x_runS (As := [.int a1, .int (0 : Int32), .int (54 : Int32)]) (rest := []) X hP hS (tX6_isWithin l X.2.2.2.2.2.2.1  hg10) mi_X6_59 rfl hl.1 rfl (Nat.le_of_ble_eq_true rfl) dX6_meant_17 ⟨Nat.le_of_ble_eq_true rfl, Nat.le_of_ble_eq_true rfl⟩ ⟨Nat.zero_le _, Nat.zero_le _⟩) hS (fun H5 lc6 hP7 hS8 => ?_)
    clear hf2 hP hS hg10
    refine lv_if_eq (tgt := 32) hx hb dX6_meant_20 (by decide) (fun c11 => ?_) (fun c11 => ?_)
    · have hf12 := if_at_t c11 hf9
      clear hf9
      refine lv_ldc (v := -1000001) hx hb X.2.2.2.1 (X.2.2.2.2.1 _ wd_335) dX6_meant_32 ?_
      obtain ⟨rfl, rfl⟩ := ret_inj hf12
      exact x_iret X hr hlocks hP7 hS8 dX6_meant_34
    · have hf13 := if_at_f c11 hf9
      clear hf9
      refine lv_iload_n hx hb dX6_meant_23 rfl (lv_at hl 2 rfl) ?_
      refine lv_iconst (v := 0) hx hb dX6_meant_24 (by decide) ?_
      refine lv_iconst (v := 2) hx hb dX6_meant_25 (by decide) ?_
      obtain ⟨x14, hh15, hg21, hf20⟩ := bd_some hf13
      refine x_ci (x_runS (As := [.int a2, .int (0 : Int32), .int (2 : Int32)]) (rest := []) X hP7 hS8 (tX6_isWithin l X.2.2.2.2.2.2.1  hg21) mi_X6_59 rfl hl.1 rfl (Nat.le_of_ble_eq_true rfl) dX6_meant_26 ⟨Nat.le_of_ble_eq_true rfl, Nat.le_of_ble_eq_true rfl⟩ ⟨Nat.zero_le _, Nat.zero_le _⟩) hS8 (fun H16 lc17 hP18 hS19 => ?_)
      clear hf13 hP7 hS8 hg21
      refine lv_if_ne (tgt := 35) hx hb dX6_meant_29 (by decide) (fun c22 => ?_) (fun c22 => ?_)
      · have hf23 := if_at_f c22 hf20
        clear hf20
        refine lv_aload_n hx hb dX6_meant_35 rfl (lv_at hl 0 rfl) ?_
        refine gX6 X hP18 2 (v := .ref (g.2.2 0)) rfl (by decide) rfl wd_299 dX6_meant_36 ?_
        refine lv_iload_n hx hb dX6_meant_39 rfl (lv_at hl 1 rfl) ?_
        refine lv_iload_n hx hb dX6_meant_40 rfl (lv_at hl 2 rfl) ?_
        obtain ⟨x24, hh25, hg31, hf30⟩ := bd_some hf23
        refine x_ci (x_runV (As := [.int a1, .int a2]) (rest := []) X hP18 hS19 0 (by decide) (cl_E (⟨rfl, by decide⟩ : isE 0)) rfl (tX2_setsAsThick l X.2.2.2.2.2.2.1 (⟨rfl, by decide⟩ : isE 0) hg31) mi_X6_261 rfl hl.1 rfl (Nat.le_of_ble_eq_true rfl) dX6_meant_41 ⟨Nat.le_of_ble_eq_true rfl, Nat.le_of_ble_eq_true rfl⟩ ⟨Nat.zero_le _, Nat.zero_le _⟩) hS19 (fun H26 lc27 hP28 hS29 => ?_)
        clear hf23 hP18 hS19 hg31
        obtain ⟨rfl, rfl⟩ := ret_inj hf30
        exact x_iret X hr hlocks hP28 hS29 dX6_meant_44
      · have hf32 := if_at_t c22 hf20
        clear hf20
        refine lv_ldc (v := -1000001) hx hb X.2.2.2.1 (X.2.2.2.2.1 _ wd_335) dX6_meant_32 ?_
        obtain ⟨rfl, rfl⟩ := ret_inj hf32
        exact x_iret X hr hlocks hP18 hS19 dX6_meant_34
  · have hf33 := if_at_t c1 hf
    clear hf
    refine lv_ldc (v := -1000002) hx hb X.2.2.2.1 (X.2.2.2.2.1 _ wd_470) dX6_meant_10 ?_
    obtain ⟨rfl, rfl⟩ := ret_inj hf33
    exact x_iret X hr hlocks hP hS dX6_meant_12
set_option maxRecDepth 100000 in
set_option maxHeartbeats 4000000 in
theorem wX2_pailsOf_L5 {p : Program} {l : Launch} {en : Env} {s : State} {m : MethodId} {args : Array Value} {below : List Frame} {meth : Method} {c : Code} {g : Gx} (X : Cx p s m args c cX2_pailsOf 7 RX2 g) (hr : meth.sig.returnType = (some .int)) (hlocks : meth.locks = false) {k h1 : Hp} {r : Int32} {v0 : Nat} {v1 : Int32} {v2 : Int32} (hv0 : isE v0) {K37 : Int32 → Hp → Option (Int32 × Hp)}
    (hK37 : ∀ (v3 : Int32) (h : Hp) (H : Heap) (locs : List Loc) (ls : Array Slot), K37 v3 h = some (r, h1) → va_P g.1 vwCl (WW g h k) H → va_S (inA g) s.heap H locs → lv_has ls 7 [(0, .ref (g.2.2 v0)), (1, .int v1), (2, .int v2), (3, .int v3)] → W p l en (rmD 2) s m args below meth c H locs 0 0 (MQ below (QI g h1 k r) args s 0 0 (inA g)) (F0 m 37 ls [])) :
    ∀ (n : Nat) (v3 : Int32) (v4 : Int32) (h : Hp) (H : Heap) (locs : List Loc) (ls : Array Slot), fX2_pailsOf_L5 K37 n v0 v1 v2 v3 v4 h = some (r, h1) → va_P g.1 vwCl (WW g h k) H → va_S (inA g) s.heap H locs → lv_has ls 7 [(0, .ref (g.2.2 v0)), (1, .int v1), (2, .int v2), (3, .int v3), (4, .int v4)] → W p l en (rmD 2) s m args below meth c H locs 0 0 (MQ below (QI g h1 k r) args s 0 0 (inA g)) (F0 m 5 ls []) := by
  have hx := X.1
  have hb := X.2.1
  intro n
  induction n with
  | zero => intro v3 v4 h H locs ls  hf; simp only [fX2_pailsOf_L5, reduceCtorEq] at hf
  | succ n ih =>
    intro v3 v4 h H locs ls  hf hP hS hl
    rw [fX2_pailsOf_L5] at hf
    refine lv_iload hx hb dX2_pailsOf_5 (lv_at hl 4 rfl) ?_
    refine lv_aload_n hx hb dX2_pailsOf_7 rfl (lv_at hl 0 rfl) ?_
    refine gX2 X hP hv0 12 (v := .int (h v0 12)) rfl (by decide) rfl wd_133 dX2_pailsOf_8 ?_
    refine lv_icmp_ge (tgt := 37) hx hb dX2_pailsOf_11 (by decide) (fun c5 => ?_) (fun c5 => ?_)
    · have hf6 := if_at_t c5 hf
      clear hf
      exact hK37 v3 h  _ _ _ hf6 hP hS (lv_sub hl [0, 1, 2, 3] rfl)
    · have hf7 := if_at_f c5 hf
      clear hf
      refine lv_iload_n hx hb dX2_pailsOf_14 rfl (lv_at hl 3 rfl) ?_
      refine lv_aload_n hx hb dX2_pailsOf_15 rfl (lv_at hl 0 rfl) ?_
      refine gX2 X hP hv0 3 (v := .ref (g.2.2 (v0 + 4))) rfl (by decide) rfl wd_102 dX2_pailsOf_16 ?_
      refine lv_iload hx hb dX2_pailsOf_19 (lv_at hl 4 rfl) ?_
      obtain ⟨hc8, hf9⟩ := chk_some hf7
      refine x_ildC X hP (v0 + 4) (ia_E4 hv0) hc8 dX2_pailsOf_21 ?_
      refine lv_aload_n hx hb dX2_pailsOf_22 rfl (lv_at hl 0 rfl) ?_
      refine lv_iload hx hb dX2_pailsOf_23 (lv_at hl 4 rfl) ?_
      obtain ⟨x10, hh11, hg17, hf16⟩ := bd_some hf9
      refine x_ci (x_runV (As := [.int v4]) (rest := [.int (h (v0 + 4) v4.toNatClampNeg), .int v3]) X hP hS v0 (isE_lt hv0) (cl_E hv0) rfl (tX2_thicknessOf l X.2.2.2.2.2.2.1 hv0 hg17) mi_X2_125 rfl hl.1 rfl (Nat.le_of_ble_eq_true rfl) dX2_pailsOf_25 ⟨Nat.le_of_ble_eq_true rfl, Nat.le_of_ble_eq_true rfl⟩ ⟨Nat.zero_le _, Nat.zero_le _⟩) hS (fun H12 lc13 hP14 hS15 => ?_)
      clear hf9 hP hS hg17
      refine lv_imul hx hb dX2_pailsOf_28 ?_
      refine lv_iadd hx hb dX2_pailsOf_29 ?_
      refine lv_topi (fun x18 ex18 => ?_)
      have hf19 := lk_at ex18 hf16
      clear hf16
      refine lv_istore_n (lv' := [(3, .int x18), (0, .ref (g.2.2 v0)), (1, .int v1), (2, .int v2), (4, .int v4)]) hx hb dX2_pailsOf_30 rfl hl (by decide) rfl (fun ls20 hl21 => ?_)
      clear hl
      obtain ⟨x22, ex22⟩ : ∃ q : Int32, q = v4 + (1 : Int32) := ⟨_, rfl⟩
      have hf23 := lk_at ex22 hf19
      clear hf19
      refine lv_iinc (v := x22) (lv' := [(4, .int x22), (3, .int x18), (0, .ref (g.2.2 v0)), (1, .int v1), (2, .int v2)]) hx hb dX2_pailsOf_31 hl21 (k := 4) rfl (by rw [ex22]; rfl) (by decide) rfl (fun ls24 hl25 => ?_)
      clear hl21
      refine lv_goto (tgt := 5) hx hb dX2_pailsOf_34 (by decide) ?_
      exact ih x18 x22 hh11  _ _ _ hf23 hP14 hS15 (lv_sub hl25 [2, 3, 4, 1, 0] rfl)
set_option maxRecDepth 100000 in
set_option maxHeartbeats 4000000 in
theorem wX2_pailsOf_L60 {p : Program} {l : Launch} {en : Env} {s : State} {m : MethodId} {args : Array Value} {below : List Frame} {meth : Method} {c : Code} {g : Gx} (X : Cx p s m args c cX2_pailsOf 7 RX2 g) (hr : meth.sig.returnType = (some .int)) (hlocks : meth.locks = false) {k h1 : Hp} {r : Int32} {v0 : Nat} {v1 : Int32} {v2 : Int32} {v3 : Int32} (hv0 : isE v0) {K123 : Int32 → Int32 → Hp → Option (Int32 × Hp)}
    (hK123 : ∀ (v4 : Int32) (v5 : Int32) (h : Hp) (H : Heap) (locs : List Loc) (ls : Array Slot), K123 v4 v5 h = some (r, h1) → va_P g.1 vwCl (WW g h k) H → va_S (inA g) s.heap H locs → lv_has ls 7 [(0, .ref (g.2.2 v0)), (1, .int v1), (2, .int v2), (3, .int v3), (4, .int v4), (5, .int v5)] → W p l en (rmD 2) s m args below meth c H locs 0 0 (MQ below (QI g h1 k r) args s 0 0 (inA g)) (F0 m 123 ls [])) :
    ∀ (n : Nat) (v4 : Int32) (v5 : Int32) (v6 : Int32) (h : Hp) (H : Heap) (locs : List Loc) (ls : Array Slot), fX2_pailsOf_L60 K123 n v0 v1 v2 v3 v4 v5 v6 h = some (r, h1) → va_P g.1 vwCl (WW g h k) H → va_S (inA g) s.heap H locs → lv_has ls 7 [(0, .ref (g.2.2 v0)), (1, .int v1), (2, .int v2), (3, .int v3), (4, .int v4), (5, .int v5), (6, .int v6)] → W p l en (rmD 2) s m args below meth c H locs 0 0 (MQ below (QI g h1 k r) args s 0 0 (inA g)) (F0 m 60 ls []) := by
  have hx := X.1
  have hb := X.2.1
  intro n
  induction n with
  | zero => intro v4 v5 v6 h H locs ls  hf; simp only [fX2_pailsOf_L60, reduceCtorEq] at hf
  | succ n ih =>
    intro v4 v5 v6 h H locs ls  hf hP hS hl
    rw [fX2_pailsOf_L60] at hf
    refine lv_iload hx hb dX2_pailsOf_60 (lv_at hl 6 rfl) ?_
    refine lv_aload_n hx hb dX2_pailsOf_62 rfl (lv_at hl 0 rfl) ?_
    refine gX2 X hP hv0 12 (v := .int (h v0 12)) rfl (by decide) rfl wd_133 dX2_pailsOf_63 ?_
    refine lv_icmp_ge (tgt := 123) hx hb dX2_pailsOf_66 (by decide) (fun c54 => ?_) (fun c54 => ?_)
    · have hf55 := if_at_t c54 hf
      clear hf
      exact hK123 v4 v5 h  _ _ _ hf55 hP hS (lv_sub hl [0, 1, 2, 3, 4, 5] rfl)
    · have hf56 := if_at_f c54 hf
      clear hf
      refine lv_iload hx hb dX2_pailsOf_69 (lv_at hl 4 rfl) ?_
      refine lv_iload_n hx hb dX2_pailsOf_71 rfl (lv_at hl 2 rfl) ?_
      refine lv_aload_n hx hb dX2_pailsOf_72 rfl (lv_at hl 0 rfl) ?_
      refine gX2 X hP hv0 3 (v := .ref (g.2.2 (v0 + 4))) rfl (by decide) rfl wd_102 dX2_pailsOf_73 ?_
      refine lv_iload hx hb dX2_pailsOf_76 (lv_at hl 6 rfl) ?_
      obtain ⟨hc57, hf58⟩ := chk_some hf56
      refine x_ildC X hP (v0 + 4) (ia_E4 hv0) hc57 dX2_pailsOf_78 ?_
      refine lv_imul hx hb dX2_pailsOf_79 ?_
      refine lv_aload_n hx hb dX2_pailsOf_80 rfl (lv_at hl 0 rfl) ?_
      refine lv_iload hx hb dX2_pailsOf_81 (lv_at hl 6 rfl) ?_
      obtain ⟨x59, hh60, hg66, hf65⟩ := bd_some hf58
      refine x_ci (x_runV (As := [.int v6]) (rest := [.int (v2 * (h (v0 + 4) v6.toNatClampNeg)), .int v4]) X hP hS v0 (isE_lt hv0) (cl_E hv0) rfl (tX2_thicknessOf l X.2.2.2.2.2.2.1 hv0 hg66) mi_X2_125 rfl hl.1 rfl (Nat.le_of_ble_eq_true rfl) dX2_pailsOf_83 ⟨Nat.le_of_ble_eq_true rfl, Nat.le_of_ble_eq_true rfl⟩ ⟨Nat.zero_le _, Nat.zero_le _⟩) hS (fun H61 lc62 hP63 hS64 => ?_)
      clear hf58 hP hS hg66
      refine lv_imul hx hb dX2_pailsOf_86 ?_
      refine lv_iload_n hx hb dX2_pailsOf_87 rfl (lv_at hl 3 rfl) ?_
      obtain ⟨hc67, hf68⟩ := chk_some hf65
      refine lv_idiv hx hb dX2_pailsOf_88 (nz_in hc67) ?_
      refine lv_isub hx hb dX2_pailsOf_89 ?_
      refine lv_topi (fun x69 ex69 => ?_)
      have hf70 := lk_at ex69 hf68
      clear hf68
      refine lv_istore (lv' := [(4, .int x69), (0, .ref (g.2.2 v0)), (1, .int v1), (2, .int v2), (3, .int v3), (5, .int v5), (6, .int v6)]) hx hb dX2_pailsOf_90 hl (by decide) rfl (fun ls71 hl72 => ?_)
      clear hl
      refine lv_iload hx hb dX2_pailsOf_92 (lv_at hl72 5 rfl) ?_
      refine lv_iload hx hb dX2_pailsOf_94 (lv_at hl72 6 rfl) ?_
      refine lv_iload_n hx hb dX2_pailsOf_96 rfl (lv_at hl72 2 rfl) ?_
      obtain ⟨J114_73, eJ114_73, hf90⟩ := jp_at hf70
      clear hf70
      have hJ114_73 : ∀ (J114_73s0 : Int32) (hh74 : Hp) (H75 : Heap) (lc76 : List Loc) (ls77 : Array Slot), J114_73 J114_73s0 hh74 = some (r, h1) → va_P g.1 vwCl (WW g hh74 k) H75 → va_S (inA g) s.heap H75 lc76 → lv_has ls77 7 [(0, .ref (g.2.2 v0)), (1, .int v1), (2, .int v2), (3, .int v3), (4, .int x69), (6, .int v6)] → W p l en (rmD 2) s m args below meth c H75 lc76 0 0 (MQ below (QI g h1 k r) args s 0 0 (inA g)) (F0 m 114 ls77 [.int J114_73s0, .int v5]) := by
        intro J114_73s0 hh74 H75 lc76 ls77 hf81 hP78 hS79 hl80
        clear hf90 hP63 hS64 hl72
        subst eJ114_73
        refine lv_iadd hx hb dX2_pailsOf_114 ?_
        refine lv_topi (fun x82 ex82 => ?_)
        have hf83 := lk_at ex82 hf81
        clear hf81
        refine lv_istore (lv' := [(5, .int x82), (0, .ref (g.2.2 v0)), (1, .int v1), (2, .int v2), (3, .int v3), (4, .int x69), (6, .int v6)]) hx hb dX2_pailsOf_115 hl80 (by decide) rfl (fun ls84 hl85 => ?_)
        clear hl80
        obtain ⟨x86, ex86⟩ : ∃ q : Int32, q = v6 + (1 : Int32) := ⟨_, rfl⟩
        have hf87 := lk_at ex86 hf83
        clear hf83
        refine lv_iinc (v := x86) (lv' := [(6, .int x86), (5, .int x82), (0, .ref (g.2.2 v0)), (1, .int v1), (2, .int v2), (3, .int v3), (4, .int x69)]) hx hb dX2_pailsOf_117 hl85 (k := 6) rfl (by rw [ex86]; rfl) (by decide) rfl (fun ls88 hl89 => ?_)
        clear hl85
        refine lv_goto (tgt := 60) hx hb dX2_pailsOf_120 (by decide) ?_
        exact ih x69 x82 x86 hh74  _ _ _ hf87 hP78 hS79 (lv_sub hl89 [2, 3, 4, 5, 6, 1, 0] rfl)
      clear eJ114_73
      obtain ⟨J113_91, eJ113_91, hf100⟩ := jp_at hf90
      clear hf90
      have hJ113_91 : ∀  (hh92 : Hp) (H93 : Heap) (lc94 : List Loc) (ls95 : Array Slot), J113_91  hh92 = some (r, h1) → va_P g.1 vwCl (WW g hh92 k) H93 → va_S (inA g) s.heap H93 lc94 → lv_has ls95 7 [(0, .ref (g.2.2 v0)), (1, .int v1), (2, .int v2), (3, .int v3), (4, .int x69), (6, .int v6)] → W p l en (rmD 2) s m args below meth c H93 lc94 0 0 (MQ below (QI g h1 k r) args s 0 0 (inA g)) (F0 m 113 ls95 [.int v5]) := by
        intro  hh92 H93 lc94 ls95 hf99 hP96 hS97 hl98
        clear hf100 hP63 hS64 hl72
        subst eJ113_91
        refine lv_iconst (v := 0) hx hb dX2_pailsOf_113 (by decide) ?_
        exact hJ114_73 (0 : Int32) hh92  _ _ _ hf99 hP96 hS97 (lv_sub hl98 [0, 1, 2, 3, 4, 5] rfl)
      clear eJ113_91
      refine lv_icmp_ge (tgt := 113) hx hb dX2_pailsOf_97 (by decide) (fun c101 => ?_) (fun c101 => ?_)
      · have hf102 := if_at_t c101 hf100
        clear hf100
        exact hJ113_91 hh60  _ _ _ hf102 hP63 hS64 (lv_sub hl72 [1, 2, 3, 4, 0, 6] rfl)
      · have hf103 := if_at_f c101 hf100
        clear hf100
        refine lv_aload_n hx hb dX2_pailsOf_100 rfl (lv_at hl72 1 rfl) ?_
        refine lv_iload hx hb dX2_pailsOf_101 (lv_at hl72 6 rfl) ?_
        obtain ⟨x104, hh105, hg111, hf110⟩ := bd_some hf103
        refine x_ci (x_runV (As := [.int v6]) (rest := [.int v5]) X hP63 hS64 v0 (isE_lt hv0) (cl_E hv0) rfl (tX2_isIn l X.2.2.2.2.2.2.1 hv0 hg111) mi_X2_85 rfl hl72.1 rfl (Nat.le_of_ble_eq_true rfl) dX2_pailsOf_103 ⟨Nat.le_of_ble_eq_true rfl, Nat.le_of_ble_eq_true rfl⟩ ⟨Nat.zero_le _, Nat.zero_le _⟩) hS64 (fun H106 lc107 hP108 hS109 => ?_)
        clear hf103 hP63 hS64 hg111
        refine lv_if_eq (tgt := 113) hx hb dX2_pailsOf_106 (by decide) (fun c112 => ?_) (fun c112 => ?_)
        · have hf113 := if_at_t c112 hf110
          clear hf110
          exact hJ113_91 hh105  _ _ _ hf113 hP108 hS109 (lv_sub hl72 [1, 2, 3, 4, 0, 6] rfl)
        · have hf114 := if_at_f c112 hf110
          clear hf110
          refine lv_iconst (v := 1) hx hb dX2_pailsOf_109 (by decide) ?_
          refine lv_goto (tgt := 114) hx hb dX2_pailsOf_110 (by decide) ?_
          exact hJ114_73 (1 : Int32) hh105  _ _ _ hf114 hP108 hS109 (lv_sub hl72 [1, 2, 3, 4, 0, 6] rfl)
set_option maxRecDepth 100000 in
set_option maxHeartbeats 4000000 in
theorem tX2_pailsOf (l : Launch) {g : Gx} (hI : InjG g) {h k h1 : Hp} {e : Nat} {a1 : Int32} {a2 : Int32} {r : Int32}  (he : isE e) (hf : fX2_pailsOf e a1 a2 h = some (r, h1)) : CI l yX2_pailsOf cX2_pailsOf 7 (some .int) 2 g [.ref (g.2.2 e), .int a1, .int a2] h k h1 k r := by
  refine Met.ofW (cc := cX2_pailsOf) (maxL := 7) (ret := (some .int)) (by decide) rfl ?_
  intro p en s m args below meth c s₁ B hml hv
  obtain ⟨rfl, hSK, hSH, hP⟩ := hv
  have X : Cx p s m _ c cX2_pailsOf 7 RX2 g := ⟨B.exec, B.bytes, hml, findClass_of_methodNamed B.named, fun w hw => atoms_spec (ws := wsy yX2_pailsOf cX2_pailsOf 7 (some .int)) B.pre w (List.mem_cons_of_mem _ hw), hSK, hI, hSH⟩
  have hr := B.returns
  have hlocks := B.notSynchronized
  have hx := X.1
  have hb := X.2.1
  have hS : va_S (inA g) s.heap s.heap [] := va_S.rf
  clear hSK hSH hml B
  have hl := lv_entry ([.ref (g.2.2 e), .int a1, .int a2]) (n := 7) (Nat.le_of_ble_eq_true rfl)
  rw [lg_entry_eq]
  generalize (lg_sl ([.ref (g.2.2 e), .int a1, .int a2]) ++ List.replicate (7 - (lg_sl ([.ref (g.2.2 e), .int a1, .int a2])).length) Slot.unset).toArray = ls at hl ⊢
  have hl : lv_has ls 7 [(0, .ref (g.2.2 e)), (1, .int a1), (2, .int a2)] := hl
  generalize ([.ref (g.2.2 e), .int a1, .int a2] : List Value).toArray = args at X ⊢
  show W p l en (rmD 2) s m args below meth c s.heap [] 0 0 (MQ below (QI g h1 k r) args s 0 0 (inA g)) (F0 m 0 ls [])
  unfold fX2_pailsOf at hf
  refine lv_iconst (v := 0) hx hb dX2_pailsOf_0 (by decide) ?_
  refine lv_istore_n (lv' := [(3, .int (0 : Int32)), (0, .ref (g.2.2 e)), (1, .int a1), (2, .int a2)]) hx hb dX2_pailsOf_1 rfl hl (by decide) rfl (fun ls1 hl2 => ?_)
  clear hl
  refine lv_iconst (v := 0) hx hb dX2_pailsOf_2 (by decide) ?_
  refine lv_istore (lv' := [(4, .int (0 : Int32)), (3, .int (0 : Int32)), (0, .ref (g.2.2 e)), (1, .int a1), (2, .int a2)]) hx hb dX2_pailsOf_3 hl2 (by decide) rfl (fun ls3 hl4 => ?_)
  clear hl2
  refine wX2_pailsOf_L5 X hr hlocks he ?_ 4096 (0 : Int32) (0 : Int32) h _ _ _  hf hP hS (lv_sub hl4 [2, 3, 4, 1, 0] rfl)
  · intro x26 hh27 H28 lc29 ls30  hf34 hP31 hS32 hl33
    refine lv_aload_n hx hb dX2_pailsOf_37 rfl (lv_at hl33 0 rfl) ?_
    refine lv_iload_n hx hb dX2_pailsOf_38 rfl (lv_at hl33 1 rfl) ?_
    obtain ⟨x35, hh36, hg42, hf41⟩ := bd_some hf34
    refine x_ci (x_runV (As := [.int a1]) (rest := []) X hP31 hS32 e (isE_lt he) (cl_E he) rfl (tX2_isIn l X.2.2.2.2.2.2.1 he hg42) mi_X2_85 rfl hl33.1 rfl (Nat.le_of_ble_eq_true rfl) dX2_pailsOf_39 ⟨Nat.le_of_ble_eq_true rfl, Nat.le_of_ble_eq_true rfl⟩ ⟨Nat.zero_le _, Nat.zero_le _⟩) hS32 (fun H37 lc38 hP39 hS40 => ?_)
    clear hf34 hP31 hS32 hg42
    refine lv_if_eq (tgt := 49) hx hb dX2_pailsOf_42 (by decide) (fun c43 => ?_) (fun c43 => ?_)
    · have hf44 := if_at_t c43 hf41
      clear hf41
      refine lv_iconst (v := 0) hx hb dX2_pailsOf_49 (by decide) ?_
      obtain ⟨rfl, rfl⟩ := ret_inj hf44
      exact x_iret X hr hlocks hP39 hS40 dX2_pailsOf_50
    · have hf45 := if_at_f c43 hf41
      clear hf41
      refine lv_iload_n hx hb dX2_pailsOf_45 rfl (lv_at hl33 3 rfl) ?_
      refine lv_if_gt (tgt := 51) hx hb dX2_pailsOf_46 (by decide) (fun c46 => ?_) (fun c46 => ?_)
      · have hf47 := if_at_t c46 hf45
        clear hf45
        refine lv_iload_n hx hb dX2_pailsOf_51 rfl (lv_at hl33 2 rfl) ?_
        refine lv_istore (lv' := [(4, .int a2), (0, .ref (g.2.2 e)), (1, .int a1), (2, .int a2), (3, .int x26)]) hx hb dX2_pailsOf_52 hl33 (by decide) rfl (fun ls48 hl49 => ?_)
        clear hl33
        refine lv_iconst (v := 0) hx hb dX2_pailsOf_54 (by decide) ?_
        refine lv_istore (lv' := [(5, .int (0 : Int32)), (4, .int a2), (0, .ref (g.2.2 e)), (1, .int a1), (2, .int a2), (3, .int x26)]) hx hb dX2_pailsOf_55 hl49 (by decide) rfl (fun ls50 hl51 => ?_)
        clear hl49
        refine lv_iconst (v := 0) hx hb dX2_pailsOf_57 (by decide) ?_
        refine lv_istore (lv' := [(6, .int (0 : Int32)), (5, .int (0 : Int32)), (4, .int a2), (0, .ref (g.2.2 e)), (1, .int a1), (2, .int a2), (3, .int x26)]) hx hb dX2_pailsOf_58 hl51 (by decide) rfl (fun ls52 hl53 => ?_)
        clear hl51
        refine wX2_pailsOf_L60 X hr hlocks he ?_ 4096 a2 (0 : Int32) (0 : Int32) hh36 _ _ _  hf47 hP39 hS40 (lv_sub hl53 [3, 4, 5, 6, 2, 1, 0] rfl)
        · intro x115 x116 hh117 H118 lc119 ls120  hf124 hP121 hS122 hl123
          refine lv_iload_n hx hb dX2_pailsOf_123 rfl (lv_at hl123 2 rfl) ?_
          refine lv_aload_n hx hb dX2_pailsOf_124 rfl (lv_at hl123 0 rfl) ?_
          refine gX2 X hP121 he 3 (v := .ref (g.2.2 (e + 4))) rfl (by decide) rfl wd_102 dX2_pailsOf_125 ?_
          refine lv_iload_n hx hb dX2_pailsOf_128 rfl (lv_at hl123 1 rfl) ?_
          obtain ⟨hc125, hf126⟩ := chk_some hf124
          refine x_ildC X hP121 (e + 4) (ia_E4 he) hc125 dX2_pailsOf_129 ?_
          refine lv_imul hx hb dX2_pailsOf_130 ?_
          refine lv_aload_n hx hb dX2_pailsOf_131 rfl (lv_at hl123 0 rfl) ?_
          refine gX2 X hP121 he 4 (v := .ref (g.2.2 (e + 5))) rfl (by decide) rfl wd_105 dX2_pailsOf_132 ?_
          refine lv_iload_n hx hb dX2_pailsOf_135 rfl (lv_at hl123 1 rfl) ?_
          obtain ⟨hc127, hf128⟩ := chk_some hf126
          refine x_ildC X hP121 (e + 5) (ia_E5 he) hc127 dX2_pailsOf_136 ?_
          refine lv_imul hx hb dX2_pailsOf_137 ?_
          refine lv_iload_n hx hb dX2_pailsOf_138 rfl (lv_at hl123 3 rfl) ?_
          obtain ⟨hc129, hf130⟩ := chk_some hf128
          refine lv_idiv hx hb dX2_pailsOf_139 (nz_in hc129) ?_
          refine lv_iload hx hb dX2_pailsOf_140 (lv_at hl123 5 rfl) ?_
          refine lv_iload hx hb dX2_pailsOf_142 (lv_at hl123 4 rfl) ?_
          refine lv_icmp_ge (tgt := 151) hx hb dX2_pailsOf_144 (by decide) (fun c131 => ?_) (fun c131 => ?_)
          · have hf132 := if_at_t c131 hf130
            clear hf130
            refine lv_iconst (v := 0) hx hb dX2_pailsOf_151 (by decide) ?_
            refine lv_iadd hx hb dX2_pailsOf_152 ?_
            obtain ⟨rfl, rfl⟩ := ret_inj hf132
            exact x_iret X hr hlocks hP121 hS122 dX2_pailsOf_153
          · have hf133 := if_at_f c131 hf130
            clear hf130
            refine lv_iconst (v := 1) hx hb dX2_pailsOf_147 (by decide) ?_
            refine lv_goto (tgt := 152) hx hb dX2_pailsOf_148 (by decide) ?_
            refine lv_iadd hx hb dX2_pailsOf_152 ?_
            obtain ⟨rfl, rfl⟩ := ret_inj hf133
            exact x_iret X hr hlocks hP121 hS122 dX2_pailsOf_153
      · have hf134 := if_at_f c46 hf45
        clear hf45
        refine lv_iconst (v := 0) hx hb dX2_pailsOf_49 (by decide) ?_
        obtain ⟨rfl, rfl⟩ := ret_inj hf134
        exact x_iret X hr hlocks hP39 hS40 dX2_pailsOf_50
set_option maxRecDepth 100000 in
set_option maxHeartbeats 4000000 in
theorem tX6_share (l : Launch) {g : Gx} (hI : InjG g) {h k h1 : Hp} {a1 : Int32} {a2 : Int32} {r : Int32}   (hf : fX6_share a1 a2 h = some (r, h1)) : CI l yX6_share cX6_share 3 (some .int) 3 g [.ref (g.2.2 203), .int a1, .int a2] h k h1 k r := by
  refine Met.ofW (cc := cX6_share) (maxL := 3) (ret := (some .int)) (by decide) rfl ?_
  intro p en s m args below meth c s₁ B hml hv
  obtain ⟨rfl, hSK, hSH, hP⟩ := hv
  have X : Cx p s m _ c cX6_share 3 RX6 g := ⟨B.exec, B.bytes, hml, findClass_of_methodNamed B.named, fun w hw => atoms_spec (ws := wsy yX6_share cX6_share 3 (some .int)) B.pre w (List.mem_cons_of_mem _ hw), hSK, hI, hSH⟩
  have hr := B.returns
  have hlocks := B.notSynchronized
  have hx := X.1
  have hb := X.2.1
  have hS : va_S (inA g) s.heap s.heap [] := va_S.rf
  clear hSK hSH hml B
  have hl := lv_entry ([.ref (g.2.2 203), .int a1, .int a2]) (n := 3) (Nat.le_of_ble_eq_true rfl)
  rw [lg_entry_eq]
  generalize (lg_sl ([.ref (g.2.2 203), .int a1, .int a2]) ++ List.replicate (3 - (lg_sl ([.ref (g.2.2 203), .int a1, .int a2])).length) Slot.unset).toArray = ls at hl ⊢
  have hl : lv_has ls 3 [(0, .ref (g.2.2 203)), (1, .int a1), (2, .int a2)] := hl
  generalize ([.ref (g.2.2 203), .int a1, .int a2] : List Value).toArray = args at X ⊢
  show W p l en (rmD 3) s m args below meth c s.heap [] 0 0 (MQ below (QI g h1 k r) args s 0 0 (inA g)) (F0 m 0 ls [])
  unfold fX6_share at hf
  refine lv_aload_n hx hb dX6_share_0 rfl (lv_at hl 0 rfl) ?_
  refine gX6 X hP 2 (v := .ref (g.2.2 0)) rfl (by decide) rfl wd_299 dX6_share_1 ?_
  refine lv_iload_n hx hb dX6_share_4 rfl (lv_at hl 1 rfl) ?_
  obtain ⟨x1, hh2, hg8, hf7⟩ := bd_some hf
  refine x_ci (x_runV (As := [.int a1]) (rest := []) X hP hS 0 (by decide) (cl_E (⟨rfl, by decide⟩ : isE 0)) rfl (tX2_isSheet l X.2.2.2.2.2.2.1 (⟨rfl, by decide⟩ : isE 0) hg8) mi_X6_175 rfl hl.1 rfl (Nat.le_of_ble_eq_true rfl) dX6_share_5 ⟨Nat.le_of_ble_eq_true rfl, Nat.le_of_ble_eq_true rfl⟩ ⟨Nat.zero_le _, Nat.zero_le _⟩) hS (fun H3 lc4 hP5 hS6 => ?_)
  clear hf hP hS hg8
  refine lv_if_eq (tgt := 22) hx hb dX6_share_8 (by decide) (fun c9 => ?_) (fun c9 => ?_)
  · have hf10 := if_at_t c9 hf7
    clear hf7
    refine lv_ldc (v := -1000001) hx hb X.2.2.2.1 (X.2.2.2.2.1 _ wd_335) dX6_share_22 ?_
    obtain ⟨rfl, rfl⟩ := ret_inj hf10
    exact x_iret X hr hlocks hP5 hS6 dX6_share_24
  · have hf11 := if_at_f c9 hf7
    clear hf7
    refine lv_iload_n hx hb dX6_share_11 rfl (lv_at hl 2 rfl) ?_
    refine lv_iconst (v := 0) hx hb dX6_share_12 (by decide) ?_
    refine lv_sipush (v := 999) hx hb dX6_share_13 (by decide) ?_
    obtain ⟨x12, hh13, hg19, hf18⟩ := bd_some hf11
    refine x_ci (x_runS (As := [.int a2, .int (0 : Int32), .int (999 : Int32)]) (rest := []) X hP5 hS6 (tX6_isWithin l X.2.2.2.2.2.2.1  hg19) mi_X6_59 rfl hl.1 rfl (Nat.le_of_ble_eq_true rfl) dX6_share_16 ⟨Nat.le_of_ble_eq_true rfl, Nat.le_of_ble_eq_true rfl⟩ ⟨Nat.zero_le _, Nat.zero_le _⟩) hS6 (fun H14 lc15 hP16 hS17 => ?_)
    clear hf11 hP5 hS6 hg19
    refine lv_if_ne (tgt := 25) hx hb dX6_share_19 (by decide) (fun c20 => ?_) (fun c20 => ?_)
    · have hf21 := if_at_f c20 hf18
      clear hf18
      refine lv_aload_n hx hb dX6_share_25 rfl (lv_at hl 0 rfl) ?_
      refine gX6 X hP16 2 (v := .ref (g.2.2 0)) rfl (by decide) rfl wd_299 dX6_share_26 ?_
      refine lv_iload_n hx hb dX6_share_29 rfl (lv_at hl 1 rfl) ?_
      refine lv_iload_n hx hb dX6_share_30 rfl (lv_at hl 2 rfl) ?_
      obtain ⟨x22, hh23, hg29, hf28⟩ := bd_some hf21
      refine x_ci (x_runV (As := [.int a1, .int a2]) (rest := []) X hP16 hS17 0 (by decide) (cl_E (⟨rfl, by decide⟩ : isE 0)) rfl (tX2_pailsOf l X.2.2.2.2.2.2.1 (⟨rfl, by decide⟩ : isE 0) hg29) mi_X6_264 rfl hl.1 rfl (Nat.le_of_ble_eq_true rfl) dX6_share_31 ⟨Nat.le_of_ble_eq_true rfl, Nat.le_of_ble_eq_true rfl⟩ ⟨Nat.zero_le _, Nat.zero_le _⟩) hS17 (fun H24 lc25 hP26 hS27 => ?_)
      clear hf21 hP16 hS17 hg29
      obtain ⟨rfl, rfl⟩ := ret_inj hf28
      exact x_iret X hr hlocks hP26 hS27 dX6_share_34
    · have hf30 := if_at_t c20 hf18
      clear hf18
      refine lv_ldc (v := -1000001) hx hb X.2.2.2.1 (X.2.2.2.2.1 _ wd_335) dX6_share_22 ?_
      obtain ⟨rfl, rfl⟩ := ret_inj hf30
      exact x_iret X hr hlocks hP16 hS17 dX6_share_24
set_option maxRecDepth 100000 in
set_option maxHeartbeats 4000000 in
theorem tX3_courtsTurn_o (l : Launch) {g : Gx} (hI : InjG g) {k : Hp} (d0 : Nat) (hd0 : 3 ≤ d0) (F_walkersTurn : Int32 → Int32 → Int32 → Hp → Option (Int32 × Hp)) (hF_walkersTurn : ∀ (b0 : Int32) (b1 : Int32) (b2 : Int32) (h h1 : Hp) (r : Int32), F_walkersTurn b0 b1 b2 h = some (r, h1) → CI l yX3_walkersTurn cX3_walkersTurn 5 (some .int) d0 g [.ref (g.2.2 210), .int b0, .int b1, .int b2] h k h1 k r) {h h1 : Hp} {a1 : Int32} {a2 : Int32} {a3 : Int32} {r : Int32}   (hf : fX3_courtsTurn_o F_walkersTurn a1 a2 a3 h = some (r, h1)) : CI l yX3_courtsTurn cX3_courtsTurn 4 (some .int) (d0 + 1) g [.ref (g.2.2 210), .int a1, .int a2, .int a3] h k h1 k r := by
  refine Met.ofW (cc := cX3_courtsTurn) (maxL := 4) (ret := (some .int)) (by decide) rfl ?_
  intro p en s m args below meth c s₁ B hml hv
  obtain ⟨rfl, hSK, hSH, hP⟩ := hv
  have X : Cx p s m _ c cX3_courtsTurn 4 RX3 g := ⟨B.exec, B.bytes, hml, findClass_of_methodNamed B.named, fun w hw => atoms_spec (ws := wsy yX3_courtsTurn cX3_courtsTurn 4 (some .int)) B.pre w (List.mem_cons_of_mem _ hw), hSK, hI, hSH⟩
  have hr := B.returns
  have hlocks := B.notSynchronized
  have hx := X.1
  have hb := X.2.1
  have hS : va_S (inA g) s.heap s.heap [] := va_S.rf
  clear hSK hSH hml B
  have hl := lv_entry ([.ref (g.2.2 210), .int a1, .int a2, .int a3]) (n := 4) (Nat.le_of_ble_eq_true rfl)
  rw [lg_entry_eq]
  generalize (lg_sl ([.ref (g.2.2 210), .int a1, .int a2, .int a3]) ++ List.replicate (4 - (lg_sl ([.ref (g.2.2 210), .int a1, .int a2, .int a3])).length) Slot.unset).toArray = ls at hl ⊢
  have hl : lv_has ls 4 [(0, .ref (g.2.2 210)), (1, .int a1), (2, .int a2), (3, .int a3)] := hl
  generalize ([.ref (g.2.2 210), .int a1, .int a2, .int a3] : List Value).toArray = args at X ⊢
  show W p l en (rmD (d0 + 1)) s m args below meth c s.heap [] 0 0 (MQ below (QI g h1 k r) args s 0 0 (inA g)) (F0 m 0 ls [])
  unfold fX3_courtsTurn_o at hf
  refine lv_iload_n hx hb dX3_courtsTurn_0 rfl (lv_at hl 1 rfl) ?_
  refine lv_if_gt (tgt := 13) hx hb dX3_courtsTurn_1 (by decide) (fun c1 => ?_) (fun c1 => ?_)
  · have hf2 := if_at_t c1 hf
    clear hf
    refine lv_aload_n hx hb dX3_courtsTurn_13 rfl (lv_at hl 0 rfl) ?_
    refine lv_iload_n hx hb dX3_courtsTurn_14 rfl (lv_at hl 1 rfl) ?_
    refine lv_iconst (v := 1) hx hb dX3_courtsTurn_15 (by decide) ?_
    refine lv_isub hx hb dX3_courtsTurn_16 ?_
    refine lv_iload_n hx hb dX3_courtsTurn_17 rfl (lv_at hl 2 rfl) ?_
    refine lv_iload_n hx hb dX3_courtsTurn_18 rfl (lv_at hl 3 rfl) ?_
    obtain ⟨x3, hh4, hg10, hf9⟩ := bd_some hf2
    refine x_ci (x_runV (As := [.int (a1 - (1 : Int32)), .int a2, .int a3]) (rest := []) X hP hS 210 (by decide) cl_Fo rfl (hF_walkersTurn (a1 - (1 : Int32)) a2 a3 _ _ _  hg10) mi_X3_129 rfl hl.1 rfl (Nat.le_of_ble_eq_true rfl) dX3_courtsTurn_19 ⟨by show _ ≤ d0 + 1 + 1; omega, by show _ ≤ 42 * (d0 + 1 + 1); omega⟩ ⟨Nat.zero_le _, Nat.zero_le _⟩) hS (fun H5 lc6 hP7 hS8 => ?_)
    clear hf2 hP hS hg10
    refine lv_aload_n hx hb dX3_courtsTurn_22 rfl (lv_at hl 0 rfl) ?_
    refine lv_iload_n hx hb dX3_courtsTurn_23 rfl (lv_at hl 1 rfl) ?_
    refine lv_iconst (v := 1) hx hb dX3_courtsTurn_24 (by decide) ?_
    refine lv_isub hx hb dX3_courtsTurn_25 ?_
    refine lv_iload_n hx hb dX3_courtsTurn_26 rfl (lv_at hl 2 rfl) ?_
    refine lv_iconst (v := 1) hx hb dX3_courtsTurn_27 (by decide) ?_
    refine lv_iload_n hx hb dX3_courtsTurn_28 rfl (lv_at hl 3 rfl) ?_
    refine lv_isub hx hb dX3_courtsTurn_29 ?_
    obtain ⟨x11, hh12, hg18, hf17⟩ := bd_some hf9
    refine x_ci (x_runV (As := [.int (a1 - (1 : Int32)), .int a2, .int ((1 : Int32) - a3)]) (rest := [.int x3]) X hP7 hS8 210 (by decide) cl_Fo rfl (hF_walkersTurn (a1 - (1 : Int32)) a2 ((1 : Int32) - a3) _ _ _  hg18) mi_X3_129 rfl hl.1 rfl (Nat.le_of_ble_eq_true rfl) dX3_courtsTurn_30 ⟨by show _ ≤ d0 + 1 + 1; omega, by show _ ≤ 42 * (d0 + 1 + 1); omega⟩ ⟨Nat.zero_le _, Nat.zero_le _⟩) hS8 (fun H13 lc14 hP15 hS16 => ?_)
    clear hf9 hP7 hS8 hg18
    refine x_mmax X hl.1 ⟨wd_662, wd_663, wd_69, wd_664⟩ ⟨by show _ ≤ d0 + 1 + 1; omega, by show _ ≤ 42 * (d0 + 1 + 1); simp [Value.category]; omega⟩ ⟨Nat.zero_le _, Nat.zero_le _⟩ dX3_courtsTurn_33 ?_
    obtain ⟨rfl, rfl⟩ := ret_inj hf17
    exact x_iret X hr hlocks hP15 hS16 dX3_courtsTurn_36
  · have hf19 := if_at_f c1 hf
    clear hf
    refine lv_aload_n hx hb dX3_courtsTurn_4 rfl (lv_at hl 0 rfl) ?_
    refine gX3 X hP 1 (v := .ref (g.2.2 211)) rfl (by decide) rfl wd_241 dX3_courtsTurn_5 ?_
    refine lv_iload_n hx hb dX3_courtsTurn_8 rfl (lv_at hl 3 rfl) ?_
    obtain ⟨hc20, hf21⟩ := chk_some hf19
    refine x_overT X hP hc20 dX3_courtsTurn_9 ?_
    refine lv_iload_n hx hb dX3_courtsTurn_10 rfl (lv_at hl 2 rfl) ?_
    obtain ⟨hc22, hf23⟩ := chk_some hf21
    refine x_ildC X hP (212 + a3.toNatClampNeg) (ia_ov hc20) hc22 dX3_courtsTurn_11 ?_
    obtain ⟨rfl, rfl⟩ := ret_inj hf23
    exact x_iret X hr hlocks hP hS dX3_courtsTurn_12
set_option maxRecDepth 100000 in
set_option maxHeartbeats 4000000 in
theorem tX3_walkersTurn_o (l : Launch) {g : Gx} (hI : InjG g) {k : Hp} (d0 : Nat) (hd0 : 3 ≤ d0) (F_courtsTurn : Int32 → Int32 → Int32 → Hp → Option (Int32 × Hp)) (hF_courtsTurn : ∀ (b0 : Int32) (b1 : Int32) (b2 : Int32) (h h1 : Hp) (r : Int32), F_courtsTurn b0 b1 b2 h = some (r, h1) → CI l yX3_courtsTurn cX3_courtsTurn 4 (some .int) d0 g [.ref (g.2.2 210), .int b0, .int b1, .int b2] h k h1 k r) {h h1 : Hp} {a1 : Int32} {a2 : Int32} {a3 : Int32} {r : Int32}   (hf : fX3_walkersTurn_o F_courtsTurn a1 a2 a3 h = some (r, h1)) : CI l yX3_walkersTurn cX3_walkersTurn 5 (some .int) (d0 + 1) g [.ref (g.2.2 210), .int a1, .int a2, .int a3] h k h1 k r := by
  refine Met.ofW (cc := cX3_walkersTurn) (maxL := 5) (ret := (some .int)) (by decide) rfl ?_
  intro p en s m args below meth c s₁ B hml hv
  obtain ⟨rfl, hSK, hSH, hP⟩ := hv
  have X : Cx p s m _ c cX3_walkersTurn 5 RX3 g := ⟨B.exec, B.bytes, hml, findClass_of_methodNamed B.named, fun w hw => atoms_spec (ws := wsy yX3_walkersTurn cX3_walkersTurn 5 (some .int)) B.pre w (List.mem_cons_of_mem _ hw), hSK, hI, hSH⟩
  have hr := B.returns
  have hlocks := B.notSynchronized
  have hx := X.1
  have hb := X.2.1
  have hS : va_S (inA g) s.heap s.heap [] := va_S.rf
  clear hSK hSH hml B
  have hl := lv_entry ([.ref (g.2.2 210), .int a1, .int a2, .int a3]) (n := 5) (Nat.le_of_ble_eq_true rfl)
  rw [lg_entry_eq]
  generalize (lg_sl ([.ref (g.2.2 210), .int a1, .int a2, .int a3]) ++ List.replicate (5 - (lg_sl ([.ref (g.2.2 210), .int a1, .int a2, .int a3])).length) Slot.unset).toArray = ls at hl ⊢
  have hl : lv_has ls 5 [(0, .ref (g.2.2 210)), (1, .int a1), (2, .int a2), (3, .int a3)] := hl
  generalize ([.ref (g.2.2 210), .int a1, .int a2, .int a3] : List Value).toArray = args at X ⊢
  show W p l en (rmD (d0 + 1)) s m args below meth c s.heap [] 0 0 (MQ below (QI g h1 k r) args s 0 0 (inA g)) (F0 m 0 ls [])
  unfold fX3_walkersTurn_o at hf
  refine lv_iload_n hx hb dX3_walkersTurn_0 rfl (lv_at hl 1 rfl) ?_
  refine lv_if_gt (tgt := 13) hx hb dX3_walkersTurn_1 (by decide) (fun c1 => ?_) (fun c1 => ?_)
  · have hf2 := if_at_t c1 hf
    clear hf
    refine lv_aload_n hx hb dX3_walkersTurn_13 rfl (lv_at hl 0 rfl) ?_
    refine lv_iload_n hx hb dX3_walkersTurn_14 rfl (lv_at hl 1 rfl) ?_
    refine lv_iconst (v := 1) hx hb dX3_walkersTurn_15 (by decide) ?_
    refine lv_isub hx hb dX3_walkersTurn_16 ?_
    refine lv_iload_n hx hb dX3_walkersTurn_17 rfl (lv_at hl 2 rfl) ?_
    refine lv_iload_n hx hb dX3_walkersTurn_18 rfl (lv_at hl 3 rfl) ?_
    obtain ⟨x3, hh4, hg10, hf9⟩ := bd_some hf2
    refine x_ci (x_runV (As := [.int (a1 - (1 : Int32)), .int a2, .int a3]) (rest := []) X hP hS 210 (by decide) cl_Fo rfl (hF_courtsTurn (a1 - (1 : Int32)) a2 a3 _ _ _  hg10) mi_X3_133 rfl hl.1 rfl (Nat.le_of_ble_eq_true rfl) dX3_walkersTurn_19 ⟨by show _ ≤ d0 + 1 + 1; omega, by show _ ≤ 42 * (d0 + 1 + 1); omega⟩ ⟨Nat.zero_le _, Nat.zero_le _⟩) hS (fun H5 lc6 hP7 hS8 => ?_)
    clear hf2 hP hS hg10
    refine lv_istore (lv' := [(4, .int x3), (0, .ref (g.2.2 210)), (1, .int a1), (2, .int a2), (3, .int a3)]) hx hb dX3_walkersTurn_22 hl (by decide) rfl (fun ls11 hl12 => ?_)
    clear hl
    refine lv_iload_n hx hb dX3_walkersTurn_24 rfl (lv_at hl12 3 rfl) ?_
    obtain ⟨J46_13, eJ46_13, hf37⟩ := jp_at hf9
    clear hf9
    have hJ46_13 : ∀ (J46_13v4 : Int32) (hh14 : Hp) (H15 : Heap) (lc16 : List Loc) (ls17 : Array Slot), J46_13 J46_13v4 hh14 = some (r, h1) → va_P g.1 vwCl (WW g hh14 k) H15 → va_S (inA g) s.heap H15 lc16 → lv_has ls17 5 [(0, .ref (g.2.2 210)), (1, .int a1), (2, .int a2), (3, .int a3), (4, .int J46_13v4)] → W p l en (rmD (d0 + 1)) s m args below meth c H15 lc16 0 0 (MQ below (QI g h1 k r) args s 0 0 (inA g)) (F0 m 46 ls17 []) := by
      intro J46_13v4 hh14 H15 lc16 ls17 hf21 hP18 hS19 hl20
      clear hf37 hP7 hS8 hl12
      subst eJ46_13
      refine lv_iload_n hx hb dX3_walkersTurn_46 rfl (lv_at hl20 2 rfl) ?_
      refine lv_aload_n hx hb dX3_walkersTurn_47 rfl (lv_at hl20 0 rfl) ?_
      refine gX3 X hP18 0 (v := .ref (g.2.2 14)) rfl (by decide) rfl wd_240 dX3_walkersTurn_48 ?_
      refine gX2 X hP18 (⟨rfl, by decide⟩ : isE 14) 7 (v := .int (hh14 14 7)) rfl (by decide) rfl wd_116 dX3_walkersTurn_51 ?_
      refine lv_iconst (v := 1) hx hb dX3_walkersTurn_54 (by decide) ?_
      refine lv_isub hx hb dX3_walkersTurn_55 ?_
      refine lv_icmp_ge (tgt := 77) hx hb dX3_walkersTurn_56 (by decide) (fun c22 => ?_) (fun c22 => ?_)
      · have hf23 := if_at_t c22 hf21
        clear hf21
        refine lv_iload hx hb dX3_walkersTurn_77 (lv_at hl20 4 rfl) ?_
        obtain ⟨rfl, rfl⟩ := ret_inj hf23
        exact x_iret X hr hlocks hP18 hS19 dX3_walkersTurn_79
      · have hf24 := if_at_f c22 hf21
        clear hf21
        refine lv_iload hx hb dX3_walkersTurn_59 (lv_at hl20 4 rfl) ?_
        refine lv_aload_n hx hb dX3_walkersTurn_61 rfl (lv_at hl20 0 rfl) ?_
        refine lv_iload_n hx hb dX3_walkersTurn_62 rfl (lv_at hl20 1 rfl) ?_
        refine lv_iconst (v := 1) hx hb dX3_walkersTurn_63 (by decide) ?_
        refine lv_isub hx hb dX3_walkersTurn_64 ?_
        refine lv_iload_n hx hb dX3_walkersTurn_65 rfl (lv_at hl20 2 rfl) ?_
        refine lv_iconst (v := 1) hx hb dX3_walkersTurn_66 (by decide) ?_
        refine lv_iadd hx hb dX3_walkersTurn_67 ?_
        refine lv_iload_n hx hb dX3_walkersTurn_68 rfl (lv_at hl20 3 rfl) ?_
        obtain ⟨x25, hh26, hg32, hf31⟩ := bd_some hf24
        refine x_ci (x_runV (As := [.int (a1 - (1 : Int32)), .int (a2 + (1 : Int32)), .int a3]) (rest := [.int J46_13v4]) X hP18 hS19 210 (by decide) cl_Fo rfl (hF_courtsTurn (a1 - (1 : Int32)) (a2 + (1 : Int32)) a3 _ _ _  hg32) mi_X3_133 rfl hl20.1 rfl (Nat.le_of_ble_eq_true rfl) dX3_walkersTurn_69 ⟨by show _ ≤ d0 + 1 + 1; omega, by show _ ≤ 42 * (d0 + 1 + 1); omega⟩ ⟨Nat.zero_le _, Nat.zero_le _⟩) hS19 (fun H27 lc28 hP29 hS30 => ?_)
        clear hf24 hP18 hS19 hg32
        refine x_mmin X hl20.1 ⟨wd_665, wd_485, wd_69, wd_486⟩ ⟨by show _ ≤ d0 + 1 + 1; omega, by show _ ≤ 42 * (d0 + 1 + 1); simp [Value.category]; omega⟩ ⟨Nat.zero_le _, Nat.zero_le _⟩ dX3_walkersTurn_72 ?_
        refine lv_topi (fun x33 ex33 => ?_)
        have hf34 := lk_at ex33 hf31
        clear hf31
        refine lv_istore (lv' := [(4, .int x33), (0, .ref (g.2.2 210)), (1, .int a1), (2, .int a2), (3, .int a3)]) hx hb dX3_walkersTurn_75 hl20 (by decide) rfl (fun ls35 hl36 => ?_)
        clear hl20
        refine lv_iload hx hb dX3_walkersTurn_77 (lv_at hl36 0 rfl) ?_
        obtain ⟨rfl, rfl⟩ := ret_inj hf34
        exact x_iret X hr hlocks hP29 hS30 dX3_walkersTurn_79
    clear eJ46_13
    refine lv_if_le (tgt := 46) hx hb dX3_walkersTurn_25 (by decide) (fun c38 => ?_) (fun c38 => ?_)
    · have hf39 := if_at_t c38 hf37
      clear hf37
      exact hJ46_13 x3 hh4  _ _ _ hf39 hP7 hS8 (lv_sub hl12 [1, 2, 3, 4, 0] rfl)
    · have hf40 := if_at_f c38 hf37
      clear hf37
      refine lv_iload hx hb dX3_walkersTurn_28 (lv_at hl12 0 rfl) ?_
      refine lv_aload_n hx hb dX3_walkersTurn_30 rfl (lv_at hl12 1 rfl) ?_
      refine lv_iload_n hx hb dX3_walkersTurn_31 rfl (lv_at hl12 2 rfl) ?_
      refine lv_iconst (v := 1) hx hb dX3_walkersTurn_32 (by decide) ?_
      refine lv_isub hx hb dX3_walkersTurn_33 ?_
      refine lv_iload_n hx hb dX3_walkersTurn_34 rfl (lv_at hl12 3 rfl) ?_
      refine lv_iconst (v := 1) hx hb dX3_walkersTurn_35 (by decide) ?_
      refine lv_isub hx hb dX3_walkersTurn_36 ?_
      refine lv_iload_n hx hb dX3_walkersTurn_37 rfl (lv_at hl12 4 rfl) ?_
      obtain ⟨x41, hh42, hg48, hf47⟩ := bd_some hf40
      refine x_ci (x_runV (As := [.int (a1 - (1 : Int32)), .int (a2 - (1 : Int32)), .int a3]) (rest := [.int x3]) X hP7 hS8 210 (by decide) cl_Fo rfl (hF_courtsTurn (a1 - (1 : Int32)) (a2 - (1 : Int32)) a3 _ _ _  hg48) mi_X3_133 rfl hl12.1 rfl (Nat.le_of_ble_eq_true rfl) dX3_walkersTurn_38 ⟨by show _ ≤ d0 + 1 + 1; omega, by show _ ≤ 42 * (d0 + 1 + 1); omega⟩ ⟨Nat.zero_le _, Nat.zero_le _⟩) hS8 (fun H43 lc44 hP45 hS46 => ?_)
      clear hf40 hP7 hS8 hg48
      refine x_mmin X hl12.1 ⟨wd_665, wd_485, wd_69, wd_486⟩ ⟨by show _ ≤ d0 + 1 + 1; omega, by show _ ≤ 42 * (d0 + 1 + 1); simp [Value.category]; omega⟩ ⟨Nat.zero_le _, Nat.zero_le _⟩ dX3_walkersTurn_41 ?_
      refine lv_topi (fun x49 ex49 => ?_)
      have hf50 := lk_at ex49 hf47
      clear hf47
      refine lv_istore (lv' := [(4, .int x49), (0, .ref (g.2.2 210)), (1, .int a1), (2, .int a2), (3, .int a3)]) hx hb dX3_walkersTurn_44 hl12 (by decide) rfl (fun ls51 hl52 => ?_)
      clear hl12
      exact hJ46_13 x49 hh42  _ _ _ hf50 hP45 hS46 (lv_sub hl52 [1, 2, 3, 4, 0] rfl)
  · have hf53 := if_at_f c1 hf
    clear hf
    refine lv_aload_n hx hb dX3_walkersTurn_4 rfl (lv_at hl 0 rfl) ?_
    refine gX3 X hP 1 (v := .ref (g.2.2 211)) rfl (by decide) rfl wd_241 dX3_walkersTurn_5 ?_
    refine lv_iload_n hx hb dX3_walkersTurn_8 rfl (lv_at hl 3 rfl) ?_
    obtain ⟨hc54, hf55⟩ := chk_some hf53
    refine x_overT X hP hc54 dX3_walkersTurn_9 ?_
    refine lv_iload_n hx hb dX3_walkersTurn_10 rfl (lv_at hl 2 rfl) ?_
    obtain ⟨hc56, hf57⟩ := chk_some hf55
    refine x_ildC X hP (212 + a3.toNatClampNeg) (ia_ov hc54) hc56 dX3_walkersTurn_11 ?_
    obtain ⟨rfl, rfl⟩ := ret_inj hf57
    exact x_iret X hr hlocks hP hS dX3_walkersTurn_12
theorem tX3_turns (l : Launch) {g : Gx} (hI : InjG g) : ∀ (n d : Nat), 2 * n + 3 ≤ d → ∀ {h k h1 : Hp} {a1 a2 a3 r : Int32}, fX3_turns n a1 a2 a3 h = some (r, h1) → CI l yX3_walkersTurn cX3_walkersTurn 5 (some .int) d g [.ref (g.2.2 210), .int a1, .int a2, .int a3] h k h1 k r := by
  intro n
  induction n with
  | zero => intro d _ h k h1 a1 a2 a3 r hf; simp only [fX3_turns, reduceCtorEq] at hf
  | succ n ih =>
    intro d hd h k h1 a1 a2 a3 r hf
    obtain ⟨d, rfl⟩ : ∃ q, d = q + 2 := ⟨d - 2, by omega⟩
    rw [fX3_turns] at hf
    exact tX3_walkersTurn_o l hI (d + 1) (by omega) _ (fun b0 b1 b2 h h1 r hg => tX3_courtsTurn_o l hI d (by omega) _ (fun b0 b1 b2 h h1 r hg => ih d (by omega) hg) hg) hf
theorem tX3_walkersTurn (l : Launch) {g : Gx} (hI : InjG g) {h k h1 : Hp} {a1 a2 a3 r : Int32} (hf : fX3_walkersTurn a1 a2 a3 h = some (r, h1)) : CI l yX3_walkersTurn cX3_walkersTurn 5 (some .int) 16 g [.ref (g.2.2 210), .int a1, .int a2, .int a3] h k h1 k r := tX3_turns l hI 6 16 (by decide) hf
set_option maxRecDepth 100000 in
set_option maxHeartbeats 4000000 in
theorem wX3_outcomeOfTurns_L53 {p : Program} {l : Launch} {en : Env} {s : State} {m : MethodId} {args : Array Value} {below : List Frame} {meth : Method} {c : Code} {g : Gx} (X : Cx p s m args c cX3_outcomeOfTurns 6 RX3 g) (hr : meth.sig.returnType = (some .int)) (hlocks : meth.locks = false) {k h1 : Hp} {r : Int32} {v1 : Nat} {v2 : Int32} {v3 : Int32} (hv1 : isE v1) {K72 : Hp → Option (Int32 × Hp)}
    (hK72 : ∀  (h : Hp) (H : Heap) (locs : List Loc) (ls : Array Slot), K72  h = some (r, h1) → va_P g.1 vwCl (WW g h k) H → va_S (inA g) s.heap H locs → lv_has ls 6 [(0, .ref (g.2.2 210)), (1, .ref (g.2.2 v1)), (2, .int v2)] → W p l en (rmD 17) s m args below meth c H locs 0 0 (MQ below (QI g h1 k r) args s 0 0 (inA g)) (F0 m 72 ls [])) :
    ∀ (n : Nat) (v5 : Int32) (h : Hp) (H : Heap) (locs : List Loc) (ls : Array Slot), fX3_outcomeOfTurns_L53 K72 n v1 v2 v3 v5 h = some (r, h1) → va_P g.1 vwCl (WW g h k) H → va_S (inA g) s.heap H locs → lv_has ls 6 [(0, .ref (g.2.2 210)), (1, .ref (g.2.2 v1)), (2, .int v2), (3, .int v3), (5, .int v5)] → W p l en (rmD 17) s m args below meth c H locs 0 0 (MQ below (QI g h1 k r) args s 0 0 (inA g)) (F0 m 53 ls []) := by
  have hx := X.1
  have hb := X.2.1
  intro n
  induction n with
  | zero => intro v5 h H locs ls  hf; simp only [fX3_outcomeOfTurns_L53, reduceCtorEq] at hf
  | succ n ih =>
    intro v5 h H locs ls  hf hP hS hl
    rw [fX3_outcomeOfTurns_L53] at hf
    refine lv_iload hx hb dX3_outcomeOfTurns_53 (lv_at hl 4 rfl) ?_
    refine lv_iload_n hx hb dX3_outcomeOfTurns_55 rfl (lv_at hl 3 rfl) ?_
    refine lv_icmp_ge (tgt := 72) hx hb dX3_outcomeOfTurns_56 (by decide) (fun c51 => ?_) (fun c51 => ?_)
    · have hf52 := if_at_t c51 hf
      clear hf
      exact hK72 h  _ _ _ hf52 hP hS (lv_sub hl [0, 1, 2] rfl)
    · have hf53 := if_at_f c51 hf
      clear hf
      refine lv_aload_n hx hb dX3_outcomeOfTurns_59 rfl (lv_at hl 0 rfl) ?_
      refine gX3 X hP 0 (v := .ref (g.2.2 14)) rfl (by decide) rfl wd_240 dX3_outcomeOfTurns_60 ?_
      obtain ⟨⟨⟩, hh55, hg61, hf60⟩ := bd_some hf53
      refine x_cv (x_runV (As := []) (rest := []) X hP hS 14 (by decide) (cl_E (⟨rfl, by decide⟩ : isE 14)) rfl (tX2_passHour l X.2.2.2.2.2.2.1 (⟨rfl, by decide⟩ : isE 14) hg61) mi_X3_37 rfl hl.1 rfl (Nat.le_of_ble_eq_true rfl) dX3_outcomeOfTurns_63 ⟨Nat.le_of_ble_eq_true rfl, Nat.le_of_ble_eq_true rfl⟩ ⟨Nat.zero_le _, Nat.zero_le _⟩) hS (fun H56 lc57 hP58 hS59 => ?_)
      clear hf53 hP hS hg61
      obtain ⟨x62, ex62⟩ : ∃ q : Int32, q = v5 + (1 : Int32) := ⟨_, rfl⟩
      have hf63 := lk_at ex62 hf60
      clear hf60
      refine lv_iinc (v := x62) (lv' := [(5, .int x62), (0, .ref (g.2.2 210)), (1, .ref (g.2.2 v1)), (2, .int v2), (3, .int v3)]) hx hb dX3_outcomeOfTurns_66 hl (k := 4) rfl (by rw [ex62]; rfl) (by decide) rfl (fun ls64 hl65 => ?_)
      clear hl
      refine lv_goto (tgt := 53) hx hb dX3_outcomeOfTurns_69 (by decide) ?_
      exact ih x62 hh55  _ _ _ hf63 hP58 hS59 (lv_sub hl65 [1, 2, 3, 4, 0] rfl)
set_option maxRecDepth 100000 in
set_option maxHeartbeats 4000000 in
theorem tX3_outcomeOfTurns (l : Launch) {g : Gx} (hI : InjG g) {h k h1 : Hp} {a1 : Nat} {a2 : Int32} {a3 : Int32} {r : Int32}  (ha1 : isE a1) (hf : fX3_outcomeOfTurns a1 a2 a3 h = some (r, h1)) : CI l yX3_outcomeOfTurns cX3_outcomeOfTurns 6 (some .int) 17 g [.ref (g.2.2 210), .ref (g.2.2 a1), .int a2, .int a3] h k h1 k r := by
  refine Met.ofW (cc := cX3_outcomeOfTurns) (maxL := 6) (ret := (some .int)) (by decide) rfl ?_
  intro p en s m args below meth c s₁ B hml hv
  obtain ⟨rfl, hSK, hSH, hP⟩ := hv
  have X : Cx p s m _ c cX3_outcomeOfTurns 6 RX3 g := ⟨B.exec, B.bytes, hml, findClass_of_methodNamed B.named, fun w hw => atoms_spec (ws := wsy yX3_outcomeOfTurns cX3_outcomeOfTurns 6 (some .int)) B.pre w (List.mem_cons_of_mem _ hw), hSK, hI, hSH⟩
  have hr := B.returns
  have hlocks := B.notSynchronized
  have hx := X.1
  have hb := X.2.1
  have hS : va_S (inA g) s.heap s.heap [] := va_S.rf
  clear hSK hSH hml B
  have hl := lv_entry ([.ref (g.2.2 210), .ref (g.2.2 a1), .int a2, .int a3]) (n := 6) (Nat.le_of_ble_eq_true rfl)
  rw [lg_entry_eq]
  generalize (lg_sl ([.ref (g.2.2 210), .ref (g.2.2 a1), .int a2, .int a3]) ++ List.replicate (6 - (lg_sl ([.ref (g.2.2 210), .ref (g.2.2 a1), .int a2, .int a3])).length) Slot.unset).toArray = ls at hl ⊢
  have hl : lv_has ls 6 [(0, .ref (g.2.2 210)), (1, .ref (g.2.2 a1)), (2, .int a2), (3, .int a3)] := hl
  generalize ([.ref (g.2.2 210), .ref (g.2.2 a1), .int a2, .int a3] : List Value).toArray = args at X ⊢
  show W p l en (rmD 17) s m args below meth c s.heap [] 0 0 (MQ below (QI g h1 k r) args s 0 0 (inA g)) (F0 m 0 ls [])
  unfold fX3_outcomeOfTurns at hf
  refine lv_aload_n hx hb dX3_outcomeOfTurns_0 rfl (lv_at hl 0 rfl) ?_
  refine lv_aload_n hx hb dX3_outcomeOfTurns_1 rfl (lv_at hl 1 rfl) ?_
  refine lv_iload_n hx hb dX3_outcomeOfTurns_2 rfl (lv_at hl 3 rfl) ?_
  obtain ⟨x1, hh2, hg8, hf7⟩ := bd_some hf
  refine x_cr (x_runV (As := [.ref (g.2.2 a1), .int a3]) (rest := []) X hP hS 210 (by decide) cl_Fo rfl (tX3_behind l X.2.2.2.2.2.2.1 ha1 hg8) mi_X3_119 rfl hl.1 rfl (Nat.le_of_ble_eq_true rfl) dX3_outcomeOfTurns_3 ⟨Nat.le_of_ble_eq_true rfl, Nat.le_of_ble_eq_true rfl⟩ ⟨Nat.zero_le _, Nat.zero_le _⟩) hS (fun H3 lc4 hP5 hS6 => ?_)
  clear hf hP hS hg8
  obtain ⟨hc9, hf10⟩ := chk_some hf7
  refine lv_pop hx hb dX3_outcomeOfTurns_6 rfl ?_
  refine lv_aload_n hx hb dX3_outcomeOfTurns_7 rfl (lv_at hl 0 rfl) ?_
  refine lv_aload_n hx hb dX3_outcomeOfTurns_8 rfl (lv_at hl 0 rfl) ?_
  refine gX3 X hP5 1 (v := .ref (g.2.2 211)) rfl (by decide) rfl wd_241 dX3_outcomeOfTurns_9 ?_
  refine lv_iconst (v := 0) hx hb dX3_outcomeOfTurns_12 (by decide) ?_
  obtain ⟨hc11, hf12⟩ := chk_some hf10
  refine x_overT X hP5 hc11 dX3_outcomeOfTurns_13 ?_
  obtain ⟨⟨⟩, hh14, hg20, hf19⟩ := bd_some hf12
  refine x_cv (x_runV (As := [.ref (g.2.2 (212 + (0 : Int32).toNatClampNeg))]) (rest := []) X hP5 hS6 210 (by decide) cl_Fo rfl (tX3_noteOver l X.2.2.2.2.2.2.1 (ia_ov hc11) hg20) mi_X3_64 rfl hl.1 rfl (Nat.le_of_ble_eq_true rfl) dX3_outcomeOfTurns_14 ⟨Nat.le_of_ble_eq_true rfl, Nat.le_of_ble_eq_true rfl⟩ ⟨Nat.zero_le _, Nat.zero_le _⟩) hS6 (fun H15 lc16 hP17 hS18 => ?_)
  clear hf12 hP5 hS6 hg20
  refine lv_aload_n hx hb dX3_outcomeOfTurns_17 rfl (lv_at hl 0 rfl) ?_
  refine gX3 X hP17 0 (v := .ref (g.2.2 14)) rfl (by decide) rfl wd_240 dX3_outcomeOfTurns_18 ?_
  refine lv_aload_n hx hb dX3_outcomeOfTurns_21 rfl (lv_at hl 1 rfl) ?_
  obtain ⟨⟨⟩, hh22, hg28, hf27⟩ := bd_some hf19
  refine x_cv (x_runV (As := [.ref (g.2.2 a1)]) (rest := []) X hP17 hS18 14 (by decide) (cl_E (⟨rfl, by decide⟩ : isE 14)) rfl (tX2_become l X.2.2.2.2.2.2.1 (⟨rfl, by decide⟩ : isE 14) ha1 hg28) mi_X3_33 rfl hl.1 rfl (Nat.le_of_ble_eq_true rfl) dX3_outcomeOfTurns_22 ⟨Nat.le_of_ble_eq_true rfl, Nat.le_of_ble_eq_true rfl⟩ ⟨Nat.zero_le _, Nat.zero_le _⟩) hS18 (fun H23 lc24 hP25 hS26 => ?_)
  clear hf19 hP17 hS18 hg28
  refine lv_aload_n hx hb dX3_outcomeOfTurns_25 rfl (lv_at hl 1 rfl) ?_
  obtain ⟨x29, hh30, hg36, hf35⟩ := bd_some hf27
  refine x_ci (x_runV (As := []) (rest := []) X hP25 hS26 a1 (isE_lt ha1) (cl_E ha1) rfl (tX2_windOfHour l X.2.2.2.2.2.2.1 ha1 hg36) mi_X3_123 rfl hl.1 rfl (Nat.le_of_ble_eq_true rfl) dX3_outcomeOfTurns_26 ⟨Nat.le_of_ble_eq_true rfl, Nat.le_of_ble_eq_true rfl⟩ ⟨Nat.zero_le _, Nat.zero_le _⟩) hS26 (fun H31 lc32 hP33 hS34 => ?_)
  clear hf27 hP25 hS26 hg36
  refine lv_istore (lv' := [(4, .int x29), (0, .ref (g.2.2 210)), (1, .ref (g.2.2 a1)), (2, .int a2), (3, .int a3)]) hx hb dX3_outcomeOfTurns_29 hl (by decide) rfl (fun ls37 hl38 => ?_)
  clear hl
  refine lv_aload_n hx hb dX3_outcomeOfTurns_31 rfl (lv_at hl38 1 rfl) ?_
  refine gX3 X hP33 0 (v := .ref (g.2.2 14)) rfl (by decide) rfl wd_240 dX3_outcomeOfTurns_32 ?_
  refine gX2 X hP33 (⟨rfl, by decide⟩ : isE 14) 0 (v := .ref (g.2.2 15)) rfl (by decide) rfl wd_95 dX3_outcomeOfTurns_35 ?_
  refine lv_iload hx hb dX3_outcomeOfTurns_38 (lv_at hl38 0 rfl) ?_
  refine lv_iconst (v := 4) hx hb dX3_outcomeOfTurns_40 (by decide) ?_
  refine lv_aload_n hx hb dX3_outcomeOfTurns_41 rfl (lv_at hl38 2 rfl) ?_
  refine gX2 X hP33 ha1 0 (v := .ref (g.2.2 (a1 + 1))) rfl (by decide) rfl wd_95 dX3_outcomeOfTurns_42 ?_
  refine lv_iload hx hb dX3_outcomeOfTurns_45 (lv_at hl38 0 rfl) ?_
  obtain ⟨hc39, hf40⟩ := chk_some hf35
  refine x_ildC X hP33 (a1 + 1) (ia_E1 ha1) hc39 dX3_outcomeOfTurns_47 ?_
  refine lv_isub hx hb dX3_outcomeOfTurns_48 ?_
  obtain ⟨hc41, hf42⟩ := chk_some hf40
  refine x_istC X hP33 hS34 15 rfl hc41 dX3_outcomeOfTurns_49 (fun H43 lc44 hh45 ehh45 hP46 hS47 => ?_)
  have hf48 := lk_at ehh45 hf42
  clear hf42 hP33 hS34
  refine lv_iconst (v := 0) hx hb dX3_outcomeOfTurns_50 (by decide) ?_
  refine lv_istore (lv' := [(5, .int (0 : Int32)), (4, .int x29), (0, .ref (g.2.2 210)), (1, .ref (g.2.2 a1)), (2, .int a2), (3, .int a3)]) hx hb dX3_outcomeOfTurns_51 hl38 (by decide) rfl (fun ls49 hl50 => ?_)
  clear hl38
  refine wX3_outcomeOfTurns_L53 X hr hlocks ha1 ?_ 4096 (0 : Int32) hh45 _ _ _  hf48 hP46 hS47 (lv_sub hl50 [2, 3, 4, 5, 0] rfl)
  · intro  hh66 H67 lc68 ls69  hf73 hP70 hS71 hl72
    refine lv_aload_n hx hb dX3_outcomeOfTurns_72 rfl (lv_at hl72 0 rfl) ?_
    refine lv_aload_n hx hb dX3_outcomeOfTurns_73 rfl (lv_at hl72 0 rfl) ?_
    refine gX3 X hP70 1 (v := .ref (g.2.2 211)) rfl (by decide) rfl wd_241 dX3_outcomeOfTurns_74 ?_
    refine lv_iconst (v := 1) hx hb dX3_outcomeOfTurns_77 (by decide) ?_
    obtain ⟨hc74, hf75⟩ := chk_some hf73
    refine x_overT X hP70 hc74 dX3_outcomeOfTurns_78 ?_
    obtain ⟨⟨⟩, hh77, hg83, hf82⟩ := bd_some hf75
    refine x_cv (x_runV (As := [.ref (g.2.2 (212 + (1 : Int32).toNatClampNeg))]) (rest := []) X hP70 hS71 210 (by decide) cl_Fo rfl (tX3_noteOver l X.2.2.2.2.2.2.1 (ia_ov hc74) hg83) mi_X3_64 rfl hl72.1 rfl (Nat.le_of_ble_eq_true rfl) dX3_outcomeOfTurns_79 ⟨Nat.le_of_ble_eq_true rfl, Nat.le_of_ble_eq_true rfl⟩ ⟨Nat.zero_le _, Nat.zero_le _⟩) hS71 (fun H78 lc79 hP80 hS81 => ?_)
    clear hf75 hP70 hS71 hg83
    refine lv_aload_n hx hb dX3_outcomeOfTurns_82 rfl (lv_at hl72 0 rfl) ?_
    refine lv_iload_n hx hb dX3_outcomeOfTurns_83 rfl (lv_at hl72 2 rfl) ?_
    refine lv_aload_n hx hb dX3_outcomeOfTurns_84 rfl (lv_at hl72 1 rfl) ?_
    refine gX2 X hP80 ha1 9 (v := .int (hh77 a1 9)) rfl (by decide) rfl wd_124 dX3_outcomeOfTurns_85 ?_
    refine lv_iconst (v := 0) hx hb dX3_outcomeOfTurns_88 (by decide) ?_
    obtain ⟨x84, hh85, hg91, hf90⟩ := bd_some hf82
    refine x_ci (x_runV (As := [.int a2, .int (hh77 a1 9), .int (0 : Int32)]) (rest := []) X hP80 hS81 210 (by decide) cl_Fo rfl (tX3_walkersTurn l X.2.2.2.2.2.2.1  hg91) mi_X3_129 rfl hl72.1 rfl (Nat.le_of_ble_eq_true rfl) dX3_outcomeOfTurns_89 ⟨Nat.le_of_ble_eq_true rfl, Nat.le_of_ble_eq_true rfl⟩ ⟨Nat.zero_le _, Nat.zero_le _⟩) hS81 (fun H86 lc87 hP88 hS89 => ?_)
    clear hf82 hP80 hS81 hg91
    obtain ⟨rfl, rfl⟩ := ret_inj hf90
    exact x_iret X hr hlocks hP88 hS89 dX3_outcomeOfTurns_92
set_option maxRecDepth 100000 in
set_option maxHeartbeats 4000000 in
theorem tX6_byTurns (l : Launch) {g : Gx} (hI : InjG g) {h k h1 : Hp} {a1 : Int32} {a2 : Int32} {r : Int32}   (hf : fX6_byTurns a1 a2 h = some (r, h1)) : CI l yX6_byTurns cX6_byTurns 3 (some .int) 18 g [.ref (g.2.2 203), .int a1, .int a2] h k h1 k r := by
  refine Met.ofW (cc := cX6_byTurns) (maxL := 3) (ret := (some .int)) (by decide) rfl ?_
  intro p en s m args below meth c s₁ B hml hv
  obtain ⟨rfl, hSK, hSH, hP⟩ := hv
  have X : Cx p s m _ c cX6_byTurns 3 RX6 g := ⟨B.exec, B.bytes, hml, findClass_of_methodNamed B.named, fun w hw => atoms_spec (ws := wsy yX6_byTurns cX6_byTurns 3 (some .int)) B.pre w (List.mem_cons_of_mem _ hw), hSK, hI, hSH⟩
  have hr := B.returns
  have hlocks := B.notSynchronized
  have hx := X.1
  have hb := X.2.1
  have hS : va_S (inA g) s.heap s.heap [] := va_S.rf
  clear hSK hSH hml B
  have hl := lv_entry ([.ref (g.2.2 203), .int a1, .int a2]) (n := 3) (Nat.le_of_ble_eq_true rfl)
  rw [lg_entry_eq]
  generalize (lg_sl ([.ref (g.2.2 203), .int a1, .int a2]) ++ List.replicate (3 - (lg_sl ([.ref (g.2.2 203), .int a1, .int a2])).length) Slot.unset).toArray = ls at hl ⊢
  have hl : lv_has ls 3 [(0, .ref (g.2.2 203)), (1, .int a1), (2, .int a2)] := hl
  generalize ([.ref (g.2.2 203), .int a1, .int a2] : List Value).toArray = args at X ⊢
  show W p l en (rmD 18) s m args below meth c s.heap [] 0 0 (MQ below (QI g h1 k r) args s 0 0 (inA g)) (F0 m 0 ls [])
  unfold fX6_byTurns at hf
  refine lv_aload_n hx hb dX6_byTurns_0 rfl (lv_at hl 0 rfl) ?_
  refine gX6 X hP 2 (v := .ref (g.2.2 0)) rfl (by decide) rfl wd_299 dX6_byTurns_1 ?_
  refine gX2 X hP (⟨rfl, by decide⟩ : isE 0) 6 (v := .int (h 0 6)) rfl (by decide) rfl wd_113 dX6_byTurns_4 ?_
  refine lv_if_ne (tgt := 13) hx hb dX6_byTurns_7 (by decide) (fun c1 => ?_) (fun c1 => ?_)
  · have hf2 := if_at_f c1 hf
    clear hf
    refine lv_iload_n hx hb dX6_byTurns_13 rfl (lv_at hl 1 rfl) ?_
    refine lv_iconst (v := 0) hx hb dX6_byTurns_14 (by decide) ?_
    refine lv_iconst (v := 4) hx hb dX6_byTurns_15 (by decide) ?_
    obtain ⟨x3, hh4, hg10, hf9⟩ := bd_some hf2
    refine x_ci (x_runS (As := [.int a1, .int (0 : Int32), .int (4 : Int32)]) (rest := []) X hP hS (tX6_isWithin l X.2.2.2.2.2.2.1  hg10) mi_X6_59 rfl hl.1 rfl (Nat.le_of_ble_eq_true rfl) dX6_byTurns_16 ⟨Nat.le_of_ble_eq_true rfl, Nat.le_of_ble_eq_true rfl⟩ ⟨Nat.zero_le _, Nat.zero_le _⟩) hS (fun H5 lc6 hP7 hS8 => ?_)
    clear hf2 hP hS hg10
    refine lv_if_eq (tgt := 32) hx hb dX6_byTurns_19 (by decide) (fun c11 => ?_) (fun c11 => ?_)
    · have hf12 := if_at_t c11 hf9
      clear hf9
      refine lv_ldc (v := -1000001) hx hb X.2.2.2.1 (X.2.2.2.2.1 _ wd_335) dX6_byTurns_32 ?_
      obtain ⟨rfl, rfl⟩ := ret_inj hf12
      exact x_iret X hr hlocks hP7 hS8 dX6_byTurns_34
    · have hf13 := if_at_f c11 hf9
      clear hf9
      refine lv_iload_n hx hb dX6_byTurns_22 rfl (lv_at hl 2 rfl) ?_
      refine lv_iconst (v := 1) hx hb dX6_byTurns_23 (by decide) ?_
      refine lv_bipush (v := 20) hx hb dX6_byTurns_24 (by decide) ?_
      obtain ⟨x14, hh15, hg21, hf20⟩ := bd_some hf13
      refine x_ci (x_runS (As := [.int a2, .int (1 : Int32), .int (20 : Int32)]) (rest := []) X hP7 hS8 (tX6_isWithin l X.2.2.2.2.2.2.1  hg21) mi_X6_59 rfl hl.1 rfl (Nat.le_of_ble_eq_true rfl) dX6_byTurns_26 ⟨Nat.le_of_ble_eq_true rfl, Nat.le_of_ble_eq_true rfl⟩ ⟨Nat.zero_le _, Nat.zero_le _⟩) hS8 (fun H16 lc17 hP18 hS19 => ?_)
      clear hf13 hP7 hS8 hg21
      refine lv_if_ne (tgt := 35) hx hb dX6_byTurns_29 (by decide) (fun c22 => ?_) (fun c22 => ?_)
      · have hf23 := if_at_f c22 hf20
        clear hf20
        refine lv_aload_n hx hb dX6_byTurns_35 rfl (lv_at hl 0 rfl) ?_
        refine gX6 X hP18 5 (v := .ref (g.2.2 210)) rfl (by decide) rfl wd_302 dX6_byTurns_36 ?_
        refine lv_aload_n hx hb dX6_byTurns_39 rfl (lv_at hl 0 rfl) ?_
        refine gX6 X hP18 2 (v := .ref (g.2.2 0)) rfl (by decide) rfl wd_299 dX6_byTurns_40 ?_
        refine lv_iload_n hx hb dX6_byTurns_43 rfl (lv_at hl 1 rfl) ?_
        refine lv_iload_n hx hb dX6_byTurns_44 rfl (lv_at hl 2 rfl) ?_
        obtain ⟨x24, hh25, hg31, hf30⟩ := bd_some hf23
        refine x_ci (x_runV (As := [.ref (g.2.2 0), .int a1, .int a2]) (rest := []) X hP18 hS19 210 (by decide) cl_Fo rfl (tX3_outcomeOfTurns l X.2.2.2.2.2.2.1 (⟨rfl, by decide⟩ : isE 0) hg31) mi_X6_267 rfl hl.1 rfl (Nat.le_of_ble_eq_true rfl) dX6_byTurns_45 ⟨Nat.le_of_ble_eq_true rfl, Nat.le_of_ble_eq_true rfl⟩ ⟨Nat.zero_le _, Nat.zero_le _⟩) hS19 (fun H26 lc27 hP28 hS29 => ?_)
        clear hf23 hP18 hS19 hg31
        obtain ⟨rfl, rfl⟩ := ret_inj hf30
        exact x_iret X hr hlocks hP28 hS29 dX6_byTurns_48
      · have hf32 := if_at_t c22 hf20
        clear hf20
        refine lv_ldc (v := -1000001) hx hb X.2.2.2.1 (X.2.2.2.2.1 _ wd_335) dX6_byTurns_32 ?_
        obtain ⟨rfl, rfl⟩ := ret_inj hf32
        exact x_iret X hr hlocks hP18 hS19 dX6_byTurns_34
  · have hf33 := if_at_t c1 hf
    clear hf
    refine lv_ldc (v := -1000002) hx hb X.2.2.2.1 (X.2.2.2.2.1 _ wd_470) dX6_byTurns_10 ?_
    obtain ⟨rfl, rfl⟩ := ret_inj hf33
    exact x_iret X hr hlocks hP hS dX6_byTurns_12
set_option maxRecDepth 100000 in
set_option maxHeartbeats 4000000 in
theorem tX3_hear (l : Launch) {g : Gx} (hI : InjG g) {h k h1 : Hp} {a1 : Nat} {a2 : Int32} {a3 : Int32}  (ha1 : isR a1) (hf : fX3_hear a1 a2 a3 h = some ((), h1)) : CV l yX3_hear cX3_hear 4 none 2 g [.ref (g.2.2 210), .ref (g.2.2 a1), .int a2, .int a3] h k h1 k := by
  refine Met.ofW (cc := cX3_hear) (maxL := 4) (ret := none) (by decide) rfl ?_
  intro p en s m args below meth c s₁ B hml hv
  obtain ⟨rfl, hSK, hSH, hP⟩ := hv
  have X : Cx p s m _ c cX3_hear 4 RX3 g := ⟨B.exec, B.bytes, hml, findClass_of_methodNamed B.named, fun w hw => atoms_spec (ws := wsy yX3_hear cX3_hear 4 none) B.pre w (List.mem_cons_of_mem _ hw), hSK, hI, hSH⟩
  have hr := B.returns
  have hlocks := B.notSynchronized
  have hx := X.1
  have hb := X.2.1
  have hS : va_S (inA g) s.heap s.heap [] := va_S.rf
  clear hSK hSH hml B
  have hl := lv_entry ([.ref (g.2.2 210), .ref (g.2.2 a1), .int a2, .int a3]) (n := 4) (Nat.le_of_ble_eq_true rfl)
  rw [lg_entry_eq]
  generalize (lg_sl ([.ref (g.2.2 210), .ref (g.2.2 a1), .int a2, .int a3]) ++ List.replicate (4 - (lg_sl ([.ref (g.2.2 210), .ref (g.2.2 a1), .int a2, .int a3])).length) Slot.unset).toArray = ls at hl ⊢
  have hl : lv_has ls 4 [(0, .ref (g.2.2 210)), (1, .ref (g.2.2 a1)), (2, .int a2), (3, .int a3)] := hl
  generalize ([.ref (g.2.2 210), .ref (g.2.2 a1), .int a2, .int a3] : List Value).toArray = args at X ⊢
  show W p l en (rmD 2) s m args below meth c s.heap [] 0 0 (MQ below (QV g h1 k) args s 0 0 (inA g)) (F0 m 0 ls [])
  unfold fX3_hear at hf
  refine lv_aload_n hx hb dX3_hear_0 rfl (lv_at hl 0 rfl) ?_
  refine lv_iload_n hx hb dX3_hear_1 rfl (lv_at hl 3 rfl) ?_
  refine lv_bipush (v := 12) hx hb dX3_hear_2 (by decide) ?_
  refine x_mmin X hl.1 ⟨wd_665, wd_485, wd_69, wd_486⟩ ⟨Nat.le_of_ble_eq_true rfl, Nat.le_of_ble_eq_true rfl⟩ ⟨Nat.zero_le _, Nat.zero_le _⟩ dX3_hear_4 ?_
  refine pX3 X hP hS 5 (by decide) rfl wd_245 rfl rfl rfl rfl seX3_5 dX3_hear_7 (fun H1 lc2 hh3 ehh3 hP4 hS5 => ?_)
  have hf6 := lk_at ehh3 hf
  clear hf hP hS
  refine lv_aload_n hx hb dX3_hear_10 rfl (lv_at hl 1 rfl) ?_
  refine gX5 X hP4 ha1 0 (v := .ref (g.2.2 (a1 + 1))) rfl (by decide) rfl wd_281 dX3_hear_11 ?_
  refine lv_iload_n hx hb dX3_hear_14 rfl (lv_at hl 2 rfl) ?_
  refine lv_aload_n hx hb dX3_hear_15 rfl (lv_at hl 0 rfl) ?_
  refine gX3 X hP4 4 (v := .ref (g.2.2 227)) rfl (by decide) rfl wd_244 dX3_hear_16 ?_
  refine lv_iconst (v := 0) hx hb dX3_hear_19 (by decide) ?_
  refine lv_aload_n hx hb dX3_hear_20 rfl (lv_at hl 0 rfl) ?_
  refine gX3 X hP4 5 (v := .int (hh3 210 5)) rfl (by decide) rfl wd_245 dX3_hear_21 ?_
  obtain ⟨hc7, hf8⟩ := chk_some hf6
  refine x_cpy X hP4 hS5 (a1 + 1) 227 (ia_R ha1) rfl hl.1 ⟨wd_764, wd_374, wd_373, wd_68⟩ hc7 (Nat.le_of_ble_eq_true rfl) (Nat.le_of_ble_eq_true rfl) dX3_hear_24 (fun H9 lc10 hh11 ehh11 hP12 hS13 => ?_)
  have hf14 := lk_at ehh11 hf8
  clear hf8 hP4 hS5
  obtain ⟨-, rfl⟩ := ret_inj hf14
  exact x_vret X hr hlocks hP12 hS13 dX3_hear_27
set_option maxRecDepth 100000 in
set_option maxHeartbeats 4000000 in
theorem tX3_mostOf (l : Launch) {g : Gx} (hI : InjG g) {h k h1 : Hp} {a1 : Nat} {a2 : Int32} {r : Int32}  (ha1 : isE a1) (hf : fX3_mostOf a1 a2 h = some (r, h1)) : CI l yX3_mostOf cX3_mostOf 2 (some .int) 0 g [.ref (g.2.2 a1), .int a2] h k h1 k r := by
  refine Met.ofW (cc := cX3_mostOf) (maxL := 2) (ret := (some .int)) (by decide) rfl ?_
  intro p en s m args below meth c s₁ B hml hv
  obtain ⟨rfl, hSK, hSH, hP⟩ := hv
  have X : Cx p s m _ c cX3_mostOf 2 RX3 g := ⟨B.exec, B.bytes, hml, findClass_of_methodNamed B.named, fun w hw => atoms_spec (ws := wsy yX3_mostOf cX3_mostOf 2 (some .int)) B.pre w (List.mem_cons_of_mem _ hw), hSK, hI, hSH⟩
  have hr := B.returns
  have hlocks := B.notSynchronized
  have hx := X.1
  have hb := X.2.1
  have hS : va_S (inA g) s.heap s.heap [] := va_S.rf
  clear hSK hSH hml B
  have hl := lv_entry ([.ref (g.2.2 a1), .int a2]) (n := 2) (Nat.le_of_ble_eq_true rfl)
  rw [lg_entry_eq]
  generalize (lg_sl ([.ref (g.2.2 a1), .int a2]) ++ List.replicate (2 - (lg_sl ([.ref (g.2.2 a1), .int a2])).length) Slot.unset).toArray = ls at hl ⊢
  have hl : lv_has ls 2 [(0, .ref (g.2.2 a1)), (1, .int a2)] := hl
  generalize ([.ref (g.2.2 a1), .int a2] : List Value).toArray = args at X ⊢
  show W p l en (rmD 0) s m args below meth c s.heap [] 0 0 (MQ below (QI g h1 k r) args s 0 0 (inA g)) (F0 m 0 ls [])
  unfold fX3_mostOf at hf
  refine lv_iload_n hx hb dX3_mostOf_0 rfl (lv_at hl 1 rfl) ?_
  by_cases c1 : a2 = (0 : Int32)
  · have hf2 := if_at_t c1 hf
    clear hf
    refine lv_tableIn (tgt := 28) hx hb dX3_mostOf_1 (by rw [c1]; decide) (by rw [c1]; decide) (by rw [c1]; rfl) (by decide) ?_
    refine lv_iconst (v := 5) hx hb dX3_mostOf_28 (by decide) ?_
    obtain ⟨rfl, rfl⟩ := ret_inj hf2
    exact x_iret X hr hlocks hP hS dX3_mostOf_29
  · have hf3 := if_at_f c1 hf
    clear hf
    by_cases c4 : a2 = (1 : Int32)
    · have hf5 := if_at_t c4 hf3
      clear hf3
      refine lv_tableIn (tgt := 30) hx hb dX3_mostOf_1 (by rw [c4]; decide) (by rw [c4]; decide) (by rw [c4]; rfl) (by decide) ?_
      refine lv_aload_n hx hb dX3_mostOf_30 rfl (lv_at hl 0 rfl) ?_
      refine gX2 X hP ha1 7 (v := .int (h a1 7)) rfl (by decide) rfl wd_116 dX3_mostOf_31 ?_
      refine lv_iconst (v := 1) hx hb dX3_mostOf_34 (by decide) ?_
      refine lv_isub hx hb dX3_mostOf_35 ?_
      obtain ⟨rfl, rfl⟩ := ret_inj hf5
      exact x_iret X hr hlocks hP hS dX3_mostOf_36
    · have hf6 := if_at_f c4 hf3
      clear hf3
      by_cases c7 : a2 = (2 : Int32)
      · have hf8 := if_at_t c7 hf6
        clear hf6
        refine lv_tableIn (tgt := 37) hx hb dX3_mostOf_1 (by rw [c7]; decide) (by rw [c7]; decide) (by rw [c7]; rfl) (by decide) ?_
        refine lv_bipush (v := 9) hx hb dX3_mostOf_37 (by decide) ?_
        obtain ⟨rfl, rfl⟩ := ret_inj hf8
        exact x_iret X hr hlocks hP hS dX3_mostOf_39
      · have hf9 := if_at_f c7 hf6
        clear hf6
        have q0 := sw_ne (j := 0) rfl c1
        have q1 := sw_ne (j := 1) rfl c4
        have q2 := sw_ne (j := 2) rfl c7
        refine lv_tableOut (tgt := 40) hx hb dX3_mostOf_1 (by omega) (by decide) ?_
        clear q0 q1 q2
        refine lv_iconst (v := 4) hx hb dX3_mostOf_40 (by decide) ?_
        obtain ⟨rfl, rfl⟩ := ret_inj hf9
        exact x_iret X hr hlocks hP hS dX3_mostOf_41
set_option maxRecDepth 100000 in
set_option maxHeartbeats 4000000 in
theorem tX3_suppose (l : Launch) {g : Gx} (hI : InjG g) {h k h1 : Hp} {a1 : Int32} {a2 : Int32} {a3 : Int32}   (hf : fX3_suppose a1 a2 a3 h = some ((), h1)) : CV l yX3_suppose cX3_suppose 4 none 0 g [.ref (g.2.2 210), .int a1, .int a2, .int a3] h k h1 k := by
  refine Met.ofW (cc := cX3_suppose) (maxL := 4) (ret := none) (by decide) rfl ?_
  intro p en s m args below meth c s₁ B hml hv
  obtain ⟨rfl, hSK, hSH, hP⟩ := hv
  have X : Cx p s m _ c cX3_suppose 4 RX3 g := ⟨B.exec, B.bytes, hml, findClass_of_methodNamed B.named, fun w hw => atoms_spec (ws := wsy yX3_suppose cX3_suppose 4 none) B.pre w (List.mem_cons_of_mem _ hw), hSK, hI, hSH⟩
  have hr := B.returns
  have hlocks := B.notSynchronized
  have hx := X.1
  have hb := X.2.1
  have hS : va_S (inA g) s.heap s.heap [] := va_S.rf
  clear hSK hSH hml B
  have hl := lv_entry ([.ref (g.2.2 210), .int a1, .int a2, .int a3]) (n := 4) (Nat.le_of_ble_eq_true rfl)
  rw [lg_entry_eq]
  generalize (lg_sl ([.ref (g.2.2 210), .int a1, .int a2, .int a3]) ++ List.replicate (4 - (lg_sl ([.ref (g.2.2 210), .int a1, .int a2, .int a3])).length) Slot.unset).toArray = ls at hl ⊢
  have hl : lv_has ls 4 [(0, .ref (g.2.2 210)), (1, .int a1), (2, .int a2), (3, .int a3)] := hl
  generalize ([.ref (g.2.2 210), .int a1, .int a2, .int a3] : List Value).toArray = args at X ⊢
  show W p l en (rmD 0) s m args below meth c s.heap [] 0 0 (MQ below (QV g h1 k) args s 0 0 (inA g)) (F0 m 0 ls [])
  unfold fX3_suppose at hf
  refine lv_iload_n hx hb dX3_suppose_0 rfl (lv_at hl 1 rfl) ?_
  by_cases c1 : a1 = (0 : Int32)
  · have hf2 := if_at_t c1 hf
    clear hf
    refine lv_tableIn (tgt := 28) hx hb dX3_suppose_1 (by rw [c1]; decide) (by rw [c1]; decide) (by rw [c1]; rfl) (by decide) ?_
    refine lv_aload_n hx hb dX3_suppose_28 rfl (lv_at hl 0 rfl) ?_
    refine gX3 X hP 0 (v := .ref (g.2.2 14)) rfl (by decide) rfl wd_240 dX3_suppose_29 ?_
    refine gX2 X hP (⟨rfl, by decide⟩ : isE 14) 1 (v := .ref (g.2.2 16)) rfl (by decide) rfl wd_98 dX3_suppose_32 ?_
    refine lv_iload_n hx hb dX3_suppose_35 rfl (lv_at hl 2 rfl) ?_
    refine lv_iload_n hx hb dX3_suppose_36 rfl (lv_at hl 3 rfl) ?_
    obtain ⟨hc4, hf5⟩ := chk_some hf2
    refine x_istC X hP hS 16 rfl hc4 dX3_suppose_37 (fun H6 lc7 hh8 ehh8 hP9 hS10 => ?_)
    have hf11 := lk_at ehh8 hf5
    clear hf5 hP hS
    refine lv_goto (tgt := 77) hx hb dX3_suppose_38 (by decide) ?_
    obtain ⟨-, rfl⟩ := ret_inj hf11
    exact x_vret X hr hlocks hP9 hS10 dX3_suppose_77
  · have hf3 := if_at_f c1 hf
    clear hf
    by_cases c12 : a1 = (1 : Int32)
    · have hf13 := if_at_t c12 hf3
      clear hf3
      refine lv_tableIn (tgt := 41) hx hb dX3_suppose_1 (by rw [c12]; decide) (by rw [c12]; decide) (by rw [c12]; rfl) (by decide) ?_
      refine lv_aload_n hx hb dX3_suppose_41 rfl (lv_at hl 0 rfl) ?_
      refine gX3 X hP 0 (v := .ref (g.2.2 14)) rfl (by decide) rfl wd_240 dX3_suppose_42 ?_
      refine gX2 X hP (⟨rfl, by decide⟩ : isE 14) 2 (v := .ref (g.2.2 17)) rfl (by decide) rfl wd_101 dX3_suppose_45 ?_
      refine lv_iload_n hx hb dX3_suppose_48 rfl (lv_at hl 2 rfl) ?_
      refine lv_iload_n hx hb dX3_suppose_49 rfl (lv_at hl 3 rfl) ?_
      obtain ⟨hc15, hf16⟩ := chk_some hf13
      refine x_istC X hP hS 17 rfl hc15 dX3_suppose_50 (fun H17 lc18 hh19 ehh19 hP20 hS21 => ?_)
      have hf22 := lk_at ehh19 hf16
      clear hf16 hP hS
      refine lv_goto (tgt := 77) hx hb dX3_suppose_51 (by decide) ?_
      obtain ⟨-, rfl⟩ := ret_inj hf22
      exact x_vret X hr hlocks hP20 hS21 dX3_suppose_77
    · have hf14 := if_at_f c12 hf3
      clear hf3
      by_cases c23 : a1 = (2 : Int32)
      · have hf24 := if_at_t c23 hf14
        clear hf14
        refine lv_tableIn (tgt := 54) hx hb dX3_suppose_1 (by rw [c23]; decide) (by rw [c23]; decide) (by rw [c23]; rfl) (by decide) ?_
        refine lv_aload_n hx hb dX3_suppose_54 rfl (lv_at hl 0 rfl) ?_
        refine gX3 X hP 0 (v := .ref (g.2.2 14)) rfl (by decide) rfl wd_240 dX3_suppose_55 ?_
        refine gX2 X hP (⟨rfl, by decide⟩ : isE 14) 4 (v := .ref (g.2.2 19)) rfl (by decide) rfl wd_107 dX3_suppose_58 ?_
        refine lv_iload_n hx hb dX3_suppose_61 rfl (lv_at hl 2 rfl) ?_
        refine lv_iload_n hx hb dX3_suppose_62 rfl (lv_at hl 3 rfl) ?_
        obtain ⟨hc26, hf27⟩ := chk_some hf24
        refine x_istC X hP hS 19 rfl hc26 dX3_suppose_63 (fun H28 lc29 hh30 ehh30 hP31 hS32 => ?_)
        have hf33 := lk_at ehh30 hf27
        clear hf27 hP hS
        refine lv_goto (tgt := 77) hx hb dX3_suppose_64 (by decide) ?_
        obtain ⟨-, rfl⟩ := ret_inj hf33
        exact x_vret X hr hlocks hP31 hS32 dX3_suppose_77
      · have hf25 := if_at_f c23 hf14
        clear hf14
        have q0 := sw_ne (j := 0) rfl c1
        have q1 := sw_ne (j := 1) rfl c12
        have q2 := sw_ne (j := 2) rfl c23
        refine lv_tableOut (tgt := 67) hx hb dX3_suppose_1 (by omega) (by decide) ?_
        clear q0 q1 q2
        refine lv_aload_n hx hb dX3_suppose_67 rfl (lv_at hl 0 rfl) ?_
        refine gX3 X hP 0 (v := .ref (g.2.2 14)) rfl (by decide) rfl wd_240 dX3_suppose_68 ?_
        refine gX2 X hP (⟨rfl, by decide⟩ : isE 14) 0 (v := .ref (g.2.2 15)) rfl (by decide) rfl wd_95 dX3_suppose_71 ?_
        refine lv_iload_n hx hb dX3_suppose_74 rfl (lv_at hl 2 rfl) ?_
        refine lv_iload_n hx hb dX3_suppose_75 rfl (lv_at hl 3 rfl) ?_
        obtain ⟨hc34, hf35⟩ := chk_some hf25
        refine x_istC X hP hS 15 rfl hc34 dX3_suppose_76 (fun H36 lc37 hh38 ehh38 hP39 hS40 => ?_)
        have hf41 := lk_at ehh38 hf35
        clear hf35 hP hS
        obtain ⟨-, rfl⟩ := ret_inj hf41
        exact x_vret X hr hlocks hP39 hS40 dX3_suppose_77
set_option maxRecDepth 100000 in
set_option maxHeartbeats 4000000 in
theorem wX3_isAsTold_L2 {p : Program} {l : Launch} {en : Env} {s : State} {m : MethodId} {args : Array Value} {below : List Frame} {meth : Method} {c : Code} {g : Gx} (X : Cx p s m args c cX3_isAsTold 2 RX3 g) (hr : meth.sig.returnType = (some .boolean)) (hlocks : meth.locks = false) {k h1 : Hp} {r : Int32}   
     :
    ∀ (n : Nat) (v1 : Int32) (h : Hp) (H : Heap) (locs : List Loc) (ls : Array Slot), fX3_isAsTold_L2 n v1 h = some (r, h1) → va_P g.1 vwCl (WW g h k) H → va_S (inA g) s.heap H locs → lv_has ls 2 [(0, .ref (g.2.2 210)), (1, .int v1)] → W p l en (rmD 4) s m args below meth c H locs 0 0 (MQ below (QI g h1 k r) args s 0 0 (inA g)) (F0 m 2 ls []) := by
  have hx := X.1
  have hb := X.2.1
  intro n
  induction n with
  | zero => intro v1 h H locs ls  hf; simp only [fX3_isAsTold_L2, reduceCtorEq] at hf
  | succ n ih =>
    intro v1 h H locs ls  hf hP hS hl
    rw [fX3_isAsTold_L2] at hf
    refine lv_iload_n hx hb dX3_isAsTold_2 rfl (lv_at hl 1 rfl) ?_
    refine lv_aload_n hx hb dX3_isAsTold_3 rfl (lv_at hl 0 rfl) ?_
    refine gX3 X hP 5 (v := .int (h 210 5)) rfl (by decide) rfl wd_245 dX3_isAsTold_4 ?_
    refine lv_icmp_ge (tgt := 48) hx hb dX3_isAsTold_7 (by decide) (fun c3 => ?_) (fun c3 => ?_)
    · have hf4 := if_at_t c3 hf
      clear hf
      refine lv_iconst (v := 1) hx hb dX3_isAsTold_48 (by decide) ?_
      obtain ⟨rfl, rfl⟩ := ret_inj hf4
      exact x_zret X hr hlocks rfl hP hS dX3_isAsTold_49
    · have hf5 := if_at_f c3 hf
      clear hf
      refine lv_aload_n hx hb dX3_isAsTold_10 rfl (lv_at hl 0 rfl) ?_
      refine gX3 X hP 0 (v := .ref (g.2.2 14)) rfl (by decide) rfl wd_240 dX3_isAsTold_11 ?_
      obtain ⟨⟨⟩, hh7, hg13, hf12⟩ := bd_some hf5
      refine x_cv (x_runV (As := []) (rest := []) X hP hS 14 (by decide) (cl_E (⟨rfl, by decide⟩ : isE 14)) rfl (tX2_passHour l X.2.2.2.2.2.2.1 (⟨rfl, by decide⟩ : isE 14) hg13) mi_X3_37 rfl hl.1 rfl (Nat.le_of_ble_eq_true rfl) dX3_isAsTold_14 ⟨Nat.le_of_ble_eq_true rfl, Nat.le_of_ble_eq_true rfl⟩ ⟨Nat.zero_le _, Nat.zero_le _⟩) hS (fun H8 lc9 hP10 hS11 => ?_)
      clear hf5 hP hS hg13
      refine lv_aload_n hx hb dX3_isAsTold_17 rfl (lv_at hl 0 rfl) ?_
      refine gX3 X hP10 0 (v := .ref (g.2.2 14)) rfl (by decide) rfl wd_240 dX3_isAsTold_18 ?_
      refine lv_aload_n hx hb dX3_isAsTold_21 rfl (lv_at hl 0 rfl) ?_
      refine gX3 X hP10 0 (v := .ref (g.2.2 14)) rfl (by decide) rfl wd_240 dX3_isAsTold_22 ?_
      refine gX2 X hP10 (⟨rfl, by decide⟩ : isE 14) 9 (v := .int (hh7 14 9)) rfl (by decide) rfl wd_124 dX3_isAsTold_25 ?_
      obtain ⟨x14, hh15, hg21, hf20⟩ := bd_some hf12
      refine x_ci (x_runV (As := [.int (hh7 14 9)]) (rest := []) X hP10 hS11 14 (by decide) (cl_E (⟨rfl, by decide⟩ : isE 14)) rfl (tX2_thicknessOver l X.2.2.2.2.2.2.1 (⟨rfl, by decide⟩ : isE 14) hg21) mi_X3_80 rfl hl.1 rfl (Nat.le_of_ble_eq_true rfl) dX3_isAsTold_28 ⟨Nat.le_of_ble_eq_true rfl, Nat.le_of_ble_eq_true rfl⟩ ⟨Nat.zero_le _, Nat.zero_le _⟩) hS11 (fun H16 lc17 hP18 hS19 => ?_)
      clear hf12 hP10 hS11 hg21
      refine lv_aload_n hx hb dX3_isAsTold_31 rfl (lv_at hl 0 rfl) ?_
      refine gX3 X hP18 4 (v := .ref (g.2.2 227)) rfl (by decide) rfl wd_244 dX3_isAsTold_32 ?_
      refine lv_iload_n hx hb dX3_isAsTold_35 rfl (lv_at hl 1 rfl) ?_
      obtain ⟨hc22, hf23⟩ := chk_some hf20
      refine x_ildC X hP18 227 rfl hc22 dX3_isAsTold_36 ?_
      refine lv_icmp_eq (tgt := 42) hx hb dX3_isAsTold_37 (by decide) (fun c24 => ?_) (fun c24 => ?_)
      · have hf25 := if_at_t c24 hf23
        clear hf23
        obtain ⟨x26, ex26⟩ : ∃ q : Int32, q = v1 + (1 : Int32) := ⟨_, rfl⟩
        have hf27 := lk_at ex26 hf25
        clear hf25
        refine lv_iinc (v := x26) (lv' := [(1, .int x26), (0, .ref (g.2.2 210))]) hx hb dX3_isAsTold_42 hl (k := 1) rfl (by rw [ex26]; rfl) (by decide) rfl (fun ls28 hl29 => ?_)
        clear hl
        refine lv_goto (tgt := 2) hx hb dX3_isAsTold_45 (by decide) ?_
        exact ih x26 hh15  _ _ _ hf27 hP18 hS19 (lv_sub hl29 [1, 0] rfl)
      · have hf30 := if_at_f c24 hf23
        clear hf23
        refine lv_iconst (v := 0) hx hb dX3_isAsTold_40 (by decide) ?_
        obtain ⟨rfl, rfl⟩ := ret_inj hf30
        exact x_zret X hr hlocks rfl hP18 hS19 dX3_isAsTold_41
set_option maxRecDepth 100000 in
set_option maxHeartbeats 4000000 in
theorem tX3_isAsTold (l : Launch) {g : Gx} (hI : InjG g) {h k h1 : Hp}  {r : Int32}   (hf : fX3_isAsTold h = some (r, h1)) : CI l yX3_isAsTold cX3_isAsTold 2 (some .boolean) 4 g [.ref (g.2.2 210)] h k h1 k r := by
  refine Met.ofW (cc := cX3_isAsTold) (maxL := 2) (ret := (some .boolean)) (by decide) rfl ?_
  intro p en s m args below meth c s₁ B hml hv
  obtain ⟨rfl, hSK, hSH, hP⟩ := hv
  have X : Cx p s m _ c cX3_isAsTold 2 RX3 g := ⟨B.exec, B.bytes, hml, findClass_of_methodNamed B.named, fun w hw => atoms_spec (ws := wsy yX3_isAsTold cX3_isAsTold 2 (some .boolean)) B.pre w (List.mem_cons_of_mem _ hw), hSK, hI, hSH⟩
  have hr := B.returns
  have hlocks := B.notSynchronized
  have hx := X.1
  have hb := X.2.1
  have hS : va_S (inA g) s.heap s.heap [] := va_S.rf
  clear hSK hSH hml B
  have hl := lv_entry ([.ref (g.2.2 210)]) (n := 2) (Nat.le_of_ble_eq_true rfl)
  rw [lg_entry_eq]
  generalize (lg_sl ([.ref (g.2.2 210)]) ++ List.replicate (2 - (lg_sl ([.ref (g.2.2 210)])).length) Slot.unset).toArray = ls at hl ⊢
  have hl : lv_has ls 2 [(0, .ref (g.2.2 210))] := hl
  generalize ([.ref (g.2.2 210)] : List Value).toArray = args at X ⊢
  show W p l en (rmD 4) s m args below meth c s.heap [] 0 0 (MQ below (QI g h1 k r) args s 0 0 (inA g)) (F0 m 0 ls [])
  unfold fX3_isAsTold at hf
  refine lv_iconst (v := 0) hx hb dX3_isAsTold_0 (by decide) ?_
  refine lv_istore_n (lv' := [(1, .int (0 : Int32)), (0, .ref (g.2.2 210))]) hx hb dX3_isAsTold_1 rfl hl (by decide) rfl (fun ls1 hl2 => ?_)
  clear hl
  refine wX3_isAsTold_L2 X hr hlocks   4096 (0 : Int32) h _ _ _  hf hP hS (lv_sub hl2 [1, 0] rfl)
set_option maxRecDepth 100000 in
set_option maxHeartbeats 4000000 in
theorem wX3_fitting_L31 {p : Program} {l : Launch} {en : Env} {s : State} {m : MethodId} {args : Array Value} {below : List Frame} {meth : Method} {c : Code} {g : Gx} (X : Cx p s m args c cX3_fitting 8 RX3 g) (hr : meth.sig.returnType = (some .int)) (hlocks : meth.locks = false) {k h1 : Hp} {r : Int32} {v1 : Nat} {v2 : Int32} {v3 : Int32} {v5 : Int32} (hv1 : isE v1) 
     :
    ∀ (n : Nat) (v6 : Int32) (v7 : Int32) (h : Hp) (H : Heap) (locs : List Loc) (ls : Array Slot), fX3_fitting_L31 n v1 v2 v3 v5 v6 v7 h = some (r, h1) → va_P g.1 vwCl (WW g h k) H → va_S (inA g) s.heap H locs → lv_has ls 8 [(0, .ref (g.2.2 210)), (1, .ref (g.2.2 v1)), (2, .int v2), (3, .int v3), (5, .int v5), (6, .int v6), (7, .int v7)] → W p l en (rmD 5) s m args below meth c H locs 0 0 (MQ below (QI g h1 k r) args s 0 0 (inA g)) (F0 m 31 ls []) := by
  have hx := X.1
  have hb := X.2.1
  intro n
  induction n with
  | zero => intro v6 v7 h H locs ls  hf; simp only [fX3_fitting_L31, reduceCtorEq] at hf
  | succ n ih =>
    intro v6 v7 h H locs ls  hf hP hS hl
    rw [fX3_fitting_L31] at hf
    refine lv_iload hx hb dX3_fitting_31 (lv_at hl 6 rfl) ?_
    refine lv_iload hx hb dX3_fitting_33 (lv_at hl 4 rfl) ?_
    refine lv_icmp_gt (tgt := 80) hx hb dX3_fitting_35 (by decide) (fun c26 => ?_) (fun c26 => ?_)
    · have hf27 := if_at_t c26 hf
      clear hf
      refine lv_iload hx hb dX3_fitting_80 (lv_at hl 5 rfl) ?_
      obtain ⟨rfl, rfl⟩ := ret_inj hf27
      exact x_iret X hr hlocks hP hS dX3_fitting_82
    · have hf28 := if_at_f c26 hf
      clear hf
      refine lv_aload_n hx hb dX3_fitting_38 rfl (lv_at hl 0 rfl) ?_
      refine gX3 X hP 0 (v := .ref (g.2.2 14)) rfl (by decide) rfl wd_240 dX3_fitting_39 ?_
      refine lv_aload_n hx hb dX3_fitting_42 rfl (lv_at hl 1 rfl) ?_
      obtain ⟨⟨⟩, hh30, hg36, hf35⟩ := bd_some hf28
      refine x_cv (x_runV (As := [.ref (g.2.2 v1)]) (rest := []) X hP hS 14 (by decide) (cl_E (⟨rfl, by decide⟩ : isE 14)) rfl (tX2_become l X.2.2.2.2.2.2.1 (⟨rfl, by decide⟩ : isE 14) hv1 hg36) mi_X3_33 rfl hl.1 rfl (Nat.le_of_ble_eq_true rfl) dX3_fitting_43 ⟨Nat.le_of_ble_eq_true rfl, Nat.le_of_ble_eq_true rfl⟩ ⟨Nat.zero_le _, Nat.zero_le _⟩) hS (fun H31 lc32 hP33 hS34 => ?_)
      clear hf28 hP hS hg36
      refine lv_aload_n hx hb dX3_fitting_46 rfl (lv_at hl 0 rfl) ?_
      refine lv_iload_n hx hb dX3_fitting_47 rfl (lv_at hl 2 rfl) ?_
      refine lv_iload_n hx hb dX3_fitting_48 rfl (lv_at hl 3 rfl) ?_
      refine lv_iload hx hb dX3_fitting_49 (lv_at hl 6 rfl) ?_
      obtain ⟨⟨⟩, hh38, hg44, hf43⟩ := bd_some hf35
      refine x_cv (x_runV (As := [.int v2, .int v3, .int v7]) (rest := []) X hP33 hS34 210 (by decide) cl_Fo rfl (tX3_suppose l X.2.2.2.2.2.2.1  hg44) mi_X3_154 rfl hl.1 rfl (Nat.le_of_ble_eq_true rfl) dX3_fitting_51 ⟨Nat.le_of_ble_eq_true rfl, Nat.le_of_ble_eq_true rfl⟩ ⟨Nat.zero_le _, Nat.zero_le _⟩) hS34 (fun H39 lc40 hP41 hS42 => ?_)
      clear hf35 hP33 hS34 hg44
      refine lv_iload hx hb dX3_fitting_54 (lv_at hl 5 rfl) ?_
      refine lv_aload_n hx hb dX3_fitting_56 rfl (lv_at hl 0 rfl) ?_
      obtain ⟨x45, hh46, hg52, hf51⟩ := bd_some hf43
      refine x_ci (x_runV (As := []) (rest := [.int v6]) X hP41 hS42 210 (by decide) cl_Fo rfl (tX3_isAsTold l X.2.2.2.2.2.2.1  hg52) mi_X3_158 rfl hl.1 rfl (Nat.le_of_ble_eq_true rfl) dX3_fitting_57 ⟨Nat.le_of_ble_eq_true rfl, Nat.le_of_ble_eq_true rfl⟩ ⟨Nat.zero_le _, Nat.zero_le _⟩) hS42 (fun H47 lc48 hP49 hS50 => ?_)
      clear hf43 hP41 hS42 hg52
      obtain ⟨J71_53, eJ71_53, hf70⟩ := jp_at hf51
      clear hf51
      have hJ71_53 : ∀ (J71_53s0 : Int32) (hh54 : Hp) (H55 : Heap) (lc56 : List Loc) (ls57 : Array Slot), J71_53 J71_53s0 hh54 = some (r, h1) → va_P g.1 vwCl (WW g hh54 k) H55 → va_S (inA g) s.heap H55 lc56 → lv_has ls57 8 [(0, .ref (g.2.2 210)), (1, .ref (g.2.2 v1)), (2, .int v2), (3, .int v3), (5, .int v5), (7, .int v7)] → W p l en (rmD 5) s m args below meth c H55 lc56 0 0 (MQ below (QI g h1 k r) args s 0 0 (inA g)) (F0 m 71 ls57 [.int J71_53s0, .int v6]) := by
        intro J71_53s0 hh54 H55 lc56 ls57 hf61 hP58 hS59 hl60
        clear hf70 hP49 hS50 hl
        subst eJ71_53
        refine lv_ior hx hb dX3_fitting_71 ?_
        refine lv_topi (fun x62 ex62 => ?_)
        have hf63 := lk_at ex62 hf61
        clear hf61
        refine lv_istore (lv' := [(6, .int x62), (0, .ref (g.2.2 210)), (1, .ref (g.2.2 v1)), (2, .int v2), (3, .int v3), (5, .int v5), (7, .int v7)]) hx hb dX3_fitting_72 hl60 (by decide) rfl (fun ls64 hl65 => ?_)
        clear hl60
        obtain ⟨x66, ex66⟩ : ∃ q : Int32, q = v7 + (1 : Int32) := ⟨_, rfl⟩
        have hf67 := lk_at ex66 hf63
        clear hf63
        refine lv_iinc (v := x66) (lv' := [(7, .int x66), (6, .int x62), (0, .ref (g.2.2 210)), (1, .ref (g.2.2 v1)), (2, .int v2), (3, .int v3), (5, .int v5)]) hx hb dX3_fitting_74 hl65 (k := 6) rfl (by rw [ex66]; rfl) (by decide) rfl (fun ls68 hl69 => ?_)
        clear hl65
        refine lv_goto (tgt := 31) hx hb dX3_fitting_77 (by decide) ?_
        exact ih x62 x66 hh54  _ _ _ hf67 hP58 hS59 (lv_sub hl69 [2, 3, 4, 5, 6, 1, 0] rfl)
      clear eJ71_53
      refine lv_if_eq (tgt := 70) hx hb dX3_fitting_60 (by decide) (fun c71 => ?_) (fun c71 => ?_)
      · have hf72 := if_at_t c71 hf70
        clear hf70
        refine lv_iconst (v := 0) hx hb dX3_fitting_70 (by decide) ?_
        exact hJ71_53 (0 : Int32) hh46  _ _ _ hf72 hP49 hS50 (lv_sub hl [0, 1, 2, 3, 4, 6] rfl)
      · have hf73 := if_at_f c71 hf70
        clear hf70
        refine lv_iconst (v := 1) hx hb dX3_fitting_63 (by decide) ?_
        refine lv_iload hx hb dX3_fitting_64 (lv_at hl 6 rfl) ?_
        refine x_ishl X dX3_fitting_66 ?_
        refine lv_goto (tgt := 71) hx hb dX3_fitting_67 (by decide) ?_
        exact hJ71_53 (shlI (1 : Int32) v7) hh46  _ _ _ hf73 hP49 hS50 (lv_sub hl [0, 1, 2, 3, 4, 6] rfl)
set_option maxRecDepth 100000 in
set_option maxHeartbeats 4000000 in
theorem tX3_fitting (l : Launch) {g : Gx} (hI : InjG g) {h k h1 : Hp} {a1 : Nat} {a2 : Int32} {a3 : Int32} {r : Int32}  (ha1 : isE a1) (hf : fX3_fitting a1 a2 a3 h = some (r, h1)) : CI l yX3_fitting cX3_fitting 8 (some .int) 5 g [.ref (g.2.2 210), .ref (g.2.2 a1), .int a2, .int a3] h k h1 k r := by
  refine Met.ofW (cc := cX3_fitting) (maxL := 8) (ret := (some .int)) (by decide) rfl ?_
  intro p en s m args below meth c s₁ B hml hv
  obtain ⟨rfl, hSK, hSH, hP⟩ := hv
  have X : Cx p s m _ c cX3_fitting 8 RX3 g := ⟨B.exec, B.bytes, hml, findClass_of_methodNamed B.named, fun w hw => atoms_spec (ws := wsy yX3_fitting cX3_fitting 8 (some .int)) B.pre w (List.mem_cons_of_mem _ hw), hSK, hI, hSH⟩
  have hr := B.returns
  have hlocks := B.notSynchronized
  have hx := X.1
  have hb := X.2.1
  have hS : va_S (inA g) s.heap s.heap [] := va_S.rf
  clear hSK hSH hml B
  have hl := lv_entry ([.ref (g.2.2 210), .ref (g.2.2 a1), .int a2, .int a3]) (n := 8) (Nat.le_of_ble_eq_true rfl)
  rw [lg_entry_eq]
  generalize (lg_sl ([.ref (g.2.2 210), .ref (g.2.2 a1), .int a2, .int a3]) ++ List.replicate (8 - (lg_sl ([.ref (g.2.2 210), .ref (g.2.2 a1), .int a2, .int a3])).length) Slot.unset).toArray = ls at hl ⊢
  have hl : lv_has ls 8 [(0, .ref (g.2.2 210)), (1, .ref (g.2.2 a1)), (2, .int a2), (3, .int a3)] := hl
  generalize ([.ref (g.2.2 210), .ref (g.2.2 a1), .int a2, .int a3] : List Value).toArray = args at X ⊢
  show W p l en (rmD 5) s m args below meth c s.heap [] 0 0 (MQ below (QI g h1 k r) args s 0 0 (inA g)) (F0 m 0 ls [])
  unfold fX3_fitting at hf
  refine lv_iload_n hx hb dX3_fitting_0 rfl (lv_at hl 2 rfl) ?_
  refine lv_iconst (v := 1) hx hb dX3_fitting_1 (by decide) ?_
  obtain ⟨J15_1, eJ15_1, hf74⟩ := jp_at hf
  clear hf
  have hJ15_1 : ∀ (J15_1s0 : Int32) (hh2 : Hp) (H3 : Heap) (lc4 : List Loc) (ls5 : Array Slot), J15_1 J15_1s0 hh2 = some (r, h1) → va_P g.1 vwCl (WW g hh2 k) H3 → va_S (inA g) s.heap H3 lc4 → lv_has ls5 8 [(0, .ref (g.2.2 210)), (1, .ref (g.2.2 a1)), (2, .int a2), (3, .int a3)] → W p l en (rmD 5) s m args below meth c H3 lc4 0 0 (MQ below (QI g h1 k r) args s 0 0 (inA g)) (F0 m 15 ls5 [.int J15_1s0]) := by
    intro J15_1s0 hh2 H3 lc4 ls5 hf9 hP6 hS7 hl8
    clear hf74 hP hS hl
    subst eJ15_1
    refine lv_istore (lv' := [(4, .int J15_1s0), (0, .ref (g.2.2 210)), (1, .ref (g.2.2 a1)), (2, .int a2), (3, .int a3)]) hx hb dX3_fitting_15 hl8 (by decide) rfl (fun ls10 hl11 => ?_)
    clear hl8
    refine lv_aload_n hx hb dX3_fitting_17 rfl (lv_at hl11 2 rfl) ?_
    refine lv_iload_n hx hb dX3_fitting_18 rfl (lv_at hl11 3 rfl) ?_
    obtain ⟨x12, hh13, hg19, hf18⟩ := bd_some hf9
    refine x_ci (x_runS (As := [.ref (g.2.2 a1), .int a2]) (rest := []) X hP6 hS7 (tX3_mostOf l X.2.2.2.2.2.2.1 ha1 hg19) mi_X3_150 rfl hl11.1 rfl (Nat.le_of_ble_eq_true rfl) dX3_fitting_19 ⟨Nat.le_of_ble_eq_true rfl, Nat.le_of_ble_eq_true rfl⟩ ⟨Nat.zero_le _, Nat.zero_le _⟩) hS7 (fun H14 lc15 hP16 hS17 => ?_)
    clear hf9 hP6 hS7 hg19
    refine lv_istore (lv' := [(5, .int x12), (4, .int J15_1s0), (0, .ref (g.2.2 210)), (1, .ref (g.2.2 a1)), (2, .int a2), (3, .int a3)]) hx hb dX3_fitting_22 hl11 (by decide) rfl (fun ls20 hl21 => ?_)
    clear hl11
    refine lv_iconst (v := 0) hx hb dX3_fitting_24 (by decide) ?_
    refine lv_istore (lv' := [(6, .int (0 : Int32)), (5, .int x12), (4, .int J15_1s0), (0, .ref (g.2.2 210)), (1, .ref (g.2.2 a1)), (2, .int a2), (3, .int a3)]) hx hb dX3_fitting_25 hl21 (by decide) rfl (fun ls22 hl23 => ?_)
    clear hl21
    refine lv_iload hx hb dX3_fitting_27 (lv_at hl23 2 rfl) ?_
    refine lv_istore (lv' := [(7, .int J15_1s0), (6, .int (0 : Int32)), (5, .int x12), (4, .int J15_1s0), (0, .ref (g.2.2 210)), (1, .ref (g.2.2 a1)), (2, .int a2), (3, .int a3)]) hx hb dX3_fitting_29 hl23 (by decide) rfl (fun ls24 hl25 => ?_)
    clear hl23
    refine wX3_fitting_L31 X hr hlocks ha1  4096 (0 : Int32) J15_1s0 hh13 _ _ _  hf18 hP16 hS17 (lv_sub hl25 [4, 5, 6, 7, 2, 1, 0] rfl)
  clear eJ15_1
  obtain ⟨J10_75, eJ10_75, hf84⟩ := jp_at hf74
  clear hf74
  have hJ10_75 : ∀  (hh76 : Hp) (H77 : Heap) (lc78 : List Loc) (ls79 : Array Slot), J10_75  hh76 = some (r, h1) → va_P g.1 vwCl (WW g hh76 k) H77 → va_S (inA g) s.heap H77 lc78 → lv_has ls79 8 [(0, .ref (g.2.2 210)), (1, .ref (g.2.2 a1)), (2, .int a2), (3, .int a3)] → W p l en (rmD 5) s m args below meth c H77 lc78 0 0 (MQ below (QI g h1 k r) args s 0 0 (inA g)) (F0 m 10 ls79 []) := by
    intro  hh76 H77 lc78 ls79 hf83 hP80 hS81 hl82
    clear hf84 hP hS hl
    subst eJ10_75
    refine lv_iconst (v := 0) hx hb dX3_fitting_10 (by decide) ?_
    refine lv_goto (tgt := 15) hx hb dX3_fitting_11 (by decide) ?_
    exact hJ15_1 (0 : Int32) hh76  _ _ _ hf83 hP80 hS81 (lv_sub hl82 [0, 1, 2, 3] rfl)
  clear eJ10_75
  refine lv_icmp_eq (tgt := 10) hx hb dX3_fitting_2 (by decide) (fun c85 => ?_) (fun c85 => ?_)
  · have hf86 := if_at_t c85 hf84
    clear hf84
    exact hJ10_75 h  _ _ _ hf86 hP hS (lv_sub hl [0, 1, 2, 3] rfl)
  · have hf87 := if_at_f c85 hf84
    clear hf84
    refine lv_iload_n hx hb dX3_fitting_5 rfl (lv_at hl 2 rfl) ?_
    refine lv_iconst (v := 3) hx hb dX3_fitting_6 (by decide) ?_
    refine lv_icmp_ne (tgt := 14) hx hb dX3_fitting_7 (by decide) (fun c88 => ?_) (fun c88 => ?_)
    · have hf89 := if_at_f c88 hf87
      clear hf87
      refine lv_iconst (v := 1) hx hb dX3_fitting_14 (by decide) ?_
      exact hJ15_1 (1 : Int32) h  _ _ _ hf89 hP hS (lv_sub hl [0, 1, 2, 3] rfl)
    · have hf90 := if_at_t c88 hf87
      clear hf87
      exact hJ10_75 h  _ _ _ hf90 hP hS (lv_sub hl [0, 1, 2, 3] rfl)
set_option maxRecDepth 100000 in
set_option maxHeartbeats 4000000 in
theorem tX6_allThatFits (l : Launch) {g : Gx} (hI : InjG g) {h k h1 : Hp} {a1 : Int32} {a2 : Int32} {a3 : Int32} {a4 : Int32} {a5 : Int32} {r : Int32}   (hf : fX6_allThatFits a1 a2 a3 a4 a5 h = some (r, h1)) : CI l yX6_allThatFits cX6_allThatFits 7 (some .int) 6 g [.ref (g.2.2 203), .int a1, .int a2, .int a3, .int a4, .int a5] h k h1 k r := by
  refine Met.ofW (cc := cX6_allThatFits) (maxL := 7) (ret := (some .int)) (by decide) rfl ?_
  intro p en s m args below meth c s₁ B hml hv
  obtain ⟨rfl, hSK, hSH, hP⟩ := hv
  have X : Cx p s m _ c cX6_allThatFits 7 RX6 g := ⟨B.exec, B.bytes, hml, findClass_of_methodNamed B.named, fun w hw => atoms_spec (ws := wsy yX6_allThatFits cX6_allThatFits 7 (some .int)) B.pre w (List.mem_cons_of_mem _ hw), hSK, hI, hSH⟩
  have hr := B.returns
  have hlocks := B.notSynchronized
  have hx := X.1
  have hb := X.2.1
  have hS : va_S (inA g) s.heap s.heap [] := va_S.rf
  clear hSK hSH hml B
  have hl := lv_entry ([.ref (g.2.2 203), .int a1, .int a2, .int a3, .int a4, .int a5]) (n := 7) (Nat.le_of_ble_eq_true rfl)
  rw [lg_entry_eq]
  generalize (lg_sl ([.ref (g.2.2 203), .int a1, .int a2, .int a3, .int a4, .int a5]) ++ List.replicate (7 - (lg_sl ([.ref (g.2.2 203), .int a1, .int a2, .int a3, .int a4, .int a5])).length) Slot.unset).toArray = ls at hl ⊢
  have hl : lv_has ls 7 [(0, .ref (g.2.2 203)), (1, .int a1), (2, .int a2), (3, .int a3), (4, .int a4), (5, .int a5)] := hl
  generalize ([.ref (g.2.2 203), .int a1, .int a2, .int a3, .int a4, .int a5] : List Value).toArray = args at X ⊢
  show W p l en (rmD 6) s m args below meth c s.heap [] 0 0 (MQ below (QI g h1 k r) args s 0 0 (inA g)) (F0 m 0 ls [])
  unfold fX6_allThatFits at hf
  refine lv_aload_n hx hb dX6_allThatFits_0 rfl (lv_at hl 0 rfl) ?_
  refine gX6 X hP 0 (v := .ref (g.2.2 204)) rfl (by decide) rfl wd_297 dX6_allThatFits_1 ?_
  refine lv_iload_n hx hb dX6_allThatFits_4 rfl (lv_at hl 3 rfl) ?_
  obtain ⟨hc1, hf2⟩ := chk_some hf
  refine x_rows X hP hc1 dX6_allThatFits_5 ?_
  refine lv_astore (lv' := [(6, .ref (g.2.2 (230 + 2 * a3.toNatClampNeg))), (0, .ref (g.2.2 203)), (1, .int a1), (2, .int a2), (3, .int a3), (4, .int a4), (5, .int a5)]) hx hb dX6_allThatFits_6 hl (by decide) rfl (fun ls3 hl4 => ?_)
  clear hl
  refine lv_aload hx hb dX6_allThatFits_8 (lv_at hl4 0 rfl) ?_
  refine gX5 X hP (isR_row hc1) 1 (v := .int (h (230 + 2 * a3.toNatClampNeg) 1)) rfl (by decide) rfl wd_283 dX6_allThatFits_10 ?_
  refine lv_if_eq (tgt := 22) hx hb dX6_allThatFits_13 (by decide) (fun c5 => ?_) (fun c5 => ?_)
  · have hf6 := if_at_t c5 hf2
    clear hf2
    refine lv_aload hx hb dX6_allThatFits_22 (lv_at hl4 0 rfl) ?_
    refine lv_iload hx hb dX6_allThatFits_24 (lv_at hl4 5 rfl) ?_
    refine lv_iload hx hb dX6_allThatFits_26 (lv_at hl4 6 rfl) ?_
    obtain ⟨x7, hh8, hg14, hf13⟩ := bd_some hf6
    refine x_ci (x_runV (As := [.int a4, .int a5]) (rest := []) X hP hS (230 + 2 * a3.toNatClampNeg) (isR_lt (isR_row hc1)) (cl_R (isR_row hc1)) rfl (tX5_holds l X.2.2.2.2.2.2.1 (isR_row hc1) hg14) mi_X6_79 rfl hl4.1 rfl (Nat.le_of_ble_eq_true rfl) dX6_allThatFits_28 ⟨Nat.le_of_ble_eq_true rfl, Nat.le_of_ble_eq_true rfl⟩ ⟨Nat.zero_le _, Nat.zero_le _⟩) hS (fun H9 lc10 hP11 hS12 => ?_)
    clear hf6 hP hS hg14
    refine lv_if_ne (tgt := 40) hx hb dX6_allThatFits_31 (by decide) (fun c15 => ?_) (fun c15 => ?_)
    · have hf16 := if_at_f c15 hf13
      clear hf13
      refine lv_aload_n hx hb dX6_allThatFits_40 rfl (lv_at hl4 1 rfl) ?_
      refine gX6 X hP11 5 (v := .ref (g.2.2 210)) rfl (by decide) rfl wd_302 dX6_allThatFits_41 ?_
      refine lv_aload hx hb dX6_allThatFits_44 (lv_at hl4 0 rfl) ?_
      refine lv_iload hx hb dX6_allThatFits_46 (lv_at hl4 5 rfl) ?_
      refine lv_iload hx hb dX6_allThatFits_48 (lv_at hl4 6 rfl) ?_
      obtain ⟨⟨⟩, hh18, hg24, hf23⟩ := bd_some hf16
      refine x_cv (x_runV (As := [.ref (g.2.2 (230 + 2 * a3.toNatClampNeg)), .int a4, .int a5]) (rest := []) X hP11 hS12 210 (by decide) cl_Fo rfl (tX3_hear l X.2.2.2.2.2.2.1 (isR_row hc1) hg24) mi_X6_313 rfl hl4.1 rfl (Nat.le_of_ble_eq_true rfl) dX6_allThatFits_50 ⟨Nat.le_of_ble_eq_true rfl, Nat.le_of_ble_eq_true rfl⟩ ⟨Nat.zero_le _, Nat.zero_le _⟩) hS12 (fun H19 lc20 hP21 hS22 => ?_)
      clear hf16 hP11 hS12 hg24
      refine lv_aload_n hx hb dX6_allThatFits_53 rfl (lv_at hl4 1 rfl) ?_
      refine lv_aload_n hx hb dX6_allThatFits_54 rfl (lv_at hl4 1 rfl) ?_
      refine gX6 X hP21 5 (v := .ref (g.2.2 210)) rfl (by decide) rfl wd_302 dX6_allThatFits_55 ?_
      refine lv_aload_n hx hb dX6_allThatFits_58 rfl (lv_at hl4 1 rfl) ?_
      refine gX6 X hP21 2 (v := .ref (g.2.2 0)) rfl (by decide) rfl wd_299 dX6_allThatFits_59 ?_
      refine lv_iload_n hx hb dX6_allThatFits_62 rfl (lv_at hl4 2 rfl) ?_
      refine lv_iload_n hx hb dX6_allThatFits_63 rfl (lv_at hl4 3 rfl) ?_
      obtain ⟨x25, hh26, hg32, hf31⟩ := bd_some hf23
      refine x_ci (x_runV (As := [.ref (g.2.2 0), .int a1, .int a2]) (rest := [.ref (g.2.2 203)]) X hP21 hS22 210 (by decide) cl_Fo rfl (tX3_fitting l X.2.2.2.2.2.2.1 (⟨rfl, by decide⟩ : isE 0) hg32) mi_X6_317 rfl hl4.1 rfl (Nat.le_of_ble_eq_true rfl) dX6_allThatFits_64 ⟨Nat.le_of_ble_eq_true rfl, Nat.le_of_ble_eq_true rfl⟩ ⟨Nat.zero_le _, Nat.zero_le _⟩) hS22 (fun H27 lc28 hP29 hS30 => ?_)
      clear hf23 hP21 hS22 hg32
      obtain ⟨x33, hh34, hg40, hf39⟩ := bd_some hf31
      refine x_ci (x_runV (As := [.int x25]) (rest := []) X hP29 hS30 203 (by decide) cl_F rfl (tX6_well l X.2.2.2.2.2.2.1  hg40) mi_X6_72 rfl hl4.1 rfl (Nat.le_of_ble_eq_true rfl) dX6_allThatFits_67 ⟨Nat.le_of_ble_eq_true rfl, Nat.le_of_ble_eq_true rfl⟩ ⟨Nat.zero_le _, Nat.zero_le _⟩) hS30 (fun H35 lc36 hP37 hS38 => ?_)
      clear hf31 hP29 hS30 hg40
      obtain ⟨rfl, rfl⟩ := ret_inj hf39
      exact x_iret X hr hlocks hP37 hS38 dX6_allThatFits_70
    · have hf41 := if_at_t c15 hf13
      clear hf13
      refine lv_aload_n hx hb dX6_allThatFits_34 rfl (lv_at hl4 1 rfl) ?_
      refine lv_iconst (v := 2) hx hb dX6_allThatFits_35 (by decide) ?_
      obtain ⟨x42, hh43, hg49, hf48⟩ := bd_some hf41
      refine x_ci (x_runV (As := [.int (2 : Int32)]) (rest := []) X hP11 hS12 203 (by decide) cl_F rfl (tX6_found l X.2.2.2.2.2.2.1  hg49) mi_X6_64 rfl hl4.1 rfl (Nat.le_of_ble_eq_true rfl) dX6_allThatFits_36 ⟨Nat.le_of_ble_eq_true rfl, Nat.le_of_ble_eq_true rfl⟩ ⟨Nat.zero_le _, Nat.zero_le _⟩) hS12 (fun H44 lc45 hP46 hS47 => ?_)
      clear hf41 hP11 hS12 hg49
      obtain ⟨rfl, rfl⟩ := ret_inj hf48
      exact x_iret X hr hlocks hP46 hS47 dX6_allThatFits_39
  · have hf50 := if_at_f c5 hf2
    clear hf2
    refine lv_aload_n hx hb dX6_allThatFits_16 rfl (lv_at hl4 1 rfl) ?_
    refine lv_iconst (v := 1) hx hb dX6_allThatFits_17 (by decide) ?_
    obtain ⟨x51, hh52, hg58, hf57⟩ := bd_some hf50
    refine x_ci (x_runV (As := [.int (1 : Int32)]) (rest := []) X hP hS 203 (by decide) cl_F rfl (tX6_found l X.2.2.2.2.2.2.1  hg58) mi_X6_64 rfl hl4.1 rfl (Nat.le_of_ble_eq_true rfl) dX6_allThatFits_18 ⟨Nat.le_of_ble_eq_true rfl, Nat.le_of_ble_eq_true rfl⟩ ⟨Nat.zero_le _, Nat.zero_le _⟩) hS (fun H53 lc54 hP55 hS56 => ?_)
    clear hf50 hP hS hg58
    obtain ⟨rfl, rfl⟩ := ret_inj hf57
    exact x_iret X hr hlocks hP55 hS56 dX6_allThatFits_21
set_option maxRecDepth 100000 in
set_option maxHeartbeats 4000000 in
theorem tX6_who (l : Launch) {g : Gx} (hI : InjG g) {h k h1 : Hp} {a1 : Int32} {a2 : Int32} {a3 : Int32} {a4 : Int32} {a5 : Int32} {r : Int32}   (hf : fX6_who a1 a2 a3 a4 a5 h = some (r, h1)) : CI l yX6_who cX6_who 6 (some .int) 7 g [.ref (g.2.2 203), .int a1, .int a2, .int a3, .int a4, .int a5] h k h1 k r := by
  refine Met.ofW (cc := cX6_who) (maxL := 6) (ret := (some .int)) (by decide) rfl ?_
  intro p en s m args below meth c s₁ B hml hv
  obtain ⟨rfl, hSK, hSH, hP⟩ := hv
  have X : Cx p s m _ c cX6_who 6 RX6 g := ⟨B.exec, B.bytes, hml, findClass_of_methodNamed B.named, fun w hw => atoms_spec (ws := wsy yX6_who cX6_who 6 (some .int)) B.pre w (List.mem_cons_of_mem _ hw), hSK, hI, hSH⟩
  have hr := B.returns
  have hlocks := B.notSynchronized
  have hx := X.1
  have hb := X.2.1
  have hS : va_S (inA g) s.heap s.heap [] := va_S.rf
  clear hSK hSH hml B
  have hl := lv_entry ([.ref (g.2.2 203), .int a1, .int a2, .int a3, .int a4, .int a5]) (n := 6) (Nat.le_of_ble_eq_true rfl)
  rw [lg_entry_eq]
  generalize (lg_sl ([.ref (g.2.2 203), .int a1, .int a2, .int a3, .int a4, .int a5]) ++ List.replicate (6 - (lg_sl ([.ref (g.2.2 203), .int a1, .int a2, .int a3, .int a4, .int a5])).length) Slot.unset).toArray = ls at hl ⊢
  have hl : lv_has ls 6 [(0, .ref (g.2.2 203)), (1, .int a1), (2, .int a2), (3, .int a3), (4, .int a4), (5, .int a5)] := hl
  generalize ([.ref (g.2.2 203), .int a1, .int a2, .int a3, .int a4, .int a5] : List Value).toArray = args at X ⊢
  show W p l en (rmD 7) s m args below meth c s.heap [] 0 0 (MQ below (QI g h1 k r) args s 0 0 (inA g)) (F0 m 0 ls [])
  unfold fX6_who at hf
  refine lv_aload_n hx hb dX6_who_0 rfl (lv_at hl 0 rfl) ?_
  refine gX6 X hP 2 (v := .ref (g.2.2 0)) rfl (by decide) rfl wd_299 dX6_who_1 ?_
  refine lv_iload_n hx hb dX6_who_4 rfl (lv_at hl 1 rfl) ?_
  obtain ⟨x1, hh2, hg8, hf7⟩ := bd_some hf
  refine x_ci (x_runV (As := [.int a1]) (rest := []) X hP hS 0 (by decide) (cl_E (⟨rfl, by decide⟩ : isE 0)) rfl (tX2_isSheet l X.2.2.2.2.2.2.1 (⟨rfl, by decide⟩ : isE 0) hg8) mi_X6_175 rfl hl.1 rfl (Nat.le_of_ble_eq_true rfl) dX6_who_5 ⟨Nat.le_of_ble_eq_true rfl, Nat.le_of_ble_eq_true rfl⟩ ⟨Nat.zero_le _, Nat.zero_le _⟩) hS (fun H3 lc4 hP5 hS6 => ?_)
  clear hf hP hS hg8
  refine lv_if_eq (tgt := 38) hx hb dX6_who_8 (by decide) (fun c9 => ?_) (fun c9 => ?_)
  · have hf10 := if_at_t c9 hf7
    clear hf7
    refine lv_ldc (v := -1000001) hx hb X.2.2.2.1 (X.2.2.2.2.1 _ wd_335) dX6_who_38 ?_
    obtain ⟨rfl, rfl⟩ := ret_inj hf10
    exact x_iret X hr hlocks hP5 hS6 dX6_who_40
  · have hf11 := if_at_f c9 hf7
    clear hf7
    refine lv_iload_n hx hb dX6_who_11 rfl (lv_at hl 2 rfl) ?_
    refine lv_iconst (v := 0) hx hb dX6_who_12 (by decide) ?_
    refine lv_iconst (v := 2) hx hb dX6_who_13 (by decide) ?_
    obtain ⟨x12, hh13, hg19, hf18⟩ := bd_some hf11
    refine x_ci (x_runS (As := [.int a2, .int (0 : Int32), .int (2 : Int32)]) (rest := []) X hP5 hS6 (tX6_isWithin l X.2.2.2.2.2.2.1  hg19) mi_X6_59 rfl hl.1 rfl (Nat.le_of_ble_eq_true rfl) dX6_who_14 ⟨Nat.le_of_ble_eq_true rfl, Nat.le_of_ble_eq_true rfl⟩ ⟨Nat.zero_le _, Nat.zero_le _⟩) hS6 (fun H14 lc15 hP16 hS17 => ?_)
    clear hf11 hP5 hS6 hg19
    refine lv_if_eq (tgt := 38) hx hb dX6_who_17 (by decide) (fun c20 => ?_) (fun c20 => ?_)
    · have hf21 := if_at_t c20 hf18
      clear hf18
      refine lv_ldc (v := -1000001) hx hb X.2.2.2.1 (X.2.2.2.2.1 _ wd_335) dX6_who_38 ?_
      obtain ⟨rfl, rfl⟩ := ret_inj hf21
      exact x_iret X hr hlocks hP16 hS17 dX6_who_40
    · have hf22 := if_at_f c20 hf18
      clear hf18
      refine lv_iload_n hx hb dX6_who_20 rfl (lv_at hl 3 rfl) ?_
      obtain ⟨x23, hh24, hg30, hf29⟩ := bd_some hf22
      refine x_ci (x_runS (As := [.int a3]) (rest := []) X hP16 hS17 (tX6_isRow l X.2.2.2.2.2.2.1  hg30) mi_X6_55 rfl hl.1 rfl (Nat.le_of_ble_eq_true rfl) dX6_who_21 ⟨Nat.le_of_ble_eq_true rfl, Nat.le_of_ble_eq_true rfl⟩ ⟨Nat.zero_le _, Nat.zero_le _⟩) hS17 (fun H25 lc26 hP27 hS28 => ?_)
      clear hf22 hP16 hS17 hg30
      refine lv_if_eq (tgt := 38) hx hb dX6_who_24 (by decide) (fun c31 => ?_) (fun c31 => ?_)
      · have hf32 := if_at_t c31 hf29
        clear hf29
        refine lv_ldc (v := -1000001) hx hb X.2.2.2.1 (X.2.2.2.2.1 _ wd_335) dX6_who_38 ?_
        obtain ⟨rfl, rfl⟩ := ret_inj hf32
        exact x_iret X hr hlocks hP27 hS28 dX6_who_40
      · have hf33 := if_at_f c31 hf29
        clear hf29
        refine lv_iload hx hb dX6_who_27 (lv_at hl 5 rfl) ?_
        refine lv_iconst (v := 1) hx hb dX6_who_29 (by decide) ?_
        refine lv_bipush (v := 12) hx hb dX6_who_30 (by decide) ?_
        obtain ⟨x34, hh35, hg41, hf40⟩ := bd_some hf33
        refine x_ci (x_runS (As := [.int a5, .int (1 : Int32), .int (12 : Int32)]) (rest := []) X hP27 hS28 (tX6_isWithin l X.2.2.2.2.2.2.1  hg41) mi_X6_59 rfl hl.1 rfl (Nat.le_of_ble_eq_true rfl) dX6_who_32 ⟨Nat.le_of_ble_eq_true rfl, Nat.le_of_ble_eq_true rfl⟩ ⟨Nat.zero_le _, Nat.zero_le _⟩) hS28 (fun H36 lc37 hP38 hS39 => ?_)
        clear hf33 hP27 hS28 hg41
        refine lv_if_ne (tgt := 41) hx hb dX6_who_35 (by decide) (fun c42 => ?_) (fun c42 => ?_)
        · have hf43 := if_at_f c42 hf40
          clear hf40
          refine lv_aload_n hx hb dX6_who_41 rfl (lv_at hl 0 rfl) ?_
          refine gX6 X hP38 2 (v := .ref (g.2.2 0)) rfl (by decide) rfl wd_299 dX6_who_42 ?_
          refine lv_iload_n hx hb dX6_who_45 rfl (lv_at hl 1 rfl) ?_
          obtain ⟨x44, hh45, hg51, hf50⟩ := bd_some hf43
          refine x_ci (x_runV (As := [.int a1]) (rest := []) X hP38 hS39 0 (by decide) (cl_E (⟨rfl, by decide⟩ : isE 0)) rfl (tX2_isIn l X.2.2.2.2.2.2.1 (⟨rfl, by decide⟩ : isE 0) hg51) mi_X6_178 rfl hl.1 rfl (Nat.le_of_ble_eq_true rfl) dX6_who_46 ⟨Nat.le_of_ble_eq_true rfl, Nat.le_of_ble_eq_true rfl⟩ ⟨Nat.zero_le _, Nat.zero_le _⟩) hS39 (fun H46 lc47 hP48 hS49 => ?_)
          clear hf43 hP38 hS39 hg51
          refine lv_if_ne (tgt := 55) hx hb dX6_who_49 (by decide) (fun c52 => ?_) (fun c52 => ?_)
          · have hf53 := if_at_f c52 hf50
            clear hf50
            refine lv_aload_n hx hb dX6_who_55 rfl (lv_at hl 0 rfl) ?_
            refine lv_iload_n hx hb dX6_who_56 rfl (lv_at hl 2 rfl) ?_
            refine lv_iload_n hx hb dX6_who_57 rfl (lv_at hl 1 rfl) ?_
            refine lv_iload_n hx hb dX6_who_58 rfl (lv_at hl 3 rfl) ?_
            refine lv_iload hx hb dX6_who_59 (lv_at hl 4 rfl) ?_
            refine lv_iload hx hb dX6_who_61 (lv_at hl 5 rfl) ?_
            obtain ⟨x54, hh55, hg61, hf60⟩ := bd_some hf53
            refine x_ci (x_runV (As := [.int a2, .int a1, .int a3, .int a4, .int a5]) (rest := []) X hP48 hS49 203 (by decide) cl_F rfl (tX6_allThatFits l X.2.2.2.2.2.2.1  hg61) mi_X6_270 rfl hl.1 rfl (Nat.le_of_ble_eq_true rfl) dX6_who_63 ⟨Nat.le_of_ble_eq_true rfl, Nat.le_of_ble_eq_true rfl⟩ ⟨Nat.zero_le _, Nat.zero_le _⟩) hS49 (fun H56 lc57 hP58 hS59 => ?_)
            clear hf53 hP48 hS49 hg61
            obtain ⟨rfl, rfl⟩ := ret_inj hf60
            exact x_iret X hr hlocks hP58 hS59 dX6_who_66
          · have hf62 := if_at_t c52 hf50
            clear hf50
            refine lv_ldc (v := -1000002) hx hb X.2.2.2.1 (X.2.2.2.2.1 _ wd_470) dX6_who_52 ?_
            obtain ⟨rfl, rfl⟩ := ret_inj hf62
            exact x_iret X hr hlocks hP48 hS49 dX6_who_54
        · have hf63 := if_at_t c42 hf40
          clear hf40
          refine lv_ldc (v := -1000001) hx hb X.2.2.2.1 (X.2.2.2.2.1 _ wd_335) dX6_who_38 ?_
          obtain ⟨rfl, rfl⟩ := ret_inj hf63
          exact x_iret X hr hlocks hP38 hS39 dX6_who_40
set_option maxRecDepth 100000 in
set_option maxHeartbeats 4000000 in
theorem tX6_gusts (l : Launch) {g : Gx} (hI : InjG g) {h k h1 : Hp} {a1 : Int32} {a2 : Int32} {a3 : Int32} {a4 : Int32} {r : Int32}   (hf : fX6_gusts a1 a2 a3 a4 h = some (r, h1)) : CI l yX6_gusts cX6_gusts 5 (some .int) 7 g [.ref (g.2.2 203), .int a1, .int a2, .int a3, .int a4] h k h1 k r := by
  refine Met.ofW (cc := cX6_gusts) (maxL := 5) (ret := (some .int)) (by decide) rfl ?_
  intro p en s m args below meth c s₁ B hml hv
  obtain ⟨rfl, hSK, hSH, hP⟩ := hv
  have X : Cx p s m _ c cX6_gusts 5 RX6 g := ⟨B.exec, B.bytes, hml, findClass_of_methodNamed B.named, fun w hw => atoms_spec (ws := wsy yX6_gusts cX6_gusts 5 (some .int)) B.pre w (List.mem_cons_of_mem _ hw), hSK, hI, hSH⟩
  have hr := B.returns
  have hlocks := B.notSynchronized
  have hx := X.1
  have hb := X.2.1
  have hS : va_S (inA g) s.heap s.heap [] := va_S.rf
  clear hSK hSH hml B
  have hl := lv_entry ([.ref (g.2.2 203), .int a1, .int a2, .int a3, .int a4]) (n := 5) (Nat.le_of_ble_eq_true rfl)
  rw [lg_entry_eq]
  generalize (lg_sl ([.ref (g.2.2 203), .int a1, .int a2, .int a3, .int a4]) ++ List.replicate (5 - (lg_sl ([.ref (g.2.2 203), .int a1, .int a2, .int a3, .int a4])).length) Slot.unset).toArray = ls at hl ⊢
  have hl : lv_has ls 5 [(0, .ref (g.2.2 203)), (1, .int a1), (2, .int a2), (3, .int a3), (4, .int a4)] := hl
  generalize ([.ref (g.2.2 203), .int a1, .int a2, .int a3, .int a4] : List Value).toArray = args at X ⊢
  show W p l en (rmD 7) s m args below meth c s.heap [] 0 0 (MQ below (QI g h1 k r) args s 0 0 (inA g)) (F0 m 0 ls [])
  unfold fX6_gusts at hf
  refine lv_aload_n hx hb dX6_gusts_0 rfl (lv_at hl 0 rfl) ?_
  refine gX6 X hP 2 (v := .ref (g.2.2 0)) rfl (by decide) rfl wd_299 dX6_gusts_1 ?_
  refine lv_iload_n hx hb dX6_gusts_4 rfl (lv_at hl 1 rfl) ?_
  obtain ⟨x1, hh2, hg8, hf7⟩ := bd_some hf
  refine x_ci (x_runV (As := [.int a1]) (rest := []) X hP hS 0 (by decide) (cl_E (⟨rfl, by decide⟩ : isE 0)) rfl (tX2_isWind l X.2.2.2.2.2.2.1 (⟨rfl, by decide⟩ : isE 0) hg8) mi_X6_166 rfl hl.1 rfl (Nat.le_of_ble_eq_true rfl) dX6_gusts_5 ⟨Nat.le_of_ble_eq_true rfl, Nat.le_of_ble_eq_true rfl⟩ ⟨Nat.zero_le _, Nat.zero_le _⟩) hS (fun H3 lc4 hP5 hS6 => ?_)
  clear hf hP hS hg8
  refine lv_if_eq (tgt := 29) hx hb dX6_gusts_8 (by decide) (fun c9 => ?_) (fun c9 => ?_)
  · have hf10 := if_at_t c9 hf7
    clear hf7
    refine lv_ldc (v := -1000001) hx hb X.2.2.2.1 (X.2.2.2.2.1 _ wd_335) dX6_gusts_29 ?_
    obtain ⟨rfl, rfl⟩ := ret_inj hf10
    exact x_iret X hr hlocks hP5 hS6 dX6_gusts_31
  · have hf11 := if_at_f c9 hf7
    clear hf7
    refine lv_iload_n hx hb dX6_gusts_11 rfl (lv_at hl 2 rfl) ?_
    obtain ⟨x12, hh13, hg19, hf18⟩ := bd_some hf11
    refine x_ci (x_runS (As := [.int a2]) (rest := []) X hP5 hS6 (tX6_isRow l X.2.2.2.2.2.2.1  hg19) mi_X6_55 rfl hl.1 rfl (Nat.le_of_ble_eq_true rfl) dX6_gusts_12 ⟨Nat.le_of_ble_eq_true rfl, Nat.le_of_ble_eq_true rfl⟩ ⟨Nat.zero_le _, Nat.zero_le _⟩) hS6 (fun H14 lc15 hP16 hS17 => ?_)
    clear hf11 hP5 hS6 hg19
    refine lv_if_eq (tgt := 29) hx hb dX6_gusts_15 (by decide) (fun c20 => ?_) (fun c20 => ?_)
    · have hf21 := if_at_t c20 hf18
      clear hf18
      refine lv_ldc (v := -1000001) hx hb X.2.2.2.1 (X.2.2.2.2.1 _ wd_335) dX6_gusts_29 ?_
      obtain ⟨rfl, rfl⟩ := ret_inj hf21
      exact x_iret X hr hlocks hP16 hS17 dX6_gusts_31
    · have hf22 := if_at_f c20 hf18
      clear hf18
      refine lv_iload hx hb dX6_gusts_18 (lv_at hl 4 rfl) ?_
      refine lv_iconst (v := 1) hx hb dX6_gusts_20 (by decide) ?_
      refine lv_bipush (v := 12) hx hb dX6_gusts_21 (by decide) ?_
      obtain ⟨x23, hh24, hg30, hf29⟩ := bd_some hf22
      refine x_ci (x_runS (As := [.int a4, .int (1 : Int32), .int (12 : Int32)]) (rest := []) X hP16 hS17 (tX6_isWithin l X.2.2.2.2.2.2.1  hg30) mi_X6_59 rfl hl.1 rfl (Nat.le_of_ble_eq_true rfl) dX6_gusts_23 ⟨Nat.le_of_ble_eq_true rfl, Nat.le_of_ble_eq_true rfl⟩ ⟨Nat.zero_le _, Nat.zero_le _⟩) hS17 (fun H25 lc26 hP27 hS28 => ?_)
      clear hf22 hP16 hS17 hg30
      refine lv_if_ne (tgt := 32) hx hb dX6_gusts_26 (by decide) (fun c31 => ?_) (fun c31 => ?_)
      · have hf32 := if_at_f c31 hf29
        clear hf29
        refine lv_aload_n hx hb dX6_gusts_32 rfl (lv_at hl 0 rfl) ?_
        refine lv_iconst (v := 3) hx hb dX6_gusts_33 (by decide) ?_
        refine lv_iload_n hx hb dX6_gusts_34 rfl (lv_at hl 1 rfl) ?_
        refine lv_iload_n hx hb dX6_gusts_35 rfl (lv_at hl 2 rfl) ?_
        refine lv_iload_n hx hb dX6_gusts_36 rfl (lv_at hl 3 rfl) ?_
        refine lv_iload hx hb dX6_gusts_37 (lv_at hl 4 rfl) ?_
        obtain ⟨x33, hh34, hg40, hf39⟩ := bd_some hf32
        refine x_ci (x_runV (As := [.int (3 : Int32), .int a1, .int a2, .int a3, .int a4]) (rest := []) X hP27 hS28 203 (by decide) cl_F rfl (tX6_allThatFits l X.2.2.2.2.2.2.1  hg40) mi_X6_270 rfl hl.1 rfl (Nat.le_of_ble_eq_true rfl) dX6_gusts_39 ⟨Nat.le_of_ble_eq_true rfl, Nat.le_of_ble_eq_true rfl⟩ ⟨Nat.zero_le _, Nat.zero_le _⟩) hS28 (fun H35 lc36 hP37 hS38 => ?_)
        clear hf32 hP27 hS28 hg40
        obtain ⟨rfl, rfl⟩ := ret_inj hf39
        exact x_iret X hr hlocks hP37 hS38 dX6_gusts_42
      · have hf41 := if_at_t c31 hf29
        clear hf29
        refine lv_ldc (v := -1000001) hx hb X.2.2.2.1 (X.2.2.2.2.1 _ wd_335) dX6_gusts_29 ?_
        obtain ⟨rfl, rfl⟩ := ret_inj hf41
        exact x_iret X hr hlocks hP27 hS28 dX6_gusts_31
