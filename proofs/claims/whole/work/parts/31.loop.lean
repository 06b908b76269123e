def R_law : String := "FogSheetsLaw"
def lw_P (b : Addr) (xs : List Int32) (args : Array Value) (s : State) : Prop := args = #[.ref b] ∧ s.IntsAt b xs ∧ xs.length ≤ 3072 ∧ (Jvm.Cond.and given_1 narrow_1).before args s = true
def lw_Q (_ : Array Value) (s : State) (o : Outcome) (t : State) : Prop := o = .returned (some (.int 1)) ∧ Framed s o t [] 600000 7302250
def lw_Z (below : List Frame) (a : Array Value) (s : State) : State → Prop := fun t => ∃ o, t.status = .running ∧ Ended t below o ∧ lw_Q a s o t
/-- the law's own end, with 1 on the stack, nothing written that was there before, its room as the claim has it -/
theorem lw_ret {p : Program} {l : Launch} {e : Env} {s : State} {m : MethodId} {below : List Frame} {meth : Method} {c : Code} {b : Nat} (hx : p.tables.exec = Jvm.exec) (hb : c.code = code) (hr : meth.sig.returnType = ret) (hlocks : meth.locks = false) {pc : Nat} {H : Heap} {ls : Array Slot} (hdg : decode code pc = .ok (.ireturn, 1)) : W p l e room_1 s m #[Value.ref b] below meth c H [] 600000 7302250 (lw_Z below #[Value.ref b] s) (F0 m pc ls [.int 1]) := by
  intro T hT X
  obtain ⟨fs, hret, hrun, hended, hW, hframe⟩ := X.leave (v := some (.int 1)) (hlocks := hlocks) (fun h => by rw [hr] at h; cases h)
  have hmeth' : T.vm.method? m = some meth := X.method'
  refine ⟨T.setFrames fs, ?_, .returned (some (.int 1)), hrun, hended, rfl, ⟨_, rfl⟩, hW, hframe⟩
  jvm_step X.here [X.here.top, hx, hb, hdg, hmeth', hr, ret, narrow_b1]
  (try refine ⟨rfl, ?_⟩); (try refine ⟨rfl, ?_⟩)
  first | (intro acts; rw [hret _ acts rfl rfl rfl]) | rw [hret _ _ rfl rfl rfl]
  exact Steps.refl _
/-- what holds at the law's entry: the machine, the code, the tables' words (any of lw_tbl by 'hts w (by decide +kernel)'), the script of L ints xs at the cell b, what the Statement gives of the start (any of its parts by flat_of_before) -/
def lw_At (p : Program) (s : State) (m : MethodId) (meth : Method) (c : Code) (b L : Nat) (xs : Nat → Int32) : Prop :=
  p.tables.exec = Jvm.exec ∧ c.code = code ∧ meth.sig.returnType = ret ∧ c.maxLocals = 4 ∧ s.vm.findClass R_law = some m.cls ∧ (∀ w ∈ lw_tbl, w.before #[Value.ref b] s = true) ∧ va_X b L xs s s.heap ∧ b < s.heap.size ∧ meth.locks = false ∧ (Jvm.Cond.and given_1 narrow_1).before #[Value.ref b] s = true
/-! ===== the law's loop ===== -/
theorem lw_idx {L t j : Nat} {x3 : Int32} (hL : L ≤ 3072) (e : x3 = nI (6 * t)) (h : 6 * t + 6 ≤ L) (hj : j < 6) : vp_in (x3 + nI j) L := by
  subst e
  rw [nI_add]
  exact vp_in_nI (by omega) (by omega)
theorem lw_go {L t : Nat} {x3 : Int32} (hL : L ≤ 3072) (ht : 6 * t ≤ 4000) (e : x3 = nI (6 * t)) (h : ¬ (Int32.ofNat L - 6 < x3)) : 6 * t + 6 ≤ L := by
  subst e
  have h1 : (nI L - nI 6).toInt = (L : Int) - 6 := by exact_mod_cast pk_sub_toInt (a := L) (b := 6) (by omega) (by omega)
  have h2 : (nI (6 * t)).toInt = ((6 * t : Nat) : Int) := nI_toInt (by omega)
  rw [Int32.lt_iff_toInt_lt] at h
  have h3 : (Int32.ofNat L - 6 : Int32) = nI L - nI 6 := rfl
  rw [h3, h1, h2] at h
  omega
set_option maxRecDepth 100000 in
set_option maxHeartbeats 8000000 in
theorem law_loop {p : Program} {l : Launch} {en : Env} {s : State} {m : MethodId} {below : List Frame} {meth : Method} {c : Code} {g : Gx} {b L : Nat} {xs : Nat → Int32} (hL : L ≤ 3072) (X : Cx p s m #[Value.ref b] c code 4 RL g) (hr : meth.sig.returnType = ret) (hlocks : meth.locks = false) (hX : va_X b L xs s s.heap) (hbl : b < s.heap.size) (hnew : ∀ i, i < 259 → s.heap.size ≤ g.2.2 i) {RR : Hp → Hp → Prop} (s_row : St_row RR) (s_set : St_set RR) (s_copy : St_copy RR) (s_drop : St_drop RR) (s_feed : St_feed RR) (s_estuary : St_estuary RR) (s_fault : St_fault RR) (s_undo : St_undo RR) (s_hours : St_hours RR) (s_step : St_step RR) (s_wind : St_wind RR) (s_wake : St_wake RR) (s_let : St_let RR) (s_sheet : St_sheet RR) (s_cell : St_cell RR) (s_stand : St_stand RR) (s_ahead : St_ahead RR) (s_over : St_over RR) (s_when : St_when RR) (s_overlap : St_overlap RR) (s_walk : St_walk RR) (s_meet : St_meet RR) (s_site : St_site RR) (s_waking : St_waking RR) (s_meant : St_meant RR) (s_share : St_share RR) (s_byTurns : St_byTurns RR) (s_who : St_who RR) (s_gusts : St_gusts RR) (s_lift : St_lift RR) (s_drawn : St_drawn RR) (s_image : St_image RR) (s_restore : St_restore RR) (s_kind : St_kind RR) (s_as : St_as RR) (s_ask : St_ask RR) (s_trace : St_trace RR) (s_count : St_count RR) (s_status : St_status RR) :
    ∀ (n t : Nat) (x3 : Int32) (h k : Hp) (H : Heap) (locs : List Loc) (ls : Array Slot), L + 6 ≤ 6 * t + 6 * n → 6 * t ≤ L + 6 → x3 = nI (6 * t) → RR h k → va_P g.1 vwCl (WW g h k) H → va_S (inA g) s.heap H locs → lv_has ls 4 [(0, .ref b), (1, .ref (g.2.2 203)), (2, .ref (g.2.2 246)), (3, .int x3)] → W p l en room_1 s m #[Value.ref b] below meth c H locs 600000 7302250 (lw_Z below #[Value.ref b] s) (F0 m 18 ls []) := by
  have hx := X.1
  have hb := X.2.1
  have hbA : ¬ inA g b := fun ⟨i, hi, q⟩ => by have := hnew i hi; omega
  intro n
  induction n with
  | zero =>
      intro t x3 h k H locs ls hn ht e3 hR hP hS hl
      refine lv_iload_n hx hb dL_law_18 rfl (lv_at hl 3 rfl) ?_
      refine lv_aload_n hx hb dL_law_19 rfl (lv_at hl 0 rfl) ?_
      refine va_slen hx hb hX hbl hbA hS dL_law_20 ?_
      refine lv_bipush (v := 6) hx hb dL_law_21 (by decide) ?_
      refine lv_isub hx hb dL_law_23 ?_
      refine lv_icmp_gt (tgt := 1438) hx hb dL_law_24 (by decide) (fun cx => ?_) (fun cx => ?_)
      · refine va_forget (fun q hq => ?_) ?_
        · obtain ⟨i, hi, q2⟩ := hS.2.2 q hq
          rw [q2]
          exact hnew i hi
        · refine lv_iconst (v := 1) hx hb dL_law_1438 (by decide) ?_
          exact lw_ret hx hb hr hlocks dL_law_1439
      · have := lw_go (t := t) hL (by omega) e3 cx
        omega
  | succ n ih =>
    intro t x3 h k H locs ls hn ht e3 hR hP hS hl
    refine lv_iload_n hx hb dL_law_18 rfl (lv_at hl 3 rfl) ?_
    refine lv_aload_n hx hb dL_law_19 rfl (lv_at hl 0 rfl) ?_
    refine va_slen hx hb hX hbl hbA hS dL_law_20 ?_
    refine lv_bipush (v := 6) hx hb dL_law_21 (by decide) ?_
    refine lv_isub hx hb dL_law_23 ?_
    refine lv_icmp_gt (tgt := 1438) hx hb dL_law_24 (by decide) (fun cx => ?_) (fun cx => ?_)
    · refine va_forget (fun q hq => ?_) ?_
      · obtain ⟨i, hi, q2⟩ := hS.2.2 q hq
        rw [q2]
        exact hnew i hi
      · refine lv_iconst (v := 1) hx hb dL_law_1438 (by decide) ?_
        exact lw_ret hx hb hr hlocks dL_law_1439
    · have hi := lw_go (t := t) hL (by omega) e3 cx
      have i1 : vp_in (x3 + 1) L := lw_idx (j := 1) hL e3 hi (by decide)
      have i2 : vp_in (x3 + 2) L := lw_idx (j := 2) hL e3 hi (by decide)
      have i3 : vp_in (x3 + 3) L := lw_idx (j := 3) hL e3 hi (by decide)
      have i4 : vp_in (x3 + 4) L := lw_idx (j := 4) hL e3 hi (by decide)
      have i5 : vp_in (x3 + 5) L := lw_idx (j := 5) hL e3 hi (by decide)
      have i0 : vp_in x3 L := by rw [e3]; exact vp_in_nI (by omega) (by omega)
      have kk : ∀ (h1 k1 : Hp) (H1 : Heap) (locs1 : List Loc), RR h1 k1 → va_P g.1 vwCl (WW g h1 k1) H1 → va_S (inA g) s.heap H1 locs1 → W p l en room_1 s m #[Value.ref b] below meth c H1 locs1 600000 7302250 (lw_Z below #[Value.ref b] s) (F0 m 1432 ls []) := by
        intro h1 k1 H1 locs1 hR1 hP1 hS1
        obtain ⟨x4, ex4⟩ : ∃ q : Int32, q = x3 + 6 := ⟨_, rfl⟩
        refine lv_iinc (v := x4) (lv' := [(3, .int x4), (0, .ref b), (1, .ref (g.2.2 203)), (2, .ref (g.2.2 246))]) hx hb dL_law_1432 hl (k := 3) rfl (by rw [ex4]; rfl) (by decide) rfl (fun ls hl => ?_)
        refine lv_goto (tgt := 18) hx hb dL_law_1435 (by decide) ?_
        exact ih (t + 1) x4 h1 k1 H1 locs1 ls (by omega) (by omega) (by rw [ex4, e3]; exact nI_add (6 * t) 6) hR1 hP1 hS1 (lv_sub hl [1, 2, 3, 0] rfl)
      refine lv_aload_n hx hb dL_law_27 rfl (lv_at hl 0 rfl) ?_
      refine lv_iload_n hx hb dL_law_28 rfl (lv_at hl 3 rfl) ?_
      refine va_sld hx hb hX hbl hbA hS i0 dL_law_29 ?_
      refine lv_bipush (v := 63) hx hb dL_law_30 (by decide) ?_
      refine lv_iand hx hb dL_law_32 ?_
      refine lv_topi (fun x ex => ?_)
      clear ih hn
      by_cases c0 : x = (0 : Int32)
      · refine lv_tableIn (tgt := 204) hx hb dL_law_33 (by rw [c0]; decide) (by rw [c0]; decide) (by rw [c0]; rfl) (by decide) ?_
        exact lw_c_row X hX hbl hbA s_row hR hP hS i1 i2 i3 hl kk
      by_cases c1 : x = (1 : Int32)
      · refine lv_tableIn (tgt := 247) hx hb dL_law_33 (by rw [c1]; decide) (by rw [c1]; decide) (by rw [c1]; rfl) (by decide) ?_
        exact lw_c_set X hX hbl hbA s_set hR hP hS i1 i2 i3 hl kk
      by_cases c2 : x = (2 : Int32)
      · refine lv_tableIn (tgt := 290) hx hb dL_law_33 (by rw [c2]; decide) (by rw [c2]; decide) (by rw [c2]; rfl) (by decide) ?_
        exact lw_c_copy X hX hbl hbA s_copy hR hP hS i1 i2 i3 i4 i5 hl kk
      by_cases c3 : x = (3 : Int32)
      · refine lv_tableIn (tgt := 353) hx hb dL_law_33 (by rw [c3]; decide) (by rw [c3]; decide) (by rw [c3]; rfl) (by decide) ?_
        exact lw_c_drop X hX hbl hbA s_drop hR hP hS i1 hl kk
      by_cases c4 : x = (4 : Int32)
      · refine lv_tableIn (tgt := 376) hx hb dL_law_33 (by rw [c4]; decide) (by rw [c4]; decide) (by rw [c4]; rfl) (by decide) ?_
        exact lw_c_feed X hX hbl hbA s_feed hR hP hS i1 hl kk
      by_cases c5 : x = (5 : Int32)
      · refine lv_tableIn (tgt := 399) hx hb dL_law_33 (by rw [c5]; decide) (by rw [c5]; decide) (by rw [c5]; rfl) (by decide) ?_
        exact lw_c_estuary X hX hbl hbA s_estuary hR hP hS hl kk
      by_cases c6 : x = (6 : Int32)
      · refine lv_tableIn (tgt := 412) hx hb dL_law_33 (by rw [c6]; decide) (by rw [c6]; decide) (by rw [c6]; rfl) (by decide) ?_
        exact lw_c_fault X hX hbl hbA s_fault hR hP hS hl kk
      by_cases c7 : x = (7 : Int32)
      · refine lv_tableIn (tgt := 425) hx hb dL_law_33 (by rw [c7]; decide) (by rw [c7]; decide) (by rw [c7]; rfl) (by decide) ?_
        exact lw_c_undo X hX hbl hbA s_undo hR hP hS hl kk
      by_cases c8 : x = (8 : Int32)
      · refine lv_tableIn (tgt := 438) hx hb dL_law_33 (by rw [c8]; decide) (by rw [c8]; decide) (by rw [c8]; rfl) (by decide) ?_
        exact lw_c_hours X hX hbl hbA s_hours hR hP hS i1 hl kk
      by_cases c9 : x = (9 : Int32)
      · refine lv_tableIn (tgt := 461) hx hb dL_law_33 (by rw [c9]; decide) (by rw [c9]; decide) (by rw [c9]; rfl) (by decide) ?_
        exact lw_c_step X hX hbl hbA s_step hR hP hS i1 hl kk
      by_cases c10 : x = (10 : Int32)
      · refine lv_tableIn (tgt := 484) hx hb dL_law_33 (by rw [c10]; decide) (by rw [c10]; decide) (by rw [c10]; rfl) (by decide) ?_
        exact lw_c_wind X hX hbl hbA s_wind hR hP hS i1 i2 hl kk
      by_cases c11 : x = (11 : Int32)
      · refine lv_tableIn (tgt := 517) hx hb dL_law_33 (by rw [c11]; decide) (by rw [c11]; decide) (by rw [c11]; rfl) (by decide) ?_
        exact lw_c_wake X hX hbl hbA s_wake hR hP hS i1 hl kk
      by_cases c12 : x = (12 : Int32)
      · refine lv_tableIn (tgt := 540) hx hb dL_law_33 (by rw [c12]; decide) (by rw [c12]; decide) (by rw [c12]; rfl) (by decide) ?_
        exact lw_c_let X hX hbl hbA s_let hR hP hS i1 i2 i3 hl kk
      by_cases c13 : x = (13 : Int32)
      · refine lv_tableIn (tgt := 583) hx hb dL_law_33 (by rw [c13]; decide) (by rw [c13]; decide) (by rw [c13]; rfl) (by decide) ?_
        exact lw_c_sheet X hX hbl hbA s_sheet hR hP hS i1 i2 hl kk
      by_cases c14 : x = (14 : Int32)
      · refine lv_tableIn (tgt := 616) hx hb dL_law_33 (by rw [c14]; decide) (by rw [c14]; decide) (by rw [c14]; rfl) (by decide) ?_
        exact lw_c_cell X hX hbl hbA s_cell hR hP hS i1 i2 hl kk
      by_cases c15 : x = (15 : Int32)
      · refine lv_tableIn (tgt := 649) hx hb dL_law_33 (by rw [c15]; decide) (by rw [c15]; decide) (by rw [c15]; rfl) (by decide) ?_
        exact lw_c_stand X hX hbl hbA s_stand hR hP hS i1 hl kk
      by_cases c16 : x = (16 : Int32)
      · refine lv_tableIn (tgt := 672) hx hb dL_law_33 (by rw [c16]; decide) (by rw [c16]; decide) (by rw [c16]; rfl) (by decide) ?_
        exact lw_c_ahead X hX hbl hbA s_ahead hR hP hS i1 i2 i3 hl kk
      by_cases c17 : x = (17 : Int32)
      · refine lv_tableIn (tgt := 715) hx hb dL_law_33 (by rw [c17]; decide) (by rw [c17]; decide) (by rw [c17]; rfl) (by decide) ?_
        exact lw_c_over X hX hbl hbA s_over hR hP hS i1 i2 hl kk
      by_cases c18 : x = (18 : Int32)
      · refine lv_tableIn (tgt := 748) hx hb dL_law_33 (by rw [c18]; decide) (by rw [c18]; decide) (by rw [c18]; rfl) (by decide) ?_
        exact lw_c_when X hX hbl hbA s_when hR hP hS i1 i2 hl kk
      by_cases c19 : x = (19 : Int32)
      · refine lv_tableIn (tgt := 781) hx hb dL_law_33 (by rw [c19]; decide) (by rw [c19]; decide) (by rw [c19]; rfl) (by decide) ?_
        exact lw_c_overlap X hX hbl hbA s_overlap hR hP hS i1 hl kk
      by_cases c20 : x = (20 : Int32)
      · refine lv_tableIn (tgt := 804) hx hb dL_law_33 (by rw [c20]; decide) (by rw [c20]; decide) (by rw [c20]; rfl) (by decide) ?_
        exact lw_c_walk X hX hbl hbA s_walk hR hP hS i1 i2 hl kk
      by_cases c21 : x = (21 : Int32)
      · refine lv_tableIn (tgt := 837) hx hb dL_law_33 (by rw [c21]; decide) (by rw [c21]; decide) (by rw [c21]; rfl) (by decide) ?_
        exact lw_c_meet X hX hbl hbA s_meet hR hP hS i1 hl kk
      by_cases c22 : x = (22 : Int32)
      · refine lv_tableIn (tgt := 860) hx hb dL_law_33 (by rw [c22]; decide) (by rw [c22]; decide) (by rw [c22]; rfl) (by decide) ?_
        exact lw_c_site X hX hbl hbA s_site hR hP hS i1 i2 hl kk
      by_cases c23 : x = (23 : Int32)
      · refine lv_tableIn (tgt := 893) hx hb dL_law_33 (by rw [c23]; decide) (by rw [c23]; decide) (by rw [c23]; rfl) (by decide) ?_
        exact lw_c_waking X hX hbl hbA s_waking hR hP hS i1 i2 hl kk
      by_cases c24 : x = (24 : Int32)
      · refine lv_tableIn (tgt := 926) hx hb dL_law_33 (by rw [c24]; decide) (by rw [c24]; decide) (by rw [c24]; rfl) (by decide) ?_
        exact lw_c_meant X hX hbl hbA s_meant hR hP hS i1 i2 hl kk
      by_cases c25 : x = (25 : Int32)
      · refine lv_tableIn (tgt := 959) hx hb dL_law_33 (by rw [c25]; decide) (by rw [c25]; decide) (by rw [c25]; rfl) (by decide) ?_
        exact lw_c_share X hX hbl hbA s_share hR hP hS i1 i2 hl kk
      by_cases c26 : x = (26 : Int32)
      · refine lv_tableIn (tgt := 992) hx hb dL_law_33 (by rw [c26]; decide) (by rw [c26]; decide) (by rw [c26]; rfl) (by decide) ?_
        exact lw_c_byTurns X hX hbl hbA s_byTurns hR hP hS i1 i2 hl kk
      by_cases c27 : x = (27 : Int32)
      · refine lv_tableIn (tgt := 1025) hx hb dL_law_33 (by rw [c27]; decide) (by rw [c27]; decide) (by rw [c27]; rfl) (by decide) ?_
        exact lw_c_who X hX hbl hbA s_who hR hP hS i1 i2 i3 i4 i5 hl kk
      by_cases c28 : x = (28 : Int32)
      · refine lv_tableIn (tgt := 1088) hx hb dL_law_33 (by rw [c28]; decide) (by rw [c28]; decide) (by rw [c28]; rfl) (by decide) ?_
        exact lw_c_gusts X hX hbl hbA s_gusts hR hP hS i1 i2 i3 i4 hl kk
      by_cases c29 : x = (29 : Int32)
      · refine lv_tableIn (tgt := 1141) hx hb dL_law_33 (by rw [c29]; decide) (by rw [c29]; decide) (by rw [c29]; rfl) (by decide) ?_
        exact lw_c_lift X hX hbl hbA s_lift hR hP hS i1 i2 i3 i4 hl kk
      by_cases c30 : x = (30 : Int32)
      · refine lv_tableIn (tgt := 1195) hx hb dL_law_33 (by rw [c30]; decide) (by rw [c30]; decide) (by rw [c30]; rfl) (by decide) ?_
        exact lw_c_drawn X hX hbl hbA s_drawn hR hP hS i1 i2 i3 hl kk
      by_cases c31 : x = (31 : Int32)
      · refine lv_tableIn (tgt := 1238) hx hb dL_law_33 (by rw [c31]; decide) (by rw [c31]; decide) (by rw [c31]; rfl) (by decide) ?_
        exact lw_c_image X hX hbl hbA s_image hR hP hS i1 hl kk
      by_cases c32 : x = (32 : Int32)
      · refine lv_tableIn (tgt := 1261) hx hb dL_law_33 (by rw [c32]; decide) (by rw [c32]; decide) (by rw [c32]; rfl) (by decide) ?_
        exact lw_c_restore X hX hbl hbA s_restore hR hP hS i1 hl kk
      by_cases c33 : x = (33 : Int32)
      · refine lv_tableIn (tgt := 1284) hx hb dL_law_33 (by rw [c33]; decide) (by rw [c33]; decide) (by rw [c33]; rfl) (by decide) ?_
        exact lw_c_kind X hX hbl hbA s_kind hR hP hS i1 hl kk
      by_cases c34 : x = (34 : Int32)
      · refine lv_tableIn (tgt := 1307) hx hb dL_law_33 (by rw [c34]; decide) (by rw [c34]; decide) (by rw [c34]; rfl) (by decide) ?_
        exact lw_c_as X hX hbl hbA s_as hR hP hS i1 i2 hl kk
      by_cases c35 : x = (35 : Int32)
      · refine lv_tableIn (tgt := 1340) hx hb dL_law_33 (by rw [c35]; decide) (by rw [c35]; decide) (by rw [c35]; rfl) (by decide) ?_
        exact lw_c_ask X hX hbl hbA s_ask hR hP hS i1 i2 hl kk
      by_cases c36 : x = (36 : Int32)
      · refine lv_tableIn (tgt := 1373) hx hb dL_law_33 (by rw [c36]; decide) (by rw [c36]; decide) (by rw [c36]; rfl) (by decide) ?_
        exact lw_c_trace X hX hbl hbA s_trace hR hP hS i1 hl kk
      by_cases c37 : x = (37 : Int32)
      · refine lv_tableIn (tgt := 1396) hx hb dL_law_33 (by rw [c37]; decide) (by rw [c37]; decide) (by rw [c37]; rfl) (by decide) ?_
        exact lw_c_count X hX hbl hbA s_count hR hP hS i1 hl kk
      by_cases c38 : x = (38 : Int32)
      · refine lv_tableIn (tgt := 1419) hx hb dL_law_33 (by rw [c38]; decide) (by rw [c38]; decide) (by rw [c38]; rfl) (by decide) ?_
        exact lw_c_status X hX hbl hbA s_status hR hP hS hl kk
      have q0 := sw_ne (j := 0) rfl c0
      have q1 := sw_ne (j := 1) rfl c1
      have q2 := sw_ne (j := 2) rfl c2
      have q3 := sw_ne (j := 3) rfl c3
      have q4 := sw_ne (j := 4) rfl c4
      have q5 := sw_ne (j := 5) rfl c5
      have q6 := sw_ne (j := 6) rfl c6
      have q7 := sw_ne (j := 7) rfl c7
      have q8 := sw_ne (j := 8) rfl c8
      have q9 := sw_ne (j := 9) rfl c9
      have q10 := sw_ne (j := 10) rfl c10
      have q11 := sw_ne (j := 11) rfl c11
      have q12 := sw_ne (j := 12) rfl c12
      have q13 := sw_ne (j := 13) rfl c13
      have q14 := sw_ne (j := 14) rfl c14
      have q15 := sw_ne (j := 15) rfl c15
      have q16 := sw_ne (j := 16) rfl c16
      have q17 := sw_ne (j := 17) rfl c17
      have q18 := sw_ne (j := 18) rfl c18
      have q19 := sw_ne (j := 19) rfl c19
      have q20 := sw_ne (j := 20) rfl c20
      have q21 := sw_ne (j := 21) rfl c21
      have q22 := sw_ne (j := 22) rfl c22
      have q23 := sw_ne (j := 23) rfl c23
      have q24 := sw_ne (j := 24) rfl c24
      have q25 := sw_ne (j := 25) rfl c25
      have q26 := sw_ne (j := 26) rfl c26
      have q27 := sw_ne (j := 27) rfl c27
      have q28 := sw_ne (j := 28) rfl c28
      have q29 := sw_ne (j := 29) rfl c29
      have q30 := sw_ne (j := 30) rfl c30
      have q31 := sw_ne (j := 31) rfl c31
      have q32 := sw_ne (j := 32) rfl c32
      have q33 := sw_ne (j := 33) rfl c33
      have q34 := sw_ne (j := 34) rfl c34
      have q35 := sw_ne (j := 35) rfl c35
      have q36 := sw_ne (j := 36) rfl c36
      have q37 := sw_ne (j := 37) rfl c37
      have q38 := sw_ne (j := 38) rfl c38
      refine lv_tableOut (tgt := 1432) hx hb dL_law_33 (by omega) (by decide) ?_
      exact kk h k H locs hR hP hS
