/-! ===== calls, returns, stores over the world ===== -/
section XR
variable {p : Program} {l : Launch} {e : Env} {R : Room} {s : State} {m : MethodId} {args : Array Value} {below : List Frame} {meth : Method} {c : Code} {H : Heap} {locs : List Loc} {cells slots : Nat} {Q : State → Prop}
variable {cc : ByteArray} {nL pc : Nat} {own : String} {g : Gx} {ls : Array Slot} {rest st0 : List Value} {h k h1 k1 : Hp}
variable {y : MethodName} {bytes : ByteArray} {maxL d index n : Nat} {ret : Option FieldType} {As : List Value} {Qc : Array Value → State → Outcome → State → Prop}
theorem x_fit {y : MethodName} {bytes : ByteArray} {maxL : Nat} {ret : Option FieldType} (h : Cond.code y bytes maxL ret ∈ GG) : GoodIn GG (wsy y bytes maxL ret) := gg_good (fun w hw => by
  rcases List.mem_cons.mp hw with rfl | h2
  · exact h
  · exact h2)
theorem x_cb (X : Cx p s m args c cc nL own g) (mi : MB own index y bytes maxL ret n) (hR : d + 1 + 1 ≤ R.frames ∧ 8 + (maxL + 11) + 42 * (d + 1) ≤ R.locals) : CallB R s args own index y bytes maxL ret (wsy y bytes maxL ret) (rmD d) 0 0 n :=
  callB_of n X.2.2.2.2.1 (x_fit mi.1) rfl rfl rfl (X.2.2.2.2.1 _ mi.2.1) (X.2.2.2.2.1 _ mi.2.2.1) mi.2.2.2 hR
theorem x_runV (X : Cx p s m args c cc nL own g) (hP : va_P g.1 vwCl (WW g h k) H) (hS : va_S (inA g) s.heap H locs) (b : Nat) (hb : b < 259) {ci : Nat} {fs : List Value} {q : vw_C} (hc : cW g h k b = .inr (ci, fs)) (hcl : vwCl[ci]? = some q) (hM : Met l y (wsy y bytes maxL ret) (rmD d) (va_Pc (.ref (g.2.2 b) :: As) (PreW g h k)) Qc 0 0 (inA g)) (mi : MV own q.1 index y bytes maxL ret n) (hn : As.length = n) (hsize : ls.size = nL) (hstack : st0 = As.reverse ++ .ref (g.2.2 b) :: rest) (hW : (rest.map fun v => v.category).sum ≤ 8) (hdg : decode cc pc = .ok (.invokevirtual index, 3)) (hR : d + 1 + 1 ≤ R.frames ∧ 8 + (maxL + 11) + 42 * (d + 1) ≤ R.locals) (hf : cells ≤ R.cells ∧ slots ≤ R.slots) :
    va_Run p l e R s m args below meth c H locs cells slots 0 0 (F0 m pc ls st0) rest (Qc (Value.ref (g.2.2 b) :: As).toArray) (inA g) :=
  va_runV (As := As) (rest := rest) (nL := nL) ⟨X.1, X.2.1, X.2.2.1, X.2.2.2.1, X.2.2.2.2.1⟩ hM ⟨x_cb X mi.1 hR, X.2.2.2.2.1 _ mi.2.1, X.2.2.2.2.1 _ mi.2.2⟩ ⟨PreW.blind, va_recv X.2.2.2.2.2.1.1 hP hcl (WW_get hb hc), fun U hU hW => ⟨rfl, x_preP X.2.2.2.2.2.1 X.2.2.2.2.2.2.2 hS hP U hU hW⟩⟩ rfl hn hsize hstack (lv_room hW) hdg hf
theorem x_runS (X : Cx p s m args c cc nL own g) (hP : va_P g.1 vwCl (WW g h k) H) (hS : va_S (inA g) s.heap H locs) (hM : Met l y (wsy y bytes maxL ret) (rmD d) (va_Pc As (PreW g h k)) Qc 0 0 (inA g)) (mi : MS own index y bytes maxL ret n) (hn : As.length = n) (hsize : ls.size = nL) (hstack : st0 = As.reverse ++ rest) (hW : (rest.map fun v => v.category).sum ≤ 8) (hdg : decode cc pc = .ok (.invokestatic index, 3)) (hR : d + 1 + 1 ≤ R.frames ∧ 8 + (maxL + 11) + 42 * (d + 1) ≤ R.locals) (hf : cells ≤ R.cells ∧ slots ≤ R.slots) :
    va_Run p l e R s m args below meth c H locs cells slots 0 0 (F0 m pc ls st0) rest (Qc As.toArray) (inA g) :=
  va_runS (As := As) (rest := rest) (nL := nL) ⟨X.1, X.2.1, X.2.2.1, X.2.2.2.1, X.2.2.2.2.1⟩ hM ⟨x_cb X mi.1 hR, X.2.2.2.2.1 _ mi.2⟩ ⟨PreW.blind, fun U hU hW => ⟨rfl, x_preP X.2.2.2.2.2.1 X.2.2.2.2.2.2.2 hS hP U hU hW⟩⟩ rfl hn hsize hstack (lv_room hW) hdg hf
theorem x_runN (X : Cx p s m args c cc nL own g) (hP : va_P g.1 vwCl (WW g h k) H) (hS : va_S (inA g) s.heap H locs) {host : String} (hM : Met l y (wsy y bytes maxL ret) (rmD d) (va_Pc As (PreW g h k)) Qc 0 0 (inA g)) (mi : MN y bytes maxL ret n) (hN : va_Nw (.methodLinkNest own index y host) s) (hn : As.length = n) (hsize : ls.size = nL) (hstack : st0 = As.reverse ++ rest) (hW : (rest.map fun v => v.category).sum ≤ 8) (hdg : decode cc pc = .ok (.invokestatic index, 3)) (hR : d + 1 + 1 ≤ R.frames ∧ 8 + (maxL + 11) + 42 * (d + 1) ≤ R.locals) (hf : cells ≤ R.cells ∧ slots ≤ R.slots) :
    va_Run p l e R s m args below meth c H locs cells slots 0 0 (F0 m pc ls st0) rest (Qc As.toArray) (inA g) :=
  va_runSN (As := As) (rest := rest) (nL := nL) (host := host) ⟨X.1, X.2.1, X.2.2.1, X.2.2.2.1, X.2.2.2.2.1⟩ hM ⟨va_cnB n X.2.2.2.2.1 (x_fit mi.1) rfl rfl rfl hN (X.2.2.2.2.1 _ mi.2.1) mi.2.2.2 hR, X.2.2.2.2.1 _ mi.2.2.1, trivial⟩ ⟨PreW.blind, fun U hU hW => ⟨rfl, x_preP X.2.2.2.2.2.1 X.2.2.2.2.2.2.2 hS hP U hU hW⟩⟩ rfl hn hsize hstack (lv_room hW) hdg hf
theorem x_ci {x : Int32} {a : Array Value} (hr : va_Run p l e R s m args below meth c H locs cells slots 0 0 (F0 m pc ls st0) rest (QI g h1 k1 x a) (inA g)) (hS : va_S (inA g) s.heap H locs)
    (kk : ∀ (H1 : Heap) (locs1 : List Loc), va_P g.1 vwCl (WW g h1 k1) H1 → va_S (inA g) s.heap H1 locs1 → W p l e R s m args below meth c H1 locs1 cells slots Q (F0 m (pc + 3) ls (.int x :: rest))) : W p l e R s m args below meth c H locs cells slots Q (F0 m pc ls st0) :=
  va_calli hr hS (fun _ _ h => h) (fun _ h => h) (fun r _ t H1 locs1 ht _ hp hB _ _ hS1 => by subst hp; rw [ht] at hB; exact kk H1 locs1 hB hS1)
theorem x_cl {x : Int64} {a : Array Value} (hr : va_Run p l e R s m args below meth c H locs cells slots 0 0 (F0 m pc ls st0) rest (QL g h1 k1 x a) (inA g)) (hS : va_S (inA g) s.heap H locs)
    (kk : ∀ (H1 : Heap) (locs1 : List Loc), va_P g.1 vwCl (WW g h1 k1) H1 → va_S (inA g) s.heap H1 locs1 → W p l e R s m args below meth c H1 locs1 cells slots Q (F0 m (pc + 3) ls (.long x :: rest))) : W p l e R s m args below meth c H locs cells slots Q (F0 m pc ls st0) :=
  va_calll hr hS (fun _ _ h => h) (fun _ h => h) (fun r _ t H1 locs1 ht _ hp hB _ _ hS1 => by subst hp; rw [ht] at hB; exact kk H1 locs1 hB hS1)
theorem x_cv {a : Array Value} (hr : va_Run p l e R s m args below meth c H locs cells slots 0 0 (F0 m pc ls st0) rest (QV g h1 k1 a) (inA g)) (hS : va_S (inA g) s.heap H locs)
    (kk : ∀ (H1 : Heap) (locs1 : List Loc), va_P g.1 vwCl (WW g h1 k1) H1 → va_S (inA g) s.heap H1 locs1 → W p l e R s m args below meth c H1 locs1 cells slots Q (F0 m (pc + 3) ls rest)) : W p l e R s m args below meth c H locs cells slots Q (F0 m pc ls st0) :=
  va_callv hr hS (fun _ _ h => h) (fun _ h => h) (fun _ t H1 locs1 ht _ _ hB _ _ hS1 => by rw [ht] at hB; exact kk H1 locs1 hB hS1)
theorem x_cr {i : Nat} {a : Array Value} (hr : va_Run p l e R s m args below meth c H locs cells slots 0 0 (F0 m pc ls st0) rest (QR g h1 k1 i a) (inA g)) (hS : va_S (inA g) s.heap H locs)
    (kk : ∀ (H1 : Heap) (locs1 : List Loc), va_P g.1 vwCl (WW g h1 k1) H1 → va_S (inA g) s.heap H1 locs1 → W p l e R s m args below meth c H1 locs1 cells slots Q (F0 m (pc + 3) ls (.ref (g.2.2 i) :: rest))) : W p l e R s m args below meth c H locs cells slots Q (F0 m pc ls st0) :=
  va_callr hr hS (fun _ _ h => h) (fun _ h => h) (fun _ a t H1 locs1 ht _ _ hB _ _ hS1 => by obtain ⟨rfl, hB⟩ := hB; rw [ht] at hB; exact kk H1 locs1 hB hS1)
theorem x_iret {x : Int32} (X : Cx p s m args c cc nL own g) (hr : meth.sig.returnType = some .int) (hlocks : meth.locks = false) (hP : va_P g.1 vwCl (WW g h k) H) (hS : va_S (inA g) s.heap H locs) (hdg : decode cc pc = .ok (.ireturn, 1)) : W p l e R s m args below meth c H locs cells slots (MQ below (QI g h k x) args s cells slots (inA g)) (F0 m pc ls [.int x]) :=
  W.iret X.1 X.2.1 hr (fun t ht _ => ⟨⟨x, (), rfl, rfl, (show va_P g.1 vwCl (WW g h k) t.heap by rw [ht]; exact hP)⟩, hS.F ht⟩) hS.2.2 hdg hlocks
theorem x_zret {x : Int32} (X : Cx p s m args c cc nL own g) (hr : meth.sig.returnType = some .boolean) (hlocks : meth.locks = false) (hn : isB x = true) (hP : va_P g.1 vwCl (WW g h k) H) (hS : va_S (inA g) s.heap H locs) (hdg : decode cc pc = .ok (.ireturn, 1)) : W p l e R s m args below meth c H locs cells slots (MQ below (QI g h k x) args s cells slots (inA g)) (F0 m pc ls [.int x]) :=
  W.zret X.1 X.2.1 hr (isB_n hn).1 (fun t ht _ => ⟨⟨x, (), rfl, rfl, (show va_P g.1 vwCl (WW g h k) t.heap by rw [ht]; exact hP)⟩, hS.F ht⟩) hS.2.2 hdg hlocks
theorem x_lret {x : Int64} (X : Cx p s m args c cc nL own g) (hr : meth.sig.returnType = some .long) (hlocks : meth.locks = false) (hP : va_P g.1 vwCl (WW g h k) H) (hS : va_S (inA g) s.heap H locs) (hdg : decode cc pc = .ok (.lreturn, 1)) : W p l e R s m args below meth c H locs cells slots (MQ below (QL g h k x) args s cells slots (inA g)) (F0 m pc ls [.long x]) :=
  W.lret X.1 X.2.1 hr (fun t ht _ => ⟨⟨x, (), rfl, rfl, (show va_P g.1 vwCl (WW g h k) t.heap by rw [ht]; exact hP)⟩, hS.F ht⟩) hS.2.2 hdg hlocks
theorem x_vret (X : Cx p s m args c cc nL own g) (hr : meth.sig.returnType = none) (hlocks : meth.locks = false) (hP : va_P g.1 vwCl (WW g h k) H) (hS : va_S (inA g) s.heap H locs) (hdg : decode cc pc = .ok (.return_, 1)) : W p l e R s m args below meth c H locs cells slots (MQ below (QV g h k) args s cells slots (inA g)) (F0 m pc ls []) :=
  W.vret X.1 X.2.1 hr (fun t ht _ => ⟨⟨(), rfl, trivial, (show va_P g.1 vwCl (WW g h k) t.heap by rw [ht]; exact hP)⟩, hS.F ht⟩) hS.2.2 hdg hlocks
theorem x_aret {i : Nat} {rt : String} (X : Cx p s m args c cc nL own g) (hr : meth.sig.returnType = some (.object rt)) (hlocks : meth.locks = false) (hP : va_P g.1 vwCl (WW g h k) H) (hS : va_S (inA g) s.heap H locs) (hdg : decode cc pc = .ok (.areturn, 1)) : W p l e R s m args below meth c H locs cells slots (MQ below (QR g h k i) args s cells slots (inA g)) (F0 m pc ls [.ref (g.2.2 i)]) :=
  W.aret X.1 X.2.1 hr (Or.inl ⟨_, rfl⟩) (Or.inr ⟨_, rfl⟩) (fun t ht _ => ⟨⟨(), g.2.2 i, rfl, trivial, rfl, (show va_P g.1 vwCl (WW g h k) t.heap by rw [ht]; exact hP)⟩, hS.F ht⟩) hS.2.2 hdg hlocks
/-- an int row of the class -/
theorem x_ildC (X : Cx p s m args c cc nL own g) (hP : va_P g.1 vwCl (WW g h k) H) (a : Nat) (ha : isIA a = true) {i : Int32} (hin : inb i (lenC a) = true) (hdg : decode cc pc = .ok (.iaload, 1))
    (kk : W p l e R s m args below meth c H locs cells slots Q (F0 m (pc + 1) ls (.int (h a i.toNatClampNeg) :: rest))) : W p l e R s m args below meth c H locs cells slots Q (F0 m pc ls (.int i :: .ref (g.2.2 a) :: rest)) :=
  x_iald X hP a (Nat.lt_of_lt_of_le (isIA_lt ha) (by decide)) (cl_IA ha) hin hdg kk
theorem x_istC (X : Cx p s m args c cc nL own g) (hP : va_P g.1 vwCl (WW g h k) H) (hS : va_S (inA g) s.heap H locs) (a : Nat) (ha : isIA a = true) {i x : Int32} (hin : inb i (lenC a) = true) (hdg : decode cc pc = .ok (.iastore, 1))
    (kk : ∀ (H1 : Heap) (locs1 : List Loc) (h1 : Hp), h1 = up2 h a i.toNatClampNeg x → va_P g.1 vwCl (WW g h1 k) H1 → va_S (inA g) s.heap H1 locs1 → W p l e R s m args below meth c H1 locs1 cells slots Q (F0 m (pc + 1) ls rest)) : W p l e R s m args below meth c H locs cells slots Q (F0 m pc ls (.int x :: .int i :: .ref (g.2.2 a) :: rest)) :=
  x_iast X hP hS a (Nat.lt_of_lt_of_le (isIA_lt ha) (by decide)) (cl_IA ha) hin (h1 := up2 h a i.toNatClampNeg x) (k1 := k) (by rw [cl_IA ha, up2_self]) (fun b hb => cW_h (up2_ne hb)) hdg (fun H1 locs1 hP hS => kk H1 locs1 _ rfl hP hS)
/-- an int row of the reference -/
theorem x_ildM (X : Cx p s m args c cc nL own g) (hP : va_P g.1 vwCl (WW g h k) H) (a : Nat) (ha : isMA a = true) {i : Int32} (hin : inb i (lenM a) = true) (hdg : decode cc pc = .ok (.iaload, 1))
    (kk : W p l e R s m args below meth c H locs cells slots Q (F0 m (pc + 1) ls (.int (k a i.toNatClampNeg) :: rest))) : W p l e R s m args below meth c H locs cells slots Q (F0 m pc ls (.int i :: .ref (g.2.2 a) :: rest)) :=
  x_iald X hP a (isMA_ge ha).2.1 (cl_MA ha) hin hdg kk
theorem x_istM (X : Cx p s m args c cc nL own g) (hP : va_P g.1 vwCl (WW g h k) H) (hS : va_S (inA g) s.heap H locs) (a : Nat) (ha : isMA a = true) {i x : Int32} (hin : inb i (lenM a) = true) (hdg : decode cc pc = .ok (.iastore, 1))
    (kk : ∀ (H1 : Heap) (locs1 : List Loc) (k1 : Hp), k1 = up2 k a i.toNatClampNeg x → va_P g.1 vwCl (WW g h k1) H1 → va_S (inA g) s.heap H1 locs1 → W p l e R s m args below meth c H1 locs1 cells slots Q (F0 m (pc + 1) ls rest)) : W p l e R s m args below meth c H locs cells slots Q (F0 m pc ls (.int x :: .int i :: .ref (g.2.2 a) :: rest)) :=
  x_iast X hP hS a (isMA_ge ha).2.1 (cl_MA ha) hin (h1 := h) (k1 := up2 k a i.toNatClampNeg x) (by rw [cl_MA ha, up2_self]) (fun b hb => cW_k (up2_ne hb)) hdg (fun H1 locs1 hP hS => kk H1 locs1 _ rfl hP hS)
theorem x_zldM (X : Cx p s m args c cc nL own g) (hP : va_P g.1 vwCl (WW g h k) H) {i : Int32} (hin : inb i 2 = true) (hdg : decode cc pc = .ok (.baload, 1))
    (kk : W p l e R s m args below meth c H locs cells slots Q (F0 m (pc + 1) ls (.int (k 256 i.toNatClampNeg) :: rest))) : W p l e R s m args below meth c H locs cells slots Q (F0 m pc ls (.int i :: .ref (g.2.2 256) :: rest)) :=
  va_zald X.1 X.2.1 X.2.2.2.2.2.1.1 hP 256 1 (WW_get (by decide) cl_Z) rfl (inb_in hin) hdg kk
def cpok (sp dp n : Int32) (a b : Nat) : Bool := decide (0 ≤ sp.toInt) && decide (0 ≤ dp.toInt) && decide (0 ≤ n.toInt) && decide (sp.toInt + n.toInt ≤ a) && decide (dp.toInt + n.toInt ≤ b)
theorem cpok_in {sp dp n : Int32} {a b : Nat} (h : cpok sp dp n a b = true) : ¬ sp < 0 ∧ ¬ dp < 0 ∧ ¬ n < 0 ∧ sp.toNatClampNeg + n.toNatClampNeg ≤ a ∧ dp.toNatClampNeg + n.toNatClampNeg ≤ b := by
  simp only [cpok, Bool.and_eq_true, decide_eq_true_eq] at h
  obtain ⟨⟨⟨⟨h1, h2⟩, h3⟩, h4⟩, h5⟩ := h
  have z : (0 : Int32).toInt = 0 := rfl
  refine ⟨?_, ?_, ?_, ?_, ?_⟩
  · rw [Int32.lt_iff_toInt_lt]; omega
  · rw [Int32.lt_iff_toInt_lt]; omega
  · rw [Int32.lt_iff_toInt_lt]; omega
  · show sp.toInt.toNat + n.toInt.toNat ≤ a; omega
  · show dp.toInt.toNat + n.toInt.toNat ≤ b; omega
theorem x_cpy (X : Cx p s m args c cc nL own g) (hP : va_P g.1 vwCl (WW g h k) H) (hS : va_S (inA g) s.heap H locs) (a b : Nat) (ha : isIA a = true) (hb : isIA b = true) (hsize : ls.size = nL) (hl : Cond.methodLink own index arraycopyName ∈ GG ∧ Cond.native arraycopyName ∈ GG ∧ Cond.static arraycopyName ∈ GG ∧ Cond.initialized "java/lang/System" ∈ GG) {sp dp n : Int32} (hok : cpok sp dp n (lenC a) (lenC b) = true)
    (hframes : 1 ≤ R.frames) (hlocals : (rest.map fun v => v.category).sum + (nativeFrameWords "java/lang/System" "arraycopy" 5 + 11) ≤ R.locals) (hdg : decode cc pc = .ok (.invokestatic index, 3))
    (kk : ∀ (H1 : Heap) (locs1 : List Loc) (h1 : Hp), h1 = va_up h b (va_cpy (h a) (h b) sp.toNatClampNeg dp.toNatClampNeg n.toNatClampNeg) → va_P g.1 vwCl (WW g h1 k) H1 → va_S (inA g) s.heap H1 locs1 → W p l e R s m args below meth c H1 locs1 cells slots Q (F0 m (pc + 3) ls rest)) : W p l e R s m args below meth c H locs cells slots Q (F0 m pc ls (.int n :: .int dp :: .ref (g.2.2 b) :: .int sp :: .ref (g.2.2 a) :: rest)) := by
  obtain ⟨o1, o2, o3, o4, o5⟩ := cpok_in hok
  have hts := X.2.2.2.2.1
  have hbl : b < 259 := Nat.lt_of_lt_of_le (isIA_lt hb) (by decide)
  refine va_copyi X.1 X.2.1 (X.2.2.1.trans hsize.symm) X.2.2.2.1 (hts _ hl.1) (hts _ hl.2.1) (hts _ hl.2.2.1) (hts _ hl.2.2.2) X.2.2.2.2.2.1.1 hP (WW_D X.2.2.2.2.2.2.1) hS a b 0 0 (ty := .int) (WW_get (Nat.lt_of_lt_of_le (isIA_lt ha) (by decide)) (cl_IA ha)) (WW_get hbl (cl_IA hb)) rfl rfl rfl o1 o2 o3 o4 o5 (fun _ _ => rfl) hframes hlocals hdg (fun H1 locs1 hP1 _ hS1 => ?_)
  rw [WW_set (h1 := va_up h b (va_cpy (h a) (h b) sp.toNatClampNeg dp.toNatClampNeg n.toNatClampNeg)) (k1 := k) hbl (by rw [cl_IA hb]; simp [va_up]) (fun q hq => cW_h (va_up_ne _ _ hq))] at hP1
  exact kk H1 locs1 _ rfl hP1 hS1
end XR
theorem sw_ne {x v : Int32} {j : Int} (hv : v.toInt = j) (h : ¬ x = v) : x.toInt ≠ j := fun q => h (Int32.toInt_inj.mp (q.trans hv.symm))
