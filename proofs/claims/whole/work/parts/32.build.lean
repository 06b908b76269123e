/-! ===== constructors: what is made lies from z on, in the order in which it is made ===== -/
theorem vr_outer (c : ClassId) (N h0 : Nat) : ∀ i : Nat, Jvm.Free.Multi.outerC c N h0 i = arrV c N (fun j => va_rf (if j < i then some (h0 + 1 + j) else none))
  | 0 => by
    show ({ cls := c, slots := Array.replicate N .null, vm := .none } : Cell) = _
    rw [arrV_new]
    refine congrArg (arrV c N) (funext fun j => ?_)
    simp [va_rf]
  | i + 1 => by
    show (Jvm.Free.Multi.outerC c N h0 i).setSlot i (.ref (h0 + 1 + i)) = _
    rw [vr_outer c N h0 i, arrV_store]
    refine congrArg (arrV c N) (funext fun j => ?_)
    by_cases e : j = i
    · subst e
      simp [updV, va_rf]
    · by_cases h : j < i
      · simp [updV, e, h, Nat.lt_succ_of_lt h]
      · simp [updV, e, h, show ¬ j < i + 1 by omega]
def va_AOA (U : State) : Prop := (Cond.arrayOver (.array .int)).before #[] U = true
theorem va_AOA.moved {u U : State} (hvm : u.vm.Alike U.vm) (h : va_AOA u) : va_AOA U := Jvm.Stand.arrayOver_alikeB hvm h
def Nst (U : State) : Prop := va_Nw (.methodLinkNest RX6 17 yX4_init RX6) U ∧ va_Nw (.methodLinkNest RX4 11 yX2_init RX6) U ∧ va_Nw (.methodLinkNest RX6 24 yX2_init RX6) U ∧ va_Nw (.methodLinkNest RX0 17 yX2_init RX6) U ∧ va_Nw (.methodLinkNest RX6 42 yX3_init RX6) U ∧ va_Nw (.methodLinkNest RX3 11 yX2_init RX6) U ∧ va_Nw (.methodLinkNest RX6 49 yX1_init RX6) U ∧ va_Nw (.methodLinkNest RX6 54 yX5_init RX6) U
def SC (g : Gx) (U : State) : Prop := SK g U ∧ va_AO RX2 U ∧ va_AO RX5 U ∧ va_AOA U ∧ Nst U
theorem SC.warm {g : Gx} {s U : State} (hW : s.WarmedH U.vm) (h : SC g s) : SC g U := by
  obtain ⟨h0, h1, h2, h3, a, b, c, d, e, f, i, j⟩ := h
  exact ⟨h0.warm hW, h1.moved hW.alike, h2.moved hW.alike, h3.moved hW.alike, va_Nw.warmM hW a, va_Nw.warmM hW b, va_Nw.warmM hW c, va_Nw.warmM hW d, va_Nw.warmM hW e, va_Nw.warmM hW f, va_Nw.warmM hW i, va_Nw.warmM hW j⟩
theorem SC.calling {g : Gx} {U : State} {f : JFrame} {mk : MethodId} {a : Array Value} (h : SC g U) : SC g (U.calling f mk a) := by
  obtain ⟨h0, h1, h2, h3, a1, b, c, d, e, f1, i, j⟩ := h
  have hv : U.vm.Alike (U.calling f mk a).vm := Vm.Alike.refl U.vm
  exact ⟨h0.calling, h1.moved hv, h2.moved hv, h3.moved hv, va_Nw.same rfl rfl a1, va_Nw.same rfl rfl b, va_Nw.same rfl rfl c, va_Nw.same rfl rfl d, va_Nw.same rfl rfl e, va_Nw.same rfl rfl f1, va_Nw.same rfl rfl i, va_Nw.same rfl rfl j⟩
def LW (z n : Nat) (c : Nat → va_E) : va_W := (List.range n).map (fun i => (z + i, c i))
def Ly (D : va_G) (z n : Nat) (c : Nat → va_E) (H : Heap) : Prop := H.size = z + n ∧ va_P D vwCl (LW z n c) H
theorem LW_get {z n : Nat} {c : Nat → va_E} {i : Nat} (hi : i < n) {e : va_E} (he : c i = e) : (LW z n c)[i]? = some (z + i, e) := by
  subst he
  simp [LW, hi]
theorem LW_at {z n : Nat} {c : Nat → va_E} {i : Nat} {q : Nat × va_E} (h : (LW z n c)[i]? = some q) : i < n ∧ q = (z + i, c i) := by
  simp only [LW, List.getElem?_map, Option.map_eq_some_iff] at h
  obtain ⟨a, ha, rfl⟩ := h
  obtain ⟨h1, h2⟩ := List.getElem?_eq_some_iff.mp ha
  simp at h1 h2
  subst h2
  exact ⟨h1, rfl⟩
theorem LW_D {z n : Nat} {c : Nat → va_E} {A : Nat → Prop} (hA : ∀ q, z ≤ q → A q) : va_D A (LW z n c) := by
  refine ⟨fun i j p q hi hj hpq => ?_, fun i q hq => ?_⟩
  · obtain ⟨a1, rfl⟩ := LW_at hi
    obtain ⟨b1, rfl⟩ := LW_at hj
    exact Nat.add_left_cancel hpq
  · obtain ⟨a1, rfl⟩ := LW_at hq
    exact hA _ (Nat.le_add_right _ _)
theorem LW_set {z n : Nat} {c : Nat → va_E} {i : Nat} (hi : i < n) {e : va_E} : (LW z n c).set i (z + i, e) = LW z n (va_up c i e) := by
  apply List.ext_getElem?
  intro b
  by_cases hb : b = i
  · subst hb
    rw [List.getElem?_set_self (by simp [LW]; exact hi), LW_get hi (c := va_up c b e) (e := e) (by simp [va_up])]
  · rw [List.getElem?_set_ne (Ne.symm hb)]
    simp only [LW, List.getElem?_map]
    by_cases hl : b < n
    · simp [hl, va_up, hb]
    · simp [hl]
theorem Ly.at {D : va_G} {z n : Nat} {c : Nat → va_E} {H : Heap} (h : Ly D z n c H) {i : Nat} (hi : i < n) : va_at D vwCl (z + i, c i) H := h.2 i _ (LW_get hi rfl)
theorem Ly.of {D : va_G} {z n : Nat} {c : Nat → va_E} {H : Heap} (hz : H.size = z + n) (h : ∀ i, i < n → va_at D vwCl (z + i, c i) H) : Ly D z n c H := ⟨hz, fun i q hq => by obtain ⟨h1, rfl⟩ := LW_at hq; exact h i h1⟩
theorem Ly.congr {D : va_G} {z n : Nat} {c c1 : Nat → va_E} {H : Heap} (h : Ly D z n c H) (he : ∀ i, i < n → c i = c1 i) : Ly D z n c1 H := Ly.of h.1 (fun i hi => by rw [← he i hi]; exact h.at hi)
theorem Ly.push {D : va_G} {z n : Nat} {c : Nat → va_E} {H H1 : Heap} {e : va_E} (h : Ly D z n c H) (hz : H1.size = z + n + 1) (ho : ∀ q, q < z + n → H1[q]? = H[q]?) (he : va_at D vwCl (z + n, e) H1) : Ly D z (n + 1) (va_up c n e) H1 := Ly.of hz (fun i hi => by
  by_cases hn : i = n
  · subst hn
    simpa [va_up] using he
  · simp only [va_up, if_neg hn]
    exact (h.at (by omega)).kept (ho _ (by omega)))
def glue (n : Nat) (c c1 : Nat → va_E) : Nat → va_E := fun i => if i < n then c i else c1 (i - n)
theorem Ly.glue {D : va_G} {z n m : Nat} {c c1 : Nat → va_E} {H H1 : Heap} (h : Ly D z (n + 1) c H) (ho : ∀ q, q < z + n → H1[q]? = H[q]?) (h1 : Ly D (z + n) m c1 H1) : Ly D z (n + m) (glue n c c1) H1 := Ly.of (by rw [h1.1]; omega) (fun i hi => by
  by_cases hn : i < n
  · simp only [_root_.Jvm.Pilot.CFogSheetsLaw_law_r9752_280e2a.glue, if_pos hn]
    exact (h.at (by omega)).kept (ho _ (by omega))
  · simp only [_root_.Jvm.Pilot.CFogSheetsLaw_law_r9752_280e2a.glue, if_neg hn]
    have := h1.at (i := i - n) (by omega)
    rwa [show z + n + (i - n) = z + i by omega] at this)
def CB (p : Program) (s : State) (m : MethodId) (args : Array Value) (c : Code) (cc : ByteArray) (nL : Nat) (own : String) (g : Gx) : Prop :=
  p.tables.exec = Jvm.exec ∧ c.code = cc ∧ c.maxLocals = nL ∧ s.vm.findClass own = some m.cls ∧ (∀ w ∈ GG, w.before args s = true) ∧ SC g s
abbrev rmC (d mc ms : Nat) : Room := { frames := d + 1, cells := mc, slots := ms, locals := 42 * (d + 1) }
abbrev PreL (g : Gx) (a ci : Nat) (fs : List Value) (U : State) : Prop := SC g U ∧ Ly g.1 a 1 (fun _ => .inr (ci, fs)) U.heap
abbrev KI (l : Launch) (y : MethodName) (c : ByteArray) (n d : Nat) (g : Gx) (ci : Nat) (fs : List Value) (mc ms nX : Nat) (cX : Nat → va_E) (a : Nat) : Prop :=
  Met l y (wsy y c n none) (rmC d mc ms) (va_Pc [.ref a] (PreL g a ci fs)) (va_Qv (fun _ : Unit => True) (fun _ t => Ly g.1 a nX cX t.heap) (fun q => a ≤ q)) mc ms (fun q => a ≤ q)
theorem PreL.blind {g : Gx} {a ci : Nat} {fs : List Value} : FrameBlind (va_Pc [.ref a] (PreL g a ci fs)) := fun _ _ _ _ q => ⟨q.1, q.2.1.calling, q.2.2⟩
section XB
variable {p : Program} {l : Launch} {e : Env} {R : Room} {s : State} {m : MethodId} {args : Array Value} {below : List Frame} {meth : Method} {c : Code} {H : Heap} {locs : List Loc} {cells slots : Nat} {Q : State → Prop}
variable {cc : ByteArray} {nL pc : Nat} {own : String} {g : Gx} {ls : Array Slot} {rest : List Value} {z n : Nat} {f : Nat → va_E} {A : Nat → Prop}
theorem r_S {H1 : Heap} (hS : va_S A s.heap H locs) (h1 : H.size ≤ H1.size) (ho : ∀ q, q < H.size → H1[q]? = H[q]?) : va_S A s.heap H1 locs := ⟨Nat.le_trans hS.1 h1, fun q hq hA => (ho q (Nat.lt_of_lt_of_le hq hS.1)).trans (hS.2.1 q hq hA), hS.2.2⟩
theorem r_new (X : CB p s m args c cc nL own g) (hL : Ly g.1 z n f H) (hS : va_S A s.heap H locs) {ci N index : Nat} {C : String} {T : u_T} {ty : Nat → FieldType} (hcl : vwCl[ci]? = some (C, T, N)) (hin : ∀ w ∈ u_ws C T N, w ∈ GG) (hty : ∀ k, k < N → parseFieldDescriptor (T k).2.2.1 = some (ty k)) (hl : Cond.classLink own index C ∈ GG ∧ Cond.instantiable C N ∈ GG ∧ Cond.initialized C ∈ GG) {fs : List Value} (hfs : ∀ j, j < N → defaultValue (ty j) = vp_V fs j) (hcells : cells + 1 ≤ R.cells) (hslots : slots + N ≤ R.slots) (hdg : decode cc pc = .ok (.new index, 3))
    (kk : ∀ H1 : Heap, Ly g.1 z (n + 1) (va_up f n (.inr (ci, fs))) H1 → va_S A s.heap H1 locs → W p l e R s m args below meth c H1 locs (cells + 1) (slots + N) Q (F0 m (pc + 3) ls (.ref (z + n) :: rest))) : W p l e R s m args below meth c H locs cells slots Q (F0 m pc ls rest) := by
  have hts := X.2.2.2.2.1
  have hKn := X.2.2.2.2.2.1.1.1 ci _ hcl
  refine W.newcK X.1 X.2.1 X.2.2.2.1 (hts _ hl.1) (hts _ hl.2.1) (hts _ hl.2.2) rfl hdg hcells hslots hKn.2.1 hL.1 fun H1 kC hkC e1 z1 o1 => ?_
  exact kk H1 (hL.push z1 o1 ⟨_, hcl, (u_born ty hts hin hKn hkC e1 hty).to hfs⟩) (r_S hS (by rw [z1, hL.1]; exact Nat.le_succ _) (fun q hq => o1 q (by rw [← hL.1]; exact hq)))
theorem r_newI (X : CB p s m args c cc nL own g) (hL : Ly g.1 z n f H) (hS : va_S A s.heap H locs) (hw : Cond.arrayClass .int ∈ GG) {v : Int32} {N : Nat} (hn : ¬ v < 0) (hN : v.toNatClampNeg = N) (hbytes : N * 4 ≤ 536870912) (hcells : cells + 1 ≤ R.cells) (hslots : slots + N ≤ R.slots) (hdg : decode cc pc = .ok (.newarray .int, 2))
    (kk : ∀ H1 : Heap, Ly g.1 z (n + 1) (va_up f n (.inl (g.2.1 0, N, .inl (fun _ => 0)))) H1 → va_S A s.heap H1 locs → W p l e R s m args below meth c H1 locs (cells + 1) (slots + N) Q (F0 m (pc + 2) ls (.ref (z + n) :: rest))) : W p l e R s m args below meth c H locs cells slots Q (F0 m pc ls (.int v :: rest)) := by
  have hts := X.2.2.2.2.1
  refine va_newaK (atype := .int) X.1 X.2.1 (hts _ hw) rfl hdg rfl hn hN hbytes hcells hslots hL.1 fun H1 cA e1 z1 o1 hAr hNm => ?_
  have hcA : cA = g.2.1 0 := Option.some.inj (hNm.symm.trans (X.2.2.2.2.2.1.1.2 0 _ rfl).2)
  subst hcA
  exact kk H1 (hL.push z1 o1 e1) (r_S hS (by rw [z1, hL.1]; exact Nat.le_succ _) (fun q hq => o1 q (by rw [← hL.1]; exact hq)))
theorem r_newZ (X : CB p s m args c cc nL own g) (hL : Ly g.1 z n f H) (hS : va_S A s.heap H locs) (hw : Cond.arrayClass .boolean ∈ GG) {v : Int32} {N : Nat} (hn : ¬ v < 0) (hN : v.toNatClampNeg = N) (hbytes : N * 1 ≤ 536870912) (hcells : cells + 1 ≤ R.cells) (hslots : slots + N ≤ R.slots) (hdg : decode cc pc = .ok (.newarray .boolean, 2))
    (kk : ∀ H1 : Heap, Ly g.1 z (n + 1) (va_up f n (.inl (g.2.1 1, N, .inl (fun _ => 0)))) H1 → va_S A s.heap H1 locs → W p l e R s m args below meth c H1 locs (cells + 1) (slots + N) Q (F0 m (pc + 2) ls (.ref (z + n) :: rest))) : W p l e R s m args below meth c H locs cells slots Q (F0 m pc ls (.int v :: rest)) := by
  have hts := X.2.2.2.2.1
  refine va_newaK (atype := .boolean) X.1 X.2.1 (hts _ hw) rfl hdg rfl hn hN hbytes hcells hslots hL.1 fun H1 cA e1 z1 o1 hAr hNm => ?_
  have hcA : cA = g.2.1 1 := Option.some.inj (hNm.symm.trans (X.2.2.2.2.2.1.1.2 1 _ rfl).2)
  subst hcA
  exact kk H1 (hL.push z1 o1 e1) (r_S hS (by rw [z1, hL.1]; exact Nat.le_succ _) (fun q hq => o1 q (by rw [← hL.1]; exact hq)))
theorem r_anew (X : CB p s m args c cc nL own g) (hL : Ly g.1 z n f H) (hS : va_S A s.heap H locs) {C : String} {index t0 : Nat} (hao : va_AO C s) (ht : (tysG g)[t0]? = some (g.2.1 t0, .object C)) (hw : Cond.classLink own index C ∈ GG) {v : Int32} {N : Nat} (hn : ¬ v < 0) (hN : v.toNatClampNeg = N) (hbytes : N * 4 ≤ 536870912) (hcells : cells + 1 ≤ R.cells) (hslots : slots + N ≤ R.slots) (hdg : decode cc pc = .ok (.anewarray index, 3))
    (kk : ∀ H1 : Heap, Ly g.1 z (n + 1) (va_up f n (.inl (g.2.1 t0, N, .inr (.inr (.inr (.inr (fun _ => none))))))) H1 → va_S A s.heap H1 locs → W p l e R s m args below meth c H1 locs (cells + 1) (slots + N) Q (F0 m (pc + 3) ls (.ref (z + n) :: rest))) : W p l e R s m args below meth c H locs cells slots Q (F0 m pc ls (.int v :: rest)) := by
  have hts := X.2.2.2.2.1
  subst hN
  refine W.anew X.1 X.2.1 X.2.2.2.1 (hts _ hw) (va_AO.use hao) rfl hdg rfl hn hbytes hcells hslots fun cA kA comp f1 f2 f3 f4 => ?_
  obtain ⟨kA', comp', k1, k2, k3, k4⟩ := (X.2.2.2.2.2.1.1.2 t0 _ ht).2
  have hcA : cA = g.2.1 t0 := Option.some.inj (f1.symm.trans k4)
  subst hcA
  generalize hH1 : H.push ({ cls := g.2.1 t0, slots := Array.replicate v.toNatClampNeg .null, vm := .none } : Cell) = H1
  have z1 : H1.size = H.size + 1 := by rw [← hH1, Array.size_push]
  have e1 : H1[H.size]? = some (arrV (g.2.1 t0) v.toNatClampNeg (fun _ => .null)) := by rw [← hH1, Array.getElem?_push_size, ← arrV_new]
  have o1 : ∀ q : Nat, q < H.size → H1[q]? = H[q]? := fun q hq => by rw [← hH1, Array.getElem?_push, if_neg (Nat.ne_of_lt hq)]
  have := kk H1 (hL.push (by rw [z1, hL.1]) (fun q hq => o1 q (by rw [hL.1]; exact hq)) (by rw [← hL.1]; exact e1)) (r_S hS (by rw [z1]; exact Nat.le_succ _) o1)
  rw [← hL.1] at this
  exact this
theorem r_mna (X : CB p s m args c cc nL own g) (hL : Ly g.1 z n f H) (hS : va_S A s.heap H locs) {index : Nat} (hw : Cond.classLink own index "[[I" ∈ GG ∧ Cond.arrayClass .int ∈ GG) {v w : Int32} {N K : Nat} (hn : ¬ v < 0) (hk : ¬ w < 0) (hN : v.toNatClampNeg = N) (hK : w.toNatClampNeg = K) (hb1 : N * 4 ≤ 536870912) (hb2 : K * 4 ≤ 536870912) (hb3 : K ≤ 536870912) (hcells : cells + (1 + N) ≤ R.cells) (hslots : slots + (N + N * K) ≤ R.slots) (hdg : decode cc pc = .ok (.multianewarray index 2, 4))
    (kk : ∀ H1 : Heap, Ly g.1 z (n + 1 + N) (glue n f (fun i => if i = 0 then .inl (g.2.1 4, N, .inr (.inr (.inr (.inr (fun i => if i < N then some (z + n + 1 + i) else none))))) else .inl (g.2.1 0, K, .inl (fun _ => 0)))) H1 → va_S A s.heap H1 locs → W p l e R s m args below meth c H1 locs (cells + 1 + N) (slots + N + N * K) Q (F0 m (pc + 4) ls (.ref (z + n) :: rest))) : W p l e R s m args below meth c H locs cells slots Q (F0 m pc ls (.int w :: .int v :: rest)) := by
  have hts := X.2.2.2.2.1
  subst hN
  subst hK
  intro T hT Xs
  obtain ⟨vm₁, cA, comp, -, fA, fC, hO, -, X', step⟩ := Xs.multianewarray2F X.1 X.2.2.2.1 (ty := .int) (hts _ hw.1) X.2.2.2.2.2.2.2.2.1 (hts _ hw.2) (g := F0 m pc ls (.int w :: .int v :: rest)) rfl (by rw [X.2.1]; exact hdg) rfl hn hk hb1 hb2 hb3 rfl rfl hcells hslots
  have h0 : comp = g.2.1 0 := Option.some.inj (fC.symm.trans (X.2.2.2.2.2.1.1.2 0 _ rfl).2)
  have h4 : cA = g.2.1 4 := Option.some.inj (fA.symm.trans (X.2.2.2.2.2.1.1.2 4 _ rfl).2)
  subst h0
  subst h4
  generalize hF : Jvm.Free.Multi.fill (T.setVm vm₁) (g.2.1 4) (g.2.1 0) v.toNatClampNeg w.toNatClampNeg (defaultValue .int) v.toNatClampNeg = F at X' step
  have hTh : (T.setVm vm₁).heap = H := hT
  obtain ⟨f1, f2, -, -⟩ := Jvm.Free.Multi.fill_facts (T.setVm vm₁) (g.2.1 4) (g.2.1 0) v.toNatClampNeg w.toNatClampNeg (defaultValue .int) v.toNatClampNeg
  rw [hF, hTh] at f1 f2
  have hold : ∀ x : Nat, x < H.size → F.heap[x]? = H[x]? := fun x hx => by
    have := Jvm.Free.Multi.fill_old (T.setVm vm₁) (g.2.1 4) (g.2.1 0) v.toNatClampNeg w.toNatClampNeg (defaultValue .int) (a := x) (by rw [hTh]; exact hx) v.toNatClampNeg
    rw [hF, hTh] at this
    exact this
  have hrow : ∀ j : Nat, j < v.toNatClampNeg → F.heap[H.size + 1 + j]? = some (vp_cell (g.2.1 0) (w.toNatClampNeg, .inl (fun _ => 0))) := fun j hj => by
    have := Jvm.Free.Multi.fill_inner (T.setVm vm₁) (g.2.1 4) (g.2.1 0) v.toNatClampNeg w.toNatClampNeg (defaultValue .int) v.toNatClampNeg j hj
    rw [hF, hTh] at this
    rw [this]
    congr 1
    rw [vp_cell_i]
    show ({ cls := g.2.1 0, slots := Array.replicate w.toNatClampNeg (defaultValue .int), vm := .none } : Cell) = _
    rw [arrV_new]
    rfl
  rw [vr_outer] at f2
  have hsz : H.size = z + n := hL.1
  have hLy : Ly g.1 z (n + 1 + v.toNatClampNeg) (glue n f (fun i => if i = 0 then .inl (g.2.1 4, v.toNatClampNeg, .inr (.inr (.inr (.inr (fun i => if i < v.toNatClampNeg then some (z + n + 1 + i) else none))))) else .inl (g.2.1 0, w.toNatClampNeg, .inl (fun _ => 0)))) F.heap := by
    refine Ly.of (by rw [f1, hsz]; omega) (fun i hi => ?_)
    by_cases hn : i < n
    · simp only [glue, if_pos hn]
      exact (hL.at hn).kept (hold _ (by show z + i < H.size; rw [hsz]; omega))
    · simp only [glue, if_neg hn]
      by_cases h0 : i = n
      · subst h0
        simp only [Nat.sub_self, if_pos]
        show F.heap[z + i]? = some (vp_cell _ _)
        rw [← hsz, vp_cell_q]
        exact f2
      · rw [if_neg (show ¬ i - n = 0 by omega)]
        show F.heap[z + i]? = some (vp_cell _ _)
        have := hrow (i - n - 1) (by omega)
        rwa [show H.size + 1 + (i - n - 1) = z + i by omega] at this
  obtain ⟨t, a1, b1⟩ := kk F.heap hLy (r_S hS (by rw [f1]; omega) hold) F rfl X'
  refine ⟨t, step t ?_, b1⟩
  have e1 : T.heap.size = z + n := by rw [hT]; exact hsz
  rw [e1]
  exact a1
theorem r_putF (X : CB p s m args c cc nL own g) (hL : Ly g.1 z n f H) (hS0 : va_S A s.heap H locs) (hA : ∀ q, z ≤ q → A q) {ci N : Nat} {C : String} {T : u_T} {ty0 : Nat → FieldType} (hcl : vwCl[ci]? = some (C, T, N)) (hin : ∀ w ∈ u_ws C T N, w ∈ GG) (hty : ∀ k, k < N → parseFieldDescriptor (T k).2.2.1 = some (ty0 k)) (hnm : ∀ a, a < N → ∀ b, b < N → a ≠ b → (T a).2.1 ≠ (T b).2.1) (q0 : Nat) (hi0 : q0 < n) {fs : List Value} (hc : f q0 = .inr (ci, fs)) (k : Nat) (hk : k < N) {index : Nat} (hdecl : (T k).1 = own) (hC : C = own) (hl : Cond.fieldLink own index C (T k).2.1 (T k).2.2.1 ∈ GG) (hfin : (T k).2.2.2 = true) (hin2 : meth.name = "<init>") {ty : FieldType} {v : Value} (hd : parseFieldDescriptor (T k).2.2.1 = some ty) (hn : narrow ty v = v) (hfit : fits ty v = true) (hlen : k < fs.length) (hdg : decode cc pc = .ok (.putfield index, 3))
    (kk : ∀ (H1 : Heap) (locs1 : List Loc), Ly g.1 z n (va_up f q0 (.inr (ci, fs.set k v))) H1 → va_S A s.heap H1 locs1 → W p l e R s m args below meth c H1 locs1 cells slots Q (F0 m (pc + 3) ls rest)) : W p l e R s m args below meth c H locs cells slots Q (F0 m pc ls (v :: .ref (z + q0) :: rest)) := by
  have hts := X.2.2.2.2.1
  have hK := X.2.2.2.2.2.1.1
  have hown := X.2.2.2.1
  have he := LW_get (z := z) hi0 hc
  have hD : va_D A (LW z n f) := LW_D hA
  have hap := va_apart (own := own) hts hin ty0 hty hnm hK hcl
  obtain ⟨r, h1, cell, q1, q2, q3, q4⟩ := hL.2 q0 _ he
  have hr : r = (C, T, N) := Option.some.inj (h1.symm.trans hcl)
  subst hr
  obtain ⟨hS, hfc, kC, hkC, hkind⟩ := hK.1 ci _ hcl
  obtain ⟨cf, kf, fi, fd, hi, hsl⟩ := hS k hk
  have hlay := hts _ (hin _ (u_in_lay hk))
  unfold u_lay at hlay
  rw [if_pos hfin] at hlay
  have hst := (u_facts hfc hkC (u_lays hts hin hk) hi).1
  have hcf : m.cls = cf := by
    obtain ⟨_, _, c', _, _, _, -, -, hf', -, -, -, hown2, -⟩ := Cond.laysFinal_spec hlay
    have e1 : c' = cf := by have := hi.symm.trans hf'; simp at this; exact this.1.symm
    rw [hdecl] at hown2
    rw [← e1]; exact Option.some.inj (hown.symm.trans hown2)
  have h6 := u_fits hfc hkC hkind (Or.inr hlay) hi hd hn hfit
  refine W.putFinK X.1 X.2.1 hown (hts _ hl) (by rw [hC, ← hdecl]; exact hi) hst hcf hin2 (by rw [q2]; exact h6) q1 q3 (by rw [hsl]; exact k2_hasslot (q4 k hk)) rfl rfl hdg fun H' e1 e2 e3 => ?_
  rw [hsl] at e1 ⊢
  have hP1 := hL.2.set hD he (e := .inr (ci, fs.set k v)) ⟨_, hcl, t_OB.to (V := updV (vp_V fs) k v) ⟨_, e1, q2, q3, t_set q4 hap hk v⟩ (fun j _ => vp_updV_set hlen v j)⟩ e3
  rw [LW_set hi0] at hP1
  exact kk H' _ ⟨by rw [e2, hL.1], hP1⟩ (hS0.put e2 e3 (hD.2 q0 _ he))
theorem r_putN (X : CB p s m args c cc nL own g) (hL : Ly g.1 z n f H) (hS0 : va_S A s.heap H locs) (hA : ∀ q, z ≤ q → A q) {ci N : Nat} {C : String} {T : u_T} {ty0 : Nat → FieldType} (hcl : vwCl[ci]? = some (C, T, N)) (hin : ∀ w ∈ u_ws C T N, w ∈ GG) (hty : ∀ k, k < N → parseFieldDescriptor (T k).2.2.1 = some (ty0 k)) (hnm : ∀ a, a < N → ∀ b, b < N → a ≠ b → (T a).2.1 ≠ (T b).2.1) (q0 : Nat) (hi0 : q0 < n) {fs : List Value} (hc : f q0 = .inr (ci, fs)) (k : Nat) (hk : k < N) {index : Nat} (hdecl : (T k).1 = C) (hl : Cond.fieldLink own index C (T k).2.1 (T k).2.2.1 ∈ GG) (hfin : (T k).2.2.2 = false) {ty : FieldType} {v : Value} (hd : parseFieldDescriptor (T k).2.2.1 = some ty) (hn : narrow ty v = v) (hfit : fits ty v = true) (hlen : k < fs.length) (hdg : decode cc pc = .ok (.putfield index, 3))
    (kk : ∀ (H1 : Heap) (locs1 : List Loc), Ly g.1 z n (va_up f q0 (.inr (ci, fs.set k v))) H1 → va_S A s.heap H1 locs1 → W p l e R s m args below meth c H1 locs1 cells slots Q (F0 m (pc + 3) ls rest)) : W p l e R s m args below meth c H locs cells slots Q (F0 m pc ls (v :: .ref (z + q0) :: rest)) := by
  have hts := X.2.2.2.2.1
  have hK := X.2.2.2.2.2.1.1
  have hown := X.2.2.2.1
  have he := LW_get (z := z) hi0 hc
  have hD : va_D A (LW z n f) := LW_D hA
  have hap := va_apart (own := own) hts hin ty0 hty hnm hK hcl
  obtain ⟨r, h1, cell, q1, q2, q3, q4⟩ := hL.2 q0 _ he
  have hr : r = (C, T, N) := Option.some.inj (h1.symm.trans hcl)
  subst hr
  obtain ⟨hS, hfc, kC, hkC, hkind⟩ := hK.1 ci _ hcl
  obtain ⟨cf, kf, fi, fd, hi, hsl⟩ := hS k hk
  have hlay := hts _ (hin _ (u_in_lay hk))
  unfold u_lay at hlay
  rw [if_neg (by rw [hfin]; decide)] at hlay
  have hst := (u_facts hfc hkC (u_lays hts hin hk) hi).1
  have h6 := u_store hfc hkC hkind hlay hi hd hn hfit
  refine W.putK X.1 X.2.1 (f := fd) ⟨hown, hts _ hl, ⟨_, _, _, by rw [hdecl] at hi; exact hi⟩, hst⟩ (by rw [q2]; exact h6) q1 q3 (by rw [hsl]; exact k2_hasslot (q4 k hk)) rfl rfl hdg fun H' e1 e2 e3 => ?_
  rw [hsl] at e1 ⊢
  have hP1 := hL.2.set hD he (e := .inr (ci, fs.set k v)) ⟨_, hcl, t_OB.to (V := updV (vp_V fs) k v) ⟨_, e1, q2, q3, t_set q4 hap hk v⟩ (fun j _ => vp_updV_set hlen v j)⟩ e3
  rw [LW_set hi0] at hP1
  exact kk H' _ ⟨by rw [e2, hL.1], hP1⟩ (hS0.put e2 e3 (hD.2 q0 _ he))
theorem r_get (X : CB p s m args c cc nL own g) (hL : Ly g.1 z n f H) {ci N : Nat} {C : String} {T : u_T} (hcl : vwCl[ci]? = some (C, T, N)) (hin : ∀ w ∈ u_ws C T N, w ∈ GG) (q0 : Nat) (hi0 : q0 < n) {fs : List Value} (hc : f q0 = .inr (ci, fs)) (k : Nat) (hk : k < N) {index : Nat} (hd : (T k).1 = C) (hl : Cond.fieldLink own index C (T k).2.1 (T k).2.2.1 ∈ GG) {v : Value} (hv : fs[k]? = some v) (hdg : decode cc pc = .ok (.getfield index, 3))
    (kk : W p l e R s m args below meth c H locs cells slots Q (F0 m (pc + 3) ls (v :: rest))) : W p l e R s m args below meth c H locs cells slots Q (F0 m pc ls (.ref (z + q0) :: rest)) :=
  va_get X.1 X.2.1 X.2.2.2.2.1 hin X.2.2.2.1 X.2.2.2.2.2.1.1 hL.2 q0 (LW_get hi0 hc) hcl k hk (X.2.2.2.2.1 _ hl) (by rw [hd]; exact fun _ h => h) hv hdg kk
theorem r_iast (X : CB p s m args c cc nL own g) (hL : Ly g.1 z n f H) (hS0 : va_S A s.heap H locs) (hA : ∀ q, z ≤ q → A q) (q0 : Nat) (hi0 : q0 < n) {N : Nat} {fi : Nat → Int32} (hc : f q0 = .inl (g.2.1 0, N, .inl fi)) {i x : Int32} (hin : inb i N = true) (hdg : decode cc pc = .ok (.iastore, 1))
    (kk : ∀ (H1 : Heap) (locs1 : List Loc), Ly g.1 z n (va_up f q0 (.inl (g.2.1 0, N, .inl (upd fi i.toNatClampNeg x)))) H1 → va_S A s.heap H1 locs1 → W p l e R s m args below meth c H1 locs1 cells slots Q (F0 m (pc + 1) ls rest)) : W p l e R s m args below meth c H locs cells slots Q (F0 m pc ls (.int x :: .int i :: .ref (z + q0) :: rest)) := by
  have hK := X.2.2.2.2.2.1.1
  have ha := LW_get (z := z) hi0 hc
  have hD : va_D A (LW z n f) := LW_D hA
  refine W.iast X.1 X.2.1 (hL.2 q0 _ ha) ((hK.2 0 _ rfl).1 N (fun j => .int (fi j))) (fun q => by cases q) (by show ¬ (i < 0 ∨ (arrV _ _ _).slots.size ≤ _); rw [arrV_size]; exact inb_in hin) rfl rfl hdg fun H1 e z1 oq => ?_
  have hP1 := hL.2.set hD ha (e := .inl (g.2.1 0, N, .inl (upd fi i.toNatClampNeg x))) (by
    show H1[_]? = some (vp_cell _ _)
    rw [e, vp_cell_i, vp_cell_i, arrV_store]
    congr 2
    funext q
    by_cases hq : q = i.toNatClampNeg
    · subst hq
      simp [updV, upd]
    · simp [updV, upd, hq]) oq
  rw [LW_set hi0] at hP1
  exact kk H1 _ ⟨by rw [z1, hL.1], hP1⟩ (hS0.put z1 oq (hD.2 q0 _ ha))
theorem r_aast (X : CB p s m args c cc nL own g) (hL : Ly g.1 z n f H) (hS0 : va_S A s.heap H locs) (hA : ∀ q, z ≤ q → A q) (q0 qk : Nat) (hi0 : q0 < n) (hik : qk < n) {N t0 ci : Nat} {r : vw_C} {vs : List Value} {fi : Nat → Option Nat} (hc0 : f q0 = .inl (g.2.1 t0, N, .inr (.inr (.inr (.inr fi))))) (ht : (tysG g)[t0]? = some (g.2.1 t0, .object r.1)) (hck : f qk = .inr (ci, vs)) (hcl : vwCl[ci]? = some r) {i : Int32} (hin : inb i N = true) (hdg : decode cc pc = .ok (.aastore, 1))
    (kk : ∀ (H1 : Heap) (locs1 : List Loc), Ly g.1 z n (va_up f q0 (.inl (g.2.1 t0, N, .inr (.inr (.inr (.inr (va_up fi i.toNatClampNeg (some (z + qk))))))))) H1 → va_S A s.heap H1 locs1 → W p l e R s m args below meth c H1 locs1 cells slots Q (F0 m (pc + 1) ls rest)) : W p l e R s m args below meth c H locs cells slots Q (F0 m pc ls (.ref (z + qk) :: .int i :: .ref (z + q0) :: rest)) := by
  have hK := X.2.2.2.2.2.1.1
  have ha := LW_get (z := z) hi0 hc0
  have hD : va_D A (LW z n f) := LW_D hA
  have hin := inb_in hin
  have hlt : i.toNatClampNeg < N := Nat.not_le.mp fun q => hin (Or.inr q)
  have h0 : ¬ i < 0 := fun q => hin (Or.inl q)
  obtain ⟨r', hr', cellV, g1, g2, g3, -⟩ := hL.2 qk _ (LW_get (z := z) hik hck)
  have hcls := (hK.1 ci r hcl).2
  obtain ⟨kA, comp, k1, k2, k3, -⟩ := (hK.2 t0 _ ht).2
  have hcomp : comp = g.1.1 ci := Option.some.inj (k3.symm.trans hcls.1)
  subst hcomp
  obtain ⟨kC, hkC, -⟩ := hcls.2
  refine W.aast X.1 X.2.1 (hL.2 q0 _ ha) (fun q h => by cases h) (fun h => by cases h) k1 k2 rfl hkC ⟨h0, by show _ < (arrV _ _ _).slots.size; rw [arrV_size]; exact hlt⟩ g1 (fun q h => by rw [g3] at h; cases h) (by rw [g2]; exact hkC) (by rw [g2]; exact va_assign hcls) rfl rfl hdg fun H1 e z1 oq => ?_
  have hP1 := hL.2.set hD ha (e := .inl (g.2.1 t0, N, .inr (.inr (.inr (.inr (va_up fi i.toNatClampNeg (some (z + qk)))))))) (by
    show H1[_]? = some (vp_cell _ _)
    rw [e]
    rw [vp_cell_q, vp_cell_q, arrV_store]
    congr 2
    funext q
    by_cases hq : q = i.toNatClampNeg
    · subst hq
      simp [updV, va_up, va_rf]
    · simp [updV, va_up, hq]) oq
  rw [LW_set hi0] at hP1
  exact kk H1 _ ⟨by rw [z1, hL.1], hP1⟩ (hS0.put z1 oq (hD.2 q0 _ ha))
theorem r_preL (X : CB p s m args c cc nL own g) (hL : Ly g.1 z (n + 1) f H) {ci : Nat} {fs : List Value} (hc : f n = .inr (ci, fs)) : ∀ U : State, U.heap = H → s.WarmedH U.vm → PreL g (z + n) ci fs U := fun U hU hW => ⟨X.2.2.2.2.2.warm hW, by
  rw [hU]
  refine Ly.of (by rw [hL.1]; rfl) (fun i hi => ?_)
  have : i = 0 := by omega
  subst this
  rw [← hc]
  exact hL.at (Nat.lt_succ_self n)⟩
variable {y : MethodName} {bytes : ByteArray} {maxL d index mc ms nX : Nat} {cX : Nat → va_E}
theorem r_cont {st0 : List Value} {a : Array Value} (hL : Ly g.1 z (n + 1) f H) (hS : va_S A s.heap H locs) (hA : ∀ q, z ≤ q → A q) (hr : va_Run p l e R s m args below meth c H locs cells slots mc ms (F0 m pc ls st0) rest (va_Qv (fun _ : Unit => True) (fun _ t => Ly g.1 (z + n) nX cX t.heap) (fun q => z + n ≤ q) a) (fun q => z + n ≤ q))
    (kk : ∀ (H1 : Heap) (locs1 : List Loc), Ly g.1 z (n + nX) (glue n f cX) H1 → va_S A s.heap H1 locs1 → W p l e R s m args below meth c H1 locs1 (cells + mc) (slots + ms) Q (F0 m (pc + 3) ls rest)) : W p l e R s m args below meth c H locs cells slots Q (F0 m pc ls st0) :=
  va_callv hr hS (fun q _ h => hA q (Nat.le_trans (Nat.le_add_right _ _) h)) (fun q h => hA q (Nat.le_trans (Nat.le_add_right _ _) h)) (fun _ t H1 locs1 ht _ _ hB _ hk hS1 => by
    rw [ht] at hB
    exact kk H1 locs1 (hL.glue (fun q hq => hk q (by rw [hL.1]; omega) (by omega)) hB) hS1)
theorem r_initN (X : CB p s m args c cc nL own g) (hL : Ly g.1 z (n + 1) f H) (hS : va_S A s.heap H locs) (hA : ∀ q, z ≤ q → A q) {ci : Nat} {fs : List Value} (hc : f n = .inr (ci, fs)) (hM : KI l y bytes maxL d g ci fs mc ms nX cX (z + n)) {host : String} (hw : Cond.code y bytes maxL none ∈ GG ∧ Cond.initialized y.cls ∈ GG ∧ Cond.instanceMethod y ∈ GG) (hN : va_Nw (.methodLinkNest own index y host) s) (hd : y.cls ≠ "java/lang/invoke/MethodHandle" ∧ y.cls ≠ "java/lang/invoke/VarHandle" ∧ (parseMethodDescriptor y.desc).map (fun d => d.parameters.length) = some 0) (hy : y.name = "<init>") (hsize : ls.size = nL) (hW : (rest.map fun v => v.category).sum ≤ 8) (hdg : decode cc pc = .ok (.invokespecial index, 3)) (hR : d + 1 + 1 ≤ R.frames ∧ 8 + (maxL + 11) + 42 * (d + 1) ≤ R.locals) (hf : cells + mc ≤ R.cells ∧ slots + ms ≤ R.slots)
    (kk : ∀ (H1 : Heap) (locs1 : List Loc), Ly g.1 z (n + nX) (glue n f cX) H1 → va_S A s.heap H1 locs1 → W p l e R s m args below meth c H1 locs1 (cells + mc) (slots + ms) Q (F0 m (pc + 3) ls rest)) : W p l e R s m args below meth c H locs cells slots Q (F0 m pc ls (.ref (z + n) :: rest)) :=
  r_cont hL hS hA (va_runIN (As := []) (rest := rest) (nL := nL) (b := z + n) (host := host) (bytes := bytes) (maxL := maxL) ⟨X.1, X.2.1, X.2.2.1, X.2.2.2.1, X.2.2.2.2.1⟩ hM ⟨va_cnB 0 X.2.2.2.2.1 (x_fit hw.1) rfl rfl rfl hN (X.2.2.2.2.1 _ hw.2.1) hd hR, hy, X.2.2.2.2.1 _ hw.2.2⟩ ⟨PreL.blind, fun U hU hW => ⟨rfl, r_preL X hL hc U hU hW⟩⟩ rfl rfl hsize rfl (lv_room hW) hdg hf) kk
theorem r_initP (X : CB p s m args c cc nL own g) (hL : Ly g.1 z (n + 1) f H) (hS : va_S A s.heap H locs) (hA : ∀ q, z ≤ q → A q) {ci : Nat} {fs : List Value} (hc : f n = .inr (ci, fs)) (hM : KI l y bytes maxL d g ci fs mc ms nX cX (z + n)) (hw : Cond.code y bytes maxL none ∈ GG ∧ Cond.initialized y.cls ∈ GG ∧ Cond.instanceMethod y ∈ GG ∧ Cond.methodLink own index y ∈ GG) (hd : y.cls ≠ "java/lang/invoke/MethodHandle" ∧ y.cls ≠ "java/lang/invoke/VarHandle" ∧ (parseMethodDescriptor y.desc).map (fun d => d.parameters.length) = some 0) (hy : y.name = "<init>") (hsize : ls.size = nL) (hW : (rest.map fun v => v.category).sum ≤ 8) (hdg : decode cc pc = .ok (.invokespecial index, 3)) (hR : d + 1 + 1 ≤ R.frames ∧ 8 + (maxL + 11) + 42 * (d + 1) ≤ R.locals) (hf : cells + mc ≤ R.cells ∧ slots + ms ≤ R.slots)
    (kk : ∀ (H1 : Heap) (locs1 : List Loc), Ly g.1 z (n + nX) (glue n f cX) H1 → va_S A s.heap H1 locs1 → W p l e R s m args below meth c H1 locs1 (cells + mc) (slots + ms) Q (F0 m (pc + 3) ls rest)) : W p l e R s m args below meth c H locs cells slots Q (F0 m pc ls (.ref (z + n) :: rest)) :=
  r_cont hL hS hA (va_runI (As := []) (rest := rest) (nL := nL) (b := z + n) (bytes := bytes) (maxL := maxL) ⟨X.1, X.2.1, X.2.2.1, X.2.2.2.1, X.2.2.2.2.1⟩ hM ⟨callB_of 0 X.2.2.2.2.1 (x_fit hw.1) rfl rfl rfl (X.2.2.2.2.1 _ hw.2.1) (X.2.2.2.2.1 _ hw.2.2.2) hd hR, hy, X.2.2.2.2.1 _ hw.2.2.1⟩ ⟨PreL.blind, fun U hU hW => ⟨rfl, r_preL X hL hc U hU hW⟩⟩ rfl rfl hsize rfl (lv_room hW) hdg hf) kk
theorem r_vret {a : Nat} (X : CB p s m args c cc nL own g) (hr : meth.sig.returnType = none) (hlocks : meth.locks = false) (hL : Ly g.1 a n f H) (hS : va_S (fun q => a ≤ q) s.heap H locs) (hdg : decode cc pc = .ok (.return_, 1)) : W p l e R s m args below meth c H locs cells slots (MQ below (va_Qv (fun _ : Unit => True) (fun _ t => Ly g.1 a n f t.heap) (fun q => a ≤ q)) args s cells slots (fun q => a ≤ q)) (F0 m pc ls []) :=
  W.vret X.1 X.2.1 hr (fun t ht _ => ⟨⟨(), rfl, trivial, (show Ly g.1 a n f t.heap by rw [ht]; exact hL)⟩, hS.F ht⟩) hS.2.2 hdg hlocks
end XB
