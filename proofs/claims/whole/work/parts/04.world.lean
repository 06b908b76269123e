/-! ===== the world: ids 0 .. 245 the class's cells, 246 .. 258 the reference's; 260, 261 the two static rows ===== -/
def GG : List Cond := lw_tbl.filter goodWord
theorem gg_in {w : Cond} (h : w ∈ lw_tbl) (hg : goodWord w = true) : w ∈ GG := List.mem_filter.mpr ⟨h, hg⟩
theorem gg_good {ws : List Cond} (h : ∀ w ∈ ws, w ∈ GG) : GoodIn GG ws := fun w hw => ⟨h w hw, good_of_word (List.mem_filter.mp (h w hw)).2⟩
abbrev wsy (y : MethodName) (c : ByteArray) (n : Nat) (r : Option FieldType) : List Cond := .code y c n r :: GG
abbrev Hp : Type := Nat → Nat → Int32
def up2 (h : Hp) (i k : Nat) (v : Int32) : Hp := va_up h i (upd (h i) k v)
abbrev Gx : Type := va_G × (Nat → ClassId) × (Nat → Nat)
def tysG (g : Gx) : List (ClassId × FieldType) := [(g.2.1 0, .int), (g.2.1 1, .boolean), (g.2.1 2, .object RX2), (g.2.1 3, .object RX5), (g.2.1 4, .array .int)]
def isIA (i : Nat) : Bool := if i < 203 then i % 7 != 0 else if i < 230 then (i == 206 || (decide (212 ≤ i) && decide (i ≤ 217)) || (decide (219 ≤ i) && decide (i ≤ 227)) || i == 229) else if i < 246 then i % 2 == 1 else false
def lenC (i : Nat) : Nat := if i < 203 then 6 else if i = 206 then 120 else if i < 227 then 16 else if i = 227 then 12 else if i = 229 then 16 else 40
def fE (g : Gx) (h : Hp) (i : Nat) : List Value := [.ref (g.2.2 (i + 1)), .ref (g.2.2 (i + 2)), .ref (g.2.2 (i + 3)), .ref (g.2.2 (i + 4)), .ref (g.2.2 (i + 5)), .ref (g.2.2 (i + 6)), .int (h i 6), .int (h i 7), .int (h i 8), .int (h i 9), .int (h i 10), .int (h i 11), .int (h i 12), .int (h i 13), .int (h i 14), .int (h i 15)]
def fF (g : Gx) (h : Hp) : List Value := [.ref (g.2.2 204), .ref (g.2.2 205), .ref (g.2.2 0), .ref (g.2.2 207), .ref (g.2.2 209), .ref (g.2.2 210), .ref (g.2.2 228), .int (h 203 7), .int (h 203 8)]
def fRd (g : Gx) (h : Hp) : List Value := [.ref (g.2.2 7), .int (h 205 1), .int (h 205 2), .int (h 205 3), .ref (g.2.2 206), .int (h 205 5), .int (h 205 6), .int (h 205 7)]
def fAc (g : Gx) (h : Hp) : List Value := [.ref (g.2.2 208), .int (h 207 1), .int (h 207 2)]
def fFo (g : Gx) (h : Hp) : List Value := [.ref (g.2.2 14), .ref (g.2.2 211), .ref (g.2.2 218), .ref (g.2.2 226), .ref (g.2.2 227), .int (h 210 5)]
def fAs (g : Gx) (h : Hp) : List Value := [.ref (g.2.2 229), .int (h 228 1)]
def fRw (g : Gx) (h : Hp) (i : Nat) : List Value := [.ref (g.2.2 (i + 1)), .int (h i 1), .int (h i 2), .int (h i 3)]
def rfA (c : ClassId) (n : Nat) (f : Nat → Nat) : va_E := .inl (c, n, .inr (.inr (.inr (.inr (fun j => some (f j))))))
def oC (g : Gx) (h : Hp) (i : Nat) : va_E :=
  if i < 203 then .inr (2, fE g h i)
  else if i = 203 then .inr (6, fF g h)
  else if i = 204 then rfA (g.2.1 3) 8 (fun j => g.2.2 (230 + 2 * j))
  else if i = 205 then .inr (4, fRd g h)
  else if i = 207 then .inr (0, fAc g h)
  else if i = 208 then rfA (g.2.1 2) 24 (fun j => g.2.2 (35 + 7 * j))
  else if i = 209 then rfA (g.2.1 2) 2 (fun j => g.2.2 (21 + 7 * j))
  else if i = 210 then .inr (3, fFo g h)
  else if i = 211 then rfA (g.2.1 4) 6 (fun j => g.2.2 (212 + j))
  else if i = 218 then rfA (g.2.1 4) 7 (fun j => g.2.2 (219 + j))
  else if i = 228 then .inr (1, fAs g h)
  else .inr (5, fRw g h i)
def lenM (i : Nat) : Nat := if i = 247 then 8 else if i = 248 then 8 else if i = 249 then 320 else if i < 253 then 50 else if i = 253 then 1200 else if i = 254 then 120 else if i = 255 then 96 else if i = 257 then 100 else 16
def isMA (i : Nat) : Bool := decide (247 ≤ i) && (decide (i ≤ 255) || i == 257 || i == 258)
def fM (g : Gx) (k : Hp) : List Value := [.int (k 246 0), .int (k 246 1), .ref (g.2.2 247), .ref (g.2.2 248), .ref (g.2.2 249), .ref (g.2.2 250), .ref (g.2.2 251), .ref (g.2.2 252), .ref (g.2.2 253), .int (k 246 9), .ref (g.2.2 254), .int (k 246 11), .int (k 246 12), .int (k 246 13), .int (k 246 14), .int (k 246 15), .int (k 246 16), .int (k 246 17), .int (k 246 18), .ref (g.2.2 255), .ref (g.2.2 256), .ref (g.2.2 257), .ref (g.2.2 258), .int (k 246 23)]
def cM (g : Gx) (k : Hp) (i : Nat) : va_E := if i = 246 then .inr (7, fM g k) else if i = 256 then .inl (g.2.1 1, 2, .inl (k 256)) else .inl (g.2.1 0, lenM i, .inl (k i))
def cW (g : Gx) (h k : Hp) (i : Nat) : va_E := if i < 246 then (if isIA i = true then .inl (g.2.1 0, lenC i, .inl (h i)) else oC g h i) else cM g k i
def WW (g : Gx) (h k : Hp) : va_W := (List.range 259).map (fun i => (g.2.2 i, cW g h k i))
def inA (g : Gx) : Nat → Prop := fun q => ∃ i, i < 259 ∧ q = g.2.2 i
def InjG (g : Gx) : Prop := ∀ i j, i < 259 → j < 259 → g.2.2 i = g.2.2 j → i = j
theorem WW_get {g : Gx} {h k : Hp} {i : Nat} (hi : i < 259) {e : va_E} (he : cW g h k i = e) : (WW g h k)[i]? = some (g.2.2 i, e) := by
  subst he
  simp [WW, hi]
theorem WW_D {g : Gx} {h k : Hp} (hI : InjG g) : va_D (inA g) (WW g h k) := by
  have key : ∀ (i : Nat) (q : Nat × va_E), (WW g h k)[i]? = some q → i < 259 ∧ q.1 = g.2.2 i := by
    intro i q hq
    simp only [WW, List.getElem?_map, Option.map_eq_some_iff] at hq
    obtain ⟨a, ha, rfl⟩ := hq
    obtain ⟨h1, h2⟩ := List.getElem?_eq_some_iff.mp ha
    simp at h1 h2
    subst h2
    exact ⟨h1, rfl⟩
  refine ⟨fun i j p q hi hj hpq => ?_, fun i q hq => ?_⟩
  · obtain ⟨a1, a2⟩ := key i p hi
    obtain ⟨b1, b2⟩ := key j q hj
    exact hI i j a1 b1 (by rw [← a2, ← b2, hpq])
  · obtain ⟨a1, a2⟩ := key i q hq
    exact ⟨i, a1, a2⟩
theorem WW_set {g : Gx} {h k h1 k1 : Hp} {i : Nat} (hi : i < 259) {e : va_E} (he : cW g h1 k1 i = e) (ho : ∀ b, b ≠ i → cW g h1 k1 b = cW g h k b) : (WW g h k).set i (g.2.2 i, e) = WW g h1 k1 := by
  apply List.ext_getElem?
  intro b
  by_cases hb : b = i
  · subst hb
    rw [List.getElem?_set_self (by simp [WW]; exact hi), WW_get hi he]
  · rw [List.getElem?_set_ne (Ne.symm hb)]
    simp only [WW, List.getElem?_map]
    by_cases hl : b < 259
    · simp [hl, ho b hb]
    · simp [hl]
theorem cW_h {g : Gx} {h h1 k : Hp} {b : Nat} (hb : h1 b = h b) : cW g h1 k b = cW g h k b := by
  unfold cW
  split
  · rw [hb]
    split
    · rfl
    · unfold oC
      by_cases e0 : b < 203
      · simp only [if_pos e0, fE, hb]
      · by_cases e1 : b = 203
        · subst e1; simp [fF, hb]
        · by_cases e2 : b = 205
          · subst e2; simp [fRd, hb]
          · by_cases e3 : b = 207
            · subst e3; simp [fAc, hb]
            · by_cases e4 : b = 210
              · subst e4; simp [fFo, hb]
              · by_cases e5 : b = 228
                · subst e5; simp [fAs, hb]
                · simp only [if_neg e0, if_neg e1, if_neg e2, if_neg e3, if_neg e4, if_neg e5, fRw, hb]
  · rfl
theorem cW_k {g : Gx} {h k k1 : Hp} {b : Nat} (hb : k1 b = k b) : cW g h k1 b = cW g h k b := by
  unfold cW
  split
  · rfl
  · unfold cM
    (repeat' split) <;> first | rfl | (subst_vars; simp only [fM, hb]) | rw [hb]
theorem up2_ne {h : Hp} {i j b : Nat} {v : Int32} (hb : b ≠ i) : up2 h i j v b = h b := va_up_ne _ _ hb
theorem up2_self {h : Hp} {i j : Nat} {v : Int32} : up2 h i j v i = upd (h i) j v := by simp [up2, va_up]
theorem up2_at {h : Hp} {i j a b : Nat} {v : Int32} : up2 h i j v a b = if a = i ∧ b = j then v else h a b := by
  unfold up2 va_up upd
  by_cases ha : a = i
  · subst ha; by_cases hb : b = j <;> simp [hb]
  · simp [ha]
def isE (e : Nat) : Prop := e % 7 = 0 ∧ e < 203
def isR (r : Nat) : Prop := r % 2 = 0 ∧ 230 ≤ r ∧ r < 246
theorem cl_E {g : Gx} {h k : Hp} {e : Nat} (he : isE e) : cW g h k e = .inr (2, fE g h e) := by
  obtain ⟨h1, h2⟩ := he
  have h3 : e < 246 := by omega
  simp [cW, isIA, oC, h1, h2, h3]
theorem cl_R {g : Gx} {h k : Hp} {r : Nat} (hr : isR r) : cW g h k r = .inr (5, fRw g h r) := by
  obtain ⟨h1, h2, h3⟩ := hr
  have a1 : ¬ r < 203 := by omega
  have a2 : ¬ r < 230 := by omega
  have b1 : r ≠ 203 := by omega
  have b2 : r ≠ 204 := by omega
  have b3 : r ≠ 205 := by omega
  have b4 : r ≠ 207 := by omega
  have b5 : r ≠ 208 := by omega
  have b6 : r ≠ 209 := by omega
  have b7 : r ≠ 210 := by omega
  have b8 : r ≠ 211 := by omega
  have b9 : r ≠ 218 := by omega
  have b10 : r ≠ 228 := by omega
  simp [cW, isIA, oC, a1, a2, b1, b2, b3, b4, b5, b6, b7, b8, b9, b10, h1, h3]
theorem cl_F {g : Gx} {h k : Hp} : cW g h k 203 = .inr (6, fF g h) := rfl
theorem cl_Rd {g : Gx} {h k : Hp} : cW g h k 205 = .inr (4, fRd g h) := rfl
theorem cl_Ac {g : Gx} {h k : Hp} : cW g h k 207 = .inr (0, fAc g h) := rfl
theorem cl_Fo {g : Gx} {h k : Hp} : cW g h k 210 = .inr (3, fFo g h) := rfl
theorem cl_As {g : Gx} {h k : Hp} : cW g h k 228 = .inr (1, fAs g h) := rfl
theorem cl_M {g : Gx} {h k : Hp} : cW g h k 246 = .inr (7, fM g k) := rfl
theorem isIA_lt {i : Nat} (h : isIA i = true) : i < 246 := by
  unfold isIA at h
  split at h
  · omega
  · split at h
    · omega
    · split at h
      · omega
      · cases h
theorem cl_IA {g : Gx} {h k : Hp} {i : Nat} (hi : isIA i = true) : cW g h k i = .inl (g.2.1 0, lenC i, .inl (h i)) := by
  have := isIA_lt hi
  simp [cW, this, hi]
theorem isMA_ge {i : Nat} (h : isMA i = true) : 247 ≤ i ∧ i < 259 ∧ i ≠ 256 := by
  unfold isMA at h
  simp only [Bool.and_eq_true, decide_eq_true_eq, Bool.or_eq_true, beq_iff_eq] at h
  omega
theorem cl_MA {g : Gx} {h k : Hp} {i : Nat} (hi : isMA i = true) : cW g h k i = .inl (g.2.1 0, lenM i, .inl (k i)) := by
  obtain ⟨h1, h2, h3⟩ := isMA_ge hi
  have a1 : ¬ i < 246 := by omega
  have a2 : i ≠ 246 := by omega
  simp [cW, cM, a1, a2, h3]
theorem cl_Z {g : Gx} {h k : Hp} : cW g h k 256 = .inl (g.2.1 1, 2, .inl (k 256)) := rfl
/-! what is static: of the tables, of the two rows of Asks -/
def sizeB (j : Nat) : Int32 := match j with | 0 => 10 | 1 => 11 | 2 => 12 | 3 => 0 | 4 => 13 | _ => 14
def markB (j : Nat) : Int32 := match j with | 0 => 20 | 1 => 21 | 2 => 24 | 3 => 22 | 4 => 23 | _ => 0
def SK (g : Gx) (U : State) : Prop := va_K g.1 vwCl (tysG g) U ∧ va_Nw (.methodLinkNest RX4 97 yX6_isWithin RX6) U ∧ va_Nw (.methodLinkNest RX1 40 yX6_widerKind RX6) U
def SH (g : Gx) (U : State) (H : Heap) : Prop := (va_Z "FogSheets$Asks" "SIZE_BODIES" "[I" (.ref (g.2.2 260)) (inA g) U H ∧ va_T .int (g.2.2 260) 6 (fun j => .int (sizeB j)) (inA g) U H) ∧ va_Z "FogSheets$Asks" "MARK_BODIES" "[I" (.ref (g.2.2 261)) (inA g) U H ∧ va_T .int (g.2.2 261) 6 (fun j => .int (markB j)) (inA g) U H
theorem SK.warm {g : Gx} {s U : State} (hW : s.WarmedH U.vm) (h : SK g s) : SK g U := ⟨va_K.moved hW.alike h.1, va_Nw.warmM hW h.2.1, va_Nw.warmM hW h.2.2⟩
theorem SK.calling {g : Gx} {U : State} {f : JFrame} {mk : MethodId} {a : Array Value} (h : SK g U) : SK g (U.calling f mk a) := ⟨va_K.moved (u := U) (U := U.calling f mk a) (Vm.Alike.refl U.vm) h.1, va_Nw.same rfl rfl h.2.1, va_Nw.same rfl rfl h.2.2⟩
theorem SH.moved {g : Gx} {u U : State} {H : Heap} (hvm : u.vm.Alike U.vm) (h : SH g u H) : SH g U H := ⟨⟨h.1.1.moved hvm, h.1.2.moved hvm⟩, h.2.1.moved hvm, h.2.2.moved hvm⟩
theorem SH.kept {g : Gx} {U : State} {H H1 : Heap} (h : SH g U H) (hq : ∀ a : Nat, a < H.size → ¬ inA g a → H1[a]? = H[a]?) : SH g U H1 := ⟨⟨h.1.1.kept hq, h.1.2.kept hq⟩, h.2.1.kept hq, h.2.2.kept hq⟩
def PreW (g : Gx) (h k : Hp) (U : State) : Prop := SK g U ∧ SH g U U.heap ∧ va_P g.1 vwCl (WW g h k) U.heap
theorem PreW.blind {g : Gx} {h k : Hp} {As : List Value} : FrameBlind (va_Pc As (PreW g h k)) := fun a U f mk q => ⟨q.1, q.2.1.calling, SH.moved (u := U) (U := U.calling f mk a) (Vm.Alike.refl U.vm) q.2.2.1, q.2.2.2⟩
abbrev rmD (d : Nat) : Room := { frames := d + 1, cells := 0, slots := 0, locals := 42 * (d + 1) }
abbrev QI (g : Gx) (h k : Hp) (x : Int32) : Array Value → State → Outcome → State → Prop := va_Qi (fun z (_ : Unit) => z = x) (fun _ t => va_P g.1 vwCl (WW g h k) t.heap) (inA g)
abbrev QL (g : Gx) (h k : Hp) (x : Int64) : Array Value → State → Outcome → State → Prop := va_Ql (fun z (_ : Unit) => z = x) (fun _ t => va_P g.1 vwCl (WW g h k) t.heap) (inA g)
abbrev QV (g : Gx) (h k : Hp) : Array Value → State → Outcome → State → Prop := va_Qv (fun _ : Unit => True) (fun _ t => va_P g.1 vwCl (WW g h k) t.heap) (inA g)
abbrev QR (g : Gx) (h k : Hp) (i : Nat) : Array Value → State → Outcome → State → Prop := va_Qr (fun _ : Unit => True) (fun _ a t => a = g.2.2 i ∧ va_P g.1 vwCl (WW g h k) t.heap) (inA g)
abbrev CI (l : Launch) (y : MethodName) (c : ByteArray) (n : Nat) (r : Option FieldType) (d : Nat) (g : Gx) (As : List Value) (h k h1 k1 : Hp) (x : Int32) : Prop := Met l y (wsy y c n r) (rmD d) (va_Pc As (PreW g h k)) (QI g h1 k1 x) 0 0 (inA g)
abbrev CL (l : Launch) (y : MethodName) (c : ByteArray) (n : Nat) (r : Option FieldType) (d : Nat) (g : Gx) (As : List Value) (h k h1 k1 : Hp) (x : Int64) : Prop := Met l y (wsy y c n r) (rmD d) (va_Pc As (PreW g h k)) (QL g h1 k1 x) 0 0 (inA g)
abbrev CV (l : Launch) (y : MethodName) (c : ByteArray) (n : Nat) (r : Option FieldType) (d : Nat) (g : Gx) (As : List Value) (h k h1 k1 : Hp) : Prop := Met l y (wsy y c n r) (rmD d) (va_Pc As (PreW g h k)) (QV g h1 k1) 0 0 (inA g)
abbrev CR (l : Launch) (y : MethodName) (c : ByteArray) (n : Nat) (r : Option FieldType) (d : Nat) (g : Gx) (As : List Value) (h k h1 k1 : Hp) (i : Nat) : Prop := Met l y (wsy y c n r) (rmD d) (va_Pc As (PreW g h k)) (QR g h1 k1 i) 0 0 (inA g)
/-- where a walk stands: the machine, the code, its class, the words, what is static -/
def Cx (p : Program) (s : State) (m : MethodId) (args : Array Value) (c : Code) (cc : ByteArray) (nL : Nat) (own : String) (g : Gx) : Prop :=
  p.tables.exec = Jvm.exec ∧ c.code = cc ∧ c.maxLocals = nL ∧ s.vm.findClass own = some m.cls ∧ (∀ w ∈ GG, w.before args s = true) ∧ SK g s ∧ InjG g ∧ SH g s s.heap
/-- a call's words -/
def MB (own : String) (index : Nat) (y : MethodName) (bytes : ByteArray) (maxL : Nat) (ret : Option FieldType) (n : Nat) : Prop :=
  Cond.code y bytes maxL ret ∈ GG ∧ Cond.initialized y.cls ∈ GG ∧ Cond.methodLink own index y ∈ GG ∧ (y.cls ≠ "java/lang/invoke/MethodHandle" ∧ y.cls ≠ "java/lang/invoke/VarHandle" ∧ (parseMethodDescriptor y.desc).map (fun d => d.parameters.length) = some n)
def MV (own C : String) (index : Nat) (y : MethodName) (bytes : ByteArray) (maxL : Nat) (ret : Option FieldType) (n : Nat) : Prop := MB own index y bytes maxL ret n ∧ Cond.instanceMethod y ∈ GG ∧ Cond.selects C y y ∈ GG
def MS (own : String) (index : Nat) (y : MethodName) (bytes : ByteArray) (maxL : Nat) (ret : Option FieldType) (n : Nat) : Prop := MB own index y bytes maxL ret n ∧ Cond.static y ∈ GG
/-- a nest mate's static method: its link stands in SK -/
def MN (y : MethodName) (bytes : ByteArray) (maxL : Nat) (ret : Option FieldType) (n : Nat) : Prop :=
  Cond.code y bytes maxL ret ∈ GG ∧ Cond.initialized y.cls ∈ GG ∧ Cond.static y ∈ GG ∧ (y.cls ≠ "java/lang/invoke/MethodHandle" ∧ y.cls ≠ "java/lang/invoke/VarHandle" ∧ (parseMethodDescriptor y.desc).map (fun d => d.parameters.length) = some n)
/-! the pure functions' joints -/
def chk {α : Type} (b : Bool) (o : Option α) : Option α := match b with | true => o | false => none
theorem chk_some {α : Type} {b : Bool} {o : Option α} {x : α} (h : chk b o = some x) : b = true ∧ o = some x := by
  cases b with
  | true => exact ⟨rfl, h⟩
  | false => cases h
theorem chk_t {α : Type} {o : Option α} : chk true o = o := rfl
def lk {α β : Type} (v : α) (k : α → β) : β := k v
theorem lk_at {α β : Type} {v x : α} {k : α → Option β} {r : β} (e : x = v) (h : lk v k = some r) : k x = some r := by subst e; exact h
theorem lk_e {α β : Type} {v : α} {k : α → β} : lk v k = k v := rfl
def bd {ρ α : Type} (a : Option (ρ × Hp)) (k : ρ → Hp → Option α) : Option α := match a with | some q => k q.1 q.2 | none => none
theorem bd_some {ρ α : Type} {a : Option (ρ × Hp)} {k : ρ → Hp → Option α} {x : α} (h : bd a k = some x) : ∃ (r : ρ) (h1 : Hp), a = some (r, h1) ∧ k r h1 = some x := by
  cases a with
  | none => cases h
  | some q => exact ⟨q.1, q.2, rfl, h⟩
theorem bd_e {ρ α : Type} {r : ρ} {h : Hp} {k : ρ → Hp → Option α} : bd (some (r, h)) k = k r h := rfl
def inb (i : Int32) (n : Nat) : Bool := decide (0 ≤ i.toInt) && decide (i.toInt < n)
theorem inb_in {i : Int32} {n : Nat} (h : inb i n = true) : vp_in i n := by
  simp only [inb, Bool.and_eq_true, decide_eq_true_eq] at h
  exact vp_in_iff.mpr h
def nz (i : Int32) : Bool := !decide (i = 0)
theorem nz_in {i : Int32} (h : nz i = true) : ¬ i = 0 := by simpa [nz] using h
def nzL (i : Int64) : Bool := !decide (i = 0)
theorem nzL_in {i : Int64} (h : nzL i = true) : ¬ i = 0 := by simpa [nzL] using h
def isB (v : Int32) : Bool := decide (v = 0) || decide (v = 1)
theorem isB_n {v : Int32} (h : isB v = true) : narrow .boolean (.int v) = .int v ∧ fits .boolean (.int v) = true := by
  simp only [isB, Bool.or_eq_true, decide_eq_true_eq] at h
  rcases h with rfl | rfl <;> exact ⟨rfl, rfl⟩
theorem ret_inj {ρ : Type} {a b : ρ} {h h1 : Hp} (e : some (a, h) = some (b, h1)) : a = b ∧ h = h1 := by
  have := Option.some.inj e
  exact ⟨congrArg Prod.fst this, congrArg Prod.snd this⟩
theorem if_at_t {α : Type} {c : Prop} [Decidable c] {a b : Option α} {x : α} (hc : c) (h : (if c then a else b) = some x) : a = some x := by rw [if_pos hc] at h; exact h
theorem if_at_f {α : Type} {c : Prop} [Decidable c] {a b : Option α} {x : α} (hc : ¬ c) (h : (if c then a else b) = some x) : b = some x := by rw [if_neg hc] at h; exact h
section XW
variable {p : Program} {l : Launch} {e : Env} {R : Room} {s : State} {m : MethodId} {args : Array Value} {below : List Frame} {meth : Method} {c : Code} {H : Heap} {locs : List Loc} {cells slots : Nat} {Q : State → Prop}
variable {cc : ByteArray} {nL pc : Nat} {own : String} {g : Gx} {ls : Array Slot} {rest : List Value} {h k : Hp}
theorem x_get (X : Cx p s m args c cc nL own g) (hP : va_P g.1 vwCl (WW g h k) H) {ci N : Nat} {C : String} {T : u_T} (hcl : vwCl[ci]? = some (C, T, N)) (hin : ∀ w ∈ u_ws C T N, w ∈ GG) (i : Nat) (hi : i < 259) {fs : List Value} (hc : cW g h k i = .inr (ci, fs)) (j : Nat) (hj : j < N) {index : Nat} (hd : (T j).1 = C) (hl : Cond.fieldLink own index C (T j).2.1 (T j).2.2.1 ∈ GG) {v : Value} (hv : fs[j]? = some v) (hdg : decode cc pc = .ok (.getfield index, 3))
    (kk : W p l e R s m args below meth c H locs cells slots Q (F0 m (pc + 3) ls (v :: rest))) : W p l e R s m args below meth c H locs cells slots Q (F0 m pc ls (.ref (g.2.2 i) :: rest)) :=
  va_get X.1 X.2.1 X.2.2.2.2.1 hin X.2.2.2.1 X.2.2.2.2.2.1.1 hP i (WW_get hi hc) hcl j hj (X.2.2.2.2.1 _ hl) (by rw [hd]; exact fun _ h => h) hv hdg kk
theorem x_put (X : Cx p s m args c cc nL own g) (hP : va_P g.1 vwCl (WW g h k) H) (hS : va_S (inA g) s.heap H locs) {ci N : Nat} {C : String} {T : u_T} {ty0 : Nat → FieldType} (hcl : vwCl[ci]? = some (C, T, N)) (hin : ∀ w ∈ u_ws C T N, w ∈ GG) (hty : ∀ k, k < N → parseFieldDescriptor (T k).2.2.1 = some (ty0 k)) (hnm : ∀ a, a < N → ∀ b, b < N → a ≠ b → (T a).2.1 ≠ (T b).2.1) (i : Nat) (hi : i < 259) {fs : List Value} (hc : cW g h k i = .inr (ci, fs)) (j : Nat) (hj : j < N) {index : Nat} (hd : (T j).1 = C) (hl : Cond.fieldLink own index C (T j).2.1 (T j).2.2.1 ∈ GG) (hfin : (T j).2.2.2 = false) {ty : FieldType} {v : Value} (hpd : parseFieldDescriptor (T j).2.2.1 = some ty) (hn : narrow ty v = v) (hfit : fits ty v = true) (hlen : j < fs.length) {h1 k1 : Hp} (he : cW g h1 k1 i = .inr (ci, fs.set j v)) (ho : ∀ b, b ≠ i → cW g h1 k1 b = cW g h k b) (hdg : decode cc pc = .ok (.putfield index, 3))
    (kk : ∀ (H1 : Heap) (locs1 : List Loc), va_P g.1 vwCl (WW g h1 k1) H1 → va_S (inA g) s.heap H1 locs1 → W p l e R s m args below meth c H1 locs1 cells slots Q (F0 m (pc + 3) ls rest)) : W p l e R s m args below meth c H locs cells slots Q (F0 m pc ls (v :: .ref (g.2.2 i) :: rest)) := by
  refine va_put X.1 X.2.1 X.2.2.2.2.1 hin ty0 hty hnm X.2.2.2.1 X.2.2.2.2.2.1.1 hP (WW_D X.2.2.2.2.2.2.1) hS i (WW_get hi hc) hcl j hj (X.2.2.2.2.1 _ hl) (by rw [hd]; exact fun _ h => h) hfin hpd hn hfit hlen hdg (fun H1 locs1 hP1 _ hS1 => ?_)
  rw [WW_set hi he ho] at hP1
  exact kk H1 locs1 hP1 hS1
theorem x_iald (X : Cx p s m args c cc nL own g) (hP : va_P g.1 vwCl (WW g h k) H) (a : Nat) (ha : a < 259) {n : Nat} {f : Nat → Int32} (hc : cW g h k a = .inl (g.2.1 0, n, .inl f)) {i : Int32} (hin : inb i n = true) (hdg : decode cc pc = .ok (.iaload, 1))
    (kk : W p l e R s m args below meth c H locs cells slots Q (F0 m (pc + 1) ls (.int (f i.toNatClampNeg) :: rest))) : W p l e R s m args below meth c H locs cells slots Q (F0 m pc ls (.int i :: .ref (g.2.2 a) :: rest)) :=
  va_iald X.1 X.2.1 X.2.2.2.2.2.1.1 hP a 0 (WW_get ha hc) rfl (inb_in hin) hdg kk
theorem x_iast (X : Cx p s m args c cc nL own g) (hP : va_P g.1 vwCl (WW g h k) H) (hS : va_S (inA g) s.heap H locs) (a : Nat) (ha : a < 259) {n : Nat} {f : Nat → Int32} (hc : cW g h k a = .inl (g.2.1 0, n, .inl f)) {i x : Int32} (hin : inb i n = true) {h1 k1 : Hp} (he : cW g h1 k1 a = .inl (g.2.1 0, n, .inl (upd f i.toNatClampNeg x))) (ho : ∀ b, b ≠ a → cW g h1 k1 b = cW g h k b) (hdg : decode cc pc = .ok (.iastore, 1))
    (kk : ∀ (H1 : Heap) (locs1 : List Loc), va_P g.1 vwCl (WW g h1 k1) H1 → va_S (inA g) s.heap H1 locs1 → W p l e R s m args below meth c H1 locs1 cells slots Q (F0 m (pc + 1) ls rest)) : W p l e R s m args below meth c H locs cells slots Q (F0 m pc ls (.int x :: .int i :: .ref (g.2.2 a) :: rest)) := by
  refine va_iast X.1 X.2.1 X.2.2.2.2.2.1.1 hP (WW_D X.2.2.2.2.2.2.1) hS a 0 (WW_get ha hc) rfl (inb_in hin) hdg (fun H1 locs1 hP1 _ hS1 => ?_)
  rw [WW_set ha he ho] at hP1
  exact kk H1 locs1 hP1 hS1
theorem x_aald (X : Cx p s m args c cc nL own g) (hP : va_P g.1 vwCl (WW g h k) H) (a : Nat) (ha : a < 259) {n t0 : Nat} {cA : ClassId} {ty : FieldType} {f : Nat → Nat} (hc : cW g h k a = rfA cA n f) (ht : (tysG g)[t0]? = some (cA, ty)) (hrt : ty.isReference = true) {i : Int32} (hin : inb i n = true) (hdg : decode cc pc = .ok (.aaload, 1))
    (kk : W p l e R s m args below meth c H locs cells slots Q (F0 m (pc + 1) ls (.ref (f i.toNatClampNeg) :: rest))) : W p l e R s m args below meth c H locs cells slots Q (F0 m pc ls (.int i :: .ref (g.2.2 a) :: rest)) := by
  have hin := inb_in hin
  have hlt : i.toNatClampNeg < n := Nat.not_le.mp fun q => hin (Or.inr q)
  exact W.aald (v := .ref (f i.toNatClampNeg)) (ty := ty) X.1 X.2.1 (hP a _ (WW_get ha hc)) ((X.2.2.2.2.2.1.1.2 t0 _ ht).1 n (fun j => va_rf (some (f j)))) hrt (fun q => by cases q) (by show ¬ (i < 0 ∨ (arrV _ _ _).slots.size ≤ _); rw [arrV_size]; exact hin) (by show (arrV _ _ _).slots[_]? = _; rw [arrV_read _ _ hlt]; rfl) rfl rfl hdg kk
theorem x_preP {g : Gx} {h k : Hp} {s : State} {H : Heap} {locs : List Loc} (hSK : SK g s) (hSH : SH g s s.heap) (hS : va_S (inA g) s.heap H locs) (hP : va_P g.1 vwCl (WW g h k) H) : ∀ U : State, U.heap = H → s.WarmedH U.vm → PreW g h k U := fun U hU hW => ⟨hSK.warm hW, by rw [hU]; exact (hSH.kept hS.2.1).moved hW.alike, by rw [hU]; exact hP⟩
end XW
