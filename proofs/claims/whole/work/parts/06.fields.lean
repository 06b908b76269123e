/-! ===== fields by class ===== -/
theorem isE_lt {e : Nat} (h : isE e) : e < 259 := by have := h.2; omega
theorem isR_lt {e : Nat} (h : isR e) : e < 259 := by have := h.2.2; omega
theorem ia_E1 {e : Nat} (h : isE e) : isIA (e + 1) = true := by
  obtain ⟨h1, h2⟩ := h
  have h3 : e + 1 < 203 := by omega
  have h4 : (e + 1) % 7 = 1 := by omega
  simp [isIA, h3, h4]
theorem len_E1 {e : Nat} (h : isE e) : lenC (e + 1) = 6 := by
  obtain ⟨h1, h2⟩ := h
  have h3 : e + 1 < 203 := by omega
  simp [lenC, h3]
theorem ia_E2 {e : Nat} (h : isE e) : isIA (e + 2) = true := by
  obtain ⟨h1, h2⟩ := h
  have h3 : e + 2 < 203 := by omega
  have h4 : (e + 2) % 7 = 2 := by omega
  simp [isIA, h3, h4]
theorem len_E2 {e : Nat} (h : isE e) : lenC (e + 2) = 6 := by
  obtain ⟨h1, h2⟩ := h
  have h3 : e + 2 < 203 := by omega
  simp [lenC, h3]
theorem ia_E3 {e : Nat} (h : isE e) : isIA (e + 3) = true := by
  obtain ⟨h1, h2⟩ := h
  have h3 : e + 3 < 203 := by omega
  have h4 : (e + 3) % 7 = 3 := by omega
  simp [isIA, h3, h4]
theorem len_E3 {e : Nat} (h : isE e) : lenC (e + 3) = 6 := by
  obtain ⟨h1, h2⟩ := h
  have h3 : e + 3 < 203 := by omega
  simp [lenC, h3]
theorem ia_E4 {e : Nat} (h : isE e) : isIA (e + 4) = true := by
  obtain ⟨h1, h2⟩ := h
  have h3 : e + 4 < 203 := by omega
  have h4 : (e + 4) % 7 = 4 := by omega
  simp [isIA, h3, h4]
theorem len_E4 {e : Nat} (h : isE e) : lenC (e + 4) = 6 := by
  obtain ⟨h1, h2⟩ := h
  have h3 : e + 4 < 203 := by omega
  simp [lenC, h3]
theorem ia_E5 {e : Nat} (h : isE e) : isIA (e + 5) = true := by
  obtain ⟨h1, h2⟩ := h
  have h3 : e + 5 < 203 := by omega
  have h4 : (e + 5) % 7 = 5 := by omega
  simp [isIA, h3, h4]
theorem len_E5 {e : Nat} (h : isE e) : lenC (e + 5) = 6 := by
  obtain ⟨h1, h2⟩ := h
  have h3 : e + 5 < 203 := by omega
  simp [lenC, h3]
theorem ia_E6 {e : Nat} (h : isE e) : isIA (e + 6) = true := by
  obtain ⟨h1, h2⟩ := h
  have h3 : e + 6 < 203 := by omega
  have h4 : (e + 6) % 7 = 6 := by omega
  simp [isIA, h3, h4]
theorem len_E6 {e : Nat} (h : isE e) : lenC (e + 6) = 6 := by
  obtain ⟨h1, h2⟩ := h
  have h3 : e + 6 < 203 := by omega
  simp [lenC, h3]
theorem ia_R {e : Nat} (h : isR e) : isIA (e + 1) = true := by
  obtain ⟨h1, h2, h3⟩ := h
  have a1 : ¬ e + 1 < 203 := by omega
  have a2 : ¬ e + 1 < 230 := by omega
  have a3 : e + 1 < 246 := by omega
  have a4 : (e + 1) % 2 = 1 := by omega
  simp [isIA, a1, a2, a3, a4]
theorem len_R {e : Nat} (h : isR e) : lenC (e + 1) = 40 := by
  obtain ⟨h1, h2, h3⟩ := h
  have a1 : ¬ e + 1 < 203 := by omega
  have a2 : e + 1 ≠ 206 := by omega
  have a3 : ¬ e + 1 < 227 := by omega
  have a4 : e + 1 ≠ 227 := by omega
  have a5 : e + 1 ≠ 229 := by omega
  simp [lenC, a1, a2, a3, a4, a5]
theorem inb_lt {i : Int32} {n : Nat} (h : inb i n = true) : i.toNatClampNeg < n := by
  simp only [inb, Bool.and_eq_true, decide_eq_true_eq] at h
  show i.toInt.toNat < n
  omega
theorem isR_row {i : Int32} (h : inb i 8 = true) : isR (230 + 2 * i.toNatClampNeg) := by
  have := inb_lt h
  exact ⟨by omega, by omega, by omega⟩
theorem isE_act {i : Int32} (h : inb i 24 = true) : isE (35 + 7 * i.toNatClampNeg) := by
  have := inb_lt h
  exact ⟨by omega, by omega⟩
theorem isE_img {i : Int32} (h : inb i 2 = true) : isE (21 + 7 * i.toNatClampNeg) := by
  have := inb_lt h
  exact ⟨by omega, by omega⟩
theorem ia_ov {i : Int32} (h : inb i 6 = true) : isIA (212 + i.toNatClampNeg) = true := by
  have h := inb_lt h
  have a1 : ¬ 212 + i.toNatClampNeg < 203 := by omega
  have a2 : 212 + i.toNatClampNeg < 230 := by omega
  have a3 : 212 + i.toNatClampNeg ≤ 217 := by omega
  simp [isIA, a1, a2, a3]
theorem ia_lf {i : Int32} (h : inb i 7 = true) : isIA (219 + i.toNatClampNeg) = true := by
  have h := inb_lt h
  have a1 : ¬ 219 + i.toNatClampNeg < 203 := by omega
  have a2 : 219 + i.toNatClampNeg < 230 := by omega
  have a3 : 219 + i.toNatClampNeg ≤ 227 := by omega
  simp [isIA, a1, a2, a3]
def isEb (e : Nat) : Bool := decide (e % 7 = 0) && decide (e < 203)
theorem isEb_in {e : Nat} (h : isEb e = true) : isE e := by
  simp only [isEb, Bool.and_eq_true, decide_eq_true_eq] at h
  exact h
def jp {α β : Type} (F : α) (k : α → β) : β := k F
theorem jp_at {α γ : Type} {F : α} {k : α → Option γ} {r : γ} (h : jp F k = some r) : ∃ J, J = F ∧ k J = some r := ⟨F, rfl, h⟩
def irm (x y : Int32) : Int32 := x - x / y * y
def lrm (x y : Int64) : Int64 := x - x / y * y
def shlI (x y : Int32) : Int32 := x <<< (y &&& 31)
def shrI (x y : Int32) : Int32 := x >>> (y &&& 31)
def minJ (x y : Int32) : Int32 := if y < x then y else x
def maxJ (x y : Int32) : Int32 := if x < y then y else x
def ushrI (x y : Int32) : Int32 := (x.toUInt32 >>> (y.toUInt32 &&& Int32.toUInt32 31)).toInt32
theorem inX0 : ∀ w ∈ u_ws RX0 TX0 3, w ∈ GG := by
  have h : ∀ w ∈ u_ws RX0 TX0 3, w ∈ lw_tbl ∧ goodWord w = true := by decide +kernel
  exact fun w hw => gg_in (h w hw).1 (h w hw).2
theorem inX1 : ∀ w ∈ u_ws RX1 TX1 2, w ∈ GG := by
  have h : ∀ w ∈ u_ws RX1 TX1 2, w ∈ lw_tbl ∧ goodWord w = true := by decide +kernel
  exact fun w hw => gg_in (h w hw).1 (h w hw).2
theorem inX2 : ∀ w ∈ u_ws RX2 TX2 16, w ∈ GG := by
  have h : ∀ w ∈ u_ws RX2 TX2 16, w ∈ lw_tbl ∧ goodWord w = true := by decide +kernel
  exact fun w hw => gg_in (h w hw).1 (h w hw).2
theorem inX3 : ∀ w ∈ u_ws RX3 TX3 6, w ∈ GG := by
  have h : ∀ w ∈ u_ws RX3 TX3 6, w ∈ lw_tbl ∧ goodWord w = true := by decide +kernel
  exact fun w hw => gg_in (h w hw).1 (h w hw).2
theorem inX4 : ∀ w ∈ u_ws RX4 TX4 8, w ∈ GG := by
  have h : ∀ w ∈ u_ws RX4 TX4 8, w ∈ lw_tbl ∧ goodWord w = true := by decide +kernel
  exact fun w hw => gg_in (h w hw).1 (h w hw).2
theorem inX5 : ∀ w ∈ u_ws RX5 TX5 4, w ∈ GG := by
  have h : ∀ w ∈ u_ws RX5 TX5 4, w ∈ lw_tbl ∧ goodWord w = true := by decide +kernel
  exact fun w hw => gg_in (h w hw).1 (h w hw).2
theorem inX6 : ∀ w ∈ u_ws RX6 TX6 9, w ∈ GG := by
  have h : ∀ w ∈ u_ws RX6 TX6 9, w ∈ lw_tbl ∧ goodWord w = true := by decide +kernel
  exact fun w hw => gg_in (h w hw).1 (h w hw).2
theorem inX7 : ∀ w ∈ u_ws RX7 TX7 24, w ∈ GG := by
  have h : ∀ w ∈ u_ws RX7 TX7 24, w ∈ lw_tbl ∧ goodWord w = true := by decide +kernel
  exact fun w hw => gg_in (h w hw).1 (h w hw).2
section XF
variable {p : Program} {l : Launch} {e : Env} {R : Room} {s : State} {m : MethodId} {args : Array Value} {below : List Frame} {meth : Method} {c : Code} {H : Heap} {locs : List Loc} {cells slots : Nat} {Q : State → Prop}
variable {cc : ByteArray} {nL pc : Nat} {own : String} {g : Gx} {ls : Array Slot} {rest : List Value} {h k : Hp}
theorem x_rows (X : Cx p s m args c cc nL own g) (hP : va_P g.1 vwCl (WW g h k) H) {i : Int32} (hin : inb i 8 = true) (hdg : decode cc pc = .ok (.aaload, 1))
    (kk : W p l e R s m args below meth c H locs cells slots Q (F0 m (pc + 1) ls (.ref (g.2.2 (230 + 2 * i.toNatClampNeg)) :: rest))) : W p l e R s m args below meth c H locs cells slots Q (F0 m pc ls (.int i :: .ref (g.2.2 204) :: rest)) :=
  x_aald X hP 204 (by decide) (t0 := 3) (f := fun j => g.2.2 (230 + 2 * j)) rfl rfl rfl hin hdg kk
theorem x_before (X : Cx p s m args c cc nL own g) (hP : va_P g.1 vwCl (WW g h k) H) {i : Int32} (hin : inb i 24 = true) (hdg : decode cc pc = .ok (.aaload, 1))
    (kk : W p l e R s m args below meth c H locs cells slots Q (F0 m (pc + 1) ls (.ref (g.2.2 (35 + 7 * i.toNatClampNeg)) :: rest))) : W p l e R s m args below meth c H locs cells slots Q (F0 m pc ls (.int i :: .ref (g.2.2 208) :: rest)) :=
  x_aald X hP 208 (by decide) (t0 := 2) (f := fun j => g.2.2 (35 + 7 * j)) rfl rfl rfl hin hdg kk
theorem x_images (X : Cx p s m args c cc nL own g) (hP : va_P g.1 vwCl (WW g h k) H) {i : Int32} (hin : inb i 2 = true) (hdg : decode cc pc = .ok (.aaload, 1))
    (kk : W p l e R s m args below meth c H locs cells slots Q (F0 m (pc + 1) ls (.ref (g.2.2 (21 + 7 * i.toNatClampNeg)) :: rest))) : W p l e R s m args below meth c H locs cells slots Q (F0 m pc ls (.int i :: .ref (g.2.2 209) :: rest)) :=
  x_aald X hP 209 (by decide) (t0 := 2) (f := fun j => g.2.2 (21 + 7 * j)) rfl rfl rfl hin hdg kk
theorem x_overT (X : Cx p s m args c cc nL own g) (hP : va_P g.1 vwCl (WW g h k) H) {i : Int32} (hin : inb i 6 = true) (hdg : decode cc pc = .ok (.aaload, 1))
    (kk : W p l e R s m args below meth c H locs cells slots Q (F0 m (pc + 1) ls (.ref (g.2.2 (212 + i.toNatClampNeg)) :: rest))) : W p l e R s m args below meth c H locs cells slots Q (F0 m pc ls (.int i :: .ref (g.2.2 211) :: rest)) :=
  x_aald X hP 211 (by decide) (t0 := 4) (f := fun j => g.2.2 (212 + j)) rfl rfl rfl hin hdg kk
theorem x_leastF (X : Cx p s m args c cc nL own g) (hP : va_P g.1 vwCl (WW g h k) H) {i : Int32} (hin : inb i 7 = true) (hdg : decode cc pc = .ok (.aaload, 1))
    (kk : W p l e R s m args below meth c H locs cells slots Q (F0 m (pc + 1) ls (.ref (g.2.2 (219 + i.toNatClampNeg)) :: rest))) : W p l e R s m args below meth c H locs cells slots Q (F0 m pc ls (.int i :: .ref (g.2.2 218) :: rest)) :=
  x_aald X hP 218 (by decide) (t0 := 4) (f := fun j => g.2.2 (219 + j)) rfl rfl rfl hin hdg kk
theorem x_irem {x y : Int32} (X : Cx p s m args c cc nL own g) (hdg : decode cc pc = .ok (.irem, 1)) (hne : ¬ y = 0)
    (k : W p l e R s m args below meth c H locs cells slots Q (F0 m (pc + 1) ls (.int (irm x y) :: rest))) : W p l e R s m args below meth c H locs cells slots Q (F0 m pc ls (.int y :: .int x :: rest)) := lv_irem X.1 X.2.1 hdg hne k
theorem x_lrem {x y : Int64} (X : Cx p s m args c cc nL own g) (hdg : decode cc pc = .ok (.lrem, 1)) (hne : ¬ y = 0)
    (k : W p l e R s m args below meth c H locs cells slots Q (F0 m (pc + 1) ls (.long (lrm x y) :: rest))) : W p l e R s m args below meth c H locs cells slots Q (F0 m pc ls (.long y :: .long x :: rest)) := lv_lrem X.1 X.2.1 hdg hne k
theorem x_ishl {x y : Int32} (X : Cx p s m args c cc nL own g) (hdg : decode cc pc = .ok (.ishl, 1))
    (k : W p l e R s m args below meth c H locs cells slots Q (F0 m (pc + 1) ls (.int (shlI x y) :: rest))) : W p l e R s m args below meth c H locs cells slots Q (F0 m pc ls (.int y :: .int x :: rest)) := lv_ishl X.1 X.2.1 hdg k
theorem x_ishr {x y : Int32} (X : Cx p s m args c cc nL own g) (hdg : decode cc pc = .ok (.ishr, 1))
    (k : W p l e R s m args below meth c H locs cells slots Q (F0 m (pc + 1) ls (.int (shrI x y) :: rest))) : W p l e R s m args below meth c H locs cells slots Q (F0 m pc ls (.int y :: .int x :: rest)) := lv_ishr X.1 X.2.1 hdg k
theorem x_iushr {x y : Int32} (X : Cx p s m args c cc nL own g) (hdg : decode cc pc = .ok (.iushr, 1))
    (k : W p l e R s m args below meth c H locs cells slots Q (F0 m (pc + 1) ls (.int (ushrI x y) :: rest))) : W p l e R s m args below meth c H locs cells slots Q (F0 m pc ls (.int y :: .int x :: rest)) := lv_iushr X.1 X.2.1 hdg rfl k
theorem x_mmin {x y : Int32} {index : Nat} (X : Cx p s m args c cc nL own g) (hsize : ls.size = nL) (hl : Cond.methodLink own index Lib.Math.min.name ∈ GG ∧ Cond.static Lib.Math.min.name ∈ GG ∧ Cond.initialized "java/lang/Math" ∈ GG ∧ Cond.code Lib.Math.min.name Lib.Math.min.code 2 (some .int) ∈ GG) (hR : 1 ≤ R.frames ∧ (rest.map fun v => v.category).sum + 13 ≤ R.locals) (hf : cells ≤ R.cells ∧ slots ≤ R.slots) (hdg : decode cc pc = .ok (.invokestatic index, 3))
    (kk : W p l e R s m args below meth c H locs cells slots Q (F0 m (pc + 3) ls (.int (minJ x y) :: rest))) : W p l e R s m args below meth c H locs cells slots Q (F0 m pc ls (.int y :: .int x :: rest)) :=
  va_mmin X.1 X.2.1 (X.2.2.1.trans hsize.symm) X.2.2.2.1 (X.2.2.2.2.1 _ hl.1) (X.2.2.2.2.1 _ hl.2.1) (X.2.2.2.2.1 _ hl.2.2.1) (X.2.2.2.2.1 _ hl.2.2.2) hR.1 hR.2 hf.1 hf.2 hdg kk
theorem x_mmax {x y : Int32} {index : Nat} (X : Cx p s m args c cc nL own g) (hsize : ls.size = nL) (hl : Cond.methodLink own index Lib.Math.max.name ∈ GG ∧ Cond.static Lib.Math.max.name ∈ GG ∧ Cond.initialized "java/lang/Math" ∈ GG ∧ Cond.code Lib.Math.max.name Lib.Math.max.code 2 (some .int) ∈ GG) (hR : 1 ≤ R.frames ∧ (rest.map fun v => v.category).sum + 13 ≤ R.locals) (hf : cells ≤ R.cells ∧ slots ≤ R.slots) (hdg : decode cc pc = .ok (.invokestatic index, 3))
    (kk : W p l e R s m args below meth c H locs cells slots Q (F0 m (pc + 3) ls (.int (maxJ x y) :: rest))) : W p l e R s m args below meth c H locs cells slots Q (F0 m pc ls (.int y :: .int x :: rest)) :=
  va_mmax X.1 X.2.1 (X.2.2.1.trans hsize.symm) X.2.2.2.1 (X.2.2.2.2.1 _ hl.1) (X.2.2.2.2.1 _ hl.2.1) (X.2.2.2.2.1 _ hl.2.2.1) (X.2.2.2.2.1 _ hl.2.2.2) hR.1 hR.2 hf.1 hf.2 hdg kk
theorem x_lenC (X : Cx p s m args c cc nL own g) (hP : va_P g.1 vwCl (WW g h k) H) (a : Nat) (ha : isIA a = true) (hdg : decode cc pc = .ok (.arraylength, 1))
    (kk : W p l e R s m args below meth c H locs cells slots Q (F0 m (pc + 1) ls (.int (nI (lenC a)) :: rest))) : W p l e R s m args below meth c H locs cells slots Q (F0 m pc ls (.ref (g.2.2 a) :: rest)) :=
  va_alen X.1 X.2.1 X.2.2.2.2.2.1.1 hP a 0 (WW_get (Nat.lt_of_lt_of_le (isIA_lt ha) (by decide)) (cl_IA ha)) (ty := .int) rfl rfl hdg kk
theorem x_zstM (X : Cx p s m args c cc nL own g) (hP : va_P g.1 vwCl (WW g h k) H) (hS : va_S (inA g) s.heap H locs) {i : Int32} (hin : inb i 2 = true) (hdg : decode cc pc = .ok (.bastore, 1))
    (kk : ∀ (H1 : Heap) (locs1 : List Loc) (k1 : Hp), k1 = up2 k 256 i.toNatClampNeg 1 → va_P g.1 vwCl (WW g h k1) H1 → va_S (inA g) s.heap H1 locs1 → W p l e R s m args below meth c H1 locs1 cells slots Q (F0 m (pc + 1) ls rest)) : W p l e R s m args below meth c H locs cells slots Q (F0 m pc ls (.int 1 :: .int i :: .ref (g.2.2 256) :: rest)) := by
  refine va_zast X.1 X.2.1 X.2.2.2.2.2.1.1 hP (WW_D X.2.2.2.2.2.2.1) hS 256 1 (WW_get (by decide) cl_Z) rfl (inb_in hin) hdg (fun H1 locs1 hP1 _ hS1 => ?_)
  rw [WW_set (h1 := h) (k1 := up2 k 256 i.toNatClampNeg 1) (by decide) (by rw [cl_Z, up2_self]; rfl) (fun b hb => cW_k (up2_ne hb))] at hP1
  exact kk H1 locs1 _ rfl hP1 hS1
theorem gX0 (X : Cx p s m args c cc nL own g) (hP : va_P g.1 vwCl (WW g h k) H) (j : Nat) {v : Value} (hv : (fAc g h)[j]? = some v) (hj : j < 3) {index : Nat} (hd : (TX0 j).1 = RX0) (hl : Cond.fieldLink own index RX0 (TX0 j).2.1 (TX0 j).2.2.1 ∈ GG) (hdg : decode cc pc = .ok (.getfield index, 3))
    (kk : W p l e R s m args below meth c H locs cells slots Q (F0 m (pc + 3) ls (v :: rest))) : W p l e R s m args below meth c H locs cells slots Q (F0 m pc ls (.ref (g.2.2 207) :: rest)) :=
  x_get X hP (ci := 0) rfl inX0 207 (by decide) cl_Ac j hj hd hl hv hdg kk
theorem pX0 (X : Cx p s m args c cc nL own g) (hP : va_P g.1 vwCl (WW g h k) H) (hS : va_S (inA g) s.heap H locs) (j : Nat) (hj : j < 3) {index : Nat} (hd : (TX0 j).1 = RX0) (hl : Cond.fieldLink own index RX0 (TX0 j).2.1 (TX0 j).2.2.1 ∈ GG) (hfin : (TX0 j).2.2.2 = false) {ty : FieldType} {x : Int32} (hpd : parseFieldDescriptor (TX0 j).2.2.1 = some ty) (hn : narrow ty (.int x) = .int x) (hfit : fits ty (.int x) = true) (hset : fAc g (up2 h 207 j x) = (fAc g h).set j (.int x)) (hdg : decode cc pc = .ok (.putfield index, 3))
    (kk : ∀ (H1 : Heap) (locs1 : List Loc) (h1 : Hp), h1 = up2 h 207 j x → va_P g.1 vwCl (WW g h1 k) H1 → va_S (inA g) s.heap H1 locs1 → W p l e R s m args below meth c H1 locs1 cells slots Q (F0 m (pc + 3) ls rest)) : W p l e R s m args below meth c H locs cells slots Q (F0 m pc ls (.int x :: .ref (g.2.2 207) :: rest)) :=
  x_put X hP hS (ci := 0) rfl inX0 tyX0_ok nmX0 207 (by decide) cl_Ac j hj hd hl hfin hpd hn hfit (by simpa [fAc] using hj) (h1 := (up2 h 207 j x)) (k1 := k) (by rw [cl_Ac, hset]) (fun b hb => cW_h (up2_ne hb)) hdg (fun H1 locs1 hP hS => kk H1 locs1 _ rfl hP hS)
theorem gX1 (X : Cx p s m args c cc nL own g) (hP : va_P g.1 vwCl (WW g h k) H) (j : Nat) {v : Value} (hv : (fAs g h)[j]? = some v) (hj : j < 2) {index : Nat} (hd : (TX1 j).1 = RX1) (hl : Cond.fieldLink own index RX1 (TX1 j).2.1 (TX1 j).2.2.1 ∈ GG) (hdg : decode cc pc = .ok (.getfield index, 3))
    (kk : W p l e R s m args below meth c H locs cells slots Q (F0 m (pc + 3) ls (v :: rest))) : W p l e R s m args below meth c H locs cells slots Q (F0 m pc ls (.ref (g.2.2 228) :: rest)) :=
  x_get X hP (ci := 1) rfl inX1 228 (by decide) cl_As j hj hd hl hv hdg kk
theorem pX1 (X : Cx p s m args c cc nL own g) (hP : va_P g.1 vwCl (WW g h k) H) (hS : va_S (inA g) s.heap H locs) (j : Nat) (hj : j < 2) {index : Nat} (hd : (TX1 j).1 = RX1) (hl : Cond.fieldLink own index RX1 (TX1 j).2.1 (TX1 j).2.2.1 ∈ GG) (hfin : (TX1 j).2.2.2 = false) {ty : FieldType} {x : Int32} (hpd : parseFieldDescriptor (TX1 j).2.2.1 = some ty) (hn : narrow ty (.int x) = .int x) (hfit : fits ty (.int x) = true) (hset : fAs g (up2 h 228 j x) = (fAs g h).set j (.int x)) (hdg : decode cc pc = .ok (.putfield index, 3))
    (kk : ∀ (H1 : Heap) (locs1 : List Loc) (h1 : Hp), h1 = up2 h 228 j x → va_P g.1 vwCl (WW g h1 k) H1 → va_S (inA g) s.heap H1 locs1 → W p l e R s m args below meth c H1 locs1 cells slots Q (F0 m (pc + 3) ls rest)) : W p l e R s m args below meth c H locs cells slots Q (F0 m pc ls (.int x :: .ref (g.2.2 228) :: rest)) :=
  x_put X hP hS (ci := 1) rfl inX1 tyX1_ok nmX1 228 (by decide) cl_As j hj hd hl hfin hpd hn hfit (by simpa [fAs] using hj) (h1 := (up2 h 228 j x)) (k1 := k) (by rw [cl_As, hset]) (fun b hb => cW_h (up2_ne hb)) hdg (fun H1 locs1 hP hS => kk H1 locs1 _ rfl hP hS)
theorem gX2 (X : Cx p s m args c cc nL own g) (hP : va_P g.1 vwCl (WW g h k) H) {i : Nat} (he : isE i) (j : Nat) {v : Value} (hv : (fE g h i)[j]? = some v) (hj : j < 16) {index : Nat} (hd : (TX2 j).1 = RX2) (hl : Cond.fieldLink own index RX2 (TX2 j).2.1 (TX2 j).2.2.1 ∈ GG) (hdg : decode cc pc = .ok (.getfield index, 3))
    (kk : W p l e R s m args below meth c H locs cells slots Q (F0 m (pc + 3) ls (v :: rest))) : W p l e R s m args below meth c H locs cells slots Q (F0 m pc ls (.ref (g.2.2 i) :: rest)) :=
  x_get X hP (ci := 2) rfl inX2 i (isE_lt he) (cl_E he) j hj hd hl hv hdg kk
theorem pX2 (X : Cx p s m args c cc nL own g) (hP : va_P g.1 vwCl (WW g h k) H) (hS : va_S (inA g) s.heap H locs) {i : Nat} (he : isE i) (j : Nat) (hj : j < 16) {index : Nat} (hd : (TX2 j).1 = RX2) (hl : Cond.fieldLink own index RX2 (TX2 j).2.1 (TX2 j).2.2.1 ∈ GG) (hfin : (TX2 j).2.2.2 = false) {ty : FieldType} {x : Int32} (hpd : parseFieldDescriptor (TX2 j).2.2.1 = some ty) (hn : narrow ty (.int x) = .int x) (hfit : fits ty (.int x) = true) (hset : fE g (up2 h i j x) i = (fE g h i).set j (.int x)) (hdg : decode cc pc = .ok (.putfield index, 3))
    (kk : ∀ (H1 : Heap) (locs1 : List Loc) (h1 : Hp), h1 = up2 h i j x → va_P g.1 vwCl (WW g h1 k) H1 → va_S (inA g) s.heap H1 locs1 → W p l e R s m args below meth c H1 locs1 cells slots Q (F0 m (pc + 3) ls rest)) : W p l e R s m args below meth c H locs cells slots Q (F0 m pc ls (.int x :: .ref (g.2.2 i) :: rest)) :=
  x_put X hP hS (ci := 2) rfl inX2 tyX2_ok nmX2 i (isE_lt he) (cl_E he) j hj hd hl hfin hpd hn hfit (by simpa [fE] using hj) (h1 := (up2 h i j x)) (k1 := k) (by rw [(cl_E he), hset]) (fun b hb => cW_h (up2_ne hb)) hdg (fun H1 locs1 hP hS => kk H1 locs1 _ rfl hP hS)
theorem gX3 (X : Cx p s m args c cc nL own g) (hP : va_P g.1 vwCl (WW g h k) H) (j : Nat) {v : Value} (hv : (fFo g h)[j]? = some v) (hj : j < 6) {index : Nat} (hd : (TX3 j).1 = RX3) (hl : Cond.fieldLink own index RX3 (TX3 j).2.1 (TX3 j).2.2.1 ∈ GG) (hdg : decode cc pc = .ok (.getfield index, 3))
    (kk : W p l e R s m args below meth c H locs cells slots Q (F0 m (pc + 3) ls (v :: rest))) : W p l e R s m args below meth c H locs cells slots Q (F0 m pc ls (.ref (g.2.2 210) :: rest)) :=
  x_get X hP (ci := 3) rfl inX3 210 (by decide) cl_Fo j hj hd hl hv hdg kk
theorem pX3 (X : Cx p s m args c cc nL own g) (hP : va_P g.1 vwCl (WW g h k) H) (hS : va_S (inA g) s.heap H locs) (j : Nat) (hj : j < 6) {index : Nat} (hd : (TX3 j).1 = RX3) (hl : Cond.fieldLink own index RX3 (TX3 j).2.1 (TX3 j).2.2.1 ∈ GG) (hfin : (TX3 j).2.2.2 = false) {ty : FieldType} {x : Int32} (hpd : parseFieldDescriptor (TX3 j).2.2.1 = some ty) (hn : narrow ty (.int x) = .int x) (hfit : fits ty (.int x) = true) (hset : fFo g (up2 h 210 j x) = (fFo g h).set j (.int x)) (hdg : decode cc pc = .ok (.putfield index, 3))
    (kk : ∀ (H1 : Heap) (locs1 : List Loc) (h1 : Hp), h1 = up2 h 210 j x → va_P g.1 vwCl (WW g h1 k) H1 → va_S (inA g) s.heap H1 locs1 → W p l e R s m args below meth c H1 locs1 cells slots Q (F0 m (pc + 3) ls rest)) : W p l e R s m args below meth c H locs cells slots Q (F0 m pc ls (.int x :: .ref (g.2.2 210) :: rest)) :=
  x_put X hP hS (ci := 3) rfl inX3 tyX3_ok nmX3 210 (by decide) cl_Fo j hj hd hl hfin hpd hn hfit (by simpa [fFo] using hj) (h1 := (up2 h 210 j x)) (k1 := k) (by rw [cl_Fo, hset]) (fun b hb => cW_h (up2_ne hb)) hdg (fun H1 locs1 hP hS => kk H1 locs1 _ rfl hP hS)
theorem gX4 (X : Cx p s m args c cc nL own g) (hP : va_P g.1 vwCl (WW g h k) H) (j : Nat) {v : Value} (hv : (fRd g h)[j]? = some v) (hj : j < 8) {index : Nat} (hd : (TX4 j).1 = RX4) (hl : Cond.fieldLink own index RX4 (TX4 j).2.1 (TX4 j).2.2.1 ∈ GG) (hdg : decode cc pc = .ok (.getfield index, 3))
    (kk : W p l e R s m args below meth c H locs cells slots Q (F0 m (pc + 3) ls (v :: rest))) : W p l e R s m args below meth c H locs cells slots Q (F0 m pc ls (.ref (g.2.2 205) :: rest)) :=
  x_get X hP (ci := 4) rfl inX4 205 (by decide) cl_Rd j hj hd hl hv hdg kk
theorem pX4 (X : Cx p s m args c cc nL own g) (hP : va_P g.1 vwCl (WW g h k) H) (hS : va_S (inA g) s.heap H locs) (j : Nat) (hj : j < 8) {index : Nat} (hd : (TX4 j).1 = RX4) (hl : Cond.fieldLink own index RX4 (TX4 j).2.1 (TX4 j).2.2.1 ∈ GG) (hfin : (TX4 j).2.2.2 = false) {ty : FieldType} {x : Int32} (hpd : parseFieldDescriptor (TX4 j).2.2.1 = some ty) (hn : narrow ty (.int x) = .int x) (hfit : fits ty (.int x) = true) (hset : fRd g (up2 h 205 j x) = (fRd g h).set j (.int x)) (hdg : decode cc pc = .ok (.putfield index, 3))
    (kk : ∀ (H1 : Heap) (locs1 : List Loc) (h1 : Hp), h1 = up2 h 205 j x → va_P g.1 vwCl (WW g h1 k) H1 → va_S (inA g) s.heap H1 locs1 → W p l e R s m args below meth c H1 locs1 cells slots Q (F0 m (pc + 3) ls rest)) : W p l e R s m args below meth c H locs cells slots Q (F0 m pc ls (.int x :: .ref (g.2.2 205) :: rest)) :=
  x_put X hP hS (ci := 4) rfl inX4 tyX4_ok nmX4 205 (by decide) cl_Rd j hj hd hl hfin hpd hn hfit (by simpa [fRd] using hj) (h1 := (up2 h 205 j x)) (k1 := k) (by rw [cl_Rd, hset]) (fun b hb => cW_h (up2_ne hb)) hdg (fun H1 locs1 hP hS => kk H1 locs1 _ rfl hP hS)
theorem gX5 (X : Cx p s m args c cc nL own g) (hP : va_P g.1 vwCl (WW g h k) H) {i : Nat} (he : isR i) (j : Nat) {v : Value} (hv : (fRw g h i)[j]? = some v) (hj : j < 4) {index : Nat} (hd : (TX5 j).1 = RX5) (hl : Cond.fieldLink own index RX5 (TX5 j).2.1 (TX5 j).2.2.1 ∈ GG) (hdg : decode cc pc = .ok (.getfield index, 3))
    (kk : W p l e R s m args below meth c H locs cells slots Q (F0 m (pc + 3) ls (v :: rest))) : W p l e R s m args below meth c H locs cells slots Q (F0 m pc ls (.ref (g.2.2 i) :: rest)) :=
  x_get X hP (ci := 5) rfl inX5 i (isR_lt he) (cl_R he) j hj hd hl hv hdg kk
theorem pX5 (X : Cx p s m args c cc nL own g) (hP : va_P g.1 vwCl (WW g h k) H) (hS : va_S (inA g) s.heap H locs) {i : Nat} (he : isR i) (j : Nat) (hj : j < 4) {index : Nat} (hd : (TX5 j).1 = RX5) (hl : Cond.fieldLink own index RX5 (TX5 j).2.1 (TX5 j).2.2.1 ∈ GG) (hfin : (TX5 j).2.2.2 = false) {ty : FieldType} {x : Int32} (hpd : parseFieldDescriptor (TX5 j).2.2.1 = some ty) (hn : narrow ty (.int x) = .int x) (hfit : fits ty (.int x) = true) (hset : fRw g (up2 h i j x) i = (fRw g h i).set j (.int x)) (hdg : decode cc pc = .ok (.putfield index, 3))
    (kk : ∀ (H1 : Heap) (locs1 : List Loc) (h1 : Hp), h1 = up2 h i j x → va_P g.1 vwCl (WW g h1 k) H1 → va_S (inA g) s.heap H1 locs1 → W p l e R s m args below meth c H1 locs1 cells slots Q (F0 m (pc + 3) ls rest)) : W p l e R s m args below meth c H locs cells slots Q (F0 m pc ls (.int x :: .ref (g.2.2 i) :: rest)) :=
  x_put X hP hS (ci := 5) rfl inX5 tyX5_ok nmX5 i (isR_lt he) (cl_R he) j hj hd hl hfin hpd hn hfit (by simpa [fRw] using hj) (h1 := (up2 h i j x)) (k1 := k) (by rw [(cl_R he), hset]) (fun b hb => cW_h (up2_ne hb)) hdg (fun H1 locs1 hP hS => kk H1 locs1 _ rfl hP hS)
theorem gX6 (X : Cx p s m args c cc nL own g) (hP : va_P g.1 vwCl (WW g h k) H) (j : Nat) {v : Value} (hv : (fF g h)[j]? = some v) (hj : j < 9) {index : Nat} (hd : (TX6 j).1 = RX6) (hl : Cond.fieldLink own index RX6 (TX6 j).2.1 (TX6 j).2.2.1 ∈ GG) (hdg : decode cc pc = .ok (.getfield index, 3))
    (kk : W p l e R s m args below meth c H locs cells slots Q (F0 m (pc + 3) ls (v :: rest))) : W p l e R s m args below meth c H locs cells slots Q (F0 m pc ls (.ref (g.2.2 203) :: rest)) :=
  x_get X hP (ci := 6) rfl inX6 203 (by decide) cl_F j hj hd hl hv hdg kk
theorem pX6 (X : Cx p s m args c cc nL own g) (hP : va_P g.1 vwCl (WW g h k) H) (hS : va_S (inA g) s.heap H locs) (j : Nat) (hj : j < 9) {index : Nat} (hd : (TX6 j).1 = RX6) (hl : Cond.fieldLink own index RX6 (TX6 j).2.1 (TX6 j).2.2.1 ∈ GG) (hfin : (TX6 j).2.2.2 = false) {ty : FieldType} {x : Int32} (hpd : parseFieldDescriptor (TX6 j).2.2.1 = some ty) (hn : narrow ty (.int x) = .int x) (hfit : fits ty (.int x) = true) (hset : fF g (up2 h 203 j x) = (fF g h).set j (.int x)) (hdg : decode cc pc = .ok (.putfield index, 3))
    (kk : ∀ (H1 : Heap) (locs1 : List Loc) (h1 : Hp), h1 = up2 h 203 j x → va_P g.1 vwCl (WW g h1 k) H1 → va_S (inA g) s.heap H1 locs1 → W p l e R s m args below meth c H1 locs1 cells slots Q (F0 m (pc + 3) ls rest)) : W p l e R s m args below meth c H locs cells slots Q (F0 m pc ls (.int x :: .ref (g.2.2 203) :: rest)) :=
  x_put X hP hS (ci := 6) rfl inX6 tyX6_ok nmX6 203 (by decide) cl_F j hj hd hl hfin hpd hn hfit (by simpa [fF] using hj) (h1 := (up2 h 203 j x)) (k1 := k) (by rw [cl_F, hset]) (fun b hb => cW_h (up2_ne hb)) hdg (fun H1 locs1 hP hS => kk H1 locs1 _ rfl hP hS)
theorem gX7 (X : Cx p s m args c cc nL own g) (hP : va_P g.1 vwCl (WW g h k) H) (j : Nat) {v : Value} (hv : (fM g k)[j]? = some v) (hj : j < 24) {index : Nat} (hd : (TX7 j).1 = RX7) (hl : Cond.fieldLink own index RX7 (TX7 j).2.1 (TX7 j).2.2.1 ∈ GG) (hdg : decode cc pc = .ok (.getfield index, 3))
    (kk : W p l e R s m args below meth c H locs cells slots Q (F0 m (pc + 3) ls (v :: rest))) : W p l e R s m args below meth c H locs cells slots Q (F0 m pc ls (.ref (g.2.2 246) :: rest)) :=
  x_get X hP (ci := 7) rfl inX7 246 (by decide) cl_M j hj hd hl hv hdg kk
theorem pX7 (X : Cx p s m args c cc nL own g) (hP : va_P g.1 vwCl (WW g h k) H) (hS : va_S (inA g) s.heap H locs) (j : Nat) (hj : j < 24) {index : Nat} (hd : (TX7 j).1 = RX7) (hl : Cond.fieldLink own index RX7 (TX7 j).2.1 (TX7 j).2.2.1 ∈ GG) (hfin : (TX7 j).2.2.2 = false) {ty : FieldType} {x : Int32} (hpd : parseFieldDescriptor (TX7 j).2.2.1 = some ty) (hn : narrow ty (.int x) = .int x) (hfit : fits ty (.int x) = true) (hset : fM g (up2 k 246 j x) = (fM g k).set j (.int x)) (hdg : decode cc pc = .ok (.putfield index, 3))
    (kk : ∀ (H1 : Heap) (locs1 : List Loc) (k1 : Hp), k1 = up2 k 246 j x → va_P g.1 vwCl (WW g h k1) H1 → va_S (inA g) s.heap H1 locs1 → W p l e R s m args below meth c H1 locs1 cells slots Q (F0 m (pc + 3) ls rest)) : W p l e R s m args below meth c H locs cells slots Q (F0 m pc ls (.int x :: .ref (g.2.2 246) :: rest)) :=
  x_put X hP hS (ci := 7) rfl inX7 tyX7_ok nmX7 246 (by decide) cl_M j hj hd hl hfin hpd hn hfit (by simpa [fM] using hj) (h1 := h) (k1 := (up2 k 246 j x)) (by rw [cl_M, hset]) (fun b hb => cW_k (up2_ne hb)) hdg (fun H1 locs1 hP hS => kk H1 locs1 _ rfl hP hS)
end XF
theorem seX0_1 {g : Gx} {h : Hp} {x : Int32} : fAc g (up2 h 207 1 x) = (fAc g h).set 1 (.int x) := by simp [fAc, up2_at]
theorem seX0_2 {g : Gx} {h : Hp} {x : Int32} : fAc g (up2 h 207 2 x) = (fAc g h).set 2 (.int x) := by simp [fAc, up2_at]
theorem seX1_1 {g : Gx} {h : Hp} {x : Int32} : fAs g (up2 h 228 1 x) = (fAs g h).set 1 (.int x) := by simp [fAs, up2_at]
theorem seX2_6 {g : Gx} {h : Hp} {i : Nat} {x : Int32} : fE g (up2 h i 6 x) i = (fE g h i).set 6 (.int x) := by simp [fE, up2_at]
theorem seX2_7 {g : Gx} {h : Hp} {i : Nat} {x : Int32} : fE g (up2 h i 7 x) i = (fE g h i).set 7 (.int x) := by simp [fE, up2_at]
theorem seX2_8 {g : Gx} {h : Hp} {i : Nat} {x : Int32} : fE g (up2 h i 8 x) i = (fE g h i).set 8 (.int x) := by simp [fE, up2_at]
theorem seX2_9 {g : Gx} {h : Hp} {i : Nat} {x : Int32} : fE g (up2 h i 9 x) i = (fE g h i).set 9 (.int x) := by simp [fE, up2_at]
theorem seX2_10 {g : Gx} {h : Hp} {i : Nat} {x : Int32} : fE g (up2 h i 10 x) i = (fE g h i).set 10 (.int x) := by simp [fE, up2_at]
theorem seX2_11 {g : Gx} {h : Hp} {i : Nat} {x : Int32} : fE g (up2 h i 11 x) i = (fE g h i).set 11 (.int x) := by simp [fE, up2_at]
theorem seX2_12 {g : Gx} {h : Hp} {i : Nat} {x : Int32} : fE g (up2 h i 12 x) i = (fE g h i).set 12 (.int x) := by simp [fE, up2_at]
theorem seX2_13 {g : Gx} {h : Hp} {i : Nat} {x : Int32} : fE g (up2 h i 13 x) i = (fE g h i).set 13 (.int x) := by simp [fE, up2_at]
theorem seX2_14 {g : Gx} {h : Hp} {i : Nat} {x : Int32} : fE g (up2 h i 14 x) i = (fE g h i).set 14 (.int x) := by simp [fE, up2_at]
theorem seX2_15 {g : Gx} {h : Hp} {i : Nat} {x : Int32} : fE g (up2 h i 15 x) i = (fE g h i).set 15 (.int x) := by simp [fE, up2_at]
theorem seX3_5 {g : Gx} {h : Hp} {x : Int32} : fFo g (up2 h 210 5 x) = (fFo g h).set 5 (.int x) := by simp [fFo, up2_at]
theorem seX4_1 {g : Gx} {h : Hp} {x : Int32} : fRd g (up2 h 205 1 x) = (fRd g h).set 1 (.int x) := by simp [fRd, up2_at]
theorem seX4_2 {g : Gx} {h : Hp} {x : Int32} : fRd g (up2 h 205 2 x) = (fRd g h).set 2 (.int x) := by simp [fRd, up2_at]
theorem seX4_3 {g : Gx} {h : Hp} {x : Int32} : fRd g (up2 h 205 3 x) = (fRd g h).set 3 (.int x) := by simp [fRd, up2_at]
theorem seX4_5 {g : Gx} {h : Hp} {x : Int32} : fRd g (up2 h 205 5 x) = (fRd g h).set 5 (.int x) := by simp [fRd, up2_at]
theorem seX4_6 {g : Gx} {h : Hp} {x : Int32} : fRd g (up2 h 205 6 x) = (fRd g h).set 6 (.int x) := by simp [fRd, up2_at]
theorem seX4_7 {g : Gx} {h : Hp} {x : Int32} : fRd g (up2 h 205 7 x) = (fRd g h).set 7 (.int x) := by simp [fRd, up2_at]
theorem seX5_1 {g : Gx} {h : Hp} {i : Nat} {x : Int32} : fRw g (up2 h i 1 x) i = (fRw g h i).set 1 (.int x) := by simp [fRw, up2_at]
theorem seX5_2 {g : Gx} {h : Hp} {i : Nat} {x : Int32} : fRw g (up2 h i 2 x) i = (fRw g h i).set 2 (.int x) := by simp [fRw, up2_at]
theorem seX5_3 {g : Gx} {h : Hp} {i : Nat} {x : Int32} : fRw g (up2 h i 3 x) i = (fRw g h i).set 3 (.int x) := by simp [fRw, up2_at]
theorem seX6_7 {g : Gx} {h : Hp} {x : Int32} : fF g (up2 h 203 7 x) = (fF g h).set 7 (.int x) := by simp [fF, up2_at]
theorem seX6_8 {g : Gx} {h : Hp} {x : Int32} : fF g (up2 h 203 8 x) = (fF g h).set 8 (.int x) := by simp [fF, up2_at]
theorem seX7_0 {g : Gx} {k : Hp} {x : Int32} : fM g (up2 k 246 0 x) = (fM g k).set 0 (.int x) := by simp [fM, up2_at]
theorem seX7_1 {g : Gx} {k : Hp} {x : Int32} : fM g (up2 k 246 1 x) = (fM g k).set 1 (.int x) := by simp [fM, up2_at]
theorem seX7_9 {g : Gx} {k : Hp} {x : Int32} : fM g (up2 k 246 9 x) = (fM g k).set 9 (.int x) := by simp [fM, up2_at]
theorem seX7_11 {g : Gx} {k : Hp} {x : Int32} : fM g (up2 k 246 11 x) = (fM g k).set 11 (.int x) := by simp [fM, up2_at]
theorem seX7_12 {g : Gx} {k : Hp} {x : Int32} : fM g (up2 k 246 12 x) = (fM g k).set 12 (.int x) := by simp [fM, up2_at]
theorem seX7_13 {g : Gx} {k : Hp} {x : Int32} : fM g (up2 k 246 13 x) = (fM g k).set 13 (.int x) := by simp [fM, up2_at]
theorem seX7_14 {g : Gx} {k : Hp} {x : Int32} : fM g (up2 k 246 14 x) = (fM g k).set 14 (.int x) := by simp [fM, up2_at]
theorem seX7_15 {g : Gx} {k : Hp} {x : Int32} : fM g (up2 k 246 15 x) = (fM g k).set 15 (.int x) := by simp [fM, up2_at]
theorem seX7_16 {g : Gx} {k : Hp} {x : Int32} : fM g (up2 k 246 16 x) = (fM g k).set 16 (.int x) := by simp [fM, up2_at]
theorem seX7_17 {g : Gx} {k : Hp} {x : Int32} : fM g (up2 k 246 17 x) = (fM g k).set 17 (.int x) := by simp [fM, up2_at]
theorem seX7_18 {g : Gx} {k : Hp} {x : Int32} : fM g (up2 k 246 18 x) = (fM g k).set 18 (.int x) := by simp [fM, up2_at]
theorem seX7_23 {g : Gx} {k : Hp} {x : Int32} : fM g (up2 k 246 23 x) = (fM g k).set 23 (.int x) := by simp [fM, up2_at]
