/-! ===== BEGIN words of one list among another's, by their places ===== -/
theorem goodIn_r {big : List Cond} (ws : List Cond) (ps : List Nat) (hp : ws = ps.filterMap (fun i => big[i]?)) (h : ws.all goodWord = true) : GoodIn big ws := by
  intro w hw
  have h1 := List.all_eq_true.mp h w hw
  rw [hp] at hw
  obtain ⟨i, -, hi⟩ := List.mem_filterMap.mp hw
  have hm : w ∈ big := by first | exact List.mem_of_getElem? hi | exact List.getElem?_mem hi
  exact ⟨hm, good_of_word h1⟩
theorem goodIn_app {big a b : List Cond} (ha : GoodIn big a) (hb : GoodIn big b) : GoodIn big (a ++ b) := fun w h => (List.mem_append.mp h).elim (ha w) (hb w)
theorem goodIn_ca {big a b : List Cond} {c : Cond} (ha : GoodIn big (c :: a)) (hb : GoodIn big b) : GoodIn big (c :: (a ++ b)) := fun w h => (List.mem_cons.mp h).elim (fun e => ha w (List.mem_cons.mpr (Or.inl e))) (fun h => (List.mem_append.mp h).elim (fun h => ha w (List.mem_cons.mpr (Or.inr h))) (hb w))
theorem goodIn_sub {big ws : List Cond} (hm : ∀ w ∈ ws, w ∈ big) (h : ws.all goodWord = true) : GoodIn big ws := fun w hw => ⟨hm w hw, good_of_word (List.all_eq_true.mp h w hw)⟩
/-! ===== END ===== -/

/-! ===== BEGIN new T[n][m]: the outer array a place, the inner ones among the pooled ===== -/
/-- f, but v at every address of l -/
def vr_up {α : Type} (f : Nat → α) (l : List Nat) (v : α) : Nat → α := fun a => if a ∈ l then v else f a
theorem vr_up_in {α : Type} {f : Nat → α} {l : List Nat} {v : α} {a : Nat} (h : a ∈ l) : vr_up f l v a = v := if_pos h
theorem vr_up_ne {α : Type} {f : Nat → α} {l : List Nat} {v : α} {a : Nat} (h : a ∉ l) : vr_up f l v a = f a := if_neg h
theorem vr_rows {L l : List Nat} {f : Nat → va_E} {e : va_E} (h : ∀ a, a ∈ l → a ∉ L) : va_pl L f ++ l.map (fun a => (a, e)) = va_pl (L ++ l) (vr_up f l e) := by
  unfold va_pl
  rw [List.map_append]
  congr 1
  · apply List.map_congr_left
    intro a ha
    rw [vr_up_ne (fun q => h a q ha)]
  · apply List.map_congr_left
    intro a ha
    rw [vr_up_in ha]
theorem vr_lay {X rows : va_W} {x : Nat × va_E} {pl : va_W} {D : va_G} {cl : List vw_C} {H : Heap} (hP : va_P D cl (((X ++ pl) ++ [x]) ++ rows) H) : va_P D cl ((X ++ [x]) ++ (pl ++ rows)) H := by
  rw [List.append_assoc (X ++ pl)] at hP
  have h := va_P.swap hP
  rw [← List.append_assoc X] at h
  have h2 := va_P.swap h
  rw [List.append_assoc (X ++ [x])] at h2
  exact h2
theorem vr_layD {X rows : va_W} {x : Nat × va_E} {pl : va_W} {A : Nat → Prop} (hD : va_D A (((X ++ pl) ++ [x]) ++ rows)) : va_D A ((X ++ [x]) ++ (pl ++ rows)) := by
  rw [List.append_assoc (X ++ pl)] at hD
  have h := va_D.swap hD
  rw [← List.append_assoc X] at h
  have h2 := va_D.swap h
  rw [List.append_assoc (X ++ [x])] at h2
  exact h2
theorem vr_outer (c : ClassId) (N h0 : Nat) : ∀ i : Nat, Jvm.Free.Multi.outerC c N h0 i = arrV c N (fun j => va_rf (if j < i then some (h0 + 1 + j) else none))
  | 0 => by
    show ({ cls := c, slots := Array.replicate N .null, vm := .none } : Cell) = _
    rw [arrV_new]
    refine congrArg (arrV c N) (funext fun j => ?_)
    simp [va_rf]
  | i + 1 => by
    show (Jvm.Free.Multi.outerC c N h0 i).setSlot i (.ref (h0 + 1 + i)) = _
    rw [vr_outer c N h0 i, arrV_store]
    refine congrArg (arrV c N) (funext fun j => ?_)
    by_cases e : j = i
    · subst e
      simp [updV, va_rf]
    · by_cases h : j < i
      · simp [updV, e, h, Nat.lt_succ_of_lt h]
      · simp [updV, e, h, show ¬ j < i + 1 by omega]
section VGM
variable {p : Program} {l : Launch} {e : Env} {R : Room} {s : State} {m : MethodId} {args : Array Value} {below : List Frame} {meth : Method} {c : Code} {H : Heap} {locs : List Loc} {cells slots : Nat} {Q : State → Prop}
variable {cc : ByteArray} {pc : Nat} {ls : Array Slot} {rest : List Value} {D : va_G} {cl : List vw_C} {A : Nat → Prop} {a : Nat} {tys : List (ClassId × FieldType)} {ws : va_W} {H0 : Heap}
theorem va_mna {X : va_W} {L : List Nat} {f : Nat → va_E} {cc : ByteArray} (hexec : p.tables.exec = Jvm.exec) (hb : c.code = cc) {own : String} {index : Nat} {ty : FieldType} {cy : ClassId} (hown : s.vm.findClass own = some m.cls) (hclink : (Cond.classLink own index ("[" ++ (FieldType.array ty).toString)).before args s = true) (hover : va_AOA ty s) (harr : (Cond.arrayClass ty).before args s = true) (hcy : s.vm.findClass (FieldType.array ty).toString = some cy)
    (hK : va_K D cl tys s) (hP : va_P D cl (X ++ va_pl L f) H) (hD : va_D A (X ++ va_pl L f)) (hS : va_S A H0 H locs) (hA : ∀ q, H0.size ≤ q → A q) {n k : Int32} {N' K' : Nat} {z : vp_A} (hn : ¬ n < 0) (hk : ¬ k < 0) (hN : n.toNatClampNeg = N') (hM : k.toNatClampNeg = K')
    (hb1 : N' * 4 ≤ 536870912) (hb2 : K' * componentBytes ty ≤ 536870912) (hb3 : K' ≤ 536870912) (hdf : fits ty (defaultValue ty) = true) (hdd : (defaultValue ty).isDefault = true) (hcells : cells + (1 + N') ≤ R.cells) (hslots : slots + (N' + N' * K') ≤ R.slots) (hz : ∀ c : ClassId, Jvm.Free.Multi.innerC c K' (defaultValue ty) = vp_cell c z) (hdg : decode cc pc = .ok (.multianewarray index 2, 4))
    (kk : ∀ (q : Nat) (r : Nat → Nat) (cA : ClassId) (H1 : Heap), (∀ i j : Nat, i < N' → j < N' → r i = r j → i = j) → (∀ i : Nat, i < N' → r i ∉ L) → va_K D cl (tys ++ [(cA, .array ty)]) s →
      va_P D cl ((X ++ [(q, .inl (cA, N', .inr (.inr (.inr (.inr (fun i => if i < N' then some (r i) else none))))))]) ++ va_pl (L ++ (List.range N').map r) (vr_up f ((List.range N').map r) (.inl (cy, z)))) H1 → va_D A ((X ++ [(q, .inl (cA, N', .inr (.inr (.inr (.inr (fun i => if i < N' then some (r i) else none))))))]) ++ va_pl (L ++ (List.range N').map r) (vr_up f ((List.range N').map r) (.inl (cy, z)))) → va_S A H0 H1 locs →
      W p l e R s m args below meth c H1 locs (cells + 1 + N') (slots + N' + N' * K') Q (F0 m (pc + 4) ls (.ref q :: rest))) : W p l e R s m args below meth c H locs cells slots Q (F0 m pc ls (.int k :: .int n :: rest)) := by
  subst hN
  subst hM
  intro T hT Xs
  obtain ⟨vm₁, cA, comp, -, fA, fC, hO, -, X', step⟩ := Xs.multianewarray2F hexec hown hclink (va_AOA.use hover) harr (g := F0 m pc ls (.int k :: .int n :: rest)) rfl (by rw [hb]; exact hdg) rfl hn hk hb1 hb2 hb3 hdf hdd hcells hslots
  have ec : some cy = some comp := hcy.symm.trans fC
  cases ec
  generalize hF : Jvm.Free.Multi.fill (T.setVm vm₁) cA cy n.toNatClampNeg k.toNatClampNeg (defaultValue ty) n.toNatClampNeg = F at X' step
  have hTh : (T.setVm vm₁).heap = H := hT
  obtain ⟨f1, f2, -, -⟩ := Jvm.Free.Multi.fill_facts (T.setVm vm₁) cA cy n.toNatClampNeg k.toNatClampNeg (defaultValue ty) n.toNatClampNeg
  rw [hF, hTh] at f1 f2
  have hold : ∀ x : Nat, x < H.size → F.heap[x]? = H[x]? := fun x hx => by
    have := Jvm.Free.Multi.fill_old (T.setVm vm₁) cA cy n.toNatClampNeg k.toNatClampNeg (defaultValue ty) (a := x) (by rw [hTh]; exact hx) n.toNatClampNeg
    rw [hF, hTh] at this
    exact this
  have hrow : ∀ j : Nat, j < n.toNatClampNeg → F.heap[H.size + 1 + j]? = some (vp_cell cy z) := fun j hj => by
    have := Jvm.Free.Multi.fill_inner (T.setVm vm₁) cA cy n.toNatClampNeg k.toNatClampNeg (defaultValue ty) n.toNatClampNeg j hj
    rw [hF, hTh, hz] at this
    exact this
  have hout : Jvm.Free.Multi.outerC cA n.toNatClampNeg H.size n.toNatClampNeg = vp_cell cA (n.toNatClampNeg, .inr (.inr (.inr (.inr (fun i => if i < n.toNatClampNeg then some (H.size + 1 + i) else none))))) := by
    rw [vp_cell_q]
    exact vr_outer cA n.toNatClampNeg H.size n.toNatClampNeg
  rw [hout] at f2
  have hlt : ∀ a, a ∈ L → a < H.size := fun a ha => by
    obtain ⟨k9, hk9⟩ := va_pl_get (X := X) (f := f) ha
    exact (hP k9 _ hk9).lt
  have hnl : ∀ i : Nat, i < n.toNatClampNeg → H.size + 1 + i ∉ L := fun i _ h => by
    have := hlt _ h
    omega
  have hnm : ∀ a, a ∈ (List.range n.toNatClampNeg).map (fun i => H.size + 1 + i) → a ∉ L := fun a ha h => by
    obtain ⟨i, -, rfl⟩ := List.mem_map.mp ha
    have := hlt _ h
    omega
  have hP0 : va_P D cl (X ++ va_pl L f) F.heap := hP.kept (fun k9 x hx => hold x.1 ((hP k9 x hx).lt))
  have hP1 : va_P D cl ((X ++ va_pl L f) ++ [(H.size, .inl (cA, n.toNatClampNeg, .inr (.inr (.inr (.inr (fun i => if i < n.toNatClampNeg then some (H.size + 1 + i) else none))))))]) F.heap := hP0.app (fun k9 x hx => by
    have h0 : k9 < 1 := (List.getElem?_eq_some_iff.mp hx).1
    rw [show k9 = 0 by omega] at hx
    cases hx
    exact f2)
  have hP2 : va_P D cl (((X ++ va_pl L f) ++ [(H.size, .inl (cA, n.toNatClampNeg, .inr (.inr (.inr (.inr (fun i => if i < n.toNatClampNeg then some (H.size + 1 + i) else none))))))]) ++ ((List.range n.toNatClampNeg).map (fun i => H.size + 1 + i)).map (fun a => (a, .inl (cy, z)))) F.heap := hP1.app (fun k9 x hx => by
    obtain ⟨a, ha, rfl⟩ := List.mem_map.mp (List.mem_of_getElem? hx)
    obtain ⟨i, hi, rfl⟩ := List.mem_map.mp ha
    exact hrow i (List.mem_range.mp hi))
  have hD2 : va_D A (((X ++ va_pl L f) ++ [(H.size, .inl (cA, n.toNatClampNeg, .inr (.inr (.inr (.inr (fun i => if i < n.toNatClampNeg then some (H.size + 1 + i) else none))))))]) ++ ((List.range n.toNatClampNeg).map (fun i => H.size + 1 + i)).map (fun a => (a, .inl (cy, z)))) := by
    have hD1 := hD.push (e := .inl (cA, n.toNatClampNeg, .inr (.inr (.inr (.inr (fun i => if i < n.toNatClampNeg then some (H.size + 1 + i) else none)))))) hP rfl (hA _ hS.1)
    generalize hW1 : (X ++ va_pl L f) ++ [(H.size, .inl (cA, n.toNatClampNeg, .inr (.inr (.inr (.inr (fun i => if i < n.toNatClampNeg then some (H.size + 1 + i) else none))))))] = W1 at hD1 hP1 ⊢
    have hle : ∀ (k9 : Nat) (x : Nat × va_E), W1[k9]? = some x → x.1 ≤ H.size := fun k9 x hx => by
      rw [← hW1] at hx
      by_cases hl : k9 < (X ++ va_pl L f).length
      · rw [List.getElem?_append_left hl] at hx
        exact Nat.le_of_lt ((hP k9 x hx).lt)
      · rw [List.getElem?_append_right (by omega)] at hx
        have h0 : k9 - (X ++ va_pl L f).length < 1 := (List.getElem?_eq_some_iff.mp hx).1
        rw [show k9 - (X ++ va_pl L f).length = 0 by omega] at hx
        cases hx
        exact Nat.le_refl _
    have hr : ∀ (k9 : Nat) (x : Nat × va_E), (((List.range n.toNatClampNeg).map (fun i => H.size + 1 + i)).map (fun a => ((a, .inl (cy, z)) : Nat × va_E)))[k9]? = some x → x.1 = H.size + 1 + k9 := fun k9 x hx => by
      rw [List.getElem?_map, List.getElem?_map] at hx
      by_cases h9 : k9 < n.toNatClampNeg
      · rw [List.getElem?_range h9] at hx
        cases hx
        rfl
      · have hn0 : (List.range n.toNatClampNeg)[k9]? = none := List.getElem?_eq_none (by rw [List.length_range]; omega)
        rw [hn0] at hx
        cases hx
    refine ⟨fun i j x y hi hj hxy => ?_, fun k9 x hx => ?_⟩
    · by_cases h1 : i < W1.length <;> by_cases h2 : j < W1.length
      · rw [List.getElem?_append_left h1] at hi
        rw [List.getElem?_append_left h2] at hj
        exact hD1.1 i j x y hi hj hxy
      · rw [List.getElem?_append_left h1] at hi
        rw [List.getElem?_append_right (by omega)] at hj
        have := hle _ _ hi
        have := hr _ _ hj
        omega
      · rw [List.getElem?_append_right (by omega)] at hi
        rw [List.getElem?_append_left h2] at hj
        have := hle _ _ hj
        have := hr _ _ hi
        omega
      · rw [List.getElem?_append_right (by omega)] at hi hj
        have := hr _ _ hi
        have := hr _ _ hj
        omega
    · by_cases h1 : k9 < W1.length
      · rw [List.getElem?_append_left h1] at hx
        exact hD1.2 k9 x hx
      · rw [List.getElem?_append_right (by omega)] at hx
        have := hr _ _ hx
        exact hA _ (by have := hS.1; omega)
  have hAr : ArrOfT s cA (.array ty) := fun N9 z9 => by
    obtain ⟨-, k9, hk9, cm9, hkk9⟩ := (hO 0 0 0).1
    exact ⟨(fun q hq => by cases hq), k9, hk9, cm9, hkk9⟩
  have hK2 : va_K D cl (tys ++ [(cA, .array ty)]) s := ⟨hK.1, fun k9 x hx => by
    by_cases hl : k9 < tys.length
    · rw [List.getElem?_append_left hl] at hx
      exact hK.2 k9 x hx
    · rw [List.getElem?_append_right (by omega)] at hx
      have h0 : k9 - tys.length < 1 := (List.getElem?_eq_some_iff.mp hx).1
      rw [show k9 - tys.length = 0 by omega] at hx
      cases hx
      exact ⟨hAr, fA⟩⟩
  obtain ⟨t, a1, b1⟩ := kk H.size (fun i => H.size + 1 + i) cA F.heap (fun i j _ _ h => by have h9 : H.size + 1 + i = H.size + 1 + j := h; omega) hnl hK2 (by rw [← vr_rows hnm]; exact vr_lay hP2) (by rw [← vr_rows hnm]; exact vr_layD hD2) ⟨by rw [f1]; have := hS.1; omega, fun x h1 h2 => (hold x (Nat.lt_of_lt_of_le h1 hS.1)).trans (hS.2.1 x h1 h2), hS.2.2⟩ F rfl X'
  refine ⟨t, step t ?_, b1⟩
  have e : T.heap.size = H.size := by rw [hT]
  rw [e]
  exact a1
end VGM
/-! ===== END ===== -/

def RX0 : String := "FogSheets$Acts"
def TX0 : u_T := fun k => match k with
  | 0 => ("FogSheets$Acts", "before", "[LFogSheets$Estuary;", true)
  | 1 => ("FogSheets$Acts", "next", "I", false)
  | _ => ("FogSheets$Acts", "kept", "I", false)
def tyX0 : Nat → FieldType := fun k => match k with
  | 0 => .array (.object "FogSheets$Estuary")
  | 1 => .int
  | _ => .int
abbrev wsX00 : List Cond := u_ws RX0 TX0 3
theorem nmX0 : ∀ a, a < 3 → ∀ b, b < 3 → a ≠ b → (TX0 a).2.1 ≠ (TX0 b).2.1 := by decide +kernel
theorem tyX0_ok : ∀ k, k < 3 → parseFieldDescriptor (TX0 k).2.2.1 = some (tyX0 k) := by decide +kernel
abbrev cX0_init : ByteArray := prog_2_method_1_code
def yX0_init : MethodName := ⟨RX0, "<init>", "()V"⟩
abbrev cX0_keep : ByteArray := prog_2_method_2_code
def yX0_keep : MethodName := ⟨RX0, "keep", "(LFogSheets$Estuary;)V"⟩
abbrev cX0_takeBack : ByteArray := prog_2_method_3_code
def yX0_takeBack : MethodName := ⟨RX0, "takeBack", "(LFogSheets$Estuary;)V"⟩
abbrev cX0_forget : ByteArray := prog_2_method_4_code
def yX0_forget : MethodName := ⟨RX0, "forget", "()V"⟩
def RX1 : String := "FogSheets$Asks"
def TX1 : u_T := fun k => match k with
  | 0 => ("FogSheets$Asks", "bodies", "[I", true)
  | _ => ("FogSheets$Asks", "begun", "I", false)
def tyX1 : Nat → FieldType := fun k => match k with
  | 0 => .array .int
  | _ => .int
abbrev wsX10 : List Cond := u_ws RX1 TX1 2
theorem nmX1 : ∀ a, a < 2 → ∀ b, b < 2 → a ≠ b → (TX1 a).2.1 ≠ (TX1 b).2.1 := by decide +kernel
theorem tyX1_ok : ∀ k, k < 2 → parseFieldDescriptor (TX1 k).2.2.1 = some (tyX1 k) := by decide +kernel
abbrev cX1_init : ByteArray := prog_3_method_1_code
def yX1_init : MethodName := ⟨RX1, "<init>", "()V"⟩
abbrev cX1_askOf : ByteArray := prog_3_method_2_code
def yX1_askOf : MethodName := ⟨RX1, "askOf", "(LFogSheets$Estuary;II)I"⟩
abbrev cX1_answer : ByteArray := prog_3_method_3_code
def yX1_answer : MethodName := ⟨RX1, "answer", "(LFogSheets$Estuary;III)I"⟩
abbrev cX1_nearestBody : ByteArray := prog_3_method_4_code
def yX1_nearestBody : MethodName := ⟨RX1, "nearestBody", "(II)I"⟩
abbrev cX1_begin : ByteArray := prog_3_method_5_code
def yX1_begin : MethodName := ⟨RX1, "begin", "(ILFogSheets$Estuary;II)I"⟩
abbrev cX1_leave : ByteArray := prog_3_method_6_code
def yX1_leave : MethodName := ⟨RX1, "leave", "(I)V"⟩
def RX2 : String := "FogSheets$Estuary"
def TX2 : u_T := fun k => match k with
  | 0 => ("FogSheets$Estuary", "winds", "[I", true)
  | 1 => ("FogSheets$Estuary", "kinds", "[I", true)
  | 2 => ("FogSheets$Estuary", "at", "[I", true)
  | 3 => ("FogSheets$Estuary", "wide", "[I", true)
  | 4 => ("FogSheets$Estuary", "thick", "[I", true)
  | 5 => ("FogSheets$Estuary", "number", "[I", true)
  | 6 => ("FogSheets$Estuary", "told", "Z", false)
  | 7 => ("FogSheets$Estuary", "cells", "I", false)
  | 8 => ("FogSheets$Estuary", "point", "I", false)
  | 9 => ("FogSheets$Estuary", "walker", "I", false)
  | 10 => ("FogSheets$Estuary", "awake", "I", false)
  | 11 => ("FogSheets$Estuary", "windCount", "I", false)
  | 12 => ("FogSheets$Estuary", "sheetCount", "I", false)
  | 13 => ("FogSheets$Estuary", "hour", "I", false)
  | 14 => ("FogSheets$Estuary", "in", "I", false)
  | _ => ("FogSheets$Estuary", "numbered", "I", false)
def tyX2 : Nat → FieldType := fun k => match k with
  | 0 => .array .int
  | 1 => .array .int
  | 2 => .array .int
  | 3 => .array .int
  | 4 => .array .int
  | 5 => .array .int
  | 6 => .boolean
  | 7 => .int
  | 8 => .int
  | 9 => .int
  | 10 => .int
  | 11 => .int
  | 12 => .int
  | 13 => .int
  | 14 => .int
  | _ => .int
abbrev wsX20 : List Cond := u_ws RX2 TX2 16
theorem nmX2 : ∀ a, a < 16 → ∀ b, b < 16 → a ≠ b → (TX2 a).2.1 ≠ (TX2 b).2.1 := by decide +kernel
theorem tyX2_ok : ∀ k, k < 16 → parseFieldDescriptor (TX2 k).2.2.1 = some (tyX2 k) := by decide +kernel
abbrev cX2_init : ByteArray := prog_4_method_1_code
def yX2_init : MethodName := ⟨RX2, "<init>", "()V"⟩
abbrev cX2_become : ByteArray := prog_4_method_2_code
def yX2_become : MethodName := ⟨RX2, "become", "(LFogSheets$Estuary;)V"⟩
abbrev cX2_clear : ByteArray := prog_4_method_3_code
def yX2_clear : MethodName := ⟨RX2, "clear", "()V"⟩
abbrev cX2_addWind : ByteArray := prog_4_method_4_code
def yX2_addWind : MethodName := ⟨RX2, "addWind", "(I)V"⟩
abbrev cX2_addSheet : ByteArray := prog_4_method_5_code
def yX2_addSheet : MethodName := ⟨RX2, "addSheet", "(IIII)V"⟩
abbrev cX2_admit : ByteArray := prog_4_method_6_code
def yX2_admit : MethodName := ⟨RX2, "admit", "(III)V"⟩
abbrev cX2_isSheet : ByteArray := prog_4_method_7_code
def yX2_isSheet : MethodName := ⟨RX2, "isSheet", "(I)Z"⟩
abbrev cX2_isWind : ByteArray := prog_4_method_8_code
def yX2_isWind : MethodName := ⟨RX2, "isWind", "(I)Z"⟩
abbrev cX2_isCell : ByteArray := prog_4_method_9_code
def yX2_isCell : MethodName := ⟨RX2, "isCell", "(I)Z"⟩
abbrev cX2_isIn : ByteArray := prog_4_method_10_code
def yX2_isIn : MethodName := ⟨RX2, "isIn", "(I)Z"⟩
abbrev cX2_windOfHour : ByteArray := prog_4_method_11_code
def yX2_windOfHour : MethodName := ⟨RX2, "windOfHour", "()I"⟩
abbrev cX2_gust : ByteArray := prog_4_method_12_code
def yX2_gust : MethodName := ⟨RX2, "gust", "()I"⟩
abbrev cX2_clerkIsAwake : ByteArray := prog_4_method_13_code
def yX2_clerkIsAwake : MethodName := ⟨RX2, "clerkIsAwake", "()Z"⟩
abbrev cX2_passHour : ByteArray := prog_4_method_14_code
def yX2_passHour : MethodName := ⟨RX2, "passHour", "()V"⟩
abbrev cX2_drift : ByteArray := prog_4_method_15_code
def yX2_drift : MethodName := ⟨RX2, "drift", "(II)V"⟩
abbrev cX2_cellsDrifted : ByteArray := prog_4_method_16_code
def yX2_cellsDrifted : MethodName := ⟨RX2, "cellsDrifted", "(II)I"⟩
abbrev cX2_thickened : ByteArray := prog_4_method_17_code
def yX2_thickened : MethodName := ⟨RX2, "thickened", "(IZ)I"⟩
abbrev cX2_giveNumbers : ByteArray := prog_4_method_18_code
def yX2_giveNumbers : MethodName := ⟨RX2, "giveNumbers", "()V"⟩
abbrev cX2_liesOn : ByteArray := prog_4_method_19_code
def yX2_liesOn : MethodName := ⟨RX2, "liesOn", "(II)Z"⟩
abbrev cX2_placeOf : ByteArray := prog_4_method_20_code
def yX2_placeOf : MethodName := ⟨RX2, "placeOf", "(I)I"⟩
abbrev cX2_thicknessOf : ByteArray := prog_4_method_21_code
def yX2_thicknessOf : MethodName := ⟨RX2, "thicknessOf", "(I)I"⟩
abbrev cX2_cellsUnder : ByteArray := prog_4_method_22_code
def yX2_cellsUnder : MethodName := ⟨RX2, "cellsUnder", "(I)I"⟩
abbrev cX2_sheetsOn : ByteArray := prog_4_method_23_code
def yX2_sheetsOn : MethodName := ⟨RX2, "sheetsOn", "(I)I"⟩
abbrev cX2_thicknessOver : ByteArray := prog_4_method_24_code
def yX2_thicknessOver : MethodName := ⟨RX2, "thicknessOver", "(I)I"⟩
abbrev cX2_withNumber : ByteArray := prog_4_method_25_code
def yX2_withNumber : MethodName := ⟨RX2, "withNumber", "()I"⟩
abbrev cX2_overlappingPair : ByteArray := prog_4_method_26_code
def yX2_overlappingPair : MethodName := ⟨RX2, "overlappingPair", "()I"⟩
abbrev cX2_setsAsThick : ByteArray := prog_4_method_27_code
def yX2_setsAsThick : MethodName := ⟨RX2, "setsAsThick", "(II)I"⟩
abbrev cX2_thicknessOfSet : ByteArray := prog_4_method_28_code
def yX2_thicknessOfSet : MethodName := ⟨RX2, "thicknessOfSet", "(I)I"⟩
abbrev cX2_pailsOf : ByteArray := prog_4_method_29_code
def yX2_pailsOf : MethodName := ⟨RX2, "pailsOf", "(II)I"⟩
def RX3 : String := "FogSheets$Foreteller"
def TX3 : u_T := fun k => match k with
  | 0 => ("FogSheets$Foreteller", "then", "LFogSheets$Estuary;", true)
  | 1 => ("FogSheets$Foreteller", "overThen", "[[I", true)
  | 2 => ("FogSheets$Foreteller", "leastFrom", "[[I", true)
  | 3 => ("FogSheets$Foreteller", "seen", "[I", true)
  | 4 => ("FogSheets$Foreteller", "told", "[I", true)
  | _ => ("FogSheets$Foreteller", "hoursTold", "I", false)
def tyX3 : Nat → FieldType := fun k => match k with
  | 0 => .object "FogSheets$Estuary"
  | 1 => .array (.array .int)
  | 2 => .array (.array .int)
  | 3 => .array .int
  | 4 => .array .int
  | _ => .int
abbrev wsX30 : List Cond := u_ws RX3 TX3 6
theorem nmX3 : ∀ a, a < 6 → ∀ b, b < 6 → a ≠ b → (TX3 a).2.1 ≠ (TX3 b).2.1 := by decide +kernel
theorem tyX3_ok : ∀ k, k < 6 → parseFieldDescriptor (TX3 k).2.2.1 = some (tyX3 k) := by decide +kernel
abbrev cX3_init : ByteArray := prog_5_method_1_code
def yX3_init : MethodName := ⟨RX3, "<init>", "()V"⟩
abbrev cX3_behind : ByteArray := prog_5_method_2_code
def yX3_behind : MethodName := ⟨RX3, "behind", "(LFogSheets$Estuary;I)LFogSheets$Estuary;"⟩
abbrev cX3_firstGone : ByteArray := prog_5_method_3_code
def yX3_firstGone : MethodName := ⟨RX3, "firstGone", "(LFogSheets$Estuary;I)I"⟩
abbrev cX3_firstNumbered : ByteArray := prog_5_method_4_code
def yX3_firstNumbered : MethodName := ⟨RX3, "firstNumbered", "(LFogSheets$Estuary;I)I"⟩
abbrev cX3_firstOverlap : ByteArray := prog_5_method_5_code
def yX3_firstOverlap : MethodName := ⟨RX3, "firstOverlap", "(LFogSheets$Estuary;I)I"⟩
abbrev cX3_leastSeen : ByteArray := prog_5_method_6_code
def yX3_leastSeen : MethodName := ⟨RX3, "leastSeen", "(LFogSheets$Estuary;I)I"⟩
abbrev cX3_leastSeenCell : ByteArray := prog_5_method_7_code
def yX3_leastSeenCell : MethodName := ⟨RX3, "leastSeenCell", "(LFogSheets$Estuary;II)I"⟩
abbrev cX3_weighWalks : ByteArray := prog_5_method_8_code
def yX3_weighWalks : MethodName := ⟨RX3, "weighWalks", "(LFogSheets$Estuary;I)V"⟩
abbrev cX3_noteOver : ByteArray := prog_5_method_9_code
def yX3_noteOver : MethodName := ⟨RX3, "noteOver", "([I)V"⟩
abbrev cX3_weightOf : ByteArray := prog_5_method_10_code
def yX3_weightOf : MethodName := ⟨RX3, "weightOf", "(II)I"⟩
abbrev cX3_bestNext : ByteArray := prog_5_method_11_code
def yX3_bestNext : MethodName := ⟨RX3, "bestNext", "(II)I"⟩
abbrev cX3_firstMeeting : ByteArray := prog_5_method_12_code
def yX3_firstMeeting : MethodName := ⟨RX3, "firstMeeting", "(LFogSheets$Estuary;I)I"⟩
abbrev cX3_bestStand : ByteArray := prog_5_method_13_code
def yX3_bestStand : MethodName := ⟨RX3, "bestStand", "(LFogSheets$Estuary;II)I"⟩
abbrev cX3_leastAwake : ByteArray := prog_5_method_14_code
def yX3_leastAwake : MethodName := ⟨RX3, "leastAwake", "(LFogSheets$Estuary;I)I"⟩
abbrev cX3_numberedBy : ByteArray := prog_5_method_15_code
def yX3_numberedBy : MethodName := ⟨RX3, "numberedBy", "(II)I"⟩
abbrev cX3_outcomeOfTurns : ByteArray := prog_5_method_16_code
def yX3_outcomeOfTurns : MethodName := ⟨RX3, "outcomeOfTurns", "(LFogSheets$Estuary;II)I"⟩
abbrev cX3_walkersTurn : ByteArray := prog_5_method_17_code
def yX3_walkersTurn : MethodName := ⟨RX3, "walkersTurn", "(III)I"⟩
abbrev cX3_courtsTurn : ByteArray := prog_5_method_18_code
def yX3_courtsTurn : MethodName := ⟨RX3, "courtsTurn", "(III)I"⟩
abbrev cX3_hear : ByteArray := prog_5_method_19_code
def yX3_hear : MethodName := ⟨RX3, "hear", "(LFogSheets$Row;II)V"⟩
abbrev cX3_fitting : ByteArray := prog_5_method_20_code
def yX3_fitting : MethodName := ⟨RX3, "fitting", "(LFogSheets$Estuary;II)I"⟩
abbrev cX3_mostOf : ByteArray := prog_5_method_21_code
def yX3_mostOf : MethodName := ⟨RX3, "mostOf", "(LFogSheets$Estuary;I)I"⟩
abbrev cX3_suppose : ByteArray := prog_5_method_22_code
def yX3_suppose : MethodName := ⟨RX3, "suppose", "(III)V"⟩
abbrev cX3_isAsTold : ByteArray := prog_5_method_23_code
def yX3_isAsTold : MethodName := ⟨RX3, "isAsTold", "()Z"⟩
abbrev cX3_drawYears : ByteArray := prog_5_method_24_code
def yX3_drawYears : MethodName := ⟨RX3, "drawYears", "(LFogSheets$Estuary;III)I"⟩
abbrev cX3_drawOne : ByteArray := prog_5_method_25_code
def yX3_drawOne : MethodName := ⟨RX3, "drawOne", "(I)V"⟩
def RX4 : String := "FogSheets$Reader"
def TX4 : u_T := fun k => match k with
  | 0 => ("FogSheets$Reader", "draft", "LFogSheets$Estuary;", true)
  | 1 => ("FogSheets$Reader", "bytes", "I", false)
  | 2 => ("FogSheets$Reader", "fault", "I", false)
  | 3 => ("FogSheets$Reader", "place", "I", false)
  | 4 => ("FogSheets$Reader", "tape", "[I", true)
  | 5 => ("FogSheets$Reader", "token", "I", false)
  | 6 => ("FogSheets$Reader", "value", "I", false)
  | _ => ("FogSheets$Reader", "behind", "I", false)
def tyX4 : Nat → FieldType := fun k => match k with
  | 0 => .object "FogSheets$Estuary"
  | 1 => .int
  | 2 => .int
  | 3 => .int
  | 4 => .array .int
  | 5 => .int
  | 6 => .int
  | _ => .int
abbrev wsX40 : List Cond := u_ws RX4 TX4 8
theorem nmX4 : ∀ a, a < 8 → ∀ b, b < 8 → a ≠ b → (TX4 a).2.1 ≠ (TX4 b).2.1 := by decide +kernel
theorem tyX4_ok : ∀ k, k < 8 → parseFieldDescriptor (TX4 k).2.2.1 = some (tyX4 k) := by decide +kernel
abbrev cX4_init : ByteArray := prog_6_method_1_code
def yX4_init : MethodName := ⟨RX4, "<init>", "()V"⟩
abbrev cX4_append : ByteArray := prog_6_method_2_code
def yX4_append : MethodName := ⟨RX4, "append", "(I)V"⟩
abbrev cX4_read : ByteArray := prog_6_method_3_code
def yX4_read : MethodName := ⟨RX4, "read", "()V"⟩
abbrev cX4_readLaw : ByteArray := prog_6_method_4_code
def yX4_readLaw : MethodName := ⟨RX4, "readLaw", "()V"⟩
abbrev cX4_readWinds : ByteArray := prog_6_method_5_code
def yX4_readWinds : MethodName := ⟨RX4, "readWinds", "()V"⟩
abbrev cX4_readWind : ByteArray := prog_6_method_6_code
def yX4_readWind : MethodName := ⟨RX4, "readWind", "()V"⟩
abbrev cX4_readSheets : ByteArray := prog_6_method_7_code
def yX4_readSheets : MethodName := ⟨RX4, "readSheets", "()V"⟩
abbrev cX4_readSheet : ByteArray := prog_6_method_8_code
def yX4_readSheet : MethodName := ⟨RX4, "readSheet", "()V"⟩
abbrev cX4_kindOfSort : ByteArray := prog_6_method_9_code
def yX4_kindOfSort : MethodName := ⟨RX4, "kindOfSort", "(I)I"⟩
abbrev cX4_fail : ByteArray := prog_6_method_10_code
def yX4_fail : MethodName := ⟨RX4, "fail", "(I)V"⟩
abbrev cX4_take : ByteArray := prog_6_method_11_code
def yX4_take : MethodName := ⟨RX4, "take", "(I)V"⟩
abbrev cX4_takeNumber : ByteArray := prog_6_method_12_code
def yX4_takeNumber : MethodName := ⟨RX4, "takeNumber", "(II)I"⟩
abbrev cX4_nextToken : ByteArray := prog_6_method_13_code
def yX4_nextToken : MethodName := ⟨RX4, "nextToken", "()V"⟩
abbrev cX4_readFigures : ByteArray := prog_6_method_14_code
def yX4_readFigures : MethodName := ⟨RX4, "readFigures", "()V"⟩
abbrev cX4_isFigure : ByteArray := prog_6_method_15_code
def yX4_isFigure : MethodName := ⟨RX4, "isFigure", "(I)Z"⟩
def RX5 : String := "FogSheets$Row"
def TX5 : u_T := fun k => match k with
  | 0 => ("FogSheets$Row", "items", "[I", true)
  | 1 => ("FogSheets$Row", "missing", "Z", false)
  | 2 => ("FogSheets$Row", "lane", "I", false)
  | _ => ("FogSheets$Row", "size", "I", false)
def tyX5 : Nat → FieldType := fun k => match k with
  | 0 => .array .int
  | 1 => .boolean
  | 2 => .int
  | _ => .int
abbrev wsX50 : List Cond := u_ws RX5 TX5 4
theorem nmX5 : ∀ a, a < 4 → ∀ b, b < 4 → a ≠ b → (TX5 a).2.1 ≠ (TX5 b).2.1 := by decide +kernel
theorem tyX5_ok : ∀ k, k < 4 → parseFieldDescriptor (TX5 k).2.2.1 = some (tyX5 k) := by decide +kernel
abbrev cX5_init : ByteArray := prog_7_method_1_code
def yX5_init : MethodName := ⟨RX5, "<init>", "()V"⟩
abbrev cX5_make : ByteArray := prog_7_method_2_code
def yX5_make : MethodName := ⟨RX5, "make", "(II)V"⟩
abbrev cX5_holds : ByteArray := prog_7_method_3_code
def yX5_holds : MethodName := ⟨RX5, "holds", "(II)Z"⟩
abbrev cX5_put : ByteArray := prog_7_method_4_code
def yX5_put : MethodName := ⟨RX5, "put", "(II)I"⟩
abbrev cX5_lowestBits : ByteArray := prog_7_method_5_code
def yX5_lowestBits : MethodName := ⟨RX5, "lowestBits", "(I)I"⟩
def RX6 : String := "FogSheets"
def TX6 : u_T := fun k => match k with
  | 0 => ("FogSheets", "rows", "[LFogSheets$Row;", true)
  | 1 => ("FogSheets", "reader", "LFogSheets$Reader;", true)
  | 2 => ("FogSheets", "now", "LFogSheets$Estuary;", true)
  | 3 => ("FogSheets", "acts", "LFogSheets$Acts;", true)
  | 4 => ("FogSheets", "images", "[LFogSheets$Estuary;", true)
  | 5 => ("FogSheets", "foreteller", "LFogSheets$Foreteller;", true)
  | 6 => ("FogSheets", "asks", "LFogSheets$Asks;", true)
  | 7 => ("FogSheets", "latestFault", "I", false)
  | _ => ("FogSheets", "latestFinding", "I", false)
def tyX6 : Nat → FieldType := fun k => match k with
  | 0 => .array (.object "FogSheets$Row")
  | 1 => .object "FogSheets$Reader"
  | 2 => .object "FogSheets$Estuary"
  | 3 => .object "FogSheets$Acts"
  | 4 => .array (.object "FogSheets$Estuary")
  | 5 => .object "FogSheets$Foreteller"
  | 6 => .object "FogSheets$Asks"
  | 7 => .int
  | _ => .int
abbrev wsX60 : List Cond := u_ws RX6 TX6 9
theorem nmX6 : ∀ a, a < 9 → ∀ b, b < 9 → a ≠ b → (TX6 a).2.1 ≠ (TX6 b).2.1 := by decide +kernel
theorem tyX6_ok : ∀ k, k < 9 → parseFieldDescriptor (TX6 k).2.2.1 = some (tyX6 k) := by decide +kernel
abbrev cX6_init : ByteArray := prog_1_method_1_code
def yX6_init : MethodName := ⟨RX6, "<init>", "()V"⟩
abbrev cX6_row : ByteArray := prog_1_method_2_code
def yX6_row : MethodName := ⟨RX6, "row", "(III)I"⟩
abbrev cX6_set : ByteArray := prog_1_method_3_code
def yX6_set : MethodName := ⟨RX6, "set", "(III)I"⟩
abbrev cX6_copy : ByteArray := prog_1_method_4_code
def yX6_copy : MethodName := ⟨RX6, "copy", "(IIIII)I"⟩
abbrev cX6_drop : ByteArray := prog_1_method_5_code
def yX6_drop : MethodName := ⟨RX6, "drop", "(I)I"⟩
abbrev cX6_feed : ByteArray := prog_1_method_6_code
def yX6_feed : MethodName := ⟨RX6, "feed", "(I)I"⟩
abbrev cX6_estuary : ByteArray := prog_1_method_7_code
def yX6_estuary : MethodName := ⟨RX6, "estuary", "()I"⟩
abbrev cX6_fault : ByteArray := prog_1_method_8_code
def yX6_fault : MethodName := ⟨RX6, "fault", "()I"⟩
abbrev cX6_undo : ByteArray := prog_1_method_9_code
def yX6_undo : MethodName := ⟨RX6, "undo", "()I"⟩
abbrev cX6_hours : ByteArray := prog_1_method_10_code
def yX6_hours : MethodName := ⟨RX6, "hours", "(I)I"⟩
abbrev cX6_step : ByteArray := prog_1_method_11_code
def yX6_step : MethodName := ⟨RX6, "step", "(I)I"⟩
abbrev cX6_wind : ByteArray := prog_1_method_12_code
def yX6_wind : MethodName := ⟨RX6, "wind", "(II)I"⟩
abbrev cX6_wake : ByteArray := prog_1_method_13_code
def yX6_wake : MethodName := ⟨RX6, "wake", "(I)I"⟩
abbrev cX6_let : ByteArray := prog_1_method_14_code
def yX6_let : MethodName := ⟨RX6, "let", "(III)I"⟩
abbrev cX6_sheet : ByteArray := prog_1_method_15_code
def yX6_sheet : MethodName := ⟨RX6, "sheet", "(II)I"⟩
abbrev cX6_cell : ByteArray := prog_1_method_16_code
def yX6_cell : MethodName := ⟨RX6, "cell", "(II)I"⟩
abbrev cX6_stand : ByteArray := prog_1_method_17_code
def yX6_stand : MethodName := ⟨RX6, "stand", "(I)I"⟩
abbrev cX6_ahead : ByteArray := prog_1_method_18_code
def yX6_ahead : MethodName := ⟨RX6, "ahead", "(III)I"⟩
abbrev cX6_over : ByteArray := prog_1_method_19_code
def yX6_over : MethodName := ⟨RX6, "over", "(II)I"⟩
abbrev cX6_when : ByteArray := prog_1_method_20_code
def yX6_when : MethodName := ⟨RX6, "when", "(II)I"⟩
abbrev cX6_overlap : ByteArray := prog_1_method_21_code
def yX6_overlap : MethodName := ⟨RX6, "overlap", "(I)I"⟩
abbrev cX6_walk : ByteArray := prog_1_method_22_code
def yX6_walk : MethodName := ⟨RX6, "walk", "(II)I"⟩
abbrev cX6_meet : ByteArray := prog_1_method_23_code
def yX6_meet : MethodName := ⟨RX6, "meet", "(I)I"⟩
abbrev cX6_site : ByteArray := prog_1_method_24_code
def yX6_site : MethodName := ⟨RX6, "site", "(II)I"⟩
abbrev cX6_waking : ByteArray := prog_1_method_25_code
def yX6_waking : MethodName := ⟨RX6, "waking", "(II)I"⟩
abbrev cX6_meant : ByteArray := prog_1_method_26_code
def yX6_meant : MethodName := ⟨RX6, "meant", "(II)I"⟩
abbrev cX6_share : ByteArray := prog_1_method_27_code
def yX6_share : MethodName := ⟨RX6, "share", "(II)I"⟩
abbrev cX6_byTurns : ByteArray := prog_1_method_28_code
def yX6_byTurns : MethodName := ⟨RX6, "byTurns", "(II)I"⟩
abbrev cX6_who : ByteArray := prog_1_method_29_code
def yX6_who : MethodName := ⟨RX6, "who", "(IIIII)I"⟩
abbrev cX6_gusts : ByteArray := prog_1_method_30_code
def yX6_gusts : MethodName := ⟨RX6, "gusts", "(IIII)I"⟩
abbrev cX6_lift : ByteArray := prog_1_method_31_code
def yX6_lift : MethodName := ⟨RX6, "lift", "(IIII)J"⟩
abbrev cX6_drawn : ByteArray := prog_1_method_32_code
def yX6_drawn : MethodName := ⟨RX6, "drawn", "(III)I"⟩
abbrev cX6_image : ByteArray := prog_1_method_33_code
def yX6_image : MethodName := ⟨RX6, "image", "(I)I"⟩
abbrev cX6_restore : ByteArray := prog_1_method_34_code
def yX6_restore : MethodName := ⟨RX6, "restore", "(I)I"⟩
abbrev cX6_kind : ByteArray := prog_1_method_35_code
def yX6_kind : MethodName := ⟨RX6, "kind", "(I)I"⟩
abbrev cX6_as : ByteArray := prog_1_method_36_code
def yX6_as : MethodName := ⟨RX6, "as", "(II)I"⟩
abbrev cX6_ask : ByteArray := prog_1_method_37_code
def yX6_ask : MethodName := ⟨RX6, "ask", "(II)I"⟩
abbrev cX6_trace : ByteArray := prog_1_method_38_code
def yX6_trace : MethodName := ⟨RX6, "trace", "(I)I"⟩
abbrev cX6_count : ByteArray := prog_1_method_39_code
def yX6_count : MethodName := ⟨RX6, "count", "(I)I"⟩
abbrev cX6_status : ByteArray := prog_1_method_40_code
def yX6_status : MethodName := ⟨RX6, "status", "()I"⟩
abbrev cX6_found : ByteArray := prog_1_method_41_code
def yX6_found : MethodName := ⟨RX6, "found", "(I)I"⟩
abbrev cX6_well : ByteArray := prog_1_method_42_code
def yX6_well : MethodName := ⟨RX6, "well", "(I)I"⟩
abbrev cX6_allThatFits : ByteArray := prog_1_method_43_code
def yX6_allThatFits : MethodName := ⟨RX6, "allThatFits", "(IIIII)I"⟩
abbrev cX6_rowsThere : ByteArray := prog_1_method_44_code
def yX6_rowsThere : MethodName := ⟨RX6, "rowsThere", "()I"⟩
abbrev cX6_isRow : ByteArray := prog_1_method_45_code
def yX6_isRow : MethodName := ⟨RX6, "isRow", "(I)Z"⟩
abbrev cX6_isFar : ByteArray := prog_1_method_46_code
def yX6_isFar : MethodName := ⟨RX6, "isFar", "(I)Z"⟩
abbrev cX6_isWithin : ByteArray := prog_1_method_47_code
def yX6_isWithin : MethodName := ⟨RX6, "isWithin", "(III)Z"⟩
abbrev cX6_isA : ByteArray := prog_1_method_48_code
def yX6_isA : MethodName := ⟨RX6, "isA", "(II)Z"⟩
abbrev cX6_widerKind : ByteArray := prog_1_method_49_code
def yX6_widerKind : MethodName := ⟨RX6, "widerKind", "(I)I"⟩
abbrev cX6_commonDivisor : ByteArray := prog_1_method_50_code
def yX6_commonDivisor : MethodName := ⟨RX6, "commonDivisor", "(II)I"⟩
abbrev cX6_power : ByteArray := prog_1_method_51_code
def yX6_power : MethodName := ⟨RX6, "power", "(II)J"⟩
def RX7 : String := "FogSheetsModel"
def TX7 : u_T := fun k => match k with
  | 0 => ("FogSheetsModel", "thrown", "I", false)
  | 1 => ("FogSheetsModel", "status", "I", false)
  | 2 => ("FogSheetsModel", "lane", "[I", true)
  | 3 => ("FogSheetsModel", "many", "[I", true)
  | 4 => ("FogSheetsModel", "item", "[I", true)
  | 5 => ("FogSheetsModel", "estuary", "[I", true)
  | 6 => ("FogSheetsModel", "fresh", "[I", true)
  | 7 => ("FogSheetsModel", "then", "[I", true)
  | 8 => ("FogSheetsModel", "was", "[I", true)
  | 9 => ("FogSheetsModel", "acts", "I", false)
  | 10 => ("FogSheetsModel", "tape", "[I", true)
  | 11 => ("FogSheetsModel", "taped", "I", false)
  | 12 => ("FogSheetsModel", "cursor", "I", false)
  | 13 => ("FogSheetsModel", "start", "I", false)
  | 14 => ("FogSheetsModel", "token", "I", false)
  | 15 => ("FogSheetsModel", "value", "I", false)
  | 16 => ("FogSheetsModel", "fault", "I", false)
  | 17 => ("FogSheetsModel", "faultAt", "I", false)
  | 18 => ("FogSheetsModel", "latest", "I", false)
  | 19 => ("FogSheetsModel", "overs", "[I", true)
  | 20 => ("FogSheetsModel", "isKept", "[Z", true)
  | 21 => ("FogSheetsModel", "kept", "[I", true)
  | 22 => ("FogSheetsModel", "trace", "[I", true)
  | _ => ("FogSheetsModel", "traced", "I", false)
def tyX7 : Nat → FieldType := fun k => match k with
  | 0 => .int
  | 1 => .int
  | 2 => .array .int
  | 3 => .array .int
  | 4 => .array .int
  | 5 => .array .int
  | 6 => .array .int
  | 7 => .array .int
  | 8 => .array .int
  | 9 => .int
  | 10 => .array .int
  | 11 => .int
  | 12 => .int
  | 13 => .int
  | 14 => .int
  | 15 => .int
  | 16 => .int
  | 17 => .int
  | 18 => .int
  | 19 => .array .int
  | 20 => .array .boolean
  | 21 => .array .int
  | 22 => .array .int
  | _ => .int
abbrev wsX70 : List Cond := u_ws RX7 TX7 24
theorem nmX7 : ∀ a, a < 24 → ∀ b, b < 24 → a ≠ b → (TX7 a).2.1 ≠ (TX7 b).2.1 := by decide +kernel
theorem tyX7_ok : ∀ k, k < 24 → parseFieldDescriptor (TX7 k).2.2.1 = some (tyX7 k) := by decide +kernel
abbrev cX7_init : ByteArray := prog_9_method_1_code
def yX7_init : MethodName := ⟨RX7, "<init>", "()V"⟩
abbrev cX7_in : ByteArray := prog_9_method_3_code
def yX7_in : MethodName := ⟨RX7, "in", "(JJJ)Z"⟩
abbrev cX7_finding : ByteArray := prog_9_method_4_code
def yX7_finding : MethodName := ⟨RX7, "finding", "(I)I"⟩
abbrev cX7_isRow : ByteArray := prog_9_method_5_code
def yX7_isRow : MethodName := ⟨RX7, "isRow", "(I)Z"⟩
abbrev cX7_row : ByteArray := prog_9_method_6_code
def yX7_row : MethodName := ⟨RX7, "row", "(III)I"⟩
abbrev cX7_set : ByteArray := prog_9_method_7_code
def yX7_set : MethodName := ⟨RX7, "set", "(III)I"⟩
abbrev cX7_copy : ByteArray := prog_9_method_8_code
def yX7_copy : MethodName := ⟨RX7, "copy", "(IIIII)I"⟩
abbrev cX7_drop : ByteArray := prog_9_method_9_code
def yX7_drop : MethodName := ⟨RX7, "drop", "(I)I"⟩
abbrev cX7_feed : ByteArray := prog_9_method_10_code
def yX7_feed : MethodName := ⟨RX7, "feed", "(I)I"⟩
abbrev cX7_bad : ByteArray := prog_9_method_11_code
def yX7_bad : MethodName := ⟨RX7, "bad", "(I)V"⟩
abbrev cX7_nextToken : ByteArray := prog_9_method_12_code
def yX7_nextToken : MethodName := ⟨RX7, "nextToken", "()V"⟩
abbrev cX7_must : ByteArray := prog_9_method_13_code
def yX7_must : MethodName := ⟨RX7, "must", "(Z)V"⟩
abbrev cX7_isLetter : ByteArray := prog_9_method_14_code
def yX7_isLetter : MethodName := ⟨RX7, "isLetter", "(I)Z"⟩
abbrev cX7_number : ByteArray := prog_9_method_15_code
def yX7_number : MethodName := ⟨RX7, "number", "(II)I"⟩
abbrev cX7_mustSign : ByteArray := prog_9_method_16_code
def yX7_mustSign : MethodName := ⟨RX7, "mustSign", "(I)V"⟩
abbrev cX7_begin : ByteArray := prog_9_method_17_code
def yX7_begin : MethodName := ⟨RX7, "begin", "()V"⟩
abbrev cX7_failed : ByteArray := prog_9_method_18_code
def yX7_failed : MethodName := ⟨RX7, "failed", "()Z"⟩
abbrev cX7_fault : ByteArray := prog_9_method_19_code
def yX7_fault : MethodName := ⟨RX7, "fault", "()I"⟩
abbrev cX7_kindBy : ByteArray := prog_9_method_20_code
def yX7_kindBy : MethodName := ⟨RX7, "kindBy", "(I)I"⟩
abbrev cX7_isSort : ByteArray := prog_9_method_21_code
def yX7_isSort : MethodName := ⟨RX7, "isSort", "()Z"⟩
abbrev cX7_readWind : ByteArray := prog_9_method_22_code
def yX7_readWind : MethodName := ⟨RX7, "readWind", "()V"⟩
abbrev cX7_readSheet : ByteArray := prog_9_method_23_code
def yX7_readSheet : MethodName := ⟨RX7, "readSheet", "()V"⟩
abbrev cX7_estuary : ByteArray := prog_9_method_24_code
def yX7_estuary : MethodName := ⟨RX7, "estuary", "()I"⟩
abbrev cX7_isThere : ByteArray := prog_9_method_25_code
def yX7_isThere : MethodName := ⟨RX7, "isThere", "()Z"⟩
abbrev cX7_isSheet : ByteArray := prog_9_method_26_code
def yX7_isSheet : MethodName := ⟨RX7, "isSheet", "(I)Z"⟩
abbrev cX7_isWind : ByteArray := prog_9_method_27_code
def yX7_isWind : MethodName := ⟨RX7, "isWind", "(I)Z"⟩
abbrev cX7_isCell : ByteArray := prog_9_method_28_code
def yX7_isCell : MethodName := ⟨RX7, "isCell", "(I)Z"⟩
abbrev cX7_bits : ByteArray := prog_9_method_29_code
def yX7_bits : MethodName := ⟨RX7, "bits", "(I)I"⟩
abbrev cX7_has : ByteArray := prog_9_method_30_code
def yX7_has : MethodName := ⟨RX7, "has", "(II)Z"⟩
abbrev cX7_of : ByteArray := prog_9_method_31_code
def yX7_of : MethodName := ⟨RX7, "of", "([III)I"⟩
abbrev cX7_be : ByteArray := prog_9_method_32_code
def yX7_be : MethodName := ⟨RX7, "be", "([IIII)V"⟩
abbrev cX7_isIn : ByteArray := prog_9_method_33_code
def yX7_isIn : MethodName := ⟨RX7, "isIn", "([II)Z"⟩
abbrev cX7_windOf : ByteArray := prog_9_method_34_code
def yX7_windOf : MethodName := ⟨RX7, "windOf", "([I)I"⟩
abbrev cX7_cellsOf : ByteArray := prog_9_method_35_code
def yX7_cellsOf : MethodName := ⟨RX7, "cellsOf", "([III)I"⟩
abbrev cX7_liesOn : ByteArray := prog_9_method_36_code
def yX7_liesOn : MethodName := ⟨RX7, "liesOn", "([II)I"⟩
abbrev cX7_drift : ByteArray := prog_9_method_37_code
def yX7_drift : MethodName := ⟨RX7, "drift", "([III)V"⟩
abbrev cX7_hourOf : ByteArray := prog_9_method_38_code
def yX7_hourOf : MethodName := ⟨RX7, "hourOf", "([I)V"⟩
abbrev cX7_hoursOf : ByteArray := prog_9_method_39_code
def yX7_hoursOf : MethodName := ⟨RX7, "hoursOf", "([II)V"⟩
abbrev cX7_overOf : ByteArray := prog_9_method_40_code
def yX7_overOf : MethodName := ⟨RX7, "overOf", "([II)I"⟩
abbrev cX7_ins : ByteArray := prog_9_method_41_code
def yX7_ins : MethodName := ⟨RX7, "ins", "([I)I"⟩
abbrev cX7_numbered : ByteArray := prog_9_method_42_code
def yX7_numbered : MethodName := ⟨RX7, "numbered", "([I)I"⟩
abbrev cX7_letIn : ByteArray := prog_9_method_43_code
def yX7_letIn : MethodName := ⟨RX7, "letIn", "([IIII)V"⟩
abbrev cX7_layThen : ByteArray := prog_9_method_44_code
def yX7_layThen : MethodName := ⟨RX7, "layThen", "()V"⟩
abbrev cX7_keep : ByteArray := prog_9_method_45_code
def yX7_keep : MethodName := ⟨RX7, "keep", "()V"⟩
abbrev cX7_hours : ByteArray := prog_9_method_46_code
def yX7_hours : MethodName := ⟨RX7, "hours", "(I)I"⟩
abbrev cX7_step : ByteArray := prog_9_method_47_code
def yX7_step : MethodName := ⟨RX7, "step", "(I)I"⟩
abbrev cX7_wind : ByteArray := prog_9_method_48_code
def yX7_wind : MethodName := ⟨RX7, "wind", "(II)I"⟩
abbrev cX7_wake : ByteArray := prog_9_method_49_code
def yX7_wake : MethodName := ⟨RX7, "wake", "(I)I"⟩
abbrev cX7_let : ByteArray := prog_9_method_50_code
def yX7_let : MethodName := ⟨RX7, "let", "(III)I"⟩
abbrev cX7_undo : ByteArray := prog_9_method_51_code
def yX7_undo : MethodName := ⟨RX7, "undo", "()I"⟩
abbrev cX7_told : ByteArray := prog_9_method_52_code
def yX7_told : MethodName := ⟨RX7, "told", "([III)I"⟩
abbrev cX7_sheet : ByteArray := prog_9_method_53_code
def yX7_sheet : MethodName := ⟨RX7, "sheet", "(II)I"⟩
abbrev cX7_cell : ByteArray := prog_9_method_54_code
def yX7_cell : MethodName := ⟨RX7, "cell", "(II)I"⟩
abbrev cX7_stand : ByteArray := prog_9_method_55_code
def yX7_stand : MethodName := ⟨RX7, "stand", "(I)I"⟩
abbrev cX7_ahead : ByteArray := prog_9_method_56_code
def yX7_ahead : MethodName := ⟨RX7, "ahead", "(III)I"⟩
abbrev cX7_over : ByteArray := prog_9_method_57_code
def yX7_over : MethodName := ⟨RX7, "over", "(II)I"⟩
abbrev cX7_when : ByteArray := prog_9_method_58_code
def yX7_when : MethodName := ⟨RX7, "when", "(II)I"⟩
abbrev cX7_overlap : ByteArray := prog_9_method_59_code
def yX7_overlap : MethodName := ⟨RX7, "overlap", "(I)I"⟩
abbrev cX7_walk : ByteArray := prog_9_method_60_code
def yX7_walk : MethodName := ⟨RX7, "walk", "(II)I"⟩
abbrev cX7_meet : ByteArray := prog_9_method_61_code
def yX7_meet : MethodName := ⟨RX7, "meet", "(I)I"⟩
abbrev cX7_site : ByteArray := prog_9_method_62_code
def yX7_site : MethodName := ⟨RX7, "site", "(II)I"⟩
abbrev cX7_numberedBy : ByteArray := prog_9_method_63_code
def yX7_numberedBy : MethodName := ⟨RX7, "numberedBy", "(II)I"⟩
abbrev cX7_waking : ByteArray := prog_9_method_64_code
def yX7_waking : MethodName := ⟨RX7, "waking", "(II)I"⟩
abbrev cX7_meant : ByteArray := prog_9_method_65_code
def yX7_meant : MethodName := ⟨RX7, "meant", "(II)I"⟩
abbrev cX7_pailsOf : ByteArray := prog_9_method_66_code
def yX7_pailsOf : MethodName := ⟨RX7, "pailsOf", "(I)I"⟩
abbrev cX7_share : ByteArray := prog_9_method_67_code
def yX7_share : MethodName := ⟨RX7, "share", "(II)I"⟩
abbrev cX7_turnWind : ByteArray := prog_9_method_68_code
def yX7_turnWind : MethodName := ⟨RX7, "turnWind", "([I)V"⟩
abbrev cX7_afterTurns : ByteArray := prog_9_method_69_code
def yX7_afterTurns : MethodName := ⟨RX7, "afterTurns", "(IIIII)I"⟩
abbrev cX7_byTurns : ByteArray := prog_9_method_70_code
def yX7_byTurns : MethodName := ⟨RX7, "byTurns", "(II)I"⟩
abbrev cX7_rowFound : ByteArray := prog_9_method_71_code
def yX7_rowFound : MethodName := ⟨RX7, "rowFound", "(III)I"⟩
abbrev cX7_isMany : ByteArray := prog_9_method_72_code
def yX7_isMany : MethodName := ⟨RX7, "isMany", "(II)Z"⟩
abbrev cX7_allSo : ByteArray := prog_9_method_73_code
def yX7_allSo : MethodName := ⟨RX7, "allSo", "(IIIII)I"⟩
abbrev cX7_who : ByteArray := prog_9_method_74_code
def yX7_who : MethodName := ⟨RX7, "who", "(IIIII)I"⟩
abbrev cX7_gusts : ByteArray := prog_9_method_75_code
def yX7_gusts : MethodName := ⟨RX7, "gusts", "(IIII)I"⟩
abbrev cX7_lift : ByteArray := prog_9_method_76_code
def yX7_lift : MethodName := ⟨RX7, "lift", "(IIII)J"⟩
abbrev cX7_drawn : ByteArray := prog_9_method_77_code
def yX7_drawn : MethodName := ⟨RX7, "drawn", "(III)I"⟩
abbrev cX7_image : ByteArray := prog_9_method_78_code
def yX7_image : MethodName := ⟨RX7, "image", "(I)I"⟩
abbrev cX7_restore : ByteArray := prog_9_method_79_code
def yX7_restore : MethodName := ⟨RX7, "restore", "(I)I"⟩
abbrev cX7_isOf : ByteArray := prog_9_method_80_code
def yX7_isOf : MethodName := ⟨RX7, "isOf", "(II)Z"⟩
abbrev cX7_kind : ByteArray := prog_9_method_81_code
def yX7_kind : MethodName := ⟨RX7, "kind", "(I)I"⟩
abbrev cX7_as : ByteArray := prog_9_method_82_code
def yX7_as : MethodName := ⟨RX7, "as", "(II)I"⟩
abbrev cX7_began : ByteArray := prog_9_method_83_code
def yX7_began : MethodName := ⟨RX7, "began", "(I)V"⟩
abbrev cX7_plainSize : ByteArray := prog_9_method_84_code
def yX7_plainSize : MethodName := ⟨RX7, "plainSize", "(I)I"⟩
abbrev cX7_haarSize : ByteArray := prog_9_method_85_code
def yX7_haarSize : MethodName := ⟨RX7, "haarSize", "(I)I"⟩
abbrev cX7_markOf : ByteArray := prog_9_method_86_code
def yX7_markOf : MethodName := ⟨RX7, "markOf", "(I)I"⟩
abbrev cX7_sizeOf : ByteArray := prog_9_method_87_code
def yX7_sizeOf : MethodName := ⟨RX7, "sizeOf", "(I)I"⟩
abbrev cX7_ask : ByteArray := prog_9_method_88_code
def yX7_ask : MethodName := ⟨RX7, "ask", "(II)I"⟩
abbrev cX7_trace : ByteArray := prog_9_method_89_code
def yX7_trace : MethodName := ⟨RX7, "trace", "(I)I"⟩
abbrev cX7_count : ByteArray := prog_9_method_90_code
def yX7_count : MethodName := ⟨RX7, "count", "(I)I"⟩
abbrev cX7_status : ByteArray := prog_9_method_91_code
def yX7_status : MethodName := ⟨RX7, "status", "()I"⟩
def RJ6 : String := "java/lang/Integer"
def TJ6 : u_T := fun k => match k with
  | _ => ("", "", "", false)
def tyJ6 : Nat → FieldType := fun k => match k with
  | _ => .int
abbrev wsJ60 : List Cond := u_ws RJ6 TJ6 0
theorem nmJ6 : ∀ a, a < 0 → ∀ b, b < 0 → a ≠ b → (TJ6 a).2.1 ≠ (TJ6 b).2.1 := by decide +kernel
theorem tyJ6_ok : ∀ k, k < 0 → parseFieldDescriptor (TJ6 k).2.2.1 = some (tyJ6 k) := by decide +kernel
abbrev cJ6_bitCount_0f7a4 : ByteArray := prog_10_method_49_code
def yJ6_bitCount_0f7a4 : MethodName := ⟨RJ6, "bitCount", "(I)I"⟩
def RJ9 : String := "java/lang/Math"
def TJ9 : u_T := fun k => match k with
  | _ => ("", "", "", false)
def tyJ9 : Nat → FieldType := fun k => match k with
  | _ => .int
abbrev wsJ90 : List Cond := u_ws RJ9 TJ9 0
theorem nmJ9 : ∀ a, a < 0 → ∀ b, b < 0 → a ≠ b → (TJ9 a).2.1 ≠ (TJ9 b).2.1 := by decide +kernel
theorem tyJ9_ok : ∀ k, k < 0 → parseFieldDescriptor (TJ9 k).2.2.1 = some (tyJ9 k) := by decide +kernel
abbrev cJ9_max_7cf53 : ByteArray := prog_11_method_65_code
def yJ9_max_7cf53 : MethodName := ⟨RJ9, "max", "(II)I"⟩
abbrev cJ9_min_7cf53 : ByteArray := prog_11_method_69_code
def yJ9_min_7cf53 : MethodName := ⟨RJ9, "min", "(II)I"⟩
def RJ10 : String := "java/lang/System"
def TJ10 : u_T := fun k => match k with
  | _ => ("", "", "", false)
def tyJ10 : Nat → FieldType := fun k => match k with
  | _ => .int
abbrev wsJ100 : List Cond := u_ws RJ10 TJ10 0
theorem nmJ10 : ∀ a, a < 0 → ∀ b, b < 0 → a ≠ b → (TJ10 a).2.1 ≠ (TJ10 b).2.1 := by decide +kernel
theorem tyJ10_ok : ∀ k, k < 0 → parseFieldDescriptor (TJ10 k).2.2.1 = some (tyJ10 k) := by decide +kernel
def RJ7 : String := "java/util/Arrays"
def TJ7 : u_T := fun k => match k with
  | _ => ("", "", "", false)
def tyJ7 : Nat → FieldType := fun k => match k with
  | _ => .int
abbrev wsJ70 : List Cond := u_ws RJ7 TJ7 0
theorem nmJ7 : ∀ a, a < 0 → ∀ b, b < 0 → a ≠ b → (TJ7 a).2.1 ≠ (TJ7 b).2.1 := by decide +kernel
theorem tyJ7_ok : ∀ k, k < 0 → parseFieldDescriptor (TJ7 k).2.2.1 = some (tyJ7 k) := by decide +kernel
abbrev cJ7_fill_53178 : ByteArray := prog_13_method_103_code
def yJ7_fill_53178 : MethodName := ⟨RJ7, "fill", "([II)V"⟩
def RL : String := "FogSheetsLaw"
abbrev cL_law : ByteArray := code
def yL_law : MethodName := ⟨RL, "law", "([I)Z"⟩
theorem inlX0 : ∀ w ∈ wsX00, w ∈ wsL_law := fun _ h => List.mem_append_left _ (List.mem_append_left _ (List.mem_append_left _ (List.mem_append_left _ (List.mem_append_right _ h))))
theorem inX0 : ∀ w ∈ wsX00, w ∈ lw_tbl := fun w h => wsL_law_in w (inlX0 w h)
theorem inlX1 : ∀ w ∈ wsX10, w ∈ wsL_law := fun _ h => List.mem_append_left _ (List.mem_append_left _ (List.mem_append_right _ h))
theorem inX1 : ∀ w ∈ wsX10, w ∈ lw_tbl := fun w h => wsL_law_in w (inlX1 w h)
theorem inlX2 : ∀ w ∈ wsX20, w ∈ wsL_law := fun _ h => List.mem_append_left _ (List.mem_append_left _ (List.mem_append_left _ (List.mem_append_left _ (List.mem_append_left _ (List.mem_append_right _ h)))))
theorem inX2 : ∀ w ∈ wsX20, w ∈ lw_tbl := fun w h => wsL_law_in w (inlX2 w h)
theorem inlX3 : ∀ w ∈ wsX30, w ∈ wsL_law := fun _ h => List.mem_append_left _ (List.mem_append_left _ (List.mem_append_left _ (List.mem_append_right _ h)))
theorem inX3 : ∀ w ∈ wsX30, w ∈ lw_tbl := fun w h => wsL_law_in w (inlX3 w h)
theorem inlX4 : ∀ w ∈ wsX40, w ∈ wsL_law := fun _ h => List.mem_append_left _ (List.mem_append_left _ (List.mem_append_left _ (List.mem_append_left _ (List.mem_append_left _ (List.mem_append_left _ (List.mem_append_right _ h))))))
theorem inX4 : ∀ w ∈ wsX40, w ∈ lw_tbl := fun w h => wsL_law_in w (inlX4 w h)
theorem inlX5 : ∀ w ∈ wsX50, w ∈ wsL_law := fun _ h => List.mem_append_left _ (List.mem_append_right _ h)
theorem inX5 : ∀ w ∈ wsX50, w ∈ lw_tbl := fun w h => wsL_law_in w (inlX5 w h)
theorem inlX6 : ∀ w ∈ wsX60, w ∈ wsL_law := fun _ h => List.mem_append_left _ (List.mem_append_left _ (List.mem_append_left _ (List.mem_append_left _ (List.mem_append_left _ (List.mem_append_left _ (List.mem_append_left _ (List.mem_append_left _ (List.mem_append_right _ h))))))))
theorem inX6 : ∀ w ∈ wsX60, w ∈ lw_tbl := fun w h => wsL_law_in w (inlX6 w h)
theorem inlX7 : ∀ w ∈ wsX70, w ∈ wsL_law := fun _ h => List.mem_append_left _ (List.mem_append_left _ (List.mem_append_left _ (List.mem_append_left _ (List.mem_append_left _ (List.mem_append_left _ (List.mem_append_left _ (List.mem_append_right _ h)))))))
theorem inX7 : ∀ w ∈ wsX70, w ∈ lw_tbl := fun w h => wsL_law_in w (inlX7 w h)
theorem inJ6 : ∀ w ∈ wsJ60, w ∈ lw_tbl := by decide +kernel
theorem inJ9 : ∀ w ∈ wsJ90, w ∈ lw_tbl := by decide +kernel
theorem inJ10 : ∀ w ∈ wsJ100, w ∈ lw_tbl := by decide +kernel
theorem inJ7 : ∀ w ∈ wsJ70, w ∈ lw_tbl := by decide +kernel
abbrev vwCl : List vw_C := [(RX0, TX0, 3), (RX1, TX1, 2), (RX2, TX2, 16), (RX3, TX3, 6), (RX4, TX4, 8), (RX5, TX5, 4), (RX6, TX6, 9), (RX7, TX7, 24)]
