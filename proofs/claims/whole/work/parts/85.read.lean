/-! ===== reading: law and winds ===== -/
def bnd (h : Hp) : Prop := (∃ w : Nat, w ≤ 6 ∧ h 7 11 = nI w) ∧ (∃ s : Nat, s ≤ 6 ∧ h 7 12 = nI s)
def rdP (D : Rw → Hp → Hp → Prop) (h k : Hp) : Prop := (tokR h k ∧ ∃ R, D R h k) ∨ (faR h k ∧ bnd h)
def rdN (D : Rw → Hp → Hp → Prop) (lo hi : Rw → Int) (x y : Int32) (h k : Hp) : Prop := (tokR h k ∧ ∃ (R : Rw) (v : Int), D R h k ∧ lo R ≤ v ∧ v ≤ hi R ∧ x = I v ∧ y = I v) ∨ (faR h k ∧ bnd h)
def okD (D : Rw → Hp → Hp → Prop) : Prop := (∀ R h k h1 k1, (∀ i j, i ≠ 205 → h1 i j = h i j) → (∀ j, k1 251 j = k 251 j) → D R h k → D R h1 k1) ∧ (∀ R h k, D R h k → bnd h)
theorem eC.b {h h1 : Hp} (o : eC h h1) (b : bnd h) : bnd h1 := by
  unfold bnd at b ⊢
  rw [o 7 11 (by omega), o 7 12 (by omega)]
  exact b
section OPS
variable {D : Rw → Hp → Hp → Prop} {h k : Hp}
theorem okD.mv (o : okD D) {R : Rw} {h1 k1 : Hp} (a : eC h h1) (b : eM k k1) (d : D R h k) : D R h1 k1 := o.1 R h k h1 k1 (fun i j q => a i j (Or.inl q)) (fun j => b 251 j (by omega)) d
theorem op_sign {c : Nat} (o : okD D) (hc : isSg c) (s : rdP D h k) : ∃ h1 k1, fX4_take (nI c) h = some ((), h1) ∧ fX7_mustSign (nI c) k = some ((), k1) ∧ rdP D h1 k1 ∧ eC h h1 ∧ eM k k1 := by
  rcases s with ⟨t, R, d⟩ | ⟨f, b⟩
  · obtain ⟨h1, k1, a1, a2, a3, a4, a5⟩ := o_sign hc t
    refine ⟨h1, k1, a1, a2, ?_, a4, a5⟩
    rcases a3 with a3 | a3
    · exact Or.inl ⟨a3, R, o.mv a4 a5 d⟩
    · exact Or.inr ⟨a3, a4.b (o.2 R h k d)⟩
  · exact ⟨h, k, f_take f.c, fm_sign f.m, Or.inr ⟨f, b⟩, eC.rf, eM.rf⟩
theorem op_let {c : Nat} (o : okD D) (hc : isLt c) (s : rdP D h k) : ∃ x h1 k1, fX4_take (nI c) h = some ((), h1) ∧ fX7_isLetter (nI c) k = some (x, k) ∧ fX7_must x k = some ((), k1) ∧ rdP D h1 k1 ∧ eC h h1 ∧ eM k k1 := by
  rcases s with ⟨t, R, d⟩ | ⟨f, b⟩
  · rcases o_isl hc t with ⟨a1, a2, h1, k1, a3, a4, a5, a6, a7⟩ | ⟨a1, a2⟩
    · exact ⟨1, h1, k1, c_take1 t.c a1 a3, a2, m_must1 t.m a4, Or.inl ⟨a5, R, o.mv a6 a7 d⟩, a6, a7⟩
    · exact ⟨0, flC h 1, flM k 1, c_take0 t.c a1, a2, m_must0 t.m, Or.inr ⟨fl_R (by omega) t, flC_e.b (o.2 R h k d)⟩, flC_e, flM_e⟩
  · exact ⟨0, h, k, f_take f.c, fm_let f.m, fm_must f.m, Or.inr ⟨f, b⟩, eC.rf, eM.rf⟩
theorem op_num {a1 a2 b1 b2 : Int32} (lo hi : Rw → Int) (o : okD D) (hA : ∀ R, D R h k → (a1 = I (lo R) ∧ a2 = I (hi R) ∧ b1 = I (lo R) ∧ b2 = I (hi R)) ∧ (-1000 ≤ lo R ∧ lo R ≤ 1000) ∧ (-1000 ≤ hi R ∧ hi R ≤ 1000)) (s : rdP D h k) : ∃ x y h1 k1, fX4_takeNumber a1 a2 h = some (x, h1) ∧ fX7_number b1 b2 k = some (y, k1) ∧ rdN D lo hi x y h1 k1 ∧ eC h h1 ∧ eM k k1 := by
  rcases s with ⟨t, R, d⟩ | ⟨f, b⟩
  · obtain ⟨⟨e1, e2, e3, e4⟩, l1, l2⟩ := hA R d
    obtain ⟨x, y, h1, k1, n1, n2, n3, n4, n5⟩ := o_num l1 l2 t
    rw [e1, e2, e3, e4]
    refine ⟨x, y, h1, k1, n1, n2, ?_, n4, n5⟩
    rcases n3 with ⟨n3, v, v1, v2, v3, v4⟩ | n3
    · exact Or.inl ⟨n3, R, v, o.mv n4 n5 d, v1, v2, v3, v4⟩
    · exact Or.inr ⟨n3, n4.b (o.2 R h k d)⟩
  · exact ⟨0, b1, h, k, f_num f.c, fm_num f.m, Or.inr ⟨f, b⟩, eC.rf, eM.rf⟩
end OPS
/-! frames -/
def eD (h h1 : Hp) : Prop := ∀ i j, ¬ (7 ≤ i ∧ i < 14) → i ≠ 205 ∨ j = 1 → h1 i j = h i j
def eN (k k1 : Hp) : Prop := ∀ i j, i ≠ 251 → ¬ (i = 246 ∧ 12 ≤ j ∧ j ≤ 17) → k1 i j = k i j
theorem eD.rf {h : Hp} : eD h h := fun _ _ _ _ => rfl
theorem eN.rf {h : Hp} : eN h h := fun _ _ _ _ => rfl
theorem eD.tr {h h1 h2 : Hp} (a : eD h h1) (b : eD h1 h2) : eD h h2 := fun i j p q => (b i j p q).trans (a i j p q)
theorem eN.tr {h h1 h2 : Hp} (a : eN h h1) (b : eN h1 h2) : eN h h2 := fun i j p q => (b i j p q).trans (a i j p q)
theorem eC.d {h h1 : Hp} (a : eC h h1) : eD h h1 := fun i j _ q => a i j q
theorem eM.n {h h1 : Hp} (a : eM h h1) : eN h h1 := fun i j _ q => a i j q
theorem eD.up {h h1 : Hp} {i j : Nat} {v : Int32} (a : eD h h1) (q : 7 ≤ i ∧ i < 14) : eD h (up2 h1 i j v) := fun x y p z => by rw [up2_at, if_neg (by omega)]; exact a x y p z
theorem eN.up {k k1 : Hp} {j : Nat} {v : Int32} (a : eN k k1) : eN k (up2 k1 251 j v) := fun x y p z => by rw [up2_at, if_neg (by omega)]; exact a x y p z
/-! the law -/
def bas (h : Hp) : Prop := h 7 11 = 0 ∧ h 7 12 = 0 ∧ h 7 13 = 0 ∧ h 7 14 = 0 ∧ h 7 15 = 0 ∧ ∀ s, s < 6 → h 13 s = 0
def LD (j : Nat) (R : Rw) (h k : Hp) : Prop := M0 k 251 R ∧ bas h ∧ (R 0 = 0 ∧ R 1 = 0 ∧ R 6 = 0 ∧ R 7 = 0) ∧ (∀ i, i < j → h 7 (7 + i) = I (R (2 + i))) ∧ (0 < j → 6 ≤ R 2 ∧ R 2 ≤ 16) ∧ (1 < j → 0 ≤ R 3 ∧ R 3 < R 2) ∧ (2 < j → 0 ≤ R 4 ∧ R 4 < R 2) ∧ (3 < j → 0 ≤ R 5 ∧ R 5 ≤ 15)
theorem okD_L {j : Nat} : okD (LD j) := by
  refine ⟨fun R h k h1 k1 a b d => ?_, fun R h k d => ?_⟩
  · obtain ⟨d1, ⟨c1, c2, c3, c4, c5, c6⟩, d3, d4, d5⟩ := d
    have a7 := fun j => a 7 j (by omega)
    exact ⟨fun i hi => by rw [b]; exact d1 i hi, ⟨by rw [a7]; exact c1, by rw [a7]; exact c2, by rw [a7]; exact c3, by rw [a7]; exact c4, by rw [a7]; exact c5, fun s hs => by rw [a 13 s (by omega)]; exact c6 s hs⟩, d3, fun i hi => by rw [a7]; exact d4 i hi, d5⟩
  · obtain ⟨d1, ⟨c1, c2, -⟩, -⟩ := d
    exact ⟨⟨0, by omega, c1⟩, ⟨0, by omega, c2⟩⟩
theorem op_set {j : Nat} {lo hi : Rw → Int} {x y : Int32} {h k : Hp} (hj : j < 4) (s : rdN (LD j) lo hi x y h k) (hv : ∀ R v, LD j R h k → lo R ≤ v → v ≤ hi R → (j = 0 → 6 ≤ v ∧ v ≤ 16) ∧ (j = 1 → 0 ≤ v ∧ v < R 2) ∧ (j = 2 → 0 ≤ v ∧ v < R 2) ∧ (j = 3 → 0 ≤ v ∧ v ≤ 15)) : rdP (LD (j + 1)) (up2 h 7 (7 + j) x) (up2 k 251 (2 + j) y) := by
  rcases s with ⟨t, R, v, d, v1, v2, rfl, rfl⟩ | ⟨f, b⟩
  · obtain ⟨b0, b1, b2, b3⟩ := hv R v d v1 v2
    obtain ⟨d1, ⟨c1, c2, c3, c4, c5, c6⟩, ⟨e0, e1, e6, e7⟩, d4, d5, d6, d7, d8⟩ := d
    refine Or.inl ⟨t.cg (fun i j q => g_x (by omega)) (fun i j q => g_x (by omega)), va_up R (2 + j) v, M0.up d1, ⟨by rw [g_o (by omega)]; exact c1, by rw [g_o (by omega)]; exact c2, by rw [g_o (by omega)]; exact c3, by rw [g_o (by omega)]; exact c4, by rw [g_o (by omega)]; exact c5, fun s hs => by rw [g_x (by omega)]; exact c6 s hs⟩, ⟨by rw [upR_ne (by omega)]; exact e0, by rw [upR_ne (by omega)]; exact e1, by rw [upR_ne (by omega)]; exact e6, by rw [upR_ne (by omega)]; exact e7⟩, fun i hi => ?_, ?_, ?_, ?_, ?_⟩
    · by_cases z : i = j
      · subst z; rw [up_s, upR_at]
      · rw [g_o (by omega), upR_ne (by omega)]; exact d4 i (by omega)
    · intro _
      by_cases z : j = 0
      · subst z; rw [upR_at]; exact b0 rfl
      · rw [upR_ne (by omega)]; exact d5 (by omega)
    · intro z1
      by_cases z : j = 1
      · subst z; rw [upR_at, upR_ne (by omega)]; exact b1 rfl
      · rw [upR_ne (by omega), upR_ne (by omega)]; exact d6 (by omega)
    · intro z1
      by_cases z : j = 2
      · subst z; rw [upR_at, upR_ne (by omega)]; exact b2 rfl
      · rw [upR_ne (by omega), upR_ne (by omega)]; exact d7 (by omega)
    · intro z1
      have z : j = 3 := by omega
      subst z; rw [upR_at]; exact b3 rfl
  · refine Or.inr ⟨f.cg (fun j => g_x (by omega)) (fun j => g_x (by omega)), ?_⟩
    unfold bnd at b ⊢
    rw [g_o (by omega), g_o (by omega)]
    exact b
theorem a251 : is50 251 := rfl
theorem sg44 : isSg 44 := Or.inl rfl
theorem sg59 : isSg 59 := Or.inr rfl
theorem o_law {α : Type} {h k : Hp} (s : rdP (LD 0) h k) : ∃ h1 k1, fX4_readLaw h = some ((), h1) ∧ (∀ K : Hp → Option α, (bd (fX7_isLetter (101 : Int32) k) fun x40 kk41 =>
      bd (fX7_must x40 kk41) fun _ kk49 =>
      bd (fX7_number (6 : Int32) (16 : Int32) kk49) fun x56 kk57 =>
      chk (inb (2 : Int32) (lenM 251)) <|
      lk (up2 kk57 251 (2 : Int32).toNatClampNeg x56) fun kk68 =>
      bd (fX7_mustSign (44 : Int32) kk68) fun _ kk73 =>
      chk (inb (2 : Int32) (lenM 251)) <|
      bd (fX7_number (0 : Int32) ((kk73 251 (2 : Int32).toNatClampNeg) - (1 : Int32)) kk73) fun x82 kk83 =>
      chk (inb (3 : Int32) (lenM 251)) <|
      lk (up2 kk83 251 (3 : Int32).toNatClampNeg x82) fun kk94 =>
      bd (fX7_mustSign (44 : Int32) kk94) fun _ kk99 =>
      chk (inb (2 : Int32) (lenM 251)) <|
      bd (fX7_number (0 : Int32) ((kk99 251 (2 : Int32).toNatClampNeg) - (1 : Int32)) kk99) fun x108 kk109 =>
      chk (inb (4 : Int32) (lenM 251)) <|
      lk (up2 kk109 251 (4 : Int32).toNatClampNeg x108) fun kk120 =>
      bd (fX7_mustSign (44 : Int32) kk120) fun _ kk125 =>
      bd (fX7_number (0 : Int32) (15 : Int32) kk125) fun x132 kk133 =>
      chk (inb (5 : Int32) (lenM 251)) <|
      lk (up2 kk133 251 (5 : Int32).toNatClampNeg x132) fun kk144 =>
      bd (fX7_mustSign (59 : Int32) kk144) fun _ kk149 => K kk149) = K k1) ∧ rdP (LD 4) h1 k1 ∧ eD h h1 ∧ eN k k1 := by
  obtain ⟨x0, h1, k1, a1, a2, a3, a4, a5, a6⟩ := op_let (c := 101) okD_L (by unfold isLt; omega) s
  obtain ⟨x1, y1, h2, k2, b1, b2, b3, b4, b5⟩ := op_num (a1 := 6) (a2 := 16) (b1 := 6) (b2 := 16) (fun _ => 6) (fun _ => 16) okD_L (fun R d => ⟨⟨rfl, rfl, rfl, rfl⟩, by omega, by omega⟩) a4
  have s1 := op_set (j := 0) (by omega) b3 (fun R v d v1 v2 => by omega)
  obtain ⟨h3, k3, d1, d2, d3, d4, d5⟩ := op_sign okD_L sg44 s1
  have hi : ∀ {j : Nat} {h k : Hp} {R : Rw}, 0 < j → LD j R h k → (h 7 7 - 1 = I (R 2 - 1) ∧ k 251 (2 : Int32).toNatClampNeg - 1 = I (R 2 - 1)) ∧ (6 ≤ R 2 ∧ R 2 ≤ 16) := by
    intro j h k R hj d
    have e1 := d.2.2.2.1 0 hj
    have e2 : k 251 (2 : Int32).toNatClampNeg = I (R 2) := d.1 2 (by omega)
    refine ⟨⟨?_, ?_⟩, d.2.2.2.2.1 hj⟩
    · rw [show h 7 7 = I (R 2) from e1, I_1, I_sub]
    · rw [e2, I_1, I_sub]
  obtain ⟨x2, y2, h4, k4, e1, e2, e3, e4, e5⟩ := op_num (a1 := 0) (a2 := h3 7 7 - 1) (b1 := 0) (b2 := k3 251 (2 : Int32).toNatClampNeg - 1) (fun _ => 0) (fun R => R 2 - 1) okD_L (fun R d => by obtain ⟨⟨u1, u2⟩, u3⟩ := hi (by omega) d; exact ⟨⟨rfl, u1, rfl, u2⟩, by omega, by omega⟩) d3
  have s2 := op_set (j := 1) (by omega) e3 (fun R v d v1 v2 => by obtain ⟨-, u3⟩ := hi (by omega) d; omega)
  obtain ⟨h5, k5, f1, f2, f3, f4, f5⟩ := op_sign okD_L sg44 s2
  obtain ⟨x3, y3, h6, k6, g1, g2, g3, g4, g5⟩ := op_num (a1 := 0) (a2 := h5 7 7 - 1) (b1 := 0) (b2 := k5 251 (2 : Int32).toNatClampNeg - 1) (fun _ => 0) (fun R => R 2 - 1) okD_L (fun R d => by obtain ⟨⟨u1, u2⟩, u3⟩ := hi (by omega) d; exact ⟨⟨rfl, u1, rfl, u2⟩, by omega, by omega⟩) f3
  have s3 := op_set (j := 2) (by omega) g3 (fun R v d v1 v2 => by obtain ⟨-, u3⟩ := hi (by omega) d; omega)
  obtain ⟨h7, k7, l1, l2, l3, l4, l5⟩ := op_sign okD_L sg44 s3
  obtain ⟨x4, y4, h8, k8, m1, m2, m3, m4, m5⟩ := op_num (a1 := 0) (a2 := 15) (b1 := 0) (b2 := 15) (fun _ => 0) (fun _ => 15) okD_L (fun R d => ⟨⟨rfl, rfl, rfl, rfl⟩, by omega, by omega⟩) l3
  have s4 := op_set (j := 3) (by omega) m3 (fun R v d v1 v2 => by omega)
  obtain ⟨h9, k9, n1, n2, n3, n4, n5⟩ := op_sign okD_L sg59 s4
  refine ⟨h9, k9, ?_, fun K => ?_, n3, ?_, ?_⟩
  · unfold fX4_readLaw
    rw [show (101 : Int32) = nI 101 from rfl, a1, bd_e, b1, bd_e, lk_e, show (44 : Int32) = nI 44 from rfl, show (59 : Int32) = nI 59 from rfl]
    rw [show up2 h2 7 7 x1 = up2 h2 7 (7 + 0) x1 from rfl, d1, bd_e, e1, bd_e, lk_e]
    rw [show up2 h4 7 8 x2 = up2 h4 7 (7 + 1) x2 from rfl, f1, bd_e, g1, bd_e, lk_e]
    rw [show up2 h6 7 9 x3 = up2 h6 7 (7 + 2) x3 from rfl, l1, bd_e, m1, bd_e, lk_e]
    rw [show up2 h8 7 10 x4 = up2 h8 7 (7 + 3) x4 from rfl, n1, bd_e]
  · rw [show (101 : Int32) = nI 101 from rfl, a2, bd_e, a3, bd_e, b2, bd_e, lb2 a251, chk_t, lk_e, show (44 : Int32) = nI 44 from rfl, show (59 : Int32) = nI 59 from rfl]
    rw [show up2 k2 251 (2 : Int32).toNatClampNeg y1 = up2 k2 251 (2 + 0) y1 from rfl, d2, bd_e, chk_t, e2, bd_e, lb3 a251, chk_t, lk_e]
    rw [show up2 k4 251 (3 : Int32).toNatClampNeg y2 = up2 k4 251 (2 + 1) y2 from rfl, f2, bd_e, chk_t, g2, bd_e, lb4 a251, chk_t, lk_e]
    rw [show up2 k6 251 (4 : Int32).toNatClampNeg y3 = up2 k6 251 (2 + 2) y3 from rfl, l2, bd_e, m2, bd_e, lb5 a251, chk_t, lk_e]
    rw [show up2 k8 251 (5 : Int32).toNatClampNeg y4 = up2 k8 251 (2 + 3) y4 from rfl, n2, bd_e]
  · exact ((((((((a5.d.tr b4.d).up (by omega)).tr d4.d).tr e4.d).up (by omega)).tr f4.d).tr g4.d).up (by omega)).tr (l4.d.tr ((m4.d.up (by omega)).tr n4.d))
  · exact (((((((a6.n.tr b5.n).up).tr d5.n).tr e5.n).up.tr f5.n).tr g5.n).up).tr (l5.n.tr ((m5.n.up).tr n5.n))
