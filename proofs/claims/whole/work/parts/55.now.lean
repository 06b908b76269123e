/-! ===== what stands now ===== -/
def plV (R : Rw) (s : Nat) : Int32 := if inB R s = true then I (R (15 + 6 * s)) else -1000000
def thV (R : Rw) (s : Nat) : Int := if inB R s = true then R (17 + 6 * s) else 0
section NQ
variable {B : Int} {R : Rw} {h k : Hp} {e a s : Nat}
theorem c_place (W : WF B R) (he : isE e) (H : Rep h e R) (hs : s < nS R) : fX2_placeOf e (nI s) h = some (plV R s, h) := by
  have h6 := nS_le W
  have r := (H.2.2.2.2.2.2.2.2.2.2.2 s (by omega)).2.1
  unfold fX2_placeOf
  rw [c_isIn W H hs, bd_e, if_b]
  unfold plV inB
  by_cases q : decide (R (19 + 6 * s) = 1) = true
  · rw [if_pos q, if_pos q, len_E3 he, inb_n (by omega) (by omega), chk_t, cl_n (by omega), r]
  · rw [if_neg q, if_neg q]
theorem c_thick (W : WF B R) (he : isE e) (H : Rep h e R) (hs : s < nS R) : fX2_thicknessOf e (nI s) h = some (I (thV R s), h) := by
  have h6 := nS_le W
  have r := (H.2.2.2.2.2.2.2.2.2.2.2 s (by omega)).2.2.2.1
  unfold fX2_thicknessOf
  rw [c_isIn W H hs, bd_e, if_b]
  unfold thV inB
  by_cases q : decide (R (19 + 6 * s) = 1) = true
  · rw [if_pos q, if_pos q, len_E5 he, inb_n (by omega) (by omega), chk_t, cl_n (by omega), r]
  · rw [if_neg q, if_neg q]; rfl
theorem m_f0 (W : WF B R) (ha : is50 a) (H : M0 k a R) (hs : s < nS R) : fX7_of a (nI s) 0 k = some (I (R (14 + 6 * s)), k) := by
  have h6 := nS_le W
  exact m_of 0 ha H (by omega)
theorem m_f1 (W : WF B R) (ha : is50 a) (H : M0 k a R) (hs : s < nS R) : fX7_of a (nI s) 1 k = some (I (R (15 + 6 * s)), k) := by
  have h6 := nS_le W
  have := m_of (s := s) 1 ha H (by omega)
  rw [show 14 + 6 * s + 1 = 15 + 6 * s by omega] at this
  exact this
theorem m_f2 (W : WF B R) (ha : is50 a) (H : M0 k a R) (hs : s < nS R) : fX7_of a (nI s) 2 k = some (I (R (16 + 6 * s)), k) := by
  have h6 := nS_le W
  have := m_of (s := s) 2 ha H (by omega)
  rw [show 14 + 6 * s + 2 = 16 + 6 * s by omega] at this
  exact this
theorem m_f3 (W : WF B R) (ha : is50 a) (H : M0 k a R) (hs : s < nS R) : fX7_of a (nI s) 3 k = some (I (R (17 + 6 * s)), k) := by
  have h6 := nS_le W
  have := m_of (s := s) 3 ha H (by omega)
  rw [show 14 + 6 * s + 3 = 17 + 6 * s by omega] at this
  exact this
theorem m_f4 (W : WF B R) (ha : is50 a) (H : M0 k a R) (hs : s < nS R) : fX7_of a (nI s) 4 k = some (I (R (18 + 6 * s)), k) := by
  have h6 := nS_le W
  have := m_of (s := s) 4 ha H (by omega)
  rw [show 14 + 6 * s + 4 = 18 + 6 * s by omega] at this
  exact this
theorem m_told0 (W : WF B R) (ha : is50 a) (H : M0 k a R) (hs : s < nS R) : fX7_told a (nI s) 0 k = some (plV R s, k) := by
  unfold fX7_told
  rw [if_pos rfl, m_isIn W ha H hs, bd_e, if_b]
  unfold plV inB
  by_cases q : decide (R (19 + 6 * s) = 1) = true
  · rw [if_pos q, if_pos q, m_f1 W ha H hs, bd_e]
  · rw [if_neg q, if_neg q]
theorem m_told1 (W : WF B R) (ha : is50 a) (H : M0 k a R) (hs : s < nS R) : fX7_told a (nI s) 1 k = some (I (thV R s), k) := by
  unfold fX7_told
  rw [if_neg (by decide), if_pos rfl, m_isIn W ha H hs, bd_e, if_b]
  unfold thV inB
  by_cases q : decide (R (19 + 6 * s) = 1) = true
  · rw [if_pos q, if_pos q, m_f3 W ha H hs, bd_e]
  · rw [if_neg q, if_neg q]; rfl
theorem m_told2 (W : WF B R) (ha : is50 a) (H : M0 k a R) (hs : s < nS R) : fX7_told a (nI s) 2 k = some (I (R (18 + 6 * s)), k) := by
  unfold fX7_told
  rw [if_neg (by decide), if_neg (by decide), m_f4 W ha H hs, bd_e]
end NQ
theorem st_kind : St_kind RR := by
  intro h k a1 H
  have hz := H.mz
  rcases H.sheet a1 with ⟨p1, p2⟩ | ⟨R, s, hs, rfl, T, p1, p2⟩
  · exact ⟨-1000001, h, Mz k, by simp only [fX6_kind, p1, bd_e, if_true], by simp only [fX7_kind, lk_e, Mz_e, p2, bd_e, if_true], hz⟩
  have h6 := T.n
  refine ⟨I (R (14 + 6 * s)), h, Mz k, ?_, ?_, hz⟩
  · have r := (T.C.2.2.2.2.2.2.2.2.2.2.2 s (by omega)).1
    rw [Nat.zero_add] at r
    unfold fX6_kind
    rw [p1, bd_e, if_neg (by decide), show inb (nI s) (lenC 2) = true from inb_n (n := 6) (by omega) (by omega), chk_t, cl_n (by omega), r]
  · unfold fX7_kind
    rw [lk_e, Mz_e, p2, bd_e, if_neg (by decide), m_f0 T.W a250 T.M hs, bd_e]
def isAv (kd a : Nat) : Bool := decide (a = kd ∨ a = 0 ∨ (a = 1 ∧ kd < 4) ∨ (a = 4 ∧ kd = 5))
theorem c_isA {kd a : Nat} {h : Hp} (h1 : 1 ≤ kd) (h2 : kd ≤ 5) (h3 : a ≤ 5) : fX6_isA (nI kd) (nI a) h = some (b32 (isAv kd a), h) := by
  rcases (show kd = 1 ∨ kd = 2 ∨ kd = 3 ∨ kd = 4 ∨ kd = 5 by omega) with rfl | rfl | rfl | rfl | rfl <;> rcases (show a = 0 ∨ a = 1 ∨ a = 2 ∨ a = 3 ∨ a = 4 ∨ a = 5 by omega) with rfl | rfl | rfl | rfl | rfl | rfl <;> rfl
theorem m_isOf {kd a : Nat} {h : Hp} (h1 : 1 ≤ kd) (h2 : kd ≤ 5) (h3 : a ≤ 5) : fX7_isOf (nI kd) (nI a) h = some (b32 (isAv kd a), h) := by
  rcases (show kd = 1 ∨ kd = 2 ∨ kd = 3 ∨ kd = 4 ∨ kd = 5 by omega) with rfl | rfl | rfl | rfl | rfl <;> rcases (show a = 0 ∨ a = 1 ∨ a = 2 ∨ a = 3 ∨ a = 4 ∨ a = 5 by omega) with rfl | rfl | rfl | rfl | rfl | rfl <;> rfl
theorem st_as : St_as RR := by
  intro h k a1 a2 H
  have hz := H.mz
  rcases H.sheet a1 with ⟨p1, p2⟩ | ⟨R, s, hs, rfl, T, p1, p2⟩
  · exact ⟨-1000001, h, Mz k, by simp only [fX6_as, p1, bd_e, if_true], by simp only [fX7_as, lk_e, Mz_e, p2, bd_e, if_true], hz⟩
  have h6 := T.n
  rcases nem ((0 : Int) ≤ a2.toInt ∧ a2.toInt ≤ 5) with q | q
  · exact ⟨-1000001, h, Mz k, by simp only [fX6_as, p1, bd_e, i10, if_false, w6_f 0 5 q, if_true], by simp only [fX7_as, lk_e, Mz_e, p2, bd_e, i10, if_false, L_wf 0 5 q, if_true], hz⟩
  obtain ⟨a, ha, rfl⟩ := rg (a := a2) (n := 5) (by omega) ⟨by omega, q.2⟩
  have kd := (sh T.W hs).1
  have ek : I (R (14 + 6 * s)) = nI (R (14 + 6 * s)).toNat := I_n (by omega)
  have M1 : M0 (up2 (Mz k) 246 1 0) 250 R := fun j hj => by rw [up2_ne (by omega)]; exact T.M j hj
  have eC : fX6_as (nI s) (nI a) h = if isAv (R (14 + 6 * s)).toNat a = true then some (nI s, up2 h 203 8 0) else some ((-1000010 : Int32) - 3, up2 h 203 8 3) := by
    have r := (T.C.2.2.2.2.2.2.2.2.2.2.2 s (by omega)).1
    rw [Nat.zero_add] at r
    unfold fX6_as
    rw [p1, bd_e, if_neg (by decide), w6_t 0 5 q, bd_e, if_neg (by decide), show inb (nI s) (lenC 2) = true from inb_n (n := 6) (by omega) (by omega), chk_t, cl_n (by omega), r, ek, c_isA (by omega) (by omega) ha, bd_e, if_b]
    rfl
  have eM : fX7_as (nI s) (nI a) k = if isAv (R (14 + 6 * s)).toNat a = true then some (nI s, up2 (Mz k) 246 1 0) else some ((-1000010 : Int32) - 3, up2 (up2 (Mz k) 246 1 0) 246 1 3) := by
    unfold fX7_as
    rw [lk_e, Mz_e, p2, bd_e, if_neg (by decide), L_wd 0 5 q, bd_e, if_neg (by decide), lk_e, m_f0 T.W a250 M1 hs, bd_e, ek, m_isOf (by omega) (by omega) ha, bd_e, if_b]
    rfl
  rw [eC, eM]
  by_cases z : isAv (R (14 + 6 * s)).toNat a = true
  · rw [if_pos z, if_pos z]
    exact ⟨_, _, _, rfl, rfl, hz.st (fun i j q1 q2 => by rw [up2_at, if_neg q1]) (fun i j q1 q2 => by rw [up2_at, if_neg q1]) (by rw [up2_at, if_pos ⟨rfl, rfl⟩, up2_at, if_pos ⟨rfl, rfl⟩])⟩
  · rw [if_neg z, if_neg z]
    exact ⟨_, _, _, rfl, rfl, H.fnd 3⟩
theorem st_stand : St_stand RR := by
  intro h k a1 H
  have hz := H.mz
  rcases H.tld with ⟨c, -, -, -, -, -, -, m, -⟩ | ⟨R, c, m, T⟩
  · exact ⟨-1000002, h, Mz k, by simp only [fX6_stand, c, if_true], by simp only [fX7_stand, lk_e, Mz_e, m, bd_e, i00, if_true], hz⟩
  have eM : fX7_stand a1 k = (if a1 = (0 : Int32) then chk (inb ((2 : Int32) + a1) (lenM 250)) (some (Mz k 250 ((2 : Int32) + a1).toNatClampNeg, Mz k)) else if a1 = (1 : Int32) then chk (inb ((2 : Int32) + a1) (lenM 250)) (some (Mz k 250 ((2 : Int32) + a1).toNatClampNeg, Mz k)) else if a1 = (2 : Int32) then chk (inb ((2 : Int32) + a1) (lenM 250)) (some (Mz k 250 ((2 : Int32) + a1).toNatClampNeg, Mz k)) else if a1 = (3 : Int32) then chk (inb ((2 : Int32) + a1) (lenM 250)) (some (Mz k 250 ((2 : Int32) + a1).toNatClampNeg, Mz k)) else if a1 = (4 : Int32) then bd (fX7_ins 250 (Mz k)) fun x40 kk41 => some (x40, kk41) else if a1 = (5 : Int32) then bd (fX7_numbered 250 (Mz k)) fun x51 kk52 => some (x51, kk52) else if a1 = (6 : Int32) then chk (inb (7 : Int32) (lenM 250)) (some ((Mz k 250 (7 : Int32).toNatClampNeg) + (1 : Int32), Mz k)) else if a1 = (7 : Int32) then bd (fX7_windOf 250 (Mz k)) fun x67 kk68 => some (x67, kk68) else some ((-1000001 : Int32), Mz k)) := by
    unfold fX7_stand
    rw [lk_e, Mz_e, m, bd_e, if_neg (by decide)]
  rw [eM]
  have eC : fX6_stand a1 h = (if a1 = (0 : Int32) then some (h 0 7, h) else if a1 = (1 : Int32) then some (h 0 8, h) else if a1 = (2 : Int32) then some (h 0 9, h) else if a1 = (3 : Int32) then some (h 0 10, h) else if a1 = (4 : Int32) then some (h 0 14, h) else if a1 = (5 : Int32) then bd (fX2_withNumber 0 h) fun x21 hh22 => some (x21, hh22) else if a1 = (6 : Int32) then some ((h 0 15) + (1 : Int32), h) else if a1 = (7 : Int32) then bd (fX2_gust 0 h) fun x35 hh36 => some (x35, hh36) else some ((-1000001 : Int32), h)) := by
    unfold fX6_stand
    rw [c, if_neg (by decide)]
  rw [eC]
  obtain ⟨a6, a7, a8, a9, a10, a11, a12, a13, a14, a15, aw, as⟩ := T.C
  by_cases z0 : a1 = 0
  · subst z0
    exact ⟨I (R 2), h, Mz k, by rw [if_pos rfl, a7], by rw [if_pos rfl, show inb ((2 : Int32) + 0) (lenM 250) = true from rfl, chk_t, show Mz k 250 ((2 : Int32) + 0).toNatClampNeg = I (R 2) from T.M 2 (by omega)], hz⟩
  rw [if_neg z0, if_neg z0]
  by_cases z1 : a1 = 1
  · subst z1
    exact ⟨I (R 3), h, Mz k, by rw [if_pos rfl, a8], by rw [if_pos rfl, show inb ((2 : Int32) + 1) (lenM 250) = true from rfl, chk_t, show Mz k 250 ((2 : Int32) + 1).toNatClampNeg = I (R 3) from T.M 3 (by omega)], hz⟩
  rw [if_neg z1, if_neg z1]
  by_cases z2 : a1 = 2
  · subst z2
    exact ⟨I (R 4), h, Mz k, by rw [if_pos rfl, a9], by rw [if_pos rfl, show inb ((2 : Int32) + 2) (lenM 250) = true from rfl, chk_t, show Mz k 250 ((2 : Int32) + 2).toNatClampNeg = I (R 4) from T.M 4 (by omega)], hz⟩
  rw [if_neg z2, if_neg z2]
  by_cases z3 : a1 = 3
  · subst z3
    exact ⟨I (R 5), h, Mz k, by rw [if_pos rfl, a10], by rw [if_pos rfl, show inb ((2 : Int32) + 3) (lenM 250) = true from rfl, chk_t, show Mz k 250 ((2 : Int32) + 3).toNatClampNeg = I (R 5) from T.M 5 (by omega)], hz⟩
  rw [if_neg z3, if_neg z3]
  by_cases z4 : a1 = 4
  · exact ⟨nI (msk R), h, Mz k, by rw [if_pos z4, a14, I_nat], by rw [if_pos z4, m_ins T.W a250 T.M, bd_e], hz⟩
  rw [if_neg z4, if_neg z4]
  by_cases z5 : a1 = 5
  · exact ⟨_, h, Mz k, by rw [if_pos z5, c_num T.W e0E T.C, bd_e], by rw [if_pos z5, m_num T.W a250 T.M, bd_e], hz⟩
  rw [if_neg z5, if_neg z5]
  by_cases z6 : a1 = 6
  · exact ⟨I (R 7) + 1, h, Mz k, by rw [if_pos z6, a15], by rw [if_pos z6, lb7 a250, chk_t, show Mz k 250 (7 : Int32).toNatClampNeg = I (R 7) from T.M 7 (by omega)], hz⟩
  rw [if_neg z6, if_neg z6]
  by_cases z7 : a1 = 7
  · exact ⟨I (wnd R), h, Mz k, by rw [if_pos z7, c_gust T.W (by omega) e0E T.C, bd_e], by rw [if_pos z7, m_wnd T.W (by omega) a250 T.M, bd_e], hz⟩
  rw [if_neg z7, if_neg z7]
  exact ⟨_, h, Mz k, rfl, rfl, hz⟩
theorem st_sheet : St_sheet RR := by
  intro h k a1 a2 H
  have hz := H.mz
  rcases H.sheet a1 with ⟨p1, p2⟩ | ⟨R, s, hs, rfl, T, p1, p2⟩
  · exact ⟨-1000001, h, Mz k, by simp only [fX6_sheet, p1, bd_e, if_true], by simp only [fX7_sheet, lk_e, Mz_e, p2, bd_e, if_true], hz⟩
  have h6 := T.n
  have r := T.C.2.2.2.2.2.2.2.2.2.2.2 s (by omega)
  rw [Nat.zero_add] at r
  have is : ∀ e, isE e → inb (nI s) (lenC (e + 4)) = true := fun e he => by rw [len_E4 he]; exact inb_n (by omega) (by omega)
  have cs := cl_n (show s < 2147483648 by omega)
  unfold fX6_sheet fX7_sheet
  rw [p1, bd_e, if_neg (show ¬ (1 : Int32) = 0 by decide), lk_e, Mz_e, p2, bd_e, if_neg (show ¬ (1 : Int32) = 0 by decide)]
  by_cases z0 : a2 = 0
  · exact ⟨plV R s, h, Mz k, by rw [if_pos z0, c_place T.W e0E T.C hs, bd_e], by rw [if_pos z0, m_told0 T.W a250 T.M hs, bd_e], hz⟩
  rw [if_neg z0, if_neg z0]
  by_cases z1 : a2 = 1
  · refine ⟨I (R (16 + 6 * s)), h, Mz k, ?_, by rw [if_pos z1, m_f2 T.W a250 T.M hs, bd_e], hz⟩
    rw [if_pos z1, show inb (nI s) (lenC 4) = true from inb_n (n := 6) (by omega) (by omega), chk_t, cs]
    exact congrArg (fun x => some (x, h)) (r.2.2.1)
  rw [if_neg z1, if_neg z1]
  by_cases z2 : a2 = 2
  · subst z2
    exact ⟨I (thV R s), h, Mz k, by rw [if_pos rfl, c_thick T.W e0E T.C hs, bd_e], by rw [if_pos rfl, show (2 : Int32) - 1 = 1 from rfl, m_told1 T.W a250 T.M hs, bd_e], hz⟩
  rw [if_neg z2, if_neg z2]
  by_cases z3 : a2 = 3
  · subst z3
    refine ⟨I (R (18 + 6 * s)), h, Mz k, ?_, by rw [if_pos rfl, show (3 : Int32) - 1 = 2 from rfl, m_told2 T.W a250 T.M hs, bd_e], hz⟩
    rw [if_pos rfl, show inb (nI s) (lenC 6) = true from inb_n (n := 6) (by omega) (by omega), chk_t, cs]
    exact congrArg (fun x => some (x, h)) (r.2.2.2.2)
  rw [if_neg z3, if_neg z3]
  by_cases z4 : a2 = 4
  · exact ⟨_, h, Mz k, by rw [if_pos z4, c_un T.W e0E T.C hs, bd_e], by rw [if_pos z4, m_un T.W a250 T.M hs, bd_e], hz⟩
  rw [if_neg z4, if_neg z4]
  exact ⟨_, h, Mz k, rfl, rfl, hz⟩
theorem st_cell : St_cell RR := by
  intro h k a1 a2 H
  have hz := H.mz
  rcases H.cell a1 with ⟨p1, p2⟩ | ⟨R, c, hc, rfl, T, p1, p2⟩
  · exact ⟨-1000001, h, Mz k, by simp only [fX6_cell, p1, bd_e, if_true], by simp only [fX7_cell, lk_e, Mz_e, p2, bd_e, if_true], hz⟩
  have w2 := T.W.2.2.1
  have h6 := T.n
  have eC : fX6_cell (nI c) a2 h = (if a2 = (0 : Int32) then bd (fX2_thicknessOver 0 (nI c) h) fun x14 hh15 => some (x14, hh15) else if a2 = (1 : Int32) then bd (fX2_sheetsOn 0 (nI c) h) fun x25 hh26 => some (x25, hh26) else if a2 = (2 : Int32) then (if (h 0 9) = nI c then some ((1 : Int32), h) else some ((0 : Int32), h)) else some ((-1000001 : Int32), h)) := by
    unfold fX6_cell
    rw [p1, bd_e, if_neg (by decide)]
  rw [eC]
  rcases nem ((0 : Int) ≤ a2.toInt ∧ a2.toInt ≤ 2) with q | q
  · refine ⟨-1000001, h, Mz k, ?_, by simp only [fX7_cell, lk_e, Mz_e, p2, bd_e, i10, if_false, L_wf 0 2 q, if_true], hz⟩
    rw [if_neg (fun z => q (by rw [z]; decide)), if_neg (fun z => q (by rw [z]; decide)), if_neg (fun z => q (by rw [z]; decide))]
  have e := m_onL (K := fun x74 kk75 => if a2 = 0 then bd (fX7_overOf 250 (nI c) kk75) fun x94 kk95 => some (x94, kk95) else if a2 = (1 : Int32) then some (x74, kk75) else chk (inb (4 : Int32) (lenM 250)) <| if (kk75 250 (4 : Int32).toNatClampNeg) = nI c then some ((1 : Int32), kk75) else some ((0 : Int32), kk75)) (a2 := a2) T.W T.M hc 4096 0 (by omega) (by omega)
  rw [nI_0] at e
  have eM : fX7_cell (nI c) a2 k = (if a2 = 0 then bd (fX7_overOf 250 (nI c) (Mz k)) fun x94 kk95 => some (x94, kk95) else if a2 = (1 : Int32) then some (nI (bs (onB R c) (nS R)), Mz k) else chk (inb (4 : Int32) (lenM 250)) (if (Mz k 250 (4 : Int32).toNatClampNeg) = nI c then some ((1 : Int32), Mz k) else some ((0 : Int32), Mz k))) := by
    unfold fX7_cell
    rw [lk_e, Mz_e, p2, bd_e, if_neg (by decide), L_wd 0 2 q, bd_e, if_neg (by decide)]
    exact e
  rw [eM]
  have cv := c_ov (c := (c : Int)) T.W e0E T.C (by omega) (by omega)
  have co := c_on (c := (c : Int)) T.W e0E T.C (by omega) (by omega)
  rw [← I_nat] at cv co
  by_cases z0 : a2 = 0
  · exact ⟨_, h, Mz k, by rw [if_pos z0, cv, bd_e], by rw [if_pos z0, m_ov T.W a250 T.M hc, bd_e], hz⟩
  rw [if_neg z0, if_neg z0]
  by_cases z1 : a2 = 1
  · exact ⟨_, h, Mz k, by rw [if_pos z1, co, bd_e], by rw [if_pos z1], hz⟩
  rw [if_neg z1, if_neg z1]
  obtain ⟨v, hv, rfl⟩ := rg (a := a2) (n := 2) (by omega) ⟨by omega, q.2⟩
  have v2 : v = 2 := by
    rcases (show v = 0 ∨ v = 1 ∨ v = 2 by omega) with rfl | rfl | rfl
    · exact absurd rfl z0
    · exact absurd rfl z1
    · rfl
  subst v2
  rw [if_pos (show nI 2 = (2 : Int32) from rfl), show inb (4 : Int32) (lenM 250) = true from rfl, chk_t, show Mz k 250 (4 : Int32).toNatClampNeg = I (R 4) from T.M 4 (by omega), T.C.2.2.2.1]
  by_cases z2 : I (R 4) = nI c
  · exact ⟨1, h, Mz k, by rw [if_pos z2], by rw [if_pos z2], hz⟩
  · exact ⟨0, h, Mz k, by rw [if_neg z2], by rw [if_neg z2], hz⟩
