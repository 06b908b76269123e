theorem hear_e {r i c : Nat} {h : Hp} (hr : r < 8) (hi : i + c ≤ 40) (hc : c ≤ 12) : ∃ h1, fX3_hear (230 + 2 * r) (nI i) (nI c) h = some ((), h1) ∧ h1 210 5 = nI c ∧ (∀ j, j < c → h1 227 j = h (231 + 2 * r) (i + j)) ∧ (∀ x, x ≠ 210 → x ≠ 227 → h1 x = h x) := by
  have mn : minJ (nI c) 12 = nI c := by
    unfold minJ
    rw [if_neg (by rw [t_lt, nI_toInt (by omega)]; show ¬ (12 : Int) < _; omega)]
  have eR := len_R (e := 230 + 2 * r) ⟨by omega, by omega, by omega⟩
  have hok : cpok (nI i) 0 (nI c) 40 12 = true := by
    simp only [cpok, Bool.and_eq_true, decide_eq_true_eq, nI_toInt (show i < 2 ^ 31 by omega), nI_toInt (show c < 2 ^ 31 by omega), show (0 : Int32).toInt = 0 from rfl]
    omega
  have r5 : up2 h 210 5 (nI c) 210 5 = nI c := by rw [up2_at, if_pos ⟨rfl, rfl⟩]
  refine ⟨va_up (up2 h 210 5 (nI c)) 227 (va_cpy (up2 h 210 5 (nI c) (230 + 2 * r + 1)) (up2 h 210 5 (nI c) 227) i 0 c), ?_, ?_, fun j hj => ?_, fun x q1 q2 => ?_⟩
  · unfold fX3_hear
    rw [mn, lk_e, r5, eR, show lenC 227 = 12 from rfl, hok, chk_t, lk_e, cl_n (by omega), cl_n (by omega)]
    rfl
  · rw [va_up_ne _ _ (show (210 : Nat) ≠ 227 by omega)]; exact r5
  · rw [va_up_at]
    unfold va_cpy
    rw [if_pos (by omega), up2_ne (by omega), show 230 + 2 * r + 1 = 231 + 2 * r by omega]
    congr 1
  · rw [va_up_ne _ _ q2, up2_ne q1]
/-- the row that is asked about -/
theorem row_in {h k : Hp} {r c : Nat} {a1 a2 a4 : Int32} (H : RR h k) (hr : r < 8) (hc : c ≤ 12) : (∃ v : Int32, ¬ (-1000010 : Int32) - v = 0 ∧ fX6_allThatFits a1 a2 (nI r) a4 (nI c) h = some ((-1000010 : Int32) - v, up2 h 203 8 v) ∧ fX7_rowFound (nI r) a4 (nI c) k = some ((-1000010 : Int32) - v, up2 k 246 1 v)) ∨ (∃ i h1, i + c ≤ 40 ∧ a4 = nI i ∧ fX6_allThatFits a1 a2 (nI r) a4 (nI c) h = (bd (fX3_fitting 0 a1 a2 h1) fun x25 hh26 => bd (fX6_well x25 hh26) fun x33 hh34 => some (x33, hh34)) ∧ fX7_rowFound (nI r) a4 (nI c) k = some (0, up2 k 246 1 0) ∧ h1 210 5 = nI c ∧ (∀ j, j < c → h1 227 j = k 249 (40 * r + i + j)) ∧ (∀ x, x ≠ 210 → x ≠ 227 → h1 x = h x)) := by
  have i8 := inb_n hr (by omega)
  have i7 : inb (nI r) (lenM 247) = true := i8
  have i9 : inb (nI r) (lenM 248) = true := i8
  have cr := cl_n (show r < 2147483648 by omega)
  have zc : (nI c).toInt = c := nI_toInt (by omega)
  rcases H.1 r hr with ⟨p1, p2⟩ | ⟨p1, l, m, hl, hm, p2, p3, p4, p5, p6⟩
  · left
    refine ⟨1, by decide, ?_, ?_⟩
    · unfold fX6_allThatFits
      rw [i8, chk_t, cr, p1, if_neg (by decide)]
      rfl
    · unfold fX7_rowFound
      rw [i7, chk_t, cr, p2, if_neg (by decide)]
      rfl
  · have zm : (nI m).toInt = m := nI_toInt (by omega)
    have nl : (0 : Int32) ≤ nI l := by rw [t_le, nI_toInt (by omega)]; show (0 : Int) ≤ _; omega
    by_cases q : 0 ≤ a4.toInt ∧ 0 ≤ (nI c).toInt ∧ a4.toInt + (nI c).toInt ≤ m
    · right
      obtain ⟨i, hi, rfl⟩ := rg (a := a4) (n := 40) (by omega) ⟨q.1, by show a4.toInt ≤ 40; omega⟩
      have zi : (nI i).toInt = i := nI_toInt (by omega)
      obtain ⟨h1, e1, e2, e3, e4⟩ := hear_e (h := h) (r := r) (i := i) (c := c) hr (by omega) hc
      refine ⟨i, h1, by omega, rfl, ?_, ?_, e2, fun j hj => ?_, e4⟩
      · unfold fX6_allThatFits
        rw [i8, chk_t, cr, p1, if_pos rfl, hold_t hm p4 q, bd_e, if_neg (by decide), e1, bd_e]
      · unfold fX7_rowFound
        rw [i7, chk_t, cr, p3, if_pos nl, jp_e, if_neg (by rw [t_lt, zi]; show ¬ _ < (0 : Int); omega), i9, chk_t, p5, if_pos (by rw [lg_le, L_add (by omega), L_w]; omega), lk_e]
      · rw [e3 j hj, p6 _ (by omega), show 40 * r + i + j = 40 * r + (i + j) by omega]
    · left
      refine ⟨2, by decide, ?_, ?_⟩
      · unfold fX6_allThatFits
        rw [i8, chk_t, cr, p1, if_pos rfl, hold_f hm p4 q, bd_e, if_pos rfl]
        rfl
      · unfold fX7_rowFound
        rw [i7, chk_t, cr, p3, if_pos nl, jp_e]
        by_cases w : a4 < 0
        · rw [if_pos w]; rfl
        · rw [if_neg w, i9, chk_t, p5]
          rw [t_lt] at w
          have z0 : (0 : Int32).toInt = 0 := rfl
          rw [if_neg (by rw [lg_le, L_add (by omega), L_w]; omega)]
          rfl
theorem RR.sts {h k : Hp} (H : RR h k) (v : Int32) : RR (up2 h 203 8 v) (up2 k 246 1 v) := H.st (fun i j q1 q2 => by rw [up2_at, if_neg q1]) (fun i j q1 q2 => by rw [up2_at, if_neg q1]) (by rw [up2_at, if_pos ⟨rfl, rfl⟩, up2_at, if_pos ⟨rfl, rfl⟩])
theorem sg_lo {i j : Nat} (h : i = 210 ∨ i = 227) : sigC i j = false := by rcases h with rfl | rfl <;> rfl
theorem RR.fit {h k h1 h2 k2 : Hp} (H : RR h k) (e : ∀ x, x ≠ 210 → x ≠ 227 → h1 x = h x) (oc : off7 h1 h2 14) (om : offA (up2 k 246 1 0) k2 252) : RR (up2 h2 203 8 0) k2 := by
  have H1 : RR h1 k := H.cg (fun i j q => by
    by_cases z : i = 210 ∨ i = 227
    · rw [sg_lo z] at q; cases q
    · rw [e i (by omega) (by omega)]) SmM.rf
  have H2 : RR (up2 h1 203 8 0) (up2 k 246 1 0) := H1.sts 0
  refine H2.cg (fun i j q => ?_) om.sm
  rw [up2_at, up2_at]
  split
  · rfl
  · exact oc.sm i j q
theorem fit_who {R : Rw} {h k : Hp} {s c o lo hi idx : Nat} {a1 : Int32} (W : WF 999 R) (hc : c ≤ 12) (ho : o + c ≤ 320) (hi2 : hi ≤ 20) (lo2 : lo ≤ hi) (ix : idx < 50) (S : ∀ v : Nat, lo ≤ v → v ≤ hi → ∀ h, Rep h 14 R → ∃ h1, fX3_suppose a1 (nI s) (nI v) h = some ((), h1) ∧ Rep h1 14 (va_up R idx (v : Int)) ∧ off7 h h1 14) (WV : ∀ v : Nat, lo ≤ v → v ≤ hi → WF 999 (va_up R idx (v : Int))) (H : Rep h 0 R) (M : M0 k 250 R) (e5 : h 210 5 = nI c) (ev : ∀ j, j < c → h 227 j = k 249 (o + j)) (eF : fX3_fitting 0 a1 (nI s) h = fX3_fitting_L31 4096 0 a1 (nI s) (nI hi) 0 (nI lo) h) : ∃ r h1 k1, (bd (fX3_fitting 0 a1 (nI s) h) fun x25 hh26 => bd (fX6_well x25 hh26) fun x33 hh34 => some (x33, hh34)) = some (r, up2 h1 203 8 0) ∧ fX7_allSo (nI idx) (nI lo) (nI hi) (nI o) (nI c) k = some (r, k1) ∧ off7 h h1 14 ∧ offA k k1 252 := by
  obtain ⟨r, h1, k1, x1, x2, x3, x4⟩ := fit_L (vals := fun j => k 249 (o + j)) W hc ho hi2 ix S WV 4096 lo 0 h k (by omega) (by omega) (by omega) H M e5 ev (fun j hj => rfl)
  refine ⟨r, h1, k1, ?_, x2, x3, x4⟩
  rw [eF, x1, bd_e]
  rfl
theorem sup0 {R : Rw} {s : Nat} (W : WF 999 R) (hs : s < nS R) : ∀ v : Nat, ∀ h, Rep h 14 R → ∃ h1, fX3_suppose 0 (nI s) (nI v) h = some ((), h1) ∧ Rep h1 14 (va_up R (14 + 6 * s + 0) (v : Int)) ∧ off7 h h1 14 := by
  intro v h H
  have h6 := nS_le W
  have r := H.sf (s := s) (f := 0) (v := (v : Int)) W (by omega)
  rw [← I_nat] at r
  refine ⟨up2 h 16 s (nI v), ?_, r, fun i hi => up2_ne (by omega)⟩
  unfold fX3_suppose
  rw [if_pos rfl, show lenC 16 = 6 from rfl, inb_n (by omega) (by omega), chk_t, cl_n (by omega), lk_e]
theorem sup1 {R : Rw} {s : Nat} (W : WF 999 R) (hs : s < nS R) : ∀ v : Nat, ∀ h, Rep h 14 R → ∃ h1, fX3_suppose 1 (nI s) (nI v) h = some ((), h1) ∧ Rep h1 14 (va_up R (14 + 6 * s + 1) (v : Int)) ∧ off7 h h1 14 := by
  intro v h H
  have h6 := nS_le W
  have r := H.sf (s := s) (f := 1) (v := (v : Int)) W (by omega)
  rw [← I_nat] at r
  refine ⟨up2 h 17 s (nI v), ?_, r, fun i hi => up2_ne (by omega)⟩
  unfold fX3_suppose
  rw [if_neg (by decide), if_pos rfl, show lenC 17 = 6 from rfl, inb_n (by omega) (by omega), chk_t, cl_n (by omega), lk_e]
theorem sup2 {R : Rw} {s : Nat} (W : WF 999 R) (hs : s < nS R) : ∀ v : Nat, ∀ h, Rep h 14 R → ∃ h1, fX3_suppose 2 (nI s) (nI v) h = some ((), h1) ∧ Rep h1 14 (va_up R (14 + 6 * s + 3) (v : Int)) ∧ off7 h h1 14 := by
  intro v h H
  have h6 := nS_le W
  have r := H.sf (s := s) (f := 3) (v := (v : Int)) W (by omega)
  rw [← I_nat] at r
  refine ⟨up2 h 19 s (nI v), ?_, r, fun i hi => up2_ne (by omega)⟩
  unfold fX3_suppose
  rw [if_neg (by decide), if_neg (by decide), if_pos rfl, show lenC 19 = 6 from rfl, inb_n (by omega) (by omega), chk_t, cl_n (by omega), lk_e]
theorem sup3 {R : Rw} {w : Nat} (W : WF 999 R) (hw : (w : Int) < R 1) : ∀ v : Nat, ∀ h, Rep h 14 R → ∃ h1, fX3_suppose 3 (nI w) (nI v) h = some ((), h1) ∧ Rep h1 14 (va_up R (8 + w) (v : Int)) ∧ off7 h h1 14 := by
  intro v h H
  have w1 := W.2.1
  have r := H.wd (w := w) (v := (v : Int)) W hw
  rw [← I_nat] at r
  refine ⟨up2 h 15 w (nI v), ?_, r, fun i hi => up2_ne (by omega)⟩
  unfold fX3_suppose
  rw [if_neg (by decide), if_neg (by decide), if_neg (by decide), show lenC 15 = 6 from rfl, inb_n (by omega) (by omega), chk_t, cl_n (by omega), lk_e]
theorem many_t {r c : Nat} {k : Hp} (hr : r < 8) (c1 : 1 ≤ c) (c2 : c ≤ 12) : fX7_isMany (nI r) (nI c) k = some (1, k) := by
  unfold fX7_isMany
  rw [r7_t (by omega), bd_e, if_neg (by decide), L_wd 1 12 (by rw [nI_toInt (by omega)]; exact ⟨by show (1 : Int) ≤ _; omega, by show _ ≤ (12 : Int); omega⟩), bd_e, if_neg (by decide)]
theorem many_r {a b : Int32} {k : Hp} (q : ¬ ((0 : Int) ≤ a.toInt ∧ a.toInt ≤ 7)) : fX7_isMany a b k = some (0, k) := by
  unfold fX7_isMany
  rw [r7_f q, bd_e, if_pos rfl]
theorem many_c {r : Nat} {b : Int32} {k : Hp} (hr : r < 8) (q : ¬ ((1 : Int) ≤ b.toInt ∧ b.toInt ≤ 12)) : fX7_isMany (nI r) b k = some (0, k) := by
  unfold fX7_isMany
  rw [r7_t (by omega), bd_e, if_neg (by decide), L_wf 1 12 q, bd_e, if_pos rfl]
theorem e40 {r i : Nat} : (40 : Int32) * nI r + nI i = nI (40 * r + i) := by rw [show (40 : Int32) = nI 40 from rfl, pk_mul, nI_add]
theorem fitE {a1 lo hi : Int32} {s : Nat} {h : Hp} (e1 : (if a1 = (1 : Int32) then (0 : Int32) else if a1 = (3 : Int32) then 0 else 1) = lo) (e2 : fX3_mostOf 0 a1 h = some (hi, h)) : fX3_fitting 0 a1 (nI s) h = fX3_fitting_L31 4096 0 a1 (nI s) hi 0 lo h := by
  unfold fX3_fitting
  dsimp only [jp_e]
  rw [e2, bd_e, bd_e]
  by_cases q : a1 = 1
  · rw [if_pos q] at e1 ⊢; rw [e1]
  · rw [if_neg q] at e1 ⊢
    by_cases q2 : a1 = 3
    · rw [if_pos q2] at e1 ⊢; rw [e1]
    · rw [if_neg q2] at e1 ⊢; rw [e1]
theorem fitE0 {s : Nat} {h : Hp} : fX3_fitting 0 0 (nI s) h = fX3_fitting_L31 4096 0 0 (nI s) (nI 5) 0 (nI 1) h := fitE (by decide) rfl
theorem fitE1 {s n : Nat} {h : Hp} (e : h 0 7 - 1 = nI n) : fX3_fitting 0 1 (nI s) h = fX3_fitting_L31 4096 0 1 (nI s) (nI n) 0 (nI 0) h := fitE (by decide) (by unfold fX3_mostOf; rw [if_neg (by decide), if_pos rfl, e])
theorem fitE2 {s : Nat} {h : Hp} : fX3_fitting 0 2 (nI s) h = fX3_fitting_L31 4096 0 2 (nI s) (nI 9) 0 (nI 1) h := fitE (by decide) rfl
theorem fitE3 {s : Nat} {h : Hp} : fX3_fitting 0 3 (nI s) h = fX3_fitting_L31 4096 0 3 (nI s) (nI 4) 0 (nI 0) h := fitE (by decide) rfl
theorem st_gusts : St_gusts RR := by
  intro h k a1 a2 a3 a4 H
  have hz := H.mz
  rcases H.wind a1 with ⟨p1, p2⟩ | ⟨R, w, hw, rfl, T, p1, p2⟩
  · exact ⟨-1000001, h, Mz k, by simp only [fX6_gusts, p1, bd_e, if_true], by simp only [fX7_gusts, lk_e, Mz_e, p2, bd_e, if_true], hz⟩
  rcases nem ((0 : Int) ≤ a2.toInt ∧ a2.toInt ≤ 7) with q | q
  · exact ⟨-1000001, h, Mz k, by simp only [fX6_gusts, p1, bd_e, i10, if_false, r6_f q, if_true], by simp only [fX7_gusts, lk_e, Mz_e, p2, bd_e, i10, if_false, many_r q, if_true], hz⟩
  obtain ⟨r, hr, rfl⟩ := rg (a := a2) (n := 7) (by omega) ⟨by omega, q.2⟩
  rcases nem ((1 : Int) ≤ a4.toInt ∧ a4.toInt ≤ 12) with u | u
  · exact ⟨-1000001, h, Mz k, by simp only [fX6_gusts, p1, bd_e, i10, if_false, r6_t hr, w6_f 1 12 u, if_true], by simp only [fX7_gusts, lk_e, Mz_e, p2, bd_e, i10, if_false, many_c (show r < 8 by omega) u, if_true], hz⟩
  obtain ⟨c, hc, rfl⟩ := rg (a := a4) (n := 12) (by omega) ⟨by omega, u.2⟩
  rw [nI_toInt (by omega)] at u
  have w1 := T.W.2.1
  have eC : fX6_gusts (nI w) (nI r) a3 (nI c) h = bd (fX6_allThatFits 3 (nI w) (nI r) a3 (nI c) h) fun x33 hh34 => some (x33, hh34) := by
    unfold fX6_gusts
    rw [p1, bd_e, if_neg (by decide), r6_t hr, bd_e, if_neg (by decide), w6_t 1 12 (by rw [nI_toInt (by omega)]; exact u), bd_e, if_neg (by decide)]
  have eM : fX7_gusts (nI w) (nI r) a3 (nI c) k = bd (fX7_rowFound (nI r) a3 (nI c) (Mz k)) fun x28 kk29 => if x28 = 0 then bd (fX7_allSo ((8 : Int32) + nI w) (0 : Int32) (4 : Int32) (((40 : Int32) * nI r) + a3) (nI c) kk29) fun x40 kk41 => some (x40, kk41) else some (x28, kk29) := by
    unfold fX7_gusts
    rw [lk_e, Mz_e, p2, bd_e, if_neg (by decide), many_t (by omega) (by omega) hc, bd_e, if_neg (by decide)]
  rw [eC, eM]
  rcases row_in (a1 := 3) (a2 := nI w) (a4 := a3) hz (show r < 8 by omega) hc with ⟨v, v0, x1, x2⟩ | ⟨i, h1, hi, rfl, x1, x2, x3, x4, x5⟩
  · exact ⟨_, _, _, by rw [x1, bd_e], by rw [x2, bd_e, if_neg v0], hz.sts v⟩
  have M1 : M0 (up2 (Mz k) 246 1 0) 250 R := fun j hj => by rw [up2_ne (by omega)]; exact T.M j hj
  obtain ⟨rr, h2, k2, y1, y2, y3, y4⟩ := fit_who (k := up2 (Mz k) 246 1 0) (o := 40 * r + i) (lo := 0) (hi := 4) T.W hc (by omega) (by omega) (by omega) (show 8 + w < 50 by omega) (fun v _ _ => sup3 T.W hw v) (fun v _ _ => T.W.wd hw (by omega) (by omega)) (T.C.cg (fun i j q1 q2 => by rw [x5 i (by omega) (by omega)])) M1 x3 (fun j hj => by rw [up2_ne (by omega)]; exact x4 j hj) fitE3
  refine ⟨rr, up2 h2 203 8 0, k2, ?_, ?_, hz.fit x5 y3 y4⟩
  · rw [x1, y1, bd_e]
  · rw [x2, bd_e, if_pos rfl, e8, e40]
    have y2' : fX7_allSo (nI (8 + w)) 0 4 (nI (40 * r + i)) (nI c) (up2 (Mz k) 246 1 0) = some (rr, k2) := y2
    rw [y2', bd_e]
theorem st_who : St_who RR := by
  intro h k a1 a2 a3 a4 a5 H
  have hz := H.mz
  rcases H.sheet a1 with ⟨p1, p2⟩ | ⟨R, s, hs, rfl, T, p1, p2⟩
  · exact ⟨-1000001, h, Mz k, by simp only [fX6_who, p1, bd_e, if_true], by simp only [fX7_who, lk_e, Mz_e, p2, bd_e, if_true], hz⟩
  rcases nem ((0 : Int) ≤ a2.toInt ∧ a2.toInt ≤ 2) with g | g
  · exact ⟨-1000001, h, Mz k, by simp only [fX6_who, p1, bd_e, i10, if_false, w6_f 0 2 g, if_true], by simp only [fX7_who, lk_e, Mz_e, p2, bd_e, i10, if_false, L_wf 0 2 g, if_true], hz⟩
  rcases nem ((0 : Int) ≤ a3.toInt ∧ a3.toInt ≤ 7) with q | q
  · exact ⟨-1000001, h, Mz k, by simp only [fX6_who, p1, bd_e, i10, if_false, w6_t 0 2 g, r6_f q, if_true], by simp only [fX7_who, lk_e, Mz_e, p2, bd_e, i10, if_false, L_wd 0 2 g, many_r q, if_true], hz⟩
  obtain ⟨r, hr, rfl⟩ := rg (a := a3) (n := 7) (by omega) ⟨by omega, q.2⟩
  rcases nem ((1 : Int) ≤ a5.toInt ∧ a5.toInt ≤ 12) with u | u
  · exact ⟨-1000001, h, Mz k, by simp only [fX6_who, p1, bd_e, i10, if_false, w6_t 0 2 g, r6_t hr, w6_f 1 12 u, if_true], by simp only [fX7_who, lk_e, Mz_e, p2, bd_e, i10, if_false, L_wd 0 2 g, many_c (show r < 8 by omega) u, if_true], hz⟩
  obtain ⟨c, hc, rfl⟩ := rg (a := a5) (n := 12) (by omega) ⟨by omega, u.2⟩
  rw [nI_toInt (by omega)] at u
  have h6 := T.n
  have w2 := T.W.2.2.1
  have eC : fX6_who (nI s) a2 (nI r) a4 (nI c) h = if decide (R (19 + 6 * s) = 1) = true then bd (fX6_allThatFits a2 (nI s) (nI r) a4 (nI c) h) fun x54 hh55 => some (x54, hh55) else some ((-1000002 : Int32), h) := by
    unfold fX6_who
    rw [p1, bd_e, if_neg (by decide), w6_t 0 2 g, bd_e, if_neg (by decide), r6_t hr, bd_e, if_neg (by decide), w6_t 1 12 (by rw [nI_toInt (by omega)]; exact u), bd_e, if_neg (by decide), c_isIn T.W T.C hs, bd_e, if_b]
  rw [eC]
  by_cases z : decide (R (19 + 6 * s) = 1) = true
  rotate_left
  · refine ⟨-1000002, h, Mz k, by rw [if_neg z], ?_, hz⟩
    unfold fX7_who
    rw [lk_e, Mz_e, p2, bd_e, if_neg (by decide), L_wd 0 2 g, bd_e, if_neg (by decide), many_t (by omega) (by omega) hc, bd_e, if_neg (by decide), m_isIn T.W a250 T.M hs, bd_e, if_b, if_neg z]
  rw [if_pos z]
  have eM : fX7_who (nI s) a2 (nI r) a4 (nI c) k = bd (fX7_rowFound (nI r) a4 (nI c) (Mz k)) fun x49 kk50 => if x49 = 0 then jp (fun J95_61s0 kk62 => lk (((14 : Int32) + ((6 : Int32) * nI s)) + J95_61s0) fun x70 => jp (fun J111_74s0 kk75 => jp (fun J137_83s0 kk84 => bd (fX7_allSo x70 J111_74s0 J137_83s0 (((40 : Int32) * nI r) + a4) (nI c) kk84) fun x92 kk93 => some (x92, kk93)) fun J137_83 => if a2 = 0 then J137_83 (5 : Int32) kk75 else if a2 = (1 : Int32) then chk (inb (2 : Int32) (lenM 250)) <| J137_83 ((kk75 250 (2 : Int32).toNatClampNeg) - (1 : Int32)) kk75 else J137_83 (9 : Int32) kk75) fun J111_74 => if a2 = (1 : Int32) then J111_74 (0 : Int32) kk62 else J111_74 (1 : Int32) kk62) fun J95_61 => if a2 = 0 then J95_61 (0 : Int32) kk50 else if a2 = (1 : Int32) then J95_61 (1 : Int32) kk50 else J95_61 (3 : Int32) kk50 else some (x49, kk50) := by
    unfold fX7_who
    rw [lk_e, Mz_e, p2, bd_e, if_neg (by decide), L_wd 0 2 g, bd_e, if_neg (by decide), many_t (by omega) (by omega) hc, bd_e, if_neg (by decide), m_isIn T.W a250 T.M hs, bd_e, if_b, if_pos z]
  rw [eM]
  rcases row_in (a1 := a2) (a2 := nI s) (a4 := a4) hz (show r < 8 by omega) hc with ⟨v, v0, x1, x2⟩ | ⟨i, h1, hi, rfl, x1, x2, x3, x4, x5⟩
  · exact ⟨_, _, _, by rw [x1, bd_e], by rw [x2, bd_e, if_neg v0], hz.sts v⟩
  have M1 : M0 (up2 (Mz k) 246 1 0) 250 R := fun j hj => by rw [up2_ne (by omega)]; exact T.M j hj
  have C1 : Rep h1 0 R := T.C.cg (fun i j q1 q2 => by rw [x5 i (by omega) (by omega)])
  have v4 : ∀ j, j < c → h1 227 j = up2 (Mz k) 246 1 0 249 (40 * r + i + j) := fun j hj => by rw [up2_ne (by omega)]; exact x4 j hj
  have r2 : up2 (Mz k) 246 1 0 250 (2 : Int32).toNatClampNeg - 1 = nI ((R 2).toNat - 1) := by
    have := M1 2 (by omega)
    rw [I_n (by omega)] at this
    rw [show up2 (Mz k) 246 1 0 250 (2 : Int32).toNatClampNeg = _ from this, show (1 : Int32) = nI 1 from rfl, pk_sub (by omega)]
  have r7 : h1 0 7 - 1 = nI ((R 2).toNat - 1) := by
    rw [R_c T.W C1, show (1 : Int32) = nI 1 from rfl, pk_sub (by omega)]
  rw [x1, x2, bd_e, if_pos rfl]
  dsimp only [jp_e]
  have ix : ∀ f : Nat, (14 : Int32) + (6 : Int32) * nI s + nI f = nI (14 + 6 * s + f) := fun f => ix_e
  obtain ⟨v, hv, rfl⟩ := rg (a := a2) (n := 2) (by omega) ⟨by omega, g.2⟩
  rcases (show v = 0 ∨ v = 1 ∨ v = 2 by omega) with rfl | rfl | rfl
  · obtain ⟨rr, h2, k2, y1, y2, y3, y4⟩ := fit_who (k := up2 (Mz k) 246 1 0) (a1 := 0) (o := 40 * r + i) (lo := 1) (hi := 5) T.W hc (by omega) (by omega) (by omega) (show 14 + 6 * s + 0 < 50 by omega) (fun v _ _ => sup0 T.W hs v) (fun v _ _ => T.W.sf (by omega)) C1 M1 x3 v4 fitE0
    refine ⟨rr, up2 h2 203 8 0, k2, ?_, ?_, hz.fit x5 y3 y4⟩
    · rw [nI_0, y1, bd_e]
    · rw [if_pos (show nI 0 = (0 : Int32) from rfl), lk_e, if_neg (show ¬ nI 0 = (1 : Int32) by decide), if_pos (show nI 0 = (0 : Int32) from rfl), e40, show (0 : Int32) = nI 0 from rfl, ix]
      have y2' : fX7_allSo (nI (14 + 6 * s + 0)) 1 5 (nI (40 * r + i)) (nI c) (up2 (Mz k) 246 1 (nI 0)) = some (rr, k2) := y2
      rw [y2', bd_e]
  · have eF := fitE1 (s := s) r7
    obtain ⟨rr, h2, k2, y1, y2, y3, y4⟩ := fit_who (k := up2 (Mz k) 246 1 0) (a1 := 1) (o := 40 * r + i) (lo := 0) (hi := (R 2).toNat - 1) T.W hc (by omega) (by omega) (by omega) (show 14 + 6 * s + 1 < 50 by omega) (fun v _ _ => sup1 T.W hs v) (fun v _ _ => T.W.sf (by omega)) C1 M1 x3 v4 eF
    refine ⟨rr, up2 h2 203 8 0, k2, ?_, ?_, hz.fit x5 y3 y4⟩
    · rw [show nI 1 = (1 : Int32) from rfl, y1, bd_e]
    · rw [if_neg (show ¬ nI 1 = (0 : Int32) by decide), if_pos (show nI 1 = (1 : Int32) from rfl), lk_e, if_pos (show nI 1 = (1 : Int32) from rfl), if_neg (show ¬ nI 1 = (0 : Int32) by decide), if_pos (show nI 1 = (1 : Int32) from rfl), lb2 a250, chk_t, r2, e40]
      have y2' : fX7_allSo (nI (14 + 6 * s + 1)) 0 (nI ((R 2).toNat - 1)) (nI (40 * r + i)) (nI c) (up2 (Mz k) 246 1 0) = some (rr, k2) := y2
      rw [show (14 : Int32) + 6 * nI s + 1 = nI (14 + 6 * s + 1) from ix 1, y2', bd_e]
  · obtain ⟨rr, h2, k2, y1, y2, y3, y4⟩ := fit_who (k := up2 (Mz k) 246 1 0) (a1 := 2) (o := 40 * r + i) (lo := 1) (hi := 9) T.W hc (by omega) (by omega) (by omega) (show 14 + 6 * s + 3 < 50 by omega) (fun v _ _ => sup2 T.W hs v) (fun v _ _ => T.W.sf (by omega)) C1 M1 x3 v4 fitE2
    refine ⟨rr, up2 h2 203 8 0, k2, ?_, ?_, hz.fit x5 y3 y4⟩
    · rw [show nI 2 = (2 : Int32) from rfl, y1, bd_e]
    · have y2' : fX7_allSo (nI (14 + 6 * s + 3)) 1 9 (nI (40 * r + i)) (nI c) (up2 (Mz k) 246 1 0) = some (rr, k2) := y2
      rw [if_neg (show ¬ nI 2 = (0 : Int32) by decide), if_neg (show ¬ nI 2 = (1 : Int32) by decide), lk_e, if_neg (show ¬ nI 2 = (1 : Int32) by decide), if_neg (show ¬ nI 2 = (0 : Int32) by decide), if_neg (show ¬ nI 2 = (1 : Int32) by decide), e40, show (14 : Int32) + 6 * nI s + 3 = nI (14 + 6 * s + 3) from ix 3, y2', bd_e]
