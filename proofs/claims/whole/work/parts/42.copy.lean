/-! ===== copy, feed ===== -/
def cpyM (k : Hp) (s d lo hi : Nat) : Hp := fun x y => if x = 249 ∧ d + lo ≤ y ∧ y < d + hi then k 249 (y - d + s) else k x y
theorem cpyM_0 {k : Hp} {s d m : Nat} : cpyM k s d m m = k := by
  funext x y
  unfold cpyM
  rw [if_neg (by omega)]
theorem copy7_up {a b i j m : Nat} (ha : a ≤ 7) (hb : b ≤ 7) (h1 : i + m ≤ 40) (h2 : j + m ≤ 40) (hno : a = b → j ≤ i) (k : Hp) : ∀ (n t : Nat), t ≤ m → m < n + t → fX7_copy_L143 n (nI a) (nI i) (nI b) (nI j) (nI m) 1 (nI t) (cpyM k (40 * a + i) (40 * b + j) 0 t) = some (nI m, cpyM k (40 * a + i) (40 * b + j) 0 m) := by
  intro n
  induction n with
  | zero => intro t h1 h2; omega
  | succ n ih =>
    intro t h3 h4
    rw [fX7_copy_L143]
    by_cases c : t = m
    · subst c
      rw [if_pos (by rw [t_le]; omega)]
    · have e1 : (40 : Int32) * nI a + nI i + nI t = nI (40 * a + i + t) := by
        rw [show (40 : Int32) = nI 40 from rfl, pk_mul, nI_add, nI_add]
      have e2 : (40 : Int32) * nI b + nI j + nI t = nI (40 * b + j + t) := by
        rw [show (40 : Int32) = nI 40 from rfl, pk_mul, nI_add, nI_add]
      have i1 : inb (nI (40 * a + i + t)) (lenM 249) = true := inb_n (n := 320) (by omega) (by omega)
      have i2 : inb (nI (40 * b + j + t)) (lenM 249) = true := inb_n (n := 320) (by omega) (by omega)
      rw [if_neg (by rw [t_le, nI_toInt (by omega), nI_toInt (by omega)]; omega), jp_e, if_neg (by decide)]
      dsimp only
      rw [e1, e2, i1, chk_t, i2, chk_t, lk_e, lk_e, nI_1, cl_n (by omega), cl_n (by omega)]
      have e3 : up2 (cpyM k (40 * a + i) (40 * b + j) 0 t) 249 (40 * b + j + t) (cpyM k (40 * a + i) (40 * b + j) 0 t 249 (40 * a + i + t)) = cpyM k (40 * a + i) (40 * b + j) 0 (t + 1) := by
        funext x y
        rw [up2_at]
        unfold cpyM
        by_cases q : x = 249 ∧ y = 40 * b + j + t
        · rw [if_pos q, if_neg (by omega), if_pos (by omega), q.2]
          congr 1
          omega
        · rw [if_neg q]
          by_cases q2 : x = 249 ∧ 40 * b + j + 0 ≤ y ∧ y < 40 * b + j + t
          · rw [if_pos q2, if_pos (by omega)]
          · rw [if_neg q2, if_neg (by omega)]
      rw [e3]
      exact ih (t + 1) (by omega) (by omega)
theorem copy7_dn {a b i j m : Nat} (ha : a ≤ 7) (hb : b ≤ 7) (h1 : i + m ≤ 40) (h2 : j + m ≤ 40) (hno : i < j) (k : Hp) : ∀ (n t : Nat), t ≤ m → m < n + t → fX7_copy_L143 n (nI a) (nI i) (nI b) (nI j) (nI m) 0 (nI t) (cpyM k (40 * a + i) (40 * b + j) (m - t) m) = some (nI m, cpyM k (40 * a + i) (40 * b + j) 0 m) := by
  intro n
  induction n with
  | zero => intro t h1 h2; omega
  | succ n ih =>
    intro t h3 h4
    rw [fX7_copy_L143]
    by_cases c : t = m
    · subst c
      rw [if_pos (by rw [t_le]; omega), Nat.sub_self]
    · have e0 : nI m - 1 - nI t = nI (m - 1 - t) := by
        rw [show (1 : Int32) = nI 1 from rfl, pk_sub (by omega), pk_sub (by omega)]
      have e1 : (40 : Int32) * nI a + nI i + nI (m - 1 - t) = nI (40 * a + i + (m - 1 - t)) := by
        rw [show (40 : Int32) = nI 40 from rfl, pk_mul, nI_add, nI_add]
      have e2 : (40 : Int32) * nI b + nI j + nI (m - 1 - t) = nI (40 * b + j + (m - 1 - t)) := by
        rw [show (40 : Int32) = nI 40 from rfl, pk_mul, nI_add, nI_add]
      have i1 : inb (nI (40 * a + i + (m - 1 - t))) (lenM 249) = true := inb_n (n := 320) (by omega) (by omega)
      have i2 : inb (nI (40 * b + j + (m - 1 - t))) (lenM 249) = true := inb_n (n := 320) (by omega) (by omega)
      rw [if_neg (by rw [t_le, nI_toInt (by omega), nI_toInt (by omega)]; omega), jp_e, if_pos rfl, e0]
      dsimp only
      rw [e1, e2, i1, chk_t, i2, chk_t, lk_e, lk_e, nI_1, cl_n (by omega), cl_n (by omega)]
      have e3 : up2 (cpyM k (40 * a + i) (40 * b + j) (m - t) m) 249 (40 * b + j + (m - 1 - t)) (cpyM k (40 * a + i) (40 * b + j) (m - t) m 249 (40 * a + i + (m - 1 - t))) = cpyM k (40 * a + i) (40 * b + j) (m - (t + 1)) m := by
        funext x y
        rw [up2_at]
        unfold cpyM
        by_cases q : x = 249 ∧ y = 40 * b + j + (m - 1 - t)
        · rw [if_pos q, if_neg (by omega), if_pos (by omega), q.2]
          congr 1
          omega
        · rw [if_neg q]
          by_cases q2 : x = 249 ∧ 40 * b + j + (m - t) ≤ y ∧ y < 40 * b + j + m
          · rw [if_pos q2, if_pos (by omega)]
          · rw [if_neg q2, if_neg (by omega)]
      rw [e3]
      exact ih (t + 1) (by omega) (by omega)
theorem copy7_e {a b i j m : Nat} (ha : a ≤ 7) (hb : b ≤ 7) (h1 : i + m ≤ 40) (h2 : j + m ≤ 40) (k : Hp) : (if nI i < nI j then fX7_copy_L143 4096 (nI a) (nI i) (nI b) (nI j) (nI m) 0 0 k else fX7_copy_L143 4096 (nI a) (nI i) (nI b) (nI j) (nI m) 1 0 k) = some (nI m, cpyM k (40 * a + i) (40 * b + j) 0 m) := by
  by_cases c : i < j
  · rw [if_pos (by rw [t_lt, nI_toInt (by omega), nI_toInt (by omega)]; omega)]
    have e := copy7_dn ha hb h1 h2 c k 4096 0 (by omega) (by omega)
    rw [nI_0, Nat.sub_zero, cpyM_0] at e
    exact e
  · rw [if_neg (by rw [t_lt, nI_toInt (by omega), nI_toInt (by omega)]; omega)]
    have e := copy7_up ha hb h1 h2 (fun _ => by omega) k 4096 0 (by omega) (by omega)
    rw [nI_0, cpyM_0] at e
    exact e
theorem L_add {a b : Int32} (h : -1000000000000 ≤ a.toInt + b.toInt) : (a.toInt64 + b.toInt64).toInt = a.toInt + b.toInt := by
  have h1 := Int32.toInt_lt a
  have h2 := Int32.toInt_lt b
  have h3 := Int32.le_toInt a
  have h4 := Int32.le_toInt b
  rw [Int64.toInt_add, L_w, L_w]
  exact Int.bmod_eq_of_le (by omega) (by omega)
theorem st_copy : St_copy RR := by
  intro h k a1 a2 a3 a4 a5 H
  by_cases c1 : 0 ≤ a1.toInt ∧ a1.toInt ≤ 7
  · obtain ⟨r, hr, rfl⟩ := rg (n := 7) (by omega) c1
    by_cases c2 : 0 ≤ a3.toInt ∧ a3.toInt ≤ 7
    · obtain ⟨q, hq, rfl⟩ := rg (n := 7) (by omega) c2
      have i8 := inb_n (show r < 8 by omega) (by omega)
      have i7 : inb (nI r) (lenM 247) = true := i8
      have i9 : inb (nI r) (lenM 248) = true := i8
      have j8 := inb_n (show q < 8 by omega) (by omega)
      have j7 : inb (nI q) (lenM 247) = true := j8
      have j9 : inb (nI q) (lenM 248) = true := j8
      have cr := cl_n (show r < 2147483648 by omega)
      have cq := cl_n (show q < 2147483648 by omega)
      have n1 : ¬ (0 : Int32) ≤ -1 := by decide
      have n2 : (-1 : Int32) < 0 := by decide
      rcases H.1 r (by omega) with ⟨p1, p2⟩ | ⟨p1, l, n, hl, hn, p2, p3, p4, p5, p6⟩
      · refine ⟨(-1000010 : Int32) - 1, _, _, ?_, ?_, H.fnd 1⟩
        · simp only [fX6_copy, r6_t hr, r6_t hq, bd_e, i10, if_false, i8, j8, chk_t, cr, cq, p1, fX6_found, lk_e, jp_e]
        · simp only [fX7_copy, lk_e, r7_t hr, r7_t hq, bd_e, i10, if_false, i7, chk_t, cr, m_0 (k := k) (i := 247) (by omega), p2, if_pos n2, fX7_finding, jp_e]
      · rcases H.1 q (by omega) with ⟨o1, o2⟩ | ⟨o1, l', n', hl', hn', o2, o3, o4, o5, o6⟩
        · refine ⟨(-1000010 : Int32) - 1, _, _, ?_, ?_, H.fnd 1⟩
          · simp only [fX6_copy, r6_t hr, r6_t hq, bd_e, i10, if_false, i8, j8, chk_t, cr, cq, p1, o1, if_true, fX6_found, lk_e, jp_e]
          · simp only [fX7_copy, lk_e, r7_t hr, r7_t hq, bd_e, i10, if_false, i7, j7, chk_t, cr, cq, m_0 (k := k) (i := 247) (by omega), p3, o2, if_neg (nI_pos (show l < 2 ^ 31 by omega)), if_neg n1, fX7_finding, jp_e]
        · have s1 := nI_pos (show l < 2 ^ 31 by omega)
          have s2 := nI_pos' (show l' < 2 ^ 31 by omega)
          by_cases cl : nI l = nI l'
          · by_cases c3 : 0 ≤ a2.toInt ∧ 0 ≤ a5.toInt ∧ a2.toInt + a5.toInt ≤ n
            · by_cases c4 : 0 ≤ a4.toInt ∧ 0 ≤ a5.toInt ∧ a4.toInt + a5.toInt ≤ n'
              · obtain ⟨i, hi, rfl⟩ := rg (a := a2) (n := 40) (by omega) ⟨c3.1, by show _ ≤ (40 : Int); omega⟩
                obtain ⟨j, hj, rfl⟩ := rg (a := a4) (n := 40) (by omega) ⟨c4.1, by show _ ≤ (40 : Int); omega⟩
                obtain ⟨t, ht, rfl⟩ := rg (a := a5) (n := 40) (by omega) ⟨c3.2.1, by show _ ≤ (40 : Int); omega⟩
                have d3 := c3
                have d4 := c4
                rw [nI_toInt (by omega), nI_toInt (by omega)] at d3 d4
                have eR := len_R (e := 230 + 2 * r) ⟨by omega, by omega, by omega⟩
                have eQ := len_R (e := 230 + 2 * q) ⟨by omega, by omega, by omega⟩
                have hok : cpok (nI i) (nI j) (nI t) 40 40 = true := by
                  simp only [cpok, Bool.and_eq_true, decide_eq_true_eq, nI_toInt (show i < 2 ^ 31 by omega), nI_toInt (show j < 2 ^ 31 by omega), nI_toInt (show t < 2 ^ 31 by omega)]
                  omega
                refine ⟨nI t, up2 (va_up h (230 + 2 * q + 1) (va_cpy (h (230 + 2 * r + 1)) (h (230 + 2 * q + 1)) i j t)) 203 8 0, cpyM (up2 (up2 k 246 0 0) 246 1 0) (40 * r + i) (40 * q + j) 0 t, ?_, ?_, ?_⟩
                · simp only [fX6_copy, r6_t hr, r6_t hq, bd_e, i10, if_false, i8, j8, chk_t, cr, cq, p1, o1, if_true, jp_e, p2, o2, if_pos cl, hold_t hn p4 c3, hold_t hn' o4 c4, eR, eQ, hok, lk_e, cl_n (show i < 2147483648 by omega), cl_n (show j < 2147483648 by omega), cl_n (show t < 2147483648 by omega), fX6_well]
                · unfold fX7_copy
                  rw [lk_e, r7_t hr, bd_e, if_neg (by decide), r7_t hq, bd_e, if_neg (by decide), lk_e, i7, chk_t, jp_e, cr, cq, m_0 (k := k) (i := 247) (by omega), m_0 (k := k) (i := 247) (by omega), p3, o3, if_neg s1, j7, chk_t, if_pos s2, chk_t, chk_t, if_pos cl, jp_e, if_neg (nI_pos (by omega)), if_neg (nI_pos (by omega)), if_neg (nI_pos (by omega)), i9, chk_t, m_0 (k := k) (i := 248) (by omega), p5, if_neg (by rw [lg_gt, L_add (by omega), L_w, nI_toInt (by omega), nI_toInt (by omega), nI_toInt (by omega)]; omega), j9, chk_t, m_0 (k := k) (i := 248) (by omega), o5, if_pos (by rw [lg_le, L_add (by omega), L_w, nI_toInt (by omega), nI_toInt (by omega), nI_toInt (by omega)]; omega), jp_e]
                  exact copy7_e hr hq (by omega) (by omega) _
                · refine H.rows (fun x y a b c => ?_) (fun x y a b c d e => ?_) ?_ (fun w hw => ?_)
                  · rw [up2_at, if_neg b, va_up_ne _ _ (by omega)]
                  · unfold cpyM
                    rw [if_neg (by omega), up2_at, if_neg a, up2_at, if_neg (fun q => by obtain ⟨rfl, rfl⟩ := q; cases e)]
                  · simp [up2_at, cpyM]
                  · by_cases eq : w = q
                    · subst eq
                      right
                      refine ⟨?_, l', n', hl', hn', ?_, ?_, ?_, ?_, fun u hu => ?_⟩
                      · rw [up2_at, if_neg (by omega), va_up_ne _ _ (by omega)]; exact o1
                      · rw [up2_at, if_neg (by omega), va_up_ne _ _ (by omega)]; exact o2
                      · unfold cpyM; rw [if_neg (by omega), m_0 (by omega)]; exact o3
                      · rw [up2_at, if_neg (by omega), va_up_ne _ _ (by omega)]; exact o4
                      · unfold cpyM; rw [if_neg (by omega), m_0 (by omega)]; exact o5
                      · rw [up2_at, if_neg (by omega), show 231 + 2 * w = 230 + 2 * w + 1 by omega]
                        unfold va_up va_cpy cpyM
                        rw [if_pos rfl]
                        by_cases z : j ≤ u ∧ u < j + t
                        · rw [if_pos z, if_pos (by omega), m_0 (by omega), show 230 + 2 * r + 1 = 231 + 2 * r by omega, p6 _ (by omega)]
                          congr 1
                          omega
                        · rw [if_neg z, if_neg (by omega), m_0 (by omega), show 230 + 2 * w + 1 = 231 + 2 * w by omega, o6 _ hu]
                    · refine (H.1 w hw).cg2 (fun j => ?_) (fun j => ?_) ?_ ?_ (fun j hj => ?_)
                      · rw [up2_at, if_neg (by omega), va_up_ne _ _ (by omega)]
                      · rw [up2_at, if_neg (by omega), va_up_ne _ _ (by omega)]
                      · unfold cpyM; rw [if_neg (by omega), m_0 (by omega)]
                      · unfold cpyM; rw [if_neg (by omega), m_0 (by omega)]
                      · unfold cpyM; rw [if_neg (by omega), m_0 (by omega)]
              · refine ⟨(-1000010 : Int32) - 2, _, _, ?_, ?_, H.fnd 2⟩
                · simp only [fX6_copy, r6_t hr, r6_t hq, bd_e, i10, if_false, i8, j8, chk_t, cr, cq, p1, o1, if_true, jp_e, p2, o2, if_pos cl, hold_t hn p4 c3, hold_f hn' o4 c4, i00, fX6_found, lk_e]
                · unfold fX7_copy
                  rw [lk_e, r7_t hr, bd_e, if_neg (by decide), r7_t hq, bd_e, if_neg (by decide), lk_e, i7, chk_t, jp_e, cr, cq, m_0 (k := k) (i := 247) (by omega), m_0 (k := k) (i := 247) (by omega), p3, o3, if_neg s1, j7, chk_t, if_pos s2, chk_t, chk_t, if_pos cl, jp_e, if_neg (by rw [t_lt]; show ¬ _ < (0 : Int); omega)]
                  by_cases z : a4 < 0
                  · rw [if_pos z]; rfl
                  · have z2 : ¬ a4.toInt < 0 := fun w => z ((t_lt _ _).mpr w)
                    rw [if_neg z, if_neg (by rw [t_lt]; show ¬ _ < (0 : Int); omega), i9, chk_t, m_0 (k := k) (i := 248) (by omega), p5, if_neg (by rw [lg_gt, L_add (by omega), L_w, nI_toInt (by omega)]; omega), j9, chk_t, m_0 (k := k) (i := 248) (by omega), o5, if_neg (by rw [lg_le, L_add (by omega), L_w, nI_toInt (by omega)]; omega)]
                    rfl
            · refine ⟨(-1000010 : Int32) - 2, _, _, ?_, ?_, H.fnd 2⟩
              · simp only [fX6_copy, r6_t hr, r6_t hq, bd_e, i10, if_false, i8, j8, chk_t, cr, cq, p1, o1, if_true, jp_e, p2, o2, if_pos cl, hold_f hn p4 c3, i00, fX6_found, lk_e]
              · unfold fX7_copy
                rw [lk_e, r7_t hr, bd_e, if_neg (by decide), r7_t hq, bd_e, if_neg (by decide), lk_e, i7, chk_t, jp_e, cr, cq, m_0 (k := k) (i := 247) (by omega), m_0 (k := k) (i := 247) (by omega), p3, o3, if_neg s1, j7, chk_t, if_pos s2, chk_t, chk_t, if_pos cl, jp_e]
                by_cases z1 : a2 < 0
                · rw [if_pos z1]; rfl
                · have y1 : ¬ a2.toInt < 0 := fun w => z1 ((t_lt _ _).mpr w)
                  rw [if_neg z1]
                  by_cases z2 : a4 < 0
                  · rw [if_pos z2]; rfl
                  · rw [if_neg z2]
                    by_cases z3 : a5 < 0
                    · rw [if_pos z3]; rfl
                    · have y3 : ¬ a5.toInt < 0 := fun w => z3 ((t_lt _ _).mpr w)
                      rw [if_neg z3, i9, chk_t, m_0 (k := k) (i := 248) (by omega), p5, if_pos (by rw [lg_gt, L_add (by omega), L_w, nI_toInt (by omega)]; omega)]
                      rfl
          · refine ⟨(-1000010 : Int32) - 5, _, _, ?_, ?_, H.fnd 5⟩
            · simp only [fX6_copy, r6_t hr, r6_t hq, bd_e, i10, if_false, i8, j8, chk_t, cr, cq, p1, o1, if_true, jp_e, p2, o2, if_neg cl, fX6_found, lk_e]
            · unfold fX7_copy
              rw [lk_e, r7_t hr, bd_e, if_neg (by decide), r7_t hq, bd_e, if_neg (by decide), lk_e, i7, chk_t, jp_e, cr, cq, m_0 (k := k) (i := 247) (by omega), m_0 (k := k) (i := 247) (by omega), p3, o3, if_neg s1, j7, chk_t, if_pos s2, chk_t, chk_t, if_neg cl]
              rfl
    · refine ⟨-1000001, _, _, ?_, ?_, H.bad⟩
      · simp only [fX6_copy, r6_t hr, r6_f c2, bd_e, i10, if_false, i00, if_true]
      · simp only [fX7_copy, lk_e, r7_t hr, r7_f c2, bd_e, i10, if_false, i00, if_true]
  · refine ⟨-1000001, _, _, ?_, ?_, H.bad⟩
    · simp only [fX6_copy, r6_f c1, bd_e, i00, if_true]
    · simp only [fX7_copy, lk_e, r7_f c1, bd_e, i00, if_true]
/-- the tape alone -/
theorem RR.tape {h h1 k k1 : Hp} (H : RR h k) (hC : ∀ i j, i ≠ 206 → ¬ (i = 205 ∧ j = 1) → sigC i j = true → h1 i j = h i j) (hM : ∀ i j, i ≠ 254 → ¬ (i = 246 ∧ j = 11) → sigM i j = true → k1 i j = k i j) (ht : tapeR h1 k1) : RR h1 k1 := by
  obtain ⟨hr, -, ⟨s1, s2⟩, hn, ⟨n2, N, c1, c2, c3, c4, c5, c6⟩, hi, ⟨n3, d1, d2, d3, d4⟩⟩ := H
  refine ⟨fun r hr2 => (hr r hr2).cg2 (fun j => hC _ j (by omega) (by omega) (by simp [sigC])) (fun j => hC _ j (by omega) (by omega) (by simp [sigC]; omega)) (hM 247 r (by omega) (by omega) rfl) (hM 248 r (by omega) (by omega) rfl) (fun j _ => hM 249 _ (by omega) (by omega) rfl), ht, ⟨?_, ?_⟩, ?_, ⟨n2, N, c1, c2, ?_, ?_, ?_, fun j hj => ?_⟩, fun i hi2 => ?_, ⟨n3, d1, ?_, ?_, fun i hi => ?_⟩⟩
  · rw [hC 203 8 (by omega) (by omega) rfl, hM 246 1 (by omega) (by omega) rfl]; exact s1
  · rw [hC 203 7 (by omega) (by omega) rfl, hM 246 18 (by omega) (by omega) rfl]; exact s2
  · have c1 : ∀ j, h1 0 j = h 0 j := fun j => hC 0 j (by omega) (by omega) rfl
    have m1 : ∀ j, k1 250 j = k 250 j := fun j => hM 250 j (by omega) (by omega) rfl
    rcases hn with H | H
    · left
      unfold noE at H ⊢
      simp only [c1, m1]
      exact H
    · right
      exact H.cg (fun i j h1 h2 => hC i j (by omega) (by omega) (sig_e (Or.inr rfl) h1 h2)) (fun j hj => m1 _)
  · rw [hC 207 2 (by omega) (by omega) rfl]; exact c3
  · rw [hC 207 1 (by omega) (by omega) rfl]; exact c4
  · rw [hM 246 9 (by omega) (by omega) rfl]; exact c5
  · exact (c6 j hj).cg (fun i j h1 h2 => hC i j (by omega) (by omega) (sig_e (Or.inl (by omega)) h1 h2)) (fun q hq => hM 253 _ (by omega) (by omega) rfl)
  · rcases hi i hi2 with ⟨a, b⟩ | ⟨a, b⟩
    · exact Or.inl ⟨(hC _ 6 (by omega) (by omega) (sig_e (e := 21 + 7 * i) (Or.inl (by omega)) (by omega) (by omega))).trans a, (hM 256 i (by omega) (by omega) rfl).trans b⟩
    · exact Or.inr ⟨(hM 256 i (by omega) (by omega) rfl).trans a, b.cg (fun i j h1 h2 => hC i j (by omega) (by omega) (sig_e (Or.inl (by omega)) h1 h2)) (fun q hq => hM 257 _ (by omega) (by omega) rfl)⟩
  · rw [hC 228 1 (by omega) (by omega) rfl]; exact d2
  · rw [hM 246 23 (by omega) (by omega) rfl]; exact d3
  · rw [hC 229 i (by omega) (by omega) rfl, hM 258 i (by omega) (by omega) rfl]; exact d4 i hi
theorem st_feed : St_feed RR := by
  intro h k a1 H
  by_cases c1 : 0 ≤ a1.toInt ∧ a1.toInt ≤ 255
  · obtain ⟨c, hc, rfl⟩ := rg (n := 255) (by omega) c1
    obtain ⟨n, t1, t2, t3, t4⟩ := H.2.1
    by_cases c2 : n = 120
    · subst c2
      refine ⟨-1000003, _, _, ?_, ?_, H.bad⟩
      · simp only [fX6_feed, w6_t 0 255 c1, bd_e, i10, if_false, t2, show ¬ nI 120 < (120 : Int32) by decide]
      · have e0 : up2 k 246 0 0 246 11 = nI 120 := by rw [up2_at, if_neg (by omega)]; exact t3
        unfold fX7_feed
        rw [lk_e, L_wd 0 255 c1, bd_e, if_neg (by decide), e0, if_pos (show nI 120 = (120 : Int32) from rfl)]
    · have e0 : up2 k 246 0 0 246 11 = nI n := by rw [up2_at, if_neg (by omega)]; exact t3
      have i1 : inb (nI n) (lenC 206) = true := inb_n (n := 120) (by omega) (by omega)
      have i2 : inb (nI n) (lenM 254) = true := inb_n (n := 120) (by omega) (by omega)
      have hlt : nI n < (120 : Int32) := by rw [t_lt, nI_toInt (by omega)]; show _ < (120 : Int); omega
      have eA : up2 h 206 n (nI c) 205 1 = nI n := by rw [up2_at, if_neg (by omega)]; exact t2
      have eB : up2 (up2 k 246 0 0) 254 n (nI c) 246 11 = nI n := by rw [up2_at, if_neg (by omega)]; exact e0
      refine ⟨nI (n + 1), up2 (up2 h 206 n (nI c)) 205 1 (nI (n + 1)), up2 (up2 (up2 k 246 0 0) 254 n (nI c)) 246 11 (nI (n + 1)), ?_, ?_, ?_⟩
      · unfold fX6_feed fX4_append
        rw [w6_t 0 255 c1, bd_e, if_neg (by decide), t2, if_pos hlt, if_neg (by rw [t_le, nI_toInt (by omega)]; show ¬ (120 : Int) ≤ _; omega), i1, chk_t, cl_n (by omega), lk_e, lk_e, bd_e, eA, nI_1, up2_at, if_pos ⟨rfl, rfl⟩]
      · unfold fX7_feed
        rw [lk_e, L_wd 0 255 c1, bd_e, if_neg (by decide), e0, if_neg (show ¬ nI n = (120 : Int32) from fun q => c2 ((nI_eq (b := 120) (by omega) (by omega)).mp q)), i2, chk_t, cl_n (by omega), lk_e, lk_e, eB, nI_1, up2_at, if_pos ⟨rfl, rfl⟩]
      · refine H.tape (fun i j a b c => ?_) (fun i j a b c => ?_) ⟨n + 1, by omega, ?_, ?_, fun i hi => ?_⟩
        · rw [up2_at, if_neg b, up2_at, if_neg (by omega)]
        · rw [up2_at, if_neg b, up2_at, if_neg (by omega), up2_at, if_neg (fun q => by obtain ⟨rfl, rfl⟩ := q; cases c)]
        · simp [up2_at]
        · simp [up2_at]
        · by_cases e : i = n
          · subst e
            exact ⟨c, by omega, by simp [up2_at], by simp [up2_at]⟩
          · obtain ⟨x, hx, y1, y2⟩ := t4 i (by omega)
            refine ⟨x, hx, ?_, ?_⟩
            · rw [up2_at, if_neg (by omega), up2_at, if_neg (by omega)]; exact y1
            · rw [up2_at, if_neg (by omega), up2_at, if_neg (by omega), up2_at, if_neg (by omega)]; exact y2
  · refine ⟨-1000001, _, _, ?_, ?_, H.bad⟩
    · simp only [fX6_feed, w6_f 0 255 c1, bd_e, i00, if_true]
    · simp only [fX7_feed, lk_e, L_wf 0 255 c1, bd_e, i00, if_true]
theorem st_trace : St_trace RR := by
  intro h k a1 H
  obtain ⟨n, t1, t2, t3, t4⟩ := H.2.2.2.2.2.2
  have e0 : up2 k 246 0 0 246 23 = nI n := by rw [up2_at, if_neg (by omega)]; exact t3
  have z : ∀ {n : Nat}, n ≤ 16 → (nI n - 1).toInt = (n : Int) - 1 := fun {n} hn => by
    rw [show (1 : Int32) = nI 1 from rfl, pk_sub_toInt (by omega) (by omega)]; rfl
  by_cases c1 : 0 ≤ a1.toInt ∧ a1.toInt ≤ (n : Int) - 1
  · obtain ⟨i, hi, rfl⟩ := rg (a := a1) (n := 15) (by omega) ⟨c1.1, by show _ ≤ (15 : Int); omega⟩
    rw [nI_toInt (by omega)] at c1
    have i1 : inb (nI i) (lenC 229) = true := inb_n (n := 16) (by omega) (by omega)
    have i2 : inb (nI i) (lenM 258) = true := inb_n (n := 16) (by omega) (by omega)
    refine ⟨h 229 i, h, _, ?_, ?_, H.bad⟩
    · unfold fX6_trace
      rw [t2, w6_t 0 (nI n - 1) (by rw [z t1, nI_toInt (by omega)]; exact ⟨by show (0 : Int) ≤ _; omega, by omega⟩), bd_e, if_neg (by decide), i1, chk_t, cl_n (by omega)]
    · unfold fX7_trace
      rw [lk_e, e0, L_wd 0 ((nI n - 1).toInt64) (by rw [L_w, z t1, nI_toInt (by omega)]; exact ⟨by show (0 : Int) ≤ _; omega, by omega⟩), bd_e, if_neg (by decide), i2, chk_t, cl_n (by omega), up2_at, if_neg (by omega), t4 i (by omega)]
  · refine ⟨-1000000, h, _, ?_, ?_, H.bad⟩
    · unfold fX6_trace
      rw [t2, w6_f 0 (nI n - 1) (by rw [z t1]; exact c1), bd_e, if_pos rfl]
    · unfold fX7_trace
      rw [lk_e, e0, L_wf 0 ((nI n - 1).toInt64) (by rw [L_w, z t1]; exact c1), bd_e, if_pos rfl]
