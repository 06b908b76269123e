/-! ===== waking ===== -/
theorem hrN_6 {R : Rw} : ∀ t : Nat, hrN R t 6 = R 6 + t
  | 0 => by show R 6 = _; omega
  | t + 1 => by show hr (hrN R t) 6 = _; rw [hr_6, hrN_6 t]; omega
def qt (R : Rw) (t : Nat) : Nat := ((R 6 + t) % 4).toNat
def wkS (R : Rw) : Nat → Nat → Nat → Bool
  | 0, _, _ => false
  | t + 1, k, s => wkS R t k s || (decide (qt R t = k) && lie (hrN R (t + 1)) s (R 3))
def gwS (R : Rw) (m t : Nat) : Nat → Nat → Bool
  | 0, s => nmB R s
  | j + 1, s => gwS R m t j s || (m.testBit j && wkS R t j s)
theorem qt_lt {R : Rw} {t : Nat} : qt R t < 4 := by unfold qt; omega
theorem Ag_5 {R : Rw} {c : Int} : Ag (va_up R 5 c) R := fun j _ h2 _ _ => upR_ne h2
theorem gwS_0 {R : Rw} {m s : Nat} : ∀ j, gwS R m 0 j s = nmB R s
  | 0 => rfl
  | j + 1 => by
    show (gwS R m 0 j s || (m.testBit j && wkS R 0 j s)) = _
    rw [gwS_0 j]
    show (nmB R s || (m.testBit j && false)) = _
    simp
theorem gwS_s {R : Rw} {m t s : Nat} : gwS R m (t + 1) 4 s = (gwS R m t 4 s || (m.testBit (qt R t) && lie (hrN R (t + 1)) s (R 3))) := by
  have q := qt_lt (R := R) (t := t)
  have e : ∀ k, wkS R (t + 1) k s = (wkS R t k s || (decide (qt R t = k) && lie (hrN R (t + 1)) s (R 3))) := fun k => rfl
  have u : ∀ t, gwS R m t 4 s = ((((nmB R s || (m.testBit 0 && wkS R t 0 s)) || (m.testBit 1 && wkS R t 1 s)) || (m.testBit 2 && wkS R t 2 s)) || (m.testBit 3 && wkS R t 3 s)) := fun t => rfl
  rw [u, u, e, e, e, e]
  generalize nmB R s = a
  generalize wkS R t 0 s = b0
  generalize wkS R t 1 s = b1
  generalize wkS R t 2 s = b2
  generalize wkS R t 3 s = b3
  generalize lie (hrN R (t + 1)) s (R 3) = l
  rcases (show qt R t = 0 ∨ qt R t = 1 ∨ qt R t = 2 ∨ qt R t = 3 by omega) with z | z | z | z <;> rw [z] <;> generalize m.testBit 0 = m0 <;> generalize m.testBit 1 = m1 <;> generalize m.testBit 2 = m2 <;> generalize m.testBit 3 = m3 <;> revert a b0 b1 b2 b3 l m0 m1 m2 m3 <;> decide
theorem gwS_e {B : Int} {R : Rw} {m : Nat} (W : WF B R) (hm : m < 16) {s : Nat} (hs : s < nS R) : ∀ t : Nat, nmB (hrN (va_up R 5 (m : Int)) t) s = gwS R m t 4 s
  | 0 => by
    rw [gwS_0]
    unfold hrN nmB
    rw [upR_ne (by omega)]
  | t + 1 => by
    have w6 := W.2.2.2.2.2.2.1
    have WQ : WF B (va_up R 5 (m : Int)) := W.hd (Or.inr (Or.inr ⟨rfl, by omega, by omega⟩))
    have i := gwS_e W hm hs t
    have e3 : hrN (va_up R 5 (m : Int)) t 3 = R 3 := by rw [hrN_0 (by omega) (by omega) (by omega), upR_ne (by omega)]
    have ea : awk (hrN (va_up R 5 (m : Int)) t) = m.testBit (qt R t) := by
      unfold awk qt
      rw [hrN_6, upR_ne (by omega), hrN_0 (j := 5) (by omega) (by omega) (by omega), upR_at]
      rfl
    have u := nmB_hr (WF_hrN WQ t) (s := s) (by rw [nS_hrN]; unfold nS; rw [upR_ne (by omega)]; exact hs)
    show nmB (hr (hrN (va_up R 5 (m : Int)) t)) s = _
    rw [u, i, ea, e3, gwS_s]
    have el : lie (hr (hrN (va_up R 5 (m : Int)) t)) s (R 3) = lie (hrN R (t + 1)) s (R 3) := Ag_lie (Ag_hrN WQ Ag_5 (t + 1))
    rw [el]
def wv (R : Rw) (t m : Nat) : Nat := cnt (gwS R m t 4) (nS R)
theorem wv_b {B : Int} {R : Rw} {t m : Nat} (W : WF B R) : wv R t m ≤ 6 := by
  have h6 := nS_le W
  have := cnt_le (gwS R m t 4) (nS R)
  unfold wv
  omega
theorem wk_m {R : Rw} {T m : Nat} {k : Hp} (W : WF 999 R) (hT : T ≤ 30) (hm : m < 16) (M : M0 k 250 R) : ∃ k1, fX7_numberedBy (nI m) (nI T) k = some (nI (wv R T m), k1) ∧ offA k k1 252 := by
  obtain ⟨k1, l1, l2, l3⟩ := m_then M
  have l4 := l2.up (j := 5) (v := (m : Int))
  rw [← I_nat] at l4
  have WQ : WF 999 (va_up R 5 (m : Int)) := W.hd (Or.inr (Or.inr ⟨rfl, by omega, by omega⟩))
  obtain ⟨k3, m1, m2, m3⟩ := m_hrs (t := T) WQ a252 (by omega) (by omega) l4
  have h6 := nS_le W
  have nQ : nS (hrN (va_up R 5 (m : Int)) T) = nS R := by rw [nS_hrN]; unfold nS; rw [upR_ne (by omega)]
  refine ⟨k3, ?_, l3.up.tr m3⟩
  unfold fX7_numberedBy
  have m1' : fX7_hoursOf 252 (nI T) (up2 k1 252 (5 : Int32).toNatClampNeg (nI m)) = some ((), k3) := m1
  rw [l1, bd_e, lb5 a252, chk_t, lk_e, m1', bd_e, m_num (WF_hrN WQ T) a252 m2, bd_e, nQ, m_bits (bs64 _ (by omega)), cnt_bs (by omega), bd_e]
  unfold wv
  rw [cnt_congr (fun s hs => gwS_e W hm hs T)]
/-- the class: what lies on the clerk's cell, by the quarter of the hour -/
theorem wk_L {B : Int} {R : Rw} {T : Nat} {K : Hp → Option (Int32 × Hp)} (W : WF B R) (hB : B + T ≤ 5000) (hT : T ≤ 30) : ∀ (n t : Nat) (h : Hp), t ≤ T → T < n + t → Rep h 0 R → Rep h 14 (hrN R t) → (∀ d, d < 4 → h 226 d = nI (bs (wkS R t d) (nS R))) → ∃ h1, fX3_leastAwake_L18 K n 0 (nI T) (nI t) h = K h1 ∧ (∀ d, d < 4 → h1 226 d = nI (bs (wkS R T d) (nS R))) ∧ offS h h1 := by
  intro n
  induction n with
  | zero => intro t h h1 h2; omega
  | succ n ih =>
    intro t h h1 h2 H0 H e
    have w6 := W.2.2.2.2.2.2.1
    have w3 := W.2.2.2.1
    have w2 := W.2.2.1
    rw [fX3_leastAwake_L18]
    by_cases et : t = T
    · subst et
      rw [if_pos (by rw [t_le]; exact Int.le_refl _)]
      exact ⟨h, rfl, e, offS.rf⟩
    · obtain ⟨hA, f1, f2, f3⟩ := c_hour (WF_hrN W t) (by omega) e14E H
      have H0' : Rep hA 0 R := H0.S f3.S
      have f2' : Rep hA 14 (hrN R (t + 1)) := f2
      have x22 : h 14 13 &&& 3 = nI (qt R t) := by
        rw [H.2.2.2.2.2.2.2.1, hrN_6, I_n (by omega), pk_andN (by omega) 2 rfl]
        unfold qt
        congr 1
        omega
      have q4 := qt_lt (R := R) (t := t)
      have co := c_on (c := R 3) (WF_hrN W (t + 1)) e14E f2' (by omega) (by omega)
      rw [nS_hrN] at co
      have ev : hA 226 (qt R t) = nI (bs (wkS R t (qt R t)) (nS R)) := by rw [f3 226 (by omega)]; exact e _ q4
      have mo : bs (wkS R t (qt R t)) (nS R) ||| bs (onB (hrN R (t + 1)) (R 3)) (nS R) = bs (wkS R (t + 1) (qt R t)) (nS R) := by
        rw [bs_or2]
        refine bs_congr (fun i hi => ?_)
        show _ = (wkS R t (qt R t) i || (decide (qt R t = qt R t) && lie (hrN R (t + 1)) i (R 3)))
        rw [decide_eq_true rfl, Bool.true_and]
        rfl
      rw [if_neg (by rw [t_le, nI_toInt (by omega), nI_toInt (by omega)]; omega), x22, lk_e, f1, bd_e, show lenC 226 = 16 from rfl, inb_n (by omega) (by omega), chk_t, H0'.2.2.1, co, bd_e, chk_t, cl_n (by omega), ev, or_n, mo, lk_e, lk_e, nI_1]
      obtain ⟨hC, y1, y2, y3⟩ := ih (t + 1) (up2 hA 226 (qt R t) (nI (bs (wkS R (t + 1) (qt R t)) (nS R)))) (by omega) (by omega) (H0'.cg (fun i j _ q => by rw [up2_ne (by omega)])) (f2'.cg (fun i j _ q => by rw [up2_ne (by omega)])) (fun d hd => by
        rw [up2_at]
        by_cases z : d = qt R t
        · rw [if_pos ⟨rfl, z⟩, z]
        · rw [if_neg (by omega), f3 226 (by omega), e d hd]
          congr 1
          refine bs_congr (fun i hi => ?_)
          show _ = (wkS R t d i || (decide (qt R t = d) && lie (hrN R (t + 1)) i (R 3)))
          rw [decide_eq_false (by omega), Bool.false_and, Bool.or_false])
      exact ⟨hC, y1, y2, (f3.S.up).tr y3⟩
theorem wk_nL {B : Int} {R : Rw} {T m : Nat} {h : Hp} {K : Int32 → Hp → Option (Int32 × Hp)} (W : WF B R) (hm : m < 16) (e : ∀ d, d < 4 → h 226 d = nI (bs (wkS R T d) (nS R))) : ∀ (n j : Nat), j ≤ 4 → 4 < n + j → fX3_numberedBy_L5 K n (nI m) (nI (bs (gwS R m T j) (nS R))) (nI j) h = K (nI (bs (gwS R m T 4) (nS R))) h := by
  intro n
  induction n with
  | zero => intro j h1 h2; omega
  | succ n ih =>
    intro j h1 h2
    rw [fX3_numberedBy_L5]
    by_cases ej : j = 4
    · subst ej
      rw [if_pos (by rw [t_le]; decide)]
    · rw [if_neg (by rw [t_le, nI_toInt (by omega)]; show ¬ (4 : Int) ≤ _; omega), bit_n (by omega) (by omega)]
      dsimp only [jp_e]
      rw [if_b]
      by_cases q : m.testBit j = true
      · have u : bs (gwS R m T j) (nS R) ||| bs (wkS R T j) (nS R) = bs (gwS R m T (j + 1)) (nS R) := by
          rw [bs_or2]
          refine bs_congr (fun i hi => ?_)
          show _ = (gwS R m T j i || (m.testBit j && wkS R T j i))
          rw [q, Bool.true_and]
        rw [if_pos q, show lenC 226 = 16 from rfl, inb_n (by omega) (by omega), chk_t, cl_n (by omega), e j (by omega), or_n, u, lk_e, lk_e, nI_1]
        exact ih (j + 1) (by omega) (by omega)
      · have u : bs (gwS R m T (j + 1)) (nS R) = bs (gwS R m T j) (nS R) := by
          refine bs_congr (fun i hi => ?_)
          show (gwS R m T j i || (m.testBit j && wkS R T j i)) = _
          have : m.testBit j = false := by simpa using q
          rw [this, Bool.false_and, Bool.or_false]
        rw [if_neg q, show (0 : Int32) = nI 0 from rfl, or_n, Nat.or_zero, ← u, lk_e, lk_e, nI_1]
        exact ih (j + 1) (by omega) (by omega)
theorem wk_n {B : Int} {R : Rw} {T m : Nat} {h : Hp} (W : WF B R) (hm : m < 16) (e : ∀ d, d < 4 → h 226 d = nI (bs (wkS R T d) (nS R))) : fX3_numberedBy (nI m) (nI (bs (nmB R) (nS R))) h = some (nI (wv R T m), h) := by
  have h6 := nS_le W
  have x := wk_nL (K := fun x31 hh32 => bd (fJ6_bitCount x31 hh32) fun x40 hh41 => some (x40, hh41)) W hm e 4096 0 (by omega) (by omega)
  rw [nI_0, c_bits (bs64 _ (by omega)), cnt_bs (by omega), bd_e] at x
  exact x
/-- both look for the least, from 14 down -/
theorem wk_b {R : Rw} {T : Nat} {v2 : Int32} {h : Hp} {K : Int32 → Hp → Option (Int32 × Hp)} (W : WF 999 R) (hT : T ≤ 30) (e : ∀ d, d < 4 → h 226 d = nI (bs (wkS R T d) (nS R))) : ∀ (n m b : Nat) (v6 : Int32) (k : Hp), m ≤ 15 → m < n → b < 16 → v6 = nI m - 1 → M0 k 250 R → ∃ b' k1, b' < 16 ∧ fX3_leastAwake_L90 n (nI (bs (nmB R) (nS R))) (nI (wv R T 15)) (nI b) v6 h = some (nI b', h) ∧ fX7_waking_L56 K n (nI T) v2 (nI (wv R T 15)) (nI b) v6 k = K (nI b') k1 ∧ offA k k1 252 := by
  intro n
  induction n with
  | zero => intro m b v6 k h1 h2; omega
  | succ n ih =>
    intro m b v6 k h1 h2 hb hv M
    rw [fX3_leastAwake_L90, fX7_waking_L56]
    cases m with
    | zero =>
      have ng : v6 < 0 := by rw [hv]; decide
      rw [if_pos ng, if_pos ng]
      exact ⟨b, k, hb, rfl, rfl, offA.rf⟩
    | succ m =>
      have ev : v6 = nI m := by
        rw [hv, show (1 : Int32) = nI 1 from rfl, pk_sub (by omega)]
        rfl
      have ng : ¬ v6 < 0 := by rw [ev, t_lt, nI_toInt (by omega)]; show ¬ _ < (0 : Int); omega
      have nx : nI m + (-1 : Int32) = nI m - 1 := by rw [I_nat, I_n1, I_s1]
      have cm := cnt_le m.testBit 6
      have cb := cnt_le b.testBit 6
      have b1 := wv_b (t := T) (m := m) W
      have b2 := wv_b (t := T) (m := 15) W
      obtain ⟨k1, r1, o1⟩ := wk_m (T := T) (m := m) W hT (by omega) M
      have M1 : M0 k1 250 R := fun j hj => by rw [o1 250 (by omega)]; exact M j hj
      rw [if_neg ng, if_neg ng, ev, wk_n W (by omega) e, bd_e, m_bits (m := m) (by omega), bd_e, m_bits (m := b) (by omega), bd_e]
      dsimp only [jp_e]
      by_cases q : nI (cnt b.testBit 6) < nI (cnt m.testBit 6)
      · rw [if_pos q, lk_e, nx]
        obtain ⟨b', k2, x1, x2, x3, x4⟩ := ih m b (nI m - 1) k (by omega) (by omega) hb rfl M
        refine ⟨b', k2, x1, ?_, x3, x4⟩
        by_cases z : nI (wv R T m) = nI (wv R T 15)
        · rw [if_pos z, c_bits (m := m) (by omega), bd_e, c_bits (m := b) (by omega), bd_e, if_pos q]
          exact x2
        · rw [if_neg z]
          exact x2
      · rw [if_neg q, r1, bd_e]
        by_cases z : nI (wv R T m) = nI (wv R T 15)
        · rw [if_pos z, if_pos z, c_bits (m := m) (by omega), bd_e, c_bits (m := b) (by omega), bd_e, if_neg q, lk_e, lk_e, nx]
          obtain ⟨b', k2, x1, x2, x3, x4⟩ := ih m m (nI m - 1) k1 (by omega) (by omega) (by omega) rfl M1
          exact ⟨b', k2, x1, x2, x3, o1.tr x4⟩
        · rw [if_neg z, if_neg z, lk_e, lk_e, nx]
          obtain ⟨b', k2, x1, x2, x3, x4⟩ := ih m b (nI m - 1) k1 (by omega) (by omega) hb rfl M1
          exact ⟨b', k2, x1, x2, x3, o1.tr x4⟩
theorem st_waking : St_waking RR := by
  intro h k a1 a2 H
  have hz := H.mz
  rcases H.tld with ⟨c, -, -, -, -, -, -, m, -⟩ | ⟨R, c, m, T⟩
  · exact ⟨-1000002, h, Mz k, by simp only [fX6_waking, c, if_true], by simp only [fX7_waking, lk_e, Mz_e, m, bd_e, i00, if_true], hz⟩
  rcases nem ((1 : Int) ≤ a1.toInt ∧ a1.toInt ≤ 30) with q | q
  · exact ⟨-1000001, h, Mz k, by simp only [fX6_waking, c, i10, if_false, w6_f 1 30 q, bd_e, if_true], by simp only [fX7_waking, lk_e, Mz_e, m, bd_e, i10, if_false, L_wf 1 30 q, if_true], hz⟩
  rcases nem ((0 : Int) ≤ a2.toInt ∧ a2.toInt ≤ 1) with u | u
  · exact ⟨-1000001, h, Mz k, by simp only [fX6_waking, c, i10, if_false, w6_t 1 30 q, w6_f 0 1 u, bd_e, if_true], by simp only [fX7_waking, lk_e, Mz_e, m, bd_e, i10, if_false, L_wd 1 30 q, L_wf 0 1 u, if_true], hz⟩
  obtain ⟨t, ht, rfl⟩ := rg (a := a1) (n := 30) (by omega) ⟨by omega, q.2⟩
  have h6 := T.n
  obtain ⟨hA, a1', a2', a3'⟩ := c_then T.W T.C
  have HA := T.C.S a3'.S
  have eF := fill_e (a := 226) (v := 0) (h := hA) (by decide)
  have HB : Rep (fillU hA 226 0 (lenC 226) 0) 0 R := HA.cg (fun i j _ q => by rw [fillU_at, if_neg (by omega)])
  have HC : Rep (fillU hA 226 0 (lenC 226) 0) 14 (hrN R 0) := a2'.cg (fun i j _ q => by rw [fillU_at, if_neg (by omega)])
  have oB : offS hA (fillU hA 226 0 (lenC 226) 0) := fun i p1 p2 => by funext j; rw [fillU_at, if_neg (by omega)]
  have e0 : ∀ d, d < 4 → fillU hA 226 0 (lenC 226) 0 226 d = nI (bs (wkS R 0 d) (nS R)) := fun d hd => by
    rw [fillU_at, show lenC 226 = 16 from rfl, if_pos (by omega), show bs (wkS R 0 d) (nS R) = 0 from bs_zero.mpr (fun i hi => rfl)]
    rfl
  obtain ⟨hD, x1, x2, x3⟩ := wk_L (T := t) (K := fun hh56 => bd (fX2_withNumber 0 hh56) fun x64 hh65 => bd (fX3_numberedBy (15 : Int32) x64 hh65) fun x74 hh75 => fX3_leastAwake_L90 4096 x64 x74 (15 : Int32) (14 : Int32) hh75) T.W (by omega) ht 4096 0 _ (by omega) (by omega) HB HC e0
  rw [nI_0] at x1
  have HD := HB.S x3
  obtain ⟨k1, r1, o1⟩ := wk_m (T := t) (m := 15) T.W ht (by omega) T.M
  obtain ⟨b, k2, hb, y1, y2, o2⟩ := wk_b (T := t) (v2 := a2) (K := fun x101 kk102 => if a2 = 0 then some (x101, kk102) else bd (fX7_bits x101 kk102) fun x112 kk113 => some (x112, kk113)) T.W ht x2 4096 15 15 14 k1 (by omega) (by omega) (by omega) rfl (fun j hj => by rw [o1 250 (by omega)]; exact T.M j hj)
  have wn := wk_n (T := t) (m := 15) T.W (by omega) x2
  have eC : fX6_waking (nI t) a2 h = if a2 = 0 then some (nI b, hD) else some (nI (cnt b.testBit 6), hD) := by
    unfold fX6_waking fX3_leastAwake
    rw [c, if_neg (by decide), w6_t 1 30 q, bd_e, if_neg (by decide), w6_t 0 1 u, bd_e, if_neg (by decide), a1', bd_e, eF, bd_e, x1, c_num T.W e0E HD, bd_e, show (15 : Int32) = nI 15 from rfl, wn, bd_e, y1, bd_e, c_bits (by omega), bd_e]
  have eM : fX7_waking (nI t) a2 k = if a2 = 0 then some (nI b, k2) else some (nI (cnt b.testBit 6), k2) := by
    unfold fX7_waking
    rw [lk_e, Mz_e, m, bd_e, if_neg (by decide), L_wd 1 30 q, bd_e, if_neg (by decide), L_wd 0 1 u, bd_e, if_neg (by decide), show (15 : Int32) = nI 15 from rfl, r1, bd_e, y2, m_bits (by omega), bd_e]
  rw [eC, eM]
  have fin := hz.cg ((a3'.S.tr oB).tr x3).sm (o1.tr o2).sm
  by_cases z : a2 = 0
  · exact ⟨_, _, _, by rw [if_pos z], by rw [if_pos z], fin⟩
  · exact ⟨_, _, _, by rw [if_neg z], by rw [if_neg z], fin⟩
