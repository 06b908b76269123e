/-! ===== hours ahead, on a copy ===== -/
def hrN (R : Rw) : Nat → Rw
  | 0 => R
  | n + 1 => hr (hrN R n)
theorem WF_hrN {B : Int} {R : Rw} (W : WF B R) : ∀ n : Nat, WF (B + n) (hrN R n)
  | 0 => by rw [show B + ((0 : Nat) : Int) = B by omega]; exact W
  | n + 1 => by rw [show B + ((n + 1 : Nat) : Int) = B + n + 1 by omega]; exact WF_hr (WF_hrN W n)
theorem hrN_0 {R : Rw} {j : Nat} (h : j < 14) (h6 : j ≠ 6) (h7 : j ≠ 7) : ∀ n, hrN R n j = R j
  | 0 => rfl
  | n + 1 => (hr_0 h h6 h7).trans (hrN_0 h h6 h7 n)
theorem nS_hrN {R : Rw} {n : Nat} : nS (hrN R n) = nS R := by unfold nS; rw [hrN_0 (by omega) (by omega) (by omega)]
theorem R2_hrN {R : Rw} {n : Nat} : hrN R n 2 = R 2 := hrN_0 (by omega) (by omega) (by omega) n
theorem off7.sm {h h1 : Hp} (o : off7 h h1 14) : SmC h h1 := fun i j q => by
  rw [o i (fun z => by
    have : sigC i j = false := by
      unfold sigC
      have a : ¬ i < 7 := by omega
      have b : ¬ 21 ≤ i := by omega
      have c : ¬ 230 ≤ i := by omega
      have d1 : ¬ i = 205 := by omega
      have d2 : ¬ i = 206 := by omega
      have d3 : ¬ i = 207 := by omega
      have d4 : ¬ i = 228 := by omega
      have d5 : ¬ i = 229 := by omega
      simp [a, b, c, d1, d2, d3, d4, d5]
    rw [this] at q
    cases q)]
theorem offA.sm {k k1 : Hp} (o : offA k k1 252) : SmM k k1 := fun i j q => by
  rw [o i (fun z => by subst z; cases q)]
theorem c_then {B : Int} {h : Hp} {R : Rw} (W : WF B R) (H : Rep h 0 R) : ∃ h1, fX2_become 14 0 h = some ((), h1) ∧ Rep h1 14 R ∧ off7 h h1 14 := c_bec e14E e0E (by omega) W H
theorem m_then {k : Hp} {R : Rw} (H : M0 k 250 R) : ∃ k1, fX7_layThen k = some ((), k1) ∧ M0 k1 252 R ∧ offA k k1 252 := by
  refine ⟨_, m_lay, fun j hj => ?_, fun i hi => cp5_o hi⟩
  have := cp5_r (k := k) (d := 252) (o := 0) (a := 250) (b := 0) hj
  rw [Nat.zero_add] at this
  rw [this]
  exact H j hj
theorem c_behL {B : Int} {Q : Rw} {t : Nat} (W : WF B Q) (hB : B + t ≤ 5000) : ∀ (n j : Nat) (h : Hp), j ≤ t → t < n + j → t < 2147483648 → Rep h 14 (hrN Q j) → ∃ h1, fX3_behind_L10 n (nI t) (nI j) h = some (14, h1) ∧ Rep h1 14 (hrN Q t) ∧ off7 h h1 14 := by
  intro n
  induction n with
  | zero => intro j h h1 h2; omega
  | succ n ih =>
    intro j h h1 h2 h3 H
    rw [fX3_behind_L10]
    by_cases e : j = t
    · subst e
      rw [if_pos (by rw [t_le]; exact Int.le_refl _)]
      exact ⟨h, rfl, H, off7.rf⟩
    · rw [if_neg (by rw [t_le, nI_toInt (by omega), nI_toInt (by omega)]; omega)]
      obtain ⟨h1', f1, f2, f3⟩ := c_hour (WF_hrN W j) (by omega) e14E H
      rw [f1, bd_e, lk_e, nI_1]
      obtain ⟨h2', g1, g2, g3⟩ := ih (j + 1) h1' (by omega) (by omega) h3 f2
      exact ⟨h2', g1, g2, f3.tr g3⟩
theorem c_beh {B : Int} {R : Rw} {h : Hp} {t : Nat} (W : WF B R) (hB : B + t ≤ 5000) (ht : t ≤ 4000) (H : Rep h 0 R) : ∃ h1, fX3_behind 0 (nI t) h = some (14, h1) ∧ Rep h1 14 (hrN R t) ∧ off7 h h1 14 := by
  obtain ⟨h1, a1, a2, a3⟩ := c_then W H
  obtain ⟨h2, b1, b2, b3⟩ := c_behL W hB 4096 0 h1 (by omega) (by omega) (by omega) a2
  rw [nI_0] at b1
  refine ⟨h2, ?_, b2, a3.tr b3⟩
  unfold fX3_behind
  rw [a1, bd_e]
  exact b1
theorem m_hrsL {B : Int} {Q : Rw} {t a : Nat} (W : WF B Q) (ha : is50 a) (hB : B + t ≤ 5000) : ∀ (n j : Nat) (k : Hp), j ≤ t → t < n + j → t < 2147483648 → M0 k a (hrN Q j) → ∃ k1, fX7_hoursOf_L2 n a (nI t) (nI j) k = some ((), k1) ∧ M0 k1 a (hrN Q t) ∧ offA k k1 a := by
  intro n
  induction n with
  | zero => intro j h h1 h2; omega
  | succ n ih =>
    intro j k h1 h2 h3 H
    rw [fX7_hoursOf_L2]
    by_cases e : j = t
    · subst e
      rw [if_pos (by rw [t_le]; exact Int.le_refl _)]
      exact ⟨k, rfl, H, offA.rf⟩
    · rw [if_neg (by rw [t_le, nI_toInt (by omega), nI_toInt (by omega)]; omega)]
      obtain ⟨k1, f1, f2, f3⟩ := m_hour (WF_hrN W j) (by omega) ha H
      rw [f1, bd_e, lk_e, nI_1]
      obtain ⟨k2, g1, g2, g3⟩ := ih (j + 1) k1 (by omega) (by omega) h3 f2
      exact ⟨k2, g1, g2, f3.tr g3⟩
theorem m_hrs {B : Int} {Q : Rw} {k : Hp} {t a : Nat} (W : WF B Q) (ha : is50 a) (hB : B + t ≤ 5000) (ht : t ≤ 4000) (H : M0 k a Q) : ∃ k1, fX7_hoursOf a (nI t) k = some ((), k1) ∧ M0 k1 a (hrN Q t) ∧ offA k k1 a := by
  obtain ⟨k2, b1, b2, b3⟩ := m_hrsL W ha hB 4096 0 k (by omega) (by omega) (by omega) H
  rw [nI_0] at b1
  exact ⟨k2, b1, b2, b3⟩
theorem RR.qy {h k h1 k1 : Hp} (H : RR h k) (c : off7 h h1 14) (m : offA k k1 252) : RR h1 k1 := H.cg c.sm m.sm
theorem i14 : isEb 14 = true := rfl
theorem far_t {t : Nat} {h : Hp} (ht : t ≤ 60) : fX6_isFar (nI t) h = some (1, h) := by
  unfold fX6_isFar
  rw [w6_t 0 60 (by rw [nI_toInt (by omega)]; exact ⟨by show (0 : Int) ≤ _; omega, by show _ ≤ (60 : Int); omega⟩), bd_e]
  rfl
theorem far_f {a : Int32} {h : Hp} (c : ¬ ((0 : Int) ≤ a.toInt ∧ a.toInt ≤ 60)) : fX6_isFar a h = some (0, h) := by
  unfold fX6_isFar
  rw [w6_f 0 60 c, bd_e]
  rfl
theorem st_ahead : St_ahead RR := by
  intro h k a1 a2 a3 H
  have hz := H.mz
  rcases H.sheet a1 with ⟨p1, p2⟩ | ⟨R, s, hs, rfl, T, p1, p2⟩
  · exact ⟨-1000001, h, Mz k, by simp only [fX6_ahead, p1, bd_e, if_true], by simp only [fX7_ahead, lk_e, Mz_e, p2, bd_e, if_true], hz⟩
  rcases nem ((0 : Int) ≤ a2.toInt ∧ a2.toInt ≤ 60) with q | q
  · exact ⟨-1000001, h, Mz k, by simp only [fX6_ahead, p1, bd_e, i10, if_false, far_f q, if_true], by simp only [fX7_ahead, lk_e, Mz_e, p2, bd_e, i10, if_false, L_wf 0 60 q, if_true], hz⟩
  obtain ⟨t, ht, rfl⟩ := rg (a := a2) (n := 60) (by omega) ⟨by omega, q.2⟩
  rcases nem ((0 : Int) ≤ a3.toInt ∧ a3.toInt ≤ 2) with u | u
  · exact ⟨-1000001, h, Mz k, by simp only [fX6_ahead, p1, bd_e, i10, if_false, far_t ht, w6_f 0 2 u, if_true], by simp only [fX7_ahead, lk_e, Mz_e, p2, bd_e, i10, if_false, L_wd 0 60 q, L_wf 0 2 u, if_true], hz⟩
  obtain ⟨h1, b1, b2, b3⟩ := c_beh (t := t) T.W (by omega) (by omega) T.C
  obtain ⟨k1, l1, l2, l3⟩ := m_then T.M
  obtain ⟨k2, m1, m2, m3⟩ := m_hrs (t := t) T.W a252 (by omega) (by omega) l2
  have W2 := WF_hrN T.W t
  have h6 := T.n
  have hs2 : s < nS (hrN R t) := by rw [nS_hrN]; exact hs
  have RR2 := hz.qy b3 (l3.tr m3)
  have eC : fX6_ahead (nI s) (nI t) a3 h = if a3 = 0 then bd (fX2_placeOf 14 (nI s) h1) fun x61 hh62 => some (x61, hh62) else if a3 = (1 : Int32) then bd (fX2_thicknessOf 14 (nI s) h1) fun x52 hh53 => some (x52, hh53) else chk (inb (nI s) (lenC (14 + 6))) (some (h1 (14 + 6) (nI s).toNatClampNeg, h1)) := by
    unfold fX6_ahead
    rw [p1, bd_e, if_neg (by decide), far_t ht, bd_e, if_neg (by decide), w6_t 0 2 u, bd_e, if_neg (by decide), b1, bd_e, i14, chk_t]
  have eM : fX7_ahead (nI s) (nI t) a3 k = bd (fX7_told 252 (nI s) a3 k2) fun x55 kk56 => some (x55, kk56) := by
    unfold fX7_ahead
    rw [lk_e, Mz_e, p2, bd_e, if_neg (by decide), L_wd 0 60 q, bd_e, if_neg (by decide), L_wd 0 2 u, bd_e, if_neg (by decide), l1, bd_e, m1, bd_e]
  rw [eC, eM]
  obtain ⟨v, hv, rfl⟩ := rg (a := a3) (n := 2) (by omega) ⟨by omega, u.2⟩
  rcases (show v = 0 ∨ v = 1 ∨ v = 2 by omega) with rfl | rfl | rfl
  · exact ⟨plV (hrN R t) s, h1, k2, by rw [if_pos (show nI 0 = (0 : Int32) from rfl), c_place W2 e14E b2 hs2, bd_e], by rw [show nI 0 = (0 : Int32) from rfl, m_told0 W2 a252 m2 hs2, bd_e], RR2⟩
  · exact ⟨I (thV (hrN R t) s), h1, k2, by rw [if_neg (by decide), if_pos (show nI 1 = (1 : Int32) from rfl), c_thick W2 e14E b2 hs2, bd_e], by rw [show nI 1 = (1 : Int32) from rfl, m_told1 W2 a252 m2 hs2, bd_e], RR2⟩
  · refine ⟨I (hrN R t (18 + 6 * s)), h1, k2, ?_, by rw [show nI 2 = (2 : Int32) from rfl, m_told2 W2 a252 m2 hs2, bd_e], RR2⟩
    rw [if_neg (by decide), if_neg (by decide), len_E6 e14E, inb_n (by omega) (by omega), chk_t, cl_n (by omega), (b2.2.2.2.2.2.2.2.2.2.2.2 s hs2).2.2.2.2]
theorem st_over : St_over RR := by
  intro h k a1 a2 H
  have hz := H.mz
  rcases H.cell a1 with ⟨p1, p2⟩ | ⟨R, c, hc, rfl, T, p1, p2⟩
  · exact ⟨-1000001, h, Mz k, by simp only [fX6_over, p1, bd_e, if_true], by simp only [fX7_over, lk_e, Mz_e, p2, bd_e, if_true], hz⟩
  rcases nem ((0 : Int) ≤ a2.toInt ∧ a2.toInt ≤ 60) with q | q
  · exact ⟨-1000001, h, Mz k, by simp only [fX6_over, p1, bd_e, i10, if_false, far_f q, if_true], by simp only [fX7_over, lk_e, Mz_e, p2, bd_e, i10, if_false, L_wf 0 60 q, if_true], hz⟩
  obtain ⟨t, ht, rfl⟩ := rg (a := a2) (n := 60) (by omega) ⟨by omega, q.2⟩
  obtain ⟨h1, b1, b2, b3⟩ := c_beh (t := t) T.W (by omega) (by omega) T.C
  obtain ⟨k1, l1, l2, l3⟩ := m_then T.M
  obtain ⟨k2, m1, m2, m3⟩ := m_hrs (t := t) T.W a252 (by omega) (by omega) l2
  have W2 := WF_hrN T.W t
  have w2 := T.W.2.2.1
  have cv := c_ov (c := (c : Int)) W2 e14E b2 (by omega) (by omega)
  rw [← I_nat] at cv
  refine ⟨I (ov (hrN R t) c), h1, k2, ?_, ?_, hz.qy b3 (l3.tr m3)⟩
  · unfold fX6_over
    rw [p1, bd_e, if_neg (by decide), far_t ht, bd_e, if_neg (by decide), b1, bd_e, i14, chk_t, cv, bd_e]
  · unfold fX7_over
    rw [lk_e, Mz_e, p2, bd_e, if_neg (by decide), L_wd 0 60 q, bd_e, if_neg (by decide), l1, bd_e, m1, bd_e, m_ov W2 a252 m2 (by rw [R2_hrN]; exact hc), bd_e]
theorem gone_L {B : Int} {Q : Rw} {s : Nat} (W : WF B Q) (hB : B + 61 ≤ 5000) (hs : s < nS Q) : ∀ (n j : Nat) (h k : Hp), j ≤ 61 → 61 < n + j → Rep h 14 (hrN Q j) → M0 k 252 (hrN Q j) → ∃ r h1 k1, fX3_firstGone_L10 n (nI s) (nI j) h = some (r, h1) ∧ fX7_when_L32 n (nI s) 0 (nI j) k = some (r, k1) ∧ off7 h h1 14 ∧ offA k k1 252 := by
  intro n
  induction n with
  | zero => intro j h k h1 h2; omega
  | succ n ih =>
    intro j h k h1 h2 H M
    have hs2 : s < nS (hrN Q j) := by rw [nS_hrN]; exact hs
    rw [fX3_firstGone_L10, fX7_when_L32]
    by_cases e : j = 61
    · subst e
      rw [if_pos (by rw [t_lt]; decide), if_pos (by rw [t_lt]; decide)]
      exact ⟨_, h, k, rfl, rfl, off7.rf, offA.rf⟩
    · have n60 : ¬ (60 : Int32) < nI j := by rw [t_lt, nI_toInt (by omega)]; show ¬ (60 : Int) < _; omega
      rw [if_neg n60, if_neg n60, jp_e, if_pos rfl, c_isIn (WF_hrN W j) H hs2, m_isIn (WF_hrN W j) a252 M hs2, bd_e, bd_e, if_b, if_b]
      by_cases q : decide (hrN Q j (19 + 6 * s) = 1) = true
      · rw [if_pos q, if_pos q]
        dsimp only
        obtain ⟨h1', f1, f2, f3⟩ := c_hour (WF_hrN W j) (by omega) e14E H
        obtain ⟨k1', g1, g2, g3⟩ := m_hour (WF_hrN W j) (by omega) a252 M
        rw [f1, bd_e, lk_e, g1, bd_e, lk_e, nI_1]
        obtain ⟨r, h2', k2', x1, x2, x3, x4⟩ := ih (j + 1) h1' k1' (by omega) (by omega) f2 g2
        exact ⟨r, h2', k2', x1, x2, f3.tr x3, g3.tr x4⟩
      · rw [if_neg q, if_neg q]
        exact ⟨_, h, k, rfl, rfl, off7.rf, offA.rf⟩
theorem num_L {B : Int} {Q : Rw} {s : Nat} (W : WF B Q) (hB : B + 61 ≤ 5000) (hs : s < nS Q) : ∀ (n j : Nat) (h k : Hp), j ≤ 61 → 61 < n + j → Rep h 14 (hrN Q j) → M0 k 252 (hrN Q j) → ∃ r h1 k1, fX3_firstNumbered_L10 n (nI s) (nI j) h = some (r, h1) ∧ fX7_when_L32 n (nI s) 1 (nI j) k = some (r, k1) ∧ off7 h h1 14 ∧ offA k k1 252 := by
  intro n
  induction n with
  | zero => intro j h k h1 h2; omega
  | succ n ih =>
    intro j h k h1 h2 H M
    have hs2 : s < nS (hrN Q j) := by rw [nS_hrN]; exact hs
    have h6 := nS_le W
    have r := (H.2.2.2.2.2.2.2.2.2.2.2 s hs2).2.2.2.2
    have k5 := (sh (WF_hrN W j) hs2).2.2.2.2.1
    rw [fX3_firstNumbered_L10, fX7_when_L32]
    by_cases e : j = 61
    · subst e
      rw [if_pos (by rw [t_lt]; decide), if_pos (by rw [t_lt]; decide)]
      exact ⟨_, h, k, rfl, rfl, off7.rf, offA.rf⟩
    · have n60 : ¬ (60 : Int32) < nI j := by rw [t_lt, nI_toInt (by omega)]; show ¬ (60 : Int) < _; omega
      rw [if_neg n60, if_neg n60, jp_e, if_neg (show ¬ (1 : Int32) = 0 by decide), show lenC 20 = 6 from len_E6 e14E, inb_n (by omega) (by omega), chk_t, cl_n (by omega), show h 20 s = _ from r, m_f4 (WF_hrN W j) a252 M hs2, bd_e]
      by_cases q : hrN Q j (18 + 6 * s) = 0
      · rw [if_pos (show I (hrN Q j (18 + 6 * s)) = 0 by rw [q]; rfl), if_pos (show I (hrN Q j (18 + 6 * s)) ≤ 0 by rw [q]; decide)]
        dsimp only
        obtain ⟨h1', f1, f2, f3⟩ := c_hour (WF_hrN W j) (by omega) e14E H
        obtain ⟨k1', g1, g2, g3⟩ := m_hour (WF_hrN W j) (by omega) a252 M
        rw [f1, bd_e, lk_e, g1, bd_e, lk_e, nI_1]
        obtain ⟨r, h2', k2', x1, x2, x3, x4⟩ := ih (j + 1) h1' k1' (by omega) (by omega) f2 g2
        exact ⟨r, h2', k2', x1, x2, f3.tr x3, g3.tr x4⟩
      · rw [if_neg (fun z => q (by rw [I_0, I_eq (by omega) (by omega) (by omega) (by omega)] at z; exact z)), if_neg (by rw [t_le, I_toInt (by omega) (by omega)]; show ¬ _ ≤ (0 : Int); omega)]
        exact ⟨_, h, k, rfl, rfl, off7.rf, offA.rf⟩
theorem st_when : St_when RR := by
  intro h k a1 a2 H
  have hz := H.mz
  rcases H.sheet a1 with ⟨p1, p2⟩ | ⟨R, s, hs, rfl, T, p1, p2⟩
  · exact ⟨-1000001, h, Mz k, by simp only [fX6_when, p1, bd_e, if_true], by simp only [fX7_when, lk_e, Mz_e, p2, bd_e, if_true], hz⟩
  rcases nem ((0 : Int) ≤ a2.toInt ∧ a2.toInt ≤ 1) with q | q
  · exact ⟨-1000001, h, Mz k, by simp only [fX6_when, p1, bd_e, i10, if_false, w6_f 0 1 q, if_true], by simp only [fX7_when, lk_e, Mz_e, p2, bd_e, i10, if_false, L_wf 0 1 q, if_true], hz⟩
  obtain ⟨h1, b1, b2, b3⟩ := c_then T.W T.C
  obtain ⟨k1, l1, l2, l3⟩ := m_then T.M
  have eM : fX7_when (nI s) a2 k = fX7_when_L32 4096 (nI s) a2 (0 : Int32) k1 := by
    unfold fX7_when
    rw [lk_e, Mz_e, p2, bd_e, if_neg (by decide), L_wd 0 1 q, bd_e, if_neg (by decide), l1, bd_e]
  have eC : fX6_when (nI s) a2 h = if a2 = 0 then bd (fX3_firstGone_L10 4096 (nI s) (0 : Int32) h1) fun x33 hh34 => some (x33, hh34) else bd (fX3_firstNumbered_L10 4096 (nI s) (0 : Int32) h1) fun x24 hh25 => some (x24, hh25) := by
    unfold fX6_when fX3_firstGone fX3_firstNumbered
    rw [p1, bd_e, if_neg (by decide), w6_t 0 1 q, bd_e, if_neg (by decide), b1, bd_e, bd_e]
  rw [eM, eC]
  obtain ⟨v, hv, rfl⟩ := rg (a := a2) (n := 1) (by omega) ⟨by omega, q.2⟩
  rcases (show v = 0 ∨ v = 1 by omega) with rfl | rfl
  · obtain ⟨r, h2, k2, x1, x2, x3, x4⟩ := gone_L T.W (by omega) hs 4096 0 h1 k1 (by omega) (by omega) b2 l2
    rw [nI_0] at x1 x2
    exact ⟨r, h2, k2, by rw [if_pos (show nI 0 = (0 : Int32) from rfl), x1, bd_e], x2, hz.qy (b3.tr x3) (l3.tr x4)⟩
  · obtain ⟨r, h2, k2, x1, x2, x3, x4⟩ := num_L T.W (by omega) hs 4096 0 h1 k1 (by omega) (by omega) b2 l2
    rw [nI_0] at x1 x2
    exact ⟨r, h2, k2, by rw [if_neg (by decide), x1, bd_e], x2, hz.qy (b3.tr x3) (l3.tr x4)⟩
