section DR2
variable {B : Int} {R : Rw} {x : Nat}
theorem m_drA {k : Hp} (W : WF B R) (H : M0 k 252 R) (hq : x % 3 = 0) : M0 (up2 k 252 (8 + x % (R 1).toNat) (nI (x % 5))) 252 (drA R x) := by
  have r := H.up (j := 8 + x % (R 1).toNat) (v := ((x % 5 : Nat) : Int))
  rw [← I_nat] at r
  unfold drA
  rw [if_pos hq]
  exact r
/-- what the reference does behind the wind's turn -/
def drM (t : Int32) (a3 : Int32) (K : Int32 → Hp → Option (Int32 × Hp)) (n : Nat) (v6 v7 : Int32) (x68 : Int64) (kk73 : Hp) : Option (Int32 × Hp) :=
  chk (inb (0 : Int32) (lenM 252)) <|
  chk (nzL ((kk73 252 (0 : Int32).toNatClampNeg).toInt64)) <|
  lk ((lrm x68 ((kk73 252 (0 : Int32).toNatClampNeg).toInt64)).toInt32) fun x85 =>
  bd (fX7_isIn 252 x85 kk73) fun x89 kk90 =>
  jp (fun  kk98 =>
      bd (fX7_hourOf 252 kk98) fun _ kk107 =>
      chk (inb (3 : Int32) (lenM 252)) <|
      bd (fX7_overOf 252 (kk107 252 (3 : Int32).toNatClampNeg) kk107) fun x116 kk117 =>
      lk (v6 + x116) fun x124 =>
      lk (v7 + (1 : Int32)) fun x128 =>
      fX7_drawn_L66 K n t a3 x68 x124 x128 kk117) fun J175_97 =>
  if x89 = 0 then
    chk (inb (2 : Int32) (lenM 252)) <|
    chk (nzL ((kk90 252 (2 : Int32).toNatClampNeg).toInt64)) <|
    bd (fX7_letIn 252 x85 ((lrm x68 ((kk90 252 (2 : Int32).toNatClampNeg).toInt64)).toInt32) (((lrm x68 (9 : Int64)).toInt32) + (1 : Int32)) kk90) fun _ kk141 =>
    J175_97 kk141
  else
    J175_97 kk90
theorem drM_e {k : Hp} {t a3 v6 v7 : Int32} {K : Int32 → Hp → Option (Int32 × Hp)} {n z : Nat} (W : WF B R) (M : M0 k 252 R) (hz : z < 2147483647) (ht : ¬ t ≤ v7) (hx : x = z * 16807 % 2147483647) : ∃ k1, fX7_drawn_L66 K (n + 1) t a3 (LL z) v6 v7 k = drM t a3 K n v6 v7 (LL x) k1 ∧ M0 k1 252 (drA R x) ∧ offA k k1 252 := by
  have w1 := W.2.1
  have m1 := Nat.mod_lt x (show 0 < (R 1).toNat by omega)
  have xl : x < 2147483647 := by rw [hx]; exact Nat.mod_lt _ (by omega)
  have r1 : k 252 (1 : Int32).toNatClampNeg = nI (R 1).toNat := by
    have := M 1 (by omega)
    rw [I_n (by omega)] at this
    exact this
  have e0 : lrm (LL z * (16807 : Int64)) (2147483647 : Int64) = LL x := by
    rw [show (16807 : Int64) = LL 16807 from rfl, show (2147483647 : Int64) = LL 2147483647 from rfl, LL_mul (by omega) (by omega) (by omega), lrm_L (by omega) (by omega) (by omega), hx]
  have e3 : lrm (LL x) (3 : Int64) = LL (x % 3) := lrm_L (b := 3) (by omega) (by omega) (by omega)
  have e5 : (lrm (LL x) (5 : Int64)).toInt32 = nI (x % 5) := by
    rw [show (5 : Int64) = LL 5 from rfl, lrm_L (by omega) (by omega) (by omega), LL_32 (by omega)]
  have ew : (lrm (LL x) (LL (R 1).toNat)).toInt32 = nI (x % (R 1).toNat) := by
    rw [lrm_L (by omega) (by omega) (by omega), LL_32 (by omega)]
  rw [fX7_drawn_L66, if_neg ht, e0, lk_e, jp_e, e3]
  by_cases q : x % 3 = 0
  · rw [if_pos (lg_0.mpr ((LL_z (by omega)).mpr q)), lb1 a252, chk_t, r1, LL_w (by omega), nzL_n (by omega) (by omega), chk_t, ew, e8, ib50 a252 (by omega), chk_t, lk_e, e5, cl_n (by omega)]
    exact ⟨_, rfl, m_drA W M q, fun i hi => up2_ne hi⟩
  · rw [if_neg (fun w => q ((LL_z (by omega)).mp (lg_0.mp w)))]
    refine ⟨k, rfl, ?_, offA.rf⟩
    unfold drA
    rw [if_neg q]
    exact M
theorem drM_2 {k : Hp} {t a3 v6 v7 : Int32} {K : Int32 → Hp → Option (Int32 × Hp)} {n : Nat} (W : WF B R) (M : M0 k 252 (drA R x)) (xl : x < 2147483647) : ∃ k1, drM t a3 K n v6 v7 (LL x) k = (bd (fX7_hourOf 252 k1) fun _ kk107 => chk (inb (3 : Int32) (lenM 252)) <| bd (fX7_overOf 252 (kk107 252 (3 : Int32).toNatClampNeg) kk107) fun x116 kk117 => lk (v6 + x116) fun x124 => lk (v7 + (1 : Int32)) fun x128 => fX7_drawn_L66 K n t a3 (LL x) x124 x128 kk117) ∧ M0 k1 252 (drw R x) ∧ offA k k1 252 := by
  have w2 := W.2.2.1
  have h6 := nS_le W
  have m2 := Nat.mod_lt x (show 0 < nS R by omega)
  have m3 := Nat.mod_lt x (show 0 < (R 2).toNat by omega)
  have WA := WF_drA (x := x) W
  have nA := nS_drA (x := x) W
  have s0 : k 252 (0 : Int32).toNatClampNeg = nI (nS R) := by rw [M_n WA M, nA]
  have s2 : k 252 (2 : Int32).toNatClampNeg = nI (R 2).toNat := by
    have := M 2 (by omega)
    rw [drA_0 (by omega) W, I_n (by omega)] at this
    exact this
  have es : (lrm (LL x) (LL (nS R))).toInt32 = nI (x % nS R) := by
    rw [lrm_L (by omega) (by omega) (by omega), LL_32 (by omega)]
  have ec : (lrm (LL x) (LL (R 2).toNat)).toInt32 = nI (x % (R 2).toNat) := by
    rw [lrm_L (by omega) (by omega) (by omega), LL_32 (by omega)]
  have e9 : (lrm (LL x) (9 : Int64)).toInt32 + 1 = nI (x % 9 + 1) := by
    rw [show (9 : Int64) = LL 9 from rfl, lrm_L (by omega) (by omega) (by omega), LL_32 (by omega), nI_1]
  unfold drM
  rw [lb0 a252, chk_t, s0, LL_w (by omega), nzL_n (by omega) (by omega), chk_t, es, lk_e, m_isIn WA a252 M (by rw [nA]; exact m2), bd_e, jp_e, if_b]
  unfold drw
  by_cases q : inB (drA R x) (x % nS R) = true
  · rw [if_pos (show decide (drA R x (19 + 6 * (x % nS R)) = 1) = true from q), if_pos q]
    exact ⟨k, rfl, M, offA.rf⟩
  · rw [if_neg (show ¬ decide (drA R x (19 + 6 * (x % nS R)) = 1) = true from q), if_neg q, lb2 a252, chk_t, s2, LL_w (by omega), nzL_n (by omega) (by omega), chk_t, ec, e9, I_nat (x % (R 2).toNat), I_nat (x % 9 + 1)]
    obtain ⟨k2, f1, f2, f3⟩ := m_let (c := ((x % (R 2).toNat : Nat) : Int)) (t := ((x % 9 + 1 : Nat) : Int)) WA a252 M (show x % nS R < nS (drA R x) by rw [nA]; exact m2)
    rw [f1, bd_e]
    exact ⟨k2, rfl, f2, f3⟩
end DR2
theorem drawn_L {t : Nat} {a3 : Int32} (ht : t ≤ 60) : ∀ (n j z : Nat) (v : Int32) (Q : Rw) (B : Int) (h k : Hp), j ≤ t → t < n + j → z < 2147483647 → WF B Q → B + (t - j : Nat) ≤ 4000 → Rep h 14 Q → M0 k 252 Q → ∃ r h1 k1, fX3_drawYears_L18 (fun x56 hh57 => if a3 = 0 then some (hh57 14 15, hh57) else some (x56, hh57)) n (nI t) a3 (LL z) v (nI j) h = some (r, h1) ∧ fX7_drawn_L66 (fun x164 kk165 => if a3 = 0 then bd (fX7_numbered 252 kk165) fun x176 kk177 => bd (fX7_bits x176 kk177) fun x184 kk185 => some (x184, kk185) else some (x164, kk165)) n (nI t) a3 (LL z) v (nI j) k = some (r, k1) ∧ off7 h h1 14 ∧ offA k k1 252 := by
  intro n
  induction n with
  | zero => intro j z v Q B h k h1 h2; omega
  | succ n ih =>
    intro j z v Q B h k h1 h2 hz W hB H M
    by_cases e : j = t
    · subst e
      have lej : nI j ≤ nI j := by rw [t_le]; exact Int.le_refl _
      rw [fX3_drawYears_L18, fX7_drawn_L66, if_pos lej, if_pos lej]
      by_cases q : a3 = 0
      · refine ⟨I (Q 7), h, k, ?_, ?_, off7.rf, offA.rf⟩
        · rw [if_pos q, H.2.2.2.2.2.2.2.2.2.1]
        · rw [if_pos q, m_num W a252 M, bd_e, m_cnt W, bd_e]
      · exact ⟨v, h, k, by rw [if_neg q], by rw [if_neg q], off7.rf, offA.rf⟩
    · have nt : ¬ nI t ≤ nI j := by rw [t_le, nI_toInt (by omega), nI_toInt (by omega)]; omega
      have e0 : lrm (LL z * (16807 : Int64)) (2147483647 : Int64) = LL (z * 16807 % 2147483647) := by
        rw [show (16807 : Int64) = LL 16807 from rfl, show (2147483647 : Int64) = LL 2147483647 from rfl, LL_mul (by omega) (by omega) (by omega), lrm_L (by omega) (by omega) (by omega)]
      have xl : z * 16807 % 2147483647 < 2147483647 := Nat.mod_lt _ (by omega)
      obtain ⟨k1, m1, m2, m3⟩ := drM_e (a3 := a3) (v6 := v) (K := fun x164 kk165 => if a3 = 0 then bd (fX7_numbered 252 kk165) fun x176 kk177 => bd (fX7_bits x176 kk177) fun x184 kk185 => some (x184, kk185) else some (x164, kk165)) (n := n) W M hz nt rfl
      generalize z * 16807 % 2147483647 = x at e0 xl m1 m2
      obtain ⟨k2, m4, m5, m6⟩ := drM_2 (t := nI t) (a3 := a3) (v6 := v) (v7 := nI j) (K := fun x164 kk165 => if a3 = 0 then bd (fX7_numbered 252 kk165) fun x176 kk177 => bd (fX7_bits x176 kk177) fun x184 kk185 => some (x184, kk185) else some (x164, kk165)) (n := n) W m2 xl
      obtain ⟨hA, c1, c2, c3⟩ := c_draw (x := x) W (by omega) H
      have WD := WF_drw (x := x) W
      obtain ⟨hB', d1, d2, d3⟩ := c_hour WD (by omega) e14E c2
      obtain ⟨k3, n1, n2, n3⟩ := m_hour WD (by omega) a252 m5
      have WH := WF_hr WD
      have w3 := WH.2.2.2.1
      have w2 := WH.2.2.1
      have r3 : k3 252 (3 : Int32).toNatClampNeg = nI (hr (drw Q x) 3).toNat := by
        have := n2 3 (by omega)
        rw [I_n (by omega)] at this
        exact this
      have ez : (((hr (drw Q x) 3).toNat : Nat) : Int) = hr (drw Q x) 3 := by omega
      have co := c_ov WH e14E d2 (c := hr (drw Q x) 3) (by omega) (by omega)
      have mo := m_ov WH a252 n2 (c := (hr (drw Q x) 3).toNat) (by omega)
      rw [ez] at mo
      obtain ⟨r, h2', k2', x1, x2, x3, x4⟩ := ih (j + 1) x (v + I (ov (hr (drw Q x)) (hr (drw Q x) 3))) (hr (drw Q x)) (B + 1) hB' k3 (by omega) (by omega) xl WH (by omega) d2 n2
      refine ⟨r, h2', k2', ?_, ?_, (c3.tr d3).tr x3, ((m3.tr m6).tr n3).tr x4⟩
      · rw [fX3_drawYears_L18, if_neg nt, e0, lk_e, LL_32 (by omega), c1, bd_e, d1, bd_e, d2.2.2.1, co, bd_e, lk_e, lk_e, nI_1]
        exact x1
      · rw [m1, m4, n1, bd_e, lb3 a252, chk_t, r3, mo, bd_e, lk_e, lk_e, nI_1]
        exact x2
theorem st_drawn : St_drawn RR := by
  intro h k a1 a2 a3 H
  have hz := H.mz
  rcases H.tld with ⟨c, -, -, -, -, -, -, m, -⟩ | ⟨R, c, m, T⟩
  · exact ⟨-1000002, h, Mz k, by simp only [fX6_drawn, c, if_true], by simp only [fX7_drawn, lk_e, Mz_e, m, bd_e, i00, if_true], hz⟩
  rcases nem ((0 : Int) ≤ a1.toInt ∧ a1.toInt ≤ 60) with q | q
  · exact ⟨-1000001, h, Mz k, by simp only [fX6_drawn, c, i10, if_false, far_f q, bd_e, if_true], by simp only [fX7_drawn, lk_e, Mz_e, m, bd_e, i10, if_false, L_wf 0 60 q, if_true], hz⟩
  obtain ⟨t, ht, rfl⟩ := rg (a := a1) (n := 60) (by omega) ⟨by omega, q.2⟩
  rcases nem ((1 : Int) ≤ a2.toInt ∧ a2.toInt ≤ 999999) with u | u
  · exact ⟨-1000001, h, Mz k, by simp only [fX6_drawn, c, i10, if_false, far_t ht, w6_f 1 999999 u, bd_e, if_true], by simp only [fX7_drawn, lk_e, Mz_e, m, bd_e, i10, if_false, L_wd 0 60 q, L_wf 1 999999 u, if_true], hz⟩
  obtain ⟨z, hz2, rfl⟩ := rg (a := a2) (n := 999999) (by omega) ⟨by omega, u.2⟩
  rcases nem ((0 : Int) ≤ a3.toInt ∧ a3.toInt ≤ 1) with w | w
  · exact ⟨-1000001, h, Mz k, by simp only [fX6_drawn, c, i10, if_false, far_t ht, w6_t 1 999999 u, w6_f 0 1 w, bd_e, if_true], by simp only [fX7_drawn, lk_e, Mz_e, m, bd_e, i10, if_false, L_wd 0 60 q, L_wd 1 999999 u, L_wf 0 1 w, if_true], hz⟩
  obtain ⟨h1, b1, b2, b3⟩ := c_then T.W T.C
  obtain ⟨k1, l1, l2, l3⟩ := m_then T.M
  obtain ⟨r, h2, k2, x1, x2, x3, x4⟩ := drawn_L (a3 := a3) ht 4096 0 z 0 R 999 h1 k1 (by omega) (by omega) (by omega) T.W (by omega) b2 l2
  rw [nI_0] at x1 x2
  refine ⟨r, h2, k2, ?_, ?_, hz.qy (b3.tr x3) (l3.tr x4)⟩
  · unfold fX6_drawn fX3_drawYears
    rw [c, if_neg (by decide), far_t ht, bd_e, if_neg (by decide), w6_t 1 999999 u, bd_e, if_neg (by decide), w6_t 0 1 w, bd_e, if_neg (by decide), b1, bd_e, lk_e, LL_w (by omega)]
    rw [x1, bd_e]
  · unfold fX7_drawn
    rw [lk_e, Mz_e, m, bd_e, if_neg (by decide), L_wd 0 60 q, bd_e, if_neg (by decide), L_wd 1 999999 u, bd_e, if_neg (by decide), L_wd 0 1 w, bd_e, if_neg (by decide), l1, bd_e, lk_e, LL_w (by omega)]
    exact x2
