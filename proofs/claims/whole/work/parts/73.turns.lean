/-! ===== by turns ===== -/
def wix (R : Rw) : Nat := 8 + (R 6 % R 1).toNat
def tw (R : Rw) : Rw := va_up R (wix R) (4 - wnd R)
section TRN
variable {B : Int} {R : Rw}
theorem WF_tw (W : WF B R) : WF B (tw R) := by
  have w := wnd_lt W
  exact W.wd (w := (R 6 % R 1).toNat) (by omega) (by omega) (by omega)
theorem tw_tw (W : WF B R) : tw (tw R) = R := by
  have w := wnd_lt W
  have w1 := W.2.1
  have wl : wix R < 14 ∧ 8 ≤ wix R := by unfold wix; omega
  have e1 : wix (tw R) = wix R := by
    have a : tw R 6 = R 6 := upR_ne (by omega)
    have b : tw R 1 = R 1 := upR_ne (by omega)
    show 8 + (tw R 6 % tw R 1).toNat = _
    rw [a, b]; rfl
  have e2 : wnd (tw R) = 4 - wnd R := by
    have : wnd (tw R) = tw R (wix (tw R)) := rfl
    rw [this, e1]
    exact upR_at
  funext j
  show va_up (tw R) (wix (tw R)) (4 - wnd (tw R)) j = R j
  rw [e1, e2]
  by_cases e : j = wix R
  · subst e
    rw [upR_at]
    show 4 - (4 - wnd R) = wnd R
    omega
  · rw [upR_ne e]
    exact upR_ne e
theorem m_turn {k : Hp} {a : Nat} (W : WF B R) (hB : B ≤ 5000) (ha : is50 a) (M : M0 k a R) : ∃ k1, fX7_turnWind a k = some ((), k1) ∧ M0 k1 a (tw R) ∧ offA k k1 a := by
  have w := wnd_lt W
  have w1 := W.2.1
  have w6 := W.2.2.2.2.2.2.1
  have wl : wix R < 14 ∧ 8 ≤ wix R := by unfold wix; omega
  have r6 : k a (6 : Int32).toNatClampNeg = I (R 6) := M 6 (by omega)
  have r1 : k a (1 : Int32).toNatClampNeg = I (R 1) := M 1 (by omega)
  have ix : (8 : Int32) + irm (I (R 6)) (I (R 1)) = nI (wix R) := by
    rw [irm_I (by omega) (by omega) (by omega) (by omega), I_n (by omega), e8]; rfl
  refine ⟨up2 k a (wix R) (I (4 - wnd R)), ?_, M.up, fun i hi => up2_ne hi⟩
  unfold fX7_turnWind
  rw [lb6 ha, chk_t, lb1 ha, chk_t, r1, nz_I (by omega) (by omega), chk_t, m_wnd W hB ha M, bd_e, r6, ix, ib50 ha (by omega), chk_t, cl_n (by omega), show (4 : Int32) = I 4 from rfl, I_sub, lk_e]
end TRN
def trn (R : Rw) : Nat → Rw
  | 0 => R
  | n + 1 => tw (trn R n)
theorem WF_trn {B : Int} {R : Rw} (W : WF B R) : ∀ n, WF B (trn R n)
  | 0 => W
  | n + 1 => WF_tw (WF_trn W n)
theorem trn_L {R : Rw} {c : Nat} {v2 v3 v4 v5 v6 : Int32} {K : Hp → Option (Int32 × Hp)} (W : WF 999 R) (hc : c ≤ 2) (e : v2 + v4 = nI c) : ∀ (n j : Nat) (k : Hp), j ≤ c → c < n + j → M0 k 252 (trn R j) → ∃ k1, fX7_afterTurns_L40 K n v2 v3 v4 v5 v6 (nI j) k = K k1 ∧ M0 k1 252 (trn R c) ∧ offA k k1 252 := by
  intro n
  induction n with
  | zero => intro j k h1 h2; omega
  | succ n ih =>
    intro j k h1 h2 M
    rw [fX7_afterTurns_L40, e]
    by_cases z : j = c
    · subst z
      rw [if_pos (by rw [t_le]; exact Int.le_refl _)]
      exact ⟨k, rfl, M, offA.rf⟩
    · obtain ⟨k1, a1, a2, a3⟩ := m_turn (WF_trn W j) (by omega) a252 M
      rw [if_neg (by rw [t_le, nI_toInt (by omega), nI_toInt (by omega)]; omega), a1, bd_e, lk_e, nI_1]
      obtain ⟨k2, b1, b2, b3⟩ := ih (j + 1) k1 (by omega) (by omega) a2
      exact ⟨k2, b1, b2, a3.tr b3⟩
def tv (R : Rw) (t f : Nat) (x : Int) : Int := ov (hrN (trn R f) t) x
def aV (R : Rw) (t : Nat) (m1 : Int) (c1 : Nat) (m2 : Int) (c2 : Nat) : Int := if (0 ≤ R 4 + m1 ∧ R 4 + m1 < R 2) ∧ (0 ≤ R 4 + m1 + m2 ∧ R 4 + m1 + m2 < R 2) then tv R t (c1 + c2) (R 4 + m1 + m2) else -1000000
theorem cellI {R : Rw} {k : Hp} (W : WF 999 R) (M : M0 k 250 R) {x : Int} (h1 : -100 ≤ x) (h2 : x ≤ 100) : fX7_isCell (I x) k = some (b32 (decide (0 ≤ x ∧ x < R 2)), k) := by
  have w2 := W.2.2.1
  have e := M 2 (by omega)
  rw [I_n (by omega)] at e
  rw [m_cell (n := (R 2).toNat) (by omega) e]
  unfold inR
  rw [I_toInt (by omega) (by omega)]
  congr 2
  exact congrArg b32 (decide_eq_decide.mpr (by omega))
theorem aft {R : Rw} {k : Hp} {t c1 c2 : Nat} {m1 m2 : Int} (W : WF 999 R) (ht : t ≤ 20) (M : M0 k 250 R) (hm1 : -1 ≤ m1 ∧ m1 ≤ 1) (hm2 : -1 ≤ m2 ∧ m2 ≤ 1) (hc1 : c1 ≤ 1) (hc2 : c2 ≤ 1) : ∃ k1, fX7_afterTurns (I m1) (nI c1) (I m2) (nI c2) (nI t) k = some (I (aV R t m1 c1 m2 c2), k1) ∧ offA k k1 252 := by
  have w2 := W.2.2.1
  have w4 := W.2.2.2.2.1
  have r4 : k 250 (4 : Int32).toNatClampNeg = I (R 4) := M 4 (by omega)
  unfold fX7_afterTurns aV
  rw [show inb (4 : Int32) (lenM 250) = true from rfl, chk_t, r4, I_add, lk_e, cellI W M (by omega) (by omega), bd_e, if_b]
  by_cases q1 : 0 ≤ R 4 + m1 ∧ R 4 + m1 < R 2
  · rw [if_pos (decide_eq_true q1), I_add, cellI W M (by omega) (by omega), bd_e, if_b]
    by_cases q2 : 0 ≤ R 4 + m1 + m2 ∧ R 4 + m1 + m2 < R 2
    · rw [if_pos (decide_eq_true q2), if_pos ⟨q1, q2⟩]
      obtain ⟨k1, a1, a2, a3⟩ := m_then M
      rw [a1, bd_e]
      obtain ⟨k2, b1, b2, b3⟩ := trn_L (v2 := nI c1) (v3 := I m2) (v4 := nI c2) (v5 := nI t) (v6 := I (R 4 + m1)) (K := fun kk53 => bd (fX7_hoursOf 252 (nI t) kk53) fun _ kk62 => bd (fX7_overOf 252 (I (R 4 + m1) + I m2) kk62) fun x69 kk70 => some (x69, kk70)) W (show c1 + c2 ≤ 2 by omega) (nI_add c1 c2) 4096 0 k1 (by omega) (by omega) a2
      rw [nI_0, I_add] at b1
      rw [b1]
      obtain ⟨k3, d1, d2, d3⟩ := m_hrs (t := t) (WF_trn W (c1 + c2)) a252 (by omega) (by omega) b2
      have mo := m_ov (WF_hrN (WF_trn W (c1 + c2)) t) a252 d2 (c := (R 4 + m1 + m2).toNat) (by
        have : trn R (c1 + c2) 2 = R 2 := by
          rcases (show c1 + c2 = 0 ∨ c1 + c2 = 1 ∨ c1 + c2 = 2 by omega) with z | z | z
          · rw [z]; rfl
          · rw [z]; exact upR_ne (by unfold wix; omega)
          · rw [z]; show tw (tw R) 2 = _; rw [tw_tw W]
        rw [R2_hrN, this]; omega)
      rw [← I_n (by omega), show (((R 4 + m1 + m2).toNat : Nat) : Int) = R 4 + m1 + m2 by omega] at mo
      rw [d1, bd_e, mo, bd_e]
      exact ⟨k3, rfl, (a3.tr b3).tr d3⟩
    · rw [if_neg (by simpa using q2), if_neg (fun z => q2 z.2)]
      exact ⟨k, rfl, offA.rf⟩
  · rw [if_neg (by simpa using q1), if_neg (fun z => q1 z.1)]
    exact ⟨k, rfl, offA.rf⟩
