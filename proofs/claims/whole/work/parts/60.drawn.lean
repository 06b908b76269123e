/-! ===== long numbers ===== -/
def LL (n : Nat) : Int64 := Int64.ofInt (n : Int)
theorem LL_toInt {n : Nat} (h : n < 9223372036854775808) : (LL n).toInt = (n : Int) := Int64.toInt_ofInt_of_le (by show (-9223372036854775808 : Int) ≤ _; omega) (by show _ < (9223372036854775808 : Int); omega)
theorem bm64 {x : Int} (h1 : -9223372036854775808 ≤ x) (h2 : x < 9223372036854775808) : x.bmod (2 ^ 64) = x := Int.bmod_eq_of_le (by omega) (by omega)
theorem LL_mul {a b : Nat} (h : a * b < 9223372036854775808) (ha : a < 9223372036854775808) (hb : b < 9223372036854775808) : LL a * LL b = LL (a * b) := by
  apply Int64.toInt_inj.mp
  rw [Int64.toInt_mul, LL_toInt ha, LL_toInt hb, LL_toInt h, bm64 (by have : (0 : Int) ≤ (a : Int) * b := Int.mul_nonneg (by omega) (by omega); omega) (by rw [← Int.natCast_mul]; omega), Int.natCast_mul]
theorem LL_add {a b : Nat} (h : a + b < 9223372036854775808) : LL a + LL b = LL (a + b) := by
  apply Int64.toInt_inj.mp
  rw [Int64.toInt_add, LL_toInt (by omega), LL_toInt (by omega), LL_toInt h, bm64 (by omega) (by omega)]
  omega
theorem LL_div {a b : Nat} (ha : a < 9223372036854775808) (hb : b < 9223372036854775808) (h0 : 0 < b) : LL a / LL b = LL (a / b) := by
  have q : a / b ≤ a := Nat.div_le_self a b
  have z : (0 : Int) ≤ ((a / b : Nat) : Int) := Int.natCast_nonneg _
  apply Int64.toInt_inj.mp
  rw [Int64.toInt_div, LL_toInt ha, LL_toInt hb, LL_toInt (by omega), Int.tdiv_eq_ediv_of_nonneg (by omega), ← Int.natCast_ediv, bm64 (by omega) (by omega)]
theorem LL_sub {a b : Nat} (ha : a < 9223372036854775808) (h : b ≤ a) : LL a - LL b = LL (a - b) := by
  apply Int64.toInt_inj.mp
  rw [Int64.toInt_sub, LL_toInt ha, LL_toInt (by omega), LL_toInt (by omega), bm64 (by omega) (by omega)]
  omega
theorem lrm_L {a b : Nat} (ha : a < 9223372036854775808) (hb : b < 9223372036854775808) (h0 : 0 < b) : lrm (LL a) (LL b) = LL (a % b) := by
  have q : a / b * b ≤ a := Nat.div_mul_le_self a b
  have q2 : a / b ≤ a := Nat.div_le_self a b
  have e : a % b = a - a / b * b := by
    have := Nat.div_add_mod a b
    rw [Nat.mul_comm] at this
    omega
  unfold lrm
  rw [LL_div ha hb h0, LL_mul (by omega) (by omega) hb, LL_sub ha q, e]
theorem LL_w {n : Nat} (h : n < 2147483648) : (nI n).toInt64 = LL n := by
  apply Int64.toInt_inj.mp
  rw [L_w, LL_toInt (by omega), nI_toInt h]
theorem LL_32 {n : Nat} (h : n < 2147483648) : (LL n).toInt32 = nI n := by
  apply Int32.toInt_inj.mp
  rw [Int64.toInt_toInt32, LL_toInt (by omega), nI_toInt h]
  exact Int.bmod_eq_of_le (by omega) (by omega)
theorem LL_eq {a b : Nat} (ha : a < 9223372036854775808) (hb : b < 9223372036854775808) : LL a = LL b ↔ a = b := by
  rw [← Int64.toInt_inj, LL_toInt ha, LL_toInt hb]
  omega
theorem LL_z {a : Nat} (ha : a < 9223372036854775808) : LL a = 0 ↔ a = 0 := LL_eq (b := 0) ha (by omega)
theorem lg_0 {x y : Int64} : lg_cmp x y = 0 ↔ x = y := by
  unfold lg_cmp
  by_cases h1 : x > y
  · rw [if_pos h1]
    constructor
    · intro q; exact absurd q (by decide)
    · intro q; subst q; exact absurd (Int64.lt_iff_toInt_lt.mp h1) (by omega)
  · rw [if_neg h1]
    by_cases h2 : x = y
    · rw [if_pos h2]; exact ⟨fun _ => h2, fun _ => rfl⟩
    · rw [if_neg h2]
      constructor
      · intro q; exact absurd q (by decide)
      · intro q; exact absurd q h2
theorem nzL_n {n : Nat} (h1 : 0 < n) (h : n < 9223372036854775808) : nzL (LL n) = true := by
  have : ¬ LL n = 0 := fun q => by rw [LL_z h] at q; omega
  unfold nzL
  simp [this]
theorem nz_n {n : Nat} (h1 : 0 < n) (h : n < 2147483648) : nz (nI n) = true := by
  have : ¬ nI n = 0 := fun q => by rw [nI_z h] at q; omega
  unfold nz
  simp [this]
theorem irm_n {a d : Nat} (ha : a < 2147483648) (h0 : 0 < d) (hd : d < 2147483648) : irm (nI a) (nI d) = nI (a % d) := by
  unfold irm
  exact pk_rem ha h0 hd
/-! ===== drawn ===== -/
def drA (R : Rw) (x : Nat) : Rw := if x % 3 = 0 then va_up R (8 + x % (R 1).toNat) ((x % 5 : Nat) : Int) else R
def drw (R : Rw) (x : Nat) : Rw := if inB (drA R x) (x % nS R) = true then drA R x else adm (drA R x) (x % nS R) ((x % (R 2).toNat : Nat) : Int) ((x % 9 + 1 : Nat) : Int)
section DRW
variable {B : Int} {R : Rw} {x : Nat}
theorem drA_0 {j : Nat} (h : j < 8 ∨ 14 ≤ j) (W : WF B R) : drA R x j = R j := by
  have w1 := W.2.1
  have := Nat.mod_lt x (show 0 < (R 1).toNat by omega)
  unfold drA
  split
  · rw [upR_ne (by omega)]
  · rfl
theorem WF_drA (W : WF B R) : WF B (drA R x) := by
  have w1 := W.2.1
  have := Nat.mod_lt x (show 0 < (R 1).toNat by omega)
  have := Nat.mod_lt x (show 0 < 5 by omega)
  unfold drA
  split
  · exact W.wd (by omega) (by omega) (by omega)
  · exact W
theorem nS_drA (W : WF B R) : nS (drA R x) = nS R := by unfold nS; rw [drA_0 (by omega) W]
theorem WF_drw (W : WF B R) : WF B (drw R x) := by
  have w2 := W.2.2.1
  have := Nat.mod_lt x (show 0 < (R 2).toNat by omega)
  have := Nat.mod_lt x (show 0 < 9 by omega)
  unfold drw
  split
  · exact WF_drA W
  · exact WF_adm (WF_drA W) (by omega) (by rw [drA_0 (by omega) W]; omega) (by omega) (by omega)
theorem c_drA {h : Hp} (W : WF B R) (hx : x < 2147483648) (H : Rep h 14 R) (hq : x % 3 = 0) : Rep (up2 h 15 (x % (R 1).toNat) (nI (x % 5))) 14 (drA R x) := by
  have w1 := W.2.1
  have := Nat.mod_lt x (show 0 < (R 1).toNat by omega)
  have r := H.wd (w := x % (R 1).toNat) (v := ((x % 5 : Nat) : Int)) W (by omega)
  rw [← I_nat] at r
  unfold drA
  rw [if_pos hq]
  exact r
theorem c_draw {h : Hp} (W : WF B R) (hx : x < 2147483648) (H : Rep h 14 R) : ∃ h1, fX3_drawOne (nI x) h = some ((), h1) ∧ Rep h1 14 (drw R x) ∧ off7 h h1 14 := by
  have w1 := W.2.1
  have w2 := W.2.2.1
  have h6 := nS_le W
  have m1 := Nat.mod_lt x (show 0 < (R 1).toNat by omega)
  have m2 := Nat.mod_lt x (show 0 < nS R by omega)
  have m3 := Nat.mod_lt x (show 0 < (R 2).toNat by omega)
  have r11 : h 14 11 = nI (R 1).toNat := by rw [H.2.2.2.2.2.1, I_n (by omega)]
  have r12 : h 14 12 = nI (nS R) := R_n W H
  have r7 : h 14 7 = nI (R 2).toNat := R_c W H
  obtain ⟨h1, e1, H1, o1⟩ : ∃ h1, (if irm (nI x) 3 = 0 then chk (nz (h 14 11)) <| chk (inb (irm (nI x) (h 14 11)) (lenC 15)) <| lk (up2 h 15 (irm (nI x) (h 14 11)).toNatClampNeg (irm (nI x) 5)) fun hh55 => some hh55 else some h) = some h1 ∧ Rep h1 14 (drA R x) ∧ off7 h h1 14 := by
    rw [r11, show (3 : Int32) = nI 3 from rfl, show (5 : Int32) = nI 5 from rfl, irm_n hx (by omega) (by omega), irm_n hx (by omega) (by omega), irm_n hx (by omega) (by omega)]
    by_cases q : x % 3 = 0
    · rw [if_pos (by rw [q]; rfl), nz_n (by omega) (by omega), chk_t, show lenC 15 = 6 from len_E1 e14E, inb_n (by omega) (by omega), chk_t, lk_e, cl_n (by omega)]
      exact ⟨_, rfl, c_drA W hx H q, fun i hi => up2_ne (by omega)⟩
    · rw [if_neg (fun z => q (by rw [nI_z (by omega)] at z; exact z))]
      refine ⟨h, rfl, ?_, off7.rf⟩
      unfold drA
      rw [if_neg q]
      exact H
  have J : ∀ J9 : Hp → Option (Unit × Hp), (if irm (nI x) 3 = 0 then chk (nz (h 14 11)) <| chk (inb (irm (nI x) (h 14 11)) (lenC 15)) <| lk (up2 h 15 (irm (nI x) (h 14 11)).toNatClampNeg (irm (nI x) 5)) fun hh55 => J9 hh55 else J9 h) = J9 h1 := fun J9 => by
    by_cases q : irm (nI x) 3 = 0
    · rw [if_pos q] at e1 ⊢
      by_cases c1 : nz (h 14 11) = true
      · rw [c1, chk_t] at e1 ⊢
        by_cases c2 : inb (irm (nI x) (h 14 11)) (lenC 15) = true
        · rw [c2, chk_t, lk_e] at e1 ⊢
          rw [Option.some.inj e1]
        · rw [show inb (irm (nI x) (h 14 11)) (lenC 15) = false by simpa using c2] at e1
          cases e1
      · rw [show nz (h 14 11) = false by simpa using c1] at e1
        cases e1
    · rw [if_neg q] at e1 ⊢
      rw [Option.some.inj e1]
  have WA := WF_drA (x := x) W
  have nA := nS_drA (x := x) W
  have s12 : h1 14 12 = nI (nS R) := by rw [R_n WA H1, nA]
  have s7 : h1 14 7 = nI (R 2).toNat := by rw [R_c WA H1, drA_0 (by omega) W]
  have e2 : fX3_drawOne (nI x) h = (bd (fX2_isIn 14 (nI (x % nS R)) h1) fun x24 hh25 => if x24 = 0 then chk (nz (hh25 14 7)) <| bd (fX2_admit 14 (nI (x % nS R)) (irm (nI x) (hh25 14 7)) ((irm (nI x) (9 : Int32)) + (1 : Int32)) hh25) fun _ hh38 => some ((), hh38) else some ((), hh25)) := by
    unfold fX3_drawOne
    rw [if_neg (show ¬ h 14 11 ≤ 0 by rw [r11, t_le, nI_toInt (by omega)]; show ¬ _ ≤ (0 : Int); omega), if_neg (show ¬ h 14 12 ≤ 0 by rw [r12, t_le, nI_toInt (by omega)]; show ¬ _ ≤ (0 : Int); omega), if_pos (show 0 < h 14 7 by rw [r7, t_lt, nI_toInt (by omega)]; show (0 : Int) < _; omega), jp_e, J, s12, nz_n (by omega) (by omega), chk_t, lk_e, irm_n hx (by omega) (by omega)]
  rw [e2, c_isIn WA H1 (by rw [nA]; exact m2), bd_e, if_b]
  unfold drw
  by_cases q : inB (drA R x) (x % nS R) = true
  · rw [if_pos (show decide (drA R x (19 + 6 * (x % nS R)) = 1) = true from q), if_pos q]
    exact ⟨h1, rfl, H1, o1⟩
  · rw [if_neg (show ¬ decide (drA R x (19 + 6 * (x % nS R)) = 1) = true from q), if_neg q, s7, nz_n (by omega) (by omega), chk_t, irm_n hx (by omega) (by omega), show (9 : Int32) = nI 9 from rfl, irm_n hx (by omega) (by omega), nI_1, I_nat (x % (R 2).toNat), I_nat (x % 9 + 1)]
    obtain ⟨h2, f1, f2, f3⟩ := c_admit (c := ((x % (R 2).toNat : Nat) : Int)) (t := ((x % 9 + 1 : Nat) : Int)) WA e14E H1 (show x % nS R < nS (drA R x) by rw [nA]; exact m2)
    rw [f1, bd_e]
    exact ⟨h2, rfl, f2, o1.tr f3⟩
end DRW
