/-! ===== the reference's estuary ===== -/
def M0 (k : Hp) (a : Nat) (R : Rw) : Prop := ∀ j, j < 50 → k a j = I (R j)
theorem MR_0 {k : Hp} {a : Nat} {R : Rw} : MR k a 0 R ↔ M0 k a R := by
  unfold MR M0
  simp only [Nat.zero_add]
theorem M0.up {k : Hp} {a j : Nat} {R : Rw} {v : Int} (H : M0 k a R) : M0 (up2 k a j (I v)) a (va_up R j v) := by
  intro q hq
  rw [up2_at]
  by_cases e : q = j
  · subst e
    rw [if_pos ⟨rfl, rfl⟩, upR_at]
  · rw [if_neg (fun h => e h.2), upR_ne e]
    exact H q hq
def offA (k k1 : Hp) (a : Nat) : Prop := ∀ i, i ≠ a → k1 i = k i
theorem offA.rf {k : Hp} {a : Nat} : offA k k a := fun _ _ => rfl
theorem offA.tr {k k1 k2 : Hp} {a : Nat} (x : offA k k1 a) (y : offA k1 k2 a) : offA k k2 a := fun i hi => (y i hi).trans (x i hi)
theorem offA.up {k k1 : Hp} {a j : Nat} {v : Int32} (x : offA k k1 a) : offA k (up2 k1 a j v) a := fun i hi => by rw [up2_ne hi]; exact x i hi
/-- an estuary's row of the reference -/
def is50 (a : Nat) : Prop := lenM a = 50
theorem ib50 {a j : Nat} (ha : is50 a) (hj : j < 50) : inb (nI j) (lenM a) = true := by rw [ha]; exact inb_n hj (by omega)
theorem ix_e {s f : Nat} : (14 : Int32) + (6 : Int32) * nI s + nI f = nI (14 + 6 * s + f) := by
  rw [show (14 : Int32) = nI 14 from rfl, show (6 : Int32) = nI 6 from rfl, pk_mul, nI_add, nI_add]
theorem m_of {a s : Nat} {R : Rw} {k : Hp} (f : Nat) (ha : is50 a) (H : M0 k a R) (hs : 14 + 6 * s + f < 50) : fX7_of a (nI s) (nI f) k = some (I (R (14 + 6 * s + f)), k) := by
  unfold fX7_of
  rw [ix_e, ib50 ha hs, chk_t, cl_n (by omega), H _ hs]
theorem m_be {a s : Nat} {k : Hp} {v : Int32} (f : Nat) (ha : is50 a) (hs : 14 + 6 * s + f < 50) : fX7_be a (nI s) (nI f) v k = some ((), up2 k a (14 + 6 * s + f) v) := by
  unfold fX7_be
  rw [ix_e, ib50 ha hs, chk_t, cl_n (by omega), lk_e]
theorem m_isIn {B : Int} {a s : Nat} {R : Rw} {k : Hp} (W : WF B R) (ha : is50 a) (H : M0 k a R) (hs : s < nS R) : fX7_isIn a (nI s) k = some (b32 (decide (R (19 + 6 * s) = 1)), k) := by
  have h6 := (nS_le W).2.1
  have k6 := (sh W hs).2.2.2.2.2
  unfold fX7_isIn
  have e := m_of 5 ha H (show 14 + 6 * s + 5 < 50 by omega)
  rw [show 14 + 6 * s + 5 = 19 + 6 * s by omega] at e
  rw [show (5 : Int32) = nI 5 from rfl, e, bd_e]
  rcases k6 with q | q <;> rw [q] <;> rfl
theorem m_at {k : Hp} {a : Nat} {R : Rw} (H : M0 k a R) (j : Nat) (hj : j < 50) : k a (nI j).toNatClampNeg = I (R j) := by rw [cl_n (by omega)]; exact H j hj
theorem m_wnd {B : Int} {a : Nat} {R : Rw} {k : Hp} (W : WF B R) (hB : B ≤ 5000) (ha : is50 a) (H : M0 k a R) : fX7_windOf a k = some (I (wnd R), k) := by
  have w1 := W.2.1
  have w6 := W.2.2.2.2.2.2.1
  obtain ⟨x, y, z, u⟩ := wnd_lt W
  have n0 : ¬ I (R 1) = 0 := by rw [I_0, I_eq (by omega) (by omega) (by omega) (by omega)]; omega
  have e8 : (8 : Int32) + I (R 6 % R 1) = nI (8 + (R 6 % R 1).toNat) := by
    rw [I_n x, show (8 : Int32) = nI 8 from rfl, nI_add]
  unfold fX7_windOf
  rw [show (6 : Int32) = nI 6 from rfl, show (1 : Int32) = nI 1 from rfl, ib50 ha (by omega), chk_t, ib50 ha (by omega), chk_t, m_at H 6 (by omega), m_at H 1 (by omega), show nz (I (R 1)) = true by simp [nz, n0], chk_t, irm_I (by omega) (by omega) (by omega) (by omega), e8, ib50 ha (by omega), chk_t, m_at H _ (by omega)]
  rfl
def cel (x w : Int) (c : Nat) : Bool := decide (x ≤ (c : Int)) && decide ((c : Int) < x + w)
theorem m_celL {B x w : Int} {a : Nat} {R : Rw} {k : Hp} (W : WF B R) (ha : is50 a) (H : M0 k a R) (hx1 : -100 ≤ x) (hx2 : x ≤ 100) (hw1 : 0 ≤ w) (hw2 : w ≤ 100) : ∀ (n c : Nat), c ≤ (R 2).toNat → (R 2).toNat < n + c → fX7_cellsOf_L5 n a (I x) (I w) (nI (bs (cel x w) c)) (nI c) k = some (nI (bs (cel x w) (R 2).toNat), k) := by
  have w2 := W.2.2.1
  intro n
  induction n with
  | zero => intro c h1 h2; omega
  | succ n ih =>
    intro c h1 h2
    rw [fX7_cellsOf_L5, show (2 : Int32) = nI 2 from rfl, ib50 ha (by omega), chk_t, m_at H 2 (by omega), I_n (by omega)]
    by_cases e : c = (R 2).toNat
    · rw [if_pos (by rw [t_le, nI_toInt (by omega), nI_toInt (by omega)]; omega), e]
    · rw [if_neg (by rw [t_le, nI_toInt (by omega), nI_toInt (by omega)]; omega), jp_e, jp_e, I_add, shl_n (by omega)]
      dsimp only
      have c1 : (nI c < I x) = ((c : Int) < x) := by rw [I_nat, I_lt (by omega) (by omega) (by omega) (by omega)]
      have c2 : (I (x + w) ≤ nI c) = (x + w ≤ (c : Int)) := by rw [I_nat, I_le (by omega) (by omega) (by omega) (by omega)]
      have st : nI (bs (cel x w) c) ||| nI (if cel x w c = true then 2 ^ c else 0) = nI (bs (cel x w) (c + 1)) := by rw [or_n, bs_or]
      simp only [c1, c2]
      by_cases g1 : (c : Int) < x
      · have hc : ¬ cel x w c = true := by simp [cel]; omega
        rw [if_pos g1, lk_e, lk_e, nI_1]
        rw [if_neg hc, nI_0] at st
        rw [st]
        exact ih (c + 1) (by omega) (by omega)
      · rw [if_neg g1]
        by_cases g2 : x + w ≤ (c : Int)
        · have hc : ¬ cel x w c = true := by simp [cel]; omega
          rw [if_pos g2, lk_e, lk_e, nI_1]
          rw [if_neg hc, nI_0] at st
          rw [st]
          exact ih (c + 1) (by omega) (by omega)
        · have hc : cel x w c = true := by simp [cel]; omega
          rw [if_neg g2, lk_e, lk_e, nI_1]
          rw [if_pos hc] at st
          rw [st]
          exact ih (c + 1) (by omega) (by omega)
theorem m_cel {B x w : Int} {a : Nat} {R : Rw} {k : Hp} (W : WF B R) (ha : is50 a) (H : M0 k a R) (hx1 : -100 ≤ x) (hx2 : x ≤ 100) (hw1 : 0 ≤ w) (hw2 : w ≤ 100) : fX7_cellsOf a (I x) (I w) k = some (nI (bs (cel x w) (R 2).toNat), k) := by
  have w2 := W.2.2.1
  have e := m_celL (k := k) W ha H hx1 hx2 hw1 hw2 4096 0 (by omega) (by omega)
  rw [nI_0] at e
  exact e
theorem m_lie {B : Int} {a s : Nat} {R : Rw} {k : Hp} (W : WF B R) (ha : is50 a) (H : M0 k a R) (hs : s < nS R) : fX7_liesOn a (nI s) k = some (nI (bs (fun c => lie R s (c : Int)) (R 2).toNat), k) := by
  have h6 := (nS_le W).2.1
  obtain ⟨k1, k2, k3, k4, k5, k6⟩ := sh W hs
  have e1 := m_of 1 ha H (show 14 + 6 * s + 1 < 50 by omega)
  have e2 := m_of 2 ha H (show 14 + 6 * s + 2 < 50 by omega)
  rw [show 14 + 6 * s + 1 = 15 + 6 * s by omega] at e1
  rw [show 14 + 6 * s + 2 = 16 + 6 * s by omega] at e2
  unfold fX7_liesOn
  rw [m_isIn W ha H hs, bd_e, if_b, show (1 : Int32) = nI 1 from rfl, show (2 : Int32) = nI 2 from rfl, e1, bd_e, e2, bd_e, m_cel W ha H (by omega) (by omega) (by omega) (by omega), bd_e]
  by_cases q : R (19 + 6 * s) = 1
  · rw [if_pos (by simpa using q)]
    congr 3
    apply bs_congr
    intro i hi
    unfold lie cel
    simp [q]
  · rw [if_neg (by simpa using q)]
    have : bs (fun c => lie R s (c : Int)) (R 2).toNat = 0 := by
      rw [bs_congr (f1 := fun _ => false) (fun i hi => by unfold lie; simp [q])]
      generalize (R 2).toNat = m
      induction m with
      | zero => rfl
      | succ m ih => unfold bs; rw [ih]; rfl
    rw [this]
    rfl
theorem m_has {m i : Nat} {k : Hp} (hm : m < 2147483648) (hi : i < 32) : fX7_has (nI m) (nI i) k = some (b32 (m.testBit i), k) := by
  unfold fX7_has
  rw [bit_n hm hi, if_b1]
  cases m.testBit i <;> rfl
theorem bs16 (f : Nat → Bool) {n : Nat} (hn : n ≤ 16) : bs f n < 65536 := by
  have h1 := bs_lt f n
  have : 2 ^ n ≤ 2 ^ 16 := Nat.pow_le_pow_right (by omega) hn
  omega
theorem m_on {B : Int} {s c : Nat} {R : Rw} {k : Hp} (W : WF B R) (hc : (c : Int) < R 2) : fX7_has (nI (bs (fun c => lie R s (c : Int)) (R 2).toNat)) (nI c) k = some (b32 (lie R s (c : Int)), k) := by
  have w2 := W.2.2.1
  have := bs16 (fun c => lie R s (c : Int)) (n := (R 2).toNat) (by omega)
  rw [m_has (by omega) (by omega), bs_bit]
  simp [show c < (R 2).toNat by omega]
theorem bs_zero {f : Nat → Bool} : ∀ {n : Nat}, bs f n = 0 ↔ ∀ i, i < n → f i = false
  | 0 => by simp [bs]
  | n + 1 => by
    have hp : 0 < 2 ^ n := Nat.two_pow_pos n
    unfold bs
    constructor
    · intro h i hi
      have h0 : bs f n = 0 := by omega
      by_cases e : i = n
      · subst e
        cases hf : f i with
        | false => rfl
        | true => rw [hf, if_pos rfl] at h; omega
      · exact bs_zero.mp h0 i (by omega)
    · intro h
      rw [bs_zero.mpr (fun i hi => h i (by omega)), h n (by omega)]
      rfl
theorem nI_z {n : Nat} (h : n < 2147483648) : (nI n = 0) = (n = 0) := by rw [show (0 : Int32) = nI 0 from rfl, nI_eq (by omega) (by omega)]
theorem m_drift {B b : Int} {R : Rw} {k : Hp} {a s : Nat} (W : WF B R) (hB : B ≤ 5000) (ha : is50 a) (H : M0 k a R) (hs : s < nS R) (hb1 : -2 ≤ b) (hb2 : b ≤ 2) : ∃ k1, fX7_drift a (nI s) (I b) k = some ((), k1) ∧ M0 k1 a (dft R b s) ∧ offA k k1 a := by
  have h6 := (nS_le W).2.1
  obtain ⟨k1, k2, k3, k4, k5, k6⟩ := sh W hs
  have w2 := W.2.2.1
  have w6 := W.2.2.2.2.2.2.1
  have hm := mvK_b (kd := R (14 + 6 * s)) hb1 hb2
  have hd := dlK_b (kd := R (14 + 6 * s)) (b := b) (odd := R 6 % 2) (by omega) (by omega)
  have bA : -32 ≤ dAt R b s ∧ dAt R b s ≤ 32 := by unfold dAt; omega
  have bT : -32 ≤ dTh R b s ∧ dTh R b s ≤ 32 := by unfold dTh; omega
  have o0 : ∀ k, M0 k a R → fX7_of a (nI s) 0 k = some (I (R (14 + 6 * s)), k) := fun k H => m_of 0 ha H (by omega)
  have o1 : ∀ k, M0 k a R → fX7_of a (nI s) 1 k = some (I (R (15 + 6 * s)), k) := fun k H => by
    have e := m_of 1 ha H (show 14 + 6 * s + 1 < 50 by omega)
    rw [show 14 + 6 * s + 1 = 15 + 6 * s by omega] at e
    exact e
  have o2 : ∀ k, M0 k a R → fX7_of a (nI s) 2 k = some (I (R (16 + 6 * s)), k) := fun k H => by
    have e := m_of 2 ha H (show 14 + 6 * s + 2 < 50 by omega)
    rw [show 14 + 6 * s + 2 = 16 + 6 * s by omega] at e
    exact e
  have o3 : ∀ k, M0 k a R → fX7_of a (nI s) 3 k = some (I (R (17 + 6 * s)), k) := fun k H => by
    have e := m_of 3 ha H (show 14 + 6 * s + 3 < 50 by omega)
    rw [show 14 + 6 * s + 3 = 17 + 6 * s by omega] at e
    exact e
  have p5 : ∀ (k : Hp) (v : Int32), fX7_be a (nI s) 5 v k = some ((), up2 k a (19 + 6 * s) v) := fun k v => by
    have e := m_be (k := k) (v := v) 5 ha (show 14 + 6 * s + 5 < 50 by omega)
    rw [show 14 + 6 * s + 5 = 19 + 6 * s by omega] at e
    exact e
  have p1 : ∀ (k : Hp) (v : Int32), fX7_be a (nI s) 1 v k = some ((), up2 k a (15 + 6 * s) v) := fun k v => by
    have e := m_be (k := k) (v := v) 1 ha (show 14 + 6 * s + 1 < 50 by omega)
    rw [show 14 + 6 * s + 1 = 15 + 6 * s by omega] at e
    exact e
  have p3 : ∀ (k : Hp) (v : Int32), fX7_be a (nI s) 3 v k = some ((), up2 k a (17 + 6 * s) v) := fun k v => by
    have e := m_be (k := k) (v := v) 3 ha (show 14 + 6 * s + 3 < 50 by omega)
    rw [show 14 + 6 * s + 3 = 17 + 6 * s by omega] at e
    exact e
  have res : (if gon R b s = true then some ((), up2 k a (19 + 6 * s) 0) else some ((), up2 (up2 k a (15 + 6 * s) (I (dAt R b s))) a (17 + 6 * s) (I (min (dTh R b s) 9)))) = some ((), if gon R b s = true then up2 k a (19 + 6 * s) 0 else up2 (up2 k a (15 + 6 * s) (I (dAt R b s))) a (17 + 6 * s) (I (min (dTh R b s) 9))) := by split <;> rfl
  have ce := m_cel (k := k) (x := dAt R b s) (w := R (16 + 6 * s)) W ha H (by omega) (by omega) (by omega) (by omega)
  have cz : (nI (bs (cel (dAt R b s) (R (16 + 6 * s))) (R 2).toNat) = 0) = (R 2 ≤ dAt R b s ∨ dAt R b s + R (16 + 6 * s) ≤ 0) := by
    have := bs16 (cel (dAt R b s) (R (16 + 6 * s))) (n := (R 2).toNat) (by omega)
    rw [nI_z (by omega)]
    apply propext
    rw [bs_zero]
    constructor
    · intro h
      by_cases q : 0 ≤ dAt R b s
      · by_cases q2 : R 2 ≤ dAt R b s
        · exact Or.inl q2
        · have := h (dAt R b s).toNat (by omega)
          simp [cel] at this
          omega
      · have := h 0 (by omega)
        simp [cel] at this
        omega
    · intro h i hi
      simp [cel]
      omega
  have main : fX7_drift a (nI s) (I b) k = some ((), if gon R b s = true then up2 k a (19 + 6 * s) 0 else up2 (up2 k a (15 + 6 * s) (I (dAt R b s))) a (17 + 6 * s) (I (min (dTh R b s) 9))) := by
    rw [← res]
    have tail : (if I (min (dTh R b s) 9) ≤ 0 then some ((), up2 k a (19 + 6 * s) 0) else if nI (bs (cel (dAt R b s) (R (16 + 6 * s))) (R 2).toNat) = 0 then some ((), up2 k a (19 + 6 * s) 0) else some ((), up2 (up2 k a (15 + 6 * s) (I (dAt R b s))) a (17 + 6 * s) (I (min (dTh R b s) 9)))) = (if gon R b s = true then some ((), up2 k a (19 + 6 * s) 0) else some ((), up2 (up2 k a (15 + 6 * s) (I (dAt R b s))) a (17 + 6 * s) (I (min (dTh R b s) 9)))) := by
      have c1 : (I (min (dTh R b s) 9) ≤ 0) = (dTh R b s ≤ 0) := by
        rw [I_0, I_le (by omega) (by omega) (by omega) (by omega)]
        apply propext
        omega
      simp only [c1, cz]
      unfold gon
      by_cases g1 : dTh R b s ≤ 0
      · simp [g1]
      · by_cases g2 : R 2 ≤ dAt R b s ∨ dAt R b s + R (16 + 6 * s) ≤ 0
        · rw [if_neg g1, if_pos g2, if_pos (by simp; omega)]
        · rw [if_neg g1, if_neg g2, if_neg (by simp; omega)]
    rw [← tail]
    have i6 : inb (6 : Int32) (lenM a) = true := ib50 (j := 6) ha (by omega)
    have r6 : k a (6 : Int32).toNatClampNeg = I (R 6) := m_at H 6 (by omega)
    have rr : irm (I (R 6)) 2 = I (R 6 % 2) := by rw [show (2 : Int32) = I 2 from rfl]; exact irm_I (by omega) (by omega) (by omega) (by omega)
    have ho : R 6 % 2 = 0 ∨ R 6 % 2 = 1 := by omega
    have q0 := o0 k H
    have q1 := o1 k H
    have q2 := o2 k H
    have q3 := o3 k H
    have b0 : (I b = 0) = (b = 0) := by rw [I_0, I_eq (by omega) (by omega) (by omega) (by omega)]
    have t9 : ((9 : Int32) ≤ I (R (17 + 6 * s))) = (9 ≤ R (17 + 6 * s)) := by rw [show (9 : Int32) = I 9 from rfl, I_le (by omega) (by omega) (by omega) (by omega)]
    have fin : ∀ (x y : Int32), x = I (dAt R b s) → y = I (min (dTh R b s) 9) → (if y ≤ 0 then some ((), up2 k a (19 + 6 * s) 0) else bd (fX7_cellsOf a x (I (R (16 + 6 * s))) k) fun x95 kk96 => if x95 = 0 then some ((), up2 kk96 a (19 + 6 * s) 0) else some ((), up2 (up2 kk96 a (15 + 6 * s) x) a (17 + 6 * s) y)) = (if I (min (dTh R b s) 9) ≤ 0 then some ((), up2 k a (19 + 6 * s) 0) else if nI (bs (cel (dAt R b s) (R (16 + 6 * s))) (R 2).toNat) = 0 then some ((), up2 k a (19 + 6 * s) 0) else some ((), up2 (up2 k a (15 + 6 * s) (I (dAt R b s))) a (17 + 6 * s) (I (min (dTh R b s) 9)))) := by
      intro x y hx hy
      subst hx
      subst hy
      rw [ce, bd_e]
    have i21 : ((1 : Int32) = 1) = True := by decide
    have i01 : ((0 : Int32) = 1) = False := by decide
    have L1 : ∀ (x y : Int), I x - I y = I (x - y) := fun x y => I_sub x y
    have tm : ∀ y : Int, y = min (dTh R b s) 9 → I y = I (min (dTh R b s) 9) := fun y h => by rw [h]
    rcases (show R (14 + 6 * s) = 1 ∨ R (14 + 6 * s) = 2 ∨ R (14 + 6 * s) = 3 ∨ R (14 + 6 * s) = 4 ∨ R (14 + 6 * s) = 5 by omega) with hk | hk | hk | hk | hk
    · have d1 : dAt R b s = R (15 + 6 * s) + b := by unfold dAt mvK; rw [hk]; rfl
      have d2 : dTh R b s = R (17 + 6 * s) - R 6 % 2 := by unfold dTh dlK; rw [hk]; simp; omega
      have kk : (I 1 = (1 : Int32)) = True := by decide
      rcases ho with ho | ho
      · simp only [fX7_drift, i6, chk_t, r6, rr, ho, jp_e, q0, q1, q2, q3, bd_e, lk_e, p5, p1, p3, hk, show (I 0 = (1 : Int32)) = False by decide, kk, if_true, if_false, i00]
        exact fin _ _ (by rw [I_add, d1]) (by rw [I_0, I_sub]; exact tm _ (by omega))
      · simp only [fX7_drift, i6, chk_t, r6, rr, ho, jp_e, q0, q1, q2, q3, bd_e, lk_e, p5, p1, p3, hk, kk, if_true, if_false, i10]
        exact fin _ _ (by rw [I_add, d1]) (by rw [I_1, I_sub]; exact tm _ (by omega))
    · have d1 : dAt R b s = R (15 + 6 * s) + b.tdiv 2 := by unfold dAt mvK; rw [hk]; rfl
      have d2 : dTh R b s = R (17 + 6 * s) - R 6 % 2 := by unfold dTh dlK; rw [hk]; simp; omega
      have eb : I b / 2 = I (b.tdiv 2) := by
        rcases (show b = -2 ∨ b = -1 ∨ b = 0 ∨ b = 1 ∨ b = 2 by omega) with rfl | rfl | rfl | rfl | rfl <;> rfl
      rcases ho with ho | ho
      · simp only [fX7_drift, i6, chk_t, r6, rr, ho, jp_e, q0, q1, q2, q3, bd_e, lk_e, p5, p1, p3, hk, show (I 0 = (1 : Int32)) = False by decide, show (I 2 = (1 : Int32)) = False by decide, show (I 2 = (2 : Int32)) = True by decide, if_true, if_false, i00]
        exact fin _ _ (by rw [eb, I_add, d1]) (by rw [I_0, I_sub]; exact tm _ (by omega))
      · simp only [fX7_drift, i6, chk_t, r6, rr, ho, jp_e, q0, q1, q2, q3, bd_e, lk_e, p5, p1, p3, hk, show (I 1 = (1 : Int32)) = True by decide, show (I 2 = (1 : Int32)) = False by decide, show (I 2 = (2 : Int32)) = True by decide, if_true, if_false, i10]
        exact fin _ _ (by rw [eb, I_add, d1]) (by rw [I_1, I_sub]; exact tm _ (by omega))
    · have d1 : dAt R b s = R (15 + 6 * s) + b * 2 := by unfold dAt mvK; rw [hk]; rfl
      have d2 : dTh R b s = R (17 + 6 * s) - R 6 % 2 - 1 := by unfold dTh dlK; rw [hk]; simp; omega
      have eb : (2 : Int32) * I b = I (b * 2) := by rw [show (2 : Int32) = I 2 from rfl, I_mul, Int.mul_comm]
      rcases ho with ho | ho
      · simp only [fX7_drift, i6, chk_t, r6, rr, ho, jp_e, q0, q1, q2, q3, bd_e, lk_e, p5, p1, p3, hk, show (I 0 = (1 : Int32)) = False by decide, show (I 3 = (1 : Int32)) = False by decide, show (I 3 = (2 : Int32)) = False by decide, show (I 3 = (3 : Int32)) = True by decide, if_true, if_false, i00]
        exact fin _ _ (by rw [eb, I_add, d1]) (by rw [show (0 : Int32) + 1 = I 1 from rfl, I_sub]; exact tm _ (by omega))
      · simp only [fX7_drift, i6, chk_t, r6, rr, ho, jp_e, q0, q1, q2, q3, bd_e, lk_e, p5, p1, p3, hk, show (I 1 = (1 : Int32)) = True by decide, show (I 3 = (1 : Int32)) = False by decide, show (I 3 = (2 : Int32)) = False by decide, show (I 3 = (3 : Int32)) = True by decide, if_true, if_false, i10]
        exact fin _ _ (by rw [eb, I_add, d1]) (by rw [show (1 : Int32) + 1 = I 2 from rfl, I_sub]; exact tm _ (by omega))
    · have d1 : dAt R b s = R (15 + 6 * s) + -1 := by unfold dAt mvK; rw [hk]; rfl
      have g : ∀ (J : Int32), (J = 0 ∨ J = 1) → (if b = 0 then (if I (R (17 + 6 * s)) - 0 ≤ 0 then some ((), up2 k a (19 + 6 * s) 0) else bd (fX7_cellsOf a (I (R (15 + 6 * s)) + -1) (I (R (16 + 6 * s))) k) fun x95 kk96 => if x95 = 0 then some ((), up2 kk96 a (19 + 6 * s) 0) else some ((), up2 (up2 kk96 a (15 + 6 * s) (I (R (15 + 6 * s)) + -1)) a (17 + 6 * s) (I (R (17 + 6 * s)) - 0))) else (if I (R (17 + 6 * s)) - 1 ≤ 0 then some ((), up2 k a (19 + 6 * s) 0) else bd (fX7_cellsOf a (I (R (15 + 6 * s)) + -1) (I (R (16 + 6 * s))) k) fun x95 kk96 => if x95 = 0 then some ((), up2 kk96 a (19 + 6 * s) 0) else some ((), up2 (up2 kk96 a (15 + 6 * s) (I (R (15 + 6 * s)) + -1)) a (17 + 6 * s) (I (R (17 + 6 * s)) - 1)))) = (if I (min (dTh R b s) 9) ≤ 0 then some ((), up2 k a (19 + 6 * s) 0) else if nI (bs (cel (dAt R b s) (R (16 + 6 * s))) (R 2).toNat) = 0 then some ((), up2 k a (19 + 6 * s) 0) else some ((), up2 (up2 k a (15 + 6 * s) (I (dAt R b s))) a (17 + 6 * s) (I (min (dTh R b s) 9)))) := by
        intro _ _
        by_cases hb : b = 0
        · have d2 : dTh R b s = R (17 + 6 * s) := by unfold dTh dlK; rw [hk]; simp [hb]
          rw [if_pos hb]
          exact fin _ _ (by rw [show (-1 : Int32) = I (-1) from rfl, I_add, d1]) (by rw [I_0, I_sub]; exact tm _ (by omega))
        · have d2 : dTh R b s = R (17 + 6 * s) - 1 := by unfold dTh dlK; rw [hk]; simp [hb]; omega
          rw [if_neg hb]
          exact fin _ _ (by rw [show (-1 : Int32) = I (-1) from rfl, I_add, d1]) (by rw [I_1, I_sub]; exact tm _ (by omega))
      rcases ho with ho | ho
      · simp only [fX7_drift, i6, chk_t, r6, rr, ho, jp_e, q0, q1, q2, q3, bd_e, lk_e, p5, p1, p3, hk, show (I 0 = (1 : Int32)) = False by decide, show (I 4 = (1 : Int32)) = False by decide, show (I 4 = (2 : Int32)) = False by decide, show (I 4 = (3 : Int32)) = False by decide, show (I 4 = (4 : Int32)) = True by decide, if_true, if_false, i00, b0]
        exact g 0 (Or.inl rfl)
      · simp only [fX7_drift, i6, chk_t, r6, rr, ho, jp_e, q0, q1, q2, q3, bd_e, lk_e, p5, p1, p3, hk, show (I 1 = (1 : Int32)) = True by decide, show (I 4 = (1 : Int32)) = False by decide, show (I 4 = (2 : Int32)) = False by decide, show (I 4 = (3 : Int32)) = False by decide, show (I 4 = (4 : Int32)) = True by decide, if_true, if_false, i10, b0]
        exact g 0 (Or.inl rfl)
    · have d1 : dAt R b s = R (15 + 6 * s) := by unfold dAt mvK; rw [hk]; simp
      have h1 : ∀ o : Int, (o = 0 ∨ o = 1) → dTh R b s = R (17 + 6 * s) + (if b = 0 then 1 else -1) := fun o _ => by unfold dTh dlK; rw [hk]; simp
      have d2 := h1 0 (Or.inl rfl)
      rcases ho with ho | ho
      · simp only [fX7_drift, i6, chk_t, r6, rr, ho, jp_e, q0, q1, q2, q3, bd_e, lk_e, p5, p1, p3, hk, show (I 0 = (1 : Int32)) = False by decide, show (I 5 = (1 : Int32)) = False by decide, show (I 5 = (2 : Int32)) = False by decide, show (I 5 = (3 : Int32)) = False by decide, show (I 5 = (4 : Int32)) = False by decide, if_false, if_true, i00, b0, t9]
        by_cases hb : b = 0
        · rw [if_pos hb] at d2
          rw [if_pos hb]
          by_cases h9 : 9 ≤ R (17 + 6 * s)
          · rw [if_pos h9]
            exact fin _ _ (by rw [d1]) (by rw [I_0, I_sub]; exact tm _ (by omega))
          · rw [if_neg h9]
            exact fin _ _ (by rw [d1]) (by rw [show (-1 : Int32) = I (-1) from rfl, I_sub]; exact tm _ (by omega))
        · rw [if_neg hb] at d2
          rw [if_neg hb]
          exact fin _ _ (by rw [d1]) (by rw [I_1, I_sub]; exact tm _ (by omega))
      · simp only [fX7_drift, i6, chk_t, r6, rr, ho, jp_e, q0, q1, q2, q3, bd_e, lk_e, p5, p1, p3, hk, show (I 1 = (1 : Int32)) = True by decide, show (I 5 = (1 : Int32)) = False by decide, show (I 5 = (2 : Int32)) = False by decide, show (I 5 = (3 : Int32)) = False by decide, show (I 5 = (4 : Int32)) = False by decide, if_false, if_true, i10, b0, t9]
        by_cases hb : b = 0
        · rw [if_pos hb] at d2
          rw [if_pos hb]
          by_cases h9 : 9 ≤ R (17 + 6 * s)
          · rw [if_pos h9]
            exact fin _ _ (by rw [d1]) (by rw [I_0, I_sub]; exact tm _ (by omega))
          · rw [if_neg h9]
            exact fin _ _ (by rw [d1]) (by rw [show (-1 : Int32) = I (-1) from rfl, I_sub]; exact tm _ (by omega))
        · rw [if_neg hb] at d2
          rw [if_neg hb]
          exact fin _ _ (by rw [d1]) (by rw [I_1, I_sub]; exact tm _ (by omega))
  refine ⟨_, main, ?_, ?_⟩
  · unfold dft
    by_cases hg : gon R b s = true
    · rw [if_pos hg, if_pos hg]
      exact H.up (v := 0)
    · rw [if_neg hg, if_neg hg]
      exact H.up.up
  · split
    · exact offA.rf.up
    · exact offA.rf.up.up
