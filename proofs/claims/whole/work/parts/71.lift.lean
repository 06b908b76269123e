theorem sub_i : ∀ a, a < 64 → ∀ b, b < 64 → (nI a &&& (nI b ^^^ -1) = 0 ↔ a &&& b = a) := by decide +kernel
def sbB (R : Rw) (m : Nat) : Bool := decide (m &&& msk R = m)
theorem sbB_i {R : Rw} {m : Nat} (hm : m < 2 ^ nS R) : sbB R m = true ↔ ∀ s, s < nS R → m.testBit s = true → inB R s = true := by
  unfold sbB
  rw [decide_eq_true_iff]
  constructor
  · intro h s hs hb
    rw [← h, Nat.testBit_and, msk_bs, bs_bit] at hb
    simp only [Bool.and_eq_true, decide_eq_true_eq] at hb
    exact hb.2.2
  · intro h
    apply Nat.eq_of_testBit_eq
    intro i
    rw [Nat.testBit_and, msk_bs, bs_bit]
    cases hb : m.testBit i
    · rfl
    · by_cases hi : i < nS R
      · rw [h i hi hb, decide_eq_true hi]; rfl
      · have : m.testBit i = false := Nat.testBit_lt_two_pow (Nat.lt_of_lt_of_le hm (Nat.pow_le_pow_right (by omega) (by omega)))
        rw [this] at hb
        cases hb
theorem pr_0 {f : Nat → Nat} {s : Nat} (h : f s = 0) : ∀ {n : Nat}, s < n → pr f n = 0
  | 0, q => absurd q (by omega)
  | n + 1, q => by
    show pr f n * f n = 0
    by_cases e : s = n
    · subst e; rw [h, Nat.mul_zero]
    · rw [pr_0 h (by omega), Nat.zero_mul]
def F7 (R : Rw) (p m : Nat) : Nat := pr (fun s => w7 R p s (m.testBit s)) (nS R)
def F5 (R : Rw) (D : Nat → Bool) (p m : Nat) : Nat := pr (fun s => w5 R D p s (m.testBit s)) (nS R)
theorem F7_e {R : Rw} {p m : Nat} (hm : m < 2 ^ nS R) : F7 R p m = if sbB R m = true then pr (wt R p m) (nS R) else 0 := by
  by_cases q : sbB R m = true
  · rw [if_pos q]
    refine pr_congr (fun s hs => ?_)
    have := (sbB_i hm).mp q s hs
    unfold w7 wt
    by_cases z : inB R s = true
    · rw [if_pos z, if_pos z]
    · rw [if_neg z, if_neg z, if_neg (fun y => z (this y))]
  · rw [if_neg q]
    have : ∃ s, s < nS R ∧ m.testBit s = true ∧ ¬ inB R s = true := Classical.byContradiction (fun c => q ((sbB_i hm).mpr (fun s hs hb => Classical.byContradiction (fun y => c ⟨s, hs, hb, y⟩))))
    obtain ⟨s, hs, hb, hy⟩ := this
    exact pr_0 (s := s) (by show w7 R p s (m.testBit s) = 0; unfold w7; rw [if_neg hy, if_pos hb]) hs
theorem F5_e {R : Rw} {D : Nat → Bool} {p m : Nat} : F5 R D p m = if (∀ s, s < nS R → D s = true → m.testBit s = true) then F7 R p m else 0 := by
  by_cases q : ∀ s, s < nS R → D s = true → m.testBit s = true
  · rw [if_pos q]
    refine pr_congr (fun s hs => ?_)
    have := q s hs
    unfold w5
    rw [if_neg (fun y => by have z := this y.1; rw [y.2] at z; cases z)]
  · rw [if_neg q]
    have : ∃ s, s < nS R ∧ D s = true ∧ ¬ m.testBit s = true := Classical.byContradiction (fun c => q (fun s hs hb => Classical.byContradiction (fun y => c ⟨s, hs, hb, y⟩)))
    obtain ⟨s, hs, hb, hy⟩ := this
    exact pr_0 (s := s) (by show w5 R D p s (m.testBit s) = 0; unfold w5; rw [if_pos ⟨hb, by simpa using hy⟩]) hs
theorem sm_le {f : Nat → Nat} : ∀ {a b : Nat}, a ≤ b → sm f a ≤ sm f b
  | a, 0, h => by have : a = 0 := by omega
                  subst this; exact Nat.le_refl _
  | a, b + 1, h => by
    by_cases e : a = b + 1
    · subst e; exact Nat.le_refl _
    · have := sm_le (f := f) (show a ≤ b by omega)
      show _ ≤ sm f b + f b
      omega
theorem pr_10 {f : Nat → Bool} : ∀ n, pr (fun s => if f s = true then 10 else 1) n = 10 ^ cnt f n
  | 0 => rfl
  | n + 1 => by
    show pr _ n * (if f n = true then 10 else 1) = 10 ^ (cnt f n + _)
    rw [pr_10 n]
    by_cases q : f n = true
    · rw [if_pos q, if_pos q, Nat.pow_succ]
    · rw [if_neg q, if_neg q, Nat.mul_one]; rfl
theorem S7 {R : Rw} {p : Nat} (hp : p ≤ 10) : sm (F7 R p) (2 ^ nS R) = 10 ^ cnt (inB R) (nS R) := by
  have e : sm (F7 R p) (2 ^ nS R) = pr (fun s => w7 R p s false + w7 R p s true) (nS R) := sm_pr (w7 R p) (nS R)
  rw [e, ← pr_10]
  refine pr_congr (fun s hs => ?_)
  unfold w7
  by_cases q : inB R s = true
  · rw [if_pos q, if_pos q, if_pos q, if_neg (by decide), if_pos rfl]; omega
  · rw [if_neg q, if_neg q, if_neg q, if_neg (by decide), if_pos rfl]
theorem pr_pd {f D : Nat → Bool} {p : Nat} (h : ∀ s, D s = true → f s = true) : ∀ n, pr (fun s => if D s = true then p else if f s = true then 10 else 1) n = p ^ cnt D n * 10 ^ (cnt f n - cnt D n) ∧ cnt D n ≤ cnt f n
  | 0 => ⟨rfl, Nat.le_refl _⟩
  | n + 1 => by
    obtain ⟨i, j⟩ := pr_pd (p := p) h n
    have e1 : cnt D (n + 1) = cnt D n + (if D n = true then 1 else 0) := rfl
    have e2 : cnt f (n + 1) = cnt f n + (if f n = true then 1 else 0) := rfl
    have e3 : pr (fun s => if D s = true then p else if f s = true then 10 else 1) (n + 1) = pr (fun s => if D s = true then p else if f s = true then 10 else 1) n * (if D n = true then p else if f n = true then 10 else 1) := rfl
    rw [e1, e2, e3, i]
    by_cases q : D n = true
    · rw [if_pos q, if_pos q, if_pos (h n q), Nat.pow_succ, show cnt f n + 1 - (cnt D n + 1) = cnt f n - cnt D n by omega]
      exact ⟨by rw [Nat.mul_right_comm], by omega⟩
    · rw [if_neg q, if_neg q]
      by_cases z : f n = true
      · rw [if_pos z, if_pos z, show cnt f n + 1 - (cnt D n + 0) = cnt f n - cnt D n + 1 by omega, Nat.pow_succ, Nat.mul_assoc]
        exact ⟨rfl, by omega⟩
      · rw [if_neg z, if_neg z, Nat.mul_one]
        exact ⟨rfl, by omega⟩
theorem S5 {R : Rw} {D : Nat → Bool} {p : Nat} (hp : p ≤ 10) (h : ∀ s, D s = true → inB R s = true) : sm (F5 R D p) (2 ^ nS R) = p ^ cnt D (nS R) * 10 ^ (cnt (inB R) (nS R) - cnt D (nS R)) := by
  have e : sm (F5 R D p) (2 ^ nS R) = pr (fun s => w5 R D p s false + w5 R D p s true) (nS R) := sm_pr (w5 R D p) (nS R)
  rw [e, ← (pr_pd (p := p) h (nS R)).1]
  refine pr_congr (fun s hs => ?_)
  unfold w5 w7
  by_cases d : D s = true
  · rw [if_pos ⟨d, rfl⟩, if_neg (by simp), if_pos (h s d), if_pos rfl, if_pos d]; omega
  · rw [if_neg (show ¬ (D s = true ∧ false = false) from fun y => d y.1), if_neg (show ¬ (D s = true ∧ true = false) from fun y => d y.1), if_neg d]
    by_cases q : inB R s = true
    · rw [if_pos q, if_pos q, if_pos q, if_neg (by decide), if_pos rfl]; omega
    · rw [if_neg q, if_neg q, if_neg q, if_neg (by decide), if_pos rfl]
def eu : Nat → Nat → Nat → Option Nat
  | 0, _, _ => none
  | f + 1, a, b => if b = 0 then some a else eu f b (a % b)
def luk (p m d : Nat) : Bool := match eu 60 (p ^ d * 10 ^ (m - d)) (10 ^ m) with
  | none => false
  | some g => decide (0 < g ∧ g ≤ 1000000 ∧ p ^ d * 10 ^ (m - d) ≤ 1000000 ∧ (p ^ d * 10 ^ (m - d)) / g = (p / Nat.gcd p 10) ^ d ∧ 10 ^ m / g = (10 / Nat.gcd p 10) ^ d)
theorem luk_t : ∀ p, p < 11 → ∀ m, m < 7 → ∀ d, d < m + 1 → luk p m d = true := by decide +kernel
theorem eu_L {v4 : Int32} {v5 v7 : Int64} {k : Hp} {K : Int64 → Hp → Option (Int64 × Hp)} : ∀ (f n a b g : Nat), eu f a b = some g → f ≤ n → a < 9223372036854775808 → b < 9223372036854775808 → fX7_lift_L230 K n v4 v5 v7 (LL a) (LL b) k = K (LL g) k
  | 0, _, _, _, _, h, _, _, _ => by cases h
  | f + 1, 0, _, _, _, _, h, _, _ => absurd h (by omega)
  | f + 1, n + 1, a, b, g, h, hn, ha, hb => by
    rw [fX7_lift_L230]
    unfold eu at h
    by_cases q : b = 0
    · rw [if_pos q] at h
      rw [if_pos (lg_0.mpr ((LL_z hb).mpr q))]
      rw [Option.some.inj h]
    · rw [if_neg q] at h
      rw [if_neg (fun z => q ((LL_z hb).mp (lg_0.mp z))), nzL_n (by omega) hb, chk_t, lrm_L ha hb (by omega), lk_e]
      exact eu_L f n b (a % b) g h (by omega) hb (Nat.lt_of_lt_of_le (Nat.mod_lt _ (by omega)) (by omega))
