/-! ===== lifting: sheet by sheet ===== -/
def As (S : Nat → Bool) (P Q : Rw) : Prop := (∀ j, j < 14 → j ≠ 7 → P j = Q j) ∧ (∀ s, S s = false → P (14 + 6 * s) = Q (14 + 6 * s) ∧ P (15 + 6 * s) = Q (15 + 6 * s) ∧ P (16 + 6 * s) = Q (16 + 6 * s) ∧ P (17 + 6 * s) = Q (17 + 6 * s) ∧ P (19 + 6 * s) = Q (19 + 6 * s)) ∧ (∀ s, S s = true → P (19 + 6 * s) ≠ 1)
theorem As_dft {S : Nat → Bool} {P Q : Rw} {b : Int} {s : Nat} (a : As S P Q) (h : S s = false) : As S (dft P b s) (dft Q b s) := by
  obtain ⟨a1, a2, a3⟩ := a
  obtain ⟨e14, e15, e16, e17, e19⟩ := a2 s h
  have e2 := a1 2 (by omega) (by omega)
  have e6 := a1 6 (by omega) (by omega)
  have dA : dAt P b s = dAt Q b s := by unfold dAt; rw [e15, e14]
  have dT : dTh P b s = dTh Q b s := by unfold dTh; rw [e17, e14, e6]
  have g : gon P b s = gon Q b s := by unfold gon; rw [dA, dT, e2, e16]
  refine ⟨fun j hj h7 => ?_, fun q hq => ?_, fun q hq => ?_⟩
  · rw [dft_ne (by omega) (by omega) (by omega), dft_ne (by omega) (by omega) (by omega)]; exact a1 j hj h7
  · by_cases z : q = s
    · subst z
      unfold dft
      rw [g, dA, dT]
      split
      · refine ⟨?_, ?_, ?_, ?_, ?_⟩
        · rw [upR_ne (by omega), upR_ne (by omega)]; exact e14
        · rw [upR_ne (by omega), upR_ne (by omega)]; exact e15
        · rw [upR_ne (by omega), upR_ne (by omega)]; exact e16
        · rw [upR_ne (by omega), upR_ne (by omega)]; exact e17
        · rw [upR_at, upR_at]
      · refine ⟨?_, ?_, ?_, ?_, ?_⟩
        · rw [upR_ne (by omega), upR_ne (by omega), upR_ne (by omega), upR_ne (by omega)]; exact e14
        · rw [upR_ne (by omega), upR_at, upR_ne (by omega), upR_at]
        · rw [upR_ne (by omega), upR_ne (by omega), upR_ne (by omega), upR_ne (by omega)]; exact e16
        · rw [upR_at, upR_at]
        · rw [upR_ne (by omega), upR_ne (by omega), upR_ne (by omega), upR_ne (by omega)]; exact e19
    · obtain ⟨f14, f15, f16, f17, f19⟩ := a2 q hq
      refine ⟨?_, ?_, ?_, ?_, ?_⟩
      · rw [dft_ne (by omega) (by omega) (by omega), dft_ne (by omega) (by omega) (by omega)]; exact f14
      · rw [dft_ne (by omega) (by omega) (by omega), dft_ne (by omega) (by omega) (by omega)]; exact f15
      · rw [dft_ne (by omega) (by omega) (by omega), dft_ne (by omega) (by omega) (by omega)]; exact f16
      · rw [dft_ne (by omega) (by omega) (by omega), dft_ne (by omega) (by omega) (by omega)]; exact f17
      · rw [dft_ne (by omega) (by omega) (by omega), dft_ne (by omega) (by omega) (by omega)]; exact f19
  · have : q ≠ s := fun z => by subst z; rw [hq] at h; cases h
    rw [dft_ne (by omega) (by omega) (by omega)]; exact a3 q hq
theorem As_dfR {S : Nat → Bool} {P Q : Rw} {b : Int} {s : Nat} (a : As S P Q) (h : S s = true) : As S P (dft Q b s) := by
  obtain ⟨a1, a2, a3⟩ := a
  refine ⟨fun j hj h7 => ?_, fun q hq => ?_, a3⟩
  · rw [dft_ne (by omega) (by omega) (by omega)]; exact a1 j hj h7
  · have : q ≠ s := fun z => by subst z; rw [hq] at h; cases h
    obtain ⟨f14, f15, f16, f17, f19⟩ := a2 q hq
    refine ⟨?_, ?_, ?_, ?_, ?_⟩
    · rw [dft_ne (by omega) (by omega) (by omega)]; exact f14
    · rw [dft_ne (by omega) (by omega) (by omega)]; exact f15
    · rw [dft_ne (by omega) (by omega) (by omega)]; exact f16
    · rw [dft_ne (by omega) (by omega) (by omega)]; exact f17
    · rw [dft_ne (by omega) (by omega) (by omega)]; exact f19
theorem As_dfU {S : Nat → Bool} {P Q : Rw} {b : Int} (a : As S P Q) : ∀ n, As S (dfU P b n) (dfU Q b n)
  | 0 => a
  | n + 1 => by
    have i := As_dfU (b := b) a n
    unfold dfU
    cases h : S n
    · rw [(i.2.1 n h).2.2.2.2]
      split
      · exact As_dft i h
      · exact i
    · rw [if_neg (i.2.2 n h)]
      split
      · exact As_dfR i h
      · exact i
theorem As_Ag {S : Nat → Bool} {P Q P1 Q1 : Rw} (a : As S P Q) (x : ∀ j, j ≠ 7 → (∀ s, j ≠ 18 + 6 * s) → P1 j = P j) (y : ∀ j, j ≠ 7 → (∀ s, j ≠ 18 + 6 * s) → Q1 j = Q j) : As S P1 Q1 := by
  refine ⟨fun j hj h7 => by rw [x j h7 (fun s => by omega), y j h7 (fun s => by omega)]; exact a.1 j hj h7, fun q hq => ?_, fun q hq => by rw [x _ (by omega) (fun s => by omega)]; exact a.2.2 q hq⟩
  obtain ⟨f14, f15, f16, f17, f19⟩ := a.2.1 q hq
  refine ⟨?_, ?_, ?_, ?_, ?_⟩
  · rw [x _ (by omega) (fun s => by omega), y _ (by omega) (fun s => by omega)]; exact f14
  · rw [x _ (by omega) (fun s => by omega), y _ (by omega) (fun s => by omega)]; exact f15
  · rw [x _ (by omega) (fun s => by omega), y _ (by omega) (fun s => by omega)]; exact f16
  · rw [x _ (by omega) (fun s => by omega), y _ (by omega) (fun s => by omega)]; exact f17
  · rw [x _ (by omega) (fun s => by omega), y _ (by omega) (fun s => by omega)]; exact f19
theorem nmA_ne {P : Rw} {j : Nat} (h7 : j ≠ 7) (h : ∀ s, j ≠ 18 + 6 * s) : nmA P j = P j := by
  unfold nmA
  split
  · exact nmU_lo h7 (fun s _ => h s)
  · rfl
theorem As_up {S : Nat → Bool} {P Q : Rw} {v : Int} (a : As S P Q) : As S (va_up P 6 v) (va_up Q 6 v) := by
  refine ⟨fun j hj h7 => ?_, fun q hq => ?_, fun q hq => by rw [upR_ne (by omega)]; exact a.2.2 q hq⟩
  · by_cases z : j = 6
    · subst z; rw [upR_at, upR_at]
    · rw [upR_ne z, upR_ne z]; exact a.1 j hj h7
  · rw [upR_ne (by omega), upR_ne (by omega), upR_ne (by omega), upR_ne (by omega), upR_ne (by omega), upR_ne (by omega), upR_ne (by omega), upR_ne (by omega), upR_ne (by omega), upR_ne (by omega)]
    exact a.2.1 q hq
theorem As_hr {B : Int} {S : Nat → Bool} {P Q : Rw} (W : WF B P) (a : As S P Q) : As S (hr P) (hr Q) := by
  have w := wnd_lt W
  have ew : wnd P = wnd Q := by
    unfold wnd
    rw [← a.1 6 (by omega) (by omega), ← a.1 1 (by omega) (by omega)]
    exact a.1 _ (by omega) (by omega)
  have en : nS P = nS Q := by unfold nS; rw [a.1 0 (by omega) (by omega)]
  unfold hr
  rw [ew, en, a.1 6 (by omega) (by omega)]
  exact As_up (As_Ag (As_dfU a _) (fun j h7 h => nmA_ne h7 h) (fun j h7 h => nmA_ne h7 h))
theorem As_hrN {B : Int} {S : Nat → Bool} {P Q : Rw} (W : WF B P) (a : As S P Q) : ∀ n, As S (hrN P n) (hrN Q n)
  | 0 => a
  | n + 1 => As_hr (WF_hrN W n) (As_hrN W a n)
theorem As_lie {S : Nat → Bool} {P Q : Rw} {s : Nat} {c : Int} (a : As S P Q) : lie P s c = (!S s && lie Q s c) := by
  cases h : S s
  · obtain ⟨f14, f15, f16, f17, f19⟩ := a.2.1 s h
    unfold lie
    rw [f15, f16, f19]
    rfl
  · have := a.2.2 s h
    unfold lie
    rw [decide_eq_false this]
    rfl
/-! sums over subsets -/
def sm (f : Nat → Nat) : Nat → Nat
  | 0 => 0
  | n + 1 => sm f n + f n
def pr (f : Nat → Nat) : Nat → Nat
  | 0 => 1
  | n + 1 => pr f n * f n
theorem sm_congr {f g : Nat → Nat} : ∀ {n : Nat}, (∀ i, i < n → f i = g i) → sm f n = sm g n
  | 0, _ => rfl
  | n + 1, h => by unfold sm; rw [sm_congr (fun i hi => h i (by omega)), h n (by omega)]
theorem pr_congr {f g : Nat → Nat} : ∀ {n : Nat}, (∀ i, i < n → f i = g i) → pr f n = pr g n
  | 0, _ => rfl
  | n + 1, h => by unfold pr; rw [pr_congr (fun i hi => h i (by omega)), h n (by omega)]
theorem sm_add {f : Nat → Nat} {a : Nat} : ∀ b, sm f (a + b) = sm f a + sm (fun i => f (a + i)) b
  | 0 => rfl
  | b + 1 => by show sm f (a + b) + f (a + b) = _; rw [sm_add b]; show _ = sm f a + (sm (fun i => f (a + i)) b + f (a + b)); omega
theorem sm_mul {f : Nat → Nat} {x : Nat} : ∀ n, sm (fun i => f i * x) n = sm f n * x
  | 0 => by show 0 = 0 * x; omega
  | n + 1 => by show sm _ n + f n * x = (sm f n + f n) * x; rw [sm_mul n, Nat.add_mul]
theorem tb_lo {n m i : Nat} (hm : m < 2 ^ n) (hi : i < n) : (2 ^ n + m).testBit i = m.testBit i := by
  rw [show (2 ^ n : Nat) = 2 ^ n * 1 by omega, Nat.two_pow_add_eq_or_of_lt hm, Nat.testBit_or, Nat.mul_one, Nat.testBit_two_pow]
  simp [show ¬ n = i by omega]
theorem tb_n {n m : Nat} (hm : m < 2 ^ n) : (2 ^ n + m).testBit n = true ∧ m.testBit n = false := by
  constructor
  · rw [show (2 ^ n : Nat) = 2 ^ n * 1 by omega, Nat.two_pow_add_eq_or_of_lt hm, Nat.testBit_or, Nat.mul_one, Nat.testBit_two_pow]
    simp
  · exact Nat.testBit_lt_two_pow hm
theorem sm_pr (w : Nat → Bool → Nat) : ∀ n, sm (fun m => pr (fun s => w s (m.testBit s)) n) (2 ^ n) = pr (fun s => w s false + w s true) n
  | 0 => rfl
  | n + 1 => by
    have i := sm_pr w n
    rw [show 2 ^ (n + 1) = 2 ^ n + 2 ^ n by rw [Nat.pow_succ]; omega, sm_add]
    have e1 : sm (fun m => pr (fun s => w s (m.testBit s)) (n + 1)) (2 ^ n) = sm (fun m => pr (fun s => w s (m.testBit s)) n * w n false) (2 ^ n) := sm_congr (fun m hm => by show pr _ n * w n (m.testBit n) = _; rw [(tb_n hm).2])
    have e2 : sm (fun i => (fun m => pr (fun s => w s (m.testBit s)) (n + 1)) (2 ^ n + i)) (2 ^ n) = sm (fun m => pr (fun s => w s (m.testBit s)) n * w n true) (2 ^ n) := sm_congr (fun m hm => by
      show pr _ n * w n ((2 ^ n + m).testBit n) = _
      rw [(tb_n hm).1, pr_congr (fun s hs => by rw [tb_lo hm hs])])
    rw [e1, e2, sm_mul, sm_mul, i]
    show _ = _ * (_ + _)
    rw [Nat.mul_add]
