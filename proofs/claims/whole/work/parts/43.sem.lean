/-! ===== bits ===== -/
theorem s_l : ∀ n, n < 32 → ((nI n &&& 31).toBitVec.smod 32).toNat = n := by decide +kernel
theorem shr_n {m i : Nat} (hm : m < 2147483648) (hi : i < 32) : shrI (nI m) (nI i) = nI (m / 2 ^ i) := by
  unfold shrI
  exact pk_shrN (by omega) _ i (s_l i hi)
theorem and1_n {m : Nat} (hm : m < 2147483648) : nI m &&& 1 = nI (m % 2) := pk_andN (by omega) 1 rfl
theorem shl_n {i : Nat} (hi : i < 31) : shlI 1 (nI i) = nI (2 ^ i) := by
  unfold shlI
  have h := pk_shlN (n := 1) (nI i &&& 31) i (s_l i (by omega)) (by rw [Nat.one_mul]; exact Nat.pow_lt_pow_right (by omega) (by omega))
  rw [Nat.one_mul] at h
  exact h
theorem or_n (a b : Nat) : nI a ||| nI b = nI (a ||| b) := by
  apply Int32.toBitVec_inj.mp
  show (nI a).toBitVec ||| (nI b).toBitVec = (nI (a ||| b)).toBitVec
  have h : ∀ n : Nat, (nI n).toBitVec = BitVec.ofNat 32 n := fun n => rfl
  rw [h, h, h]
  apply BitVec.eq_of_toNat_eq
  simp only [BitVec.toNat_or, BitVec.toNat_ofNat]
  rw [Nat.or_mod_two_pow]
theorem and_n (a b : Nat) : nI a &&& nI b = nI (a &&& b) := by
  apply Int32.toBitVec_inj.mp
  show (nI a).toBitVec &&& (nI b).toBitVec = (nI (a &&& b)).toBitVec
  have h : ∀ n : Nat, (nI n).toBitVec = BitVec.ofNat 32 n := fun n => rfl
  rw [h, h, h]
  apply BitVec.eq_of_toNat_eq
  simp only [BitVec.toNat_and, BitVec.toNat_ofNat]
  rw [Nat.and_mod_two_pow]
def b32 (b : Bool) : Int32 := if b = true then 1 else 0
theorem b32_t : b32 true = 1 := rfl
theorem b32_f : b32 false = 0 := rfl
theorem isB_b (b : Bool) : isB (b32 b) = true := by cases b <;> rfl
theorem if_b {α : Type} {b : Bool} {X Y : α} : (if b32 b = 0 then X else Y) = (if b = true then Y else X) := by cases b <;> rfl
theorem if_b1 {α : Type} {b : Bool} {X Y : α} : (if b32 b = 1 then X else Y) = (if b = true then X else Y) := by cases b <;> rfl
theorem bit_n {m i : Nat} (hm : m < 2147483648) (hi : i < 32) : shrI (nI m) (nI i) &&& 1 = b32 (m.testBit i) := by
  rw [shr_n hm hi, and1_n (Nat.lt_of_le_of_lt (Nat.div_le_self _ _) hm), Nat.testBit_eq_decide_div_mod_eq]
  rcases Nat.mod_two_eq_zero_or_one (m / 2 ^ i) with h | h
  · rw [h]; rfl
  · rw [h]; rfl
def bs (f : Nat → Bool) : Nat → Nat
  | 0 => 0
  | n + 1 => bs f n + (if f n = true then 2 ^ n else 0)
theorem bs_lt (f : Nat → Bool) : ∀ n, bs f n < 2 ^ n
  | 0 => by unfold bs; decide
  | n + 1 => by
    have := bs_lt f n
    unfold bs
    rw [Nat.pow_succ]
    split <;> omega
theorem bs_or (f : Nat → Bool) (n : Nat) : bs f n ||| (if f n = true then 2 ^ n else 0) = bs f (n + 1) := by
  have := bs_lt f n
  have e : bs f (n + 1) = bs f n + (if f n = true then 2 ^ n else 0) := rfl
  rw [e]
  by_cases h : f n = true
  · rw [if_pos h, Nat.or_comm, Nat.add_comm, show (2 ^ n : Nat) = 2 ^ n * 1 by omega, Nat.two_pow_add_eq_or_of_lt this]
  · rw [if_neg h, Nat.or_zero, Nat.add_zero]
theorem bs_bit (f : Nat → Bool) : ∀ n i, (bs f n).testBit i = (decide (i < n) && f i)
  | 0, i => by simp [bs]
  | n + 1, i => by
    rw [← bs_or, Nat.testBit_or, bs_bit f n i]
    by_cases h : f n = true
    · rw [if_pos h, Nat.testBit_two_pow]
      by_cases e : n = i
      · subst e; simp [h]
      · have : decide (i < n + 1) = decide (i < n) := by
          by_cases q : i < n
          · simp [q, Nat.lt_succ_of_lt q]
          · simp [q, show ¬ i < n + 1 by omega]
        simp [e, this]
    · rw [if_neg h]
      by_cases e : i = n
      · subst e
        have : f i = false := by simpa using h
        simp [this]
      · have : decide (i < n + 1) = decide (i < n) := by
          by_cases q : i < n
          · simp [q, Nat.lt_succ_of_lt q]
          · simp [q, show ¬ i < n + 1 by omega]
        simp [this]
theorem bs_congr {f f1 : Nat → Bool} : ∀ {n : Nat}, (∀ i, i < n → f i = f1 i) → bs f n = bs f1 n
  | 0, _ => rfl
  | n + 1, h => by unfold bs; rw [bs_congr (fun i hi => h i (by omega)), h n (by omega)]
theorem mskU_bs (R : Rw) : ∀ n, mskU R n = bs (fun s => decide (R (19 + 6 * s) = 1)) n
  | 0 => rfl
  | n + 1 => by
    unfold mskU bs
    rw [mskU_bs R n]
    by_cases h : R (19 + 6 * n) = 1
    · simp [h]
    · simp [h]
/-! ===== an estuary's hour ===== -/
def lie (R : Rw) (s : Nat) (c : Int) : Bool := decide (R (19 + 6 * s) = 1) && (decide (R (15 + 6 * s) ≤ c) && decide (c < R (15 + 6 * s) + R (16 + 6 * s)))
def mvK (kd b : Int) : Int := if kd = 2 then b.tdiv 2 else if kd = 3 then b * 2 else if kd = 4 then -1 else if kd = 5 then 0 else b
def dlK (kd b odd : Int) : Int := if kd = 3 then -odd - 1 else if kd = 4 then (if b = 0 then 0 else -1) else if kd = 5 then (if b = 0 then 1 else -1) else -odd
def dAt (R : Rw) (b : Int) (s : Nat) : Int := R (15 + 6 * s) + mvK (R (14 + 6 * s)) b
def dTh (R : Rw) (b : Int) (s : Nat) : Int := R (17 + 6 * s) + dlK (R (14 + 6 * s)) b (R 6 % 2)
def gon (R : Rw) (b : Int) (s : Nat) : Bool := decide (dTh R b s ≤ 0) || (decide (R 2 ≤ dAt R b s) || decide (dAt R b s + R (16 + 6 * s) ≤ 0))
def dft (R : Rw) (b : Int) (s : Nat) : Rw := if gon R b s = true then va_up R (19 + 6 * s) 0 else va_up (va_up R (15 + 6 * s) (dAt R b s)) (17 + 6 * s) (min (dTh R b s) 9)
def dfU (R : Rw) (b : Int) : Nat → Rw
  | 0 => R
  | s + 1 => if dfU R b s (19 + 6 * s) = 1 then dft (dfU R b s) b s else dfU R b s
def nmS (R : Rw) (s : Nat) : Rw := if (lie R s (R 3) && decide (R (18 + 6 * s) = 0)) = true then va_up (va_up R 7 (R 7 + 1)) (18 + 6 * s) (R 7 + 1) else R
def nmU (R : Rw) : Nat → Rw
  | 0 => R
  | s + 1 => nmS (nmU R s) s
def wnd (R : Rw) : Int := R (8 + (R 6 % R 1).toNat)
def awk (R : Rw) : Bool := ((R 5).toNat).testBit ((R 6 % 4).toNat)
def nmA (R : Rw) : Rw := if awk R = true then nmU R (nS R) else R
def hr (R : Rw) : Rw := va_up (nmA (dfU R (wnd R - 2) (nS R))) 6 (R 6 + 1)
theorem upR_ne {R : Rw} {i j : Nat} {v : Int} (h : j ≠ i) : va_up R i v j = R j := va_up_ne _ _ h
theorem upR_at {R : Rw} {i : Nat} {v : Int} : va_up R i v i = v := va_up_at
theorem dft_ne {R : Rw} {b : Int} {s j : Nat} (h1 : j ≠ 15 + 6 * s) (h2 : j ≠ 17 + 6 * s) (h3 : j ≠ 19 + 6 * s) : dft R b s j = R j := by
  unfold dft
  split
  · exact upR_ne h3
  · rw [upR_ne h2, upR_ne h1]
theorem dfU_lo {R : Rw} {b : Int} {j : Nat} : ∀ {n : Nat}, (∀ s, s < n → j ≠ 15 + 6 * s ∧ j ≠ 17 + 6 * s ∧ j ≠ 19 + 6 * s) → dfU R b n j = R j
  | 0, _ => rfl
  | n + 1, h => by
    obtain ⟨h1, h2, h3⟩ := h n (by omega)
    unfold dfU
    split
    · rw [dft_ne h1 h2 h3]; exact dfU_lo (fun s hs => h s (by omega))
    · exact dfU_lo (fun s hs => h s (by omega))
theorem dfU_0 {R : Rw} {b : Int} {n j : Nat} (h : j < 14) : dfU R b n j = R j := dfU_lo (fun s _ => by omega)
theorem numU_congr {R Q : Rw} : ∀ {n : Nat}, (∀ s, s < n → R (18 + 6 * s) = Q (18 + 6 * s)) → numU R n = numU Q n
  | 0, _ => rfl
  | n + 1, h => by unfold numU; rw [numU_congr (fun s hs => h s (by omega)), h n (by omega)]
theorem nS_le {B : Int} {R : Rw} (h : WF B R) : 1 ≤ nS R ∧ nS R ≤ 6 ∧ R 0 = (nS R : Int) := by
  have := h.1
  unfold nS
  omega
theorem mvK_b {kd b : Int} (h1 : -2 ≤ b) (h2 : b ≤ 2) : -4 ≤ mvK kd b ∧ mvK kd b ≤ 4 := by
  unfold mvK
  have : b = -2 ∨ b = -1 ∨ b = 0 ∨ b = 1 ∨ b = 2 := by omega
  rcases this with rfl | rfl | rfl | rfl | rfl <;> (repeat' split) <;> decide
theorem dlK_b {kd b odd : Int} (h1 : 0 ≤ odd) (h2 : odd ≤ 1) : -2 ≤ dlK kd b odd ∧ dlK kd b odd ≤ 1 := by
  unfold dlK
  repeat' split
  all_goals omega
theorem WF_dft {B b : Int} {R : Rw} {s : Nat} (W : WF B R) (hs : s < nS R) (hi : R (19 + 6 * s) = 1) : WF B (dft R b s) := by
  obtain ⟨w0, w1, w2, w3, w4, w5, w6, w7, w8, w9⟩ := W
  have e0 : dft R b s 0 = R 0 := dft_ne (by omega) (by omega) (by omega)
  have en : nS (dft R b s) = nS R := by unfold nS; rw [e0]
  refine ⟨?_, ?_, ?_, ?_, ?_, ?_, ?_, ?_, fun w hw => ?_, fun q hq => ?_⟩
  · rw [e0]; exact w0
  · rw [dft_ne (by omega) (by omega) (by omega)]; exact w1
  · rw [dft_ne (by omega) (by omega) (by omega)]; exact w2
  · rw [dft_ne (by omega) (by omega) (by omega), dft_ne (by omega) (by omega) (by omega)]; exact w3
  · rw [dft_ne (by omega) (by omega) (by omega), dft_ne (by omega) (by omega) (by omega)]; exact w4
  · rw [dft_ne (by omega) (by omega) (by omega)]; exact w5
  · rw [dft_ne (by omega) (by omega) (by omega)]; exact w6
  · rw [dft_ne (by omega) (by omega) (by omega), en, w7, numU_congr (fun q _ => (dft_ne (by omega) (by omega) (by omega)).symm)]
  · rw [dft_ne (by omega) (by omega) (by omega)] at hw
    rw [dft_ne (by omega) (by omega) (by omega)]
    exact w8 w hw
  · rw [en] at hq
    have k := w9 q hq
    by_cases e : q = s
    · subst e
      unfold ShOk at k ⊢
      unfold dft
      split
      · rw [upR_ne (by omega), upR_ne (by omega), upR_ne (by omega), upR_ne (by omega), upR_ne (by omega), upR_at]
        omega
      · rename_i hg
        unfold gon at hg
        simp only [Bool.or_eq_true, decide_eq_true_eq, not_or] at hg
        rw [upR_ne (by omega), upR_ne (by omega), upR_ne (by omega), upR_at, upR_ne (by omega), upR_ne (by omega), upR_at, upR_ne (by omega), upR_ne (by omega), upR_ne (by omega), upR_ne (by omega)]
        omega
    · unfold ShOk at k ⊢
      rw [dft_ne (by omega) (by omega) (by omega), dft_ne (by omega) (by omega) (by omega), dft_ne (by omega) (by omega) (by omega), dft_ne (by omega) (by omega) (by omega), dft_ne (by omega) (by omega) (by omega), dft_ne (by omega) (by omega) (by omega)]
      exact k
theorem nS_dfU {R : Rw} {b : Int} {n : Nat} : nS (dfU R b n) = nS R := by unfold nS; rw [dfU_0 (by omega)]
theorem WF_dfU {B b : Int} {R : Rw} (W : WF B R) : ∀ {n : Nat}, n ≤ nS R → WF B (dfU R b n)
  | 0, _ => W
  | n + 1, h => by
    unfold dfU
    split
    · rename_i hi
      exact WF_dft (WF_dfU W (by omega)) (by rw [nS_dfU]; omega) hi
    · exact WF_dfU W (by omega)
theorem nmS_ne {R : Rw} {s j : Nat} (h1 : j ≠ 7) (h2 : j ≠ 18 + 6 * s) : nmS R s j = R j := by
  unfold nmS
  split
  · rw [upR_ne h2, upR_ne h1]
  · rfl
theorem nmU_lo {R : Rw} {j : Nat} (h7 : j ≠ 7) : ∀ {n : Nat}, (∀ s, s < n → j ≠ 18 + 6 * s) → nmU R n j = R j
  | 0, _ => rfl
  | n + 1, h => by
    unfold nmU
    rw [nmS_ne h7 (h n (by omega))]
    exact nmU_lo h7 (fun s hs => h s (by omega))
theorem nmU_0 {R : Rw} {n j : Nat} (h : j < 14) (h7 : j ≠ 7) : nmU R n j = R j := nmU_lo h7 (fun s _ => by omega)
theorem nS_nmU {R : Rw} {n : Nat} : nS (nmU R n) = nS R := by unfold nS; rw [nmU_0 (by omega) (by omega)]
theorem numU_le (R : Rw) : ∀ n, numU R n ≤ n
  | 0 => Nat.le_refl _
  | n + 1 => by have := numU_le R n; unfold numU; split <;> omega
theorem numU_up {R : Rw} {s : Nat} {v : Int} (hv : v ≠ 0) (h0 : R (18 + 6 * s) = 0) : ∀ {n : Nat}, s < n → numU (va_up R (18 + 6 * s) v) n = numU R n + 1
  | 0, h => absurd h (by omega)
  | n + 1, h => by
    by_cases e : n = s
    · subst e
      unfold numU
      rw [upR_at, if_neg hv, h0, if_pos rfl, numU_congr (Q := R) (fun q hq => upR_ne (by omega))]
    · unfold numU
      rw [numU_up hv h0 (by omega), upR_ne (by omega)]
      omega
theorem numU_lt {R : Rw} {s : Nat} (h0 : R (18 + 6 * s) = 0) : ∀ {n : Nat}, s < n → numU R n < n
  | 0, h => absurd h (by omega)
  | n + 1, h => by
    by_cases e : n = s
    · subst e
      have := numU_le R n
      unfold numU
      rw [h0, if_pos rfl]
      omega
    · have := numU_lt h0 (n := n) (by omega)
      unfold numU
      split <;> omega
theorem WF_nmS {B : Int} {R : Rw} {s : Nat} (W : WF B R) (hs : s < nS R) : WF B (nmS R s) := by
  by_cases hc : (lie R s (R 3) && decide (R (18 + 6 * s) = 0)) = true
  · have hn := nS_le W
    obtain ⟨w0, w1, w2, w3, w4, w5, w6, w7, w8, w9⟩ := W
    have h0 : R (18 + 6 * s) = 0 := by
      simp only [Bool.and_eq_true, decide_eq_true_eq] at hc
      exact hc.2
    have e0 : nmS R s 0 = R 0 := nmS_ne (by omega) (by omega)
    have en : nS (nmS R s) = nS R := by unfold nS; rw [e0]
    have hlt := numU_lt h0 hs
    have e7 : nmS R s 7 = R 7 + 1 := by
      unfold nmS
      rw [if_pos hc, upR_ne (by omega), upR_at]
    refine ⟨?_, ?_, ?_, ?_, ?_, ?_, ?_, ?_, fun w hw => ?_, fun q hq => ?_⟩
    · rw [e0]; exact w0
    · rw [nmS_ne (by omega) (by omega)]; exact w1
    · rw [nmS_ne (by omega) (by omega)]; exact w2
    · rw [nmS_ne (by omega) (by omega), nmS_ne (by omega) (by omega)]; exact w3
    · rw [nmS_ne (by omega) (by omega), nmS_ne (by omega) (by omega)]; exact w4
    · rw [nmS_ne (by omega) (by omega)]; exact w5
    · rw [nmS_ne (by omega) (by omega)]; exact w6
    · rw [e7, en]
      unfold nmS
      rw [if_pos hc, numU_up (by omega) (by rw [upR_ne (by omega)]; exact h0) hs, numU_congr (Q := R) (fun q _ => upR_ne (by omega)), w7]
      omega
    · rw [nmS_ne (by omega) (by omega)] at hw
      rw [nmS_ne (by omega) (by omega)]
      exact w8 w hw
    · rw [en] at hq
      have k := w9 q hq
      unfold ShOk at k ⊢
      rw [nmS_ne (by omega) (by omega), nmS_ne (by omega) (by omega), nmS_ne (by omega) (by omega), nmS_ne (by omega) (by omega), nmS_ne (s := s) (j := 19 + 6 * q) (by omega) (by omega)]
      refine ⟨k.1, k.2.1, k.2.2.1, k.2.2.2.1, ?_, k.2.2.2.2.2⟩
      by_cases e : q = s
      · subst e
        unfold nmS
        rw [if_pos hc, upR_at]
        omega
      · rw [nmS_ne (by omega) (by omega)]; exact k.2.2.2.2.1
  · unfold nmS
    rw [if_neg hc]
    exact W
theorem WF_nmU {B : Int} {R : Rw} (W : WF B R) : ∀ {n : Nat}, n ≤ nS R → WF B (nmU R n)
  | 0, _ => W
  | n + 1, h => WF_nmS (WF_nmU W (by omega)) (by rw [nS_nmU]; omega)
theorem WF_nmA {B : Int} {R : Rw} (W : WF B R) : WF B (nmA R) := by
  unfold nmA
  split
  · exact WF_nmU W (Nat.le_refl _)
  · exact W
theorem nmA_0 {R : Rw} {j : Nat} (h : j < 14) (h7 : j ≠ 7) : nmA R j = R j := by
  unfold nmA
  split
  · exact nmU_0 h h7
  · rfl
theorem WF_up {B B' : Int} {R : Rw} (W : WF B R) {v : Int} (h1 : 0 ≤ v) (h2 : v ≤ B') : WF B' (va_up R 6 v) := by
  obtain ⟨w0, w1, w2, w3, w4, w5, w6, w7, w8, w9⟩ := W
  have en : nS (va_up R 6 v) = nS R := by unfold nS; rw [upR_ne (by omega)]
  refine ⟨by rw [upR_ne (by omega)]; exact w0, by rw [upR_ne (by omega)]; exact w1, by rw [upR_ne (by omega)]; exact w2, by rw [upR_ne (by omega), upR_ne (by omega)]; exact w3, by rw [upR_ne (by omega), upR_ne (by omega)]; exact w4, by rw [upR_ne (by omega)]; exact w5, by rw [upR_at]; exact ⟨h1, h2⟩, ?_, fun w hw => ?_, fun q hq => ?_⟩
  · rw [upR_ne (by omega), en, w7, numU_congr (R := R) (Q := va_up R 6 v) (fun q _ => (upR_ne (by omega)).symm)]
  · rw [upR_ne (by omega)] at hw ⊢
    exact w8 w hw
  · rw [en] at hq
    have k := w9 q hq
    unfold ShOk at k ⊢
    rw [upR_ne (by omega), upR_ne (by omega), upR_ne (by omega), upR_ne (by omega), upR_ne (by omega), upR_ne (by omega)]
    exact k
theorem WF_hr {B : Int} {R : Rw} (W : WF B R) : WF (B + 1) (hr R) := by
  have h6 := W.2.2.2.2.2.2.1
  exact WF_up (WF_nmA (WF_dfU W (Nat.le_refl _))) (by omega) (by omega)
theorem hr_0 {R : Rw} {j : Nat} (h : j < 14) (h6 : j ≠ 6) (h7 : j ≠ 7) : hr R j = R j := by
  unfold hr
  rw [upR_ne h6, nmA_0 h h7, dfU_0 h]
theorem hr_6 {R : Rw} : hr R 6 = R 6 + 1 := upR_at
