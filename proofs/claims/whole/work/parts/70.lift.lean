def liU (R : Rw) (m : Nat) : Nat → Rw
  | 0 => R
  | s + 1 => if inB R s = true then va_up (liU R m s) (19 + 6 * s) (if m.testBit s = true then 0 else 1) else liU R m s
theorem liU_ne {R : Rw} {m j : Nat} : ∀ {n : Nat}, (∀ s, s < n → j ≠ 19 + 6 * s) → liU R m n j = R j
  | 0, _ => rfl
  | n + 1, h => by
    unfold liU
    split
    · rw [upR_ne (h n (by omega))]; exact liU_ne (fun s hs => h s (by omega))
    · exact liU_ne (fun s hs => h s (by omega))
theorem liU_at {R : Rw} {m s : Nat} : ∀ {n : Nat}, s < n → liU R m n (19 + 6 * s) = (if inB R s = true then (if m.testBit s = true then 0 else 1) else R (19 + 6 * s))
  | 0, h => absurd h (by omega)
  | n + 1, h => by
    unfold liU
    by_cases e : s = n
    · subst e
      by_cases q : inB R s = true
      · rw [if_pos q, if_pos q, upR_at]
      · rw [if_neg q, if_neg q]; exact liU_ne (fun x hx => by omega)
    · have i := liU_at (R := R) (m := m) (n := n) (s := s) (by omega)
      split
      · rw [upR_ne (by omega)]; exact i
      · exact i
theorem WF_liU {B : Int} {R : Rw} {m n : Nat} (W : WF B R) (hn : n ≤ nS R) : WF B (liU R m n) := by
  have w1 := W.2.1
  have z : ∀ j, j < 14 → liU R m n j = R j := fun j hj => liU_ne (fun s _ => by omega)
  refine W.mod (z 0 (by omega)) (z 1 (by omega)) (z 2 (by omega)) (by rw [z 3 (by omega)]; exact W.2.2.2.1) (by rw [z 4 (by omega)]; exact W.2.2.2.2.1) (by rw [z 5 (by omega)]; exact W.2.2.2.2.2.1) (z 6 (by omega)) (z 7 (by omega)) (fun w hw => by rw [z _ (by omega)]; exact W.2.2.2.2.2.2.2.2.1 w hw) (fun q hq => ?_) (fun q hq => liU_ne (fun s _ => by omega))
  have k := sh W hq
  unfold ShOk at k ⊢
  rw [liU_ne (fun s _ => by omega), liU_ne (fun s _ => by omega), liU_ne (fun s _ => by omega), liU_ne (fun s _ => by omega), liU_ne (fun s _ => by omega)]
  refine ⟨k.1, k.2.1, k.2.2.1, k.2.2.2.1, k.2.2.2.2.1, ?_⟩
  by_cases e : q < n
  · rw [liU_at e]
    split
    · split <;> omega
    · exact k.2.2.2.2.2
  · rw [liU_ne (fun s hs => by omega)]; exact k.2.2.2.2.2
def lfS (R : Rw) (m n s : Nat) : Bool := inB R s && (decide (s < n) && m.testBit s)
theorem As_liU {R : Rw} {m n : Nat} : As (lfS R m n) (liU R m n) R := by
  refine ⟨fun j hj _ => liU_ne (fun s _ => by omega), fun s hs => ⟨liU_ne (fun s _ => by omega), liU_ne (fun s _ => by omega), liU_ne (fun s _ => by omega), liU_ne (fun s _ => by omega), ?_⟩, fun s hs => ?_⟩
  · by_cases e : s < n
    · rw [liU_at e]
      by_cases q : inB R s = true
      · unfold lfS at hs
        rw [q, decide_eq_true e, Bool.true_and, Bool.true_and] at hs
        rw [if_pos q, hs, if_neg (by decide)]
        have := of_decide_eq_true q
        omega
      · rw [if_neg q]
    · exact liU_ne (fun x hx => by omega)
  · unfold lfS at hs
    simp only [Bool.and_eq_true, decide_eq_true_eq] at hs
    rw [liU_at hs.2.1, if_pos hs.1, if_pos hs.2.2]
    omega
theorem in_hrN {B : Int} {R : Rw} {t s : Nat} {c : Int} (W : WF B R) (h : lie (hrN R t) s c = true) : inB R s = true := by
  have a : As (fun s => !inB R s) R R := ⟨fun _ _ _ => rfl, fun _ _ => ⟨rfl, rfl, rfl, rfl, rfl⟩, fun s hs q => by
    have this : inB R s = true := decide_eq_true q
    have hs : (!inB R s) = true := hs
    rw [this] at hs
    cases hs⟩
  have l := As_lie (s := s) (c := c) (As_hrN W a t)
  rw [h] at l
  cases q : inB R s
  · rw [q] at l; cases l
  · rfl
theorem ovU_0 {B : Int} {R : Rw} {c : Int} (W : WF B R) : ∀ n, n ≤ nS R → (ovU R c n = 0 ↔ ∀ s, s < n → lie R s c = false)
  | 0, _ => ⟨fun _ s hs => absurd hs (by omega), fun _ => rfl⟩
  | n + 1, h => by
    have i := ovU_0 (c := c) W n (by omega)
    have b := ovU_b (c := c) W n (by omega)
    have k := (sh W (show n < nS R by omega)).2.2.2.1
    have u : ovU R c (n + 1) = ovU R c n + (if lie R n c = true then R (17 + 6 * n) else 0) := rfl
    rw [u]
    by_cases q : lie R n c = true
    · rw [if_pos q]
      constructor
      · intro z; omega
      · intro z; have := z n (by omega); rw [q] at this; cases this
    · rw [if_neg q]
      constructor
      · intro z s hs
        by_cases e : s = n
        · subst e; simpa using q
        · exact i.mp (by omega) s (by omega)
      · intro z
        have := i.mpr (fun s hs => z s (by omega))
        omega
def w7 (R : Rw) (p s : Nat) (b : Bool) : Nat := if inB R s = true then (if b = true then p else 10 - p) else (if b = true then 0 else 1)
def w5 (R : Rw) (D : Nat → Bool) (p s : Nat) (b : Bool) : Nat := if D s = true ∧ b = false then 0 else w7 R p s b
def wt (R : Rw) (p m s : Nat) : Nat := if inB R s = true then (if m.testBit s = true then p else 10 - p) else 1
theorem pr_le {f : Nat → Nat} (h : ∀ s, f s ≤ 10) : ∀ n, pr f n ≤ 10 ^ n
  | 0 => Nat.le_refl _
  | n + 1 => by
    show pr f n * f n ≤ _
    rw [Nat.pow_succ]
    exact Nat.mul_le_mul (pr_le h n) (h n)
theorem wt_b {R : Rw} {p m s : Nat} (hp : p ≤ 10) : wt R p m s ≤ 10 := by unfold wt; split <;> (try split) <;> omega
theorem p6b {n : Nat} (h : n ≤ 6) : 10 ^ n ≤ 1000000 := Nat.pow_le_pow_right (n := 10) (by omega) h
theorem lf_L {R : Rw} {m p : Nat} {v1 v2 v4 : Int32} {v5 v7 : Int64} {K : Int64 → Hp → Option (Int64 × Hp)} (W : WF 999 R) (hp : p ≤ 10) (hm : m < 64) : ∀ (n s : Nat) (k : Hp), s ≤ nS R → nS R < n + s → M0 k 250 R → M0 k 252 (liU R m s) → ∃ k1, fX7_lift_L99 K n v1 v2 (nI p) v4 v5 v7 (nI m) (LL (pr (wt R p m) s)) (nI s) k = K (LL (pr (wt R p m) (nS R))) k1 ∧ M0 k1 252 (liU R m (nS R)) ∧ offA k k1 252 := by
  intro n
  induction n with
  | zero => intro s k h1 h2; omega
  | succ n ih =>
    intro s k h1 h2 M M2
    have h6 := nS_le W
    rw [fX7_lift_L99, lb0 a250, chk_t, M_n W M]
    by_cases e : s = nS R
    · subst e
      rw [if_pos (by rw [t_le]; exact Int.le_refl _)]
      exact ⟨k, rfl, M2, offA.rf⟩
    · have pb : pr (wt R p m) s ≤ 10 ^ s := pr_le (fun s => wt_b (R := R) (m := m) (s := s) hp) s
      have p6 := p6b (show s ≤ 6 by omega)
      have u : liU R m (s + 1) = if inB R s = true then va_up (liU R m s) (19 + 6 * s) (if m.testBit s = true then 0 else 1) else liU R m s := rfl
      have up : pr (wt R p m) (s + 1) = pr (wt R p m) s * wt R p m s := rfl
      have eb : ∀ (v : Int32), fX7_be 252 (nI s) 5 v k = some ((), up2 k 252 (19 + 6 * s) v) := fun v => by
        have := m_be (k := k) (s := s) (v := v) 5 a252 (by omega)
        rw [show 14 + 6 * s + 5 = 19 + 6 * s by omega] at this
        exact this
      rw [if_neg (by rw [t_le, nI_toInt (by omega), nI_toInt (by omega)]; omega), m_isIn W a250 M (by omega), bd_e]
      dsimp only [jp_e]
      rw [if_b]
      by_cases q : inB R s = true
      · rw [if_pos (show decide (R (19 + 6 * s) = 1) = true from q), m_has (by omega) (by omega), bd_e, if_b]
        by_cases z : m.testBit s = true
        · have wte : wt R p m s = p := by unfold wt; rw [if_pos q, if_pos z]
          rw [if_pos z, LL_w (by omega), LL_mul (by rw [wte] at up; exact Nat.lt_of_le_of_lt (Nat.mul_le_mul (Nat.le_trans pb p6) hp) (by omega)) (by omega) (by omega), lk_e, m_has (by omega) (by omega), bd_e, if_b, if_pos z, eb, bd_e, lk_e, nI_1, show pr (wt R p m) s * p = pr (wt R p m) (s + 1) by rw [up, wte]]
          obtain ⟨k1, x1, x2, x3⟩ := ih (s + 1) (up2 k 252 (19 + 6 * s) 0) (by omega) (by omega) (fun j hj => by rw [up2_ne (by omega)]; exact M j hj) (by rw [u, if_pos q, if_pos z]; exact M2.up (v := 0))
          exact ⟨k1, x1, x2, (offA.rf.up).tr x3⟩
        · have wte : wt R p m s = 10 - p := by unfold wt; rw [if_pos q, if_neg z]
          have es : (10 : Int64) - (nI p).toInt64 = LL (10 - p) := by rw [LL_w (by omega), show (10 : Int64) = LL 10 from rfl, LL_sub (by omega) hp]
          rw [if_neg z, es, LL_mul (Nat.lt_of_le_of_lt (Nat.mul_le_mul (Nat.le_trans pb p6) (Nat.sub_le 10 p)) (by omega)) (by omega) (by omega), lk_e, m_has (by omega) (by omega), bd_e, if_b, if_neg z, eb, bd_e, lk_e, nI_1, show pr (wt R p m) s * (10 - p) = pr (wt R p m) (s + 1) by rw [up, wte]]
          obtain ⟨k1, x1, x2, x3⟩ := ih (s + 1) (up2 k 252 (19 + 6 * s) 1) (by omega) (by omega) (fun j hj => by rw [up2_ne (by omega)]; exact M j hj) (by rw [u, if_pos q, if_neg z]; exact M2.up (v := 1))
          exact ⟨k1, x1, x2, (offA.rf.up).tr x3⟩
      · have wte : wt R p m s = 1 := by unfold wt; rw [if_neg q]
        rw [if_neg (show ¬ decide (R (19 + 6 * s) = 1) = true from q), lk_e, nI_1, show pr (wt R p m) s = pr (wt R p m) (s + 1) by rw [up, wte, Nat.mul_one]]
        obtain ⟨k1, x1, x2, x3⟩ := ih (s + 1) k (by omega) (by omega) M (by rw [u, if_neg q]; exact M2)
        exact ⟨k1, x1, x2, x3⟩
