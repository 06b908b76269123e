/-! ===== walks: the reference ===== -/
def offB (k k1 : Hp) : Prop := ∀ i, i ≠ 252 → i ≠ 255 → k1 i = k i
theorem offB.rf {k : Hp} : offB k k := fun _ _ _ => rfl
theorem offB.tr {k k1 k2 : Hp} (a : offB k k1) (b : offB k1 k2) : offB k k2 := fun i p q => (b i p q).trans (a i p q)
theorem offA.B {k k1 : Hp} (a : offA k k1 252) : offB k k1 := fun i p _ => a i p
theorem offB.sm {k k1 : Hp} (o : offB k k1) : SmM k k1 := fun i j q => by
  by_cases z : i = 252
  · subst z; cases q
  · by_cases y : i = 255
    · subst y; cases q
    · rw [o i z y]
theorem ix16 {t c : Nat} : (16 : Int32) * nI t + nI c = nI (16 * t + c) := by
  rw [I_nat, I_nat, I_nat, show (16 : Int32) = I 16 from rfl, I_mul, I_add]
  congr 1
theorem p3_le {m : Nat} (h : m ≤ 6) : 3 ^ m ≤ 729 := Nat.le_trans (Nat.pow_le_pow_right (by omega) h : 3 ^ m ≤ 3 ^ 6) (by decide)
theorem rn_L {B : Int} {Q : Rw} {L t : Nat} {v1 v2 : Int32} {K : Hp → Option (Int32 × Hp)} (W : WF B Q) (hL : (L : Int) = Q 2) (ht : t < 6) : ∀ (n c : Nat) (k : Hp), c ≤ L → L < n + c → k 250 2 = nI L → M0 k 252 Q → (∀ d, d < c → k 255 (16 * t + d) = I (ov Q d)) → ∃ k1, fX7_walk_L56 K n v1 v2 (nI t) (nI c) k = K k1 ∧ (∀ d, d < L → k1 255 (16 * t + d) = I (ov Q d)) ∧ offA k k1 255 ∧ (∀ j, j < 16 * t → k1 255 j = k 255 j) := by
  intro n
  induction n with
  | zero => intro c k h1 h2; omega
  | succ n ih =>
    intro c k h1 h2 hk M e
    have w2 := W.2.2.1
    have hk' : k 250 (2 : Int32).toNatClampNeg = nI L := hk
    rw [fX7_walk_L56, lb2 a250, chk_t, hk']
    by_cases z : c = L
    · rw [if_pos (by rw [z, t_le]; exact Int.le_refl _)]
      exact ⟨k, rfl, fun d hd => e d (by omega), offA.rf, fun j _ => rfl⟩
    · rw [if_neg (by rw [t_le, nI_toInt (by omega), nI_toInt (by omega)]; omega), m_ov W a252 M (by omega), bd_e, ix16, show lenM 255 = 96 from rfl, inb_n (by omega) (by omega), chk_t, cl_n (by omega), lk_e, lk_e, nI_1]
      obtain ⟨k1, x1, x2, x3, x4⟩ := ih (c + 1) (up2 k 255 (16 * t + c) (I (ov Q c))) (by omega) (by omega) (by rw [up2_ne (by omega)]; exact hk) (fun j hj => by rw [up2_ne (by omega)]; exact M j hj) (fun d hd => by
        rw [up2_at]
        by_cases y : d = c
        · rw [if_pos ⟨rfl, by omega⟩, y]
        · rw [if_neg (by omega)]; exact e d (by omega))
      refine ⟨k1, x1, x2, (offA.rf.up).tr x3, fun j hj => ?_⟩
      rw [x4 j hj, up2_at, if_neg (by omega)]
theorem rh_L {R : Rw} {n : Nat} {v2 : Int32} {K : Hp → Option (Int32 × Hp)} (W : WF 999 R) (hn : n ≤ 6) : ∀ (f t : Nat) (k : Hp), t ≤ n → n < f + t → M0 k 250 R → M0 k 252 (hrN R t) → (∀ s d, s < t → d < (R 2).toNat → k 255 (16 * s + d) = I (ov (hrN R (s + 1)) d)) → ∃ k1, fX7_walk_L41 K f (nI n) v2 (nI t) k = K k1 ∧ (∀ s d, s < n → d < (R 2).toNat → k1 255 (16 * s + d) = I (ov (hrN R (s + 1)) d)) ∧ offB k k1 := by
  intro f
  induction f with
  | zero => intro t k h1 h2; omega
  | succ f ih =>
    intro t k h1 h2 M0' M e
    have w2 := W.2.2.1
    rw [fX7_walk_L41]
    by_cases z : t = n
    · subst z
      rw [if_pos (by rw [t_le]; exact Int.le_refl _)]
      exact ⟨k, rfl, e, offB.rf⟩
    · obtain ⟨k1, a1, a2, a3⟩ := m_hour (WF_hrN W t) (by omega) a252 M
      rw [if_neg (by rw [t_le, nI_toInt (by omega), nI_toInt (by omega)]; omega), a1, bd_e]
      have r2 : k1 250 2 = nI (R 2).toNat := by rw [a3 250 (by omega), M0' 2 (by omega), I_n (by omega)]
      obtain ⟨k2, b1, b2, b3, b4⟩ := rn_L (L := (R 2).toNat) (t := t) (v1 := nI n) (v2 := v2) (K := fun kk78 => lk (nI t + 1) fun x86 => fX7_walk_L41 K f (nI n) v2 x86 kk78) (WF_hrN W (t + 1)) (by rw [R2_hrN]; omega) (by omega) 4096 0 k1 (by omega) (by omega) r2 a2 (fun d hd => absurd hd (by omega))
      rw [nI_0] at b1
      rw [b1, lk_e, nI_1]
      obtain ⟨k3, d1, d2, d3⟩ := ih (t + 1) k2 (by omega) (by omega) (fun j hj => by rw [b3 250 (by omega), a3 250 (by omega)]; exact M0' j hj) (fun j hj => by rw [b3 252 (by omega)]; exact a2 j hj) (fun s d p q => by
        by_cases y : s = t
        · subst y; exact b2 d q
        · rw [b4 _ (by omega), a3 255 (by omega)]; exact e s d (by omega) q)
      exact ⟨k3, d1, d2, (a3.B.tr (fun i p q => b3 i q)).tr d3⟩
theorem nI_m3 {t : Nat} : nI (3 ^ t) * 3 = nI (3 ^ (t + 1)) := by
  rw [I_nat, I_nat, show (3 : Int32) = I 3 from rfl, I_mul, p3s]
  congr 1
  omega
theorem ways_L {n : Nat} {v2 : Int32} {k : Hp} {K : Int32 → Hp → Option (Int32 × Hp)} (hn : n ≤ 6) : ∀ (f t : Nat), t ≤ n → n < f + t → fX7_walk_L105 K f (nI n) v2 (nI (3 ^ t)) (nI t) k = K (nI (3 ^ n)) k := by
  intro f
  induction f with
  | zero => intro t h1 h2; omega
  | succ f ih =>
    intro t h1 h2
    rw [fX7_walk_L105]
    by_cases z : t = n
    · subst z
      rw [if_pos (by rw [t_le]; exact Int.le_refl _)]
    · rw [if_neg (by rw [t_le, nI_toInt (by omega), nI_toInt (by omega)]; omega), lk_e, lk_e, nI_m3, nI_1]
      exact ih (t + 1) (by omega) (by omega)
theorem by_1 {m : Nat} (hm : m ≤ 6) (h : nI (3 ^ m) ≤ 1) : (1 : Int32) = nI (3 ^ (m - 1)) := by
  have := p3_le hm
  rw [t_le, nI_toInt (by omega)] at h
  have h' : ((3 ^ m : Nat) : Int) ≤ 1 := h
  cases m with
  | zero => rfl
  | succ m =>
    have := p3 (m := m)
    rw [p3s] at h'
    omega
theorem by_3 {m : Nat} (hm : m ≤ 6) (h1 : 1 ≤ m) : nI (3 ^ m) / 3 = nI (3 ^ (m - 1)) := by
  have := p3_le hm
  rw [show (3 : Int32) = nI 3 from rfl, pk_div (by omega) (by omega) (by omega)]
  cases m with
  | zero => omega
  | succ m =>
    rw [p3s, Nat.mul_div_cancel_left _ (by omega)]
    rfl
theorem by_2 {m : Nat} (hm : m ≤ 6) (h : ¬ nI (3 ^ m) ≤ 1) : nI (3 ^ m) / 3 = nI (3 ^ (m - 1)) := by
  refine by_3 hm ?_
  cases m with
  | zero => exact absurd (show nI (3 ^ 0) ≤ (1 : Int32) by decide) h
  | succ m => omega
theorem in0 {n w : Nat} {v2 v3 v4 v5 : Int32} {k : Hp} {K : Int32 → Int32 → Hp → Option (Int32 × Hp)} (hn : n ≤ 6) : ∀ (f m t : Nat) (x s : Int32), t + m = n → m < f → fX7_walk_L159 K f (nI n) v2 v3 v4 v5 (nI w) x (nI (3 ^ (m - 1))) s 0 (nI t) k = K s 0 k := by
  intro f
  induction f with
  | zero => intro m t x s h1 h2; omega
  | succ f ih =>
    intro m t x s h1 h2
    rw [fX7_walk_L159]
    by_cases z : m = 0
    · rw [if_pos (by rw [show t = n by omega, t_le]; exact Int.le_refl _)]
    · have b := p3_le (m := m - 1) (by omega)
      have c := p3 (m := m - 1)
      rw [if_neg (by rw [t_le, nI_toInt (by omega), nI_toInt (by omega)]; omega), nz_n c (by omega), chk_t, lk_e]
      dsimp only [jp_e]
      by_cases q : nI (3 ^ (m - 1)) ≤ 1
      · rw [if_pos q, if_pos rfl, if_pos rfl, lk_e, lk_e, nI_1, by_1 (by omega) q, Int32.add_zero]
        exact ih (m - 1) (t + 1) _ s (by omega) (by omega)
      · rw [if_neg q, if_pos rfl, if_pos rfl, lk_e, lk_e, nI_1, by_2 (by omega) q, Int32.add_zero]
        exact ih (m - 1) (t + 1) _ s (by omega) (by omega)
def wP (R : Rw) (n : Nat) : Nat → Int → Int := fun m x => ov (hrN R (n - 1 - m + 1)) x
theorem wP_b {R : Rw} {n m : Nat} {x : Int} (W : WF 999 R) : 0 ≤ wP R n m x ∧ wP R n m x ≤ 54 := by
  have WT := WF_hrN W (n - 1 - m + 1)
  have b := ovU_b (c := x) WT _ (Nat.le_refl _)
  have h6 := nS_le WT
  unfold wP ov
  omega
theorem vl_b {P : Nat → Int → Int} {L : Int} (hP : ∀ m x, 0 ≤ P m x ∧ P m x ≤ 54) : ∀ (m : Nat) (c : Int) (w : Nat), 0 ≤ vl P m c w ∧ vl P m c w ≤ 54 * m
  | 0, c, w => ⟨Int.le_refl _, by show (0 : Int) ≤ _; omega⟩
  | m + 1, c, w => by
    have a := hP m (c + ((w / 3 ^ m : Nat) : Int) - 1)
    have i := vl_b (L := L) hP m (c + ((w / 3 ^ m : Nat) : Int) - 1) (w % 3 ^ m)
    show 0 ≤ P m (c + ((w / 3 ^ m : Nat) : Int) - 1) + vl P m (c + ((w / 3 ^ m : Nat) : Int) - 1) (w % 3 ^ m) ∧ P m (c + ((w / 3 ^ m : Nat) : Int) - 1) + vl P m (c + ((w / 3 ^ m : Nat) : Int) - 1) (w % 3 ^ m) ≤ _
    omega
theorem dgt {w m : Nat} : (w % 3 ^ (m + 1)) / 3 ^ m = w / 3 ^ m % 3 ∧ (w % 3 ^ (m + 1)) % 3 ^ m = w % 3 ^ m := by
  constructor
  · rw [p3s, Nat.mul_comm, Nat.mod_mul_right_div_self]
  · exact Nat.mod_mod_of_dvd _ (Nat.pow_dvd_pow 3 (by omega))
theorem in1 {R : Rw} {n w : Nat} {v2 v3 v4 v5 : Int32} {k : Hp} {K : Int32 → Int32 → Hp → Option (Int32 × Hp)} (W : WF 999 R) (M : M0 k 250 R) (hn : n ≤ 6) (hw : w < 729) (hO : ∀ s d, s < n → d < (R 2).toNat → k 255 (16 * s + d) = I (ov (hrN R (s + 1)) d)) : ∀ (f m t : Nat) (x s : Int), t + m = n → m < f → 0 ≤ x → x < R 2 → ∃ s', fX7_walk_L159 K f (nI n) v2 v3 v4 v5 (nI w) (I x) (nI (3 ^ (m - 1))) (I s) 1 (nI t) k = K (I s') (b32 (okw (R 2) m x (w % 3 ^ m))) k ∧ (okw (R 2) m x (w % 3 ^ m) = true → s' = s + vl (wP R n) m x (w % 3 ^ m)) := by
  intro f
  induction f with
  | zero => intro m t x s h1 h2; omega
  | succ f ih =>
    intro m t x s h1 h2 h3 h4
    have w2 := W.2.2.1
    rw [fX7_walk_L159]
    cases m with
    | zero =>
      rw [if_pos (by rw [show t = n by omega, t_le]; exact Int.le_refl _)]
      exact ⟨s, rfl, fun _ => by show s = s + 0; omega⟩
    | succ m =>
      have b := p3_le (m := m) (by omega)
      have c := p3 (m := m)
      have dl := Nat.mod_lt (w / 3 ^ m) (show 0 < 3 by omega)
      have wl : w / 3 ^ m ≤ w := Nat.div_le_self _ _
      obtain ⟨d, hd⟩ : ∃ d, d = w / 3 ^ m % 3 := ⟨_, rfl⟩
      have u1 : okw (R 2) (m + 1) x (w % 3 ^ (m + 1)) = (decide (0 ≤ x + (d : Int) - 1 ∧ x + (d : Int) - 1 < R 2) && okw (R 2) m (x + (d : Int) - 1) (w % 3 ^ m)) := by
        show (decide _ && okw (R 2) m _ _) = _
        rw [dgt.1, dgt.2, ← hd]
      have u2 : vl (wP R n) (m + 1) x (w % 3 ^ (m + 1)) = wP R n m (x + (d : Int) - 1) + vl (wP R n) m (x + (d : Int) - 1) (w % 3 ^ m) := by
        show wP R n m _ + vl (wP R n) m _ _ = _
        rw [dgt.1, dgt.2, ← hd]
      have ex : I x + (irm (nI w / nI (3 ^ (m + 1 - 1))) 3 - 1) = I (x + (d : Int) - 1) := by
        rw [show m + 1 - 1 = m from rfl, pk_div (by omega) c (by omega), show (3 : Int32) = nI 3 from rfl, irm_n (by omega) (by omega) (by omega), ← hd, I_nat, I_1, I_sub, I_add]
        congr 1
        omega
      rw [u1, u2, if_neg (by rw [t_le, nI_toInt (by omega), nI_toInt (by omega)]; omega), show m + 1 - 1 = m from rfl, nz_n c (by omega), chk_t, show m = m + 1 - 1 from rfl, ex, show m + 1 - 1 = m from rfl, lk_e]
      dsimp only [jp_e]
      have ci := cellI (x := x + (d : Int) - 1) W M (by omega) (by omega)
      by_cases q8 : nI (3 ^ m) ≤ 1
      · have e8 := by_1 (m := m) (by omega) q8
        rw [if_pos q8, if_neg (show ¬ (1 : Int32) = 0 by decide), ci, bd_e, if_b]
        by_cases q : 0 ≤ x + (d : Int) - 1 ∧ x + (d : Int) - 1 < R 2
        · have ov1 : k 255 (16 * t + (x + (d : Int) - 1).toNat) = I (wP R n m (x + (d : Int) - 1)) := by
            rw [hO t _ (by omega) (by omega)]
            unfold wP
            rw [show n - 1 - m + 1 = t + 1 by omega, show (((x + (d : Int) - 1).toNat : Nat) : Int) = x + (d : Int) - 1 by omega]
          rw [if_pos (decide_eq_true q), if_neg (show ¬ (1 : Int32) = 0 by decide), I_n q.1, ix16, show lenM 255 = 96 from rfl, inb_n (by omega) (by omega), chk_t, cl_n (by omega), ov1, I_add, lk_e, lk_e, nI_1, ← I_n q.1, decide_eq_true q, Bool.true_and]
          obtain ⟨s', y1, y2⟩ := ih m (t + 1) (x + (d : Int) - 1) (s + wP R n m (x + (d : Int) - 1)) (by omega) (by omega) q.1 q.2
          rw [← e8] at y1
          exact ⟨s', y1, fun z => by rw [y2 z]; omega⟩
        · have y1 := in0 (v2 := v2) (v3 := v3) (v4 := v4) (v5 := v5) (w := w) (k := k) (K := K) hn f m (t + 1) (I (x + (d : Int) - 1)) (I s) (by omega) (by omega)
          rw [← e8] at y1
          rw [if_neg (by simpa using q), if_pos rfl, lk_e, lk_e, nI_1, Int32.add_zero, decide_eq_false q, Bool.false_and]
          exact ⟨s, y1, fun z => by cases z⟩
      · have e8 := by_2 (m := m) (by omega) q8
        rw [if_neg q8, if_neg (show ¬ (1 : Int32) = 0 by decide), ci, bd_e, if_b]
        by_cases q : 0 ≤ x + (d : Int) - 1 ∧ x + (d : Int) - 1 < R 2
        · have ov1 : k 255 (16 * t + (x + (d : Int) - 1).toNat) = I (wP R n m (x + (d : Int) - 1)) := by
            rw [hO t _ (by omega) (by omega)]
            unfold wP
            rw [show n - 1 - m + 1 = t + 1 by omega, show (((x + (d : Int) - 1).toNat : Nat) : Int) = x + (d : Int) - 1 by omega]
          rw [if_pos (decide_eq_true q), if_neg (show ¬ (1 : Int32) = 0 by decide), I_n q.1, ix16, show lenM 255 = 96 from rfl, inb_n (by omega) (by omega), chk_t, cl_n (by omega), ov1, I_add, lk_e, lk_e, nI_1, ← I_n q.1, decide_eq_true q, Bool.true_and]
          obtain ⟨s', y1, y2⟩ := ih m (t + 1) (x + (d : Int) - 1) (s + wP R n m (x + (d : Int) - 1)) (by omega) (by omega) q.1 q.2
          rw [← e8] at y1
          exact ⟨s', y1, fun z => by rw [y2 z]; omega⟩
        · have y1 := in0 (v2 := v2) (v3 := v3) (v4 := v4) (v5 := v5) (w := w) (k := k) (K := K) hn f m (t + 1) (I (x + (d : Int) - 1)) (I s) (by omega) (by omega)
          rw [← e8] at y1
          rw [if_neg (by simpa using q), if_pos rfl, lk_e, lk_e, nI_1, Int32.add_zero, decide_eq_false q, Bool.false_and]
          exact ⟨s, y1, fun z => by cases z⟩
