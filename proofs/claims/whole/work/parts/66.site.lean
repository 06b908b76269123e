/-! ===== site ===== -/
theorem bs_or2 {f g : Nat → Bool} : ∀ {n : Nat}, bs f n ||| bs g n = bs (fun i => f i || g i) n := by
  intro n
  apply Nat.eq_of_testBit_eq
  intro i
  rw [Nat.testBit_or, bs_bit, bs_bit, bs_bit]
  cases decide (i < n) <;> simp
def offS (h h1 : Hp) : Prop := ∀ i, ¬ (14 ≤ i ∧ i < 21) → i ≠ 226 → h1 i = h i
theorem offS.rf {h : Hp} : offS h h := fun _ _ _ => rfl
theorem offS.tr {h h1 h2 : Hp} (a : offS h h1) (b : offS h1 h2) : offS h h2 := fun i p q => (b i p q).trans (a i p q)
theorem off7.S {h h1 : Hp} (a : off7 h h1 14) : offS h h1 := fun i p _ => a i (by omega)
theorem offS.up {h h1 : Hp} {j : Nat} {v : Int32} (a : offS h h1) : offS h (up2 h1 226 j v) := fun i p q => by rw [up2_ne q]; exact a i p q
theorem offS.sm {h h1 : Hp} (o : offS h h1) : SmC h h1 := fun i j q => by
  by_cases z : i = 226
  · subst z; cases q
  · by_cases w : 14 ≤ i ∧ i < 21
    · have : sigC i j = false := by
        unfold sigC
        have a : ¬ i < 7 := by omega
        have b : ¬ 21 ≤ i := by omega
        have c : ¬ 230 ≤ i := by omega
        have d1 : ¬ i = 205 := by omega
        have d2 : ¬ i = 206 := by omega
        have d3 : ¬ i = 207 := by omega
        have d4 : ¬ i = 228 := by omega
        have d5 : ¬ i = 229 := by omega
        simp [a, b, c, d1, d2, d3, d4, d5]
      rw [this] at q
      cases q
    · rw [o i w z]
theorem Rep.S {h h1 : Hp} {R : Rw} (H : Rep h 0 R) (o : offS h h1) : Rep h1 0 R := H.cg (fun i j _ q => by rw [o i (by omega) (by omega)])
def acM (R : Rw) (c t : Nat) : Nat := bs (acS R (c : Int) t) (nS R)
theorem acM_s {R : Rw} {c t : Nat} (q : awk (hrN R t) = true) : acM R c t ||| bs (onB (hrN R (t + 1)) c) (nS R) = acM R c (t + 1) := by
  unfold acM
  rw [bs_or2]
  refine bs_congr (fun i hi => ?_)
  show _ = (acS R c t i || (awk (hrN R t) && lie (hrN R (t + 1)) i c))
  rw [q, Bool.true_and]
  rfl
theorem acM_n {R : Rw} {c t : Nat} (q : ¬ awk (hrN R t) = true) : acM R c (t + 1) = acM R c t := by
  unfold acM
  refine bs_congr (fun i hi => ?_)
  show (acS R c t i || (awk (hrN R t) && lie (hrN R (t + 1)) i c)) = _
  have : awk (hrN R t) = false := by simpa using q
  rw [this, Bool.false_and, Bool.or_false]
/-- the class adds what lies on each cell -/
theorem sit_in {B : Int} {R : Rw} {t : Nat} {v2 v3 v4 : Int32} {K : Hp → Option (Int32 × Hp)} (W : WF B R) (qa : awk (hrN R t) = true) : ∀ (n c : Nat) (h : Hp), c ≤ (R 2).toNat → (R 2).toNat < n + c → Rep h 0 R → Rep h 14 (hrN R (t + 1)) → (∀ d, d < (R 2).toNat → h 226 d = nI (acM R d (if d < c then t + 1 else t))) → ∃ h1, fX3_bestStand_L47 K n 0 v2 v3 v4 1 (nI c) h = K h1 ∧ Rep h1 14 (hrN R (t + 1)) ∧ (∀ d, d < (R 2).toNat → h1 226 d = nI (acM R d (t + 1))) ∧ offS h h1 := by
  intro n
  induction n with
  | zero => intro c h h1 h2; omega
  | succ n ih =>
    intro c h h1 h2 H0 H e
    have w2 := W.2.2.1
    rw [fX3_bestStand_L47, if_neg (show ¬ (1 : Int32) = 0 by decide), R_c W H0]
    by_cases ec : c = (R 2).toNat
    · rw [if_pos (by rw [ec, t_le]; exact Int.le_refl _)]
      refine ⟨h, rfl, H, fun d hd => ?_, offS.rf⟩
      rw [e d hd, if_pos (by omega)]
    · have co := c_on (c := (c : Int)) (WF_hrN W (t + 1)) e14E H (by omega) (by omega)
      rw [← I_nat, nS_hrN] at co
      rw [if_neg (by rw [t_le, nI_toInt (by omega), nI_toInt (by omega)]; omega), show lenC 226 = 16 from rfl, inb_n (by omega) (by omega), chk_t, co, bd_e, chk_t, cl_n (by omega), e c (by omega), if_neg (by omega), or_n, acM_s qa, lk_e, lk_e, nI_1]
      obtain ⟨h2', x1, x2, x3, x4⟩ := ih (c + 1) (up2 h 226 c (nI (acM R c (t + 1)))) (by omega) (by omega) (H0.cg (fun i j _ q => by rw [up2_ne (by omega)])) (H.cg (fun i j _ q => by rw [up2_ne (by omega)])) (fun d hd => by
        rw [up2_at]
        by_cases z : d = c
        · subst z; rw [if_pos ⟨rfl, rfl⟩, if_pos (by omega)]
        · rw [if_neg (by omega), e d hd]
          by_cases y : d < c
          · rw [if_pos y, if_pos (by omega)]
          · rw [if_neg y, if_neg (by omega)])
      exact ⟨h2', x1, x2, x3, (offS.rf.up).tr x4⟩
theorem sit_L {B : Int} {R : Rw} {T : Nat} {v3 : Int32} {K : Hp → Option (Int32 × Hp)} (W : WF B R) (hB : B + T ≤ 5000) (hT : T ≤ 30) : ∀ (n t : Nat) (h : Hp), t ≤ T → T < n + t → Rep h 0 R → Rep h 14 (hrN R t) → (∀ d, d < (R 2).toNat → h 226 d = nI (acM R d t)) → ∃ h1, fX3_bestStand_L22 K n 0 (nI T) v3 (nI t) h = K h1 ∧ (∀ d, d < (R 2).toNat → h1 226 d = nI (acM R d T)) ∧ offS h h1 := by
  intro n
  induction n with
  | zero => intro t h h1 h2; omega
  | succ n ih =>
    intro t h h1 h2 H0 H e
    have w2 := W.2.2.1
    rw [fX3_bestStand_L22]
    by_cases et : t = T
    · subst et
      rw [if_pos (by rw [t_le]; exact Int.le_refl _)]
      exact ⟨h, rfl, e, offS.rf⟩
    · obtain ⟨hA, f1, f2, f3⟩ := c_hour (WF_hrN W t) (by omega) e14E H
      rw [if_neg (by rw [t_le, nI_toInt (by omega), nI_toInt (by omega)]; omega), c_awk (WF_hrN W t) (by omega) H, bd_e, f1, bd_e]
      have e' : ∀ d, d < (R 2).toNat → hA 226 d = nI (acM R d t) := fun d hd => by rw [f3 226 (by omega)]; exact e d hd
      have H0' : Rep hA 0 R := H0.S f3.S
      by_cases q : awk (hrN R t) = true
      · obtain ⟨hB', x1, x2, x3, x4⟩ := sit_in (v2 := nI T) (v3 := v3) (v4 := nI t) (K := fun hh78 => lk (nI t + (1 : Int32)) fun x86 => fX3_bestStand_L22 K n 0 (nI T) v3 x86 hh78) W q 4096 0 hA (by omega) (by omega) H0' f2 (fun d hd => by rw [if_neg (by omega)]; exact e' d hd)
        rw [nI_0] at x1
        rw [q, b32_t, x1, lk_e, nI_1]
        obtain ⟨hC, y1, y2, y3⟩ := ih (t + 1) hB' (by omega) (by omega) (H0'.S x4) x2 x3
        exact ⟨hC, y1, y2, (f3.S.tr x4).tr y3⟩
      · have q2 : awk (hrN R t) = false := by simpa using q
        have s0 : ∀ m, 0 < m → fX3_bestStand_L47 (fun hh78 => lk (nI t + (1 : Int32)) fun x86 => fX3_bestStand_L22 K n 0 (nI T) v3 x86 hh78) m 0 (nI T) v3 (nI t) 0 0 hA = fX3_bestStand_L22 K n 0 (nI T) v3 (nI t + 1) hA := by
          intro m hm
          cases m with
          | zero => omega
          | succ m => rw [fX3_bestStand_L47, if_pos rfl, lk_e]
        rw [q2, b32_f, s0 4096 (by omega), nI_1]
        obtain ⟨hC, y1, y2, y3⟩ := ih (t + 1) hA (by omega) (by omega) H0' f2 (fun d hd => by rw [e' d hd, acM_n q])
        exact ⟨hC, y1, y2, f3.S.tr y3⟩
def bF (f : Nat → Nat) : Nat → Nat → Nat → Nat
  | 0, _, m => m
  | d + 1, c, m => bF f d (c + 1) (if f c ≤ f m then m else c)
def bv (R : Rw) (t c : Nat) : Nat := cnt (acS R (c : Int) t) (nS R)
theorem bv_b {B : Int} {R : Rw} {t c : Nat} (W : WF B R) : bv R t c ≤ 6 := by
  have h6 := nS_le W
  have := cnt_le (acS R (c : Int) t) (nS R)
  unfold bv
  omega
theorem acM_c {B : Int} {R : Rw} {t c : Nat} {h : Hp} (W : WF B R) : fJ6_bitCount (nI (acM R c t)) h = some (nI (bv R t c), h) := by
  have h6 := nS_le W
  unfold acM bv
  rw [c_bits (bs64 _ (by omega)), cnt_bs (by omega)]
theorem bst_c {B : Int} {R : Rw} {t : Nat} {v3 : Int32} {K : Int32 → Hp → Option (Int32 × Hp)} {h : Hp} (W : WF B R) (H0 : Rep h 0 R) (e : ∀ d, d < (R 2).toNat → h 226 d = nI (acM R d t)) : ∀ (n d c m : Nat), c + d = (R 2).toNat → d < n → m < (R 2).toNat → fX3_bestStand_L98 K n 0 v3 (nI m) (nI c) h = K (nI (bF (bv R t) d c m)) h := by
  intro n
  induction n with
  | zero => intro d c m h1 h2; omega
  | succ n ih =>
    intro d c m h1 h2 h3
    have w2 := W.2.2.1
    rw [fX3_bestStand_L98, R_c W H0]
    cases d with
    | zero =>
      rw [if_pos (by rw [show c = (R 2).toNat by omega, t_le]; exact Int.le_refl _)]
      rfl
    | succ d =>
      have b1 := bv_b (t := t) (c := c) W
      have b2 := bv_b (t := t) (c := m) W
      rw [if_neg (by rw [t_le, nI_toInt (by omega), nI_toInt (by omega)]; omega), show lenC 226 = 16 from rfl, inb_n (show c < 16 by omega) (by omega), chk_t, cl_n (by omega), e c (by omega), acM_c W, bd_e, inb_n (show m < 16 by omega) (by omega), chk_t, cl_n (by omega), e m h3, acM_c W, bd_e]
      dsimp only [jp_e]
      have u : bF (bv R t) (d + 1) c m = bF (bv R t) d (c + 1) (if bv R t c ≤ bv R t m then m else c) := rfl
      rw [u]
      by_cases q : bv R t c ≤ bv R t m
      · rw [if_pos (show nI (bv R t c) ≤ nI (bv R t m) by rw [t_le, nI_toInt (by omega), nI_toInt (by omega)]; omega), if_pos q, lk_e, nI_1]
        exact ih d (c + 1) m (by omega) (by omega) h3
      · rw [if_neg (show ¬ nI (bv R t c) ≤ nI (bv R t m) by rw [t_le, nI_toInt (by omega), nI_toInt (by omega)]; omega), if_neg q, lk_e, nI_1]
        exact ih d (c + 1) c (by omega) (by omega) (by omega)
/-- the reference's count for one cell -/
theorem sit_m {R : Rw} {T c : Nat} {k : Hp} (W : WF 999 R) (hT : T ≤ 30) (hc : (c : Int) < R 2) (M : M0 k 250 R) : ∃ k1 k2 k3, fX7_layThen k = some ((), k1) ∧ up2 k1 252 (3 : Int32).toNatClampNeg (nI c) = k2 ∧ fX7_hoursOf 252 (nI T) k2 = some ((), k3) ∧ (bd (fX7_numbered 252 k3) fun x73 kk74 => fX7_bits x73 kk74) = some (nI (bv R T c), k3) ∧ offA k k3 252 := by
  obtain ⟨k1, l1, l2, l3⟩ := m_then M
  have l4 := l2.up (j := 3) (v := (c : Int))
  rw [← I_nat] at l4
  have WQ : WF 999 (va_up R 3 (c : Int)) := W.hd (Or.inl ⟨rfl, by omega, hc⟩)
  obtain ⟨k3, m1, m2, m3⟩ := m_hrs (t := T) WQ a252 (by omega) (by omega) l4
  have h6 := nS_le W
  have nQ : nS (hrN (va_up R 3 (c : Int)) T) = nS R := by rw [nS_hrN]; unfold nS; rw [upR_ne (by omega)]
  refine ⟨k1, _, k3, l1, rfl, m1, ?_, l3.up.tr m3⟩
  rw [m_num (WF_hrN WQ T) a252 m2, bd_e, nQ, m_bits (bs64 _ (by omega)), cnt_bs (by omega)]
  unfold bv
  rw [cnt_congr (fun s hs => acS_e W (by omega) hc hs T)]
