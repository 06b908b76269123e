theorem cov_i {R : Rw} {t m : Nat} {c : Int} (W : WF 999 R) (ht : t ≤ 60) : (ov (hrN (liU R m (nS R)) t) c = 0) ↔ (∀ s, s < nS R → onB (hrN R t) c s = true → m.testBit s = true) := by
  have WL := WF_liU (m := m) W (Nat.le_refl (nS R))
  have nL : nS (hrN (liU R m (nS R)) t) = nS R := by rw [nS_hrN]; unfold nS; rw [liU_ne (fun s _ => by omega)]
  have AS := As_hrN WL (As_liU (R := R) (m := m) (n := nS R)) t
  unfold ov
  rw [nL, ovU_0 (WF_hrN WL t) _ (by rw [nL]; exact Nat.le_refl _)]
  constructor
  · intro h s hs d
    have e := h s hs
    rw [As_lie AS] at e
    have d' : lie (hrN R t) s c = true := d
    rw [d', Bool.and_true] at e
    have e : lfS R m (nS R) s = true := by simpa using e
    unfold lfS at e
    simp only [Bool.and_eq_true] at e
    exact e.2.2
  · intro h s hs
    rw [As_lie AS]
    cases d : lie (hrN R t) s c
    · rw [Bool.and_false]
    · have b := h s hs d
      have i := in_hrN W d
      unfold lfS
      rw [b, i, decide_eq_true hs]
      rfl
theorem lft_L {R : Rw} {t c p : Nat} {v4 : Int32} {K : Int64 → Int64 → Hp → Option (Int64 × Hp)} (W : WF 999 R) (ht : t ≤ 60) (hc : (c : Int) < R 2) (hp : p ≤ 10) : ∀ (n m : Nat) (k : Hp), m ≤ 2 ^ nS R → 2 ^ nS R < n + m → M0 k 250 R → ∃ k1, fX7_lift_L61 K n (nI c) (nI t) (nI p) v4 (LL (sm (F5 R (onB (hrN R t) c) p) m)) (LL (sm (F7 R p) m)) (nI m) k = K (LL (sm (F5 R (onB (hrN R t) c) p) (2 ^ nS R))) (LL (sm (F7 R p) (2 ^ nS R))) k1 ∧ offA k k1 252 := by
  intro n
  induction n with
  | zero => intro m k h1 h2; omega
  | succ n ih =>
    intro m k h1 h2 M
    have h6 := nS_le W
    have p6 : 2 ^ nS R ≤ 64 := pw6 (by omega)
    have mk := msk_lt R W
    rw [fX7_lift_L61, lb0 a250, chk_t, M_n W M, shl_n (by omega)]
    by_cases e1 : m = 2 ^ nS R
    · subst e1
      rw [if_pos (by rw [t_le]; exact Int.le_refl _)]
      exact ⟨k, rfl, offA.rf⟩
    · have hm : m < 2 ^ nS R := by omega
      have c6 := p6b (Nat.le_trans (cnt_le (inB R) (nS R)) h6.2.1)
      have tot := S7 (R := R) hp
      have l7 := sm_le (f := F7 R p) (show m + 1 ≤ 2 ^ nS R by omega)
      have s7 : sm (F7 R p) (m + 1) = sm (F7 R p) m + F7 R p m := rfl
      have s5 : sm (F5 R (onB (hrN R t) c) p) (m + 1) = sm (F5 R (onB (hrN R t) c) p) m + F5 R (onB (hrN R t) c) p m := rfl
      have le5 : ∀ j, sm (F5 R (onB (hrN R t) c) p) j ≤ sm (F7 R p) j := fun j => by
        induction j with
        | zero => exact Nat.le_refl _
        | succ j ij =>
          show sm _ j + F5 R _ p j ≤ sm _ j + F7 R p j
          have : F5 R (onB (hrN R t) c) p j ≤ F7 R p j := by rw [F5_e]; split <;> omega
          omega
      have l5 := le5 (m + 1)
      have f7 := F7_e (R := R) (p := p) hm
      have f5 := F5_e (R := R) (D := onB (hrN R t) c) (p := p) (m := m)
      rw [if_neg (by rw [t_le, nI_toInt (by omega), nI_toInt (by omega)]; omega), m_ins W a250 M, bd_e]
      dsimp only [jp_e]
      by_cases q : nI m &&& (nI (msk R) ^^^ -1) = 0
      · have sb : sbB R m = true := decide_eq_true ((sub_i m (by omega) (msk R) (by omega)).mp q)
        rw [if_pos sb] at f7
        obtain ⟨k1, a1, a2, a3⟩ := m_then M
        have M1 : M0 k1 250 R := fun j hj => by rw [a3 250 (by omega)]; exact M j hj
        have WL := WF_liU (m := m) W (Nat.le_refl (nS R))
        have lf := fun K => lf_L (m := m) (v1 := nI c) (v2 := nI t) (v4 := v4) (v5 := LL (sm (F5 R (onB (hrN R t) c) p) m)) (v7 := LL (sm (F7 R p) m)) (K := K) W hp (by omega) 4096 0 k1 (by omega) (by omega) M1 a2
        rw [if_pos q, a1, bd_e]
        obtain ⟨k2, b1, b2, b3⟩ := lf (fun x182 kk183 => bd (fX7_hoursOf 252 (nI t) kk183) fun _ kk192 => lk (LL (sm (F7 R p) m) + x182) fun x199 => bd (fX7_overOf 252 (nI c) kk192) fun x203 kk204 => if x203 = 0 then lk (LL (sm (F5 R (onB (hrN R t) c) p) m) + x182) fun x220 => lk (nI m + (1 : Int32)) fun x78 => fX7_lift_L61 K n (nI c) (nI t) (nI p) v4 x220 x199 x78 kk204 else lk (LL (sm (F5 R (onB (hrN R t) c) p) m) + (0 : Int64)) fun x220 => lk (nI m + (1 : Int32)) fun x78 => fX7_lift_L61 K n (nI c) (nI t) (nI p) v4 x220 x199 x78 kk204)
        rw [nI_0] at b1
        have b1' := b1
        rw [show LL (pr (wt R p m) 0) = (1 : Int64) from rfl] at b1'
        rw [b1']
        obtain ⟨k3, d1, d2, d3⟩ := m_hrs (t := t) WL a252 (by omega) (by omega) b2
        have mo := m_ov (WF_hrN WL t) a252 d2 (c := c) (by rw [R2_hrN, liU_ne (fun s _ => by omega)]; exact hc)
        have ob := ovU_b (c := (c : Int)) (WF_hrN WL t) (nS (hrN (liU R m (nS R)) t)) (Nat.le_refl _)
        have ob : 0 ≤ ov (hrN (liU R m (nS R)) t) c ∧ ov (hrN (liU R m (nS R)) t) c ≤ 9 * (nS (hrN (liU R m (nS R)) t) : Nat) := ob
        have nL : nS (hrN (liU R m (nS R)) t) = nS R := by rw [nS_hrN]; unfold nS; rw [liU_ne (fun s _ => by omega)]
        rw [nL] at ob
        have e7 : LL (sm (F7 R p) m) + LL (pr (wt R p m) (nS R)) = LL (sm (F7 R p) (m + 1)) := by rw [LL_add (by omega), s7, f7]
        rw [d1, bd_e, lk_e, mo, bd_e, e7]
        have M3 : M0 k3 250 R := fun j hj => by rw [d3 250 (by omega), b3 250 (by omega)]; exact M1 j hj
        obtain ⟨k4, x1, x2⟩ := ih (m + 1) k3 (by omega) (by omega) M3
        refine ⟨k4, ?_, ((a3.tr b3).tr d3).tr x2⟩
        by_cases z : ov (hrN (liU R m (nS R)) t) c = 0
        · have cv := (cov_i W ht).mp z
          rw [if_pos cv] at f5
          rw [if_pos (show I (ov (hrN (liU R m (nS R)) t) c) = 0 by rw [z]; rfl), LL_add (by omega), show sm (F5 R (onB (hrN R t) c) p) m + pr (wt R p m) (nS R) = sm (F5 R (onB (hrN R t) c) p) (m + 1) by rw [s5, f5, f7], lk_e, lk_e, nI_1]
          exact x1
        · have cv : ¬ _ := fun y => z ((cov_i W ht).mpr y)
          rw [if_neg cv] at f5
          rw [if_neg (show ¬ I (ov (hrN (liU R m (nS R)) t) c) = 0 from fun y => by rw [I_0, I_eq (by omega) (by omega) (by omega) (by omega)] at y; exact z y), show (0 : Int64) = LL 0 from rfl, LL_add (by omega), show sm (F5 R (onB (hrN R t) c) p) m + 0 = sm (F5 R (onB (hrN R t) c) p) (m + 1) by rw [s5, f5], lk_e, lk_e, nI_1]
          exact x1
      · have sb : ¬ sbB R m = true := fun y => q ((sub_i m (by omega) (msk R) (by omega)).mpr (of_decide_eq_true y))
        rw [if_neg sb] at f7
        have f5' : F5 R (onB (hrN R t) c) p m = 0 := by rw [f5, f7]; split <;> rfl
        rw [if_neg q, lk_e, nI_1, show sm (F5 R (onB (hrN R t) c) p) m = sm (F5 R (onB (hrN R t) c) p) (m + 1) by rw [s5, f5']; omega, show sm (F7 R p) m = sm (F7 R p) (m + 1) by rw [s7, f7]; omega]
        exact ih (m + 1) k (by omega) (by omega) M
def cdF (p : Nat) : Nat → Nat → Nat → Nat
  | 0, _, g => g
  | d + 1, v, g => cdF p d (v + 1) (if p % v = 0 ∧ 10 % v = 0 then v else g)
theorem cd_L {p : Nat} {h : Hp} (hp : p ≤ 10) : ∀ (n d v g : Nat), v + d = 11 → d < n → 1 ≤ v → fX6_commonDivisor_L4 n (nI p) (nI 10) (nI g) (nI v) h = some (nI (cdF p d v g), h) := by
  intro n
  induction n with
  | zero => intro d v g h1 h2; omega
  | succ n ih =>
    intro d v g h1 h2 h3
    rw [fX6_commonDivisor_L4]
    cases d with
    | zero =>
      rw [if_pos (by rw [t_lt, nI_toInt (by omega), nI_toInt (by omega)]; omega)]
      rfl
    | succ d =>
      have u : cdF p (d + 1) v g = cdF p d (v + 1) (if p % v = 0 ∧ 10 % v = 0 then v else g) := rfl
      have m1 := Nat.mod_lt p (show 0 < v by omega)
      have m2 := Nat.mod_lt 10 (show 0 < v by omega)
      rw [if_neg (by rw [t_lt, nI_toInt (by omega), nI_toInt (by omega)]; omega), nz_n (by omega) (by omega), chk_t]
      dsimp only [jp_e]
      rw [irm_n (by omega) (by omega) (by omega), irm_n (by omega) (by omega) (by omega), chk_t, u]
      by_cases q : p % v = 0
      · by_cases q2 : 10 % v = 0
        · rw [if_pos (show nI (p % v) = 0 by rw [q]; rfl), if_pos (show nI (10 % v) = 0 by rw [q2]; rfl), if_pos ⟨q, q2⟩, lk_e, nI_1]
          exact ih d (v + 1) v (by omega) (by omega) (by omega)
        · rw [if_pos (show nI (p % v) = 0 by rw [q]; rfl), if_neg (show ¬ nI (10 % v) = 0 from fun y => q2 (by rw [nI_z (by omega)] at y; exact y)), if_neg (fun y => q2 y.2), lk_e, nI_1]
          exact ih d (v + 1) g (by omega) (by omega) (by omega)
      · rw [if_neg (show ¬ nI (p % v) = 0 from fun y => q (by rw [nI_z (by omega)] at y; exact y)), if_neg (fun y => q y.1), lk_e, nI_1]
        exact ih d (v + 1) g (by omega) (by omega) (by omega)
theorem cdF_t : ∀ p, p < 11 → cdF p 9 2 1 = Nat.gcd p 10 ∧ 1 ≤ Nat.gcd p 10 ∧ Nat.gcd p 10 ≤ 10 := by decide +kernel
theorem cd_e {p : Nat} {h : Hp} (hp : p ≤ 10) : fX6_commonDivisor (nI p) 10 h = some (nI (Nat.gcd p 10), h) := by
  have e := cd_L (h := h) hp 4096 9 2 1 (by omega) (by omega) (by omega)
  rw [(cdF_t p (by omega)).1] at e
  exact e
theorem pw_L {a d : Nat} {h : Hp} (ha : a ≤ 10) (hd : d ≤ 6) : ∀ (n j : Nat), j ≤ d → d < n + j → fX6_power_L5 n (nI a) (nI d) (LL (a ^ j)) (nI j) h = some (LL (a ^ d), h) := by
  intro n
  induction n with
  | zero => intro j h1 h2; omega
  | succ n ih =>
    intro j h1 h2
    rw [fX6_power_L5]
    by_cases e : j = d
    · subst e; rw [if_pos (by rw [t_le]; exact Int.le_refl _)]
    · have b : a ^ (j + 1) ≤ 10 ^ (j + 1) := Nat.pow_le_pow_left ha _
      have b2 := p6b (show j + 1 ≤ 6 by omega)
      have b3 : a ^ j ≤ 10 ^ j := Nat.pow_le_pow_left ha _
      have b4 := p6b (show j ≤ 6 by omega)
      have pe : a ^ (j + 1) = a ^ j * a := Nat.pow_succ a j
      rw [if_neg (by rw [t_le, nI_toInt (by omega), nI_toInt (by omega)]; omega), LL_w (by omega), LL_mul (by rw [← pe]; omega) (by omega) (by omega), ← pe, lk_e, lk_e, nI_1]
      exact ih (j + 1) (by omega) (by omega)
theorem pw_e {a d : Nat} {h : Hp} (ha : a ≤ 10) (hd : d ≤ 6) : fX6_power (nI a) (nI d) h = some (LL (a ^ d), h) := by
  have e := pw_L (h := h) ha hd 4096 0 (by omega) (by omega)
  rw [nI_0] at e
  exact e
theorem st_lift : St_lift RR := by
  intro h k a1 a2 a3 a4 H
  have hz := H.mz
  rcases H.cell a1 with ⟨p1, p2⟩ | ⟨R, c, hc, rfl, T, p1, p2⟩
  · exact ⟨-1000001, h, Mz k, by simp only [fX6_lift, p1, bd_e, if_true], by simp only [fX7_lift, lk_e, Mz_e, p2, bd_e, if_true], hz⟩
  rcases nem ((0 : Int) ≤ a2.toInt ∧ a2.toInt ≤ 60) with q | q
  · exact ⟨-1000001, h, Mz k, by simp only [fX6_lift, p1, bd_e, i10, if_false, far_f q, if_true], by simp only [fX7_lift, lk_e, Mz_e, p2, bd_e, i10, if_false, L_wf 0 60 q, if_true], hz⟩
  obtain ⟨t, ht, rfl⟩ := rg (a := a2) (n := 60) (by omega) ⟨by omega, q.2⟩
  rcases nem ((0 : Int) ≤ a3.toInt ∧ a3.toInt ≤ 10) with u | u
  · exact ⟨-1000001, h, Mz k, by simp only [fX6_lift, p1, bd_e, i10, if_false, far_t ht, w6_f 0 10 u, if_true], by simp only [fX7_lift, lk_e, Mz_e, p2, bd_e, i10, if_false, L_wd 0 60 q, L_wf 0 10 u, if_true], hz⟩
  obtain ⟨p, hp, rfl⟩ := rg (a := a3) (n := 10) (by omega) ⟨by omega, u.2⟩
  rcases nem ((0 : Int) ≤ a4.toInt ∧ a4.toInt ≤ 1) with w | w
  · exact ⟨-1000001, h, Mz k, by simp only [fX6_lift, p1, bd_e, i10, if_false, far_t ht, w6_t 0 10 u, w6_f 0 1 w, if_true], by simp only [fX7_lift, lk_e, Mz_e, p2, bd_e, i10, if_false, L_wd 0 60 q, L_wd 0 10 u, L_wf 0 1 w, if_true], hz⟩
  have h6 := T.n
  have w2 := T.W.2.2.1
  have p6 : 2 ^ nS R ≤ 64 := pw6 (by omega)
  obtain ⟨h1, b1, b2, b3⟩ := c_beh (t := t) T.W (by omega) (by omega) T.C
  have co := c_on (c := (c : Int)) (WF_hrN T.W t) e14E b2 (by omega) (by omega)
  rw [← I_nat, nS_hrN] at co
  have g := cdF_t p (by omega)
  have dD : ∀ s, onB (hrN R t) c s = true → inB R s = true := fun s d => in_hrN T.W d
  have cd := (pr_pd (p := p) dD (nS R)).2
  have cn := cnt_le (inB R) (nS R)
  have L := luk_t p (by omega) (cnt (inB R) (nS R)) (by omega) (cnt (onB (hrN R t) c) (nS R)) (by omega)
  have c6 := p6b (show cnt (inB R) (nS R) ≤ 6 by omega)
  unfold luk at L
  rw [← S5 hp dD, ← S7 (R := R) hp] at L
  have c7 := c6
  rw [← S7 (R := R) hp] at c7
  obtain ⟨k1, r1, o1⟩ := lft_L (v4 := a4) (K := fun x228 x229 kk230 => fX7_lift_L230 (fun x255 kk256 => if a4 = 0 then chk (nzL x255) <| some (x228 / x255, kk256) else chk (nzL x255) <| some (x229 / x255, kk256)) 4096 a4 x228 x229 x228 x229 kk230) T.W ht hc hp 4096 0 (Mz k) (Nat.zero_le _) (by omega) T.M
  rw [nI_0] at r1
  rw [show LL (sm (F5 R (onB (hrN R t) c) p) 0) = (0 : Int64) from rfl, show LL (sm (F7 R p) 0) = (0 : Int64) from rfl] at r1
  have eM0 : fX7_lift (nI c) (nI t) (nI p) a4 k = fX7_lift_L61 (fun x228 x229 kk230 => fX7_lift_L230 (fun x255 kk256 => if a4 = 0 then chk (nzL x255) <| some (x228 / x255, kk256) else chk (nzL x255) <| some (x229 / x255, kk256)) 4096 a4 x228 x229 x228 x229 kk230) 4096 (nI c) (nI t) (nI p) a4 0 0 0 (Mz k) := by
    unfold fX7_lift
    rw [lk_e, Mz_e, p2, bd_e, if_neg (by decide), L_wd 0 60 q, bd_e, if_neg (by decide), L_wd 0 10 u, bd_e, if_neg (by decide), L_wd 0 1 w, bd_e, if_neg (by decide)]
  have eC : fX6_lift (nI c) (nI t) (nI p) a4 h = if a4 = 0 then some (LL ((p / Nat.gcd p 10) ^ cnt (onB (hrN R t) c) (nS R)), h1) else some (LL ((10 / Nat.gcd p 10) ^ cnt (onB (hrN R t) c) (nS R)), h1) := by
    have d1 : p / Nat.gcd p 10 ≤ 10 := Nat.le_trans (Nat.div_le_self _ _) hp
    have d2 : 10 / Nat.gcd p 10 ≤ 10 := Nat.div_le_self _ _
    have cD := cnt_le (onB (hrN R t) c) (nS R)
    unfold fX6_lift
    rw [p1, bd_e, if_neg (by decide), far_t ht, bd_e, if_neg (by decide), w6_t 0 10 u, bd_e, if_neg (by decide), w6_t 0 1 w, bd_e, if_neg (by decide), b1, bd_e, i14, chk_t, co, bd_e, c_bits (bs64 _ (by omega)), cnt_bs (by omega), bd_e, cd_e hp, bd_e]
    dsimp only [jp_e]
    rw [nz_n (by omega) (by omega), chk_t, chk_t, pk_div (by omega) (by omega) (by omega), pw_e d1 (by omega), bd_e, show (10 : Int32) = nI 10 from rfl, pk_div (by omega) (by omega) (by omega), pw_e d2 (by omega), bd_e]
  rw [eC]
  cases e : eu 60 (sm (F5 R (onB (hrN R t) c) p) (2 ^ nS R)) (sm (F7 R p) (2 ^ nS R)) with
  | none => rw [e] at L; cases L
  | some G =>
    rw [e] at L
    have L := of_decide_eq_true L
    obtain ⟨L1, L2, L3, L4, L5⟩ := L
    have z := eu_L (v4 := a4) (v5 := LL (sm (F5 R (onB (hrN R t) c) p) (2 ^ nS R))) (v7 := LL (sm (F7 R p) (2 ^ nS R))) (k := k1) (K := fun x255 kk256 => if a4 = 0 then chk (nzL x255) <| some (LL (sm (F5 R (onB (hrN R t) c) p) (2 ^ nS R)) / x255, kk256) else chk (nzL x255) <| some (LL (sm (F7 R p) (2 ^ nS R)) / x255, kk256)) 60 4096 _ _ G e (by omega) (by omega) (by omega)
    rw [eM0, r1, z, nzL_n L1 (by omega), chk_t, chk_t, LL_div (by omega) (by omega) L1, LL_div (by omega) (by omega) L1, L4, L5]
    have fin := hz.qy b3 o1
    by_cases y : a4 = 0
    · exact ⟨_, h1, k1, by rw [if_pos y], by rw [if_pos y], fin⟩
    · exact ⟨_, h1, k1, by rw [if_neg y], by rw [if_neg y], fin⟩
