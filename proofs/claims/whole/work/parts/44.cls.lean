/-! ===== the class's estuary ===== -/
theorem irm_I {a b : Int} (h1 : 0 ≤ a) (h2 : a < 2147483648) (h3 : 0 < b) (h4 : b < 2147483648) : irm (I a) (I b) = I (a % b) := by
  obtain ⟨x, rfl⟩ := Int.eq_ofNat_of_zero_le h1
  obtain ⟨y, rfl⟩ := Int.eq_ofNat_of_zero_le (Int.le_of_lt h3)
  unfold irm
  rw [← I_nat, ← I_nat, pk_rem (by omega) (by omega) (by omega), I_nat]
  rfl
theorem I_n {z : Int} (h : 0 ≤ z) : I z = nI z.toNat := by
  rw [I_nat, Int.toNat_of_nonneg h]
theorem sh {B : Int} {R : Rw} (W : WF B R) {s : Nat} (hs : s < nS R) : ShOk R s := W.2.2.2.2.2.2.2.2.2 s hs
theorem msk_lt (R : Rw) {B : Int} (W : WF B R) : msk R < 64 := by
  unfold msk
  rw [mskU_bs]
  have h1 := bs_lt (fun s => decide (R (19 + 6 * s) = 1)) (nS R)
  have h2 := (nS_le W).2.1
  have : 2 ^ nS R ≤ 2 ^ 6 := Nat.pow_le_pow_right (by omega) h2
  omega
theorem c_isIn {B : Int} {R : Rw} {h : Hp} {e s : Nat} (W : WF B R) (H : Rep h e R) (hs : s < nS R) : fX2_isIn e (nI s) h = some (b32 (decide (R (19 + 6 * s) = 1)), h) := by
  have h2 := (nS_le W).2.1
  unfold fX2_isIn
  rw [H.2.2.2.2.2.2.2.2.1, ← I_nat, bit_n (by have := msk_lt R W; omega) (by omega)]
  have e1 : (msk R).testBit s = decide (R (19 + 6 * s) = 1) := by
    unfold msk
    rw [mskU_bs, bs_bit]
    simp [hs]
  rw [e1, if_b]
  cases decide (R (19 + 6 * s) = 1) <;> rfl
theorem c_wnd {B : Int} {R : Rw} {h : Hp} {e : Nat} (W : WF B R) (hB : B ≤ 5000) (H : Rep h e R) : fX2_windOfHour e h = some (I (R 6 % R 1), h) := by
  have w1 := W.2.1
  have w6 := W.2.2.2.2.2.2.1
  have n0 : ¬ I (R 1) = 0 := by rw [I_0, I_eq (by omega) (by omega) (by omega) (by omega)]; omega
  unfold fX2_windOfHour
  rw [H.2.2.2.2.2.1, if_neg n0, show nz (I (R 1)) = true by simp [nz, n0], chk_t, H.2.2.2.2.2.2.2.1, irm_I (by omega) (by omega) (by omega) (by omega)]
theorem wnd_lt {B : Int} {R : Rw} (W : WF B R) : 0 ≤ R 6 % R 1 ∧ R 6 % R 1 < R 1 ∧ R 1 ≤ 6 ∧ 0 ≤ wnd R ∧ wnd R ≤ 4 := by
  have w1 := W.2.1
  have a := Int.emod_nonneg (R 6) (b := R 1) (by omega)
  have b := Int.emod_lt_of_pos (R 6) (b := R 1) (by omega)
  have := W.2.2.2.2.2.2.2.2.1 (R 6 % R 1).toNat (by omega)
  unfold wnd
  omega
theorem c_gust {B : Int} {R : Rw} {h : Hp} {e : Nat} (W : WF B R) (hB : B ≤ 5000) (he : isE e) (H : Rep h e R) : fX2_gust e h = some (I (wnd R), h) := by
  obtain ⟨a, b, c, d⟩ := wnd_lt W
  unfold fX2_gust
  rw [c_wnd W hB H, bd_e, len_E1 he, I_n a, inb_n (n := 6) (by omega) (by omega), chk_t, cl_n (by omega), H.2.2.2.2.2.2.2.2.2.2.1 _ (by omega)]
  rfl
theorem c_mv {kd b : Int} {h : Hp} (h1 : 1 ≤ kd) (h2 : kd ≤ 5) (h3 : -2 ≤ b) (h4 : b ≤ 2) : fX2_cellsDrifted (I kd) (I b) h = some (I (mvK kd b), h) := by
  rcases (show kd = 1 ∨ kd = 2 ∨ kd = 3 ∨ kd = 4 ∨ kd = 5 by omega) with rfl | rfl | rfl | rfl | rfl <;> rcases (show b = -2 ∨ b = -1 ∨ b = 0 ∨ b = 1 ∨ b = 2 by omega) with rfl | rfl | rfl | rfl | rfl <;> rfl
theorem c_dl {B : Int} {R : Rw} {h : Hp} {e : Nat} {kd b : Int} (W : WF B R) (hB : B ≤ 5000) (H : Rep h e R) (h1 : 1 ≤ kd) (h2 : kd ≤ 5) : fX2_thickened e (I kd) (b32 (decide (b = 0))) h = some (I (dlK kd b (R 6 % 2)), h) := by
  have w6 := W.2.2.2.2.2.2.1
  unfold fX2_thickened
  rw [jp_e, H.2.2.2.2.2.2.2.1, show (2 : Int32) = I 2 from rfl, irm_I (by omega) (by omega) (by omega) (by omega)]
  have ho : R 6 % 2 = 0 ∨ R 6 % 2 = 1 := by omega
  have key : ∀ x : Int32, x = I (-(R 6 % 2)) → (if I kd = 3 then some (x - 1, h) else if I kd = 4 then if b32 (decide (b = 0)) = 0 then some (-1, h) else some (0, h) else if I kd = 5 then if b32 (decide (b = 0)) = 0 then some (-1, h) else some (1, h) else some (x, h)) = some (I (dlK kd b (R 6 % 2)), h) := by
    intro x hx
    subst hx
    unfold dlK
    rw [if_b, if_b]
    by_cases hb : b = 0
    · simp only [hb, decide_true, if_true]
      rcases (show kd = 1 ∨ kd = 2 ∨ kd = 3 ∨ kd = 4 ∨ kd = 5 by omega) with rfl | rfl | rfl | rfl | rfl
      · rfl
      · rfl
      · show some (I (-(R 6 % 2)) - I 1, h) = _
        rw [I_sub]
        rfl
      · rfl
      · rfl
    · simp only [hb, decide_false, if_false]
      rcases (show kd = 1 ∨ kd = 2 ∨ kd = 3 ∨ kd = 4 ∨ kd = 5 by omega) with rfl | rfl | rfl | rfl | rfl
      · rfl
      · rfl
      · show some (I (-(R 6 % 2)) - I 1, h) = _
        rw [I_sub]
        rfl
      · rfl
      · rfl
  rcases ho with ho | ho
  · rw [ho] at key ⊢
    rw [if_pos (by rfl)]
    exact key 0 rfl
  · rw [ho] at key ⊢
    rw [if_neg (by decide)]
    exact key (-1) rfl
theorem clr_t : ∀ m, m < 64 → ∀ s, s < 6 → nI m &&& (shlI 1 (nI s) ^^^ -1) = nI (m &&& (63 - 2 ^ s)) := by decide +kernel
theorem clr_b : ∀ s, s < 6 → ∀ i, i < 6 → (63 - 2 ^ s).testBit i = decide (i ≠ s) := by decide +kernel
theorem bs_clr {f : Nat → Bool} {n s : Nat} (hn : n ≤ 6) (hs : s < 6) : bs f n &&& (63 - 2 ^ s) = bs (fun i => decide (i ≠ s) && f i) n := by
  apply Nat.eq_of_testBit_eq
  intro i
  rw [Nat.testBit_and, bs_bit, bs_bit]
  by_cases h : i < n
  · rw [clr_b s hs i (by omega)]
    simp [h, Bool.and_comm]
  · simp [h]
/-- what Rep asks of a changed heap -/
theorem Rep.mod {h h1 : Hp} {e : Nat} {R R1 : Rw} (H : Rep h e R) (hn : R1 0 = R 0) (hw : R1 1 = R 1) (a6 : h1 e 6 = h e 6) (a7 : h1 e 7 = I (R1 2)) (a8 : h1 e 8 = I (R1 3)) (a9 : h1 e 9 = I (R1 4)) (a10 : h1 e 10 = I (R1 5)) (a11 : h1 e 11 = h e 11) (a12 : h1 e 12 = h e 12) (a13 : h1 e 13 = I (R1 6)) (a14 : h1 e 14 = I (msk R1 : Int)) (a15 : h1 e 15 = I (R1 7)) (aw : ∀ w : Nat, (w : Int) < R 1 → h1 (e + 1) w = I (R1 (8 + w))) (as : ∀ s, s < nS R → h1 (e + 2) s = I (R1 (14 + 6 * s)) ∧ h1 (e + 3) s = I (R1 (15 + 6 * s)) ∧ h1 (e + 4) s = I (R1 (16 + 6 * s)) ∧ h1 (e + 5) s = I (R1 (17 + 6 * s)) ∧ h1 (e + 6) s = I (R1 (18 + 6 * s))) : Rep h1 e R1 := by
  have en : nS R1 = nS R := by unfold nS; rw [hn]
  exact ⟨a6.trans H.1, a7, a8, a9, a10, by rw [a11, hw]; exact H.2.2.2.2.2.1, by rw [a12, hn]; exact H.2.2.2.2.2.2.1, a13, a14, a15, by rw [hw]; exact aw, by rw [en]; exact as⟩
theorem msk_congr {R R1 : Rw} (h0 : R1 0 = R 0) (h : ∀ s, s < nS R → R1 (19 + 6 * s) = R (19 + 6 * s)) : msk R1 = msk R := by
  have en : nS R1 = nS R := by unfold nS; rw [h0]
  unfold msk
  rw [mskU_bs, mskU_bs, en]
  exact bs_congr (fun i hi => by rw [h i hi])
def off7 (h h1 : Hp) (e : Nat) : Prop := ∀ i, ¬ (e ≤ i ∧ i < e + 7) → h1 i = h i
theorem off7.rf {h : Hp} {e : Nat} : off7 h h e := fun _ _ => rfl
theorem off7.tr {h h1 h2 : Hp} {e : Nat} (a : off7 h h1 e) (b : off7 h1 h2 e) : off7 h h2 e := fun i hi => (b i hi).trans (a i hi)
theorem off7.up {h h1 : Hp} {e j k : Nat} {v : Int32} (a : off7 h h1 e) (hj : j < 7) : off7 h (up2 h1 (e + j) k v) e := fun i hi => by rw [up2_ne (by omega)]; exact a i hi
theorem c_drift {B b : Int} {R : Rw} {h : Hp} {e s : Nat} (W : WF B R) (hB : B ≤ 5000) (he : isE e) (H : Rep h e R) (hs : s < nS R) (hb1 : -2 ≤ b) (hb2 : b ≤ 2) : ∃ h1, fX2_drift e (nI s) (I (b + 2)) h = some ((), h1) ∧ Rep h1 e (dft R b s) ∧ off7 h h1 e := by
  have h6 := (nS_le W).2.1
  obtain ⟨k1, k2, k3, k4, k5, k6⟩ := sh W hs
  have w2 := W.2.2.1
  have w6 := W.2.2.2.2.2.2.1
  have i6 : inb (nI s) 6 = true := inb_n (by omega) (by omega)
  have cs := cl_n (show s < 2147483648 by omega)
  obtain ⟨q1, q2, q3, q4, q5⟩ := H.2.2.2.2.2.2.2.2.2.2.2 s hs
  have hm := mvK_b (kd := R (14 + 6 * s)) hb1 hb2
  have hd := dlK_b (kd := R (14 + 6 * s)) (b := b) (odd := R 6 % 2) (by omega) (by omega)
  have e1 : I (b + 2) - 2 = I b := by rw [show (2 : Int32) = I 2 from rfl, I_sub]; congr 1; omega
  have e2 : (I (b + 2) = 2) = (b = 0) := by
    rw [show (2 : Int32) = I 2 from rfl, I_eq (by omega) (by omega) (by omega) (by omega)]
    exact propext ⟨fun q => by omega, fun q => by omega⟩
  have cells : h e 7 = I (R 2) := H.2.1
  have em : h e 14 = nI (msk R) := by rw [I_nat]; exact H.2.2.2.2.2.2.2.2.1
  have eA : I (R (15 + 6 * s)) + I (mvK (R (14 + 6 * s)) b) = I (dAt R b s) := I_add _ _
  have eT : I (R (17 + 6 * s)) + I (dlK (R (14 + 6 * s)) b (R 6 % 2)) = I (dTh R b s) := I_add _ _
  have bA : -32 ≤ dAt R b s ∧ dAt R b s ≤ 32 := by unfold dAt; omega
  have bT : -32 ≤ dTh R b s ∧ dTh R b s ≤ 32 := by unfold dTh; omega
  have eW : I (dAt R b s) + I (R (16 + 6 * s)) = I (dAt R b s + R (16 + 6 * s)) := I_add _ _
  have c1 : (I (dTh R b s) ≤ 0) = (dTh R b s ≤ 0) := by rw [I_0, I_le (by omega) (by omega) (by omega) (by omega)]
  have c2 : (I (R 2) ≤ I (dAt R b s)) = (R 2 ≤ dAt R b s) := by rw [I_le (by omega) (by omega) (by omega) (by omega)]
  have c3 : (0 < I (dAt R b s + R (16 + 6 * s))) = (0 < dAt R b s + R (16 + 6 * s)) := by rw [I_0, I_lt (by omega) (by omega) (by omega) (by omega)]
  have eg : gon R b s = true → msk R &&& (63 - 2 ^ s) = msk (dft R b s) := fun hg => by
    have e0 : dft R b s 0 = R 0 := dft_ne (by omega) (by omega) (by omega)
    have en : nS (dft R b s) = nS R := by unfold nS; rw [e0]
    unfold msk
    rw [mskU_bs, mskU_bs, en, bs_clr h6 (by omega)]
    apply bs_congr
    intro i hi
    by_cases ei : i = s
    · subst ei
      unfold dft
      rw [if_pos hg, upR_at]
      simp
    · rw [dft_ne (by omega) (by omega) (by omega)]
      simp [ei]
  have em2 : minJ (I (dTh R b s)) 9 = I (min (dTh R b s) 9) := by
    unfold minJ
    rw [show (9 : Int32) = I 9 from rfl]
    by_cases q : 9 < dTh R b s
    · rw [if_pos (by rw [I_lt (by omega) (by omega) (by omega) (by omega)]; exact q), Int.min_eq_right (by omega)]
    · rw [if_neg (by rw [I_lt (by omega) (by omega) (by omega) (by omega)]; exact q), Int.min_eq_left (by omega)]
  have hif : fX2_drift e (nI s) (I (b + 2)) h = (if gon R b s = true then some ((), up2 h e 14 (nI (msk (dft R b s)))) else some ((), up2 (up2 h (e + 3) s (I (dAt R b s))) (e + 5) s (I (min (dTh R b s) 9)))) := by
    have hx : ∀ x : Int32, x = b32 (decide (b = 0)) → fX2_thickened e (I (R (14 + 6 * s))) x h = some (I (dlK (R (14 + 6 * s)) b (R 6 % 2)), h) := fun x hx => by subst hx; exact c_dl W hB H (by omega) (by omega)
    have t : ∀ x : Int32, x = b32 (decide (b = 0)) → (if dTh R b s ≤ 0 then some ((), up2 h e 14 (nI (msk R &&& (63 - 2 ^ s)))) else if R 2 ≤ dAt R b s then some ((), up2 h e 14 (nI (msk R &&& (63 - 2 ^ s)))) else if 0 < dAt R b s + R (16 + 6 * s) then some ((), up2 (up2 h (e + 3) s (I (dAt R b s))) (e + 5) s (I (min (dTh R b s) 9))) else some ((), up2 h e 14 (nI (msk R &&& (63 - 2 ^ s))))) = (if gon R b s = true then some ((), up2 h e 14 (nI (msk (dft R b s)))) else some ((), up2 (up2 h (e + 3) s (I (dAt R b s))) (e + 5) s (I (min (dTh R b s) 9)))) := by
      intro _ _
      by_cases g1 : dTh R b s ≤ 0
      · have hg : gon R b s = true := by unfold gon; simp [g1]
        rw [if_pos g1, if_pos hg, eg hg]
      · rw [if_neg g1]
        by_cases g2 : R 2 ≤ dAt R b s
        · have hg : gon R b s = true := by unfold gon; simp [g2]
          rw [if_pos g2, if_pos hg, eg hg]
        · rw [if_neg g2]
          by_cases g3 : 0 < dAt R b s + R (16 + 6 * s)
          · have hg : ¬ gon R b s = true := by
              unfold gon
              simp only [Bool.or_eq_true, decide_eq_true_eq]
              omega
            rw [if_pos g3, if_neg hg]
          · have hg : gon R b s = true := by
              unfold gon
              simp only [Bool.or_eq_true, decide_eq_true_eq]
              omega
            rw [if_neg g3, if_pos hg, eg hg]
    have cl := clr_t _ (msk_lt R W) s (by omega)
    have mv := c_mv (h := h) (show 1 ≤ R (14 + 6 * s) by omega) (show R (14 + 6 * s) ≤ 5 by omega) hb1 hb2
    by_cases hb : b = 0
    · have hb' : (b = 0) = True := eq_true hb
      have ht := hx 1 (by rw [hb]; rfl)
      rw [← t _ rfl]
      simp only [fX2_drift, len_E3 he, len_E2 he, len_E5 he, len_E4 he, i6, chk_t, cs, q1, q2, q3, q4, e1, mv, bd_e, lk_e, eA, jp_e, e2, hb', if_true, ht, eT, cells, eW, em, cl, em2, c1, c2, c3]
    · have hb' : (b = 0) = False := eq_false hb
      have ht := hx 0 (by rw [show decide (b = 0) = false by simp [hb]]; rfl)
      rw [← t _ rfl]
      simp only [fX2_drift, len_E3 he, len_E2 he, len_E5 he, len_E4 he, i6, chk_t, cs, q1, q2, q3, q4, e1, mv, bd_e, lk_e, eA, jp_e, e2, hb', if_false, ht, eT, cells, eW, em, cl, em2, c1, c2, c3]
  rw [hif]
  have d0 : ∀ j, j < 14 → dft R b s j = R j := fun j hj => dft_ne (by omega) (by omega) (by omega)
  obtain ⟨a6, a7, a8, a9, a10, a11, a12, a13, a14, a15, aw, as⟩ := H
  by_cases hg : gon R b s = true
  · rw [if_pos hg]
    refine ⟨_, rfl, ?_, off7.up (j := 0) off7.rf (by omega)⟩
    have u : ∀ i j, ¬ (i = e ∧ j = 14) → up2 h e 14 (nI (msk (dft R b s))) i j = h i j := fun i j q => by rw [up2_at, if_neg q]
    have v : ∀ q, dft R b s q = if q = 19 + 6 * s then 0 else R q := fun q => by
      unfold dft
      rw [if_pos hg]
      rfl
    refine Rep.mod ⟨a6, a7, a8, a9, a10, a11, a12, a13, a14, a15, aw, as⟩ (d0 0 (by omega)) (d0 1 (by omega)) (u _ _ (by omega)) ?_ ?_ ?_ ?_ (u _ _ (by omega)) (u _ _ (by omega)) ?_ ?_ ?_ (fun w hw => ?_) (fun q hq => ?_)
    · rw [u _ _ (by omega), d0 2 (by omega)]; exact a7
    · rw [u _ _ (by omega), d0 3 (by omega)]; exact a8
    · rw [u _ _ (by omega), d0 4 (by omega)]; exact a9
    · rw [u _ _ (by omega), d0 5 (by omega)]; exact a10
    · rw [u _ _ (by omega), d0 6 (by omega)]; exact a13
    · rw [up2_at, if_pos ⟨rfl, rfl⟩, I_nat]
    · rw [u _ _ (by omega), d0 7 (by omega)]; exact a15
    · have := W.2.1
      rw [u _ _ (by omega), d0 _ (by omega)]; exact aw w hw
    · rw [u _ _ (by omega), u _ _ (by omega), u _ _ (by omega), u _ _ (by omega), u _ _ (by omega), v, v, v, v, v, if_neg (by omega), if_neg (by omega), if_neg (by omega), if_neg (by omega), if_neg (by omega)]
      exact as q hq
  · rw [if_neg hg]
    refine ⟨_, rfl, ?_, (off7.rf.up (by omega)).up (by omega)⟩
    have u : ∀ i j, ¬ (i = e + 3 ∧ j = s) → ¬ (i = e + 5 ∧ j = s) → up2 (up2 h (e + 3) s (I (dAt R b s))) (e + 5) s (I (min (dTh R b s) 9)) i j = h i j := fun i j q q2 => by rw [up2_at, if_neg q2, up2_at, if_neg q]
    have v : ∀ q, dft R b s q = if q = 17 + 6 * s then min (dTh R b s) 9 else if q = 15 + 6 * s then dAt R b s else R q := fun q => by
      unfold dft
      rw [if_neg hg]
      rfl
    refine Rep.mod ⟨a6, a7, a8, a9, a10, a11, a12, a13, a14, a15, aw, as⟩ (d0 0 (by omega)) (d0 1 (by omega)) (u _ _ (by omega) (by omega)) ?_ ?_ ?_ ?_ (u _ _ (by omega) (by omega)) (u _ _ (by omega) (by omega)) ?_ ?_ ?_ (fun w hw => ?_) (fun q hq => ?_)
    · rw [u _ _ (by omega) (by omega), d0 2 (by omega)]; exact a7
    · rw [u _ _ (by omega) (by omega), d0 3 (by omega)]; exact a8
    · rw [u _ _ (by omega) (by omega), d0 4 (by omega)]; exact a9
    · rw [u _ _ (by omega) (by omega), d0 5 (by omega)]; exact a10
    · rw [u _ _ (by omega) (by omega), d0 6 (by omega)]; exact a13
    · rw [u _ _ (by omega) (by omega), msk_congr (d0 0 (by omega)) (fun q _ => by rw [v, if_neg (by omega), if_neg (by omega)])]; exact a14
    · rw [u _ _ (by omega) (by omega), d0 7 (by omega)]; exact a15
    · have := W.2.1
      rw [u _ _ (by omega) (by omega), d0 _ (by omega)]; exact aw w hw
    · by_cases e9 : q = s
      · subst e9
        obtain ⟨z1, z2, z3, z4, z5⟩ := as q hq
        rw [u _ _ (by omega) (by omega), u (e + 4) _ (by omega) (by omega), u (e + 6) _ (by omega) (by omega), v, v, v, v, v, if_neg (by omega), if_neg (by omega), if_neg (by omega), if_pos rfl, if_neg (by omega), if_neg (by omega), if_pos rfl, if_neg (by omega), if_neg (by omega)]
        refine ⟨z1, ?_, z3, ?_, z5⟩
        · rw [up2_at, if_neg (by omega), up2_at, if_pos ⟨rfl, rfl⟩]
        · rw [up2_at, if_pos ⟨rfl, rfl⟩]
      · rw [u _ _ (by omega) (by omega), u _ _ (by omega) (by omega), u _ _ (by omega) (by omega), u _ _ (by omega) (by omega), u _ _ (by omega) (by omega), v, v, v, v, v, if_neg (by omega), if_neg (by omega), if_neg (by omega), if_neg (by omega), if_neg (by omega), if_neg (by omega), if_neg (by omega), if_neg (by omega), if_neg (by omega), if_neg (by omega)]
        exact as q hq
