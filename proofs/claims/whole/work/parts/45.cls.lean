/-! ===== the class's hour ===== -/
theorem R_n {B : Int} {R : Rw} {h : Hp} {e : Nat} (W : WF B R) (H : Rep h e R) : h e 12 = nI (nS R) := by
  rw [H.2.2.2.2.2.2.1, (nS_le W).2.2, I_nat]
theorem c_lie {B c : Int} {R : Rw} {h : Hp} {e s : Nat} (W : WF B R) (he : isE e) (H : Rep h e R) (hs : s < nS R) (h1 : -1000 ≤ c) (h2 : c ≤ 1000) : fX2_liesOn e (nI s) (I c) h = some (b32 (lie R s c), h) := by
  have h6 := (nS_le W).2.1
  obtain ⟨k1, k2, k3, k4, k5, k6⟩ := sh W hs
  have i6 : inb (nI s) 6 = true := inb_n (by omega) (by omega)
  have cs := cl_n (show s < 2147483648 by omega)
  obtain ⟨q1, q2, q3, q4, q5⟩ := H.2.2.2.2.2.2.2.2.2.2.2 s hs
  have c1 : (I c < I (R (15 + 6 * s))) = (c < R (15 + 6 * s)) := by rw [I_lt (by omega) (by omega) (by omega) (by omega)]
  have c2 : (I (R (15 + 6 * s) + R (16 + 6 * s)) ≤ I c) = (R (15 + 6 * s) + R (16 + 6 * s) ≤ c) := by rw [I_le (by omega) (by omega) (by omega) (by omega)]
  simp only [fX2_liesOn, c_isIn W H hs, bd_e, if_b, len_E3 he, len_E4 he, i6, chk_t, cs, q2, q3, I_add, c1, c2]
  unfold lie
  by_cases a1 : R (19 + 6 * s) = 1
  · simp only [a1, decide_true, if_true, Bool.true_and]
    by_cases a2 : c < R (15 + 6 * s)
    · rw [if_pos a2, show decide (R (15 + 6 * s) ≤ c) = false by simp; omega]
      rfl
    · rw [if_neg a2, show decide (R (15 + 6 * s) ≤ c) = true by simp; omega]
      by_cases a3 : R (15 + 6 * s) + R (16 + 6 * s) ≤ c
      · rw [if_pos a3, show decide (c < R (15 + 6 * s) + R (16 + 6 * s)) = false by simp; omega]
        rfl
      · rw [if_neg a3, show decide (c < R (15 + 6 * s) + R (16 + 6 * s)) = true by simp; omega]
        rfl
  · simp [a1, b32]
theorem c_dfL {B b : Int} {R : Rw} {e : Nat} {K : Hp → Option (Unit × Hp)} (W : WF B R) (hB : B ≤ 5000) (he : isE e) (hb1 : -2 ≤ b) (hb2 : b ≤ 2) : ∀ (n s : Nat) (h : Hp), s ≤ nS R → nS R < n + s → Rep h e (dfU R b s) → ∃ h1, fX2_passHour_L7 K n e (I (b + 2)) (nI s) h = K h1 ∧ Rep h1 e (dfU R b (nS R)) ∧ off7 h h1 e := by
  intro n
  induction n with
  | zero => intro s h h1 h2; omega
  | succ n ih =>
    intro s h h1 h2 H
    have h6 := (nS_le W).2.1
    have W1 := WF_dfU (b := b) W h1
    have en := R_n W1 H
    rw [nS_dfU] at en
    rw [fX2_passHour_L7, en]
    by_cases c : s = nS R
    · subst c
      rw [if_pos (by rw [t_le]; omega)]
      exact ⟨h, rfl, H, off7.rf⟩
    · have hs : s < nS R := by omega
      rw [if_neg (by rw [t_le, nI_toInt (by omega), nI_toInt (by omega)]; omega), c_isIn W1 H (by rw [nS_dfU]; exact hs), bd_e, jp_e, if_b]
      dsimp only
      by_cases hi : dfU R b s (19 + 6 * s) = 1
      · obtain ⟨h3, e3, H3, o3⟩ := c_drift W1 hB he H (by rw [nS_dfU]; exact hs) hb1 hb2
        have e4 : dfU R b (s + 1) = dft (dfU R b s) b s := by
          show (if dfU R b s (19 + 6 * s) = 1 then _ else _) = _
          rw [if_pos hi]
        obtain ⟨h5, e5, H5, o5⟩ := ih (s + 1) h3 (by omega) (by omega) (by rw [e4]; exact H3)
        refine ⟨h5, ?_, H5, o3.tr o5⟩
        rw [if_pos (by simpa using hi), e3, bd_e, lk_e, nI_1]
        exact e5
      · have e4 : dfU R b (s + 1) = dfU R b s := by
          show (if dfU R b s (19 + 6 * s) = 1 then _ else _) = _
          rw [if_neg hi]
        obtain ⟨h5, e5, H5, o5⟩ := ih (s + 1) h (by omega) (by omega) (by rw [e4]; exact H)
        refine ⟨h5, ?_, H5, o5⟩
        rw [if_neg (by simpa using hi), lk_e, nI_1]
        exact e5
theorem c_awk {B : Int} {R : Rw} {h : Hp} {e : Nat} (W : WF B R) (hB : B ≤ 5000) (H : Rep h e R) : fX2_clerkIsAwake e h = some (b32 (awk R), h) := by
  have w5 := W.2.2.2.2.2.1
  have w6 := W.2.2.2.2.2.2.1
  have e3 : I (R 6) &&& 3 = nI ((R 6 % 4).toNat) := by
    rw [I_n w6.1, pk_andN (by omega) 2 rfl]
    congr 1
    omega
  unfold fX2_clerkIsAwake
  rw [H.2.2.2.2.1, H.2.2.2.2.2.2.2.1, e3, I_n w5.1, bit_n (by omega) (by omega), if_b]
  unfold awk
  cases (R 5).toNat.testBit (R 6 % 4).toNat <;> rfl
theorem c_nmS {B : Int} {R : Rw} {h : Hp} {e s : Nat} (W : WF B R) (H : Rep h e R) (hs : s < nS R) (hc : (lie R s (R 3) && decide (R (18 + 6 * s) = 0)) = true) : Rep (up2 (up2 h e 15 (I (R 7 + 1))) (e + 6) s (I (R 7 + 1))) e (nmS R s) := by
  obtain ⟨a6, a7, a8, a9, a10, a11, a12, a13, a14, a15, aw, as⟩ := H
  have d0 : ∀ j, j < 14 → j ≠ 7 → nmS R s j = R j := fun j hj h7 => nmS_ne h7 (by omega)
  have u : ∀ i j, ¬ (i = e ∧ j = 15) → ¬ (i = e + 6 ∧ j = s) → up2 (up2 h e 15 (I (R 7 + 1))) (e + 6) s (I (R 7 + 1)) i j = h i j := fun i j q q2 => by rw [up2_at, if_neg q2, up2_at, if_neg q]
  have v : ∀ q, nmS R s q = if q = 18 + 6 * s then R 7 + 1 else if q = 7 then R 7 + 1 else R q := fun q => by
    unfold nmS
    rw [if_pos hc]
    rfl
  refine Rep.mod ⟨a6, a7, a8, a9, a10, a11, a12, a13, a14, a15, aw, as⟩ (d0 0 (by omega) (by omega)) (d0 1 (by omega) (by omega)) (u _ _ (by omega) (by omega)) ?_ ?_ ?_ ?_ (u _ _ (by omega) (by omega)) (u _ _ (by omega) (by omega)) ?_ ?_ ?_ (fun w hw => ?_) (fun q hq => ?_)
  · rw [u _ _ (by omega) (by omega), d0 2 (by omega) (by omega)]; exact a7
  · rw [u _ _ (by omega) (by omega), d0 3 (by omega) (by omega)]; exact a8
  · rw [u _ _ (by omega) (by omega), d0 4 (by omega) (by omega)]; exact a9
  · rw [u _ _ (by omega) (by omega), d0 5 (by omega) (by omega)]; exact a10
  · rw [u _ _ (by omega) (by omega), d0 6 (by omega) (by omega)]; exact a13
  · rw [u _ _ (by omega) (by omega), msk_congr (d0 0 (by omega) (by omega)) (fun q _ => by rw [v, if_neg (by omega), if_neg (by omega)])]; exact a14
  · rw [up2_at, if_neg (by omega), up2_at, if_pos ⟨rfl, rfl⟩, v, if_neg (by omega), if_pos rfl]
  · have := W.2.1
    rw [u _ _ (by omega) (by omega), d0 _ (by omega) (by omega)]; exact aw w hw
  · obtain ⟨z1, z2, z3, z4, z5⟩ := as q hq
    rw [u _ _ (by omega) (by omega), u (e + 3) _ (by omega) (by omega), u (e + 4) _ (by omega) (by omega), u (e + 5) _ (by omega) (by omega), v, v, v, v, v, if_neg (by omega), if_neg (by omega), if_neg (by omega), if_neg (by omega), if_neg (by omega), if_neg (by omega), if_neg (by omega), if_neg (by omega)]
    refine ⟨z1, z2, z3, z4, ?_⟩
    by_cases e9 : q = s
    · subst e9
      rw [up2_at, if_pos ⟨rfl, rfl⟩, if_pos rfl]
    · rw [u _ _ (by omega) (by omega), if_neg (by omega), if_neg (by omega)]
      exact z5
theorem c_nmL {B : Int} {R : Rw} {e : Nat} (W : WF B R) (hB : B ≤ 5000) (he : isE e) : ∀ (n s : Nat) (h : Hp), s ≤ nS R → nS R < n + s → Rep h e (nmU R s) → ∃ h1, fX2_giveNumbers_L2 n e (nI s) h = some ((), h1) ∧ Rep h1 e (nmU R (nS R)) ∧ off7 h h1 e := by
  intro n
  induction n with
  | zero => intro s h h1 h2; omega
  | succ n ih =>
    intro s h h1 h2 H
    have h6 := (nS_le W).2.1
    have W1 := WF_nmU W h1
    have en := R_n W1 H
    rw [nS_nmU] at en
    rw [fX2_giveNumbers_L2, en]
    by_cases c : s = nS R
    · subst c
      rw [if_pos (by rw [t_le]; omega)]
      exact ⟨h, rfl, H, off7.rf⟩
    · have hs : s < nS R := by omega
      have hs1 : s < nS (nmU R s) := by rw [nS_nmU]; exact hs
      have i6 : inb (nI s) 6 = true := inb_n (by omega) (by omega)
      have cs := cl_n (show s < 2147483648 by omega)
      have k5 := (sh W1 hs1).2.2.2.2.1
      have k3 := W1.2.2.2.1
      have k2 := W1.2.2.1
      obtain ⟨q1, q2, q3, q4, q5⟩ := H.2.2.2.2.2.2.2.2.2.2.2 s hs1
      have c0 : (I (nmU R s (18 + 6 * s)) = 0) = (nmU R s (18 + 6 * s) = 0) := by rw [I_0, I_eq (by omega) (by omega) (by omega) (by omega)]
      have e7 : h e 15 = I (nmU R s 7) := H.2.2.2.2.2.2.2.2.2.1
      rw [if_neg (by rw [t_le, nI_toInt (by omega), nI_toInt (by omega)]; omega), len_E6 he, i6, chk_t, jp_e, cs, q5, H.2.2.1]
      dsimp only
      have e9 : up2 h e 15 (I (nmU R s 7) + 1) e 15 = I (nmU R s 7 + 1) := by
        rw [up2_at, if_pos ⟨rfl, rfl⟩, I_1, I_add]
      have e8 : I (nmU R s 7) + 1 = I (nmU R s 7 + 1) := by rw [I_1, I_add]
      by_cases hn : nmU R s (18 + 6 * s) = 0
      · rw [if_pos (by rw [c0]; exact hn), c_lie W1 he H hs1 (by omega) (by omega), bd_e, if_b]
        by_cases hl : lie (nmU R s) s (nmU R s 3) = true
        · have hc : (lie (nmU R s) s (nmU R s 3) && decide (nmU R s (18 + 6 * s) = 0)) = true := by simp [hl, hn]
          obtain ⟨h5, e5, H5, o5⟩ := ih (s + 1) _ (by omega) (by omega) (c_nmS W1 H hs1 hc)
          refine ⟨h5, ?_, H5, ((off7.rf.up (j := 0) (by omega)).up (by omega)).tr o5⟩
          rw [if_pos hl, e7, lk_e, chk_t, e9, lk_e, lk_e, nI_1, e8]
          exact e5
        · have hc : ¬ (lie (nmU R s) s (nmU R s 3) && decide (nmU R s (18 + 6 * s) = 0)) = true := by simp [hl]
          have e4 : nmU R (s + 1) = nmU R s := by
            show nmS (nmU R s) s = _
            unfold nmS
            rw [if_neg hc]
          obtain ⟨h5, e5, H5, o5⟩ := ih (s + 1) h (by omega) (by omega) (by rw [e4]; exact H)
          refine ⟨h5, ?_, H5, o5⟩
          rw [if_neg hl, lk_e, nI_1]
          exact e5
      · have hc : ¬ (lie (nmU R s) s (nmU R s 3) && decide (nmU R s (18 + 6 * s) = 0)) = true := by simp [hn]
        have e4 : nmU R (s + 1) = nmU R s := by
          show nmS (nmU R s) s = _
          unfold nmS
          rw [if_neg hc]
        obtain ⟨h5, e5, H5, o5⟩ := ih (s + 1) h (by omega) (by omega) (by rw [e4]; exact H)
        refine ⟨h5, ?_, H5, o5⟩
        rw [if_neg (by rw [c0]; exact hn), lk_e, nI_1]
        exact e5
theorem Rep.hour {h : Hp} {e : Nat} {R : Rw} {v : Int} (H : Rep h e R) (hw : R 1 ≤ 6) : Rep (up2 h e 13 (I v)) e (va_up R 6 v) := by
  obtain ⟨a6, a7, a8, a9, a10, a11, a12, a13, a14, a15, aw, as⟩ := H
  have u : ∀ i j, ¬ (i = e ∧ j = 13) → up2 h e 13 (I v) i j = h i j := fun i j q => by rw [up2_at, if_neg q]
  have w : ∀ q, q ≠ 6 → va_up R 6 v q = R q := fun q hq => upR_ne hq
  refine Rep.mod ⟨a6, a7, a8, a9, a10, a11, a12, a13, a14, a15, aw, as⟩ (w 0 (by omega)) (w 1 (by omega)) (u _ _ (by omega)) ?_ ?_ ?_ ?_ (u _ _ (by omega)) (u _ _ (by omega)) ?_ ?_ ?_ (fun x hx => ?_) (fun q hq => ?_)
  · rw [u _ _ (by omega), w _ (by omega)]; exact a7
  · rw [u _ _ (by omega), w _ (by omega)]; exact a8
  · rw [u _ _ (by omega), w _ (by omega)]; exact a9
  · rw [u _ _ (by omega), w _ (by omega)]; exact a10
  · rw [up2_at, if_pos ⟨rfl, rfl⟩, upR_at]
  · rw [u _ _ (by omega), msk_congr (w 0 (by omega)) (fun q _ => w _ (by omega))]; exact a14
  · rw [u _ _ (by omega), w _ (by omega)]; exact a15
  · rw [u _ _ (by omega), w _ (by omega)]; exact aw x hx
  · rw [u _ _ (by omega), u _ _ (by omega), u _ _ (by omega), u _ _ (by omega), u _ _ (by omega), w _ (by omega), w _ (by omega), w _ (by omega), w _ (by omega), w _ (by omega)]
    exact as q hq
theorem nI0_b {b : Int} (h : b = 2 + (b - 2)) : I b = I (b - 2 + 2) := by congr 1; omega
theorem c_hour {B : Int} {R : Rw} {h : Hp} {e : Nat} (W : WF B R) (hB : B ≤ 5000) (he : isE e) (H : Rep h e R) : ∃ h1, fX2_passHour e h = some ((), h1) ∧ Rep h1 e (hr R) ∧ off7 h h1 e := by
  obtain ⟨-, -, -, g1, g2⟩ := wnd_lt W
  have W1 := WF_dfU (b := wnd R - 2) W (Nat.le_refl _)
  unfold fX2_passHour
  rw [c_gust W hB he H, bd_e, nI0_b (by omega)]
  obtain ⟨h1, e1, H1, o1⟩ := c_dfL (K := fun hh49 => bd (fX2_clerkIsAwake e hh49) fun x57 hh58 => jp (fun hh66 => lk (up2 hh66 e 13 (hh66 e 13 + 1)) fun hh76 => some ((), hh76)) fun J46_65 => if x57 = 0 then J46_65 hh58 else bd (fX2_giveNumbers e hh58) fun _ hh85 => J46_65 hh85) W hB he (show -2 ≤ wnd R - 2 by omega) (by omega) 4096 0 h (by omega) (by have := (nS_le W).2.1; omega) H
  rw [nI_0] at e1
  rw [e1, c_awk W1 hB H1, bd_e, jp_e, if_b]
  dsimp only
  have w6 : nmA (dfU R (wnd R - 2) (nS R)) 6 = R 6 := by rw [nmA_0 (by omega) (by omega), dfU_0 (by omega)]
  have w1 : (nmA (dfU R (wnd R - 2) (nS R))) 1 ≤ 6 := (WF_nmA W1).2.1.2
  have fin : ∀ h2 : Hp, Rep h2 e (nmA (dfU R (wnd R - 2) (nS R))) → up2 h2 e 13 (h2 e 13 + 1) = up2 h2 e 13 (I (R 6 + 1)) ∧ Rep (up2 h2 e 13 (I (R 6 + 1))) e (hr R) := fun h2 H2 => by
    refine ⟨?_, H2.hour w1⟩
    rw [H2.2.2.2.2.2.2.2.1, w6, I_1, I_add]
  by_cases ha : awk (dfU R (wnd R - 2) (nS R)) = true
  · obtain ⟨h3, e3, H3, o3⟩ := c_nmL W1 hB he 4096 0 h1 (by omega) (by have := (nS_le W1).2.1; omega) H1
    rw [nI_0] at e3
    have H4 : Rep h3 e (nmA (dfU R (wnd R - 2) (nS R))) := by unfold nmA; rw [if_pos ha]; exact H3
    obtain ⟨f1, f2⟩ := fin h3 H4
    unfold fX2_giveNumbers
    rw [if_pos ha, e3, bd_e, lk_e, f1]
    exact ⟨_, rfl, f2, (o1.tr o3).up (j := 0) (by omega)⟩
  · have H4 : Rep h1 e (nmA (dfU R (wnd R - 2) (nS R))) := by unfold nmA; rw [if_neg ha]; exact H1
    obtain ⟨f1, f2⟩ := fin h1 H4
    rw [if_neg ha, lk_e, f1]
    exact ⟨_, rfl, f2, o1.up (j := 0) (by omega)⟩
