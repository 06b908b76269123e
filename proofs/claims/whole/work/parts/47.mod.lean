/-! ===== the reference's hour ===== -/
theorem lb0 {a : Nat} (ha : is50 a) : inb (0 : Int32) (lenM a) = true := ib50 (j := 0) ha (by omega)
theorem lb1 {a : Nat} (ha : is50 a) : inb (1 : Int32) (lenM a) = true := ib50 (j := 1) ha (by omega)
theorem lb2 {a : Nat} (ha : is50 a) : inb (2 : Int32) (lenM a) = true := ib50 (j := 2) ha (by omega)
theorem lb3 {a : Nat} (ha : is50 a) : inb (3 : Int32) (lenM a) = true := ib50 (j := 3) ha (by omega)
theorem lb4 {a : Nat} (ha : is50 a) : inb (4 : Int32) (lenM a) = true := ib50 (j := 4) ha (by omega)
theorem lb5 {a : Nat} (ha : is50 a) : inb (5 : Int32) (lenM a) = true := ib50 (j := 5) ha (by omega)
theorem lb6 {a : Nat} (ha : is50 a) : inb (6 : Int32) (lenM a) = true := ib50 (j := 6) ha (by omega)
theorem lb7 {a : Nat} (ha : is50 a) : inb (7 : Int32) (lenM a) = true := ib50 (j := 7) ha (by omega)
theorem M_n {B : Int} {R : Rw} {k : Hp} {a : Nat} (W : WF B R) (H : M0 k a R) : k a (0 : Int32).toNatClampNeg = nI (nS R) := by
  have e := m_at H 0 (by omega)
  rw [(nS_le W).2.2, ← I_nat] at e
  exact e
theorem m_dfL {B b : Int} {R : Rw} {a : Nat} {K : Hp → Option (Unit × Hp)} (W : WF B R) (hB : B ≤ 5000) (ha : is50 a) (hb1 : -2 ≤ b) (hb2 : b ≤ 2) : ∀ (n s : Nat) (k : Hp), s ≤ nS R → nS R < n + s → M0 k a (dfU R b s) → ∃ k1, fX7_hourOf_L9 K n a (I b) (nI s) k = K k1 ∧ M0 k1 a (dfU R b (nS R)) ∧ offA k k1 a := by
  intro n
  induction n with
  | zero => intro s h h1 h2; omega
  | succ n ih =>
    intro s k h1 h2 H
    have h6 := (nS_le W).2.1
    have W1 := WF_dfU (b := b) W h1
    have en := M_n W1 H
    rw [nS_dfU] at en
    rw [fX7_hourOf_L9, en, lb0 ha, chk_t]
    by_cases c : s = nS R
    · subst c
      rw [if_pos (by rw [t_le]; omega)]
      exact ⟨k, rfl, H, offA.rf⟩
    · have hs : s < nS R := by omega
      rw [if_neg (by rw [t_le, nI_toInt (by omega), nI_toInt (by omega)]; omega), m_isIn W1 ha H (by rw [nS_dfU]; exact hs), bd_e, jp_e, if_b]
      dsimp only
      by_cases hi : dfU R b s (19 + 6 * s) = 1
      · obtain ⟨h3, e3, H3, o3⟩ := m_drift W1 hB ha H (by rw [nS_dfU]; exact hs) hb1 hb2
        have e4 : dfU R b (s + 1) = dft (dfU R b s) b s := by
          show (if dfU R b s (19 + 6 * s) = 1 then _ else _) = _
          rw [if_pos hi]
        obtain ⟨h5, e5, H5, o5⟩ := ih (s + 1) h3 (by omega) (by omega) (by rw [e4]; exact H3)
        refine ⟨h5, ?_, H5, o3.tr o5⟩
        rw [if_pos (by simpa using hi), e3, bd_e, lk_e, nI_1]
        exact e5
      · have e4 : dfU R b (s + 1) = dfU R b s := by
          show (if dfU R b s (19 + 6 * s) = 1 then _ else _) = _
          rw [if_neg hi]
        obtain ⟨h5, e5, H5, o5⟩ := ih (s + 1) k (by omega) (by omega) (by rw [e4]; exact H)
        refine ⟨h5, ?_, H5, o5⟩
        rw [if_neg (by simpa using hi), lk_e, nI_1]
        exact e5
theorem awk_nmU {R : Rw} {n : Nat} : awk (nmU R n) = awk R := by
  unfold awk
  rw [nmU_0 (by omega) (by omega), nmU_0 (by omega) (by omega)]
theorem m_nmL {B : Int} {R : Rw} {a : Nat} {K : Hp → Option (Unit × Hp)} (W : WF B R) (hB : B ≤ 5000) (ha : is50 a) (hA : awk R = true) : ∀ (n s : Nat) (k : Hp), s ≤ nS R → nS R < n + s → M0 k a (nmU R s) → ∃ k1, fX7_hourOf_L38 K n a (nI s) k = K k1 ∧ M0 k1 a (nmU R (nS R)) ∧ offA k k1 a := by
  intro n
  induction n with
  | zero => intro s h h1 h2; omega
  | succ n ih =>
    intro s k h1 h2 H
    have h6 := (nS_le W).2.1
    have W1 := WF_nmU W h1
    have en := M_n W1 H
    rw [nS_nmU] at en
    rw [fX7_hourOf_L38, en, lb0 ha, chk_t]
    by_cases c : s = nS R
    · subst c
      rw [if_pos (by rw [t_le]; omega)]
      exact ⟨k, rfl, H, offA.rf⟩
    · have hs : s < nS R := by omega
      have hs1 : s < nS (nmU R s) := by rw [nS_nmU]; exact hs
      have k5 := (sh W1 hs1).2.2.2.2.1
      have w5 := W1.2.2.2.2.2.1
      have w6 := W1.2.2.2.2.2.2.1
      have k3 := W1.2.2.2.1
      have k2 := W1.2.2.1
      have r5 : k a (5 : Int32).toNatClampNeg = I (nmU R s 5) := m_at H 5 (by omega)
      have r6 : k a (6 : Int32).toNatClampNeg = I (nmU R s 6) := m_at H 6 (by omega)
      have r3 : k a (3 : Int32).toNatClampNeg = I (nmU R s 3) := m_at H 3 (by omega)
      have r7 : k a (7 : Int32).toNatClampNeg = I (nmU R s 7) := m_at H 7 (by omega)
      have rr : irm (I (nmU R s 6)) 4 = I (nmU R s 6 % 4) := by rw [show (4 : Int32) = I 4 from rfl]; exact irm_I (by omega) (by omega) (by omega) (by omega)
      have ew : fX7_has (I (nmU R s 5)) (I (nmU R s 6 % 4)) k = some (b32 (awk (nmU R s)), k) := by
        rw [I_n w5.1, I_n (show 0 ≤ nmU R s 6 % 4 by omega)]
        exact m_has (by omega) (by omega)
      have e4 := m_of 4 ha H (show 14 + 6 * s + 4 < 50 by omega)
      rw [show 14 + 6 * s + 4 = 18 + 6 * s by omega] at e4
      have eo : fX7_has (nI (bs (fun c => lie (nmU R s) s (c : Int)) (nmU R s 2).toNat)) (I (nmU R s 3)) k = some (b32 (lie (nmU R s) s (nmU R s 3)), k) := by
        rw [I_n k3.1, m_on W1 (by omega), Int.toNat_of_nonneg k3.1]
      rw [if_neg (by rw [t_le, nI_toInt (by omega), nI_toInt (by omega)]; omega), lb5 ha, chk_t, lb6 ha, chk_t, r5, r6, rr, ew, bd_e, awk_nmU, hA, if_neg (by decide), m_lie W1 ha H hs1, bd_e, lb3 ha, chk_t, r3, eo, bd_e, jp_e, if_b]
      dsimp only
      by_cases hl : lie (nmU R s) s (nmU R s 3) = true
      · rw [if_pos hl, show (4 : Int32) = nI 4 from rfl, e4, bd_e]
        by_cases hn : nmU R s (18 + 6 * s) = 0
        · have hc : (lie (nmU R s) s (nmU R s 3) && decide (nmU R s (18 + 6 * s) = 0)) = true := by simp [hl, hn]
          have e8 : I (nmU R s 7) + 1 = I (nmU R s 7 + 1) := by rw [I_1, I_add]
          have e9 : up2 k a (7 : Int32).toNatClampNeg (I (nmU R s 7 + 1)) a (7 : Int32).toNatClampNeg = I (nmU R s 7 + 1) := by rw [up2_at, if_pos ⟨rfl, rfl⟩]
          have H2 : M0 (up2 (up2 k a 7 (I (nmU R s 7 + 1))) a (18 + 6 * s) (I (nmU R s 7 + 1))) a (nmU R (s + 1)) := by
            show M0 _ a (nmS (nmU R s) s)
            unfold nmS
            rw [if_pos hc]
            exact H.up.up
          obtain ⟨h5, e5, H5, o5⟩ := ih (s + 1) _ (by omega) (by omega) H2
          refine ⟨h5, ?_, H5, offA.rf.up.up.tr o5⟩
          have eb := m_be (k := up2 k a 7 (I (nmU R s 7 + 1))) (v := I (nmU R s 7 + 1)) 4 ha (show 14 + 6 * s + 4 < 50 by omega)
          rw [show 14 + 6 * s + 4 = 18 + 6 * s by omega] at eb
          rw [if_pos (by rw [hn]; rfl), lb7 ha, chk_t, r7, e8, chk_t, lk_e, chk_t, e9, show (7 : Int32).toNatClampNeg = 7 from rfl, eb, bd_e, lk_e, nI_1]
          exact e5
        · have hc : ¬ (lie (nmU R s) s (nmU R s 3) && decide (nmU R s (18 + 6 * s) = 0)) = true := by simp [hn]
          have e6 : nmU R (s + 1) = nmU R s := by
            show nmS (nmU R s) s = _
            unfold nmS
            rw [if_neg hc]
          obtain ⟨h5, e5, H5, o5⟩ := ih (s + 1) k (by omega) (by omega) (by rw [e6]; exact H)
          refine ⟨h5, ?_, H5, o5⟩
          rw [if_neg (by rw [I_0, I_eq (by omega) (by omega) (by omega) (by omega)]; exact hn), lk_e, nI_1]
          exact e5
      · have hc : ¬ (lie (nmU R s) s (nmU R s 3) && decide (nmU R s (18 + 6 * s) = 0)) = true := by simp [hl]
        have e6 : nmU R (s + 1) = nmU R s := by
          show nmS (nmU R s) s = _
          unfold nmS
          rw [if_neg hc]
        obtain ⟨h5, e5, H5, o5⟩ := ih (s + 1) k (by omega) (by omega) (by rw [e6]; exact H)
        refine ⟨h5, ?_, H5, o5⟩
        rw [if_neg hl, lk_e, nI_1]
        exact e5
theorem m_nm0 {B : Int} {R : Rw} {a : Nat} {K : Hp → Option (Unit × Hp)} {k : Hp} (W : WF B R) (hB : B ≤ 5000) (ha : is50 a) (hA : ¬ awk R = true) (H : M0 k a R) {n : Nat} (hn : 0 < n) : fX7_hourOf_L38 K n a 0 k = K k := by
  obtain ⟨n, rfl⟩ : ∃ m, n = m + 1 := ⟨n - 1, by omega⟩
  have h6 := nS_le W
  have w5 := W.2.2.2.2.2.1
  have w6 := W.2.2.2.2.2.2.1
  have r5 : k a (5 : Int32).toNatClampNeg = I (R 5) := m_at H 5 (by omega)
  have r6 : k a (6 : Int32).toNatClampNeg = I (R 6) := m_at H 6 (by omega)
  have rr : irm (I (R 6)) 4 = I (R 6 % 4) := by rw [show (4 : Int32) = I 4 from rfl]; exact irm_I (by omega) (by omega) (by omega) (by omega)
  have ew : fX7_has (I (R 5)) (I (R 6 % 4)) k = some (b32 (awk R), k) := by
    rw [I_n w5.1, I_n (show 0 ≤ R 6 % 4 by omega)]
    exact m_has (by omega) (by omega)
  rw [fX7_hourOf_L38, M_n W H, lb0 ha, chk_t, if_neg (by rw [t_le, nI_toInt (by omega)]; show ¬ _ ≤ (0 : Int); omega), lb5 ha, chk_t, lb6 ha, chk_t, r5, r6, rr, ew, bd_e, if_b, if_neg hA]
theorem m_hour {B : Int} {R : Rw} {k : Hp} {a : Nat} (W : WF B R) (hB : B ≤ 5000) (ha : is50 a) (H : M0 k a R) : ∃ k1, fX7_hourOf a k = some ((), k1) ∧ M0 k1 a (hr R) ∧ offA k k1 a := by
  obtain ⟨-, -, -, g1, g2⟩ := wnd_lt W
  have W1 := WF_dfU (b := wnd R - 2) W (Nat.le_refl _)
  unfold fX7_hourOf
  rw [m_wnd W hB ha H, bd_e, lk_e, show (2 : Int32) = I 2 from rfl, I_sub]
  obtain ⟨k1, e1, H1, o1⟩ := m_dfL (K := fun kk53 => fX7_hourOf_L38 (fun kk149 => chk (inb (6 : Int32) (lenM a)) <| chk (inb (6 : Int32) (lenM a)) <| lk (up2 kk149 a (6 : Int32).toNatClampNeg ((kk149 a (6 : Int32).toNatClampNeg) + (1 : Int32))) fun kk163 => some ((), kk163)) 4096 a (0 : Int32) kk53) W hB ha (show -2 ≤ wnd R - 2 by omega) (by omega) 4096 0 k (by omega) (by have := (nS_le W).2.1; omega) H
  rw [nI_0] at e1
  rw [e1]
  have w6 : nmA (dfU R (wnd R - 2) (nS R)) 6 = R 6 := by rw [nmA_0 (by omega) (by omega), dfU_0 (by omega)]
  have fin : ∀ k2 : Hp, M0 k2 a (nmA (dfU R (wnd R - 2) (nS R))) → up2 k2 a (6 : Int32).toNatClampNeg (k2 a (6 : Int32).toNatClampNeg + 1) = up2 k2 a 6 (I (R 6 + 1)) ∧ M0 (up2 k2 a 6 (I (R 6 + 1))) a (hr R) := fun k2 H2 => by
    refine ⟨?_, H2.up⟩
    rw [show (6 : Int32).toNatClampNeg = 6 from rfl, H2 6 (by omega), w6, I_1, I_add]
  by_cases hA : awk (dfU R (wnd R - 2) (nS R)) = true
  · obtain ⟨k3, e3, H3, o3⟩ := m_nmL (K := fun kk149 => chk (inb (6 : Int32) (lenM a)) <| chk (inb (6 : Int32) (lenM a)) <| lk (up2 kk149 a (6 : Int32).toNatClampNeg ((kk149 a (6 : Int32).toNatClampNeg) + (1 : Int32))) fun kk163 => some ((), kk163)) W1 hB ha hA 4096 0 k1 (by omega) (by have := (nS_le W1).2.1; omega) H1
    rw [nI_0] at e3
    have H4 : M0 k3 a (nmA (dfU R (wnd R - 2) (nS R))) := by unfold nmA; rw [if_pos hA]; exact H3
    obtain ⟨f1, f2⟩ := fin k3 H4
    rw [e3, lb6 ha, chk_t, chk_t, lk_e, f1]
    exact ⟨_, rfl, f2, (o1.tr o3).up⟩
  · have H4 : M0 k1 a (nmA (dfU R (wnd R - 2) (nS R))) := by unfold nmA; rw [if_neg hA]; exact H1
    obtain ⟨f1, f2⟩ := fin k1 H4
    rw [m_nm0 W1 hB ha hA H1 (by omega), lb6 ha, chk_t, chk_t, lk_e, f1]
    exact ⟨_, rfl, f2, o1.up⟩
