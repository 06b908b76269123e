/-! ===== let; hours; undo; images ===== -/
theorem a250 : is50 250 := rfl
theorem a252 : is50 252 := rfl
theorem e0E : isE 0 := ⟨rfl, by decide⟩
theorem e14E : isE 14 := ⟨rfl, by decide⟩
def adm (R : Rw) (s : Nat) (c t : Int) : Rw := va_up (va_up (va_up R (15 + 6 * s) c) (17 + 6 * s) t) (19 + 6 * s) 1
theorem adm_ne {R : Rw} {s j : Nat} {c t : Int} (h1 : j ≠ 15 + 6 * s) (h2 : j ≠ 17 + 6 * s) (h3 : j ≠ 19 + 6 * s) : adm R s c t j = R j := by
  unfold adm
  rw [upR_ne h3, upR_ne h2, upR_ne h1]
theorem adm_15 {R : Rw} {s : Nat} {c t : Int} : adm R s c t (15 + 6 * s) = c := by unfold adm; rw [upR_ne (by omega), upR_ne (by omega), upR_at]
theorem adm_17 {R : Rw} {s : Nat} {c t : Int} : adm R s c t (17 + 6 * s) = t := by unfold adm; rw [upR_ne (by omega), upR_at]
theorem adm_19 {R : Rw} {s : Nat} {c t : Int} : adm R s c t (19 + 6 * s) = 1 := by unfold adm; rw [upR_at]
theorem WF_adm {B : Int} {R : Rw} {s : Nat} {c t : Int} (W : WF B R) (c1 : 0 ≤ c) (c2 : c < R 2) (t1 : 1 ≤ t) (t2 : t ≤ 9) : WF B (adm R s c t) := by
  have w2 := W.2.2.1
  refine W.mod (adm_ne (by omega) (by omega) (by omega)) (adm_ne (by omega) (by omega) (by omega)) (adm_ne (by omega) (by omega) (by omega)) (by rw [adm_ne (by omega) (by omega) (by omega)]; exact W.2.2.2.1) (by rw [adm_ne (by omega) (by omega) (by omega)]; exact W.2.2.2.2.1) (by rw [adm_ne (by omega) (by omega) (by omega)]; exact W.2.2.2.2.2.1) (adm_ne (by omega) (by omega) (by omega)) (adm_ne (by omega) (by omega) (by omega)) (fun w hw => ?_) (fun q hq => ?_) (fun q hq => adm_ne (by omega) (by omega) (by omega))
  · have w1 := W.2.1
    rw [adm_ne (by omega) (by omega) (by omega)]
    exact W.2.2.2.2.2.2.2.2.1 w hw
  · have k := sh W hq
    unfold ShOk at k ⊢
    by_cases e : q = s
    · subst e
      rw [adm_ne (by omega) (by omega) (by omega), adm_15, adm_ne (by omega) (by omega) (by omega), adm_17, adm_ne (by omega) (by omega) (by omega), adm_19]
      omega
    · rw [adm_ne (by omega) (by omega) (by omega), adm_ne (by omega) (by omega) (by omega), adm_ne (by omega) (by omega) (by omega), adm_ne (by omega) (by omega) (by omega), adm_ne (by omega) (by omega) (by omega), adm_ne (by omega) (by omega) (by omega)]
      exact k
theorem bs_set {f : Nat → Bool} {n s : Nat} (hs : s < n) : bs f n ||| 2 ^ s = bs (fun i => decide (i = s) || f i) n := by
  apply Nat.eq_of_testBit_eq
  intro i
  rw [Nat.testBit_or, bs_bit, bs_bit, Nat.testBit_two_pow]
  by_cases e : s = i
  · subst e
    simp [hs]
  · simp [e, show ¬ i = s by omega]
theorem c_admit {B : Int} {R : Rw} {h : Hp} {e s : Nat} {c t : Int} (W : WF B R) (he : isE e) (H : Rep h e R) (hs : s < nS R) : ∃ h1, fX2_admit e (nI s) (I c) (I t) h = some ((), h1) ∧ Rep h1 e (adm R s c t) ∧ off7 h h1 e := by
  have h6 := nS_le W
  have w1 := W.2.1
  refine ⟨up2 (up2 (up2 h e 14 (nI (msk R ||| 2 ^ s))) (e + 3) s (I c)) (e + 5) s (I t), ?_, ?_, fun i hi => by rw [up2_ne (by omega), up2_ne (by omega), up2_ne (by omega)]⟩
  · unfold fX2_admit
    rw [H.2.2.2.2.2.2.2.2.1, ← I_nat, shl_n (by omega), or_n, lk_e, len_E3 he, inb_n (by omega) (by omega), chk_t, lk_e, len_E5 he, inb_n (by omega) (by omega), chk_t, lk_e, cl_n (by omega)]
  · have H2 := H
    obtain ⟨a6, a7, a8, a9, a10, a11, a12, a13, a14, a15, aw, as⟩ := H2
    have o : ∀ i j, i ≠ e + 3 → i ≠ e + 5 → ¬ (i = e ∧ j = 14) → up2 (up2 (up2 h e 14 (nI (msk R ||| 2 ^ s))) (e + 3) s (I c)) (e + 5) s (I t) i j = h i j := fun i j q1 q2 q3 => by
      rw [up2_at, if_neg (by omega), up2_at, if_neg (by omega), up2_at, if_neg q3]
    have n : ∀ j, j < 14 → adm R s c t j = R j := fun j q => adm_ne (by omega) (by omega) (by omega)
    refine H.mod (n 0 (by omega)) (n 1 (by omega)) (o _ _ (by omega) (by omega) (by omega)) (by rw [o _ _ (by omega) (by omega) (by omega), n 2 (by omega)]; exact a7) (by rw [o _ _ (by omega) (by omega) (by omega), n 3 (by omega)]; exact a8) (by rw [o _ _ (by omega) (by omega) (by omega), n 4 (by omega)]; exact a9) (by rw [o _ _ (by omega) (by omega) (by omega), n 5 (by omega)]; exact a10) (o _ _ (by omega) (by omega) (by omega)) (o _ _ (by omega) (by omega) (by omega)) (by rw [o _ _ (by omega) (by omega) (by omega), n 6 (by omega)]; exact a13) ?_ (by rw [o _ _ (by omega) (by omega) (by omega), n 7 (by omega)]; exact a15) (fun w hw => by rw [o _ _ (by omega) (by omega) (by omega), n _ (by omega)]; exact aw w hw) (fun q hq => ?_)
    · rw [up2_at, if_neg (by omega), up2_at, if_neg (by omega), up2_at, if_pos ⟨rfl, rfl⟩, ← I_nat, msk_bs, msk_bs, show nS (adm R s c t) = nS R by unfold nS; rw [n 0 (by omega)], bs_set hs]
      congr 1
      refine bs_congr (fun i hi => ?_)
      unfold inB
      by_cases q : i = s
      · subst q; rw [adm_19]; simp
      · rw [adm_ne (by omega) (by omega) (by omega)]; simp [q]
    · obtain ⟨b1, b2, b3, b4, b5⟩ := as q hq
      refine ⟨by rw [o _ _ (by omega) (by omega) (by omega), adm_ne (by omega) (by omega) (by omega)]; exact b1, ?_, by rw [o _ _ (by omega) (by omega) (by omega), adm_ne (by omega) (by omega) (by omega)]; exact b3, ?_, by rw [o _ _ (by omega) (by omega) (by omega), adm_ne (by omega) (by omega) (by omega)]; exact b5⟩
      · by_cases e1 : q = s
        · subst e1
          rw [adm_15, up2_at, if_neg (by omega), up2_at, if_pos ⟨rfl, rfl⟩]
        · rw [adm_ne (by omega) (by omega) (by omega), up2_at, if_neg (by omega), up2_at, if_neg (by omega), up2_at, if_neg (by omega)]; exact b2
      · by_cases e1 : q = s
        · subst e1
          rw [adm_17, up2_at, if_pos ⟨rfl, rfl⟩]
        · rw [adm_ne (by omega) (by omega) (by omega), up2_at, if_neg (by omega), up2_at, if_neg (by omega), up2_at, if_neg (by omega)]; exact b4
theorem m_let {B : Int} {R : Rw} {k : Hp} {a s : Nat} {c t : Int} (W : WF B R) (ha : is50 a) (H : M0 k a R) (hs : s < nS R) : ∃ k1, fX7_letIn a (nI s) (I c) (I t) k = some ((), k1) ∧ M0 k1 a (adm R s c t) ∧ offA k k1 a := by
  have h6 := nS_le W
  refine ⟨up2 (up2 (up2 k a (15 + 6 * s) (I c)) a (17 + 6 * s) (I t)) a (19 + 6 * s) (I 1), ?_, ((H.up (j := 15 + 6 * s) (v := c)).up (j := 17 + 6 * s) (v := t)).up (j := 19 + 6 * s) (v := 1), fun i hi => by rw [up2_ne hi, up2_ne hi, up2_ne hi]⟩
  have e1 := m_be (k := k) (s := s) (v := I c) 1 ha (by omega)
  have e2 := m_be (k := up2 k a (14 + 6 * s + 1) (I c)) (s := s) (v := I t) 3 ha (by omega)
  have e3 := m_be (k := up2 (up2 k a (14 + 6 * s + 1) (I c)) a (14 + 6 * s + 3) (I t)) (s := s) (v := 1) 5 ha (by omega)
  unfold fX7_letIn
  rw [show fX7_be a (nI s) 1 (I c) k = _ from e1, bd_e, show fX7_be a (nI s) 3 (I t) _ = _ from e2, bd_e, show fX7_be a (nI s) 5 1 _ = _ from e3, bd_e, show 14 + 6 * s + 1 = 15 + 6 * s by omega, show 14 + 6 * s + 3 = 17 + 6 * s by omega, show 14 + 6 * s + 5 = 19 + 6 * s by omega]
  rfl
theorem st_let : St_let RR := by
  intro h k a1 a2 a3 H
  have hz := H.mz
  rcases H.sheet a1 with ⟨p1, p2⟩ | ⟨R, s, hs, rfl, T, p1, p2⟩
  · exact ⟨-1000001, h, Mz k, by simp only [fX6_let, p1, bd_e, if_true], by simp only [fX7_let, lk_e, Mz_e, p2, bd_e, if_true], hz⟩
  rcases T.cell a2 with ⟨c1, c2, -⟩ | ⟨c, hc, rfl, c1, c2⟩
  · exact ⟨-1000001, h, Mz k, by simp only [fX6_let, p1, c1, i10, if_false, bd_e, if_true], by simp only [fX7_let, lk_e, Mz_e, p2, c2, i10, if_false, bd_e, if_true], hz⟩
  rcases nem ((1 : Int) ≤ a3.toInt ∧ a3.toInt ≤ 9) with q | q
  · exact ⟨-1000001, h, Mz k, by simp only [fX6_let, p1, c1, i10, if_false, w6_f 1 9 q, bd_e, if_true], by simp only [fX7_let, lk_e, Mz_e, p2, c2, bd_e, i10, if_false, L_wf 1 9 q, if_true], hz⟩
  have eC : fX6_let (nI s) (nI c) a3 h = bd (fX2_isIn 0 (nI s) h) fun x33 hh34 => if x33 = 0 then bd (fX0_keep 0 hh34) fun _ hh44 => bd (fX2_admit 0 (nI s) (nI c) a3 hh44) fun _ hh52 => some (hh52 0 14, hh52) else some ((-1000002 : Int32), hh34) := by
    unfold fX6_let
    rw [p1, bd_e, if_neg (by decide), c1, bd_e, if_neg (by decide), w6_t 1 9 q, bd_e, if_neg (by decide)]
  have eM : fX7_let (nI s) (nI c) a3 k = bd (fX7_isIn 250 (nI s) (Mz k)) fun x39 kk40 => if x39 = 0 then bd (fX7_keep kk40) fun _ kk50 => bd (fX7_letIn 250 (nI s) (nI c) a3 kk50) fun _ kk58 => bd (fX7_ins 250 kk58) fun x65 kk66 => some (x65, kk66) else some ((-1000002 : Int32), kk40) := by
    unfold fX7_let
    rw [lk_e, Mz_e, p2, bd_e, if_neg (by decide), c2, bd_e, if_neg (by decide), L_wd 1 9 q, bd_e, if_neg (by decide)]
  rw [eC, eM, c_isIn T.W T.C hs, m_isIn T.W a250 T.M hs, bd_e, bd_e, if_b, if_b]
  by_cases z : decide (R (19 + 6 * s) = 1) = true
  · exact ⟨-1000002, h, Mz k, by rw [if_pos z], by rw [if_pos z], hz⟩
  obtain ⟨h1, k1, e1, e2, T1, K⟩ := hz.kept T
  have ea : a3 = I a3.toInt := I_of a3
  obtain ⟨h2, f1, f2, f3⟩ := c_admit (c := (c : Int)) (t := a3.toInt) T1.W (e := 0) ⟨rfl, by decide⟩ T1.C hs
  obtain ⟨k2, g1, g2, g3⟩ := m_let (c := (c : Int)) (t := a3.toInt) T1.W (a := 250) rfl T1.M hs
  rw [← ea, ← I_nat] at f1 g1
  have W2 : WF 999 (adm R s c a3.toInt) := WF_adm T.W (by omega) hc q.1 q.2
  refine ⟨nI (msk (adm R s c a3.toInt)), h2, k2, ?_, ?_, K h2 k2 _ f3 g3 ⟨W2, f2, g2⟩⟩
  · rw [if_neg z, e1, bd_e, f1, bd_e, f2.2.2.2.2.2.2.2.2.1, I_nat]
  · rw [if_neg z, e2, bd_e, g1, bd_e, m_ins W2 a250 g2, bd_e]
