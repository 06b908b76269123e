/-! ===== both keep an act ===== -/
def KfC (h h1 : Hp) : Prop := ∀ i j, ¬ (35 ≤ i ∧ i < 203) → i ≠ 207 → h1 i j = h i j
def KfM (k k1 : Hp) : Prop := ∀ i j, i ≠ 253 → ¬ (i = 246 ∧ j = 9) → k1 i j = k i j
theorem mod24 {N : Nat} (hN : N < 24) : irm (nI N + 1) 24 = nI ((N + 1) % 24) := by
  rw [nI_1, show (24 : Int32) = nI 24 from rfl]
  unfold irm
  exact pk_rem (by omega) (by omega) (by omega)
theorem mod24b {N : Nat} (hN : N < 24) : irm (nI N + 24 - 1) 24 = nI ((N + 23) % 24) := by
  rw [show (24 : Int32) = nI 24 from rfl, show (1 : Int32) = nI 1 from rfl, nI_add, pk_sub (by omega)]
  unfold irm
  rw [pk_rem (by omega) (by omega) (by omega)]
  rfl
theorem b_keep {h k : Hp} {R : Rw} (hA : actsR h k) (W : WF 999 R) (HC : Rep h 0 R) (HM : MR k 250 0 R) : ∃ h1 k1, fX0_keep 0 h = some ((), h1) ∧ fX7_keep k = some ((), k1) ∧ actsR h1 k1 ∧ KfC h h1 ∧ KfM k k1 := by
  obtain ⟨n, N, a1, a2, a3, a4, a5, a6⟩ := hA
  have iN : inb (nI N) 24 = true := inb_n (by omega) (by omega)
  have cN := cl_n (show N < 2147483648 by omega)
  have heN : isE (35 + 7 * N) := ⟨by omega, by omega⟩
  obtain ⟨h1, b1, b2, b3⟩ := c_bec (B := 999) (h := h) heN (show isE 0 from ⟨rfl, by decide⟩) (by omega) W HC
  have r1 : h1 207 1 = nI N := by rw [b3 207 (by omega)]; exact a4
  have r2 : up2 h1 207 1 (nI ((N + 1) % 24)) 207 2 = nI n := by rw [up2_at, if_neg (by omega), b3 207 (by omega)]; exact a3
  have mn : minJ (nI n + 1) 24 = nI (min (n + 1) 24) := by
    unfold minJ
    rw [nI_1, show (24 : Int32) = nI 24 from rfl]
    by_cases q : 24 < n + 1
    · rw [if_pos (by rw [t_lt, nI_toInt (by omega), nI_toInt (by omega)]; omega), Nat.min_eq_right (by omega)]
    · rw [if_neg (by rw [t_lt, nI_toInt (by omega), nI_toInt (by omega)]; omega), Nat.min_eq_left (by omega)]
  have eC : fX0_keep 0 h = some ((), up2 (up2 h1 207 1 (nI ((N + 1) % 24))) 207 2 (nI (min (n + 1) 24))) := by
    unfold fX0_keep
    rw [a4, iN, chk_t, cN, b1, bd_e, lk_e, r1, mod24 a2, lk_e, r2, mn]
  have fC : ∀ i j, i ≠ 207 → up2 (up2 h1 207 1 (nI ((N + 1) % 24))) 207 2 (nI (min (n + 1) 24)) i j = h1 i j := fun i j q => by
    rw [up2_at, if_neg (by omega), up2_at, if_neg (by omega)]
  have kC : KfC h (up2 (up2 h1 207 1 (nI ((N + 1) % 24))) 207 2 (nI (min (n + 1) 24))) := fun i j q q2 => by
    rw [fC i j q2, b3 i (by omega)]
  have g1 : up2 (up2 h1 207 1 (nI ((N + 1) % 24))) 207 2 (nI (min (n + 1) 24)) 207 2 = nI (min (n + 1) 24) := by rw [up2_at, if_pos ⟨rfl, rfl⟩]
  have g2 : up2 (up2 h1 207 1 (nI ((N + 1) % 24))) 207 2 (nI (min (n + 1) 24)) 207 1 = nI ((N + 1) % 24) := by rw [up2_at, if_neg (by omega), up2_at, if_pos ⟨rfl, rfl⟩]
  generalize up2 (up2 h1 207 1 (nI ((N + 1) % 24))) 207 2 (nI (min (n + 1) 24)) = h2 at eC fC kC g1 g2
  have new : Rep h2 (35 + 7 * N) R := b2.cg (fun i j q1 q2 => fC i j (by omega))
  by_cases c : n = 24
  · subst c
    have e5 : ∀ i j, i ≠ 253 → ¬ (i = 246 ∧ j = 9) → kpM (up2 (shM k) 246 9 (nI 23)) 23 i j = k i j := fun i j q1 q2 => by
      unfold kpM
      rw [up2_at, if_neg q2]
      show (if _ then _ else _) = _
      rw [if_neg (by omega), up2_at, if_neg q2]
      unfold shM
      rw [if_neg (by omega)]
    refine ⟨h2, _, eC, keep7_eq a5, ⟨24, (N + 1) % 24, by omega, by omega, ?_, g2, ?_, fun j hj => ?_⟩, kC, e5⟩
    · rw [g1]; rfl
    · unfold kpM; rw [up2_at, if_pos ⟨rfl, rfl⟩]
    · by_cases e : j = 23
      · subst e
        refine ⟨R, W, ?_, fun q hq => ?_⟩
        · rw [show ((N + 1) % 24 + 24 - 24 + 23) % 24 = N by omega]; exact new
        · unfold kpM
          rw [up2_at, if_neg (by omega)]
          show (if _ then _ else _) = _
          rw [if_pos (by omega), up2_at, if_neg (by omega)]
          unfold shM
          rw [if_neg (by omega), show 50 * 23 + q - 50 * 23 = 0 + q by omega]
          exact HM q hq
      · obtain ⟨Q, w, hc, hm⟩ := a6 (j + 1) (by omega)
        refine ⟨Q, w, ?_, fun q hq => ?_⟩
        · rw [show ((N + 1) % 24 + 24 - 24 + j) % 24 = (N + 24 - 24 + (j + 1)) % 24 by omega]
          refine hc.cg (fun i y q1 q2 => ?_)
          rw [fC i y (by omega), b3 i (by omega)]
        · unfold kpM
          rw [up2_at, if_neg (by omega)]
          show (if _ then _ else _) = _
          rw [if_neg (by omega), up2_at, if_neg (by omega)]
          unfold shM
          rw [if_pos (by omega), show 50 * j + q + 50 = 50 * (j + 1) + q by omega]
          exact hm q hq
  · have e5 : ∀ i j, i ≠ 253 → ¬ (i = 246 ∧ j = 9) → kpM k n i j = k i j := fun i j q1 q2 => by
      unfold kpM
      rw [up2_at, if_neg q2]
      show (if _ then _ else _) = _
      rw [if_neg (by omega)]
    refine ⟨h2, _, eC, keep7_lt (by omega) a5, ⟨n + 1, (N + 1) % 24, by omega, by omega, ?_, g2, ?_, fun j hj => ?_⟩, kC, e5⟩
    · rw [g1, Nat.min_eq_left (by omega)]
    · unfold kpM; rw [up2_at, if_pos ⟨rfl, rfl⟩]
    · by_cases e : j = n
      · subst e
        refine ⟨R, W, ?_, fun q hq => ?_⟩
        · rw [show ((N + 1) % 24 + 24 - (j + 1) + j) % 24 = N by omega]; exact new
        · unfold kpM
          rw [up2_at, if_neg (by omega)]
          show (if _ then _ else _) = _
          rw [if_pos (by omega), show 50 * j + q - 50 * j = 0 + q by omega]
          exact HM q hq
      · obtain ⟨Q, w, hc, hm⟩ := a6 j (by omega)
        refine ⟨Q, w, ?_, fun q hq => ?_⟩
        · rw [show ((N + 1) % 24 + 24 - (n + 1) + j) % 24 = (N + 24 - n + j) % 24 by omega]
          refine hc.cg (fun i y q1 q2 => ?_)
          rw [fC i y (by omega), b3 i (by omega)]
        · unfold kpM
          rw [up2_at, if_neg (by omega)]
          show (if _ then _ else _) = _
          rw [if_neg (by omega)]
          exact hm q hq
/-- a change of the estuary that stands now, behind an act that was kept -/
theorem RR.act {h k h1 k1 h2 k2 : Hp} {R : Rw} (H : RR h k) (hk : KfC h h1) (mk : KfM k k1) (ha : actsR h1 k1) (oc : off7 h1 h2 0) (om : offA k1 k2 250) (W : WF 999 R) (HC : Rep h2 0 R) (HM : M0 k2 250 R) : RR h2 k2 := by
  have cc : ∀ i j, 7 ≤ i → ¬ (35 ≤ i ∧ i < 203) → i ≠ 207 → h2 i j = h i j := fun i j a b c => by rw [oc i (by omega)]; exact hk i j b c
  have mm : ∀ i j, i ≠ 250 → i ≠ 253 → ¬ (i = 246 ∧ j = 9) → k2 i j = k i j := fun i j a b c => by rw [om i a]; exact mk i j b c
  refine H.mk3 (fun i j q => cc i j (by omega) (by omega) (by omega)) (cc _ _ (by omega) (by omega) (by omega)) (fun j => cc _ _ (by omega) (by omega) (by omega)) (fun j => cc _ _ (by omega) (by omega) (by omega)) (fun j q => mm _ _ (by omega) (by omega) (by omega)) (fun i j q => mm _ _ (by omega) (by omega) (by omega)) (Or.inr ⟨R, W, HC, MR_0.mpr HM⟩) (ha.cg2 (fun i j a b => by rw [oc i (by omega)]) (fun j => by rw [oc 207 (by omega)]) (by rw [om 246 (by omega)]) (fun j => by rw [om 253 (by omega)])) (fun i hi => ?_)
  exact (H.2.2.2.2.2.1 i hi).cg2 hi (fun a j q1 q2 => cc a j (by omega) (by omega) (by omega)) (fun j => mm _ _ (by omega) (by omega) (by omega)) (fun j => mm _ _ (by omega) (by omega) (by omega))
/-- told or not, on both sides -/
theorem RR.told {h k : Hp} (H : RR h k) : (h 0 6 = 0 ∧ fX7_isThere (up2 k 246 0 0) = some (0, up2 k 246 0 0) ∧ noE h k) ∨ (∃ R, h 0 6 = 1 ∧ fX7_isThere (up2 k 246 0 0) = some (1, up2 k 246 0 0) ∧ WF 999 R ∧ Rep h 0 R ∧ M0 (up2 k 246 0 0) 250 R) := by
  rcases H.2.2.2.1 with q | ⟨R, W, HC, HM⟩
  · left
    refine ⟨q.1, ?_, q⟩
    have e : up2 k 246 0 0 250 (0 : Int32).toNatClampNeg = 0 := by
      rw [up2_at, if_neg (by omega)]
      exact q.2.2.2.2.2.2.2 0 (by omega)
    unfold fX7_isThere
    rw [e]
    rfl
  · right
    have HM2 : M0 (up2 k 246 0 0) 250 R := fun j hj => by
      rw [up2_at, if_neg (by omega)]
      have := HM j hj
      rwa [Nat.zero_add] at this
    refine ⟨R, HC.1, ?_, W, HC, HM2⟩
    unfold fX7_isThere
    have e := M_n W HM2
    have h6 := nS_le W
    rw [e, show inb (0 : Int32) (lenM 250) = true from lb0 (a := 250) rfl, chk_t, if_neg (by rw [t_le, nI_toInt (by omega)]; show ¬ _ ≤ (0 : Int); omega)]
