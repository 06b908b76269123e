/-! ===== share ===== -/
def pl (R : Rw) (s : Nat) : Int := R (16 + 6 * s) * thV R s
def plU (R : Rw) : Nat → Int
  | 0 => 0
  | s + 1 => plU R s + pl R s
section SHR
variable {B : Int} {R : Rw} {h k : Hp}
theorem thV_b (W : WF B R) {s : Nat} (hs : s < nS R) : 0 ≤ thV R s ∧ thV R s ≤ 9 ∧ (inB R s = true → 1 ≤ thV R s) ∧ (¬ inB R s = true → thV R s = 0) := by
  have k := (sh W hs).2.2.2.1
  unfold thV
  by_cases q : inB R s = true
  · rw [if_pos q]; exact ⟨by omega, by omega, fun _ => by omega, fun z => absurd q z⟩
  · rw [if_neg q]; exact ⟨by omega, by omega, fun z => absurd z q, fun _ => rfl⟩
theorem pl_b (W : WF B R) {s : Nat} (hs : s < nS R) : 0 ≤ pl R s ∧ pl R s ≤ 45 ∧ (inB R s = true → 1 ≤ pl R s) ∧ (¬ inB R s = true → pl R s = 0) := by
  have t := thV_b W hs
  have k := (sh W hs).2.2.1
  unfold pl
  refine ⟨Int.mul_nonneg (by omega) (by omega), ?_, fun z => ?_, fun z => by rw [t.2.2.2 z, Int.mul_zero]⟩
  · have := Int.mul_le_mul (a := R (16 + 6 * s)) (b := thV R s) (c := 5) (d := 9) (by omega) (by omega) (by omega) (by omega)
    omega
  · have := Int.mul_le_mul (a := 1) (b := 1) (c := R (16 + 6 * s)) (d := thV R s) (by omega) (t.2.2.1 z) (by omega) (by omega)
    omega
theorem plU_b (W : WF B R) : ∀ n, n ≤ nS R → 0 ≤ plU R n ∧ plU R n ≤ 45 * n
  | 0, _ => by unfold plU; omega
  | n + 1, q => by
    have i := plU_b W n (by omega)
    have j := pl_b W (show n < nS R by omega)
    unfold plU
    omega
theorem plU_ge (W : WF B R) {s : Nat} : ∀ n, s < n → n ≤ nS R → pl R s ≤ plU R n
  | 0, q, _ => absurd q (by omega)
  | n + 1, q, q2 => by
    have j := pl_b W (show n < nS R by omega)
    have b := plU_b W n (by omega)
    by_cases e : n = s
    · subst e; unfold plU; omega
    · have i := plU_ge W (s := s) n (by omega) (by omega)
      unfold plU
      omega
theorem m_pail (W : WF B R) (H : M0 k 250 R) {s : Nat} (hs : s < nS R) : fX7_pailsOf (nI s) k = some (I (pl R s), k) := by
  unfold fX7_pailsOf
  rw [m_isIn W a250 H hs, bd_e, if_b]
  unfold pl thV inB
  by_cases q : decide (R (19 + 6 * s) = 1) = true
  · rw [if_pos q, if_pos q, m_f2 W a250 H hs, bd_e, m_f3 W a250 H hs, bd_e, I_mul]
  · rw [if_neg q, if_neg q, Int.mul_zero]; rfl
theorem c_plL {v1 v2 : Int32} {K : Int32 → Hp → Option (Int32 × Hp)} (W : WF B R) (H : Rep h 0 R) : ∀ (n s : Nat), s ≤ nS R → nS R < n + s → fX2_pailsOf_L5 K n 0 v1 v2 (I (plU R s)) (nI s) h = K (I (plU R (nS R))) h := by
  intro n
  induction n with
  | zero => intro s h1 h2; omega
  | succ n ih =>
    intro s h1 h2
    have h6 := nS_le W
    rw [fX2_pailsOf_L5, R_n W H]
    by_cases e1 : s = nS R
    · subst e1; rw [if_pos (by rw [t_le]; exact Int.le_refl _)]
    · have r := (H.2.2.2.2.2.2.2.2.2.2.2 s (by omega)).2.2.1
      rw [if_neg (by rw [t_le, nI_toInt (by omega), nI_toInt (by omega)]; omega), len_E4 e0E, inb_n (by omega) (by omega), chk_t, c_thick W e0E H (by omega), bd_e, cl_n (by omega), r, I_mul, I_add, lk_e, lk_e, nI_1]
      exact ih (s + 1) (by omega) (by omega)
theorem m_plL {v1 v2 : Int32} {K : Int32 → Hp → Option (Int32 × Hp)} (W : WF B R) (H : M0 k 250 R) : ∀ (n s : Nat), s ≤ nS R → nS R < n + s → fX7_share_L43 K n v1 v2 (I (plU R s)) (nI s) k = K (I (plU R (nS R))) k := by
  intro n
  induction n with
  | zero => intro s h1 h2; omega
  | succ n ih =>
    intro s h1 h2
    have h6 := nS_le W
    rw [fX7_share_L43, lb0 a250, chk_t, M_n W H]
    by_cases e1 : s = nS R
    · subst e1; rw [if_pos (by rw [t_le]; exact Int.le_refl _)]
    · rw [if_neg (by rw [t_le, nI_toInt (by omega), nI_toInt (by omega)]; omega), m_pail W H (by omega), bd_e, I_add, lk_e, lk_e, nI_1]
      exact ih (s + 1) (by omega) (by omega)
theorem shr_L {v2 tt : Int32} {a : Nat} {KC KM : Int32 → Int32 → Hp → Option (Int32 × Hp)} (W : WF B R) (H : Rep h 0 R) (M : M0 k 250 R) (ht : nz tt = true) (ha : a < nS R) : ∀ (n s : Nat) (v4 v5 : Int32), s ≤ nS R → nS R < n + s → ∃ x y, fX2_pailsOf_L60 KC n 0 (nI a) v2 tt v4 v5 (nI s) h = KC x y h ∧ fX7_share_L78 KM n (nI a) v2 tt v4 v5 (nI s) k = KM x y k := by
  intro n
  induction n with
  | zero => intro s _ _ h1 h2; omega
  | succ n ih =>
    intro s v4 v5 h1 h2
    have h6 := nS_le W
    rw [fX2_pailsOf_L60, fX7_share_L78, lb0 a250, chk_t, R_n W H, M_n W M]
    by_cases e1 : s = nS R
    · subst e1
      rw [if_pos (by rw [t_le]; exact Int.le_refl _), if_pos (by rw [t_le]; exact Int.le_refl _)]
      exact ⟨v4, v5, rfl, rfl⟩
    · have nj : ¬ nI (nS R) ≤ nI s := by rw [t_le, nI_toInt (by omega), nI_toInt (by omega)]; omega
      have r := (H.2.2.2.2.2.2.2.2.2.2.2 s (by omega)).2.2.1
      have b := pl_b W (show s < nS R by omega)
      have e2 : (v2 * I (R (16 + 6 * s))) * I (thV R s) = v2 * I (pl R s) := by rw [Int32.mul_assoc, I_mul]; rfl
      rw [if_neg nj, if_neg nj, len_E4 e0E, inb_n (by omega) (by omega), chk_t, c_thick W e0E H (by omega), bd_e, ht, chk_t, cl_n (by omega), r, e2, m_pail W M (by omega), bd_e, chk_t, lk_e, lk_e, jp_e, jp_e, jp_e, jp_e]
      by_cases q : nI a ≤ nI s
      · rw [if_pos q, if_pos q]
        dsimp only
        rw [lk_e, lk_e, lk_e, lk_e, nI_1]
        exact ih (s + 1) _ _ (by omega) (by omega)
      · rw [if_neg q, if_neg q, c_isIn W H (by omega), bd_e, m_pail W M (by omega), bd_e, if_b]
        by_cases z : inB R s = true
        · rw [if_pos (show decide (R (19 + 6 * s) = 1) = true from z), if_neg (show ¬ I (pl R s) ≤ 0 by rw [t_le, I_toInt (by omega) (by omega)]; have := b.2.2.1 z; show ¬ _ ≤ (0 : Int); omega)]
          dsimp only
          rw [lk_e, lk_e, lk_e, lk_e, nI_1]
          exact ih (s + 1) _ _ (by omega) (by omega)
        · rw [if_neg (show ¬ decide (R (19 + 6 * s) = 1) = true from z), if_pos (show I (pl R s) ≤ 0 by rw [b.2.2.2 z]; decide)]
          dsimp only
          rw [lk_e, lk_e, lk_e, lk_e, nI_1]
          exact ih (s + 1) _ _ (by omega) (by omega)
end SHR
theorem nz_I {z : Int} (h1 : 1 ≤ z) (h2 : z ≤ 1000) : nz (I z) = true := by
  have : ¬ I z = 0 := fun q => by rw [I_0, I_eq (by omega) (by omega) (by omega) (by omega)] at q; omega
  unfold nz
  simp [this]
theorem st_share : St_share RR := by
  intro h k a1 a2 H
  have hz := H.mz
  rcases H.sheet a1 with ⟨p1, p2⟩ | ⟨R, s, hs, rfl, T, p1, p2⟩
  · exact ⟨-1000001, h, Mz k, by simp only [fX6_share, p1, bd_e, if_true], by simp only [fX7_share, lk_e, Mz_e, p2, bd_e, if_true], hz⟩
  rcases nem ((0 : Int) ≤ a2.toInt ∧ a2.toInt ≤ 999) with q | q
  · exact ⟨-1000001, h, Mz k, by simp only [fX6_share, p1, bd_e, i10, if_false, w6_f 0 999 q, if_true], by simp only [fX7_share, lk_e, Mz_e, p2, bd_e, i10, if_false, L_wf 0 999 q, if_true], hz⟩
  have h6 := T.n
  have b := pl_b T.W hs
  have tb := plU_b T.W (nS R) (Nat.le_refl _)
  have cL := fun K => c_plL (h := h) (v1 := nI s) (v2 := a2) (K := K) T.W T.C 4096 0 (by omega) (by omega)
  have eC : fX6_share (nI s) a2 h = bd (fX2_pailsOf 0 (nI s) a2 h) fun x22 hh23 => some (x22, hh23) := by
    unfold fX6_share
    rw [p1, bd_e, if_neg (by decide), w6_t 0 999 q, bd_e, if_neg (by decide)]
  have eC2 : fX2_pailsOf 0 (nI s) a2 h = _ := cL _
  have eM : fX7_share (nI s) a2 k = if I (pl R s) = 0 then some ((0 : Int32), Mz k) else fX7_share_L43 (fun x63 kk64 => fX7_share_L78 (fun x139 x140 kk141 => bd (fX7_pailsOf (nI s) kk141) fun x149 kk150 => chk (nz x63) <| if x139 ≤ x140 then some (((a2 * x149) / x63) + (0 : Int32), kk150) else some (((a2 * x149) / x63) + (1 : Int32), kk150)) 4096 (nI s) a2 x63 a2 (0 : Int32) (0 : Int32) kk64) 4096 (nI s) a2 (0 : Int32) (0 : Int32) (Mz k) := by
    unfold fX7_share
    rw [lk_e, Mz_e, p2, bd_e, if_neg (by decide), L_wd 0 999 q, bd_e, if_neg (by decide), m_pail T.W T.M hs, bd_e]
  rw [eC, eC2, eM]
  rw [c_isIn T.W T.C hs, bd_e, if_b]
  by_cases z : inB R s = true
  · have g := plU_ge T.W (s := s) (nS R) hs (Nat.le_refl _)
    have p := b.2.2.1 z
    have mL := fun K => m_plL (k := Mz k) (v1 := nI s) (v2 := a2) (K := K) T.W T.M 4096 0 (by omega) (by omega)
    have nt : nz (I (plU R (nS R))) = true := nz_I (by omega) (by omega)
    rw [if_pos (show decide (R (19 + 6 * s) = 1) = true from z), if_pos (show (0 : Int32) < I (plU R (nS R)) by rw [t_lt, I_toInt (by omega) (by omega)]; show (0 : Int) < _; omega), if_neg (show ¬ I (pl R s) = 0 from fun w => by rw [I_0, I_eq (by omega) (by omega) (by omega) (by omega)] at w; omega)]
    have mL2 : ∀ K, fX7_share_L43 K 4096 (nI s) a2 0 0 (Mz k) = K (I (plU R (nS R))) (Mz k) := mL
    rw [mL2]
    obtain ⟨x, y, e1, e2⟩ := shr_L (v2 := a2) (KC := fun x115 x116 hh117 => chk (inb (nI s) (lenC (0 + 4))) <| chk (inb (nI s) (lenC (0 + 5))) <| chk (nz (I (plU R (nS R)))) <| if x115 ≤ x116 then some ((((a2 * (hh117 (0 + 4) (nI s).toNatClampNeg)) * (hh117 (0 + 5) (nI s).toNatClampNeg)) / I (plU R (nS R))) + (0 : Int32), hh117) else some ((((a2 * (hh117 (0 + 4) (nI s).toNatClampNeg)) * (hh117 (0 + 5) (nI s).toNatClampNeg)) / I (plU R (nS R))) + (1 : Int32), hh117)) (KM := fun x139 x140 kk141 => bd (fX7_pailsOf (nI s) kk141) fun x149 kk150 => chk (nz (I (plU R (nS R)))) <| if x139 ≤ x140 then some (((a2 * x149) / I (plU R (nS R))) + (0 : Int32), kk150) else some (((a2 * x149) / I (plU R (nS R))) + (1 : Int32), kk150)) T.W T.C T.M nt hs 4096 0 a2 0 (by omega) (by omega)
    rw [nI_0] at e1 e2
    have r := T.C.2.2.2.2.2.2.2.2.2.2.2 s hs
    have tv : thV R s = R (17 + 6 * s) := by unfold thV; rw [if_pos z]
    have e3 : (a2 * I (R (16 + 6 * s))) * I (R (17 + 6 * s)) = a2 * I (pl R s) := by rw [Int32.mul_assoc, I_mul, ← tv]; rfl
    rw [e1, e2, m_pail T.W T.M hs, bd_e, len_E4 e0E, len_E5 e0E, inb_n (by omega) (by omega), chk_t, chk_t, nt, chk_t, chk_t, cl_n (by omega), r.2.2.1, r.2.2.2.1, e3]
    by_cases w : x ≤ y
    · exact ⟨_, h, Mz k, by rw [if_pos w, bd_e], by rw [if_pos w], hz⟩
    · exact ⟨_, h, Mz k, by rw [if_neg w, bd_e], by rw [if_neg w], hz⟩
  · rw [if_neg (show ¬ decide (R (19 + 6 * s) = 1) = true from z), bd_e, if_pos (show I (pl R s) = 0 by rw [b.2.2.2 z]; rfl)]
    exact ⟨0, h, Mz k, rfl, rfl, hz⟩
