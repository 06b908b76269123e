/-! ===== meant ===== -/
theorem pw6 {n : Nat} (h : n ≤ 6) : 2 ^ n ≤ 64 := Nat.pow_le_pow_right (n := 2) (by omega) h
def stU (R : Rw) (m : Nat) : Nat → Int
  | 0 => 0
  | s + 1 => stU R m s + (if m.testBit s = true then R (17 + 6 * s) else 0)
section MNT
variable {B : Int} {R : Rw} {h k : Hp} {m : Nat}
theorem c_stL (W : WF B R) (H : Rep h 0 R) (hm : m < 64) : ∀ (n s : Nat), s ≤ nS R → nS R < n + s → fX2_thicknessOfSet_L4 n 0 (nI m) (I (stU R m s)) (nI s) h = some (I (stU R m (nS R)), h) := by
  intro n
  induction n with
  | zero => intro s h1 h2; omega
  | succ n ih =>
    intro s h1 h2
    have h6 := nS_le W
    rw [fX2_thicknessOfSet_L4, R_n W H]
    by_cases e1 : s = nS R
    · subst e1; rw [if_pos (by rw [t_le]; exact Int.le_refl _)]
    · have r := (H.2.2.2.2.2.2.2.2.2.2.2 s (by omega)).2.2.2.1
      rw [if_neg (by rw [t_le, nI_toInt (by omega), nI_toInt (by omega)]; omega), jp_e, bit_n (by omega) (by omega), if_b]
      by_cases q : m.testBit s = true
      · have u : stU R m (s + 1) = stU R m s + R (17 + 6 * s) := by show _ + _ = _; rw [if_pos q]
        rw [if_pos q, len_E5 e0E, inb_n (by omega) (by omega), chk_t, cl_n (by omega), r]
        dsimp only
        rw [I_add, lk_e, lk_e, nI_1, ← u]
        exact ih (s + 1) (by omega) (by omega)
      · have u : stU R m (s + 1) = stU R m s + 0 := by show _ + _ = _; rw [if_neg q]
        rw [if_neg q]
        dsimp only
        rw [I_0, I_add, lk_e, lk_e, nI_1, ← u]
        exact ih (s + 1) (by omega) (by omega)
theorem c_st (W : WF B R) (H : Rep h 0 R) (hm : m < 64) : fX2_thicknessOfSet 0 (nI m) h = some (I (stU R m (nS R)), h) := by
  have h6 := nS_le W
  have e1 := c_stL W H hm 4096 0 (by omega) (by omega)
  rw [nI_0] at e1
  exact e1
theorem m_stL {v1 v2 v3 v4 v5 : Int32} {K : Int32 → Hp → Option (Int32 × Hp)} (W : WF B R) (H : M0 k 250 R) (hm : m < 64) : ∀ (n s : Nat), s ≤ nS R → nS R < n + s → fX7_meant_L72 K n v1 v2 v3 v4 v5 (nI m) (I (stU R m s)) (nI s) k = K (I (stU R m (nS R))) k := by
  intro n
  induction n with
  | zero => intro s h1 h2; omega
  | succ n ih =>
    intro s h1 h2
    have h6 := nS_le W
    rw [fX7_meant_L72, lb0 a250, chk_t, M_n W H]
    by_cases e1 : s = nS R
    · subst e1; rw [if_pos (by rw [t_le]; exact Int.le_refl _)]
    · rw [if_neg (by rw [t_le, nI_toInt (by omega), nI_toInt (by omega)]; omega), m_has (by omega) (by omega), bd_e, jp_e, if_b]
      by_cases q : m.testBit s = true
      · have u : stU R m (s + 1) = stU R m s + R (17 + 6 * s) := by show _ + _ = _; rw [if_pos q]
        rw [if_pos q, m_f3 W a250 H (by omega), bd_e]
        dsimp only
        rw [I_add, lk_e, lk_e, nI_1, ← u]
        exact ih (s + 1) (by omega) (by omega)
      · have u : stU R m (s + 1) = stU R m s + 0 := by show _ + _ = _; rw [if_neg q]
        rw [if_neg q]
        dsimp only
        rw [I_0, I_add, lk_e, lk_e, nI_1, ← u]
        exact ih (s + 1) (by omega) (by omega)
theorem sub_m : ∀ a, a < 64 → ∀ b, b < 64 → nI a &&& (nI b ^^^ -1) = 0 → nI b &&& nI a = nI a := by decide +kernel
def mtC (a2 : Int32) : Int32 → Int32 → Int32 → Hp → Option (Int32 × Hp) := fun x54 x55 x56 hh57 => if a2 = 0 then some (x54, hh57) else if a2 = (2 : Int32) then some (x56, hh57) else if x54 = 0 then some ((0 : Int32), hh57) else some (x55, hh57)
def mtM (a2 : Int32) : Int32 → Int32 → Int32 → Hp → Option (Int32 × Hp) := fun x157 x158 x159 kk160 => if a2 = 0 then some (x157, kk160) else if a2 = (1 : Int32) then some (x158, kk160) else some (x159, kk160)
theorem mnt_L {a1 a2 : Int32} (W : WF B R) (H : Rep h 0 R) (M : M0 k 250 R) (ha : a2 = 0 ∨ a2 = 1 ∨ a2 = 2) : ∀ (n m c : Nat) (x y v5 : Int32), m ≤ 2 ^ nS R → 2 ^ nS R < n + m → c ≤ m → ((c = 0 ∧ x = nI (msk R) ∧ y = 0) ∨ (c ≠ 0 ∧ x = y)) → ∃ r, fX2_setsAsThick_L14 (mtC a2) n 0 a1 a2 (nI c) x v5 (nI m) h = some (r, h) ∧ fX7_meant_L53 (mtM a2) n a1 a2 (nI c) y v5 (nI m) k = some (r, k) := by
  intro n
  induction n with
  | zero => intro m c x y v5 h1 h2; omega
  | succ n ih =>
    intro m c x y v5 h1 h2 hc hx
    have h6 := nS_le W
    have p6 : 2 ^ nS R ≤ 64 := pw6 (by omega)
    have mk := msk_lt R W
    rw [fX2_setsAsThick_L14, fX7_meant_L53, lb0 a250, chk_t, R_n W H, M_n W M, shl_n (by omega)]
    by_cases e1 : m = 2 ^ nS R
    · subst e1
      rw [if_pos (by rw [t_le]; exact Int.le_refl _), if_pos (by rw [t_le]; exact Int.le_refl _)]
      unfold mtC mtM
      have c0 : ∀ q : nI c = 0, c = 0 := fun q => by have := (nI_eq (b := 0) (by omega) (by omega)).mp q; omega
      rcases ha with rfl | rfl | rfl
      · exact ⟨nI c, by rw [if_pos rfl], by rw [if_pos rfl]⟩
      · refine ⟨y, ?_, by rw [if_neg (by decide), if_pos rfl]⟩
        rw [if_neg (by decide), if_neg (by decide)]
        rcases hx with ⟨rfl, q1, q2⟩ | ⟨q1, q2⟩
        · rw [if_pos (show nI 0 = (0 : Int32) from rfl), q2]
        · rw [if_neg (fun q => q1 (c0 q)), q2]
      · exact ⟨v5, by rw [if_neg (by decide), if_pos rfl], by rw [if_neg (by decide), if_neg (by decide)]⟩
    · have nm : ¬ nI (2 ^ nS R) ≤ nI m := by rw [t_le, nI_toInt (by omega), nI_toInt (by omega)]; omega
      have mL := fun K => m_stL (k := k) (m := m) (v1 := a1) (v2 := a2) (v3 := nI c) (v4 := y) (v5 := v5) (K := K) W M (by omega) 4096 0 (by omega) (by omega)
      have mL2 : ∀ K, fX7_meant_L72 K 4096 a1 a2 (nI c) y v5 (nI m) 0 0 k = K (I (stU R m (nS R))) k := mL
      rw [if_neg nm, if_neg nm, mL2, m_ins W a250 M, bd_e, jp_e, jp_e, H.2.2.2.2.2.2.2.2.1, ← I_nat]
      by_cases q : nI m &&& (nI (msk R) ^^^ -1) = 0
      · rw [if_pos q, if_pos q, c_st W H (by omega), bd_e]
        by_cases z : I (stU R m (nS R)) = a1
        · rw [if_pos z, if_pos z, lk_e, lk_e, lk_e, jp_e]
          have sb := sub_m m (by omega) (msk R) (by omega) q
          rcases hx with ⟨rfl, q1, q2⟩ | ⟨q1, q2⟩
          · rw [if_pos (show nI 0 = (0 : Int32) from rfl), q1, sb]
            dsimp only
            rw [lk_e, lk_e, lk_e, lk_e, nI_1, nI_1]
            exact ih (m + 1) (0 + 1) _ _ _ (by omega) (by omega) (by omega) (Or.inr ⟨by omega, rfl⟩)
          · rw [if_neg (show ¬ nI c = (0 : Int32) from fun q => by have := (nI_eq (b := 0) (by omega) (by omega)).mp q; omega), q2]
            dsimp only
            rw [lk_e, lk_e, lk_e, lk_e, nI_1, nI_1]
            exact ih (m + 1) (c + 1) _ _ _ (by omega) (by omega) (by omega) (Or.inr ⟨by omega, rfl⟩)
        · rw [if_neg z, if_neg z]
          dsimp only
          rw [lk_e, lk_e, nI_1]
          exact ih (m + 1) c x y v5 (by omega) (by omega) (by omega) hx
      · rw [if_neg q, if_neg q]
        dsimp only
        rw [lk_e, lk_e, nI_1]
        exact ih (m + 1) c x y v5 (by omega) (by omega) (by omega) hx
end MNT
theorem st_meant : St_meant RR := by
  intro h k a1 a2 H
  have hz := H.mz
  rcases H.tld with ⟨c, -, -, -, -, -, -, m, -⟩ | ⟨R, c, m, T⟩
  · exact ⟨-1000002, h, Mz k, by simp only [fX6_meant, c, if_true], by simp only [fX7_meant, lk_e, Mz_e, m, bd_e, i00, if_true], hz⟩
  rcases nem ((0 : Int) ≤ a1.toInt ∧ a1.toInt ≤ 54) with q | q
  · exact ⟨-1000001, h, Mz k, by simp only [fX6_meant, c, i10, if_false, w6_f 0 54 q, bd_e, if_true], by simp only [fX7_meant, lk_e, Mz_e, m, bd_e, i10, if_false, L_wf 0 54 q, if_true], hz⟩
  rcases nem ((0 : Int) ≤ a2.toInt ∧ a2.toInt ≤ 2) with u | u
  · exact ⟨-1000001, h, Mz k, by simp only [fX6_meant, c, i10, if_false, w6_t 0 54 q, w6_f 0 2 u, bd_e, if_true], by simp only [fX7_meant, lk_e, Mz_e, m, bd_e, i10, if_false, L_wd 0 54 q, L_wf 0 2 u, if_true], hz⟩
  have h6 := T.n
  have p6 : 2 ^ nS R ≤ 64 := pw6 (by omega)
  have ha : a2 = 0 ∨ a2 = 1 ∨ a2 = 2 := by
    obtain ⟨v, hv, rfl⟩ := rg (a := a2) (n := 2) (by omega) ⟨by omega, u.2⟩
    rcases (show v = 0 ∨ v = 1 ∨ v = 2 by omega) with rfl | rfl | rfl
    · exact Or.inl rfl
    · exact Or.inr (Or.inl rfl)
    · exact Or.inr (Or.inr rfl)
  obtain ⟨r, e1, e2⟩ := mnt_L (a1 := a1) T.W T.C T.M ha 4096 0 0 (nI (msk R)) 0 0 (Nat.zero_le _) (by omega) (by omega) (Or.inl ⟨rfl, rfl, rfl⟩)
  rw [nI_0] at e1 e2
  refine ⟨r, h, Mz k, ?_, ?_, hz⟩
  · unfold fX6_meant fX2_setsAsThick
    rw [c, if_neg (by decide), w6_t 0 54 q, bd_e, if_neg (by decide), w6_t 0 2 u, bd_e, if_neg (by decide), lk_e, T.C.2.2.2.2.2.2.2.2.1, ← I_nat]
    have e1' := e1
    unfold mtC at e1'
    rw [e1', bd_e]
  · unfold fX7_meant
    rw [lk_e, Mz_e, m, bd_e, if_neg (by decide), L_wd 0 54 q, bd_e, if_neg (by decide), L_wd 0 2 u, bd_e, if_neg (by decide)]
    exact e2
