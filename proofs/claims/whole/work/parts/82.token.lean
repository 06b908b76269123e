/-! ===== tokens ===== -/
theorem up_s {h : Hp} {i j : Nat} {v : Int32} : up2 h i j v i j = v := by rw [up2_at, if_pos ⟨rfl, rfl⟩]
theorem g_o {h : Hp} {i j b : Nat} {v : Int32} (q : b ≠ j) : up2 h i j v i b = h i b := by rw [up2_at, if_neg (fun z => q z.2)]
theorem g_x {h : Hp} {i j a b : Nat} {v : Int32} (q : a ≠ i) : up2 h i j v a b = h a b := by rw [up2_at, if_neg (fun z => q z.1)]
def gF (T : Nat → Nat) (n i : Nat) : Prop := i < n ∧ 48 ≤ T i ∧ T i ≤ 57
/-- what both have of the tape -/
def TpC (h : Hp) (n : Nat) (T : Nat → Nat) : Prop := n ≤ 120 ∧ h 205 1 = nI n ∧ ∀ i, i < n → T i < 256 ∧ h 206 i = nI (T i)
def TpM (k : Hp) (n : Nat) (T : Nat → Nat) : Prop := n ≤ 120 ∧ k 246 11 = nI n ∧ ∀ i, i < n → T i < 256 ∧ k 254 i = nI (T i)
def tkC (h h1 : Hp) : Prop := ∀ i j, ¬ (i = 205 ∧ (j = 3 ∨ 5 ≤ j)) → h1 i j = h i j
def tkM (k k1 : Hp) : Prop := ∀ i j, ¬ (i = 246 ∧ 12 ≤ j ∧ j ≤ 15) → k1 i j = k i j
theorem tkC.rf {h : Hp} : tkC h h := fun _ _ _ => rfl
theorem tkM.rf {h : Hp} : tkM h h := fun _ _ _ => rfl
theorem tkC.tr {h h1 h2 : Hp} (a : tkC h h1) (b : tkC h1 h2) : tkC h h2 := fun i j q => (b i j q).trans (a i j q)
theorem tkM.tr {h h1 h2 : Hp} (a : tkM h h1) (b : tkM h1 h2) : tkM h h2 := fun i j q => (b i j q).trans (a i j q)
theorem tkC.up {h h1 : Hp} {j : Nat} {v : Int32} (a : tkC h h1) (q : j = 3 ∨ 5 ≤ j) : tkC h (up2 h1 205 j v) := fun i b z => by
  rw [up2_at, if_neg (by omega)]; exact a i b z
theorem tkM.up {h h1 : Hp} {j : Nat} {v : Int32} (a : tkM h h1) (q : 12 ≤ j ∧ j ≤ 15) : tkM h (up2 h1 246 j v) := fun i b z => by
  rw [up2_at, if_neg (by omega)]; exact a i b z
theorem TpC.tk {h h1 : Hp} {n : Nat} {T : Nat → Nat} (H : TpC h n T) (o : tkC h h1) : TpC h1 n T := ⟨H.1, by rw [o 205 1 (by omega)]; exact H.2.1, fun i hi => by rw [o 206 i (by omega)]; exact H.2.2 i hi⟩
theorem TpM.tk {h h1 : Hp} {n : Nat} {T : Nat → Nat} (H : TpM h n T) (o : tkM h h1) : TpM h1 n T := ⟨H.1, by rw [o 246 11 (by omega)]; exact H.2.1, fun i hi => by rw [o 254 i (by omega)]; exact H.2.2 i hi⟩
theorem fig_e {c : Nat} {h : Hp} (hc : c < 256) : fX4_isFigure (nI c) h = some (b32 (decide (48 ≤ c ∧ c ≤ 57)), h) := by
  unfold fX4_isFigure
  rw [w6, bd_e, isB_b, chk_t]
  unfold wi
  rw [nI_toInt (by omega), show (48 : Int32).toInt = 48 from rfl, show (57 : Int32).toInt = 57 from rfl, decide_eq_decide.mpr (show ((48 : Int) ≤ (c : Int) ∧ (c : Int) ≤ 57) ↔ (48 ≤ c ∧ c ≤ 57) by omega)]
theorem in_c {c lo hi : Nat} {l h : Int64} {k : Hp} (hc : c < 256) (e1 : l.toInt = (lo : Int)) (e2 : h.toInt = (hi : Int)) : fX7_in (nI c).toInt64 l h k = some (b32 (decide (lo ≤ c ∧ c ≤ hi)), k) := by
  rw [L_w2]
  unfold wi
  rw [nI_toInt (by omega), e1, e2, decide_eq_decide.mpr (show ((lo : Int) ≤ (c : Int) ∧ (c : Int) ≤ hi) ↔ (lo ≤ c ∧ c ≤ hi) by omega)]
theorem ten {v c : Nat} (h : 48 ≤ c) : (10 : Int32) * nI v + nI c - 48 = nI (10 * v + (c - 48)) := by
  rw [I_nat, I_nat, I_nat, show (10 : Int32) = I 10 from rfl, show (48 : Int32) = I 48 from rfl, I_mul, I_add, I_sub]
  congr 1
  omega
section FG
variable {n p : Nat} {T : Nat → Nat}
theorem cf_s {f i : Nat} {h : Hp} {K : Hp → Option (Unit × Hp)} (H : TpC h n T) (h3 : h 205 3 = nI p) (hp : p < n) (hi : i ≤ p + 3) (q : ¬ gF T n i ∨ i = p + 3) : fX4_readFigures_L10 K (f + 1) (nI i) h = K h := by
  have n1 := H.1
  rw [fX4_readFigures_L10, H.2.1, h3]
  by_cases a : n ≤ i
  · rw [if_pos (by rw [t_le, nI_toInt (by omega), nI_toInt (by omega)]; omega)]
  · rw [if_neg (by rw [t_le, nI_toInt (by omega), nI_toInt (by omega)]; omega), show (3 : Int32) = nI 3 from rfl, nI_add]
    by_cases b : i = p + 3
    · rw [if_pos (by rw [t_le, nI_toInt (by omega), nI_toInt (by omega)]; omega)]
    · obtain ⟨t1, t2⟩ := H.2.2 i (by omega)
      rw [if_neg (by rw [t_le, nI_toInt (by omega), nI_toInt (by omega)]; omega), show lenC 206 = 120 from rfl, inb_n (by omega) (by omega), chk_t, cl_n (by omega), t2, fig_e t1, bd_e, if_b, if_neg]
      intro z
      rw [decide_eq_true_eq] at z
      rcases q with q | q
      · exact q ⟨by omega, z⟩
      · exact b q
theorem cf_t {f i v : Nat} {h : Hp} {K : Hp → Option (Unit × Hp)} (H : TpC h n T) (h3 : h 205 3 = nI p) (h6 : h 205 6 = nI v) (hp : p < n) (hi : i < p + 3) (q : gF T n i) : fX4_readFigures_L10 K (f + 1) (nI i) h = fX4_readFigures_L10 K f (nI (i + 1)) (up2 (up2 h 205 6 (nI (10 * v + (T i - 48)))) 205 7 (nI (i + 1))) := by
  have n1 := H.1
  obtain ⟨q1, q2, q3⟩ := q
  obtain ⟨t1, t2⟩ := H.2.2 i q1
  rw [fX4_readFigures_L10, H.2.1, h3, if_neg (by rw [t_le, nI_toInt (by omega), nI_toInt (by omega)]; omega), show (3 : Int32) = nI 3 from rfl, nI_add, if_neg (by rw [t_le, nI_toInt (by omega), nI_toInt (by omega)]; omega), show lenC 206 = 120 from rfl, inb_n (by omega) (by omega), chk_t, cl_n (by omega), t2, fig_e t1, bd_e, if_b, if_pos (decide_eq_true ⟨q2, q3⟩), chk_t, t2, h6, ten q2, lk_e, lk_e, lk_e, nI_1]
theorem c_fig {h : Hp} (H : TpC h n T) (h3 : h 205 3 = nI p) (g : gF T n p) : ∃ h1, fX4_readFigures h = some ((), h1) ∧ tkC h h1 ∧ h1 205 3 = nI p ∧ ((gF T n (p + 1) ∧ gF T n (p + 2) ∧ h1 205 5 = nI 257) ∨ (gF T n (p + 1) ∧ ¬ gF T n (p + 2) ∧ h1 205 5 = nI 256 ∧ h1 205 6 = nI (10 * (T p - 48) + (T (p + 1) - 48)) ∧ h1 205 7 = nI (p + 2)) ∨ (¬ gF T n (p + 1) ∧ h1 205 5 = nI 256 ∧ h1 205 6 = nI (T p - 48) ∧ h1 205 7 = nI (p + 1))) := by
  have n1 := H.1
  have p1 := g.1
  have o0 : tkC h (up2 h 205 6 0) := tkC.rf.up (by omega)
  have e0 : (up2 h 205 6 0) 205 3 = nI p := by rw [g_o (by omega)]; exact h3
  have s1 := cf_t (f := 4095) (v := 0) (K := fun hh48 => if (2 : Int32) < ((hh48 205 7) - (hh48 205 3)) then lk (up2 hh48 205 5 (257 : Int32)) fun hh60 => some ((), hh60) else lk (up2 hh48 205 5 (256 : Int32)) fun hh67 => some ((), hh67)) (H.tk o0) e0 up_s p1 (by omega) g
  have o1 : tkC h (up2 (up2 (up2 h 205 6 0) 205 6 (nI (10 * 0 + (T p - 48)))) 205 7 (nI (p + 1))) := (o0.up (by omega)).up (by omega)
  have e1 : (up2 (up2 (up2 h 205 6 0) 205 6 (nI (10 * 0 + (T p - 48)))) 205 7 (nI (p + 1))) 205 3 = nI p := by rw [g_o (by omega), g_o (by omega)]; exact e0
  have w1 : (up2 (up2 (up2 h 205 6 0) 205 6 (nI (10 * 0 + (T p - 48)))) 205 7 (nI (p + 1))) 205 6 = nI (T p - 48) := by rw [g_o (by omega), up_s]; congr 1; omega
  have w7 : (up2 (up2 (up2 h 205 6 0) 205 6 (nI (10 * 0 + (T p - 48)))) 205 7 (nI (p + 1))) 205 7 = nI (p + 1) := up_s
  revert s1 o1 e1 w1 w7
  generalize (up2 (up2 (up2 h 205 6 0) 205 6 (nI (10 * 0 + (T p - 48)))) 205 7 (nI (p + 1))) = hA
  intro s1 o1 e1 w1 w7
  have uf : fX4_readFigures h = fX4_readFigures_L10 (fun hh48 => if (2 : Int32) < ((hh48 205 7) - (hh48 205 3)) then lk (up2 hh48 205 5 (257 : Int32)) fun hh60 => some ((), hh60) else lk (up2 hh48 205 5 (256 : Int32)) fun hh67 => some ((), hh67)) 4095 (nI (p + 1)) hA := by
    unfold fX4_readFigures
    rw [lk_e, e0, lk_e]
    exact s1
  have sub : ∀ a b : Nat, b ≤ a → nI a - nI b = nI (a - b) := fun a b q => by
    rw [I_nat, I_nat, I_nat, I_sub]; congr 1; omega
  by_cases g1 : gF T n (p + 1)
  · have s2 := cf_t (f := 4094) (K := fun hh48 => if (2 : Int32) < ((hh48 205 7) - (hh48 205 3)) then lk (up2 hh48 205 5 (257 : Int32)) fun hh60 => some ((), hh60) else lk (up2 hh48 205 5 (256 : Int32)) fun hh67 => some ((), hh67)) (H.tk o1) e1 w1 p1 (by omega) g1
    have o2 := (o1.up (j := 6) (v := nI (10 * (T p - 48) + (T (p + 1) - 48))) (by omega)).up (j := 7) (v := nI (p + 1 + 1)) (by omega)
    have e2 : (up2 (up2 hA 205 6 (nI (10 * (T p - 48) + (T (p + 1) - 48)))) 205 7 (nI (p + 1 + 1))) 205 3 = nI p := by rw [g_o (by omega), g_o (by omega)]; exact e1
    have w2 : (up2 (up2 hA 205 6 (nI (10 * (T p - 48) + (T (p + 1) - 48)))) 205 7 (nI (p + 1 + 1))) 205 6 = nI (10 * (T p - 48) + (T (p + 1) - 48)) := by rw [g_o (by omega), up_s]
    have w8 : (up2 (up2 hA 205 6 (nI (10 * (T p - 48) + (T (p + 1) - 48)))) 205 7 (nI (p + 1 + 1))) 205 7 = nI (p + 2) := up_s
    revert s2 o2 e2 w2 w8
    generalize (up2 (up2 hA 205 6 (nI (10 * (T p - 48) + (T (p + 1) - 48)))) 205 7 (nI (p + 1 + 1))) = hB
    intro s2 o2 e2 w2 w8
    by_cases g2 : gF T n (p + 2)
    · have s3 := cf_t (f := 4093) (i := p + 2) (K := fun hh48 => if (2 : Int32) < ((hh48 205 7) - (hh48 205 3)) then lk (up2 hh48 205 5 (257 : Int32)) fun hh60 => some ((), hh60) else lk (up2 hh48 205 5 (256 : Int32)) fun hh67 => some ((), hh67)) (H.tk o2) e2 w2 p1 (by omega) g2
      have o3 := (o2.up (j := 6) (v := nI (10 * (10 * (T p - 48) + (T (p + 1) - 48)) + (T (p + 2) - 48))) (by omega)).up (j := 7) (v := nI (p + 2 + 1)) (by omega)
      have e3 : (up2 (up2 hB 205 6 (nI (10 * (10 * (T p - 48) + (T (p + 1) - 48)) + (T (p + 2) - 48)))) 205 7 (nI (p + 2 + 1))) 205 3 = nI p := by rw [g_o (by omega), g_o (by omega)]; exact e2
      have w9 : (up2 (up2 hB 205 6 (nI (10 * (10 * (T p - 48) + (T (p + 1) - 48)) + (T (p + 2) - 48)))) 205 7 (nI (p + 2 + 1))) 205 7 = nI (p + 3) := up_s
      revert s3 o3 e3 w9
      generalize (up2 (up2 hB 205 6 (nI (10 * (10 * (T p - 48) + (T (p + 1) - 48)) + (T (p + 2) - 48)))) 205 7 (nI (p + 2 + 1))) = hC
      intro s3 o3 e3 w9
      have s4 := cf_s (f := 4092) (i := p + 3) (K := fun hh48 => if (2 : Int32) < ((hh48 205 7) - (hh48 205 3)) then lk (up2 hh48 205 5 (257 : Int32)) fun hh60 => some ((), hh60) else lk (up2 hh48 205 5 (256 : Int32)) fun hh67 => some ((), hh67)) (H.tk o3) e3 p1 (by omega) (Or.inr rfl)
      refine ⟨up2 hC 205 5 257, ?_, o3.up (by omega), by rw [g_o (by omega)]; exact e3, Or.inl ⟨g1, g2, up_s⟩⟩
      refine uf.trans (s2.trans (s3.trans (s4.trans ?_)))
      rw [w9, e3, sub _ _ (by omega), if_pos (by rw [t_lt, nI_toInt (by omega)]; show (2 : Int) < _; omega), lk_e]
    · have s3 := cf_s (f := 4093) (i := p + 2) (K := fun hh48 => if (2 : Int32) < ((hh48 205 7) - (hh48 205 3)) then lk (up2 hh48 205 5 (257 : Int32)) fun hh60 => some ((), hh60) else lk (up2 hh48 205 5 (256 : Int32)) fun hh67 => some ((), hh67)) (H.tk o2) e2 p1 (by omega) (Or.inl g2)
      refine ⟨up2 hB 205 5 256, ?_, o2.up (by omega), by rw [g_o (by omega)]; exact e2, Or.inr (Or.inl ⟨g1, g2, up_s, by rw [g_o (by omega)]; exact w2, by rw [g_o (by omega)]; exact w8⟩)⟩
      refine uf.trans (s2.trans (s3.trans ?_))
      rw [w8, e2, sub _ _ (by omega), if_neg (by rw [t_lt, nI_toInt (by omega)]; show ¬ (2 : Int) < _; omega), lk_e]
  · have s2 := cf_s (f := 4094) (i := p + 1) (K := fun hh48 => if (2 : Int32) < ((hh48 205 7) - (hh48 205 3)) then lk (up2 hh48 205 5 (257 : Int32)) fun hh60 => some ((), hh60) else lk (up2 hh48 205 5 (256 : Int32)) fun hh67 => some ((), hh67)) (H.tk o1) e1 p1 (by omega) (Or.inl g1)
    refine ⟨up2 hA 205 5 256, ?_, o1.up (by omega), by rw [g_o (by omega)]; exact e1, Or.inr (Or.inr ⟨g1, up_s, by rw [g_o (by omega)]; exact w1, by rw [g_o (by omega)]; exact w7⟩)⟩
    refine uf.trans (s2.trans ?_)
    rw [w7, e1, sub _ _ (by omega), if_neg (by rw [t_lt, nI_toInt (by omega)]; show ¬ (2 : Int) < _; omega), lk_e]
end FG
