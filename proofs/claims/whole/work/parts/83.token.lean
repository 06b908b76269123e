section FM
variable {n p : Nat} {T : Nat → Nat}
theorem nI_sub {a b : Nat} (q : b ≤ a) : nI a - nI b = nI (a - b) := by
  rw [I_nat, I_nat, I_nat, I_sub]; congr 1; omega
theorem rl_s {f c : Nat} {k : Hp} {K : Hp → Option (Unit × Hp)} (H : TpM k n T) (h12 : k 246 12 = nI c) (hc : c ≤ n) (q : ¬ gF T n c) : fX7_nextToken_L165 K (f + 1) k = K k := by
  have n1 := H.1
  rw [fX7_nextToken_L165, H.2.1, h12]
  by_cases a : n ≤ c
  · rw [if_pos (by rw [t_le, nI_toInt (by omega), nI_toInt (by omega)]; omega)]
  · obtain ⟨t1, t2⟩ := H.2.2 c (by omega)
    rw [if_neg (by rw [t_le, nI_toInt (by omega), nI_toInt (by omega)]; omega), show lenM 254 = 120 from rfl, inb_n (by omega) (by omega), chk_t, cl_n (by omega), t2, in_c (lo := 48) (hi := 57) t1 rfl rfl, bd_e, if_b, if_neg]
    intro z
    rw [decide_eq_true_eq] at z
    exact q ⟨by omega, z⟩
theorem rl_t {f c v : Nat} {k : Hp} {K : Hp → Option (Unit × Hp)} (H : TpM k n T) (h12 : k 246 12 = nI c) (h13 : k 246 13 = nI p) (h15 : k 246 15 = nI v) (hp : p ≤ c) (q : gF T n c) : fX7_nextToken_L165 K (f + 1) k = fX7_nextToken_L165 K f (up2 (up2 k 246 15 (nI (if 2 ≤ c - p then v else 10 * v + (T c - 48)))) 246 12 (nI (c + 1))) := by
  have n1 := H.1
  obtain ⟨q1, q2, q3⟩ := q
  obtain ⟨t1, t2⟩ := H.2.2 c q1
  rw [fX7_nextToken_L165, H.2.1, h12, if_neg (by rw [t_le, nI_toInt (by omega), nI_toInt (by omega)]; omega), show lenM 254 = 120 from rfl, inb_n (by omega) (by omega), chk_t, cl_n (by omega), t2, in_c (lo := 48) (hi := 57) t1 rfl rfl, bd_e, if_b, if_pos (decide_eq_true ⟨q2, q3⟩)]
  dsimp only [jp_e]
  rw [h12, h13, nI_sub hp, h15]
  by_cases z : 2 ≤ c - p
  · rw [if_pos (by rw [t_le, nI_toInt (by omega)]; show (2 : Int) ≤ _; omega), if_pos z, lk_e, lk_e, g_o (by omega), h12, nI_1]
  · rw [if_neg (by rw [t_le, nI_toInt (by omega)]; show ¬ (2 : Int) ≤ _; omega), if_neg z, inb_n (by omega) (by omega), chk_t, cl_n (by omega), t2, ten q2, lk_e, lk_e, g_o (by omega), h12, nI_1]
theorem rl_r {K : Hp → Option (Unit × Hp)} : ∀ (f c v : Nat) (k : Hp), TpM k n T → k 246 12 = nI c → k 246 13 = nI p → k 246 15 = nI v → p + 2 ≤ c → c ≤ n → n < f + c → ∃ k1 c', fX7_nextToken_L165 K f k = K k1 ∧ c ≤ c' ∧ c' ≤ n ∧ k1 246 12 = nI c' ∧ k1 246 13 = nI p ∧ tkM k k1 := by
  intro f
  induction f with
  | zero => intro c v k H a1 a2 a3 a4 a5 a6; omega
  | succ f ih =>
    intro c v k H a1 a2 a3 a4 a5 a6
    by_cases g : gF T n c
    · have g1 := g.1
      rw [rl_t H a1 a2 a3 (by omega) g]
      obtain ⟨k1, c', b1, b2, b3, b4, b5, b6⟩ := ih (c + 1) _ (up2 (up2 k 246 15 (nI (if 2 ≤ c - p then v else 10 * v + (T c - 48)))) 246 12 (nI (c + 1))) (H.tk ((tkM.rf.up (by omega)).up (by omega))) up_s (by rw [g_o (by omega), g_o (by omega)]; exact a2) (by rw [g_o (by omega), up_s]) (by omega) (by omega) (by omega)
      exact ⟨k1, c', b1, by omega, b3, b4, b5, ((tkM.rf.up (by omega)).up (by omega)).tr b6⟩
    · exact ⟨k, c, rl_s H a1 a5 g, by omega, a5, a1, a2, tkM.rf⟩
theorem m_fig {k : Hp} (H : TpM k n T) (h12 : k 246 12 = nI (p + 1)) (h13 : k 246 13 = nI p) (h15 : k 246 15 = nI (T p - 48)) (g : gF T n p) : ∃ k1, fX7_nextToken_L165 (fun kk104 => if ((kk104 246 12) - (kk104 246 13)) ≤ (2 : Int32) then lk (up2 kk104 246 14 (3 : Int32)) fun kk116 => some ((), kk116) else lk (up2 kk104 246 14 (0 : Int32)) fun kk123 => some ((), kk123)) 4096 k = some ((), k1) ∧ tkM k k1 ∧ k1 246 13 = nI p ∧ ((gF T n (p + 1) ∧ gF T n (p + 2) ∧ k1 246 14 = nI 0) ∨ (gF T n (p + 1) ∧ ¬ gF T n (p + 2) ∧ k1 246 14 = nI 3 ∧ k1 246 15 = nI (10 * (T p - 48) + (T (p + 1) - 48)) ∧ k1 246 12 = nI (p + 2)) ∨ (¬ gF T n (p + 1) ∧ k1 246 14 = nI 3 ∧ k1 246 15 = nI (T p - 48) ∧ k1 246 12 = nI (p + 1))) := by
  have n1 := H.1
  have p1 := g.1
  by_cases g1 : gF T n (p + 1)
  · have g11 := g1.1
    have s1 := rl_t (f := 4095) (K := fun kk104 => if ((kk104 246 12) - (kk104 246 13)) ≤ (2 : Int32) then lk (up2 kk104 246 14 (3 : Int32)) fun kk116 => some ((), kk116) else lk (up2 kk104 246 14 (0 : Int32)) fun kk123 => some ((), kk123)) H h12 h13 h15 (by omega) g1
    rw [if_neg (show ¬ 2 ≤ p + 1 - p by omega)] at s1
    have o1 : tkM k (up2 (up2 k 246 15 (nI (10 * (T p - 48) + (T (p + 1) - 48)))) 246 12 (nI (p + 1 + 1))) := (tkM.rf.up (by omega)).up (by omega)
    have e12 : (up2 (up2 k 246 15 (nI (10 * (T p - 48) + (T (p + 1) - 48)))) 246 12 (nI (p + 1 + 1))) 246 12 = nI (p + 2) := up_s
    have e13 : (up2 (up2 k 246 15 (nI (10 * (T p - 48) + (T (p + 1) - 48)))) 246 12 (nI (p + 1 + 1))) 246 13 = nI p := by rw [g_o (by omega), g_o (by omega)]; exact h13
    have e15 : (up2 (up2 k 246 15 (nI (10 * (T p - 48) + (T (p + 1) - 48)))) 246 12 (nI (p + 1 + 1))) 246 15 = nI (10 * (T p - 48) + (T (p + 1) - 48)) := by rw [g_o (by omega), up_s]
    revert s1 o1 e12 e13 e15
    generalize (up2 (up2 k 246 15 (nI (10 * (T p - 48) + (T (p + 1) - 48)))) 246 12 (nI (p + 1 + 1))) = kA
    intro s1 o1 e12 e13 e15
    by_cases g2 : gF T n (p + 2)
    · have g21 := g2.1
      have s2 := rl_t (f := 4094) (K := fun kk104 => if ((kk104 246 12) - (kk104 246 13)) ≤ (2 : Int32) then lk (up2 kk104 246 14 (3 : Int32)) fun kk116 => some ((), kk116) else lk (up2 kk104 246 14 (0 : Int32)) fun kk123 => some ((), kk123)) (H.tk o1) e12 e13 e15 (by omega) g2
      obtain ⟨k2, c', b1, b2, b3, b4, b5, b6⟩ := rl_r (p := p) (K := fun kk104 => if ((kk104 246 12) - (kk104 246 13)) ≤ (2 : Int32) then lk (up2 kk104 246 14 (3 : Int32)) fun kk116 => some ((), kk116) else lk (up2 kk104 246 14 (0 : Int32)) fun kk123 => some ((), kk123)) 4094 (p + 2 + 1) _ (up2 (up2 kA 246 15 (nI (if 2 ≤ p + 2 - p then (10 * (T p - 48) + (T (p + 1) - 48)) else 10 * (10 * (T p - 48) + (T (p + 1) - 48)) + (T (p + 2) - 48)))) 246 12 (nI (p + 2 + 1))) ((H.tk o1).tk ((tkM.rf.up (by omega)).up (by omega))) up_s (by rw [g_o (by omega), g_o (by omega)]; exact e13) (by rw [g_o (by omega), up_s]) (by omega) (by omega) (by omega)
      refine ⟨up2 k2 246 14 0, ?_, ((o1.tr ((tkM.rf.up (by omega)).up (by omega))).tr b6).up (by omega), by rw [g_o (by omega)]; exact b5, Or.inl ⟨g1, g2, up_s⟩⟩
      refine s1.trans (s2.trans (b1.trans ?_))
      rw [b4, b5, nI_sub (by omega), if_neg (by rw [t_le, nI_toInt (by omega)]; show ¬ _ ≤ (2 : Int); omega), lk_e]
    · have s2 := rl_s (f := 4094) (K := fun kk104 => if ((kk104 246 12) - (kk104 246 13)) ≤ (2 : Int32) then lk (up2 kk104 246 14 (3 : Int32)) fun kk116 => some ((), kk116) else lk (up2 kk104 246 14 (0 : Int32)) fun kk123 => some ((), kk123)) (H.tk o1) e12 (by omega) g2
      refine ⟨up2 kA 246 14 3, ?_, o1.up (by omega), by rw [g_o (by omega)]; exact e13, Or.inr (Or.inl ⟨g1, g2, up_s, by rw [g_o (by omega)]; exact e15, by rw [g_o (by omega)]; exact e12⟩)⟩
      refine s1.trans (s2.trans ?_)
      rw [e12, e13, nI_sub (by omega), if_pos (by rw [t_le, nI_toInt (by omega)]; show _ ≤ (2 : Int); omega), lk_e]
  · have s1 := rl_s (f := 4095) (K := fun kk104 => if ((kk104 246 12) - (kk104 246 13)) ≤ (2 : Int32) then lk (up2 kk104 246 14 (3 : Int32)) fun kk116 => some ((), kk116) else lk (up2 kk104 246 14 (0 : Int32)) fun kk123 => some ((), kk123)) H h12 (by omega) g1
    refine ⟨up2 k 246 14 3, ?_, tkM.rf.up (by omega), by rw [g_o (by omega)]; exact h13, Or.inr (Or.inr ⟨g1, up_s, by rw [g_o (by omega)]; exact h15, by rw [g_o (by omega)]; exact h12⟩)⟩
    refine s1.trans ?_
    rw [h12, h13, nI_sub (by omega), if_pos (by rw [t_le, nI_toInt (by omega)]; show _ ≤ (2 : Int); omega), lk_e]
end FM
section NT
variable {n q : Nat} {T : Nat → Nat}
def isLt (c : Nat) : Prop := 97 ≤ c ∧ c ≤ 122
def isSg (c : Nat) : Prop := c = 44 ∨ c = 59
def isFg (c : Nat) : Prop := 48 ≤ c ∧ c ≤ 57
theorem c_nt {h : Hp} (H : TpC h n T) (h2 : h 205 2 = 0) (h7 : h 205 7 = nI q) (hq : q ≤ n) : ∃ h1, fX4_nextToken h = some ((), h1) ∧ tkC h h1 ∧ h1 205 3 = nI q ∧ ((q = n ∧ h1 205 5 = nI 258 ∧ h1 205 7 = nI q) ∨ (q < n ∧ isLt (T q) ∧ h1 205 5 = nI (T q) ∧ h1 205 7 = nI (q + 1)) ∨ (q < n ∧ isSg (T q) ∧ h1 205 5 = nI (T q) ∧ h1 205 7 = nI (q + 1)) ∨ (q < n ∧ ¬ isLt (T q) ∧ ¬ isSg (T q) ∧ ¬ isFg (T q) ∧ h1 205 5 = nI 257) ∨ (gF T n q ∧ ((gF T n (q + 1) ∧ gF T n (q + 2) ∧ h1 205 5 = nI 257) ∨ (gF T n (q + 1) ∧ ¬ gF T n (q + 2) ∧ h1 205 5 = nI 256 ∧ h1 205 6 = nI (10 * (T q - 48) + (T (q + 1) - 48)) ∧ h1 205 7 = nI (q + 2)) ∨ (¬ gF T n (q + 1) ∧ h1 205 5 = nI 256 ∧ h1 205 6 = nI (T q - 48) ∧ h1 205 7 = nI (q + 1))))) := by
  have n1 := H.1
  have o0 : tkC h (up2 h 205 3 (nI q)) := tkC.rf.up (by omega)
  have H0 := H.tk o0
  have e3 : (up2 h 205 3 (nI q)) 205 3 = nI q := up_s
  have e7 : (up2 h 205 3 (nI q)) 205 7 = nI q := by rw [g_o (by omega)]; exact h7
  unfold fX4_nextToken
  rw [if_pos h2, h7, lk_e]
  revert o0 H0 e3 e7
  generalize (up2 h 205 3 (nI q)) = hA
  intro o0 H0 e3 e7
  rw [e3, H0.2.1]
  by_cases z : q = n
  · rw [if_neg (by rw [t_lt, nI_toInt (by omega), nI_toInt (by omega)]; omega), lk_e]
    exact ⟨_, rfl, o0.up (by omega), by rw [g_o (by omega)]; exact e3, Or.inl ⟨z, up_s, by rw [g_o (by omega)]; exact e7⟩⟩
  · obtain ⟨t1, t2⟩ := H0.2.2 q (by omega)
    rw [if_pos (by rw [t_lt, nI_toInt (by omega), nI_toInt (by omega)]; omega), show lenC 206 = 120 from rfl, inb_n (by omega) (by omega), chk_t, cl_n (by omega), t2, lk_e, fig_e t1, bd_e, if_b]
    by_cases fgq : 48 ≤ T q ∧ T q ≤ 57
    · obtain ⟨h1, a1, a2, a3, a4⟩ := c_fig H0 e3 ⟨by omega, fgq⟩
      rw [if_pos (decide_eq_true fgq), a1, bd_e]
      exact ⟨h1, rfl, o0.tr a2, a3, Or.inr (Or.inr (Or.inr (Or.inr ⟨⟨by omega, fgq⟩, a4⟩)))⟩
    · rw [if_neg (by simpa using fgq), e3, nI_1, lk_e, w6, bd_e, if_b]
      have o1 : tkC h (up2 hA 205 7 (nI (q + 1))) := o0.up (by omega)
      have e31 : (up2 hA 205 7 (nI (q + 1))) 205 3 = nI q := by rw [g_o (by omega)]; exact e3
      have e71 : (up2 hA 205 7 (nI (q + 1))) 205 7 = nI (q + 1) := up_s
      revert o1 e31 e71
      generalize (up2 hA 205 7 (nI (q + 1))) = hB
      intro o1 e31 e71
      have wl : wi (nI (T q)) (97 : Int32).toInt (122 : Int32).toInt = true ↔ isLt (T q) := by
        unfold wi isLt
        rw [nI_toInt (by omega), show (97 : Int32).toInt = 97 from rfl, show (122 : Int32).toInt = 122 from rfl, decide_eq_true_eq]
        omega
      by_cases l : isLt (T q)
      · rw [if_pos (wl.mpr l), lk_e]
        exact ⟨_, rfl, o1.up (by omega), by rw [g_o (by omega)]; exact e31, Or.inr (Or.inl ⟨by omega, l, up_s, by rw [g_o (by omega)]; exact e71⟩)⟩
      · rw [if_neg (fun y => l (wl.mp y))]
        by_cases s1 : T q = 44
        · rw [if_pos (show nI (T q) = (44 : Int32) by rw [s1]; rfl), lk_e]
          exact ⟨_, rfl, o1.up (by omega), by rw [g_o (by omega)]; exact e31, Or.inr (Or.inr (Or.inl ⟨by omega, Or.inl s1, up_s, by rw [g_o (by omega)]; exact e71⟩))⟩
        · rw [if_neg (show ¬ nI (T q) = (44 : Int32) from fun y => s1 ((nI_eq (b := 44) (by omega) (by omega)).mp y))]
          by_cases s2 : T q = 59
          · rw [if_pos (show nI (T q) = (59 : Int32) by rw [s2]; rfl), lk_e]
            exact ⟨_, rfl, o1.up (by omega), by rw [g_o (by omega)]; exact e31, Or.inr (Or.inr (Or.inl ⟨by omega, Or.inr s2, up_s, by rw [g_o (by omega)]; exact e71⟩))⟩
          · rw [if_neg (show ¬ nI (T q) = (59 : Int32) from fun y => s2 ((nI_eq (b := 59) (by omega) (by omega)).mp y)), lk_e]
            exact ⟨_, rfl, o1.up (by omega), by rw [g_o (by omega)]; exact e31, Or.inr (Or.inr (Or.inr (Or.inl ⟨by omega, l, fun y => by rcases y with y | y <;> contradiction, fgq, up_s⟩)))⟩
theorem m_nt {k : Hp} (H : TpM k n T) (h12 : k 246 12 = nI q) (hq : q ≤ n) : ∃ k1, fX7_nextToken k = some ((), k1) ∧ tkM k k1 ∧ k1 246 13 = nI q ∧ ((q = n ∧ k1 246 14 = nI 1 ∧ k1 246 12 = nI q) ∨ (q < n ∧ isLt (T q) ∧ k1 246 14 = nI 2 ∧ k1 246 15 = nI (T q) ∧ k1 246 12 = nI (q + 1)) ∨ (q < n ∧ isSg (T q) ∧ k1 246 14 = nI 4 ∧ k1 246 15 = nI (T q) ∧ k1 246 12 = nI (q + 1)) ∨ (q < n ∧ ¬ isLt (T q) ∧ ¬ isSg (T q) ∧ ¬ isFg (T q) ∧ k1 246 14 = nI 0) ∨ (gF T n q ∧ ((gF T n (q + 1) ∧ gF T n (q + 2) ∧ k1 246 14 = nI 0) ∨ (gF T n (q + 1) ∧ ¬ gF T n (q + 2) ∧ k1 246 14 = nI 3 ∧ k1 246 15 = nI (10 * (T q - 48) + (T (q + 1) - 48)) ∧ k1 246 12 = nI (q + 2)) ∨ (¬ gF T n (q + 1) ∧ k1 246 14 = nI 3 ∧ k1 246 15 = nI (T q - 48) ∧ k1 246 12 = nI (q + 1))))) := by
  have n1 := H.1
  have o0 : tkM k (up2 k 246 13 (nI q)) := tkM.rf.up (by omega)
  have H0 := H.tk o0
  have e3 : (up2 k 246 13 (nI q)) 246 13 = nI q := up_s
  have e2 : (up2 k 246 13 (nI q)) 246 12 = nI q := by rw [g_o (by omega)]; exact h12
  unfold fX7_nextToken
  dsimp only [jp_e]
  rw [h12, lk_e]
  revert o0 H0 e3 e2
  generalize (up2 k 246 13 (nI q)) = kA
  intro o0 H0 e3 e2
  rw [e2, H0.2.1]
  by_cases z : q = n
  · rw [if_pos (by rw [t_le, nI_toInt (by omega), nI_toInt (by omega)]; omega), lk_e, g_o (by omega), g_o (by omega), e2, H0.2.1, if_pos (show nI q = nI n by rw [z]), lk_e, g_o (by omega), g_o (by omega), g_o (by omega), g_o (by omega), e2, H0.2.1, if_pos (by rw [t_le, nI_toInt (by omega), nI_toInt (by omega)]; omega), lk_e, g_o (by omega), up_s, if_neg (by decide)]
    exact ⟨_, rfl, ((o0.up (by omega)).up (by omega)).up (by omega), by rw [g_o (by omega), g_o (by omega), g_o (by omega)]; exact e3, Or.inl ⟨z, by rw [g_o (by omega), up_s]; rfl, by rw [up_s, show (0 : Int32) = nI 0 from rfl, nI_add, Nat.add_zero]⟩⟩
  · obtain ⟨t1, t2⟩ := H0.2.2 q (by omega)
    rw [if_neg (by rw [t_le, nI_toInt (by omega), nI_toInt (by omega)]; omega), show lenM 254 = 120 from rfl, inb_n (by omega) (by omega), chk_t, cl_n (by omega), t2, lk_e]
    have o1 : tkM k (up2 kA 246 15 (nI (T q))) := o0.up (by omega)
    have H1 := H.tk o1
    have e31 : (up2 kA 246 15 (nI (T q))) 246 13 = nI q := by rw [g_o (by omega)]; exact e3
    have e21 : (up2 kA 246 15 (nI (T q))) 246 12 = nI q := by rw [g_o (by omega)]; exact e2
    have e51 : (up2 kA 246 15 (nI (T q))) 246 15 = nI (T q) := up_s
    revert o1 H1 e31 e21 e51
    generalize (up2 kA 246 15 (nI (T q))) = kB
    intro o1 H1 e31 e21 e51
    rw [e21, H1.2.1, if_neg (show ¬ nI q = nI n from fun y => z ((nI_eq (by omega) (by omega)).mp y)), e51, in_c (lo := 97) (hi := 122) t1 rfl rfl, bd_e, if_b]
    have fin : ∀ (S : Nat), S ≠ 3 → S ≤ 4 → ∃ k1, (lk (up2 kB 246 14 (nI S)) fun kk33 => if kk33 246 11 ≤ kk33 246 12 then lk (up2 kk33 246 12 (kk33 246 12 + 0)) fun kk48 => if kk48 246 14 = (3 : Int32) then lk (up2 kk48 246 15 ((kk48 246 15) - (48 : Int32))) fun kk57 => fX7_nextToken_L165 (fun kk104 => if ((kk104 246 12) - (kk104 246 13)) ≤ (2 : Int32) then lk (up2 kk104 246 14 (3 : Int32)) fun kk116 => some ((), kk116) else lk (up2 kk104 246 14 (0 : Int32)) fun kk123 => some ((), kk123)) 4096 kk57 else some ((), kk48) else lk (up2 kk33 246 12 (kk33 246 12 + 1)) fun kk48 => if kk48 246 14 = (3 : Int32) then lk (up2 kk48 246 15 ((kk48 246 15) - (48 : Int32))) fun kk57 => fX7_nextToken_L165 (fun kk104 => if ((kk104 246 12) - (kk104 246 13)) ≤ (2 : Int32) then lk (up2 kk104 246 14 (3 : Int32)) fun kk116 => some ((), kk116) else lk (up2 kk104 246 14 (0 : Int32)) fun kk123 => some ((), kk123)) 4096 kk57 else some ((), kk48)) = some ((), k1) ∧ tkM k k1 ∧ k1 246 13 = nI q ∧ k1 246 14 = nI S ∧ k1 246 15 = nI (T q) ∧ k1 246 12 = nI (q + 1) := by
      intro S hS hS2
      rw [lk_e, g_o (by omega), g_o (by omega), e21, H1.2.1, if_neg (by rw [t_le, nI_toInt (by omega), nI_toInt (by omega)]; omega), lk_e, g_o (by omega), up_s, if_neg (show ¬ nI S = (3 : Int32) from fun y => hS ((nI_eq (b := 3) (by omega) (by omega)).mp y)), nI_1]
      exact ⟨_, rfl, (o1.up (by omega)).up (by omega), by rw [g_o (by omega), g_o (by omega)]; exact e31, by rw [g_o (by omega), up_s], by rw [g_o (by omega), g_o (by omega)]; exact e51, up_s⟩
    by_cases l : 97 ≤ T q ∧ T q ≤ 122
    · rw [if_pos (decide_eq_true l)]
      obtain ⟨k1, a1, a2, a3, a4, a5, a6⟩ := fin 2 (by omega) (by omega)
      exact ⟨k1, a1, a2, a3, Or.inr (Or.inl ⟨by omega, l, a4, a5, a6⟩)⟩
    · rw [if_neg (by simpa using l), e51, in_c (lo := 48) (hi := 57) t1 rfl rfl, bd_e, if_b]
      by_cases fgq : 48 ≤ T q ∧ T q ≤ 57
      · rw [if_pos (decide_eq_true fgq), lk_e, g_o (by omega), g_o (by omega), e21, H1.2.1, if_neg (by rw [t_le, nI_toInt (by omega), nI_toInt (by omega)]; omega), lk_e, g_o (by omega), up_s, if_pos rfl, g_o (by omega), g_o (by omega), e51, show nI (T q) - (48 : Int32) = nI (T q - 48) from nI_sub (b := 48) fgq.1, nI_1, lk_e]
        have o2 : tkM k (up2 (up2 (up2 kB 246 14 3) 246 12 (nI (q + 1))) 246 15 (nI (T q - 48))) := ((o1.up (by omega)).up (by omega)).up (by omega)
        obtain ⟨k1, a1, a2, a3, a4⟩ := m_fig (p := q) (H.tk o2) (by rw [g_o (by omega), up_s]) (by rw [g_o (by omega), g_o (by omega), g_o (by omega)]; exact e31) up_s ⟨by omega, fgq⟩
        exact ⟨k1, a1, o2.tr a2, a3, Or.inr (Or.inr (Or.inr (Or.inr ⟨⟨by omega, fgq⟩, a4⟩)))⟩
      · rw [if_neg (by simpa using fgq), e51]
        by_cases s1 : T q = 44
        · rw [if_pos (show nI (T q) = (44 : Int32) by rw [s1]; rfl)]
          obtain ⟨k1, a1, a2, a3, a4, a5, a6⟩ := fin 4 (by omega) (by omega)
          exact ⟨k1, a1, a2, a3, Or.inr (Or.inr (Or.inl ⟨by omega, Or.inl s1, a4, a5, a6⟩))⟩
        · rw [if_neg (show ¬ nI (T q) = (44 : Int32) from fun y => s1 ((nI_eq (b := 44) (by omega) (by omega)).mp y))]
          by_cases s2 : T q = 59
          · rw [if_pos (show nI (T q) = (59 : Int32) by rw [s2]; rfl)]
            obtain ⟨k1, a1, a2, a3, a4, a5, a6⟩ := fin 4 (by omega) (by omega)
            exact ⟨k1, a1, a2, a3, Or.inr (Or.inr (Or.inl ⟨by omega, Or.inr s2, a4, a5, a6⟩))⟩
          · rw [if_neg (show ¬ nI (T q) = (59 : Int32) from fun y => s2 ((nI_eq (b := 59) (by omega) (by omega)).mp y))]
            obtain ⟨k1, a1, a2, a3, a4, a5, a6⟩ := fin 0 (by omega) (by omega)
            exact ⟨k1, a1, a2, a3, Or.inr (Or.inr (Or.inr (Or.inl ⟨by omega, l, fun y => by rcases y with y | y <;> contradiction, fgq, a4⟩)))⟩
end NT
