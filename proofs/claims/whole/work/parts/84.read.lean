/-! ===== reading: both at one token, or both at one fault ===== -/
def nxt (h k : Hp) (n : Nat) : Prop := ∃ q, h 205 7 = nI q ∧ k 246 12 = nI q ∧ q ≤ n
def tok (h k : Hp) (n : Nat) : Prop := (h 205 5 = nI 258 ∧ k 246 14 = nI 1) ∨ (∃ c, isLt c ∧ h 205 5 = nI c ∧ k 246 14 = nI 2 ∧ k 246 15 = nI c ∧ nxt h k n) ∨ (∃ c, isSg c ∧ h 205 5 = nI c ∧ k 246 14 = nI 4 ∧ k 246 15 = nI c ∧ nxt h k n) ∨ (∃ v, v < 100 ∧ h 205 5 = nI 256 ∧ h 205 6 = nI v ∧ k 246 14 = nI 3 ∧ k 246 15 = nI v ∧ nxt h k n) ∨ (h 205 5 = nI 257 ∧ k 246 14 = nI 0)
def tokR (h k : Hp) : Prop := ∃ (n : Nat) (T : Nat → Nat) (p : Nat), TpC h n T ∧ TpM k n T ∧ h 205 2 = 0 ∧ k 246 16 = 0 ∧ h 205 3 = nI p ∧ k 246 13 = nI p ∧ p ≤ 120 ∧ tok h k n
def faR (h k : Hp) : Prop := ∃ f p : Nat, (1 ≤ f ∧ f ≤ 3) ∧ h 205 2 = nI f ∧ k 246 16 = nI f ∧ h 205 3 = nI p ∧ k 246 17 = nI p ∧ p ≤ 120
def eC (h h1 : Hp) : Prop := ∀ i j, i ≠ 205 ∨ j = 1 → h1 i j = h i j
def eM (k k1 : Hp) : Prop := ∀ i j, ¬ (i = 246 ∧ 12 ≤ j ∧ j ≤ 17) → k1 i j = k i j
theorem eC.rf {h : Hp} : eC h h := fun _ _ _ => rfl
theorem eM.rf {h : Hp} : eM h h := fun _ _ _ => rfl
theorem eC.tr {h h1 h2 : Hp} (a : eC h h1) (b : eC h1 h2) : eC h h2 := fun i j q => (b i j q).trans (a i j q)
theorem eM.tr {h h1 h2 : Hp} (a : eM h h1) (b : eM h1 h2) : eM h h2 := fun i j q => (b i j q).trans (a i j q)
theorem tkC.e {h h1 : Hp} (a : tkC h h1) : eC h h1 := fun i j q => a i j (by omega)
theorem tkM.e {h h1 : Hp} (a : tkM h h1) : eM h h1 := fun i j q => a i j (by omega)
theorem nt_e {h k : Hp} {n q : Nat} {T : Nat → Nat} (H : TpC h n T) (M : TpM k n T) (h2 : h 205 2 = 0) (k2 : k 246 16 = 0) (h7 : h 205 7 = nI q) (k7 : k 246 12 = nI q) (hq : q ≤ n) : ∃ h1 k1, fX4_nextToken h = some ((), h1) ∧ fX7_nextToken k = some ((), k1) ∧ tokR h1 k1 ∧ tkC h h1 ∧ tkM k k1 := by
  obtain ⟨h1, a1, a2, a3, a4⟩ := c_nt H h2 h7 hq
  obtain ⟨k1, b1, b2, b3, b4⟩ := m_nt M k7 hq
  have n1 := H.1
  refine ⟨h1, k1, a1, b1, ⟨n, T, q, H.tk a2, M.tk b2, by rw [a2 205 2 (by omega)]; exact h2, by rw [b2 246 16 (by omega)]; exact k2, a3, b3, by omega, ?_⟩, a2, b2⟩
  unfold tok
  rcases a4 with ⟨x1, x2, x3⟩ | ⟨x1, x2, x3, x4⟩ | ⟨x1, x2, x3, x4⟩ | ⟨x1, x2, x3, x4, x5⟩ | ⟨x1, x2⟩
  · rcases b4 with ⟨y1, y2, y3⟩ | ⟨y1, y2, y3, y4, y5⟩ | ⟨y1, y2, y3, y4, y5⟩ | ⟨y1, y2, y3, y4, y5⟩ | ⟨y1, y2⟩
    · exact Or.inl ⟨x2, y2⟩
    · omega
    · omega
    · omega
    · have := y1.1; omega
  · have nf : ¬ gF T n q := fun z => by have := z.2; unfold isLt at x2; omega
    have ns : ¬ isSg (T q) := fun z => by unfold isLt at x2; unfold isSg at z; omega
    rcases b4 with ⟨y1, y2, y3⟩ | ⟨y1, y2, y3, y4, y5⟩ | ⟨y1, y2, y3, y4, y5⟩ | ⟨y1, y2, y3, y4, y5⟩ | ⟨y1, y2⟩
    · omega
    · exact Or.inr (Or.inl ⟨T q, x2, x3, y3, y4, q + 1, x4, y5, by omega⟩)
    · exact absurd y2 ns
    · exact absurd x2 y2
    · exact absurd y1 nf
  · have nf : ¬ gF T n q := fun z => by have := z.2; unfold isSg at x2; omega
    have nl : ¬ isLt (T q) := fun z => by unfold isSg at x2; unfold isLt at z; omega
    rcases b4 with ⟨y1, y2, y3⟩ | ⟨y1, y2, y3, y4, y5⟩ | ⟨y1, y2, y3, y4, y5⟩ | ⟨y1, y2, y3, y4, y5⟩ | ⟨y1, y2⟩
    · omega
    · exact absurd y2 nl
    · exact Or.inr (Or.inr (Or.inl ⟨T q, x2, x3, y3, y4, q + 1, x4, y5, by omega⟩))
    · exact absurd x2 y3
    · exact absurd y1 nf
  · have nf : ¬ gF T n q := fun z => x4 z.2
    rcases b4 with ⟨y1, y2, y3⟩ | ⟨y1, y2, y3, y4, y5⟩ | ⟨y1, y2, y3, y4, y5⟩ | ⟨y1, y2, y3, y4, y5⟩ | ⟨y1, y2⟩
    · omega
    · exact absurd y2 x2
    · exact absurd y2 x3
    · exact Or.inr (Or.inr (Or.inr (Or.inr ⟨x5, y5⟩)))
    · exact absurd y1 nf
  · obtain ⟨g1, g2⟩ := x1
    have nl : ¬ isLt (T q) := fun z => by unfold isLt at z; omega
    have ns : ¬ isSg (T q) := fun z => by unfold isSg at z; omega
    rcases b4 with ⟨y1, y2, y3⟩ | ⟨y1, y2, y3, y4, y5⟩ | ⟨y1, y2, y3, y4, y5⟩ | ⟨y1, y2, y3, y4, y5⟩ | ⟨y1, y2⟩
    · omega
    · exact absurd y2 nl
    · exact absurd y2 ns
    · exact absurd g2 y4
    · rcases x2 with ⟨u1, u2, u3⟩ | ⟨u1, u2, u3, u4, u5⟩ | ⟨u1, u2, u3, u4⟩
      · rcases y2 with ⟨v1, v2, v3⟩ | ⟨v1, v2, v3, v4, v5⟩ | ⟨v1, v2, v3, v4⟩
        · exact Or.inr (Or.inr (Or.inr (Or.inr ⟨u3, v3⟩)))
        · exact absurd u2 v2
        · exact absurd u1 v1
      · have := u1.1
        have := u1.2
        rcases y2 with ⟨v1, v2, v3⟩ | ⟨v1, v2, v3, v4, v5⟩ | ⟨v1, v2, v3, v4⟩
        · exact absurd v2 u2
        · exact Or.inr (Or.inr (Or.inr (Or.inl ⟨_, by omega, u3, u4, v3, v4, q + 2, u5, v5, by omega⟩)))
        · exact absurd u1 v1
      · rcases y2 with ⟨v1, v2, v3⟩ | ⟨v1, v2, v3, v4, v5⟩ | ⟨v1, v2, v3, v4⟩
        · exact absurd v1 u1
        · exact absurd v1 u1
        · exact Or.inr (Or.inr (Or.inr (Or.inl ⟨_, by omega, u2, u3, v2, v3, q + 1, u4, v4, by omega⟩)))
/-! a fault -/
theorem nz_f {f : Nat} (h : 1 ≤ f ∧ f ≤ 3) : ¬ nI f = (0 : Int32) := fun z => by have := (nI_eq (b := 0) (by omega) (by omega)).mp z; omega
def flC (h : Hp) (f : Nat) : Hp := up2 h 205 2 (nI f)
def flM (k : Hp) (f : Nat) : Hp := up2 (up2 k 246 16 (nI f)) 246 17 (k 246 13)
theorem fl_C {h : Hp} {f : Nat} (h2 : h 205 2 = 0) : fX4_fail (nI f) h = some ((), flC h f) := by unfold fX4_fail; rw [if_pos h2, lk_e]; rfl
theorem fl_M {k : Hp} {f : Nat} (k2 : k 246 16 = 0) : fX7_bad (nI f) k = some ((), flM k f) := by unfold fX7_bad; rw [if_pos k2, lk_e, g_o (by omega), lk_e]; rfl
theorem fl_R {h k : Hp} {f : Nat} (hf : 1 ≤ f ∧ f ≤ 3) (t : tokR h k) : faR (flC h f) (flM k f) := by
  obtain ⟨n, T, p, a1, a2, a3, a4, a5, a6, a7, a8⟩ := t
  exact ⟨f, p, hf, up_s, by unfold flM; rw [g_o (by omega), up_s], by unfold flC; rw [g_o (by omega)]; exact a5, by unfold flM; rw [up_s]; exact a6, a7⟩
theorem flC_e {h : Hp} {f : Nat} : eC h (flC h f) := fun i j q => by unfold flC; rw [up2_at, if_neg (by omega)]
theorem flM_e {k : Hp} {f : Nat} : eM k (flM k f) := fun i j q => by unfold flM; rw [up2_at, if_neg (by omega), up2_at, if_neg (by omega)]
theorem flC_2 {h : Hp} {f : Nat} : flC h f 205 2 = nI f := up_s
theorem flM_16 {k : Hp} {f : Nat} : flM k f 246 16 = nI f := by unfold flM; rw [g_o (by omega), up_s]
/-! behind a fault nothing moves -/
section FF
variable {h k : Hp}
theorem f_nt (q : ¬ h 205 2 = 0) : fX4_nextToken h = some ((), h) := by unfold fX4_nextToken; rw [if_neg q]
theorem f_fail {a : Int32} (q : ¬ h 205 2 = 0) : fX4_fail a h = some ((), h) := by unfold fX4_fail; rw [if_neg q]
theorem f_take {a : Int32} (q : ¬ h 205 2 = 0) : fX4_take a h = some ((), h) := by
  unfold fX4_take
  dsimp only [jp_e]
  rw [if_neg q, f_nt q, bd_e]
theorem f_num {a b : Int32} (q : ¬ h 205 2 = 0) : fX4_takeNumber a b h = some (0, h) := by
  unfold fX4_takeNumber
  dsimp only [jp_e]
  rw [if_neg q, if_neg q, lk_e, f_nt q, bd_e, if_neg q]
theorem fm_bad {a : Int32} (q : ¬ k 246 16 = 0) : fX7_bad a k = some ((), k) := by unfold fX7_bad; rw [if_neg q]
theorem fm_must {a : Int32} (q : ¬ k 246 16 = 0) : fX7_must a k = some ((), k) := by
  unfold fX7_must
  dsimp only [jp_e]
  by_cases z : a = 0
  · rw [if_pos z, fm_bad q, bd_e, if_neg q]
  · rw [if_neg z, if_neg q]
theorem fm_let {a : Int32} (q : ¬ k 246 16 = 0) : fX7_isLetter a k = some (0, k) := by unfold fX7_isLetter; rw [if_neg q]
theorem fm_sort (q : ¬ k 246 16 = 0) : fX7_isSort k = some (0, k) := by unfold fX7_isSort; rw [if_neg q]
theorem fm_num {a b : Int32} (q : ¬ k 246 16 = 0) : fX7_number a b k = some (a, k) := by
  unfold fX7_number
  dsimp only [jp_e]
  rw [if_neg q, if_neg q, if_neg q, fm_must q, bd_e]
theorem fm_sign {a : Int32} (q : ¬ k 246 16 = 0) : fX7_mustSign a k = some ((), k) := by
  unfold fX7_mustSign
  dsimp only [jp_e]
  by_cases z : k 246 14 = 4
  · rw [if_pos z]
    by_cases y : k 246 15 = a
    · rw [if_pos y, fm_must q, bd_e]
    · rw [if_neg y, fm_must q, bd_e]
  · rw [if_neg z, fm_must q, bd_e]
theorem faR.c (f : faR h k) : ¬ h 205 2 = 0 := by obtain ⟨f, p, a1, a2, a3, a4, a5, a6⟩ := f; rw [a2]; exact nz_f a1
theorem faR.m (f : faR h k) : ¬ k 246 16 = 0 := by obtain ⟨f, p, a1, a2, a3, a4, a5, a6⟩ := f; rw [a3]; exact nz_f a1
theorem tokR.c (t : tokR h k) : h 205 2 = 0 := by obtain ⟨n, T, p, a1, a2, a3, a4, a5, a6, a7, a8⟩ := t; exact a3
theorem tokR.m (t : tokR h k) : k 246 16 = 0 := by obtain ⟨n, T, p, a1, a2, a3, a4, a5, a6, a7, a8⟩ := t; exact a4
end FF
theorem tokR.cg {h k h1 k1 : Hp} (t : tokR h k) (hc : ∀ i j, i = 205 ∨ i = 206 → h1 i j = h i j) (hm : ∀ i j, i = 246 ∨ i = 254 → k1 i j = k i j) : tokR h1 k1 := by
  obtain ⟨n, T, p, a1, a2, a3, a4, a5, a6, a7, a8⟩ := t
  have c5 := fun j => hc 205 j (Or.inl rfl)
  have m6 := fun j => hm 246 j (Or.inl rfl)
  refine ⟨n, T, p, ⟨a1.1, by rw [c5]; exact a1.2.1, fun i hi => by rw [hc 206 i (Or.inr rfl)]; exact a1.2.2 i hi⟩, ⟨a2.1, by rw [m6]; exact a2.2.1, fun i hi => by rw [hm 254 i (Or.inr rfl)]; exact a2.2.2 i hi⟩, by rw [c5]; exact a3, by rw [m6]; exact a4, by rw [c5]; exact a5, by rw [m6]; exact a6, a7, ?_⟩
  unfold tok nxt at a8 ⊢
  rw [c5, c5, c5, m6, m6, m6]
  exact a8
theorem faR.cg {h k h1 k1 : Hp} (t : faR h k) (hc : ∀ j, h1 205 j = h 205 j) (hm : ∀ j, k1 246 j = k 246 j) : faR h1 k1 := by
  obtain ⟨f, p, a1, a2, a3, a4, a5, a6⟩ := t
  exact ⟨f, p, a1, by rw [hc]; exact a2, by rw [hm]; exact a3, by rw [hc]; exact a4, by rw [hm]; exact a5, a6⟩
/-! the token is taken -/
section TK
variable {h k : Hp}
theorem c_take1 {c : Int32} (h2 : h 205 2 = 0) (e : h 205 5 = c) {h1 : Hp} (n : fX4_nextToken h = some ((), h1)) : fX4_take c h = some ((), h1) := by
  unfold fX4_take
  dsimp only [jp_e]
  rw [if_pos h2, if_pos e, n, bd_e]
theorem c_take0 {c : Int32} (h2 : h 205 2 = 0) (e : ¬ h 205 5 = c) : fX4_take c h = some ((), flC h 1) := by
  have nf : ¬ (flC h 1) 205 2 = 0 := by rw [flC_2]; decide
  unfold fX4_take
  dsimp only [jp_e]
  rw [if_pos h2, if_neg e, show (1 : Int32) = nI 1 from rfl, fl_C h2, bd_e, f_nt nf, bd_e]
theorem m_must1 (k2 : k 246 16 = 0) {k1 : Hp} (n : fX7_nextToken k = some ((), k1)) : fX7_must 1 k = some ((), k1) := by
  unfold fX7_must
  dsimp only [jp_e]
  rw [if_neg (by decide), if_pos k2, n, bd_e]
theorem m_must0 (k2 : k 246 16 = 0) : fX7_must 0 k = some ((), flM k 1) := by
  have nf : ¬ (flM k 1) 246 16 = 0 := by rw [flM_16]; decide
  unfold fX7_must
  dsimp only [jp_e]
  rw [if_pos rfl, show (1 : Int32) = nI 1 from rfl, fl_M k2, bd_e, if_neg nf]
theorem nI_ne {a b : Nat} (ha : a < 1000) (hb : b < 1000) (h : a ≠ b) : ¬ nI a = nI b := fun z => h ((nI_eq (by omega) (by omega)).mp z)
/-- a sign -/
theorem o_sign {c : Nat} (hc : isSg c) (t : tokR h k) : ∃ h1 k1, fX4_take (nI c) h = some ((), h1) ∧ fX7_mustSign (nI c) k = some ((), k1) ∧ (tokR h1 k1 ∨ faR h1 k1) ∧ eC h h1 ∧ eM k k1 := by
  have t' := t
  obtain ⟨n, T, p, a1, a2, a3, a4, a5, a6, a7, a8⟩ := t'
  have c9 : c < 1000 := by unfold isSg at hc; omega
  have bad : (¬ h 205 5 = nI c) → (¬ (k 246 14 = nI 4 ∧ k 246 15 = nI c)) → ∃ h1 k1, fX4_take (nI c) h = some ((), h1) ∧ fX7_mustSign (nI c) k = some ((), k1) ∧ (tokR h1 k1 ∨ faR h1 k1) ∧ eC h h1 ∧ eM k k1 := by
    intro q1 q2
    refine ⟨flC h 1, flM k 1, c_take0 a3 q1, ?_, Or.inr (fl_R (by omega) t), flC_e, flM_e⟩
    unfold fX7_mustSign
    dsimp only [jp_e]
    by_cases z : k 246 14 = (4 : Int32)
    · rw [if_pos z, if_neg (fun y => q2 ⟨z, y⟩), m_must0 a4, bd_e]
    · rw [if_neg z, m_must0 a4, bd_e]
  unfold isSg at hc
  rcases a8 with ⟨x1, x2⟩ | ⟨d, x1, x2, x3, x4, x5⟩ | ⟨d, x1, x2, x3, x4, q, x5, x6, x7⟩ | ⟨v, x1, x2, x3, x4, x5, x6⟩ | ⟨x1, x2⟩
  · exact bad (by rw [x1]; exact nI_ne (by omega) c9 (by omega)) (fun z => by rw [x2] at z; exact absurd z.1 (by decide))
  · unfold isLt at x1
    exact bad (by rw [x2]; exact nI_ne (by omega) c9 (by omega)) (fun z => by rw [x3] at z; exact absurd z.1 (by decide))
  · unfold isSg at x1
    by_cases e : d = c
    · subst e
      obtain ⟨h1, k1, n1, n2, n3, n4, n5⟩ := nt_e a1 a2 a3 a4 x5 x6 x7
      refine ⟨h1, k1, c_take1 a3 x2 n1, ?_, Or.inl n3, n4.e, n5.e⟩
      unfold fX7_mustSign
      dsimp only [jp_e]
      rw [if_pos (show k 246 14 = (4 : Int32) from x3), if_pos x4, m_must1 a4 n2, bd_e]
    · exact bad (by rw [x2]; exact nI_ne (by omega) c9 e) (fun z => by rw [x4] at z; exact absurd z.2 (nI_ne (by omega) c9 e))
  · exact bad (by rw [x2]; exact nI_ne (by omega) c9 (by omega)) (fun z => by rw [x4] at z; exact absurd z.1 (by decide))
  · exact bad (by rw [x1]; exact nI_ne (by omega) c9 (by omega)) (fun z => by rw [x2] at z; exact absurd z.1 (by decide))
/-- is it this letter? -/
theorem o_isl {c : Nat} (hc : isLt c) (t : tokR h k) : (h 205 5 = nI c ∧ fX7_isLetter (nI c) k = some (1, k) ∧ ∃ h1 k1, fX4_nextToken h = some ((), h1) ∧ fX7_nextToken k = some ((), k1) ∧ tokR h1 k1 ∧ eC h h1 ∧ eM k k1) ∨ ((¬ h 205 5 = nI c) ∧ fX7_isLetter (nI c) k = some (0, k)) := by
  obtain ⟨n, T, p, a1, a2, a3, a4, a5, a6, a7, a8⟩ := t
  unfold isLt at hc
  have bad : (¬ h 205 5 = nI c) → (¬ (k 246 14 = nI 2 ∧ k 246 15 = nI c)) → (¬ h 205 5 = nI c) ∧ fX7_isLetter (nI c) k = some (0, k) := by
    intro q1 q2
    refine ⟨q1, ?_⟩
    unfold fX7_isLetter
    rw [if_pos a4]
    by_cases z : k 246 14 = (2 : Int32)
    · rw [if_pos z, if_neg (fun y => q2 ⟨z, y⟩)]
    · rw [if_neg z]
  rcases a8 with ⟨x1, x2⟩ | ⟨d, x1, x2, x3, x4, q, x5, x6, x7⟩ | ⟨d, x1, x2, x3, x4, x5⟩ | ⟨v, x1, x2, x3, x4, x5, x6⟩ | ⟨x1, x2⟩
  · exact Or.inr (bad (by rw [x1]; exact nI_ne (by omega) (by omega) (by omega)) (fun z => by rw [x2] at z; exact absurd z.1 (by decide)))
  · unfold isLt at x1
    by_cases e : d = c
    · subst e
      obtain ⟨h1, k1, n1, n2, n3, n4, n5⟩ := nt_e a1 a2 a3 a4 x5 x6 x7
      refine Or.inl ⟨x2, ?_, h1, k1, n1, n2, n3, n4.e, n5.e⟩
      unfold fX7_isLetter
      rw [if_pos a4, if_pos (show k 246 14 = (2 : Int32) from x3), if_pos x4]
    · exact Or.inr (bad (by rw [x2]; exact nI_ne (by omega) (by omega) e) (fun z => by rw [x4] at z; exact absurd z.2 (nI_ne (by omega) (by omega) e)))
  · unfold isSg at x1
    exact Or.inr (bad (by rw [x2]; exact nI_ne (by omega) (by omega) (by omega)) (fun z => by rw [x3] at z; exact absurd z.1 (by decide)))
  · exact Or.inr (bad (by rw [x2]; exact nI_ne (by omega) (by omega) (by omega)) (fun z => by rw [x4] at z; exact absurd z.1 (by decide)))
  · exact Or.inr (bad (by rw [x1]; exact nI_ne (by omega) (by omega) (by omega)) (fun z => by rw [x2] at z; exact absurd z.1 (by decide)))
/-- a number -/
theorem o_num {lo hi : Int} (hl : -1000 ≤ lo ∧ lo ≤ 1000) (hh : -1000 ≤ hi ∧ hi ≤ 1000) (t : tokR h k) : ∃ x y h1 k1, fX4_takeNumber (I lo) (I hi) h = some (x, h1) ∧ fX7_number (I lo) (I hi) k = some (y, k1) ∧ ((tokR h1 k1 ∧ ∃ v : Int, lo ≤ v ∧ v ≤ hi ∧ x = I v ∧ y = I v) ∨ faR h1 k1) ∧ eC h h1 ∧ eM k k1 := by
  have t' := t
  obtain ⟨n, T, p, a1, a2, a3, a4, a5, a6, a7, a8⟩ := t'
  have bad : (¬ h 205 5 = nI 256) → (¬ k 246 14 = nI 3) → ∃ x y h1 k1, fX4_takeNumber (I lo) (I hi) h = some (x, h1) ∧ fX7_number (I lo) (I hi) k = some (y, k1) ∧ ((tokR h1 k1 ∧ ∃ v : Int, lo ≤ v ∧ v ≤ hi ∧ x = I v ∧ y = I v) ∨ faR h1 k1) ∧ eC h h1 ∧ eM k k1 := by
    intro q1 q2
    have nf : ¬ (flC h 1) 205 2 = 0 := by rw [flC_2]; decide
    have nm : ¬ (flM k 1) 246 16 = 0 := by rw [flM_16]; decide
    refine ⟨0, I lo, flC h 1, flM k 1, ?_, ?_, Or.inr (fl_R (by omega) t), flC_e, flM_e⟩
    · unfold fX4_takeNumber
      dsimp only [jp_e]
      rw [if_pos a3, if_neg (show ¬ h 205 5 = (256 : Int32) from q1), show (1 : Int32) = nI 1 from rfl, fl_C a3, bd_e, lk_e, f_nt nf, bd_e, if_neg nf]
    · unfold fX7_number
      dsimp only [jp_e]
      rw [if_pos a4, if_neg (show ¬ k 246 14 = (3 : Int32) from q2), show (1 : Int32) = nI 1 from rfl, fl_M a4, bd_e, if_neg nm, if_neg nm, fm_must nm, bd_e]
  rcases a8 with ⟨x1, x2⟩ | ⟨d, x1, x2, x3, x4, x5⟩ | ⟨d, x1, x2, x3, x4, x5⟩ | ⟨v, x1, x2, x3, x4, x5, q, x6, x7, x8⟩ | ⟨x1, x2⟩
  · exact bad (by rw [x1]; decide) (by rw [x2]; decide)
  · unfold isLt at x1
    exact bad (by rw [x2]; exact nI_ne (by omega) (by omega) (by omega)) (by rw [x3]; decide)
  · unfold isSg at x1
    exact bad (by rw [x2]; exact nI_ne (by omega) (by omega) (by omega)) (by rw [x3]; decide)
  · have wC : wi (nI v) (I lo).toInt (I hi).toInt = true ↔ (lo ≤ (v : Int) ∧ (v : Int) ≤ hi) := by
      unfold wi
      rw [nI_toInt (by omega), I_toInt (by omega) (by omega), I_toInt (by omega) (by omega), decide_eq_true_eq]
    have wM : wi (nI v) (I lo).toInt64.toInt (I hi).toInt64.toInt = wi (nI v) (I lo).toInt (I hi).toInt := by rw [L_w, L_w]
    by_cases z : lo ≤ (v : Int) ∧ (v : Int) ≤ hi
    · obtain ⟨h1, k1, n1, n2, n3, n4, n5⟩ := nt_e a1 a2 a3 a4 x6 x7 x8
      refine ⟨nI v, nI v, h1, k1, ?_, ?_, Or.inl ⟨n3, v, z.1, z.2, I_nat v, I_nat v⟩, n4.e, n5.e⟩
      · unfold fX4_takeNumber
        dsimp only [jp_e]
        rw [if_pos a3, if_pos (show h 205 5 = (256 : Int32) from x2), if_pos a3, x3, w6, bd_e, if_b, if_pos (wC.mpr z), lk_e, n1, bd_e, if_pos n3.c, x3]
      · unfold fX7_number
        dsimp only [jp_e]
        rw [if_pos a4, if_pos (show k 246 14 = (3 : Int32) from x4), if_pos a4, x5, L_w2, bd_e, if_b, wM, if_pos (wC.mpr z), if_pos a4, m_must1 a4 n2, bd_e, x5]
    · have nf : ¬ (flC h 2) 205 2 = 0 := by rw [flC_2]; decide
      have nm : ¬ (flM k 2) 246 16 = 0 := by rw [flM_16]; decide
      refine ⟨0, I lo, flC h 2, flM k 2, ?_, ?_, Or.inr (fl_R (by omega) t), flC_e, flM_e⟩
      · unfold fX4_takeNumber
        dsimp only [jp_e]
        rw [if_pos a3, if_pos (show h 205 5 = (256 : Int32) from x2), if_pos a3, x3, w6, bd_e, if_b, if_neg (fun y => z (wC.mp y)), show (2 : Int32) = nI 2 from rfl, fl_C a3, bd_e, lk_e, f_nt nf, bd_e, if_neg nf]
      · unfold fX7_number
        dsimp only [jp_e]
        rw [if_pos a4, if_pos (show k 246 14 = (3 : Int32) from x4), if_pos a4, x5, L_w2, bd_e, if_b, wM, if_neg (fun y => z (wC.mp y)), show (2 : Int32) = nI 2 from rfl, fl_M a4, bd_e, if_neg nm, fm_must nm, bd_e]
  · exact bad (by rw [x1]; decide) (by rw [x2]; decide)
end TK
