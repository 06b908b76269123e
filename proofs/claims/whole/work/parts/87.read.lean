/-! ===== reading: a sheet ===== -/
def DSc (c : Nat) (R : Rw) (h k : Hp) : Prop := M0 k 251 R ∧ DH R h ∧ DP R ∧ R 0 = c ∧ 1 ≤ R 1
theorem okD_S {c : Nat} : okD (DSc c) := ⟨fun R h k h1 k1 a b d => ⟨fun j hj => by rw [b]; exact d.1 j hj, d.2.1.cg (fun i j q1 q2 => a i j (by omega)), d.2.2⟩, fun R h k d => d.2.1.b d.2.2.1⟩
theorem okD.and {D : Rw → Hp → Hp → Prop} (o : okD D) (P : Rw → Prop) : okD (fun R h k => D R h k ∧ P R) := ⟨fun R h k h1 k1 a b d => ⟨o.1 R h k h1 k1 a b d.1, d.2⟩, fun R h k d => o.2 R h k d.1⟩
theorem rdN.p {D : Rw → Hp → Hp → Prop} {lo hi : Rw → Int} {x y : Int32} {h k : Hp} (s : rdN D lo hi x y h k) : rdP (fun R h k => D R h k ∧ ∃ v, lo R ≤ v ∧ v ≤ hi R ∧ x = I v ∧ y = I v) h k := by
  rcases s with ⟨t, R, v, d, e⟩ | s
  · exact Or.inl ⟨t, R, d, v, e⟩
  · exact Or.inr s
def kdN (c : Nat) : Nat := if c = 98 then 2 else if c = 104 then 4 else if c = 111 then 5 else if c = 115 then 1 else if c = 119 then 3 else 0
theorem kdN_le {c : Nat} : kdN c ≤ 5 := by
  unfold kdN
  split
  · omega
  · split
    · omega
    · split
      · omega
      · split
        · omega
        · split <;> omega
theorem ks_e {c : Nat} {h : Hp} (hc : c < 1000) : fX4_kindOfSort (nI c) h = some (nI (kdN c), h) := by
  unfold fX4_kindOfSort kdN
  by_cases e1 : c = 98
  · subst e1; rfl
  rw [if_neg (show ¬ nI c = (98 : Int32) from nI_ne (b := 98) hc (by omega) e1), if_neg e1]
  by_cases e2 : c = 104
  · subst e2; rfl
  rw [if_neg (show ¬ nI c = (104 : Int32) from nI_ne (b := 104) hc (by omega) e2), if_neg e2]
  by_cases e3 : c = 111
  · subst e3; rfl
  rw [if_neg (show ¬ nI c = (111 : Int32) from nI_ne (b := 111) hc (by omega) e3), if_neg e3]
  by_cases e4 : c = 115
  · subst e4; rfl
  rw [if_neg (show ¬ nI c = (115 : Int32) from nI_ne (b := 115) hc (by omega) e4), if_neg e4]
  by_cases e5 : c = 119
  · subst e5; rfl
  rw [if_neg (show ¬ nI c = (119 : Int32) from nI_ne (b := 119) hc (by omega) e5), if_neg e5]
  rfl
theorem kb_e {c : Nat} {k : Hp} (hc : c < 1000) : fX7_kindBy (nI c) k = some (if kdN c = 0 then -1000000 else nI (kdN c), k) := by
  unfold fX7_kindBy kdN
  by_cases e4 : c = 115
  · subst e4; rfl
  rw [if_neg (show ¬ nI c = (115 : Int32) from nI_ne (b := 115) hc (by omega) e4), if_neg e4]
  by_cases e1 : c = 98
  · subst e1; rfl
  rw [if_neg (show ¬ nI c = (98 : Int32) from nI_ne (b := 98) hc (by omega) e1), if_neg e1]
  by_cases e5 : c = 119
  · subst e5; rfl
  rw [if_neg (show ¬ nI c = (119 : Int32) from nI_ne (b := 119) hc (by omega) e5), if_neg e5]
  by_cases e2 : c = 104
  · subst e2; rfl
  rw [if_neg (show ¬ nI c = (104 : Int32) from nI_ne (b := 104) hc (by omega) e2), if_neg e2]
  by_cases e3 : c = 111
  · subst e3; rfl
  rw [if_neg (show ¬ nI c = (111 : Int32) from nI_ne (b := 111) hc (by omega) e3), if_neg e3]
  rfl
theorem ks_x {a : Int32} {h : Hp} : ∃ x, fX4_kindOfSort a h = some (x, h) := by
  unfold fX4_kindOfSort
  by_cases e1 : a = 98
  · exact ⟨_, by rw [if_pos e1]⟩
  by_cases e2 : a = 104
  · exact ⟨_, by rw [if_neg e1, if_pos e2]⟩
  by_cases e3 : a = 111
  · exact ⟨_, by rw [if_neg e1, if_neg e2, if_pos e3]⟩
  by_cases e4 : a = 115
  · exact ⟨_, by rw [if_neg e1, if_neg e2, if_neg e3, if_pos e4]⟩
  by_cases e5 : a = 119
  · exact ⟨_, by rw [if_neg e1, if_neg e2, if_neg e3, if_neg e4, if_pos e5]⟩
  · exact ⟨_, by rw [if_neg e1, if_neg e2, if_neg e3, if_neg e4, if_neg e5]⟩
theorem o_sort {h k : Hp} (t : tokR h k) : (∃ d : Nat, (1 ≤ d ∧ d ≤ 5) ∧ (¬ h 205 5 = nI 258) ∧ fX4_kindOfSort (h 205 5) h = some (nI d, h) ∧ fX7_isSort k = some (1, k) ∧ fX7_kindBy (k 246 15) k = some (nI d, k) ∧ ∃ h1 k1, fX4_nextToken h = some ((), h1) ∧ fX7_nextToken k = some ((), k1) ∧ tokR h1 k1 ∧ eC h h1 ∧ eM k k1) ∨ (fX4_kindOfSort (h 205 5) h = some (0, h) ∧ fX7_isSort k = some (0, k) ∧ ((h 205 5 = nI 258 ∧ k 246 14 = nI 1) ∨ ((¬ h 205 5 = nI 258) ∧ ¬ k 246 14 = nI 1))) := by
  obtain ⟨n, T, p, a1, a2, a3, a4, a5, a6, a7, a8⟩ := t
  have nos : (¬ k 246 14 = nI 2) → fX7_isSort k = some (0, k) := fun q => by
    unfold fX7_isSort
    rw [if_pos a4, if_neg (show ¬ k 246 14 = (2 : Int32) from q)]
  rcases a8 with ⟨x1, x2⟩ | ⟨d, x1, x2, x3, x4, q, x5, x6, x7⟩ | ⟨d, x1, x2, x3, x4, x5⟩ | ⟨v, x1, x2, x3, x4, x5, x6⟩ | ⟨x1, x2⟩
  · exact Or.inr ⟨by rw [x1, ks_e (by omega)]; rfl, nos (by rw [x2]; decide), Or.inl ⟨x1, x2⟩⟩
  · unfold isLt at x1
    have is : fX7_isSort k = some (if kdN d = 0 then 0 else 1, k) := by
      unfold fX7_isSort
      rw [if_pos a4, if_pos (show k 246 14 = (2 : Int32) from x3), x4, kb_e (by omega), bd_e]
      by_cases z : kdN d = 0
      · rw [if_pos z, if_pos rfl, if_pos z]
      · rw [if_neg z, if_neg, if_neg z]
        intro y
        have l := kdN_le (c := d)
        rw [← Int32.toInt_inj, nI_toInt (by omega)] at y
        have : ((-1000000 : Int32)).toInt = -1000000 := by decide
        omega
    by_cases z : kdN d = 0
    · rw [if_pos z] at is
      exact Or.inr ⟨by rw [x2, ks_e (by omega), z]; rfl, is, Or.inr ⟨by rw [x2]; exact nI_ne (by omega) (by omega) (by omega), by rw [x3]; decide⟩⟩
    · rw [if_neg z] at is
      obtain ⟨h1, k1, n1, n2, n3, n4, n5⟩ := nt_e a1 a2 a3 a4 x5 x6 x7
      refine Or.inl ⟨kdN d, ⟨by omega, kdN_le⟩, by rw [x2]; exact nI_ne (by omega) (by omega) (by omega), by rw [x2, ks_e (by omega)], is, ?_, h1, k1, n1, n2, n3, n4.e, n5.e⟩
      rw [x4, kb_e (by omega), if_neg z]
  · unfold isSg at x1
    refine Or.inr ⟨?_, nos (by rw [x3]; decide), Or.inr ⟨by rw [x2]; exact nI_ne (by omega) (by omega) (by omega), by rw [x3]; decide⟩⟩
    rw [x2, ks_e (by omega)]
    rcases x1 with rfl | rfl <;> rfl
  · exact Or.inr ⟨by rw [x2, ks_e (by omega)]; rfl, nos (by rw [x4]; decide), Or.inr ⟨by rw [x2]; decide, by rw [x4]; decide⟩⟩
  · exact Or.inr ⟨by rw [x1, ks_e (by omega)]; rfl, nos (by rw [x2]; decide), Or.inr ⟨by rw [x1]; decide, by rw [x2]; decide⟩⟩
/-! adding a sheet -/
def adC (h : Hp) (s : Nat) (a b c d : Int32) : Hp := up2 (up2 (up2 (up2 (up2 (up2 h 9 s a) 11 s c) 7 14 (h 7 14 ||| nI (2 ^ s))) 10 s b) 12 s d) 7 12 (nI (s + 1))
theorem c_as {h : Hp} {s : Nat} {a b c d : Int32} (hs : s < 6) (e : h 7 12 = nI s) : fX2_addSheet 7 a b c d h = some ((), adC h s a b c d) := by
  unfold fX2_addSheet
  rw [e, if_neg (by rw [t_le, nI_toInt (by omega)]; show ¬ (6 : Int) ≤ _; omega), show lenC (7 + 2) = 6 from rfl, inb_n (by omega) (by omega), chk_t, cl_n (by omega), lk_e, g_x (by omega), e, show lenC (7 + 4) = 6 from rfl, inb_n (by omega) (by omega), chk_t, cl_n (by omega), lk_e, g_x (by omega), g_x (by omega), e]
  unfold fX2_admit
  rw [g_x (by omega), g_x (by omega), shl_n (by omega), lk_e, show lenC (7 + 3) = 6 from rfl, inb_n (by omega) (by omega), chk_t, lk_e, show lenC (7 + 5) = 6 from rfl, inb_n (by omega) (by omega), chk_t, lk_e, bd_e, cl_n (by omega), g_x (by omega), g_x (by omega), g_o (by omega), g_x (by omega), g_x (by omega), e, nI_1, lk_e]
  rfl
theorem c_as6 {h : Hp} {s : Nat} {a b c d : Int32} (hs : s = 6) (e : h 7 12 = nI s) : fX2_addSheet 7 a b c d h = some ((), h) := by
  unfold fX2_addSheet
  rw [e, if_pos (by rw [hs]; decide)]
theorem adC_e {h : Hp} {s : Nat} {a b c d : Int32} : eD h (adC h s a b c d) := (((((eD.rf.up (by omega)).up (by omega)).up (by omega)).up (by omega)).up (by omega)).up (by omega)
theorem adC_b {h : Hp} {s : Nat} {a b c d : Int32} (hs : s < 6) (B : bnd h) : bnd (adC h s a b c d) := by
  obtain ⟨⟨w, w1, w2⟩, -⟩ := B
  refine ⟨⟨w, w1, ?_⟩, ⟨s + 1, by omega, up_s⟩⟩
  unfold adC
  rw [g_o (by omega), g_x (by omega), g_x (by omega), g_o (by omega), g_x (by omega), g_x (by omega)]
  exact w2
theorem adC_5 {h : Hp} {s : Nat} {a b c d : Int32} {i j : Nat} (q : ¬ (7 ≤ i ∧ i < 14)) : adC h s a b c d i j = h i j := by
  unfold adC
  rw [g_x (by omega), g_x (by omega), g_x (by omega), g_x (by omega), g_x (by omega), g_x (by omega)]
/-- behind a fault a sheet may be added to the draft: nobody sees it -/
theorem f_as {h : Hp} {a b c d : Int32} (B : bnd h) : ∃ h1, fX2_addSheet 7 a b c d h = some ((), h1) ∧ bnd h1 ∧ eD h h1 ∧ (∀ j, h1 205 j = h 205 j) := by
  have B' := B
  obtain ⟨-, s, s1, s2⟩ := B'
  by_cases z : s = 6
  · exact ⟨h, c_as6 z s2, B, eD.rf, fun j => rfl⟩
  · exact ⟨_, c_as (by omega) s2, adC_b (by omega) B, adC_e, fun j => adC_5 (by omega)⟩
theorem f_sh {h : Hp} {x1 : Int32} (q : ¬ h 205 2 = 0) (B : bnd h) : ∃ h1, (bd (fX4_take (h 205 5) h) fun _ hh21 =>
      bd (fX4_takeNumber (0 : Int32) ((hh21 7 7) - (1 : Int32)) hh21) fun x28 hh29 =>
      bd (fX4_take (44 : Int32) hh29) fun _ hh39 =>
      bd (fX4_takeNumber (1 : Int32) (5 : Int32) hh39) fun x46 hh47 =>
      bd (fX4_take (44 : Int32) hh47) fun _ hh57 =>
      bd (fX4_takeNumber (1 : Int32) (9 : Int32) hh57) fun x64 hh65 =>
      bd (fX4_take (59 : Int32) hh65) fun _ hh75 =>
      bd (fX2_addSheet 7 x1 x28 x46 x64 hh75) fun _ hh83 =>
      some ((), hh83)) = some ((), h1) ∧ bnd h1 ∧ eD h h1 ∧ (∀ j, h1 205 j = h 205 j) := by
  obtain ⟨h1, a1, a2⟩ := f_as (a := x1) (b := 0) (c := 0) (d := 0) B
  refine ⟨h1, ?_, a2⟩
  rw [f_take q, bd_e, f_num q, bd_e, f_take q, bd_e, f_num q, bd_e, f_take q, bd_e, f_num q, bd_e, f_take q, bd_e, a1, bd_e]
theorem o_fash {h : Hp} (q : ¬ h 205 2 = 0) (B : bnd h) : ∃ h1, fX4_readSheet h = some ((), h1) ∧ bnd h1 ∧ eD h h1 ∧ (∀ j, h1 205 j = h 205 j) := by
  obtain ⟨x, e⟩ := ks_x (a := h 205 5) (h := h)
  obtain ⟨h1, a1, a2⟩ := f_sh (x1 := x) q B
  refine ⟨h1, ?_, a2⟩
  unfold fX4_readSheet
  dsimp only [jp_e]
  rw [e, bd_e, f_fail q, f_fail q, bd_e, a1, ite_self, ite_self]
theorem o_nosh {h k : Hp} (t : tokR h k) (B : bnd h) (e : fX4_kindOfSort (h 205 5) h = some (0, h)) : ∃ h1, fX4_readSheet h = some ((), h1) ∧ faR h1 (flM k 1) ∧ bnd h1 ∧ eD h h1 := by
  have nf : ¬ (flC h 1) 205 2 = 0 := by rw [flC_2]; decide
  obtain ⟨h1, a1, a2, a3, a4⟩ := f_sh (x1 := 0) nf (flC_e.b B)
  refine ⟨h1, ?_, (fl_R (by omega) t).cg a4 (fun j => rfl), a2, flC_e.d.tr a3⟩
  unfold fX4_readSheet
  dsimp only [jp_e]
  rw [e, bd_e, if_pos rfl, show (1 : Int32) = nI 1 from rfl, fl_C t.c, bd_e]
  exact a1
def asR (R : Rw) (a b c d : Int) : Rw := va_up (va_up (va_up (va_up (va_up (va_up (va_up R (14 + 6 * (R 0).toNat) a) (15 + 6 * (R 0).toNat) b) (16 + 6 * (R 0).toNat) c) (17 + 6 * (R 0).toNat) d) (18 + 6 * (R 0).toNat) 0) (19 + 6 * (R 0).toNat) 1) 0 (R 0 + 1)
section AS
variable {R : Rw} {a b c d : Int}
theorem asR_0 : asR R a b c d 0 = R 0 + 1 := upR_at
theorem asR_ne {j : Nat} (h0 : j ≠ 0) (h1 : j < 14 + 6 * (R 0).toNat ∨ 20 + 6 * (R 0).toNat ≤ j) : asR R a b c d j = R j := by
  unfold asR
  rw [upR_ne h0, upR_ne (by omega), upR_ne (by omega), upR_ne (by omega), upR_ne (by omega), upR_ne (by omega), upR_ne (by omega)]
theorem asR_14 : asR R a b c d (14 + 6 * (R 0).toNat) = a := by unfold asR; rw [upR_ne (by omega), upR_ne (by omega), upR_ne (by omega), upR_ne (by omega), upR_ne (by omega), upR_ne (by omega), upR_at]
theorem asR_15 : asR R a b c d (15 + 6 * (R 0).toNat) = b := by unfold asR; rw [upR_ne (by omega), upR_ne (by omega), upR_ne (by omega), upR_ne (by omega), upR_ne (by omega), upR_at]
theorem asR_16 : asR R a b c d (16 + 6 * (R 0).toNat) = c := by unfold asR; rw [upR_ne (by omega), upR_ne (by omega), upR_ne (by omega), upR_ne (by omega), upR_at]
theorem asR_17 : asR R a b c d (17 + 6 * (R 0).toNat) = d := by unfold asR; rw [upR_ne (by omega), upR_ne (by omega), upR_ne (by omega), upR_at]
theorem asR_18 : asR R a b c d (18 + 6 * (R 0).toNat) = 0 := by unfold asR; rw [upR_ne (by omega), upR_ne (by omega), upR_at]
theorem asR_19 : asR R a b c d (19 + 6 * (R 0).toNat) = 1 := by unfold asR; rw [upR_ne (by omega), upR_at]
theorem asR_nS (h : 0 ≤ R 0) : nS (asR R a b c d) = nS R + 1 := by unfold nS; rw [asR_0]; omega
theorem asR_m (h : 0 ≤ R 0) : msk (asR R a b c d) = msk R ||| 2 ^ nS R := by
  rw [msk_bs, msk_bs, asR_nS h, ← bs_or]
  have e1 : inB (asR R a b c d) (nS R) = true := by
    unfold inB nS
    rw [asR_19]
    rfl
  rw [if_pos e1]
  congr 1
  refine bs_congr (fun i hi => ?_)
  unfold nS at hi
  unfold inB
  rw [asR_ne (by omega) (by omega)]
theorem DP_as (p : DP R) (h1 : R 0 < 6) (ha : 1 ≤ a ∧ a ≤ 5) (hb : 0 ≤ b ∧ b < R 2) (hc : 1 ≤ c ∧ c ≤ 5) (hd : 1 ≤ d ∧ d ≤ 9) : DP (asR R a b c d) := by
  obtain ⟨p0, p1, p2, p3, p4, p5, p6, p7, p8, p9⟩ := p
  have o : ∀ j, j < 14 → j ≠ 0 → asR R a b c d j = R j := fun j x y => asR_ne y (by omega)
  refine ⟨by rw [asR_0]; omega, by rw [o 1 (by omega) (by omega)]; exact p1, by rw [o 2 (by omega) (by omega)]; exact p2, by rw [o 3 (by omega) (by omega), o 2 (by omega) (by omega)]; exact p3, by rw [o 4 (by omega) (by omega), o 2 (by omega) (by omega)]; exact p4, by rw [o 5 (by omega) (by omega)]; exact p5, by rw [o 6 (by omega) (by omega)]; exact p6, by rw [o 7 (by omega) (by omega)]; exact p7, fun w hw => ?_, fun s hs => ?_⟩
  · rw [o 1 (by omega) (by omega)] at hw
    rw [o (8 + w) (by omega) (by omega)]
    exact p8 w hw
  · rw [asR_nS p0.1] at hs
    unfold ShOk
    by_cases z : s = (R 0).toNat
    · subst z
      rw [asR_14, asR_15, asR_16, asR_17, asR_18, asR_19]
      omega
    · have hs' : s < nS R := by unfold nS at hs ⊢; omega
      have := p9 s hs'
      unfold ShOk at this
      unfold nS at hs'
      rw [asR_ne (by omega) (by omega), asR_ne (by omega) (by omega), asR_ne (by omega) (by omega), asR_ne (by omega) (by omega), asR_ne (by omega) (by omega), asR_ne (by omega) (by omega)]
      exact this
theorem DH_as {h : Hp} {s : Nat} (D : DH R h) (p : DP R) (h1 : R 0 < 6) (es : R 0 = s) : DH (asR R a b c d) (adC h s (I a) (I b) (I c) (I d)) := by
  obtain ⟨⟨b1, b2, b3, b4⟩, b5, b6, b7, b8, b9, b10, b11, b12⟩ := D
  have p0 := p.1
  have p1 := p.2.1
  have ts : (R 0).toNat = s := by omega
  have ns : nS R = s := ts
  have o : ∀ j, j < 14 → j ≠ 0 → asR R a b c d j = R j := fun j x y => asR_ne y (by omega)
  have u : ∀ j, j ≠ 12 → j ≠ 14 → adC h s (I a) (I b) (I c) (I d) 7 j = h 7 j := fun j q1 q2 => by
    unfold adC
    rw [g_o q1, g_x (by omega), g_x (by omega), g_o q2, g_x (by omega), g_x (by omega)]
  have z9 : ∀ j, adC h s (I a) (I b) (I c) (I d) 9 j = if j = s then I a else h 9 j := fun j => by
    unfold adC
    rw [g_x (by omega), g_x (by omega), g_x (by omega), g_x (by omega), g_x (by omega)]
    by_cases z : j = s
    · subst z; rw [up_s, if_pos rfl]
    · rw [g_o z, if_neg z]
  have z10 : ∀ j, adC h s (I a) (I b) (I c) (I d) 10 j = if j = s then I b else h 10 j := fun j => by
    unfold adC
    rw [g_x (by omega), g_x (by omega)]
    by_cases z : j = s
    · subst z; rw [up_s, if_pos rfl]
    · rw [g_o z, g_x (by omega), g_x (by omega), g_x (by omega), if_neg z]
  have z11 : ∀ j, adC h s (I a) (I b) (I c) (I d) 11 j = if j = s then I c else h 11 j := fun j => by
    unfold adC
    rw [g_x (by omega), g_x (by omega), g_x (by omega), g_x (by omega)]
    by_cases z : j = s
    · subst z; rw [up_s, if_pos rfl]
    · rw [g_o z, g_x (by omega), if_neg z]
  have z12 : ∀ j, adC h s (I a) (I b) (I c) (I d) 12 j = if j = s then I d else h 12 j := fun j => by
    unfold adC
    rw [g_x (by omega)]
    by_cases z : j = s
    · subst z; rw [up_s, if_pos rfl]
    · rw [g_o z, g_x (by omega), g_x (by omega), g_x (by omega), g_x (by omega), if_neg z]
  refine ⟨⟨by rw [u 7 (by omega) (by omega), o 2 (by omega) (by omega)]; exact b1, by rw [u 8 (by omega) (by omega), o 3 (by omega) (by omega)]; exact b2, by rw [u 9 (by omega) (by omega), o 4 (by omega) (by omega)]; exact b3, by rw [u 10 (by omega) (by omega), o 5 (by omega) (by omega)]; exact b4⟩, by rw [u 11 (by omega) (by omega), o 1 (by omega) (by omega)]; exact b5, ?_, by rw [u 13 (by omega) (by omega)]; exact b7, ?_, by rw [u 15 (by omega) (by omega)]; exact b9, fun w hw => ?_, fun q hq => ?_, fun q hq => ?_⟩
  · unfold adC
    rw [up_s, asR_0, I_nat, es]
    rfl
  · rw [asR_m p0.1, ns]
    unfold adC
    rw [g_o (by omega), g_x (by omega), g_x (by omega), up_s, b8, or_n]
  · rw [o 1 (by omega) (by omega)] at hw
    rw [o (8 + w) (by omega) (by omega), ← b10 w hw]
    unfold adC
    rw [g_x (by omega), g_x (by omega), g_x (by omega), g_x (by omega), g_x (by omega), g_x (by omega)]
  · rw [asR_nS p0.1, ns] at hq
    rw [z9, z10, z11, z12]
    by_cases z : q = s
    · have e14 := asR_14 (R := R) (a := a) (b := b) (c := c) (d := d)
      have e15 := asR_15 (R := R) (a := a) (b := b) (c := c) (d := d)
      have e16 := asR_16 (R := R) (a := a) (b := b) (c := c) (d := d)
      have e17 := asR_17 (R := R) (a := a) (b := b) (c := c) (d := d)
      rw [ts] at e14 e15 e16 e17
      rw [if_pos z, if_pos z, if_pos z, if_pos z, z, e14, e15, e16, e17]
      exact ⟨rfl, rfl, rfl, rfl⟩
    · rw [if_neg z, if_neg z, if_neg z, if_neg z, asR_ne (by omega) (by omega), asR_ne (by omega) (by omega), asR_ne (by omega) (by omega), asR_ne (by omega) (by omega)]
      exact b11 q (by omega)
  · unfold adC
    rw [g_x (by omega), g_x (by omega), g_x (by omega), g_x (by omega), g_x (by omega), g_x (by omega)]
    exact b12 q hq
end AS
