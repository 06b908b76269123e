/-! ===== what is asked of: a sheet, a wind, a cell ===== -/
def inR (a : Int32) (n : Nat) : Bool := decide (0 ≤ a.toInt ∧ a.toInt < (n : Int))
def wi (a : Int32) (lo hi : Int) : Bool := decide (lo ≤ a.toInt ∧ a.toInt ≤ hi)
theorem w6 {a lo hi : Int32} {h : Hp} : fX6_isWithin a lo hi h = some (b32 (wi a lo.toInt hi.toInt), h) := by
  by_cases c : lo.toInt ≤ a.toInt ∧ a.toInt ≤ hi.toInt
  · rw [w6_t lo hi c, wi, decide_eq_true c]; rfl
  · rw [w6_f lo hi c, wi, decide_eq_false c]; rfl
theorem L_w2 {a : Int32} {l h : Int64} {k : Hp} : fX7_in a.toInt64 l h k = some (b32 (wi a l.toInt h.toInt), k) := by
  by_cases c : l.toInt ≤ a.toInt ∧ a.toInt ≤ h.toInt
  · rw [L_wd l h c, wi, decide_eq_true c]; rfl
  · rw [L_wf l h c, wi, decide_eq_false c]; rfl
theorem wi_t {a : Int32} {lo hi : Int} (c : lo ≤ a.toInt ∧ a.toInt ≤ hi) : wi a lo hi = true := decide_eq_true c
theorem wi_f {a : Int32} {lo hi : Int} (c : ¬ (lo ≤ a.toInt ∧ a.toInt ≤ hi)) : wi a lo hi = false := decide_eq_false c
theorem in_g {a : Int32} {n : Nat} (hn : n ≤ 100) {h : Hp} : (if a < 0 then some ((0 : Int32), h) else if nI n ≤ a then some ((0 : Int32), h) else some ((1 : Int32), h)) = some (b32 (inR a n), h) := by
  have z : (0 : Int32).toInt = 0 := rfl
  unfold inR
  by_cases c1 : a < 0
  · rw [if_pos c1]
    rw [t_lt] at c1
    rw [decide_eq_false (by omega)]; rfl
  · rw [if_neg c1]
    rw [t_lt] at c1
    by_cases c2 : nI n ≤ a
    · rw [if_pos c2]
      rw [t_le, nI_toInt (by omega)] at c2
      rw [decide_eq_false (by omega)]; rfl
    · rw [if_neg c2]
      rw [t_le, nI_toInt (by omega)] at c2
      rw [decide_eq_true (by omega)]; rfl
theorem in_m {a : Int32} {n : Nat} (hn : n ≤ 100) : wi a (0 : Int64).toInt ((nI n - 1).toInt64).toInt = inR a n := by
  have z : (0 : Int64).toInt = 0 := rfl
  have e : ((nI n - 1).toInt64).toInt = (n : Int) - 1 := by
    rw [L_w, show (1 : Int32) = nI 1 from rfl, pk_sub_toInt (by omega) (by omega)]
    rfl
  unfold wi inR
  rw [e, z]
  exact decide_eq_decide.mpr (by omega)
theorem c_sheet {h : Hp} {e n : Nat} {a : Int32} (hn : n ≤ 100) (h1 : h e 12 = nI n) : fX2_isSheet e a h = some (b32 (inR a n), h) := by unfold fX2_isSheet; rw [h1]; exact in_g hn
theorem c_wind {h : Hp} {e n : Nat} {a : Int32} (hn : n ≤ 100) (h1 : h e 11 = nI n) : fX2_isWind e a h = some (b32 (inR a n), h) := by unfold fX2_isWind; rw [h1]; exact in_g hn
theorem c_cell {h : Hp} {e n : Nat} {a : Int32} (hn : n ≤ 100) (h1 : h e 7 = nI n) : fX2_isCell e a h = some (b32 (inR a n), h) := by unfold fX2_isCell; rw [h1]; exact in_g hn
theorem m_sheet {k : Hp} {n : Nat} {a : Int32} (hn : n ≤ 100) (h1 : k 250 0 = nI n) : fX7_isSheet a k = some (b32 (inR a n), k) := by
  have e : k 250 (0 : Int32).toNatClampNeg = nI n := h1
  unfold fX7_isSheet
  rw [e, show inb (0 : Int32) (lenM 250) = true from lb0 (a := 250) rfl, chk_t, L_w2, in_m hn, bd_e, isB_b, chk_t]
theorem m_wind {k : Hp} {n : Nat} {a : Int32} (hn : n ≤ 100) (h1 : k 250 1 = nI n) : fX7_isWind a k = some (b32 (inR a n), k) := by
  have e : k 250 (1 : Int32).toNatClampNeg = nI n := h1
  unfold fX7_isWind
  rw [e, show inb (1 : Int32) (lenM 250) = true from lb1 (a := 250) rfl, chk_t, L_w2, in_m hn, bd_e, isB_b, chk_t]
theorem m_cell {k : Hp} {n : Nat} {a : Int32} (hn : n ≤ 100) (h1 : k 250 2 = nI n) : fX7_isCell a k = some (b32 (inR a n), k) := by
  have e : k 250 (2 : Int32).toNatClampNeg = nI n := h1
  unfold fX7_isCell
  rw [e, show inb (2 : Int32) (lenM 250) = true from lb2 (a := 250) rfl, chk_t, L_w2, in_m hn, bd_e, isB_b, chk_t]
def Mz (k : Hp) : Hp := up2 k 246 0 0
theorem Mz_e {k : Hp} : up2 k 246 0 0 = Mz k := rfl
/-- what both have, once an estuary is told -/
def Tld (h k : Hp) (R : Rw) : Prop := WF 999 R ∧ Rep h 0 R ∧ M0 k 250 R
theorem Tld.W {h k : Hp} {R : Rw} (T : Tld h k R) : WF 999 R := T.1
theorem Tld.C {h k : Hp} {R : Rw} (T : Tld h k R) : Rep h 0 R := T.2.1
theorem Tld.M {h k : Hp} {R : Rw} (T : Tld h k R) : M0 k 250 R := T.2.2
theorem Tld.n {h k : Hp} {R : Rw} (T : Tld h k R) : nS R ≤ 6 ∧ 1 ≤ nS R ∧ h 0 12 = nI (nS R) ∧ k 250 0 = nI (nS R) := ⟨(nS_le T.W).2.1, (nS_le T.W).1, R_n T.W T.C, M_n T.W T.M⟩
theorem Tld.w {h k : Hp} {R : Rw} (T : Tld h k R) : (R 1).toNat ≤ 6 ∧ h 0 11 = nI (R 1).toNat ∧ k 250 1 = nI (R 1).toNat := by
  have w := T.W.2.1
  refine ⟨by omega, ?_, ?_⟩
  · rw [T.C.2.2.2.2.2.1, I_n (by omega)]
  · rw [T.M 1 (by omega), I_n (by omega)]
theorem Tld.c {h k : Hp} {R : Rw} (T : Tld h k R) : (R 2).toNat ≤ 16 ∧ h 0 7 = nI (R 2).toNat ∧ k 250 2 = nI (R 2).toNat := by
  have w := T.W.2.2.1
  refine ⟨by omega, ?_, ?_⟩
  · rw [T.C.2.1, I_n (by omega)]
  · rw [T.M 2 (by omega), I_n (by omega)]
theorem RR.tld {h k : Hp} (H : RR h k) : (h 0 6 = 0 ∧ h 0 7 = 0 ∧ h 0 11 = 0 ∧ h 0 12 = 0 ∧ h 0 13 = 0 ∧ h 0 14 = 0 ∧ h 0 15 = 0 ∧ fX7_isThere (Mz k) = some (0, Mz k) ∧ ∀ j, j < 50 → Mz k 250 j = 0) ∨ (∃ R, h 0 6 = 1 ∧ fX7_isThere (Mz k) = some (1, Mz k) ∧ Tld h (Mz k) R) := by
  rcases H.told with ⟨a, b, c⟩ | ⟨R, a, b, W, C, M⟩
  · left
    refine ⟨a, c.2.1, c.2.2.1, c.2.2.2.1, c.2.2.2.2.1, c.2.2.2.2.2.1, c.2.2.2.2.2.2.1, b, fun j hj => ?_⟩
    unfold Mz
    rw [up2_at, if_neg (by omega)]
    exact c.2.2.2.2.2.2.2 j hj
  · exact Or.inr ⟨R, a, b, W, C, M⟩
theorem inR_0 {a : Int32} : inR a 0 = false := decide_eq_false (by omega)
theorem inR_t {a : Int32} {n : Nat} (hn : n ≤ 100) (h : inR a n = true) : ∃ s, s < n ∧ a = nI s := by
  have h := of_decide_eq_true h
  obtain ⟨r, h1, h2⟩ := rg (a := a) (n := n) (by omega) ⟨h.1, by omega⟩
  subst h2
  rw [nI_toInt (by omega)] at h
  exact ⟨r, by omega, rfl⟩
theorem RR.sheet {h k : Hp} (H : RR h k) (a : Int32) : (fX2_isSheet 0 a h = some (0, h) ∧ fX7_isSheet a (Mz k) = some (0, Mz k)) ∨ (∃ R s, s < nS R ∧ a = nI s ∧ Tld h (Mz k) R ∧ fX2_isSheet 0 a h = some (1, h) ∧ fX7_isSheet a (Mz k) = some (1, Mz k)) := by
  rcases H.tld with ⟨-, -, -, c, -, -, -, -, m⟩ | ⟨R, -, -, T⟩
  · left
    exact ⟨by rw [c_sheet (n := 0) (by omega) c, inR_0]; rfl, by rw [m_sheet (n := 0) (by omega) (m 0 (by omega)), inR_0]; rfl⟩
  · have n := T.n
    by_cases q : inR a (nS R) = true
    · right
      obtain ⟨s, h1, h2⟩ := inR_t (by omega) q
      exact ⟨R, s, h1, h2, T, by rw [c_sheet (by omega) n.2.2.1, q]; rfl, by rw [m_sheet (by omega) n.2.2.2, q]; rfl⟩
    · left
      have q : inR a (nS R) = false := by simpa using q
      exact ⟨by rw [c_sheet (by omega) n.2.2.1, q]; rfl, by rw [m_sheet (by omega) n.2.2.2, q]; rfl⟩
theorem RR.wind {h k : Hp} (H : RR h k) (a : Int32) : (fX2_isWind 0 a h = some (0, h) ∧ fX7_isWind a (Mz k) = some (0, Mz k)) ∨ (∃ (R : Rw) (s : Nat), (s : Int) < R 1 ∧ a = nI s ∧ Tld h (Mz k) R ∧ fX2_isWind 0 a h = some (1, h) ∧ fX7_isWind a (Mz k) = some (1, Mz k)) := by
  rcases H.tld with ⟨-, -, c, -, -, -, -, -, m⟩ | ⟨R, -, -, T⟩
  · left
    exact ⟨by rw [c_wind (n := 0) (by omega) c, inR_0]; rfl, by rw [m_wind (n := 0) (by omega) (m 1 (by omega)), inR_0]; rfl⟩
  · have n := T.w
    have w := T.W.2.1
    by_cases q : inR a (R 1).toNat = true
    · right
      obtain ⟨s, h1, h2⟩ := inR_t (by omega) q
      exact ⟨R, s, by omega, h2, T, by rw [c_wind (by omega) n.2.1, q]; rfl, by rw [m_wind (by omega) n.2.2, q]; rfl⟩
    · left
      have q : inR a (R 1).toNat = false := by simpa using q
      exact ⟨by rw [c_wind (by omega) n.2.1, q]; rfl, by rw [m_wind (by omega) n.2.2, q]; rfl⟩
theorem Tld.cell {h k : Hp} {R : Rw} (T : Tld h k R) (a : Int32) : (fX2_isCell 0 a h = some (0, h) ∧ fX7_isCell a k = some (0, k) ∧ ¬ (0 ≤ a.toInt ∧ a.toInt < R 2)) ∨ (∃ c : Nat, (c : Int) < R 2 ∧ a = nI c ∧ fX2_isCell 0 a h = some (1, h) ∧ fX7_isCell a k = some (1, k)) := by
  have n := T.c
  have w := T.W.2.2.1
  by_cases q : inR a (R 2).toNat = true
  · right
    obtain ⟨s, h1, h2⟩ := inR_t (by omega) q
    exact ⟨s, by omega, h2, by rw [c_cell (by omega) n.2.1, q]; rfl, by rw [m_cell (by omega) n.2.2, q]; rfl⟩
  · left
    have q : inR a (R 2).toNat = false := by simpa using q
    exact ⟨by rw [c_cell (by omega) n.2.1, q]; rfl, by rw [m_cell (by omega) n.2.2, q]; rfl, by have := of_decide_eq_false q; omega⟩
theorem RR.cell {h k : Hp} (H : RR h k) (a : Int32) : (fX2_isCell 0 a h = some (0, h) ∧ fX7_isCell a (Mz k) = some (0, Mz k)) ∨ (∃ (R : Rw) (c : Nat), (c : Int) < R 2 ∧ a = nI c ∧ Tld h (Mz k) R ∧ fX2_isCell 0 a h = some (1, h) ∧ fX7_isCell a (Mz k) = some (1, Mz k)) := by
  rcases H.tld with ⟨-, c, -, -, -, -, -, -, m⟩ | ⟨R, -, -, T⟩
  · left
    exact ⟨by rw [c_cell (n := 0) (by omega) c, inR_0]; rfl, by rw [m_cell (n := 0) (by omega) (m 2 (by omega)), inR_0]; rfl⟩
  · rcases T.cell a with ⟨p, q, -⟩ | ⟨c, p1, p2, p3, p4⟩
    · exact Or.inl ⟨p, q⟩
    · exact Or.inr ⟨R, c, p1, p2, T, p3, p4⟩
theorem RR.mz {h k : Hp} (H : RR h k) : RR h (Mz k) := H.bad
/-- an act is kept, and then the estuary changes -/
theorem RR.kept {h k : Hp} {R : Rw} (H : RR h k) (T : Tld h k R) : ∃ h1 k1, fX0_keep 0 h = some ((), h1) ∧ fX7_keep k = some ((), k1) ∧ Tld h1 k1 R ∧ ∀ h2 k2 R2, off7 h1 h2 0 → offA k1 k2 250 → Tld h2 k2 R2 → RR h2 k2 := by
  obtain ⟨h1, k1, a, b, c, d, e⟩ := b_keep H.2.2.2.2.1 T.W T.C (MR_0.mpr T.M)
  refine ⟨h1, k1, a, b, ⟨T.W, T.C.cg (fun i j _ q => d i j (by omega) (by omega)), fun j hj => ?_⟩, fun h2 k2 R2 p q T2 => H.act d e c p q T2.W T2.C T2.M⟩
  rw [e _ _ (by omega) (by omega)]
  exact T.M j hj
theorem WF.mod {B : Int} {R R1 : Rw} (W : WF B R) (e0 : R1 0 = R 0) (e1 : R1 1 = R 1) (e2 : R1 2 = R 2) (e3 : 0 ≤ R1 3 ∧ R1 3 < R 2) (e4 : 0 ≤ R1 4 ∧ R1 4 < R 2) (e5 : 0 ≤ R1 5 ∧ R1 5 ≤ 15) (e6 : R1 6 = R 6) (e7 : R1 7 = R 7) (e8 : ∀ w : Nat, (w : Int) < R 1 → 0 ≤ R1 (8 + w) ∧ R1 (8 + w) ≤ 4) (e9 : ∀ s, s < nS R → ShOk R1 s) (e10 : ∀ s, s < nS R → R1 (18 + 6 * s) = R (18 + 6 * s)) : WF B R1 := by
  obtain ⟨w0, w1, w2, w3, w4, w5, w6, w7, w8, w9⟩ := W
  have en : nS R1 = nS R := by unfold nS; rw [e0]
  exact ⟨by rw [e0]; exact w0, by rw [e1]; exact w1, by rw [e2]; exact w2, by rw [e2]; exact e3, by rw [e2]; exact e4, e5, by rw [e6]; exact w6, by rw [e7, en, numU_congr e10]; exact w7, by rw [e1]; exact e8, by rw [en]; exact e9⟩
theorem ShOk.cg {R R1 : Rw} {s : Nat} (H : ShOk R s) (h : ∀ j, 14 ≤ j → R1 j = R j) : ShOk R1 s := by
  unfold ShOk at H ⊢
  rw [h _ (by omega), h _ (by omega), h _ (by omega), h _ (by omega), h _ (by omega), h _ (by omega)]
  exact H
/-- a head field: 3, 4 or 5 -/
theorem WF.hd {B : Int} {R : Rw} (W : WF B R) {j : Nat} {v : Int} (hj : (j = 3 ∧ 0 ≤ v ∧ v < R 2) ∨ (j = 4 ∧ 0 ≤ v ∧ v < R 2) ∨ (j = 5 ∧ 0 ≤ v ∧ v ≤ 15)) : WF B (va_up R j v) := by
  have w3 := W.2.2.2.1
  have w4 := W.2.2.2.2.1
  have w5 := W.2.2.2.2.2.1
  refine W.mod (upR_ne (by omega)) (upR_ne (by omega)) (upR_ne (by omega)) ?_ ?_ ?_ (upR_ne (by omega)) (upR_ne (by omega)) (fun w hw => by rw [upR_ne (by omega)]; exact W.2.2.2.2.2.2.2.2.1 w hw) (fun s hs => (sh W hs).cg (fun i hi => upR_ne (by omega))) (fun s hs => upR_ne (by omega))
  · rcases hj with ⟨rfl, q⟩ | ⟨rfl, q⟩ | ⟨rfl, q⟩
    · rw [upR_at]; exact q
    · rw [upR_ne (by omega)]; exact w3
    · rw [upR_ne (by omega)]; exact w3
  · rcases hj with ⟨rfl, q⟩ | ⟨rfl, q⟩ | ⟨rfl, q⟩
    · rw [upR_ne (by omega)]; exact w4
    · rw [upR_at]; exact q
    · rw [upR_ne (by omega)]; exact w4
  · rcases hj with ⟨rfl, q⟩ | ⟨rfl, q⟩ | ⟨rfl, q⟩
    · rw [upR_ne (by omega)]; exact w5
    · rw [upR_ne (by omega)]; exact w5
    · rw [upR_at]; exact q
theorem Rep.hd {B : Int} {h : Hp} {e : Nat} {R : Rw} {j : Nat} {v : Int} (W : WF B R) (H : Rep h e R) (hj : j = 3 ∨ j = 4 ∨ j = 5) : Rep (up2 h e (j + 5) (I v)) e (va_up R j v) := by
  have w := W.2.1
  have g : ∀ f, f ≠ j + 5 → up2 h e (j + 5) (I v) e f = h e f := fun f q => by rw [up2_at, if_neg (by omega)]
  have o : ∀ i, i ≠ e → ∀ f, up2 h e (j + 5) (I v) i f = h i f := fun i q f => by rw [up2_at, if_neg (by omega)]
  have gv : up2 h e (j + 5) (I v) e (j + 5) = I v := by rw [up2_at, if_pos ⟨rfl, rfl⟩]
  have H2 := H
  obtain ⟨a6, a7, a8, a9, a10, a11, a12, a13, a14, a15, aw, as⟩ := H2
  refine H.mod (upR_ne (by omega)) (upR_ne (by omega)) (g 6 (by omega)) (by rw [g 7 (by omega), upR_ne (by omega)]; exact a7) ?_ ?_ ?_ (g 11 (by omega)) (g 12 (by omega)) (by rw [g 13 (by omega), upR_ne (by omega)]; exact a13) (by rw [g 14 (by omega), msk_congr (upR_ne (by omega)) (fun s hs => upR_ne (by omega))]; exact a14) (by rw [g 15 (by omega), upR_ne (by omega)]; exact a15) (fun w hw => by rw [o _ (by omega), upR_ne (by omega)]; exact aw w hw) (fun s hs => ?_)
  · rcases hj with rfl | rfl | rfl
    · rw [upR_at]; exact gv
    · rw [upR_ne (by omega), g 8 (by omega)]; exact a8
    · rw [upR_ne (by omega), g 8 (by omega)]; exact a8
  · rcases hj with rfl | rfl | rfl
    · rw [upR_ne (by omega), g 9 (by omega)]; exact a9
    · rw [upR_at]; exact gv
    · rw [upR_ne (by omega), g 9 (by omega)]; exact a9
  · rcases hj with rfl | rfl | rfl
    · rw [upR_ne (by omega), g 10 (by omega)]; exact a10
    · rw [upR_ne (by omega), g 10 (by omega)]; exact a10
    · rw [upR_at]; exact gv
  · obtain ⟨b1, b2, b3, b4, b5⟩ := as s hs
    exact ⟨by rw [o _ (by omega), upR_ne (by omega)]; exact b1, by rw [o _ (by omega), upR_ne (by omega)]; exact b2, by rw [o _ (by omega), upR_ne (by omega)]; exact b3, by rw [o _ (by omega), upR_ne (by omega)]; exact b4, by rw [o _ (by omega), upR_ne (by omega)]; exact b5⟩
