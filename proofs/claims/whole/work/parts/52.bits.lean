/-! ===== masks, counts ===== -/
theorem acc_t {f : Nat → Bool} {s : Nat} (hf : f s = true) (hs : s < 31) : nI (bs f s) ||| shlI 1 (nI s) = nI (bs f (s + 1)) := by
  rw [shl_n hs, or_n, ← bs_or, if_pos hf]
theorem acc_f {f : Nat → Bool} {s : Nat} (hf : ¬ f s = true) : nI (bs f s) ||| 0 = nI (bs f (s + 1)) := by
  rw [show (0 : Int32) = nI 0 from rfl, or_n, ← bs_or, if_neg hf]
def cnt (f : Nat → Bool) : Nat → Nat
  | 0 => 0
  | n + 1 => cnt f n + (if f n = true then 1 else 0)
theorem cnt_le (f : Nat → Bool) : ∀ n, cnt f n ≤ n
  | 0 => Nat.le_refl _
  | n + 1 => by have := cnt_le f n; unfold cnt; split <;> omega
theorem cnt_congr {f g : Nat → Bool} : ∀ {n : Nat}, (∀ i, i < n → f i = g i) → cnt f n = cnt g n
  | 0, _ => rfl
  | n + 1, h => by unfold cnt; rw [cnt_congr (fun i hi => h i (by omega)), h n (by omega)]
theorem cnt_cut {f : Nat → Bool} {n : Nat} : ∀ {m : Nat}, n ≤ m → cnt (fun i => decide (i < n) && f i) m = cnt f n
  | 0, h => by
    have : n = 0 := by omega
    subst this; rfl
  | m + 1, h => by
    by_cases e : n = m + 1
    · subst e
      exact cnt_congr (fun i hi => by rw [decide_eq_true hi, Bool.true_and])
    · have u : cnt (fun i => decide (i < n) && f i) (m + 1) = cnt (fun i => decide (i < n) && f i) m + (if (decide (m < n) && f m) = true then 1 else 0) := rfl
      rw [u, cnt_cut (by omega), decide_eq_false (by omega), Bool.false_and, if_neg (by decide)]
      rfl
theorem cnt_bs {f : Nat → Bool} {n : Nat} (hn : n ≤ 6) : cnt (bs f n).testBit 6 = cnt f n := by
  rw [cnt_congr (g := fun i => decide (i < n) && f i) (fun i _ => bs_bit f n i), cnt_cut hn]
def nmB (R : Rw) (s : Nat) : Bool := decide (R (18 + 6 * s) ≠ 0)
def inB (R : Rw) (s : Nat) : Bool := decide (R (19 + 6 * s) = 1)
theorem numU_cnt (R : Rw) : ∀ n, numU R n = cnt (nmB R) n
  | 0 => rfl
  | n + 1 => by
    unfold numU cnt
    rw [numU_cnt R n]
    by_cases h : R (18 + 6 * n) = 0
    · rw [if_pos h, if_neg]
      unfold nmB; simp [h]
    · rw [if_neg h, if_pos]
      unfold nmB; simp [h]
theorem bs64 (f : Nat → Bool) {n : Nat} (hn : n ≤ 6) : bs f n < 64 := Nat.lt_of_lt_of_le (bs_lt f n) (Nat.pow_le_pow_right (n := 2) (by omega) hn)
theorem m_bitsL {m : Nat} {k : Hp} (hm : m < 64) : ∀ (n i : Nat), i ≤ 6 → 6 < n + i → fX7_bits_L4 n (nI m) (nI (cnt m.testBit i)) (nI i) k = some (nI (cnt m.testBit 6), k) := by
  intro n
  induction n with
  | zero => intro i h1 h2; omega
  | succ n ih =>
    intro i h1 h2
    rw [fX7_bits_L4]
    by_cases e : i = 6
    · subst e; rw [if_pos (by rw [t_le]; decide)]
    · rw [if_neg (by rw [t_le, nI_toInt (by omega)]; show ¬ (6 : Int) ≤ _; omega), bit_n (by omega) (by omega), lk_e, lk_e, nI_1]
      have e2 : nI (cnt m.testBit i) + b32 (m.testBit i) = nI (cnt m.testBit (i + 1)) := by
        have u : cnt m.testBit (i + 1) = cnt m.testBit i + (if m.testBit i = true then 1 else 0) := rfl
        rw [u]
        cases m.testBit i
        · rw [b32_f, show (0 : Int32) = nI 0 from rfl, nI_add]; rfl
        · rw [b32_t, nI_1]; rfl
      rw [e2]
      exact ih (i + 1) (by omega) (by omega)
theorem m_bits {m : Nat} {k : Hp} (hm : m < 64) : fX7_bits (nI m) k = some (nI (cnt m.testBit 6), k) := by
  have e := m_bitsL (k := k) hm 4096 0 (by omega) (by omega)
  rw [nI_0] at e
  exact e
def bcJ (a1 : Int32) : Int32 :=
  lk (a1 - ((ushrI a1 (1 : Int32)) &&& (1431655765 : Int32))) fun x1 =>
  lk ((x1 &&& (858993459 : Int32)) + ((ushrI x1 (2 : Int32)) &&& (858993459 : Int32))) fun x5 =>
  lk ((x5 + (ushrI x5 (4 : Int32))) &&& (252645135 : Int32)) fun x9 =>
  lk (x9 + (ushrI x9 (8 : Int32))) fun x13 =>
  lk (x13 + (ushrI x13 (16 : Int32))) fun x17 => x17 &&& (63 : Int32)
theorem bcJ_e {a : Int32} {h : Hp} : fJ6_bitCount a h = some (bcJ a, h) := rfl
theorem bcJ_n : ∀ m, m < 64 → bcJ (nI m) = nI (cnt m.testBit 6) := by decide +kernel
theorem c_bits {m : Nat} {h : Hp} (hm : m < 64) : fJ6_bitCount (nI m) h = some (nI (cnt m.testBit 6), h) := by rw [bcJ_e, bcJ_n m hm]
theorem m_insL {B : Int} {R : Rw} {a : Nat} {k : Hp} (W : WF B R) (ha : is50 a) (H : M0 k a R) : ∀ (n s : Nat), s ≤ nS R → nS R < n + s → fX7_ins_L4 n a (nI (bs (inB R) s)) (nI s) k = some (nI (bs (inB R) (nS R)), k) := by
  intro n
  induction n with
  | zero => intro s h1 h2; omega
  | succ n ih =>
    intro s h1 h2
    have h6 := nS_le W
    rw [fX7_ins_L4, lb0 ha, chk_t, M_n W H]
    by_cases e : s = nS R
    · subst e; rw [if_pos (by rw [t_le]; exact Int.le_refl _)]
    · rw [if_neg (by rw [t_le, nI_toInt (by omega), nI_toInt (by omega)]; omega), m_isIn W ha H (by omega), bd_e, jp_e, if_b]
      by_cases q : inB R s = true
      · rw [if_pos (show decide (R (19 + 6 * s) = 1) = true from q)]
        dsimp only
        rw [acc_t q (by omega), lk_e, lk_e, nI_1]
        exact ih (s + 1) (by omega) (by omega)
      · rw [if_neg (show ¬ decide (R (19 + 6 * s) = 1) = true from q)]
        dsimp only
        rw [acc_f q, lk_e, lk_e, nI_1]
        exact ih (s + 1) (by omega) (by omega)
theorem msk_bs (R : Rw) : msk R = bs (inB R) (nS R) := mskU_bs R _
theorem m_ins {B : Int} {R : Rw} {a : Nat} {k : Hp} (W : WF B R) (ha : is50 a) (H : M0 k a R) : fX7_ins a k = some (nI (msk R), k) := by
  have h6 := nS_le W
  have e := m_insL W ha H 4096 0 (by omega) (by omega)
  rw [nI_0] at e
  rw [msk_bs]
  exact e
theorem m_numL {B : Int} {R : Rw} {a : Nat} {k : Hp} (W : WF B R) (ha : is50 a) (H : M0 k a R) : ∀ (n s : Nat), s ≤ nS R → nS R < n + s → fX7_numbered_L4 n a (nI (bs (nmB R) s)) (nI s) k = some (nI (bs (nmB R) (nS R)), k) := by
  intro n
  induction n with
  | zero => intro s h1 h2; omega
  | succ n ih =>
    intro s h1 h2
    have h6 := nS_le W
    rw [fX7_numbered_L4, lb0 ha, chk_t, M_n W H]
    by_cases e : s = nS R
    · subst e; rw [if_pos (by rw [t_le]; exact Int.le_refl _)]
    · have k5 := (sh W (show s < nS R by omega)).2.2.2.2.1
      have m4 := m_of (k := k) (s := s) 4 ha H (by omega)
      rw [show 14 + 6 * s + 4 = 18 + 6 * s by omega] at m4
      rw [if_neg (by rw [t_le, nI_toInt (by omega), nI_toInt (by omega)]; omega), show (4 : Int32) = nI 4 from rfl, m4, bd_e, jp_e]
      by_cases q : R (18 + 6 * s) = 0
      · have q2 : ¬ nmB R s = true := by unfold nmB; simp [q]
        rw [if_pos (by rw [q]; decide)]
        dsimp only
        rw [acc_f q2, lk_e, lk_e, nI_1]
        exact ih (s + 1) (by omega) (by omega)
      · have q2 : nmB R s = true := by unfold nmB; simp [q]
        rw [if_neg (by rw [t_le, I_toInt (by omega) (by omega)]; show ¬ _ ≤ (0 : Int); omega)]
        dsimp only
        rw [acc_t q2 (by omega), lk_e, lk_e, nI_1]
        exact ih (s + 1) (by omega) (by omega)
theorem m_num {B : Int} {R : Rw} {a : Nat} {k : Hp} (W : WF B R) (ha : is50 a) (H : M0 k a R) : fX7_numbered a k = some (nI (bs (nmB R) (nS R)), k) := by
  have h6 := nS_le W
  have e := m_numL W ha H 4096 0 (by omega) (by omega)
  rw [nI_0] at e
  exact e
theorem m_cnt {B : Int} {R : Rw} {k : Hp} (W : WF B R) : fX7_bits (nI (bs (nmB R) (nS R))) k = some (I (R 7), k) := by
  have h6 := nS_le W
  rw [m_bits (bs64 _ (by omega)), cnt_bs (by omega), ← numU_cnt, W.2.2.2.2.2.2.2.1, I_nat]
theorem c_numL {B : Int} {R : Rw} {e : Nat} {h : Hp} (W : WF B R) (he : isE e) (H : Rep h e R) : ∀ (n s : Nat), s ≤ nS R → nS R < n + s → fX2_withNumber_L4 n e (nI (bs (nmB R) s)) (nI s) h = some (nI (bs (nmB R) (nS R)), h) := by
  intro n
  induction n with
  | zero => intro s h1 h2; omega
  | succ n ih =>
    intro s h1 h2
    have h6 := nS_le W
    rw [fX2_withNumber_L4, R_n W H]
    by_cases e1 : s = nS R
    · subst e1; rw [if_pos (by rw [t_le]; exact Int.le_refl _)]
    · have k5 := (sh W (show s < nS R by omega)).2.2.2.2.1
      have r := (H.2.2.2.2.2.2.2.2.2.2.2 s (by omega)).2.2.2.2
      rw [if_neg (by rw [t_le, nI_toInt (by omega), nI_toInt (by omega)]; omega), len_E6 he, inb_n (by omega) (by omega), chk_t, jp_e, cl_n (by omega), r]
      by_cases q : R (18 + 6 * s) = 0
      · have q2 : ¬ nmB R s = true := by unfold nmB; simp [q]
        rw [if_pos (by rw [q]; decide)]
        dsimp only
        rw [acc_f q2, lk_e, lk_e, nI_1]
        exact ih (s + 1) (by omega) (by omega)
      · have q2 : nmB R s = true := by unfold nmB; simp [q]
        rw [if_neg (by rw [show (0 : Int32) = I 0 from rfl, I_eq (by omega) (by omega) (by omega) (by omega)]; exact q)]
        dsimp only
        rw [acc_t q2 (by omega), lk_e, lk_e, nI_1]
        exact ih (s + 1) (by omega) (by omega)
theorem c_num {B : Int} {R : Rw} {e : Nat} {h : Hp} (W : WF B R) (he : isE e) (H : Rep h e R) : fX2_withNumber e h = some (nI (bs (nmB R) (nS R)), h) := by
  have h6 := nS_le W
  have e1 := c_numL W he H 4096 0 (by omega) (by omega)
  rw [nI_0] at e1
  exact e1
def onB (R : Rw) (c : Int) (s : Nat) : Bool := lie R s c
theorem c_onL {B c : Int} {R : Rw} {e : Nat} {h : Hp} (W : WF B R) (he : isE e) (H : Rep h e R) (q1 : -1000 ≤ c) (q2 : c ≤ 1000) : ∀ (n s : Nat), s ≤ nS R → nS R < n + s → fX2_sheetsOn_L4 n e (I c) (nI (bs (onB R c) s)) (nI s) h = some (nI (bs (onB R c) (nS R)), h) := by
  intro n
  induction n with
  | zero => intro s h1 h2; omega
  | succ n ih =>
    intro s h1 h2
    have h6 := nS_le W
    rw [fX2_sheetsOn_L4, R_n W H]
    by_cases e1 : s = nS R
    · subst e1; rw [if_pos (by rw [t_le]; exact Int.le_refl _)]
    · rw [if_neg (by rw [t_le, nI_toInt (by omega), nI_toInt (by omega)]; omega), c_lie W he H (by omega) q1 q2, bd_e, jp_e, if_b]
      by_cases q : lie R s c = true
      · rw [if_pos q]
        dsimp only
        rw [acc_t (f := onB R c) q (by omega), lk_e, lk_e, nI_1]
        exact ih (s + 1) (by omega) (by omega)
      · rw [if_neg q]
        dsimp only
        rw [acc_f (f := onB R c) q, lk_e, lk_e, nI_1]
        exact ih (s + 1) (by omega) (by omega)
theorem c_on {B c : Int} {R : Rw} {e : Nat} {h : Hp} (W : WF B R) (he : isE e) (H : Rep h e R) (q1 : -1000 ≤ c) (q2 : c ≤ 1000) : fX2_sheetsOn e (I c) h = some (nI (bs (onB R c) (nS R)), h) := by
  have h6 := nS_le W
  have e1 := c_onL W he H q1 q2 4096 0 (by omega) (by omega)
  rw [nI_0] at e1
  exact e1
/-- cells under a sheet -/
def unB (R : Rw) (s c : Nat) : Bool := lie R s (c : Int)
theorem R_c {B : Int} {R : Rw} {h : Hp} {e : Nat} (W : WF B R) (H : Rep h e R) : h e 7 = nI (R 2).toNat := by
  have w := W.2.2.1
  rw [H.2.1, I_n (by omega)]
theorem c_unL {B : Int} {R : Rw} {e s : Nat} {h : Hp} (W : WF B R) (he : isE e) (H : Rep h e R) (hs : s < nS R) : ∀ (n c : Nat), c ≤ (R 2).toNat → (R 2).toNat < n + c → fX2_cellsUnder_L4 n e (nI s) (nI (bs (unB R s) c)) (nI c) h = some (nI (bs (unB R s) (R 2).toNat), h) := by
  intro n
  induction n with
  | zero => intro c h1 h2; omega
  | succ n ih =>
    intro c h1 h2
    have w := W.2.2.1
    rw [fX2_cellsUnder_L4, R_c W H]
    by_cases e1 : c = (R 2).toNat
    · subst e1; rw [if_pos (by rw [t_le]; exact Int.le_refl _)]
    · have l := c_lie (c := (c : Int)) W he H hs (by omega) (by omega)
      rw [← I_nat] at l
      rw [if_neg (by rw [t_le, nI_toInt (by omega), nI_toInt (by omega)]; omega), l, bd_e, jp_e, if_b]
      by_cases q : lie R s (c : Int) = true
      · rw [if_pos q]
        dsimp only
        rw [acc_t (f := unB R s) q (by omega), lk_e, lk_e, nI_1]
        exact ih (c + 1) (by omega) (by omega)
      · rw [if_neg q]
        dsimp only
        rw [acc_f (f := unB R s) q, lk_e, lk_e, nI_1]
        exact ih (c + 1) (by omega) (by omega)
theorem c_un {B : Int} {R : Rw} {e s : Nat} {h : Hp} (W : WF B R) (he : isE e) (H : Rep h e R) (hs : s < nS R) : fX2_cellsUnder e (nI s) h = some (nI (bs (unB R s) (R 2).toNat), h) := by
  have w := W.2.2.1
  have e1 := c_unL W he H hs 4096 0 (by omega) (by omega)
  rw [nI_0] at e1
  exact e1
theorem m_un {B : Int} {a s : Nat} {R : Rw} {k : Hp} (W : WF B R) (ha : is50 a) (H : M0 k a R) (hs : s < nS R) : fX7_liesOn a (nI s) k = some (nI (bs (unB R s) (R 2).toNat), k) := m_lie W ha H hs
/-- thickness over a cell -/
def ovU (R : Rw) (c : Int) : Nat → Int
  | 0 => 0
  | s + 1 => ovU R c s + (if lie R s c = true then R (17 + 6 * s) else 0)
def ov (R : Rw) (c : Int) : Int := ovU R c (nS R)
theorem ovU_b {B : Int} {R : Rw} {c : Int} (W : WF B R) : ∀ n, n ≤ nS R → 0 ≤ ovU R c n ∧ ovU R c n ≤ 9 * n
  | 0, _ => by unfold ovU; omega
  | n + 1, h => by
    have i := ovU_b (c := c) W n (by omega)
    have k := (sh W (show n < nS R by omega)).2.2.2.1
    unfold ovU
    split <;> omega
theorem c_ovL {B c : Int} {R : Rw} {e : Nat} {h : Hp} (W : WF B R) (he : isE e) (H : Rep h e R) (q1 : -1000 ≤ c) (q2 : c ≤ 1000) : ∀ (n s : Nat), s ≤ nS R → nS R < n + s → fX2_thicknessOver_L4 n e (I c) (I (ovU R c s)) (nI s) h = some (I (ov R c), h) := by
  intro n
  induction n with
  | zero => intro s h1 h2; omega
  | succ n ih =>
    intro s h1 h2
    have h6 := nS_le W
    rw [fX2_thicknessOver_L4, R_n W H]
    by_cases e1 : s = nS R
    · subst e1; rw [if_pos (by rw [t_le]; exact Int.le_refl _)]; rfl
    · have r := (H.2.2.2.2.2.2.2.2.2.2.2 s (by omega)).2.2.2.1
      rw [if_neg (by rw [t_le, nI_toInt (by omega), nI_toInt (by omega)]; omega), c_lie W he H (by omega) q1 q2, bd_e, jp_e, if_b]
      by_cases q : lie R s c = true
      · have u : ovU R c (s + 1) = ovU R c s + R (17 + 6 * s) := by show _ + _ = _; rw [if_pos q]
        rw [if_pos q, len_E5 he, inb_n (by omega) (by omega), chk_t, cl_n (by omega), r]
        dsimp only
        rw [I_add, lk_e, lk_e, nI_1, ← u]
        exact ih (s + 1) (by omega) (by omega)
      · have u : ovU R c (s + 1) = ovU R c s + 0 := by show _ + _ = _; rw [if_neg q]
        rw [if_neg q]
        dsimp only
        rw [I_0, I_add, lk_e, lk_e, nI_1, ← u]
        exact ih (s + 1) (by omega) (by omega)
theorem c_ov {B c : Int} {R : Rw} {e : Nat} {h : Hp} (W : WF B R) (he : isE e) (H : Rep h e R) (q1 : -1000 ≤ c) (q2 : c ≤ 1000) : fX2_thicknessOver e (I c) h = some (I (ov R c), h) := by
  have h6 := nS_le W
  have e1 := c_ovL W he H q1 q2 4096 0 (by omega) (by omega)
  rw [nI_0] at e1
  exact e1
theorem m_ovL {B : Int} {R : Rw} {a c : Nat} {k : Hp} (W : WF B R) (ha : is50 a) (H : M0 k a R) (hc : (c : Int) < R 2) : ∀ (n s : Nat), s ≤ nS R → nS R < n + s → fX7_overOf_L4 n a (nI c) (I (ovU R c s)) (nI s) k = some (I (ov R c), k) := by
  intro n
  induction n with
  | zero => intro s h1 h2; omega
  | succ n ih =>
    intro s h1 h2
    have h6 := nS_le W
    rw [fX7_overOf_L4, lb0 ha, chk_t, M_n W H]
    by_cases e1 : s = nS R
    · subst e1; rw [if_pos (by rw [t_le]; exact Int.le_refl _)]; rfl
    · have m3 := m_of (k := k) (s := s) 3 ha H (by omega)
      rw [show 14 + 6 * s + 3 = 17 + 6 * s by omega] at m3
      rw [if_neg (by rw [t_le, nI_toInt (by omega), nI_toInt (by omega)]; omega), m_lie W ha H (by omega), bd_e, m_on W hc, bd_e, jp_e, if_b]
      by_cases q : lie R s (c : Int) = true
      · have u : ovU R c (s + 1) = ovU R c s + R (17 + 6 * s) := by show _ + _ = _; rw [if_pos q]
        rw [if_pos q, show (3 : Int32) = nI 3 from rfl, m3, bd_e]
        dsimp only
        rw [I_add, lk_e, lk_e, nI_1, ← u]
        exact ih (s + 1) (by omega) (by omega)
      · have u : ovU R c (s + 1) = ovU R c s + 0 := by show _ + _ = _; rw [if_neg q]
        rw [if_neg q]
        dsimp only
        rw [I_0, I_add, lk_e, lk_e, nI_1, ← u]
        exact ih (s + 1) (by omega) (by omega)
theorem m_ov {B : Int} {R : Rw} {a c : Nat} {k : Hp} (W : WF B R) (ha : is50 a) (H : M0 k a R) (hc : (c : Int) < R 2) : fX7_overOf a (nI c) k = some (I (ov R c), k) := by
  have h6 := nS_le W
  have e1 := m_ovL W ha H hc 4096 0 (by omega) (by omega)
  rw [nI_0] at e1
  exact e1
theorem m_onL {B : Int} {R : Rw} {c : Nat} {a2 : Int32} {k : Hp} {K : Int32 → Hp → Option (Int32 × Hp)} (W : WF B R) (H : M0 k 250 R) (hc : (c : Int) < R 2) : ∀ (n s : Nat), s ≤ nS R → nS R < n + s → fX7_cell_L33 K n (nI c) a2 (nI (bs (onB R c) s)) (nI s) k = K (nI (bs (onB R c) (nS R))) k := by
  intro n
  induction n with
  | zero => intro s h1 h2; omega
  | succ n ih =>
    intro s h1 h2
    have h6 := nS_le W
    have ha : is50 250 := rfl
    rw [fX7_cell_L33, lb0 ha, chk_t, M_n W H]
    by_cases e1 : s = nS R
    · subst e1; rw [if_pos (by rw [t_le]; exact Int.le_refl _)]
    · rw [if_neg (by rw [t_le, nI_toInt (by omega), nI_toInt (by omega)]; omega), m_lie W ha H (by omega), bd_e, m_on W hc, bd_e, jp_e, if_b]
      by_cases q : lie R s (c : Int) = true
      · rw [if_pos q]
        dsimp only
        rw [acc_t (f := onB R c) q (by omega), lk_e, lk_e, nI_1]
        exact ih (s + 1) (by omega) (by omega)
      · rw [if_neg q]
        dsimp only
        rw [acc_f (f := onB R c) q, lk_e, lk_e, nI_1]
        exact ih (s + 1) (by omega) (by omega)
