theorem WF.rb {B B' : Int} {R : Rw} (W : WF B R) (h : R 6 ≤ B') : WF B' R := ⟨W.1, W.2.1, W.2.2.1, W.2.2.2.1, W.2.2.2.2.1, W.2.2.2.2.2.1, ⟨W.2.2.2.2.2.2.1.1, h⟩, W.2.2.2.2.2.2.2⟩
theorem hours_L {K : Hp → Option (Int32 × Hp)} {t : Nat} (ht : t ≤ 24) : ∀ (n j : Nat) (h k : Hp) (R : Rw), RR h k → Tld h k R → j ≤ t → t < n + j → R 6 + ((t : Int) - j) ≤ 999 → ∃ h1 k1 R1, fX6_hours_L46 n (nI t) (nI j) h = some (h1 0 15, h1) ∧ fX7_hours_L50 K n (nI t) (nI j) k = K k1 ∧ RR h1 k1 ∧ Tld h1 k1 R1 := by
  intro n
  induction n with
  | zero => intro j h k R _ _ h1 h2; omega
  | succ n ih =>
    intro j h k R H T h1 h2 h3
    rw [fX6_hours_L46, fX7_hours_L50]
    by_cases e : j = t
    · subst e
      rw [if_pos (by rw [t_le]; exact Int.le_refl _), if_pos (by rw [t_le]; exact Int.le_refl _)]
      exact ⟨h, k, R, rfl, rfl, H, T⟩
    · have w6 := T.W.2.2.2.2.2.2.1
      rw [if_neg (by rw [t_le, nI_toInt (by omega), nI_toInt (by omega)]; omega), if_neg (by rw [t_le, nI_toInt (by omega), nI_toInt (by omega)]; omega)]
      obtain ⟨h1', k1', e1, e2, T1, KK⟩ := H.kept T
      obtain ⟨h2', f1, f2, f3⟩ := c_hour T1.W (by omega) e0E T1.C
      obtain ⟨k2', g1, g2, g3⟩ := m_hour T1.W (by omega) a250 T1.M
      rw [e1, bd_e, f1, bd_e, lk_e, e2, bd_e, g1, bd_e, lk_e, nI_1]
      have W2 : WF 999 (hr R) := (WF_hr T.W).rb (by rw [hr_6]; omega)
      have T2 : Tld h2' k2' (hr R) := ⟨W2, f2, g2⟩
      exact ih (j + 1) h2' k2' (hr R) (KK _ _ _ f3 g3 T2) T2 (by omega) (by omega) (by rw [hr_6]; omega)
theorem st_hours : St_hours RR := by
  intro h k a1 H
  have hz := H.mz
  rcases H.tld with ⟨c, -, -, -, -, -, -, m, -⟩ | ⟨R, c, m, T⟩
  · exact ⟨-1000002, h, Mz k, by simp only [fX6_hours, c, if_true], by simp only [fX7_hours, lk_e, Mz_e, m, bd_e, i00, if_true], hz⟩
  rcases nem ((1 : Int) ≤ a1.toInt ∧ a1.toInt ≤ 24) with q | q
  · exact ⟨-1000001, h, Mz k, by simp only [fX6_hours, c, i10, if_false, w6_f 1 24 q, bd_e, if_true], by simp only [fX7_hours, lk_e, Mz_e, m, bd_e, i10, if_false, L_wf 1 24 q, if_true], hz⟩
  obtain ⟨t, ht, rfl⟩ := rg (a := a1) (n := 24) (by omega) ⟨by omega, q.2⟩
  have w6 := T.W.2.2.2.2.2.2.1
  have eC : fX6_hours (nI t) h = if I (R 6 + t) ≤ (999 : Int32) then fX6_hours_L46 4096 (nI t) (0 : Int32) h else some ((-1000003 : Int32), h) := by
    unfold fX6_hours
    rw [c, if_neg (by decide), w6_t 1 24 q, bd_e, if_neg (by decide), T.C.2.2.2.2.2.2.2.1, I_nat t, I_add]
  have eM : fX7_hours (nI t) k = if I (R 6 + t) ≤ (999 : Int32) then fX7_hours_L50 (fun kk56 => bd (fX7_numbered 250 kk56) fun x64 kk65 => bd (fX7_bits x64 kk65) fun x72 kk73 => some (x72, kk73)) 4096 (nI t) (0 : Int32) (Mz k) else some ((-1000003 : Int32), Mz k) := by
    have r6 : Mz k 250 (6 : Int32).toNatClampNeg = I (R 6) := T.M 6 (by omega)
    unfold fX7_hours
    rw [lk_e, Mz_e, m, bd_e, if_neg (by decide), L_wd 1 24 q, bd_e, if_neg (by decide), lb6 a250, chk_t, r6, I_nat t, I_add]
  rw [eC, eM, show (999 : Int32) = I 999 from rfl]
  by_cases z : R 6 + t ≤ 999
  · rw [if_pos ((I_le (by omega) (by omega) (by omega) (by omega)).mpr z), if_pos ((I_le (by omega) (by omega) (by omega) (by omega)).mpr z)]
    obtain ⟨h1, k1, R1, f1, f2, f3, f4⟩ := hours_L (K := fun kk56 => bd (fX7_numbered 250 kk56) fun x64 kk65 => bd (fX7_bits x64 kk65) fun x72 kk73 => some (x72, kk73)) ht 4096 0 h (Mz k) R hz T (by omega) (by omega) (by omega)
    rw [nI_0] at f1 f2
    rw [f1, f2]
    refine ⟨I (R1 7), h1, k1, ?_, ?_, f3⟩
    · rw [f4.C.2.2.2.2.2.2.2.2.2.1]
    · rw [m_num f4.W a250 f4.M, bd_e, m_cnt f4.W, bd_e]
  · rw [if_neg (fun q => z ((I_le (by omega) (by omega) (by omega) (by omega)).mp q)), if_neg (fun q => z ((I_le (by omega) (by omega) (by omega) (by omega)).mp q))]
    exact ⟨_, h, Mz k, rfl, rfl, hz⟩
/-! copies of fifty -/
def cp5 (k : Hp) (d o a b m : Nat) : Hp := fun i j => if i = d ∧ o ≤ j ∧ j < o + m then k a (b + (j - o)) else k i j
theorem cp5_0 {k : Hp} {d o a b : Nat} : cp5 k d o a b 0 = k := by
  funext i j
  unfold cp5
  rw [if_neg (by omega)]
theorem cp5_o {k : Hp} {d o a b m i : Nat} (h : i ≠ d) : cp5 k d o a b m i = k i := by
  funext j
  unfold cp5
  rw [if_neg (by omega)]
theorem cp5_s {k : Hp} {d o a b m : Nat} (h : a ≠ d) : up2 (cp5 k d o a b m) d (o + m) (cp5 k d o a b m a (b + m)) = cp5 k d o a b (m + 1) := by
  rw [cp5_o h]
  funext i j
  rw [up2_at]
  unfold cp5
  by_cases q : i = d ∧ j = o + m
  · rw [if_pos q, if_pos (by omega)]
    congr 1
    omega
  · rw [if_neg q]
    by_cases q2 : i = d ∧ o ≤ j ∧ j < o + m
    · rw [if_pos q2, if_pos (by omega)]
    · rw [if_neg q2, if_neg (by omega)]
theorem cp5_r {k : Hp} {d o a b j : Nat} (h : j < 50) : cp5 k d o a b 50 d (o + j) = k a (b + j) := by
  unfold cp5
  rw [if_pos (by omega), Nat.add_sub_cancel_left]
theorem cp5_l {k : Hp} {d o a b j : Nat} (h : ¬ (o ≤ j ∧ j < o + 50)) : cp5 k d o a b 50 d j = k d j := by
  unfold cp5
  rw [if_neg (by omega)]
theorem e50 {c m : Nat} : (50 : Int32) * nI c + nI m = nI (50 * c + m) := by rw [show (50 : Int32) = nI 50 from rfl, pk_mul, nI_add]
theorem undo_L {k : Hp} {c : Nat} (hc : c ≤ 23) (h9 : k 246 9 = nI c) : ∀ (n m : Nat), m ≤ 50 → 50 < n + m → fX7_undo_L27 n (nI m) (cp5 k 250 0 253 (50 * c) m) = some (nI c, cp5 k 250 0 253 (50 * c) 50) := by
  intro n
  induction n with
  | zero => intro m h1 h2; omega
  | succ n ih =>
    intro m h1 h2
    have k9 : cp5 k 250 0 253 (50 * c) m 246 9 = nI c := by rw [cp5_o (by omega)]; exact h9
    rw [fX7_undo_L27, k9, e50]
    by_cases e : m = 50
    · subst e
      rw [if_pos (by rw [t_le]; decide)]
    · rw [if_neg (by rw [t_le, nI_toInt (by omega)]; show ¬ (50 : Int) ≤ _; omega), show inb (nI (50 * c + m)) (lenM 253) = true from inb_n (n := 1200) (by omega) (by omega), chk_t, ib50 a250 (by omega), chk_t, lk_e, lk_e, nI_1, cl_n (by omega), cl_n (by omega)]
      have s := cp5_s (k := k) (d := 250) (o := 0) (a := 253) (b := 50 * c) (m := m) (by omega)
      rw [Nat.zero_add] at s
      rw [s]
      exact ih (m + 1) (by omega) (by omega)
theorem lay_L {k : Hp} : ∀ (n m : Nat), m ≤ 50 → 50 < n + m → fX7_layThen_L2 n (nI m) (cp5 k 252 0 250 0 m) = some ((), cp5 k 252 0 250 0 50) := by
  intro n
  induction n with
  | zero => intro m h1 h2; omega
  | succ n ih =>
    intro m h1 h2
    rw [fX7_layThen_L2]
    by_cases e : m = 50
    · subst e
      rw [if_pos (by rw [t_le]; decide)]
    · rw [if_neg (by rw [t_le, nI_toInt (by omega)]; show ¬ (50 : Int) ≤ _; omega), ib50 a250 (by omega), chk_t, ib50 a252 (by omega), chk_t, lk_e, lk_e, nI_1, cl_n (by omega)]
      have s := cp5_s (k := k) (d := 252) (o := 0) (a := 250) (b := 0) (m := m) (by omega)
      rw [Nat.zero_add] at s
      rw [s]
      exact ih (m + 1) (by omega) (by omega)
theorem m_lay {k : Hp} : fX7_layThen k = some ((), cp5 k 252 0 250 0 50) := by
  have e := lay_L (k := k) 4096 0 (by omega) (by omega)
  rw [cp5_0, nI_0] at e
  exact e
theorem image_L {k : Hp} {c : Nat} (hc : c ≤ 1) : ∀ (n m : Nat), m ≤ 50 → 50 < n + m → fX7_image_L30 n (nI c) (nI m) (cp5 k 257 (50 * c) 250 0 m) = some (1, up2 (cp5 k 257 (50 * c) 250 0 50) 256 c 1) := by
  intro n
  induction n with
  | zero => intro m h1 h2; omega
  | succ n ih =>
    intro m h1 h2
    rw [fX7_image_L30, e50]
    by_cases e : m = 50
    · subst e
      rw [if_pos (by rw [t_le]; decide), inb_n (by omega) (by omega), chk_t, lk_e, cl_n (by omega)]
    · rw [if_neg (by rw [t_le, nI_toInt (by omega)]; show ¬ (50 : Int) ≤ _; omega), ib50 a250 (by omega), chk_t, show inb (nI (50 * c + m)) (lenM 257) = true from inb_n (n := 100) (by omega) (by omega), chk_t, lk_e, lk_e, nI_1, cl_n (by omega), cl_n (by omega)]
      have s := cp5_s (k := k) (d := 257) (o := 50 * c) (a := 250) (b := 0) (m := m) (by omega)
      rw [Nat.zero_add] at s
      rw [s]
      exact ih (m + 1) (by omega) (by omega)
theorem rest_L {k : Hp} {c : Nat} (hc : c ≤ 1) : ∀ (n m : Nat), m ≤ 50 → 50 < n + m → fX7_restore_L32 n (nI c) (nI m) (cp5 k 250 0 257 (50 * c) m) = some (1, up2 (cp5 k 250 0 257 (50 * c) 50) 246 9 0) := by
  intro n
  induction n with
  | zero => intro m h1 h2; omega
  | succ n ih =>
    intro m h1 h2
    rw [fX7_restore_L32, e50]
    by_cases e : m = 50
    · subst e
      rw [if_pos (by rw [t_le]; decide), lk_e]
    · rw [if_neg (by rw [t_le, nI_toInt (by omega)]; show ¬ (50 : Int) ≤ _; omega), show inb (nI (50 * c + m)) (lenM 257) = true from inb_n (n := 100) (by omega) (by omega), chk_t, ib50 a250 (by omega), chk_t, lk_e, lk_e, nI_1, cl_n (by omega), cl_n (by omega)]
      have s := cp5_s (k := k) (d := 250) (o := 0) (a := 257) (b := 50 * c) (m := m) (by omega)
      rw [Nat.zero_add] at s
      rw [s]
      exact ih (m + 1) (by omega) (by omega)
theorem up3_0 {j : Nat} {h : Hp} {i : Nat} {v : Int32} {a : Nat} (q : a ≠ i) : up2 h i j v a = h a := up2_ne q
theorem st_image : St_image RR := by
  intro h k a1 H
  have hz := H.mz
  rcases nem ((0 : Int) ≤ a1.toInt ∧ a1.toInt ≤ 1) with q | q
  · exact ⟨-1000001, h, Mz k, by simp only [fX6_image, w6_f 0 1 q, bd_e, if_true], by simp only [fX7_image, lk_e, Mz_e, L_wf 0 1 q, bd_e, if_true], hz⟩
  obtain ⟨i, hi, rfl⟩ := rg (a := a1) (n := 1) (by omega) ⟨by omega, q.2⟩
  rcases H.tld with ⟨c, -, -, -, -, -, -, m, -⟩ | ⟨R, c, m, T⟩
  · exact ⟨-1000002, h, Mz k, by simp only [fX6_image, w6_t 0 1 q, bd_e, i10, if_false, c, if_true], by simp only [fX7_image, lk_e, Mz_e, L_wd 0 1 q, i10, if_false, m, bd_e, i00, if_true], hz⟩
  obtain ⟨h1, f1, f2, f3⟩ := c_bec (h := h) (e := 21 + 7 * i) (o := 0) ⟨by omega, by omega⟩ e0E (by omega) T.W T.C
  have eC : fX6_image (nI i) h = some (1, h1) := by
    unfold fX6_image
    rw [w6_t 0 1 q, bd_e, if_neg (by decide), c, if_neg (by decide), inb_n (by omega) (by omega), chk_t, cl_n (by omega), f1, bd_e]
  have eM : fX7_image (nI i) k = some (1, up2 (cp5 (Mz k) 257 (50 * i) 250 0 50) 256 i 1) := by
    have e := image_L (k := Mz k) hi 4096 0 (by omega) (by omega)
    rw [cp5_0, nI_0] at e
    unfold fX7_image
    rw [lk_e, Mz_e, L_wd 0 1 q, bd_e, if_neg (by decide), m, bd_e, if_neg (by decide)]
    exact e
  refine ⟨1, h1, _, eC, eM, ?_⟩
  have cc : ∀ a j, ¬ (21 + 7 * i ≤ a ∧ a < 28 + 7 * i) → h1 a j = h a j := fun a j hq => by rw [f3 a (by omega)]
  have mm : ∀ a j, a ≠ 257 → a ≠ 256 → up2 (cp5 (Mz k) 257 (50 * i) 250 0 50) 256 i 1 a j = Mz k a j := fun a j q1 q2 => by rw [up2_ne q2, cp5_o q1]
  refine hz.mk3 (fun a j hq => cc a j (by omega)) (cc _ _ (by omega)) (fun j => cc _ _ (by omega)) (fun j => cc _ _ (by omega)) (fun j _ => mm _ _ (by omega) (by omega)) (fun a j hq => mm _ _ (by omega) (by omega)) ?_ ?_ (fun x hx => ?_)
  · right
    exact ⟨R, T.W, T.C.cg (fun a j q1 q2 => cc a j (by omega)), fun j hj => by rw [mm _ _ (by omega) (by omega)]; exact MR_0.mpr T.M j hj⟩
  · exact hz.2.2.2.2.1.cg2 (fun a j q1 q2 => cc a j (by omega)) (fun j => cc _ _ (by omega)) (mm _ _ (by omega) (by omega)) (fun j => mm _ _ (by omega) (by omega))
  · by_cases e : x = i
    · subst e
      right
      refine ⟨by rw [up2_at, if_pos ⟨rfl, rfl⟩], R, T.W, f2, fun j hj => ?_⟩
      rw [up2_ne (by omega), cp5_r hj, Nat.zero_add]
      exact T.M j hj
    · have g : up2 (cp5 (Mz k) 257 (50 * i) 250 0 50) 256 i 1 256 x = Mz k 256 x := by rw [up2_at, if_neg (by omega), cp5_o (by omega)]
      rcases hz.2.2.2.2.2.1 x hx with ⟨a, b⟩ | ⟨a, b⟩
      · exact Or.inl ⟨(cc _ _ (by omega)).trans a, g.trans b⟩
      · refine Or.inr ⟨g.trans a, b.cg (fun u j q1 q2 => cc u j (by omega)) (fun j hj => ?_)⟩
        rw [up2_ne (by omega), cp5_l (by omega)]
theorem st_restore : St_restore RR := by
  intro h k a1 H
  have hz := H.mz
  rcases nem ((0 : Int) ≤ a1.toInt ∧ a1.toInt ≤ 1) with q | q
  · exact ⟨-1000001, h, Mz k, by simp only [fX6_restore, w6_f 0 1 q, bd_e, if_true], by simp only [fX7_restore, lk_e, Mz_e, L_wf 0 1 q, bd_e, if_true], hz⟩
  obtain ⟨i, hi, rfl⟩ := rg (a := a1) (n := 1) (by omega) ⟨by omega, q.2⟩
  have ib : inb (nI i) 2 = true := inb_n (by omega) (by omega)
  have ci := cl_n (show i < 2147483648 by omega)
  rcases hz.2.2.2.2.2.1 i (by omega) with ⟨a, b⟩ | ⟨a, R, W, C, M⟩
  · refine ⟨-1000002, h, Mz k, ?_, ?_, hz⟩
    · unfold fX6_restore
      rw [w6_t 0 1 q, bd_e, if_neg (by decide), ib, chk_t, ci, a, if_pos rfl]
    · unfold fX7_restore
      rw [lk_e, Mz_e, L_wd 0 1 q, bd_e, if_neg (by decide), ib, chk_t, ci, b, if_pos rfl]
  obtain ⟨h1, f1, f2, f3⟩ := c_bec (h := h) (e := 0) (o := 21 + 7 * i) e0E ⟨by omega, by omega⟩ (by omega) W C
  have eC : fX6_restore (nI i) h = some (1, up2 h1 207 2 0) := by
    unfold fX6_restore
    rw [w6_t 0 1 q, bd_e, if_neg (by decide), ib, chk_t, ci, C.1, if_neg (by decide), chk_t, f1, bd_e]
    rfl
  have eM : fX7_restore (nI i) k = some (1, up2 (cp5 (Mz k) 250 0 257 (50 * i) 50) 246 9 0) := by
    have e := rest_L (k := Mz k) hi 4096 0 (by omega) (by omega)
    rw [cp5_0, nI_0] at e
    unfold fX7_restore
    rw [lk_e, Mz_e, L_wd 0 1 q, bd_e, if_neg (by decide), ib, chk_t, ci, a, if_neg (by decide)]
    exact e
  refine ⟨1, _, _, eC, eM, ?_⟩
  have cc : ∀ a j, 7 ≤ a → ¬ (a = 207 ∧ j = 2) → up2 h1 207 2 0 a j = h a j := fun a j hq hr => by rw [up2_at, if_neg hr, f3 a (by omega)]
  have mm : ∀ a j, a ≠ 250 → ¬ (a = 246 ∧ j = 9) → up2 (cp5 (Mz k) 250 0 257 (50 * i) 50) 246 9 0 a j = Mz k a j := fun a j q1 q2 => by rw [up2_at, if_neg q2, cp5_o q1]
  refine hz.mk3 (fun a j hq => cc a j (by omega) (by omega)) (cc _ _ (by omega) (by omega)) (fun j => cc _ _ (by omega) (by omega)) (fun j => cc _ _ (by omega) (by omega)) (fun j _ => mm _ _ (by omega) (by omega)) (fun a j hq => mm _ _ (by omega) (by omega)) ?_ ?_ (fun x hx => ?_)
  · right
    refine ⟨R, W, f2.cg (fun a j q1 q2 => by rw [up2_ne (by omega)]), fun j hj => ?_⟩
    rw [up2_ne (by omega), cp5_r hj]
    exact M j hj
  · obtain ⟨n, N, a1, a2, a3, a4, a5, a6⟩ := hz.2.2.2.2.1
    exact ⟨0, N, by omega, a2, by rw [up2_at, if_pos ⟨rfl, rfl⟩]; rfl, by rw [cc _ _ (by omega) (by omega)]; exact a4, by rw [up2_at, if_pos ⟨rfl, rfl⟩]; rfl, fun j hj => absurd hj (by omega)⟩
  · exact (hz.2.2.2.2.2.1 x hx).cg2 hx (fun a j q1 q2 => cc a j (by omega) (by omega)) (fun j => mm _ _ (by omega) (by omega)) (fun j => mm _ _ (by omega) (by omega))
theorem st_undo : St_undo RR := by
  intro h k H
  have hz := H.mz
  obtain ⟨n, N, a1, a2, a3, a4, a5, a6⟩ := hz.2.2.2.2.1
  by_cases z : n = 0
  · subst z
    exact ⟨-1000002, h, Mz k, by unfold fX6_undo; rw [a3, nI_0, if_pos rfl], by unfold fX7_undo; rw [lk_e, Mz_e, a5, nI_0, if_pos rfl], hz⟩
  obtain ⟨R, W, C, M⟩ := a6 (n - 1) (by omega)
  rw [show (N + 24 - n + (n - 1)) % 24 = (N + 23) % 24 by omega] at C
  have nz : ¬ nI n = (0 : Int32) := fun q => by have := (nI_eq (b := 0) (by omega) (by omega)).mp q; omega
  have C1 : Rep (up2 (up2 h 207 1 (nI ((N + 23) % 24))) 207 2 (nI (n - 1))) (35 + 7 * ((N + 23) % 24)) R := C.cg (fun i j q1 q2 => by rw [up2_ne (by omega), up2_ne (by omega)])
  obtain ⟨h1, f1, f2, f3⟩ := c_bec (e := 0) e0E ⟨by omega, by omega⟩ (by omega) W C1
  have g1 : h1 207 1 = nI ((N + 23) % 24) := by rw [f3 207 (by omega), up2_at, if_neg (by omega), up2_at, if_pos ⟨rfl, rfl⟩]
  have g2 : h1 207 2 = nI (n - 1) := by rw [f3 207 (by omega), up2_at, if_pos ⟨rfl, rfl⟩]
  have eC : fX6_undo h = some (nI (n - 1), h1) := by
    have r1 : up2 h 207 1 (nI ((N + 23) % 24)) 207 2 = nI n := by rw [up2_at, if_neg (by omega)]; exact a3
    have r2 : up2 (up2 h 207 1 (nI ((N + 23) % 24))) 207 2 (nI (n - 1)) 207 1 = nI ((N + 23) % 24) := by rw [up2_at, if_neg (by omega), up2_at, if_pos ⟨rfl, rfl⟩]
    unfold fX6_undo fX0_takeBack
    rw [a3, if_neg nz, a4, mod24b a2, lk_e, r1, show (1 : Int32) = nI 1 from rfl, pk_sub (by omega), lk_e, r2, inb_n (by omega) (by omega), chk_t, cl_n (by omega), f1, bd_e, bd_e, g2]
  have k9 : up2 (Mz k) 246 9 (nI (n - 1)) 246 9 = nI (n - 1) := by rw [up2_at, if_pos ⟨rfl, rfl⟩]
  have eM : fX7_undo k = some (nI (n - 1), cp5 (up2 (Mz k) 246 9 (nI (n - 1))) 250 0 253 (50 * (n - 1)) 50) := by
    have e := undo_L (c := n - 1) (by omega) k9 4096 0 (by omega) (by omega)
    rw [cp5_0, nI_0] at e
    unfold fX7_undo
    rw [lk_e, Mz_e, a5, if_neg nz, show (1 : Int32) = nI 1 from rfl, pk_sub (by omega), lk_e]
    exact e
  refine ⟨_, _, _, eC, eM, ?_⟩
  have cc : ∀ a j, 7 ≤ a → a ≠ 207 → h1 a j = h a j := fun a j hq hr => by rw [f3 a (by omega), up2_ne hr, up2_ne hr]
  have mm : ∀ a j, a ≠ 250 → ¬ (a = 246 ∧ j = 9) → cp5 (up2 (Mz k) 246 9 (nI (n - 1))) 250 0 253 (50 * (n - 1)) 50 a j = Mz k a j := fun a j q1 q2 => by rw [cp5_o q1, up2_at, if_neg q2]
  refine hz.mk3 (fun a j hq => cc a j (by omega) (by omega)) (cc _ _ (by omega) (by omega)) (fun j => cc _ _ (by omega) (by omega)) (fun j => cc _ _ (by omega) (by omega)) (fun j _ => mm _ _ (by omega) (by omega)) (fun a j hq => mm _ _ (by omega) (by omega)) ?_ ?_ (fun x hx => ?_)
  · right
    refine ⟨R, W, f2, fun j hj => ?_⟩
    rw [cp5_r hj, up2_ne (by omega)]
    exact M j hj
  · refine ⟨n - 1, (N + 23) % 24, by omega, by omega, g2, g1, by rw [cp5_o (by omega)]; exact k9, fun j hj => ?_⟩
    have := a6 j (by omega)
    rw [show (N + 24 - n + j) % 24 = ((N + 23) % 24 + 24 - (n - 1) + j) % 24 by omega] at this
    exact this.cg (fun a y q1 q2 => cc a y (by omega) (by omega)) (fun y hy => mm _ _ (by omega) (by omega))
  · exact (hz.2.2.2.2.2.1 x hx).cg2 hx (fun a j q1 q2 => cc a j (by omega) (by omega)) (fun j => mm _ _ (by omega) (by omega)) (fun j => mm _ _ (by omega) (by omega))
