/-! ===== acts ===== -/
theorem nem (P : Prop) : ¬ P ∨ P := (Classical.em P).symm
theorem I_m1 : (-1 : Int32) = I (-1) := by decide
theorem I_s1 {z : Int} : I z - 1 = I (z + -1) := by rw [I_1, I_sub, Int.sub_eq_add_neg]
theorem I_a1 {z : Int} : I z + 1 = I (z + 1) := by rw [I_1, I_add]
theorem I_n1 {z : Int} : I z + -1 = I (z + -1) := by rw [I_m1, I_add]
theorem st_wake : St_wake RR := by
  intro h k a1 H
  have hz := H.mz
  rcases H.tld with ⟨c, -, -, -, -, -, -, m, -⟩ | ⟨R, c, m, T⟩
  · exact ⟨-1000002, h, Mz k, by simp only [fX6_wake, c, if_true], by simp only [fX7_wake, lk_e, Mz_e, m, bd_e, i00, if_true], hz⟩
  rcases nem ((0 : Int) ≤ a1.toInt ∧ a1.toInt ≤ 15) with q | q
  · exact ⟨-1000001, h, Mz k, by simp only [fX6_wake, c, i10, if_false, w6_f 0 15 q, bd_e, if_true], by simp only [fX7_wake, lk_e, Mz_e, m, bd_e, i10, if_false, L_wf 0 15 q, if_true], hz⟩
  obtain ⟨h1, k1, e1, e2, T1, K⟩ := hz.kept T
  have ea : a1 = I a1.toInt := I_of a1
  refine ⟨I (R 5), up2 h1 0 10 a1, up2 k1 250 5 a1, ?_, ?_, K _ _ (va_up R 5 a1.toInt) (fun i hi => up2_ne (by omega)) (fun i hi => up2_ne hi) ⟨T.W.hd (Or.inr (Or.inr ⟨rfl, q⟩)), ?_, ?_⟩⟩
  · simp only [fX6_wake, c, i10, if_false, w6_t 0 15 q, bd_e, lk_e, e1, T.C.2.2.2.2.1]
  · have r5 : k1 250 (5 : Int32).toNatClampNeg = I (R 5) := T1.M 5 (by omega)
    simp only [fX7_wake, lk_e, Mz_e, m, bd_e, i10, if_false, L_wd 0 15 q, e2, show inb (5 : Int32) (lenM 250) = true from rfl, chk_t, r5]
    rfl
  · have := T1.C.hd (v := a1.toInt) T.W (j := 5) (by omega)
    rwa [← ea] at this
  · have := T1.M.up (j := 5) (v := a1.toInt)
    rwa [← ea] at this
theorem step_t {R : Rw} {d : Int} {h k : Hp} (T : Tld h k R) (hd : d = 1 ∨ d = -1) : (I (R 4 + d)).toInt = R 4 + d := by
  have w := T.W.2.2.2.2.1
  have w2 := T.W.2.2.1
  exact I_toInt (by omega) (by omega)
def stC (v : Int32) (h : Hp) : Option (Int32 × Hp) := bd (fX2_isCell 0 v h) fun x24 hh25 => if x24 = 0 then some ((-1000002 : Int32), hh25) else bd (fX0_keep 0 hh25) fun _ hh35 => lk (up2 hh35 0 9 v) fun hh44 => some (v, hh44)
def stM (v : Int32) (k : Hp) : Option (Int32 × Hp) := bd (fX7_isCell v k) fun x42 kk43 => if x42 = 0 then some ((-1000002 : Int32), kk43) else bd (fX7_keep kk43) fun _ kk53 => chk (inb (4 : Int32) (lenM 250)) <| lk (up2 kk53 250 (4 : Int32).toNatClampNeg v) fun kk64 => some (v, kk64)
theorem step_0 {h k : Hp} {R : Rw} {a1 : Int32} (T : Tld h (Mz k) R) (c : h 0 6 = 1) (m : fX7_isThere (Mz k) = some (1, Mz k)) (q : (0 : Int) ≤ a1.toInt ∧ a1.toInt ≤ 1) (z : a1 = 0) : fX6_step a1 h = stC (I (R 4 + -1)) h ∧ fX7_step a1 k = stM (I (R 4 + -1)) (Mz k) := by
  have r4 : Mz k 250 (4 : Int32).toNatClampNeg = I (R 4) := T.M 4 (by omega)
  constructor
  · have e : h 0 9 - 1 = I (R 4 + -1) := by rw [T.C.2.2.2.1, I_s1]
    unfold fX6_step
    rw [c, if_neg (by decide), w6_t 0 1 q, bd_e, if_neg (by decide), jp_e, if_pos z, e]
    rfl
  · unfold fX7_step
    rw [lk_e, Mz_e, m, bd_e, if_neg (by decide), L_wd 0 1 q, bd_e, if_neg (by decide), show inb (4 : Int32) (lenM 250) = true from rfl, chk_t, jp_e, if_pos z, r4]
    dsimp only
    rw [I_n1, lk_e]
    rfl
theorem step_1 {h k : Hp} {R : Rw} {a1 : Int32} (T : Tld h (Mz k) R) (c : h 0 6 = 1) (m : fX7_isThere (Mz k) = some (1, Mz k)) (q : (0 : Int) ≤ a1.toInt ∧ a1.toInt ≤ 1) (z : ¬ a1 = 0) : fX6_step a1 h = stC (I (R 4 + 1)) h ∧ fX7_step a1 k = stM (I (R 4 + 1)) (Mz k) := by
  have r4 : Mz k 250 (4 : Int32).toNatClampNeg = I (R 4) := T.M 4 (by omega)
  constructor
  · have e : h 0 9 + 1 = I (R 4 + 1) := by rw [T.C.2.2.2.1, I_a1]
    unfold fX6_step
    rw [c, if_neg (by decide), w6_t 0 1 q, bd_e, if_neg (by decide), jp_e, if_neg z, e]
    rfl
  · unfold fX7_step
    rw [lk_e, Mz_e, m, bd_e, if_neg (by decide), L_wd 0 1 q, bd_e, if_neg (by decide), show inb (4 : Int32) (lenM 250) = true from rfl, chk_t, jp_e, if_neg z, r4]
    dsimp only
    rw [I_a1, lk_e]
    rfl
theorem step_2 {h k : Hp} {R : Rw} {v : Int} (H : RR h k) (T : Tld h k R) (hv : (I v).toInt = v) : ∃ r h1 k1, stC (I v) h = some (r, h1) ∧ stM (I v) k = some (r, k1) ∧ RR h1 k1 := by
  rcases T.cell (I v) with ⟨p1, p2, -⟩ | ⟨c4, p1, p2, p3, p4⟩
  · exact ⟨-1000002, h, k, by simp only [stC, p1, bd_e, if_true], by simp only [stM, p2, bd_e, if_true], H⟩
  obtain ⟨h1, k1, e1, e2, T1, K⟩ := H.kept T
  have w2 := T.W.2.2.1
  rw [p2, nI_toInt (by omega)] at hv
  have T2 : Tld (up2 h1 0 9 (I v)) (up2 k1 250 4 (I v)) (va_up R 4 v) := ⟨T.W.hd (Or.inr (Or.inl ⟨rfl, by omega⟩)), T1.C.hd T.W (j := 4) (by omega), T1.M.up⟩
  refine ⟨I v, up2 h1 0 9 (I v), up2 k1 250 4 (I v), ?_, ?_, K _ _ (va_up R 4 v) (fun i hi => up2_ne (by omega)) (fun i hi => up2_ne hi) T2⟩
  · simp only [stC, p3, bd_e, i10, if_false, e1, lk_e]
  · simp only [stM, p4, bd_e, i10, if_false, e2, lk_e, show inb (4 : Int32) (lenM 250) = true from rfl, chk_t]
    rfl
theorem st_step : St_step RR := by
  intro h k a1 H
  have hz := H.mz
  rcases H.tld with ⟨c, -, -, -, -, -, -, m, -⟩ | ⟨R, c, m, T⟩
  · exact ⟨-1000002, h, Mz k, by simp only [fX6_step, c, if_true], by simp only [fX7_step, lk_e, Mz_e, m, bd_e, i00, if_true], hz⟩
  rcases nem ((0 : Int) ≤ a1.toInt ∧ a1.toInt ≤ 1) with q | q
  · exact ⟨-1000001, h, Mz k, by simp only [fX6_step, c, i10, if_false, w6_f 0 1 q, bd_e, if_true], by simp only [fX7_step, lk_e, Mz_e, m, bd_e, i10, if_false, L_wf 0 1 q, if_true], hz⟩
  by_cases z : a1 = 0
  · obtain ⟨x, y⟩ := step_0 T c m q z
    rw [x, y]
    exact step_2 hz T (step_t T (by omega))
  · obtain ⟨x, y⟩ := step_1 T c m q z
    rw [x, y]
    exact step_2 hz T (step_t T (by omega))
/-- a wind -/
theorem WF.wd {B : Int} {R : Rw} (W : WF B R) {w : Nat} {v : Int} (hw : (w : Int) < R 1) (h1 : 0 ≤ v) (h2 : v ≤ 4) : WF B (va_up R (8 + w) v) := by
  have w1 := W.2.1
  refine W.mod (upR_ne (by omega)) (upR_ne (by omega)) (upR_ne (by omega)) (by rw [upR_ne (by omega)]; exact W.2.2.2.1) (by rw [upR_ne (by omega)]; exact W.2.2.2.2.1) (by rw [upR_ne (by omega)]; exact W.2.2.2.2.2.1) (upR_ne (by omega)) (upR_ne (by omega)) (fun x hx => ?_) (fun s hs => (sh W hs).cg (fun i hi => upR_ne (by omega))) (fun s hs => upR_ne (by omega))
  by_cases e : x = w
  · subst e; rw [upR_at]; exact ⟨h1, h2⟩
  · rw [upR_ne (by omega)]; exact W.2.2.2.2.2.2.2.2.1 x hx
theorem Rep.wd {B : Int} {h : Hp} {e w : Nat} {R : Rw} {v : Int} (W : WF B R) (H : Rep h e R) (hw : (w : Int) < R 1) : Rep (up2 h (e + 1) w (I v)) e (va_up R (8 + w) v) := by
  have w1 := W.2.1
  have o : ∀ i, i ≠ e + 1 → ∀ f, up2 h (e + 1) w (I v) i f = h i f := fun i q f => by rw [up2_at, if_neg (by omega)]
  have H2 := H
  obtain ⟨a6, a7, a8, a9, a10, a11, a12, a13, a14, a15, aw, as⟩ := H2
  refine H.mod (upR_ne (by omega)) (upR_ne (by omega)) (o _ (by omega) _) (by rw [o _ (by omega), upR_ne (by omega)]; exact a7) (by rw [o _ (by omega), upR_ne (by omega)]; exact a8) (by rw [o _ (by omega), upR_ne (by omega)]; exact a9) (by rw [o _ (by omega), upR_ne (by omega)]; exact a10) (o _ (by omega) _) (o _ (by omega) _) (by rw [o _ (by omega), upR_ne (by omega)]; exact a13) (by rw [o _ (by omega), msk_congr (upR_ne (by omega)) (fun s hs => upR_ne (by omega))]; exact a14) (by rw [o _ (by omega), upR_ne (by omega)]; exact a15) (fun x hx => ?_) (fun s hs => ?_)
  · by_cases q : x = w
    · subst q; rw [upR_at, up2_at, if_pos ⟨rfl, rfl⟩]
    · rw [upR_ne (by omega), up2_at, if_neg (by omega)]; exact aw x hx
  · obtain ⟨b1, b2, b3, b4, b5⟩ := as s hs
    exact ⟨by rw [o _ (by omega), upR_ne (by omega)]; exact b1, by rw [o _ (by omega), upR_ne (by omega)]; exact b2, by rw [o _ (by omega), upR_ne (by omega)]; exact b3, by rw [o _ (by omega), upR_ne (by omega)]; exact b4, by rw [o _ (by omega), upR_ne (by omega)]; exact b5⟩
theorem e8 {w : Nat} : (8 : Int32) + nI w = nI (8 + w) := by rw [show (8 : Int32) = nI 8 from rfl, nI_add]
theorem st_wind : St_wind RR := by
  intro h k a1 a2 H
  have hz := H.mz
  rcases H.wind a1 with ⟨p1, p2⟩ | ⟨R, w, hw, rfl, T, p1, p2⟩
  · exact ⟨-1000001, h, Mz k, by simp only [fX6_wind, p1, bd_e, if_true], by simp only [fX7_wind, lk_e, Mz_e, p2, bd_e, if_true], hz⟩
  rcases nem ((0 : Int) ≤ a2.toInt ∧ a2.toInt ≤ 4) with q | q
  · exact ⟨-1000001, h, Mz k, by simp only [fX6_wind, p1, i10, if_false, w6_f 0 4 q, bd_e, if_true], by simp only [fX7_wind, lk_e, Mz_e, p2, bd_e, i10, if_false, L_wf 0 4 q, if_true], hz⟩
  obtain ⟨h1, k1, e1, e2, T1, K⟩ := hz.kept T
  have ea : a2 = I a2.toInt := I_of a2
  have w6 := T.W.2.1
  have r1 : h 1 w = I (R (8 + w)) := T.C.2.2.2.2.2.2.2.2.2.2.1 w hw
  have r2 : k1 250 (8 + w) = I (R (8 + w)) := T1.M (8 + w) (by omega)
  have iw : inb (nI w) (lenC 1) = true := inb_n (n := 6) (by omega) (by omega)
  have cw := cl_n (show w < 2147483648 by omega)
  refine ⟨I (R (8 + w)), up2 h1 1 w a2, up2 k1 250 (8 + w) a2, ?_, ?_, K _ _ (va_up R (8 + w) a2.toInt) (fun i hi => up2_ne (by omega)) (fun i hi => up2_ne hi) ⟨T.W.wd hw q.1 q.2, ?_, ?_⟩⟩
  · simp only [fX6_wind, p1, i10, if_false, w6_t 0 4 q, bd_e, lk_e, e1, iw, chk_t, cw, r1]
  · simp only [fX7_wind, lk_e, Mz_e, p2, bd_e, i10, if_false, L_wd 0 4 q, e2, e8, ib50 (a := 250) (j := 8 + w) rfl (by omega), chk_t, cl_n (show 8 + w < 2147483648 by omega), r2]
  · have := T1.C.wd (v := a2.toInt) T.W hw
    rwa [← ea] at this
  · have := T1.M.up (j := 8 + w) (v := a2.toInt)
    rwa [← ea] at this
