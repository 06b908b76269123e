/-! ===== meet, overlap, count ===== -/
theorem meet_L {B : Int} {R : Rw} {s : Nat} (W : WF B R) (hB : B + 21 ≤ 5000) (hs : s < nS R) : ∀ (n j : Nat) (v : Int32) (h k : Hp), j ≤ 21 → 21 < n + j → Rep h 14 (hrN R j) → M0 k 252 (hrN R j) → h 0 7 = I (R 2) → k 250 2 = I (R 2) → ∃ r h1 k1, fX3_firstMeeting_L18 n 0 (nI s) v (nI j) h = some (r, h1) ∧ fX7_meet_L31 n (nI s) v (nI j) k = some (r, k1) ∧ off7 h h1 14 ∧ offA k k1 252 := by
  intro n
  induction n with
  | zero => intro j v h k h1 h2; omega
  | succ n ih =>
    intro j v h k h1 h2 H M e7 e2
    have hs2 : s < nS (hrN R j) := by rw [nS_hrN]; exact hs
    rw [fX3_firstMeeting_L18, fX7_meet_L31]
    by_cases e : j = 21
    · subst e
      rw [if_pos (by rw [t_lt]; decide), if_pos (by rw [t_lt]; decide)]
      exact ⟨_, h, k, rfl, rfl, off7.rf, offA.rf⟩
    · have n20 : ¬ (20 : Int32) < nI j := by rw [t_lt, nI_toInt (by omega)]; show ¬ (20 : Int) < _; omega
      rw [if_neg n20, if_neg n20, c_un (WF_hrN W j) e14E H hs2, m_un (WF_hrN W j) a252 M hs2, bd_e, bd_e]
      by_cases q : nI (bs (unB (hrN R j) s) (hrN R j 2).toNat) &&& v = 0
      · rw [if_pos q, if_pos q]
        obtain ⟨h1', f1, f2, f3⟩ := c_hour (WF_hrN W j) (by omega) e14E H
        obtain ⟨k1', g1, g2, g3⟩ := m_hour (WF_hrN W j) (by omega) a252 M
        rw [lb2 a250, chk_t, lk_e, lk_e, lk_e, f1, bd_e, g1, bd_e, lk_e, lk_e, nI_1, e7, show k 250 (2 : Int32).toNatClampNeg = I (R 2) from e2, ← Int32.or_assoc]
        obtain ⟨r, h2', k2', x1, x2, x3, x4⟩ := ih (j + 1) ((v ||| shlI v 1 ||| shrI v 1) &&& (shlI 1 (I (R 2)) - 1)) h1' k1' (by omega) (by omega) f2 g2 (by rw [f3 0 (by omega)]; exact e7) (by rw [g3 250 (by omega)]; exact e2)
        exact ⟨r, h2', k2', x1, x2, f3.tr x3, g3.tr x4⟩
      · rw [if_neg q, if_neg q]
        exact ⟨_, h, k, rfl, rfl, off7.rf, offA.rf⟩
theorem st_meet : St_meet RR := by
  intro h k a1 H
  have hz := H.mz
  rcases H.sheet a1 with ⟨p1, p2⟩ | ⟨R, s, hs, rfl, T, p1, p2⟩
  · exact ⟨-1000001, h, Mz k, by simp only [fX6_meet, p1, bd_e, if_true], by simp only [fX7_meet, lk_e, Mz_e, p2, bd_e, if_true], hz⟩
  obtain ⟨h1, b1, b2, b3⟩ := c_then T.W T.C
  obtain ⟨k1, l1, l2, l3⟩ := m_then T.M
  have r9 : h1 0 9 = I (R 4) := by rw [b3 0 (by omega)]; exact T.C.2.2.2.1
  have r7 : h1 0 7 = I (R 2) := by rw [b3 0 (by omega)]; exact T.C.2.1
  have q2 : k1 250 2 = I (R 2) := by rw [l3 250 (by omega)]; exact T.M 2 (by omega)
  have q4 : k1 250 (4 : Int32).toNatClampNeg = I (R 4) := by rw [l3 250 (by omega)]; exact T.M 4 (by omega)
  obtain ⟨r, h2, k2, x1, x2, x3, x4⟩ := meet_L T.W (by omega) hs 4096 0 (shlI 1 (I (R 4))) h1 k1 (by omega) (by omega) b2 l2 r7 q2
  rw [nI_0] at x1 x2
  refine ⟨r, h2, k2, ?_, ?_, hz.qy (b3.tr x3) (l3.tr x4)⟩
  · unfold fX6_meet fX3_firstMeeting
    rw [p1, bd_e, if_neg (by decide), b1, bd_e, lk_e, r9, x1, bd_e]
  · unfold fX7_meet
    rw [lk_e, Mz_e, p2, bd_e, if_neg (by decide), l1, bd_e, show inb (4 : Int32) (lenM 250) = true from rfl, chk_t, lk_e, q4, x2]
theorem ovl_in {B B' : Int} {R Q : Rw} {h k : Hp} {i : Nat} {KC : Hp → Option (Int32 × Hp)} {K1 : Hp → Option (Int32 × Hp)} {K2 : Int32 → Int32 → Int32 → Hp → Option (Int32 × Hp)} {v1 v2 : Int32} (W : WF B R) (WQ : WF B' Q) (nQ : nS Q = nS R) (HC : Rep h 14 Q) (HM : M0 k 252 Q) (HM2 : M0 k 250 R) (hi : i < nS R) : ∀ (n j : Nat), j ≤ nS R → nS R < n + j → (∃ j', j' < nS R ∧ fX2_overlappingPair_L20 KC n 14 (nI i) (nI (bs (unB Q i) (Q 2).toNat)) (nI j) h = some ((10 : Int32) * nI i + nI j', h) ∧ fX7_overlap_L57 K1 K2 n v1 v2 (nI i) (nI j) k = K2 v2 (nI i) (nI j') k) ∨ (fX2_overlappingPair_L20 KC n 14 (nI i) (nI (bs (unB Q i) (Q 2).toNat)) (nI j) h = KC h ∧ fX7_overlap_L57 K1 K2 n v1 v2 (nI i) (nI j) k = K1 k) := by
  intro n
  induction n with
  | zero => intro j h1 h2; omega
  | succ n ih =>
    intro j h1 h2
    have h6 := nS_le W
    rw [fX2_overlappingPair_L20, fX7_overlap_L57, lb0 a250, chk_t, M_n W HM2, R_n WQ HC, nQ]
    by_cases e : j = nS R
    · subst e
      rw [if_pos (by rw [t_le]; exact Int.le_refl _), if_pos (by rw [t_le]; exact Int.le_refl _)]
      exact Or.inr ⟨rfl, rfl⟩
    · have nj : ¬ nI (nS R) ≤ nI j := by rw [t_le, nI_toInt (by omega), nI_toInt (by omega)]; omega
      rw [if_neg nj, if_neg nj, c_un WQ e14E HC (by omega), m_un WQ a252 HM (by omega), bd_e, bd_e, m_un WQ a252 HM (by omega), bd_e]
      by_cases q : nI (bs (unB Q i) (Q 2).toNat) &&& nI (bs (unB Q j) (Q 2).toNat) = 0
      · rw [if_pos q, if_pos q, lk_e, lk_e, nI_1]
        exact ih (j + 1) (by omega) (by omega)
      · rw [if_neg q, if_neg q]
        exact Or.inl ⟨j, by omega, rfl, rfl⟩
theorem ovl_out {B B' : Int} {R Q : Rw} {h k : Hp} {K1 : Hp → Option (Int32 × Hp)} {K2 : Int32 → Int32 → Int32 → Hp → Option (Int32 × Hp)} {v1 v2 : Int32} (W : WF B R) (WQ : WF B' Q) (nQ : nS Q = nS R) (HC : Rep h 14 Q) (HM : M0 k 252 Q) (HM2 : M0 k 250 R) : ∀ (n i : Nat), i ≤ nS R → nS R < n + i → (∃ i' j', i' < nS R ∧ j' < nS R ∧ fX2_overlappingPair_L2 n 14 (nI i) h = some ((10 : Int32) * nI i' + nI j', h) ∧ fX7_overlap_L42 K1 K2 n v1 v2 (nI i) k = K2 v2 (nI i') (nI j') k) ∨ (fX2_overlappingPair_L2 n 14 (nI i) h = some (-1000000, h) ∧ fX7_overlap_L42 K1 K2 n v1 v2 (nI i) k = K1 k) := by
  intro n
  induction n with
  | zero => intro j h1 h2; omega
  | succ n ih =>
    intro i h1 h2
    have h6 := nS_le W
    rw [fX2_overlappingPair_L2, fX7_overlap_L42, lb0 a250, chk_t, M_n W HM2, R_n WQ HC, nQ]
    by_cases e : i = nS R
    · subst e
      rw [if_pos (by rw [t_le]; exact Int.le_refl _), if_pos (by rw [t_le]; exact Int.le_refl _)]
      exact Or.inr ⟨rfl, rfl⟩
    · have nj : ¬ nI (nS R) ≤ nI i := by rw [t_le, nI_toInt (by omega), nI_toInt (by omega)]; omega
      rw [if_neg nj, if_neg nj, c_un WQ e14E HC (by omega), bd_e, lk_e, lk_e, nI_1]
      have I1 := ovl_in (KC := fun hh38 => lk (nI (i + 1)) fun x46 => fX2_overlappingPair_L2 n 14 x46 hh38) (K1 := fun kk79 => lk (nI (i + 1)) fun x87 => fX7_overlap_L42 K1 K2 n v1 v2 x87 kk79) (K2 := fun u0 u1 u2 uh => K2 u0 u1 u2 uh) (v1 := v1) (v2 := v2) W WQ nQ HC HM HM2 (show i < nS R by omega) 4096 (i + 1) (by omega) (by omega)
      rcases I1 with ⟨j', x1, x2, x3⟩ | ⟨x2, x3⟩
      · exact Or.inl ⟨i, j', by omega, x1, x2, x3⟩
      · rw [lk_e] at x2 x3
        rcases ih (i + 1) (by omega) (by omega) with ⟨i', j', y1, y2, y3, y4⟩ | ⟨y3, y4⟩
        · exact Or.inl ⟨i', j', y1, y2, x2.trans y3, x3.trans y4⟩
        · exact Or.inr ⟨x2.trans y3, x3.trans y4⟩
theorem pair_ne {i j : Nat} (hi : i < 6) (hj : j < 6) : ¬ (10 : Int32) * nI i + nI j = -1000000 := by
  rw [show (10 : Int32) = nI 10 from rfl, pk_mul, nI_add]
  intro q
  have := congrArg Int32.toInt q
  rw [nI_toInt (by omega)] at this
  have z : (-1000000 : Int32).toInt = -1000000 := rfl
  omega
theorem ovl_T {B : Int} {R : Rw} {a1 : Int32} (W : WF B R) (hB : B + 61 ≤ 5000) : ∀ (n t : Nat) (h k : Hp), t ≤ 61 → 61 < n + t → Rep h 14 (hrN R t) → M0 k 252 (hrN R t) → M0 k 250 R → ∃ r h1 k1, fX3_firstOverlap_L10 (fun x39 x40 hh41 => if a1 = 0 then some (x39, hh41) else some (x40, hh41)) n a1 (nI t) h = some (r, h1) ∧ fX7_overlap_L34 (fun x111 x112 x113 kk114 => if a1 = 0 then some (x111, kk114) else some (((10 : Int32) * x112) + x113, kk114)) n a1 (nI t) k = some (r, k1) ∧ off7 h h1 14 ∧ offA k k1 252 := by
  intro n
  induction n with
  | zero => intro t h k h1 h2; omega
  | succ n ih =>
    intro t h k h1 h2 H M M2
    have h6 := nS_le W
    rw [fX3_firstOverlap_L10, fX7_overlap_L34]
    by_cases e : t = 61
    · subst e
      rw [if_pos (by rw [t_lt]; decide), if_pos (by rw [t_lt]; decide)]
      exact ⟨_, h, k, rfl, rfl, off7.rf, offA.rf⟩
    · have n60 : ¬ (60 : Int32) < nI t := by rw [t_lt, nI_toInt (by omega)]; show ¬ (60 : Int) < _; omega
      rw [if_neg n60, if_neg n60]
      have I1 := ovl_out (K1 := fun kk91 => bd (fX7_hourOf 252 kk91) fun _ kk100 => lk (nI t + (1 : Int32)) fun x107 => fX7_overlap_L34 (fun x111 x112 x113 kk114 => if a1 = 0 then some (x111, kk114) else some (((10 : Int32) * x112) + x113, kk114)) n a1 x107 kk100) (K2 := fun u0 u1 u2 uh => (fun x111 x112 x113 kk114 => if a1 = 0 then some (x111, kk114) else some (((10 : Int32) * x112) + x113, kk114)) u0 u1 u2 uh) (v1 := a1) (v2 := nI t) W (WF_hrN W t) nS_hrN H M M2 4096 0 (by omega) (by omega)
      rw [nI_0] at I1
      rcases I1 with ⟨i', j', y1, y2, y3, y4⟩ | ⟨y3, y4⟩
      · have y3 : fX2_overlappingPair 14 h = _ := y3
        rw [y3, bd_e, if_neg (pair_ne (by omega) (by omega))]
        by_cases z : a1 = 0
        · exact ⟨nI t, h, k, by rw [if_pos z], y4.trans (by dsimp only; rw [if_pos z]), off7.rf, offA.rf⟩
        · exact ⟨_, h, k, by rw [if_neg z], y4.trans (by dsimp only; rw [if_neg z]), off7.rf, offA.rf⟩
      · have y3 : fX2_overlappingPair 14 h = _ := y3
        rw [y3, bd_e, if_pos rfl]
        obtain ⟨h1', f1, f2, f3⟩ := c_hour (WF_hrN W t) (by omega) e14E H
        obtain ⟨k1', g1, g2, g3⟩ := m_hour (WF_hrN W t) (by omega) a252 M
        rw [f1, bd_e, lk_e, nI_1]
        rw [g1, bd_e, lk_e, nI_1] at y4
        obtain ⟨r, h2', k2', x1, x2, x3, x4⟩ := ih (t + 1) h1' k1' (by omega) (by omega) f2 g2 (fun j hj => by rw [g3 250 (by omega)]; exact M2 j hj)
        exact ⟨r, h2', k2', x1, y4.trans x2, f3.tr x3, g3.tr x4⟩
theorem st_overlap : St_overlap RR := by
  intro h k a1 H
  have hz := H.mz
  rcases H.tld with ⟨c, -, -, -, -, -, -, m, -⟩ | ⟨R, c, m, T⟩
  · exact ⟨-1000002, h, Mz k, by simp only [fX6_overlap, c, if_true], by simp only [fX7_overlap, lk_e, Mz_e, m, bd_e, i00, if_true], hz⟩
  rcases nem ((0 : Int) ≤ a1.toInt ∧ a1.toInt ≤ 1) with q | q
  · exact ⟨-1000001, h, Mz k, by simp only [fX6_overlap, c, i10, if_false, w6_f 0 1 q, bd_e, if_true], by simp only [fX7_overlap, lk_e, Mz_e, m, bd_e, i10, if_false, L_wf 0 1 q, if_true], hz⟩
  obtain ⟨h1, b1, b2, b3⟩ := c_then T.W T.C
  obtain ⟨k1, l1, l2, l3⟩ := m_then T.M
  obtain ⟨r, h2, k2, x1, x2, x3, x4⟩ := ovl_T (a1 := a1) T.W (by omega) 4096 0 h1 k1 (by omega) (by omega) b2 l2 (fun j hj => by rw [l3 250 (by omega)]; exact T.M j hj)
  rw [nI_0] at x1 x2
  refine ⟨r, h2, k2, ?_, ?_, hz.qy (b3.tr x3) (l3.tr x4)⟩
  · unfold fX6_overlap fX3_firstOverlap
    rw [c, if_neg (by decide), w6_t 0 1 q, bd_e, if_neg (by decide), b1, bd_e]
    rw [x1, bd_e]
  · unfold fX7_overlap
    rw [lk_e, Mz_e, m, bd_e, if_neg (by decide), L_wd 0 1 q, bd_e, if_neg (by decide), l1, bd_e]
    exact x2
theorem rows_L {h k : Hp} (H : ∀ r, r < 8 → rowR h k r) : ∀ (n s : Nat) (v : Int32), s ≤ 8 → 8 < n + s → ∃ r, fX6_rowsThere_L4 n v (nI s) h = some (r, h) ∧ fX7_count_L58 n v (nI s) k = some (r, k) := by
  intro n
  induction n with
  | zero => intro s v h1 h2; omega
  | succ n ih =>
    intro s v h1 h2
    rw [fX6_rowsThere_L4, fX7_count_L58]
    by_cases e : s = 8
    · subst e
      rw [if_pos (by rw [t_le]; decide), if_pos (by rw [t_le]; decide)]
      exact ⟨v, rfl, rfl⟩
    · have n8 : ¬ (8 : Int32) ≤ nI s := by rw [t_le, nI_toInt (by omega)]; show ¬ (8 : Int) ≤ _; omega
      rw [if_neg n8, if_neg n8, inb_n (by omega) (by omega), chk_t, jp_e, show inb (nI s) (lenM 247) = true from inb_n (n := 8) (by omega) (by omega), chk_t, jp_e, cl_n (by omega)]
      rcases H s (by omega) with ⟨p1, p2⟩ | ⟨p1, l, m, hl, hm, p2, p3, p4, p5, p6⟩
      · rw [p1, p2, if_neg (show ¬ (1 : Int32) = 0 by decide), if_pos (show (-1 : Int32) < 0 by decide)]
        dsimp only
        rw [lk_e, lk_e, lk_e, lk_e, nI_1]
        exact ih (s + 1) _ (by omega) (by omega)
      · rw [p1, p3, if_pos rfl, if_neg (show ¬ nI l < (0 : Int32) by rw [t_lt, nI_toInt (by omega)]; show ¬ _ < (0 : Int); omega)]
        dsimp only
        rw [lk_e, lk_e, lk_e, lk_e, nI_1]
        exact ih (s + 1) _ (by omega) (by omega)
theorem ins_0 {k : Hp} (h : k 250 0 = 0) : ∀ n, 0 < n → fX7_ins_L4 n 250 0 0 k = some (0, k)
  | 0, q => absurd q (by omega)
  | n + 1, _ => by rw [fX7_ins_L4, lb0 a250, chk_t, show k 250 (0 : Int32).toNatClampNeg = 0 from h, if_pos (by decide)]
theorem num_0 {k : Hp} (h : k 250 0 = 0) : ∀ n, 0 < n → fX7_numbered_L4 n 250 0 0 k = some (0, k)
  | 0, q => absurd q (by omega)
  | n + 1, _ => by rw [fX7_numbered_L4, lb0 a250, chk_t, show k 250 (0 : Int32).toNatClampNeg = 0 from h, if_pos (by decide)]
theorem bits_0 {k : Hp} : fX7_bits 0 k = some (0, k) := m_bits (m := 0) (by omega)
theorem st_count : St_count RR := by
  intro h k a1 H
  have hz := H.mz
  unfold fX6_count fX7_count
  rw [lk_e, Mz_e]
  by_cases z0 : a1 = 0
  · rw [if_pos z0, if_pos z0]
    obtain ⟨r, x1, x2⟩ := rows_L hz.1 4096 0 0 (by omega) (by omega)
    rw [nI_0] at x1 x2
    have x1 : fX6_rowsThere h = some (r, h) := x1
    exact ⟨r, h, Mz k, by rw [x1, bd_e], x2, hz⟩
  rw [if_neg z0, if_neg z0]
  by_cases z6 : a1 = 6
  · subst z6
    obtain ⟨n, N, a1, a2, a3, a4, a5, a6⟩ := hz.2.2.2.2.1
    exact ⟨nI n, h, Mz k, by rw [if_neg (by decide), if_neg (by decide), if_neg (by decide), if_neg (by decide), if_neg (by decide), if_pos rfl, a3], by rw [if_neg (by decide), if_neg (by decide), if_neg (by decide), if_neg (by decide), if_neg (by decide), if_pos rfl, a5], hz⟩
  by_cases z7 : a1 = 7
  · subst z7
    obtain ⟨n, a1, a2, a3, a4⟩ := hz.2.1
    exact ⟨nI n, h, Mz k, by rw [if_neg (by decide), if_neg (by decide), if_neg (by decide), if_neg (by decide), if_neg (by decide), if_neg (by decide), if_pos rfl, a2], by rw [if_neg (by decide), if_neg (by decide), if_neg (by decide), if_neg (by decide), if_neg (by decide), if_neg (by decide), if_pos rfl, a3], hz⟩
  rw [if_neg z6, if_neg z7, if_neg z6, if_neg z7]
  rcases H.tld with ⟨-, -, c11, c12, c13, c14, c15, -, m⟩ | ⟨R, -, -, T⟩
  · have i0 : fX7_ins 250 (Mz k) = some (0, Mz k) := ins_0 (m 0 (by omega)) 4096 (by omega)
    have n0 : fX7_numbered 250 (Mz k) = some (0, Mz k) := num_0 (m 0 (by omega)) 4096 (by omega)
    rw [lb0 a250, lb1 a250, lb6 a250, chk_t, chk_t, chk_t, c11, c12, c13, c14, c15, show Mz k 250 (0 : Int32).toNatClampNeg = 0 from m 0 (by omega), show Mz k 250 (1 : Int32).toNatClampNeg = 0 from m 1 (by omega), show Mz k 250 (6 : Int32).toNatClampNeg = 0 from m 6 (by omega), n0, i0, bd_e, bits_0, bd_e, show fJ6_bitCount 0 h = some (0, h) from c_bits (m := 0) (by omega), bd_e]
    by_cases z1 : a1 = 1
    · exact ⟨0, h, Mz k, by rw [if_pos z1], by rw [if_pos z1], hz⟩
    rw [if_neg z1, if_neg z1]
    by_cases z2 : a1 = 2
    · exact ⟨0, h, Mz k, by rw [if_pos z2], by rw [if_pos z2], hz⟩
    rw [if_neg z2, if_neg z2]
    by_cases z3 : a1 = 3
    · exact ⟨0, h, Mz k, by rw [if_pos z3], by rw [if_pos z3], hz⟩
    rw [if_neg z3, if_neg z3]
    by_cases z4 : a1 = 4
    · exact ⟨0, h, Mz k, by rw [if_pos z4], by rw [if_pos z4], hz⟩
    rw [if_neg z4, if_neg z4]
    by_cases z5 : a1 = 5
    · exact ⟨0, h, Mz k, by rw [if_pos z5], by rw [if_pos z5], hz⟩
    rw [if_neg z5, if_neg z5]
    exact ⟨-1000001, h, Mz k, rfl, rfl, hz⟩
  · have h6 := T.n
    obtain ⟨a6, a7, a8, a9, a10, a11, a12, a13, a14, a15, aw, as⟩ := T.C
    have mb : bs (inB R) (nS R) < 64 := bs64 _ (by omega)
    rw [lb0 a250, lb1 a250, lb6 a250, chk_t, chk_t, chk_t, a11, h6.2.2.1, a13, a14, a15, show Mz k 250 (0 : Int32).toNatClampNeg = nI (nS R) from h6.2.2.2, show Mz k 250 (1 : Int32).toNatClampNeg = I (R 1) from T.M 1 (by omega), show Mz k 250 (6 : Int32).toNatClampNeg = I (R 6) from T.M 6 (by omega), m_num T.W a250 T.M, m_ins T.W a250 T.M, bd_e, m_cnt T.W, bd_e, bd_e, ← I_nat, msk_bs, c_bits mb, m_bits mb, bd_e, bd_e]
    by_cases z1 : a1 = 1
    · exact ⟨_, h, Mz k, by rw [if_pos z1], by rw [if_pos z1], hz⟩
    rw [if_neg z1, if_neg z1]
    by_cases z2 : a1 = 2
    · exact ⟨_, h, Mz k, by rw [if_pos z2], by rw [if_pos z2], hz⟩
    rw [if_neg z2, if_neg z2]
    by_cases z3 : a1 = 3
    · exact ⟨_, h, Mz k, by rw [if_pos z3], by rw [if_pos z3], hz⟩
    rw [if_neg z3, if_neg z3]
    by_cases z4 : a1 = 4
    · exact ⟨_, h, Mz k, by rw [if_pos z4], by rw [if_pos z4], hz⟩
    rw [if_neg z4, if_neg z4]
    by_cases z5 : a1 = 5
    · exact ⟨_, h, Mz k, by rw [if_pos z5], by rw [if_pos z5], hz⟩
    rw [if_neg z5, if_neg z5]
    exact ⟨-1000001, h, Mz k, rfl, rfl, hz⟩
