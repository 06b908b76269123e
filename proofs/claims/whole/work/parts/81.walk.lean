/-! ===== walks: the class weighs them from behind ===== -/
section CX
variable {R : Rw} {n : Nat}
theorem wh_L {v1 : Nat} {K : Hp → Option (Unit × Hp)} (W : WF 999 R) (hn : n ≤ 6) : ∀ (f t : Nat) (h : Hp), t ≤ n → n < f + t → Rep h 14 (hrN R t) → (∀ s d, s < t → d < (R 2).toNat → h (212 + s) d = I (ov (hrN R (s + 1)) d)) → ∃ h1, fX3_weighWalks_L10 K f v1 (nI n) (nI t) h = K h1 ∧ Rep h1 14 (hrN R n) ∧ wkO h1 R n ∧ offW h h1 := by
  intro f
  induction f with
  | zero => intro t h a b; omega
  | succ f ih =>
    intro t h a b H e
    rw [fX3_weighWalks_L10]
    by_cases z : t = n
    · subst z
      rw [if_pos (by rw [t_le]; exact Int.le_refl _)]
      exact ⟨h, rfl, H, e, offW.rf⟩
    · obtain ⟨h1, a1, a2, a3⟩ := c_hour (WF_hrN W t) (by omega) e14E H
      obtain ⟨h2, b1, b2, b3, b4⟩ := note (a := 212 + t) (by omega) (by omega) (WF_hrN W (t + 1)) a2
      rw [if_neg (by rw [t_le, nI_toInt (by omega), nI_toInt (by omega)]; omega), a1, bd_e, inb_n (by omega) (by omega), chk_t, cl_n (by omega), b1, bd_e, lk_e, nI_1]
      obtain ⟨h3, d1, d2, d3, d4⟩ := ih (t + 1) h2 (by omega) (by omega) b2 (fun s d p q => by
        by_cases y : s = t
        · subst y
          exact b3 d (by rw [R2_hrN]; exact q)
        · rw [b4 _ (by omega), a3 _ (by omega)]
          exact e s d (by omega) q)
      exact ⟨h3, d1, d2, d3, (a3.W.tr (b4.W (by omega) (by omega))).tr d4⟩
theorem wc_L {s : Nat} {K : Hp → Option (Unit × Hp)} (W : WF 999 R) (hn : n ≤ 6) (hs : s < n) : ∀ (f c : Nat) (h : Hp), c ≤ (R 2).toNat → (R 2).toNat < f + c → Rep h 0 R → h 14 7 = I (R 2) → wkO h R n → wkE h R n (s + 1) → (∀ d, d < c → h (219 + s) d = I (EE (wP R n) (R 2) (n - s) d)) → ∃ h1, fX3_weighWalks_L59 K f 0 (nI s) (nI c) h = K h1 ∧ wkE h1 R n s ∧ offA h h1 (219 + s) := by
  intro f
  induction f with
  | zero => intro c h a b; omega
  | succ f ih =>
    intro c h a b H0 h7 hO hE e
    have w2 := W.2.2.1
    rw [fX3_weighWalks_L59, R_c W H0]
    by_cases z : c = (R 2).toNat
    · rw [if_pos (by rw [z, t_le]; exact Int.le_refl _)]
      exact ⟨h, rfl, fun d hd => e d (by omega), offA.rf⟩
    · have bn := c_bn (s := s) (c := (c : Int)) W hn hs (by omega) (by omega) h7 hO hE
      obtain ⟨b1, b2, -, -⟩ := nx_p (P := wP R n) (L := R 2) (m := n - 1 - s) (c := (c : Int)) (by omega) (by omega)
      have wt := c_wt (s := s) (x := nx (wP R n) (R 2) (n - 1 - s) c) W hn hs (by omega) (by omega) hO hE
      rw [← I_nat] at bn
      have ee : gg (wP R n) (R 2) (n - 1 - s) (nx (wP R n) (R 2) (n - 1 - s) c) = EE (wP R n) (R 2) (n - s) c := by
        rw [show n - s = n - 1 - s + 1 by omega]
        rfl
      rw [if_neg (by rw [t_le, nI_toInt (by omega), nI_toInt (by omega)]; omega), inb_n (by omega) (by omega), chk_t, bn, bd_e, wt, bd_e, cl_n (by omega), len_W (by omega) (by omega), inb_n (by omega) (by omega), chk_t, cl_n (by omega), lk_e, lk_e, nI_1, ee]
      have o : offA h (up2 h (219 + s) c (I (EE (wP R n) (R 2) (n - s) c))) (219 + s) := offA.rf.up
      obtain ⟨h3, x1, x2, x3⟩ := ih (c + 1) (up2 h (219 + s) c (I (EE (wP R n) (R 2) (n - s) c))) (by omega) (by omega) (H0.cg (fun i j _ q => by rw [o i (by omega)])) (by rw [o 14 (by omega)]; exact h7) (fun s' d p q => by rw [o _ (by omega)]; exact hO s' d p q) (fun d hd => by rw [o _ (by omega)]; exact hE d hd) (fun d hd => by
        rw [up2_at]
        by_cases y : d = c
        · rw [if_pos ⟨rfl, y⟩, y]
        · rw [if_neg (fun z => y z.2)]; exact e d (by omega))
      exact ⟨h3, x1, x2, o.tr x3⟩
theorem wd_L (W : WF 999 R) (hn : n ≤ 6) : ∀ (f s : Nat) (h : Hp), s ≤ n → s < f → Rep h 0 R → h 14 7 = I (R 2) → wkO h R n → (∀ r, s ≤ r → r ≤ n → wkE h R n r) → ∃ h1, fX3_weighWalks_L52 f 0 (I ((s : Int) - 1)) h = some ((), h1) ∧ h1 14 7 = I (R 2) ∧ wkO h1 R n ∧ (∀ r, r ≤ n → wkE h1 R n r) ∧ offW h h1 := by
  intro f
  induction f with
  | zero => intro s h a b; omega
  | succ f ih =>
    intro s h a b H0 h7 hO hE
    have w2 := W.2.2.1
    rw [fX3_weighWalks_L52]
    cases s with
    | zero =>
      rw [if_pos (by rw [t_lt, I_toInt (by omega) (by omega)]; show _ < (0 : Int); omega)]
      exact ⟨h, rfl, h7, hO, fun r hr => hE r (by omega) hr, offW.rf⟩
    | succ s =>
      rw [if_neg (by rw [t_lt, I_toInt (by omega) (by omega)]; show ¬ _ < (0 : Int); omega), show ((s + 1 : Nat) : Int) - 1 = (s : Int) by omega, ← I_nat]
      obtain ⟨h1, x1, x2, x3⟩ := wc_L (s := s) (K := fun hh96 => lk (nI s + (-1 : Int32)) fun x104 => fX3_weighWalks_L52 f 0 x104 hh96) W hn (by omega) 4096 0 h (by omega) (by omega) H0 h7 hO (hE (s + 1) (by omega) (by omega)) (fun d hd => absurd hd (by omega))
      rw [nI_0] at x1
      rw [x1, lk_e, show nI s + (-1 : Int32) = I ((s : Int) - 1) by rw [I_nat, I_m1, I_add]; congr 1]
      obtain ⟨h3, y1, y2, y3, y4, y5⟩ := ih s h1 (by omega) (by omega) (H0.cg (fun i j _ q => by rw [x3 i (by omega)])) (by rw [x3 14 (by omega)]; exact h7) (fun s' d p q => by rw [x3 _ (by omega)]; exact hO s' d p q) (fun r p q => by
        by_cases y : r = s
        · subst y; exact x2
        · exact fun d hd => by rw [x3 _ (by omega)]; exact hE r (by omega) q d hd)
      exact ⟨h3, y1, y2, y3, y4, (x3.W (by omega) (by omega)).tr y5⟩
theorem c_ww {h : Hp} (W : WF 999 R) (hn : n ≤ 6) (C : Rep h 0 R) : ∃ h1, fX3_weighWalks 0 (nI n) h = some ((), h1) ∧ h1 14 7 = I (R 2) ∧ wkO h1 R n ∧ (∀ r, r ≤ n → wkE h1 R n r) ∧ offW h h1 := by
  have w2 := W.2.2.1
  obtain ⟨h1, a1, a2, a3⟩ := c_then W C
  obtain ⟨h2, b1, b2, b3, b4⟩ := wh_L (v1 := 0) (K := fun hh36 => chk (inb (nI n) 7) <| bd (fJ7_fill (219 + (nI n).toNatClampNeg) (0 : Int32) hh36) fun _ hh47 => lk (nI n - (1 : Int32)) fun x54 => fX3_weighWalks_L52 4096 0 x54 hh47) W hn 4096 0 h1 (by omega) (by omega) a2 (fun s d hs _ => absurd hs (by omega))
  rw [nI_0] at b1
  have ln := len_W (a := 219 + n) (by omega) (by omega)
  have eF := fill_e (a := 219 + n) (v := 0) (h := h2) (by omega)
  rw [ln] at eF
  have o : offA h2 (fillU h2 (219 + n) 0 16 0) (219 + n) := fun i hi => by funext j; rw [fillU_at, if_neg (by omega)]
  have C2 := (C.W0 (a3.W.tr b4))
  obtain ⟨h3, y1, y2, y3, y4, y5⟩ := wd_L W hn 4096 n (fillU h2 (219 + n) 0 16 0) (Nat.le_refl _) (by omega) (C2.cg (fun i j _ q => by rw [o i (by omega)])) (by rw [o 14 (by omega), b2.2.1, R2_hrN]) (fun s' d p q => by rw [o _ (by omega)]; exact b3 s' d p q) (fun r p q d hd => by
    have : r = n := by omega
    subst this
    rw [fillU_at, if_pos (by omega), Nat.sub_self]
    rfl)
  refine ⟨h3, ?_, y2, y3, y4, ((a3.W.tr b4).tr (o.W (by omega) (by omega))).tr y5⟩
  unfold fX3_weighWalks
  rw [a1, bd_e, b1, inb_n (by omega) (by omega), chk_t, cl_n (by omega), eF, bd_e, lk_e, show nI n - (1 : Int32) = I ((n : Int) - 1) by rw [I_nat, I_1, I_sub]]
  exact y1
theorem lc_L {h : Hp} {j : Nat} {c : Int} (W : WF 999 R) (hn : n ≤ 6) (hj : j < n) (h1 : 0 ≤ c) (h2 : c < R 2) (h7 : h 14 7 = I (R 2)) (hO : wkO h R n) (hE : ∀ r, r ≤ n → wkE h R n r) : ∀ (f t : Nat), t ≤ j + 1 → j + 1 < f + t → fX3_leastSeenCell_L15 f (nI j) (I (pth (wP R n) (R 2) n c t)) (nI t) h = some (I (pth (wP R n) (R 2) n c (j + 1)), h) := by
  intro f
  induction f with
  | zero => intro t a b; omega
  | succ f ih =>
    intro t a b
    rw [fX3_leastSeenCell_L15]
    by_cases q : t = j + 1
    · rw [if_pos (by rw [t_lt, nI_toInt (by omega), nI_toInt (by omega)]; omega), q]
    · obtain ⟨p1, p2⟩ := pth_b (P := wP R n) (n := n) h1 h2 t
      rw [if_neg (by rw [t_lt, nI_toInt (by omega), nI_toInt (by omega)]; omega), c_bn W hn (by omega) p1 p2 h7 hO (hE (t + 1) (by omega)), bd_e, lk_e, nI_1]
      exact ih (t + 1) (by omega) (by omega)
end CX
theorem m_walk {R : Rw} {n : Nat} {k : Hp} {a2 : Int32} (W : WF 999 R) (hn : n ≤ 6) (h1 : 1 ≤ n) (M : M0 k 250 R) {K : Int32 → Int32 → Int32 → Hp → Option (Int32 × Hp)} : ∃ k1, bd (fX7_layThen k) (fun _ kk31 => fX7_walk_L41 (fun kk90 => fX7_walk_L105 (fun x113 kk114 => fX7_walk_L131 (fun x277 x278 kk279 => K x113 x277 x278 kk279) 4096 (nI n) a2 x113 (-1000000 : Int32) (0 : Int32) (0 : Int32) kk114) 4096 (nI n) a2 (1 : Int32) (0 : Int32) kk90) 4096 (nI n) a2 (0 : Int32) kk31) = K (nI (3 ^ n)) (I (EE (wP R n) (R 2) n (R 4))) (nI (WY (wP R n) (R 2) n (R 4))) k1 ∧ M0 k1 250 R ∧ offB k k1 := by
  obtain ⟨k1, l1, l2, l3⟩ := m_then M
  have M1 : M0 k1 250 R := fun j hj => by rw [l3 250 (by omega)]; exact M j hj
  obtain ⟨k2, r1, r2, r3⟩ := rh_L (v2 := a2) (K := fun kk90 => fX7_walk_L105 (fun x113 kk114 => fX7_walk_L131 (fun x277 x278 kk279 => K x113 x277 x278 kk279) 4096 (nI n) a2 x113 (-1000000 : Int32) (0 : Int32) (0 : Int32) kk114) 4096 (nI n) a2 (1 : Int32) (0 : Int32) kk90) W hn 4096 0 k1 (by omega) (by omega) M1 l2 (fun s d hs _ => absurd hs (by omega))
  have M2 : M0 k2 250 R := fun j hj => by rw [r3 250 (by omega) (by omega)]; exact M1 j hj
  have pb := p3_le hn
  have w := ways_L (v2 := a2) (k := k2) (K := fun x113 kk114 => fX7_walk_L131 (fun x277 x278 kk279 => K x113 x277 x278 kk279) 4096 (nI n) a2 x113 (-1000000 : Int32) (0 : Int32) (0 : Int32) kk114) hn 4096 0 (by omega) (by omega)
  have s := sc_A (v2 := a2) (K := fun x277 x278 kk279 => K (nI (3 ^ n)) x277 x278 kk279) W M2 hn h1 r2 4096 0 (-1000000) 0 (by omega) (by omega) (Or.inl rfl)
  rw [nI_0] at r1 w s
  rw [show nI (3 ^ 0) = (1 : Int32) from rfl] at w
  rw [show I (-1000000) = (-1000000 : Int32) from by decide] at s
  refine ⟨k2, ?_, M2, l3.B.tr r3⟩
  rw [l1, bd_e, r1]
  exact w.trans s
theorem st_walk : St_walk RR := by
  intro h k a1 a2 H
  have hz := H.mz
  rcases H.tld with ⟨c, -, -, -, -, -, -, m, -⟩ | ⟨R, c, m, T⟩
  · exact ⟨-1000002, h, Mz k, by simp only [fX6_walk, c, if_true], by simp only [fX7_walk, lk_e, Mz_e, m, bd_e, i00, if_true], hz⟩
  rcases nem ((1 : Int) ≤ a1.toInt ∧ a1.toInt ≤ 6) with q | q
  · exact ⟨-1000001, h, Mz k, by simp only [fX6_walk, c, i10, if_false, w6_f 1 6 q, bd_e, if_true], by simp only [fX7_walk, lk_e, Mz_e, m, bd_e, i10, if_false, L_wf 1 6 q, if_true], hz⟩
  rcases nem ((-1 : Int32) ≤ a2) with y | y
  · refine ⟨-1000001, h, Mz k, ?_, ?_, hz⟩
    · unfold fX6_walk
      rw [c, if_neg (by decide), w6_t 1 6 q, bd_e, if_neg (by decide), if_neg y]
    · unfold fX7_walk
      rw [lk_e, Mz_e, m, bd_e, if_neg (by decide), L_wd 1 6 q, bd_e, if_neg (by decide), if_neg y]
  obtain ⟨n, hn, rfl⟩ := rg (a := a1) (n := 6) (by omega) ⟨by omega, q.2⟩
  have h1 : 1 ≤ n := by
    have := q.1
    rw [nI_toInt (by omega)] at this
    omega
  have w2 := T.W.2.2.1
  have w4 := T.W.2.2.2.2.1
  have y' : (-1 : Int) ≤ a2.toInt := by rw [t_le] at y; exact y
  obtain ⟨k1, x1, x2, x3⟩ := m_walk (n := n) (a2 := a2) T.W hn h1 T.M (K := fun x113 x277 x278 kk279 => if a2 = (-1 : Int32) then some (x277, kk279) else chk (inb (4 : Int32) (lenM 250)) <| lk (kk279 250 (4 : Int32).toNatClampNeg) fun x291 => lk (x113 / (3 : Int32)) fun x295 => fX7_walk_L306 (fun x332 kk333 => if nI n ≤ a2 then some ((-1000000 : Int32), kk333) else some (x332, kk333)) 4096 (nI n) a2 x278 x291 x295 (0 : Int32) kk279)
  have eM : fX7_walk (nI n) a2 k = if a2 = (-1 : Int32) then some (I (EE (wP R n) (R 2) n (R 4)), k1) else fX7_walk_L306 (fun x332 kk333 => if nI n ≤ a2 then some ((-1000000 : Int32), kk333) else some (x332, kk333)) 4096 (nI n) a2 (nI (WY (wP R n) (R 2) n (R 4))) (I (R 4)) (nI (3 ^ (n - 1))) (0 : Int32) k1 := by
    unfold fX7_walk
    rw [lk_e, Mz_e, m, bd_e, if_neg (by decide), L_wd 1 6 q, bd_e, if_neg (by decide), if_pos y]
    refine x1.trans ?_
    rw [lb4 a250, chk_t, show k1 250 (4 : Int32).toNatClampNeg = I (R 4) from x2 4 (by omega), lk_e, by_3 hn h1, lk_e]
  have fin := hz.cg SmC.rf x3.sm
  by_cases z : a2 < nI n
  · obtain ⟨h2, b1, b2, b3, b4, b5⟩ := c_ww (n := n) T.W hn T.C
    have C2 := T.C.W0 b5
    have c9 : h2 0 9 = I (R 4) := C2.2.2.2.1
    have fin2 := hz.cg b5.sm x3.sm
    by_cases v : a2 = -1
    · subst v
      refine ⟨I (EE (wP R n) (R 2) n (R 4)), h2, k1, ?_, by rw [eM, if_pos rfl], fin2⟩
      have e0 := b4 0 (by omega) (R 4).toNat (by omega)
      rw [Nat.sub_zero, show (((R 4).toNat : Nat) : Int) = R 4 by omega] at e0
      unfold fX6_walk fX3_leastSeen
      rw [c, if_neg (by decide), w6_t 1 6 q, bd_e, if_neg (by decide), if_pos y, if_pos z, if_pos rfl, b1, bd_e, show inb (0 : Int32) 7 = true from rfl, chk_t, show 219 + (0 : Int32).toNatClampNeg = 219 + 0 from rfl, len_W (by omega) (by omega), c9, I_n w4.1, inb_n (by omega) (by omega), chk_t, cl_n (by omega), e0, bd_e]
    · have z' := z
      rw [t_lt, nI_toInt (by omega)] at z'
      have v' : a2.toInt ≠ -1 := fun e => v (by rw [← Int32.toInt_inj, e]; rfl)
      obtain ⟨j, hj, rfl⟩ := rg (a := a2) (n := n - 1) (by omega) ⟨by omega, by omega⟩
      have pl := pa_L (P := wP R n) (L := R 2) (c := R 4) (n := n) (j := j) (k := k1) (K := fun x332 kk333 => if nI n ≤ nI j then some ((-1000000 : Int32), kk333) else some (x332, kk333)) hn (by omega) w4.1 w4.2 w2.2 4096 0 (by omega) (by omega)
      have lc := lc_L (j := j) T.W hn (by omega) w4.1 w4.2 b2 b3 b4 4096 0 (by omega) (by omega)
      rw [nI_0] at pl lc
      rw [Nat.sub_zero] at pl
      refine ⟨I (pth (wP R n) (R 2) n (R 4) (j + 1)), h2, k1, ?_, ?_, fin2⟩
      · unfold fX6_walk fX3_leastSeenCell
        rw [c, if_neg (by decide), w6_t 1 6 q, bd_e, if_neg (by decide), if_pos y, if_pos z, if_neg v, b1, bd_e, lk_e, c9]
        rw [show I (R 4) = I (pth (wP R n) (R 2) n (R 4) 0) from rfl, lc, bd_e]
      · rw [eM, if_neg v]
        refine Eq.trans pl ?_
        rw [if_neg (by rw [t_le, nI_toInt (by omega), nI_toInt (by omega)]; omega)]
  · have z' := z
    rw [t_lt, nI_toInt (by omega)] at z'
    refine ⟨-1000000, h, k1, ?_, ?_, fin⟩
    · unfold fX6_walk
      rw [c, if_neg (by decide), w6_t 1 6 q, bd_e, if_neg (by decide), if_pos y, if_neg z]
    · rw [eM, if_neg (fun e => by rw [e] at z'; have : (-1 : Int32).toInt = -1 := rfl; omega), fX7_walk_L306, if_neg (by rw [t_lt]; show ¬ _ < (0 : Int); omega), if_pos (by rw [t_le, nI_toInt (by omega)]; omega), if_pos (by rw [t_le, nI_toInt (by omega)]; omega)]
