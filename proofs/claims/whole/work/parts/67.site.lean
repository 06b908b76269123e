theorem sit_1 {R : Rw} {T c n : Nat} {v2 v3 v4 : Int32} {k : Hp} {K : Int32 → Int32 → Hp → Option (Int32 × Hp)} (W : WF 999 R) (hT : T ≤ 30) (hc : (c : Int) < R 2) (M : M0 k 250 R) : ∃ k1, fX7_site_L48 K (n + 1) (nI T) v2 v3 v4 (nI c) k = (if nI (bv R T c) ≤ v3 then fX7_site_L48 K n (nI T) v2 v3 v4 (nI (c + 1)) k1 else fX7_site_L48 K n (nI T) v2 (nI (bv R T c)) (nI c) (nI (c + 1)) k1) ∧ offA k k1 252 := by
  obtain ⟨k1, k2, k3, a1, a2, a3, a4, a5⟩ := sit_m W hT hc M
  have w2 := W.2.2.1
  have r2 : k 250 (2 : Int32).toNatClampNeg = nI (R 2).toNat := by
    have := M 2 (by omega)
    rw [I_n (by omega)] at this
    exact this
  refine ⟨k3, ?_, a5⟩
  rw [fX7_site_L48, lb2 a250, chk_t, r2, if_neg (by rw [t_le, nI_toInt (by omega), nI_toInt (by omega)]; omega), a1, bd_e, lb3 a252, chk_t, a2, lk_e, a3, bd_e]
  cases e : fX7_numbered 252 k3 with
  | none => rw [e] at a4; cases a4
  | some z =>
    obtain ⟨x, y⟩ := z
    rw [e, bd_e] at a4
    rw [bd_e, a4, bd_e]
    dsimp only [jp_e]
    by_cases q : nI (bv R T c) ≤ v3
    · rw [if_pos q, if_pos q, lk_e, nI_1]
    · rw [if_neg q, if_neg q, lk_e, nI_1]
theorem sit_r {R : Rw} {T : Nat} {v2 : Int32} {K : Int32 → Int32 → Hp → Option (Int32 × Hp)} (W : WF 999 R) (hT : T ≤ 30) : ∀ (n d c m : Nat) (k : Hp), c + d = (R 2).toNat → d < n → M0 k 250 R → ∃ k1, fX7_site_L48 K n (nI T) v2 (nI (bv R T m)) (nI m) (nI c) k = K (nI (bv R T (bF (bv R T) d c m))) (nI (bF (bv R T) d c m)) k1 ∧ offA k k1 252 := by
  intro n
  induction n with
  | zero => intro d c m k h1 h2; omega
  | succ n ih =>
    intro d c m k h1 h2 M
    have w2 := W.2.2.1
    cases d with
    | zero =>
      have r2 : k 250 (2 : Int32).toNatClampNeg = nI (R 2).toNat := by
        have := M 2 (by omega)
        rw [I_n (by omega)] at this
        exact this
      rw [fX7_site_L48, lb2 a250, chk_t, r2, if_pos (by rw [show c = (R 2).toNat by omega, t_le]; exact Int.le_refl _)]
      exact ⟨k, rfl, offA.rf⟩
    | succ d =>
      obtain ⟨k1, e1, o1⟩ := sit_1 (T := T) (c := c) (n := n) (v2 := v2) (v3 := nI (bv R T m)) (v4 := nI m) (K := K) W hT (by omega) M
      have M1 : M0 k1 250 R := fun j hj => by rw [o1 250 (by omega)]; exact M j hj
      have b1 := bv_b (t := T) (c := c) W
      have b2 := bv_b (t := T) (c := m) W
      have u : bF (bv R T) (d + 1) c m = bF (bv R T) d (c + 1) (if bv R T c ≤ bv R T m then m else c) := rfl
      rw [e1, u]
      by_cases q : bv R T c ≤ bv R T m
      · rw [if_pos (show nI (bv R T c) ≤ nI (bv R T m) by rw [t_le, nI_toInt (by omega), nI_toInt (by omega)]; omega), if_pos q]
        obtain ⟨k2, x1, x2⟩ := ih d (c + 1) m k1 (by omega) (by omega) M1
        exact ⟨k2, x1, o1.tr x2⟩
      · rw [if_neg (show ¬ nI (bv R T c) ≤ nI (bv R T m) by rw [t_le, nI_toInt (by omega), nI_toInt (by omega)]; omega), if_neg q]
        obtain ⟨k2, x1, x2⟩ := ih d (c + 1) c k1 (by omega) (by omega) M1
        exact ⟨k2, x1, o1.tr x2⟩
theorem bF_lt {f : Nat → Nat} {L : Nat} : ∀ d c m, c + d = L → m < L → bF f d c m < L
  | 0, _, m, _, h => h
  | d + 1, c, m, h1, h2 => by
    show bF f d (c + 1) (if f c ≤ f m then m else c) < L
    split
    · exact bF_lt d (c + 1) m (by omega) h2
    · exact bF_lt d (c + 1) c (by omega) (by omega)
theorem st_site : St_site RR := by
  intro h k a1 a2 H
  have hz := H.mz
  rcases H.tld with ⟨c, -, -, -, -, -, -, m, -⟩ | ⟨R, c, m, T⟩
  · exact ⟨-1000002, h, Mz k, by simp only [fX6_site, c, if_true], by simp only [fX7_site, lk_e, Mz_e, m, bd_e, i00, if_true], hz⟩
  rcases nem ((1 : Int) ≤ a1.toInt ∧ a1.toInt ≤ 30) with q | q
  · exact ⟨-1000001, h, Mz k, by simp only [fX6_site, c, i10, if_false, w6_f 1 30 q, bd_e, if_true], by simp only [fX7_site, lk_e, Mz_e, m, bd_e, i10, if_false, L_wf 1 30 q, if_true], hz⟩
  rcases nem ((0 : Int) ≤ a2.toInt ∧ a2.toInt ≤ 1) with u | u
  · exact ⟨-1000001, h, Mz k, by simp only [fX6_site, c, i10, if_false, w6_t 1 30 q, w6_f 0 1 u, bd_e, if_true], by simp only [fX7_site, lk_e, Mz_e, m, bd_e, i10, if_false, L_wd 1 30 q, L_wf 0 1 u, if_true], hz⟩
  obtain ⟨t, ht, rfl⟩ := rg (a := a1) (n := 30) (by omega) ⟨by omega, q.2⟩
  have h6 := T.n
  have w2 := T.W.2.2.1
  obtain ⟨hA, a1', a2', a3'⟩ := c_then T.W T.C
  have HA := T.C.S a3'.S
  have eF := fill_e (a := 226) (v := nI (acM R 0 0)) (h := hA) (by decide)
  have eq0 : acM R 0 0 = bs (nmB R) (nS R) := rfl
  have HB : Rep (fillU hA 226 0 (lenC 226) (nI (acM R 0 0))) 0 R := HA.cg (fun i j _ q => by rw [fillU_at, if_neg (by omega)])
  have HC : Rep (fillU hA 226 0 (lenC 226) (nI (acM R 0 0))) 14 (hrN R 0) := a2'.cg (fun i j _ q => by rw [fillU_at, if_neg (by omega)])
  have oB : offS hA (fillU hA 226 0 (lenC 226) (nI (acM R 0 0))) := fun i p1 p2 => by funext j; rw [fillU_at, if_neg (by omega)]
  have e0 : ∀ d, d < (R 2).toNat → fillU hA 226 0 (lenC 226) (nI (acM R 0 0)) 226 d = nI (acM R d 0) := fun d hd => by
    rw [fillU_at, show lenC 226 = 16 from rfl, if_pos (by omega)]
    rfl
  obtain ⟨hD, x1, x2, x3⟩ := sit_L (T := t) (v3 := a2) (K := fun hh90 => fX3_bestStand_L98 (fun x144 hh145 => if a2 = 0 then some (x144, hh145) else chk (inb x144 (lenC 226)) <| bd (fJ6_bitCount (hh145 226 x144.toNatClampNeg) hh145) fun x157 hh158 => some (x157, hh158)) 4096 0 a2 (0 : Int32) (1 : Int32) hh90) T.W (by omega) ht 4096 0 _ (by omega) (by omega) HB HC e0
  have HD := HB.S x3
  have y1 := bst_c (v3 := a2) (K := fun x144 hh145 => if a2 = 0 then some (x144, hh145) else chk (inb x144 (lenC 226)) <| bd (fJ6_bitCount (hh145 226 x144.toNatClampNeg) hh145) fun x157 hh158 => some (x157, hh158)) T.W HD x2 4096 ((R 2).toNat - 1) 1 0 (by omega) (by omega) (by omega)
  have bl := bF_lt (f := bv R t) (L := (R 2).toNat) ((R 2).toNat - 1) 1 0 (by omega) (by omega)
  rw [nI_0] at x1 y1
  obtain ⟨k1, r1, o1⟩ := sit_1 (T := t) (c := 0) (n := 4095) (v2 := a2) (v3 := -1) (v4 := 0) (K := fun x112 x113 kk114 => if a2 = 0 then some (x113, kk114) else some (x112, kk114)) T.W ht (by omega) T.M
  have b0 := bv_b (t := t) (c := 0) T.W
  rw [if_neg (by rw [t_le, nI_toInt (by omega)]; show ¬ _ ≤ (-1 : Int); omega)] at r1
  obtain ⟨k2, r2, o2⟩ := sit_r (T := t) (v2 := a2) (K := fun x112 x113 kk114 => if a2 = 0 then some (x113, kk114) else some (x112, kk114)) T.W ht 4095 ((R 2).toNat - 1) 1 0 k1 (by omega) (by omega) (fun j hj => by rw [o1 250 (by omega)]; exact T.M j hj)
  have eM : fX7_site (nI t) a2 k = if a2 = 0 then some (nI (bF (bv R t) ((R 2).toNat - 1) 1 0), k2) else some (nI (bv R t (bF (bv R t) ((R 2).toNat - 1) 1 0)), k2) := by
    unfold fX7_site
    rw [lk_e, Mz_e, m, bd_e, if_neg (by decide), L_wd 1 30 q, bd_e, if_neg (by decide), L_wd 0 1 u, bd_e, if_neg (by decide)]
    rw [nI_0] at r1
    exact r1.trans r2
  have eC : fX6_site (nI t) a2 h = if a2 = 0 then some (nI (bF (bv R t) ((R 2).toNat - 1) 1 0), hD) else some (nI (bv R t (bF (bv R t) ((R 2).toNat - 1) 1 0)), hD) := by
    unfold fX6_site fX3_bestStand
    rw [c, if_neg (by decide), w6_t 1 30 q, bd_e, if_neg (by decide), w6_t 0 1 u, bd_e, if_neg (by decide), a1', bd_e, c_num T.W e0E HA, bd_e, ← eq0, eF, bd_e, x1, show (1 : Int32) = nI 1 from rfl, y1]
    by_cases z : a2 = 0
    · rw [if_pos z, if_pos z, bd_e]
    · rw [if_neg z, if_neg z, show lenC 226 = 16 from rfl, inb_n (by omega) (by omega), chk_t, cl_n (by omega), x2 _ bl, acM_c T.W, bd_e, bd_e]
  rw [eC, eM]
  have fin := hz.cg ((a3'.S.tr oB).tr x3).sm (o1.tr o2).sm
  by_cases z : a2 = 0
  · exact ⟨_, _, _, by rw [if_pos z], by rw [if_pos z], fin⟩
  · exact ⟨_, _, _, by rw [if_neg z], by rw [if_neg z], fin⟩
