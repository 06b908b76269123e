/-! ===== reading: sheets ===== -/
theorem ix14 {s : Nat} : (14 : Int32) + (6 : Int32) * nI s = nI (14 + 6 * s) := by rw [show (14 : Int32) = nI 14 from rfl, show (6 : Int32) = nI 6 from rfl, pk_mul, nI_add]
theorem ixk {m j : Nat} : nI m + nI j = nI (m + j) := nI_add m j
/-- the letter of a sort, and room -/
theorem sheet_a {c : Nat} {h k : Hp} (hc : c ≤ 6) (t : tokR h k) {R : Rw} (d : DSc c R h k) {e : Nat} (he : 1 ≤ e ∧ e ≤ 5) (q1 : fX4_kindOfSort (h 205 5) h = some (nI e, h)) (q2 : fX7_kindBy (k 246 15) k = some (nI e, k)) {h1 k1 : Hp} (n1 : fX4_nextToken h = some ((), h1)) (n2 : fX7_nextToken k = some ((), k1)) (n3 : tokR h1 k1) (n4 : eC h h1) (n5 : eM k k1) : ∃ h2 k2, (fX4_readSheet h =
      bd (fX4_takeNumber (0 : Int32) ((h2 7 7) - (1 : Int32)) h2) fun x28 hh29 =>
      bd (fX4_take (44 : Int32) hh29) fun _ hh39 =>
      bd (fX4_takeNumber (1 : Int32) (5 : Int32) hh39) fun x46 hh47 =>
      bd (fX4_take (44 : Int32) hh47) fun _ hh57 =>
      bd (fX4_takeNumber (1 : Int32) (9 : Int32) hh57) fun x64 hh65 =>
      bd (fX4_take (59 : Int32) hh65) fun _ hh75 =>
      bd (fX2_addSheet 7 (nI e) x28 x46 x64 hh75) fun _ hh83 =>
      some ((), hh83)) ∧ (fX7_readSheet k =
      bd (fX7_number (0 : Int32) ((k2 251 (2 : Int32).toNatClampNeg) - (1 : Int32)) k2) fun x32 kk33 =>
      bd (fX7_mustSign (44 : Int32) kk33) fun _ kk43 =>
      bd (fX7_number (1 : Int32) (5 : Int32) kk43) fun x50 kk51 =>
      bd (fX7_mustSign (44 : Int32) kk51) fun _ kk61 =>
      bd (fX7_number (1 : Int32) (9 : Int32) kk61) fun x68 kk69 =>
      bd (fX7_mustSign (59 : Int32) kk69) fun _ kk79 =>
      if (kk79 246 16) = 0 then
        lk ((14 : Int32) + ((6 : Int32) * (kk79 251 (0 : Int32).toNatClampNeg))) fun x91 =>
        chk (inb x91 (lenM 251)) <|
        lk (up2 kk79 251 x91.toNatClampNeg (nI e)) fun kk99 =>
        chk (inb (x91 + (1 : Int32)) (lenM 251)) <|
        lk (up2 kk99 251 (x91 + (1 : Int32)).toNatClampNeg x32) fun kk107 =>
        chk (inb (x91 + (2 : Int32)) (lenM 251)) <|
        lk (up2 kk107 251 (x91 + (2 : Int32)).toNatClampNeg x50) fun kk115 =>
        chk (inb (x91 + (3 : Int32)) (lenM 251)) <|
        lk (up2 kk115 251 (x91 + (3 : Int32)).toNatClampNeg x68) fun kk123 =>
        chk (inb (x91 + (4 : Int32)) (lenM 251)) <|
        lk (up2 kk123 251 (x91 + (4 : Int32)).toNatClampNeg (0 : Int32)) fun kk131 =>
        chk (inb (x91 + (5 : Int32)) (lenM 251)) <|
        lk (up2 kk131 251 (x91 + (5 : Int32)).toNatClampNeg (1 : Int32)) fun kk139 =>
        lk (up2 kk139 251 (0 : Int32).toNatClampNeg ((kk139 251 (0 : Int32).toNatClampNeg) + (1 : Int32))) fun kk149 =>
        some ((), kk149)
      else
        some ((), kk79)) ∧ rdP (fun R h k => DSc c R h k ∧ c < 6) h2 k2 ∧ eC h h2 ∧ eM k k2 := by
  have e12 : h 7 12 = nI c := by rw [d.2.1.2.2.1, d.2.2.2.1, I_nat]
  have k0 : k 251 (0 : Int32).toNatClampNeg = nI c := by rw [show k 251 (0 : Int32).toNatClampNeg = I (R 0) from d.1 0 (by omega), d.2.2.2.1, I_nat]
  have ne : ¬ nI e = (0 : Int32) := nI_ne (b := 0) (by omega) (by omega) (by omega)
  unfold fX4_readSheet fX7_readSheet
  dsimp only [jp_e]
  rw [lb0 a251, lb2 a251]
  simp only [chk_t]
  rw [q1, bd_e, if_neg ne, q2, bd_e, e12, k0]
  by_cases z : c = 6
  · have nf : ¬ (flC h 3) 205 2 = 0 := by rw [flC_2]; decide
    have nm : ¬ (flM k 3) 246 16 = 0 := by rw [flM_16]; decide
    refine ⟨flC h 3, flM k 3, ?_, ?_, Or.inr ⟨fl_R (by omega) t, flC_e.b (okD_S.2 R h k d)⟩, flC_e, flM_e⟩
    · rw [if_pos (show nI c = (6 : Int32) by rw [z]; rfl), show (3 : Int32) = nI 3 from rfl, fl_C t.c, bd_e, f_take nf, bd_e]
    · rw [if_pos (show nI c = (6 : Int32) by rw [z]; rfl), show (3 : Int32) = nI 3 from rfl, fl_M t.m, bd_e, fm_must nm, bd_e]
  · refine ⟨h1, k1, ?_, ?_, Or.inl ⟨n3, R, okD_S.mv n4 n5 d, by omega⟩, n4, n5⟩
    · rw [if_neg (show ¬ nI c = (6 : Int32) from nI_ne (b := 6) (by omega) (by omega) z), c_take1 t.c rfl n1, bd_e]
    · rw [if_neg (show ¬ nI c = (6 : Int32) from nI_ne (b := 6) (by omega) (by omega) z), m_must1 t.m n2, bd_e]
theorem o_sheet {c : Nat} {h k : Hp} (hc : c ≤ 6) (t : tokR h k) {R : Rw} (d : DSc c R h k) {e : Nat} (he : 1 ≤ e ∧ e ≤ 5) (q1 : fX4_kindOfSort (h 205 5) h = some (nI e, h)) (q2 : fX7_kindBy (k 246 15) k = some (nI e, k)) {h1 k1 : Hp} (n1 : fX4_nextToken h = some ((), h1)) (n2 : fX7_nextToken k = some ((), k1)) (n3 : tokR h1 k1) (n4 : eC h h1) (n5 : eM k k1) : ∃ h2 k2, fX4_readSheet h = some ((), h2) ∧ fX7_readSheet k = some ((), k2) ∧ rdP (DSc (c + 1)) h2 k2 ∧ eD h h2 ∧ eN k k2 := by
  obtain ⟨hA, kA, a1, a2, a3, a4, a5⟩ := sheet_a hc t d he q1 q2 n1 n2 n3 n4 n5
  have ok1 : okD (fun R h k => DSc c R h k ∧ c < 6) := okD_S.and (fun _ => c < 6)
  obtain ⟨x1, y1, hB, kB, b1, b2, b3, b4, b5⟩ := op_num (a1 := 0) (a2 := hA 7 7 - 1) (b1 := 0) (b2 := kA 251 (2 : Int32).toNatClampNeg - 1) (fun _ => 0) (fun R => R 2 - 1) ok1 (fun R d => by
    obtain ⟨⟨d1, d2, d3, -⟩, -⟩ := d
    have p2 := d3.2.2.1
    have e2 : kA 251 (2 : Int32).toNatClampNeg = I (R 2) := d1 2 (by omega)
    exact ⟨⟨rfl, by rw [d2.1.1, I_1, I_sub], rfl, by rw [e2, I_1, I_sub]⟩, by omega, by omega⟩) a3
  have ok2 := ok1.and (fun R => ∃ v, (0 : Int) ≤ v ∧ v ≤ R 2 - 1 ∧ x1 = I v ∧ y1 = I v)
  obtain ⟨hC, kC, d1, d2, d3, d4, d5⟩ := op_sign ok2 sg44 b3.p
  obtain ⟨x2, y2, hE, kE, e1, e2, e3, e4, e5⟩ := op_num (a1 := 1) (a2 := 5) (b1 := 1) (b2 := 5) (fun _ => 1) (fun _ => 5) ok2 (fun R d => ⟨⟨rfl, rfl, rfl, rfl⟩, by omega, by omega⟩) d3
  have ok3 := ok2.and (fun R => ∃ v, (1 : Int) ≤ v ∧ v ≤ 5 ∧ x2 = I v ∧ y2 = I v)
  obtain ⟨hF, kF, f1, f2, f3, f4, f5⟩ := op_sign ok3 sg44 e3.p
  obtain ⟨x3, y3, hG, kG, g1, g2, g3, g4, g5⟩ := op_num (a1 := 1) (a2 := 9) (b1 := 1) (b2 := 9) (fun _ => 1) (fun _ => 9) ok3 (fun R d => ⟨⟨rfl, rfl, rfl, rfl⟩, by omega, by omega⟩) f3
  have ok4 := ok3.and (fun R => ∃ v, (1 : Int) ≤ v ∧ v ≤ 9 ∧ x3 = I v ∧ y3 = I v)
  obtain ⟨hJ, kJ, j1, j2, j3, j4, j5⟩ := op_sign ok4 sg59 g3.p
  have oC : eD h hJ := ((((a4.tr b4).tr d4).tr (e4.tr f4)).tr (g4.tr j4)).d
  have oM : eN k kJ := ((((a5.tr b5).tr d5).tr (e5.tr f5)).tr (g5.tr j5)).n
  have uC : fX4_readSheet h = bd (fX2_addSheet 7 (nI e) x1 x2 x3 hJ) fun _ hh83 => some ((), hh83) := by
    rw [a1, b1, bd_e, show (44 : Int32) = nI 44 from rfl, show (59 : Int32) = nI 59 from rfl, d1, bd_e, e1, bd_e, f1, bd_e, g1, bd_e, j1, bd_e]
  rw [show (44 : Int32) = nI 44 from rfl, show (59 : Int32) = nI 59 from rfl, b2, bd_e, d2, bd_e, e2, bd_e, f2, bd_e, g2, bd_e, j2, bd_e] at a2
  rcases j3 with ⟨tJ, RJ, ⟨⟨⟨⟨D, c6⟩, va, a01, a02, rfl, rfl⟩, vb, b01, b02, rfl, rfl⟩, vc, c01, c02, rfl, rfl⟩⟩ | ⟨f, b⟩
  · have r0 := D.2.2.2.1
    have e12 : hJ 7 12 = nI c := by rw [D.2.1.2.2.1, r0, I_nat]
    have k0 : kJ 251 (0 : Int32).toNatClampNeg = nI c := by rw [show kJ 251 (0 : Int32).toNatClampNeg = I (RJ 0) from D.1 0 (by omega), r0, I_nat]
    have tn : (RJ 0).toNat = c := by omega
    rw [if_pos tJ.m, k0, ix14, lk_e, ib50 a251 (by omega), chk_t, cl_n (by omega), lk_e, show (1 : Int32) = nI 1 from rfl, show (2 : Int32) = nI 2 from rfl, show (3 : Int32) = nI 3 from rfl, show (4 : Int32) = nI 4 from rfl, show (5 : Int32) = nI 5 from rfl, ixk, ixk, ixk, ixk, ixk, ib50 a251 (by omega), chk_t, cl_n (by omega), lk_e, ib50 a251 (by omega), chk_t, cl_n (by omega), lk_e, ib50 a251 (by omega), chk_t, cl_n (by omega), lk_e, ib50 a251 (by omega), chk_t, cl_n (by omega), lk_e, ib50 a251 (by omega), chk_t, cl_n (by omega), lk_e, show (0 : Int32).toNatClampNeg = 0 from rfl, g_o (by omega), g_o (by omega), g_o (by omega), g_o (by omega), g_o (by omega), g_o (by omega), show kJ 251 0 = nI c from k0, ixk, lk_e] at a2
    refine ⟨_, _, by rw [uC, c_as c6 e12, bd_e], a2, Or.inl ⟨tJ.cg (fun i j q => adC_5 (by omega)) (fun i j q => by rw [g_x (by omega), g_x (by omega), g_x (by omega), g_x (by omega), g_x (by omega), g_x (by omega), g_x (by omega)]), asR RJ e va vb vc, ?_, ?_, DP_as D.2.2.1 (by omega) (by omega) (by omega) (by omega) (by omega), by rw [asR_0, r0]; omega, by rw [asR_ne (by omega) (by omega)]; exact D.2.2.2.2⟩, oC.tr adC_e, ((((((oM.up).up).up).up).up).up).up⟩
    · have m := ((((((M0.up (j := 14 + 6 * c) (v := (e : Int)) D.1).up (j := 15 + 6 * c) (v := va)).up (j := 16 + 6 * c) (v := vb)).up (j := 17 + 6 * c) (v := vc)).up (j := 18 + 6 * c) (v := 0)).up (j := 19 + 6 * c) (v := 1)).up (j := 0) (v := ((c + 1 : Nat) : Int))
      unfold asR
      rw [tn, r0]
      rw [← I_nat, ← I_nat, show (14 + 6 * c + 1 = 15 + 6 * c) by omega, show (14 + 6 * c + 2 = 16 + 6 * c) by omega, show (14 + 6 * c + 3 = 17 + 6 * c) by omega, show (14 + 6 * c + 4 = 18 + 6 * c) by omega, show (14 + 6 * c + 5 = 19 + 6 * c) by omega] at *
      exact m
    · rw [I_nat e]
      exact DH_as D.2.1 D.2.2.1 (by omega) r0
  · obtain ⟨h9, s1, s2, s3, s4⟩ := f_as (a := nI e) (b := x1) (c := x2) (d := x3) b
    rw [if_neg f.m] at a2
    exact ⟨h9, kJ, by rw [uC, s1, bd_e], a2, Or.inr ⟨f.cg s4 (fun j => rfl), s2⟩, oC.tr s3, oM⟩
