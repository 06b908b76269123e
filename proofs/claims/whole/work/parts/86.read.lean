/-! ===== reading: winds ===== -/
/-- the loops of reading, with nothing behind them -/
def rdW_L : Nat → Int32 → Hp → Option (Unit × Hp)
  | 0, _, _ => none
  | n + 1, v1, h =>
    if (6 : Int32) ≤ v1 then some ((), h)
    else if (h 205 2) = 0 then
      if (h 205 5) = (103 : Int32) then
        bd (fX4_readWind h) fun _ hh21 => lk (v1 + (1 : Int32)) fun x28 => rdW_L n x28 hh21
      else some ((), h)
    else some ((), h)
def rdW (h : Hp) : Option (Unit × Hp) := bd (fX4_readWind h) fun _ hh2 => rdW_L 4096 (0 : Int32) hh2
def rdS_L : Nat → Int32 → Hp → Option (Unit × Hp)
  | 0, _, _ => none
  | n + 1, v1, h =>
    if (6 : Int32) ≤ v1 then some ((), h)
    else if (h 205 2) = 0 then
      if (h 205 5) = (258 : Int32) then some ((), h)
      else bd (fX4_readSheet h) fun _ hh21 => lk (v1 + (1 : Int32)) fun x28 => rdS_L n x28 hh21
    else some ((), h)
def rdS (h : Hp) : Option (Unit × Hp) := bd (fX4_readSheet h) fun _ hh2 => rdS_L 4096 (0 : Int32) hh2
theorem bd_as {ρ σ α : Type} {a : Option (ρ × Hp)} {f : ρ → Hp → Option (σ × Hp)} {g : σ → Hp → Option α} : bd (bd a f) g = bd a fun r h => bd (f r h) g := by
  cases a <;> rfl
theorem rdW_e {K : Hp → Option (Unit × Hp)} : ∀ (n : Nat) (v : Int32) (h : Hp), fX4_read_L31 K n v h = bd (rdW_L n v h) fun _ hh => K hh := by
  intro n
  induction n with
  | zero => intro v h; rw [fX4_read_L31, rdW_L]; rfl
  | succ n ih =>
    intro v h
    rw [fX4_read_L31, rdW_L]
    by_cases a : (6 : Int32) ≤ v
    · rw [if_pos a, if_pos a, bd_e]
    · rw [if_neg a, if_neg a]
      by_cases b : h 205 2 = 0
      · rw [if_pos b, if_pos b]
        by_cases c : h 205 5 = (103 : Int32)
        · rw [if_pos c, if_pos c, bd_as]
          congr 1
          funext r hh
          rw [lk_e, lk_e, ih]
        · rw [if_neg c, if_neg c, bd_e]
      · rw [if_neg b, if_neg b, bd_e]
theorem rdS_e {K : Hp → Option (Unit × Hp)} : ∀ (n : Nat) (v : Int32) (h : Hp), fX4_read_L69 K n v h = bd (rdS_L n v h) fun _ hh => K hh := by
  intro n
  induction n with
  | zero => intro v h; rw [fX4_read_L69, rdS_L]; rfl
  | succ n ih =>
    intro v h
    rw [fX4_read_L69, rdS_L]
    by_cases a : (6 : Int32) ≤ v
    · rw [if_pos a, if_pos a, bd_e]
    · rw [if_neg a, if_neg a]
      by_cases b : h 205 2 = 0
      · rw [if_pos b, if_pos b]
        by_cases c : h 205 5 = (258 : Int32)
        · rw [if_pos c, if_pos c, bd_e]
        · rw [if_neg c, if_neg c, bd_as]
          congr 1
          funext r hh
          rw [lk_e, lk_e, ih]
      · rw [if_neg b, if_neg b, bd_e]
theorem rd_tail (F : Nat) (G : Hp → Option (Unit × Hp)) (h : Hp) : (bd (fX4_readWind h) fun _ hh38 => fX4_read_L31 (fun hh68 => bd (fX4_readSheet hh68) fun _ hh77 => fX4_read_L69 G F (0 : Int32) hh77) F (0 : Int32) hh38) = bd (bd (fX4_readWind h) fun _ hh2 => rdW_L F (0 : Int32) hh2) fun _ hh38 => bd (bd (fX4_readSheet hh38) fun _ hh2 => rdS_L F (0 : Int32) hh2) fun _ hh46 => G hh46 := by
  rw [bd_as]
  congr 1
  funext _ a
  rw [rdW_e]
  congr 1
  funext _ b
  rw [bd_as]
  congr 1
  funext _ c
  exact rdS_e _ _ _
theorem rd_tail2 (G : Hp → Option (Unit × Hp)) (h : Hp) : (bd (fX4_readWind h) fun _ hh38 => fX4_read_L31 (fun hh68 => bd (fX4_readSheet hh68) fun _ hh77 => fX4_read_L69 G 4096 (0 : Int32) hh77) 4096 (0 : Int32) hh38) = bd (rdW h) fun _ hh38 => bd (rdS hh38) fun _ hh46 => G hh46 := by
  unfold rdW rdS
  exact rd_tail 4096 G h
def DH (R : Rw) (h : Hp) : Prop := (h 7 7 = I (R 2) ∧ h 7 8 = I (R 3) ∧ h 7 9 = I (R 4) ∧ h 7 10 = I (R 5)) ∧ h 7 11 = I (R 1) ∧ h 7 12 = I (R 0) ∧ h 7 13 = 0 ∧ h 7 14 = nI (msk R) ∧ h 7 15 = 0 ∧ (∀ w : Nat, (w : Int) < R 1 → h 8 w = I (R (8 + w))) ∧ (∀ s, s < nS R → h 9 s = I (R (14 + 6 * s)) ∧ h 10 s = I (R (15 + 6 * s)) ∧ h 11 s = I (R (16 + 6 * s)) ∧ h 12 s = I (R (17 + 6 * s))) ∧ (∀ s, s < 6 → h 13 s = 0)
def DP (R : Rw) : Prop := (0 ≤ R 0 ∧ R 0 ≤ 6) ∧ (0 ≤ R 1 ∧ R 1 ≤ 6) ∧ (6 ≤ R 2 ∧ R 2 ≤ 16) ∧ (0 ≤ R 3 ∧ R 3 < R 2) ∧ (0 ≤ R 4 ∧ R 4 < R 2) ∧ (0 ≤ R 5 ∧ R 5 ≤ 15) ∧ R 6 = 0 ∧ R 7 = 0 ∧ (∀ w : Nat, (w : Int) < R 1 → 0 ≤ R (8 + w) ∧ R (8 + w) ≤ 4) ∧ (∀ s, s < nS R → ShOk R s ∧ R (18 + 6 * s) = 0 ∧ R (19 + 6 * s) = 1)
theorem DH.cg {R : Rw} {h h1 : Hp} (d : DH R h) (a : ∀ i j, 7 ≤ i → i < 14 → h1 i j = h i j) : DH R h1 := by
  obtain ⟨⟨b1, b2, b3, b4⟩, b5, b6, b7, b8, b9, b10, b11, b12⟩ := d
  have a7 := fun j => a 7 j (by omega) (by omega)
  exact ⟨⟨by rw [a7]; exact b1, by rw [a7]; exact b2, by rw [a7]; exact b3, by rw [a7]; exact b4⟩, by rw [a7]; exact b5, by rw [a7]; exact b6, by rw [a7]; exact b7, by rw [a7]; exact b8, by rw [a7]; exact b9, fun w hw => by rw [a 8 w (by omega) (by omega)]; exact b10 w hw, fun s hs => by rw [a 9 s (by omega) (by omega), a 10 s (by omega) (by omega), a 11 s (by omega) (by omega), a 12 s (by omega) (by omega)]; exact b11 s hs, fun s hs => by rw [a 13 s (by omega) (by omega)]; exact b12 s hs⟩
theorem DH.b {R : Rw} {h : Hp} (d : DH R h) (p : DP R) : bnd h := by
  obtain ⟨-, b5, b6, -⟩ := d
  obtain ⟨p0, p1, -⟩ := p
  exact ⟨⟨(R 1).toNat, by omega, by rw [b5, I_n (by omega)]⟩, ⟨(R 0).toNat, by omega, by rw [b6, I_n (by omega)]⟩⟩
/-- winds: c of them, no sheet yet -/
def DWc (c : Nat) (R : Rw) (h k : Hp) : Prop := M0 k 251 R ∧ DH R h ∧ DP R ∧ R 1 = c ∧ R 0 = 0
theorem okD_W {c : Nat} : okD (DWc c) := ⟨fun R h k h1 k1 a b d => ⟨fun j hj => by rw [b]; exact d.1 j hj, d.2.1.cg (fun i j q1 q2 => a i j (by omega)), d.2.2⟩, fun R h k d => d.2.1.b d.2.2.1⟩
theorem law_W {R : Rw} {h k : Hp} (d : LD 4 R h k) : DWc 0 R h k := by
  obtain ⟨d1, ⟨c1, c2, c3, c4, c5, c6⟩, ⟨e0, e1, e6, e7⟩, d4, d5, d6, d7, d8⟩ := d
  have n0 : nS R = 0 := by unfold nS; rw [e0]; rfl
  refine ⟨d1, ⟨⟨d4 0 (by omega), d4 1 (by omega), d4 2 (by omega), d4 3 (by omega)⟩, by rw [c1, e1]; rfl, by rw [c2, e0]; rfl, c3, by rw [c4]; unfold msk; rw [n0]; rfl, c5, fun w hw => absurd hw (by omega), fun s hs => absurd hs (by omega), c6⟩, ⟨by omega, by omega, d5 (by omega), d6 (by omega), d7 (by omega), d8 (by omega), e6, e7, fun w hw => absurd hw (by omega), fun s hs => absurd hs (by omega)⟩, by omega, e0⟩
def aw (R : Rw) (v : Int) : Rw := va_up (va_up R (8 + (R 1).toNat) v) 1 (R 1 + 1)
theorem aw_1 {R : Rw} {v : Int} : aw R v 1 = R 1 + 1 := upR_at
theorem aw_ne {R : Rw} {v : Int} {j : Nat} (h1 : j ≠ 1) (h2 : j ≠ 8 + (R 1).toNat) : aw R v j = R j := by unfold aw; rw [upR_ne h1, upR_ne h2]
theorem aw_w {R : Rw} {v : Int} : aw R v (8 + (R 1).toNat) = v := by unfold aw; rw [upR_ne (by omega), upR_at]
theorem DP_aw {R : Rw} {v : Int} (p : DP R) (h0 : R 0 = 0) (h1 : R 1 < 6) (hv : 0 ≤ v ∧ v ≤ 4) : DP (aw R v) := by
  obtain ⟨p0, p1, p2, p3, p4, p5, p6, p7, p8, p9⟩ := p
  have o : ∀ j, j < 8 → j ≠ 1 → aw R v j = R j := fun j a b => aw_ne b (by omega)
  refine ⟨by rw [o 0 (by omega) (by omega)]; exact p0, by rw [aw_1]; omega, by rw [o 2 (by omega) (by omega)]; exact p2, by rw [o 3 (by omega) (by omega), o 2 (by omega) (by omega)]; exact p3, by rw [o 4 (by omega) (by omega), o 2 (by omega) (by omega)]; exact p4, by rw [o 5 (by omega) (by omega)]; exact p5, by rw [o 6 (by omega) (by omega)]; exact p6, by rw [o 7 (by omega) (by omega)]; exact p7, fun w hw => ?_, fun s hs => ?_⟩
  · rw [aw_1] at hw
    by_cases z : w = (R 1).toNat
    · subst z; rw [aw_w]; exact hv
    · rw [aw_ne (by omega) (by omega)]; exact p8 w (by omega)
  · unfold nS at hs
    rw [o 0 (by omega) (by omega), h0] at hs
    exact absurd hs (Nat.not_lt_zero _)
theorem DH_aw {R : Rw} {v : Int} {h : Hp} (d : DH R h) (p : DP R) (h0 : R 0 = 0) (h1 : R 1 < 6) : DH (aw R v) (up2 (up2 h 8 (R 1).toNat (I v)) 7 11 (I (R 1 + 1))) := by
  obtain ⟨⟨b1, b2, b3, b4⟩, b5, b6, b7, b8, b9, b10, b11, b12⟩ := d
  have p1 := p.2.1
  have o : ∀ j, j < 8 → j ≠ 1 → aw R v j = R j := fun j a b => aw_ne b (by omega)
  have u : ∀ j, j ≠ 11 → up2 (up2 h 8 (R 1).toNat (I v)) 7 11 (I (R 1 + 1)) 7 j = h 7 j := fun j q => by rw [g_o q, g_x (by omega)]
  have n0 : nS (aw R v) = 0 := by unfold nS; rw [o 0 (by omega) (by omega), h0]; rfl
  have n1 : nS R = 0 := by unfold nS; rw [h0]; rfl
  refine ⟨⟨by rw [u 7 (by omega), o 2 (by omega) (by omega)]; exact b1, by rw [u 8 (by omega), o 3 (by omega) (by omega)]; exact b2, by rw [u 9 (by omega), o 4 (by omega) (by omega)]; exact b3, by rw [u 10 (by omega), o 5 (by omega) (by omega)]; exact b4⟩, by rw [up_s, aw_1], by rw [u 12 (by omega), o 0 (by omega) (by omega)]; exact b6, by rw [u 13 (by omega)]; exact b7, ?_, by rw [u 15 (by omega)]; exact b9, fun w hw => ?_, fun s hs => absurd hs (by omega), fun s hs => by rw [g_x (by omega), g_x (by omega)]; exact b12 s hs⟩
  · rw [u 14 (by omega), b8]
    unfold msk
    rw [n0, n1]
    rfl
  · rw [aw_1] at hw
    rw [g_x (by omega)]
    by_cases z : w = (R 1).toNat
    · subst z; rw [up_s, aw_w]
    · rw [g_o z, aw_ne (by omega) (by omega)]; exact b10 w (by omega)
/-- the class has the wind, the reference not yet -/
def DWv (c : Nat) (y : Int32) (R : Rw) (h k : Hp) : Prop := ∃ R0 v, R = aw R0 v ∧ M0 k 251 R0 ∧ DH R h ∧ DP R ∧ R0 1 = (c : Int) ∧ R0 0 = 0 ∧ c < 6 ∧ y = I v
theorem okD_V {c : Nat} {y : Int32} : okD (DWv c y) := ⟨fun R h k h1 k1 a b d => by
  obtain ⟨R0, v, e1, e2, e3, e4⟩ := d
  exact ⟨R0, v, e1, fun j hj => by rw [b]; exact e2 j hj, e3.cg (fun i j q1 q2 => a i j (by omega)), e4⟩, fun R h k d => by
  obtain ⟨R0, v, e1, e2, e3, e4, e5⟩ := d
  exact e3.b e4⟩
/-- a letter g for which there is room -/
theorem wind_a {c : Nat} {h k : Hp} (hc : c ≤ 6) (s : rdP (DWc c) h k) : ∃ h1 k1, (fX4_readWind h = bd (fX4_takeNumber (0 : Int32) (4 : Int32) h1) fun x18 hh19 => bd (fX2_addWind 7 x18 hh19) fun _ hh27 => bd (fX4_take (59 : Int32) hh27) fun _ hh35 => some ((), hh35)) ∧ (fX7_readWind k = bd (fX7_number (0 : Int32) (4 : Int32) k1) fun x34 kk35 => bd (fX7_mustSign (59 : Int32) kk35) fun _ kk45 =>
      if (kk45 246 16) = 0 then
        chk (inb (1 : Int32) (lenM 251)) <|
        chk (inb ((8 : Int32) + (kk45 251 (1 : Int32).toNatClampNeg)) (lenM 251)) <|
        lk (up2 kk45 251 ((8 : Int32) + (kk45 251 (1 : Int32).toNatClampNeg)).toNatClampNeg x34) fun kk61 =>
        chk (inb (1 : Int32) (lenM 251)) <|
        chk (inb (1 : Int32) (lenM 251)) <|
        lk (up2 kk61 251 (1 : Int32).toNatClampNeg ((kk61 251 (1 : Int32).toNatClampNeg) + (1 : Int32))) fun kk71 =>
        some ((), kk71)
      else
        some ((), kk45)) ∧ rdP (fun R h k => DWc c R h k ∧ c < 6) h1 k1 ∧ eC h h1 ∧ eM k k1 := by
  have lt : isLt 103 := by unfold isLt; omega
  unfold fX4_readWind fX7_readWind
  dsimp only [jp_e]
  rw [show (103 : Int32) = nI 103 from rfl]
  rcases s with ⟨t, R, d⟩ | ⟨f, b⟩
  · have e11 : h 7 11 = nI c := by rw [d.2.1.2.1, d.2.2.2.1, I_nat]
    have k1 : k 251 (1 : Int32).toNatClampNeg = nI c := by rw [show k 251 (1 : Int32).toNatClampNeg = I (R 1) from d.1 1 (by omega), d.2.2.2.1, I_nat]
    rcases o_isl lt t with ⟨a1, a2, h1, k2, a3, a4, a5, a6, a7⟩ | ⟨a1, a2⟩
    · by_cases z : c = 6
      · have nf : ¬ (flC h 3) 205 2 = 0 := by rw [flC_2]; decide
        have nm : ¬ (flM k 3) 246 16 = 0 := by rw [flM_16]; decide
        refine ⟨flC h 3, flM k 3, ?_, ?_, Or.inr ⟨fl_R (by omega) t, flC_e.b (okD_W.2 R h k d)⟩, flC_e, flM_e⟩
        · rw [if_pos a1, e11, if_pos (show nI c = (6 : Int32) by rw [z]; rfl), show (3 : Int32) = nI 3 from rfl, fl_C t.c, bd_e, f_take nf, bd_e]
        · rw [a2, bd_e, if_neg (by decide), lb1 a251, chk_t, k1, if_pos (show nI c = (6 : Int32) by rw [z]; rfl), show (3 : Int32) = nI 3 from rfl, fl_M t.m, bd_e, fm_let nm, bd_e, fm_must nm, bd_e]
      · refine ⟨h1, k2, ?_, ?_, Or.inl ⟨a5, R, okD_W.mv a6 a7 d, by omega⟩, a6, a7⟩
        · rw [if_pos a1, e11, if_neg (show ¬ nI c = (6 : Int32) from nI_ne (b := 6) (by omega) (by omega) z), c_take1 t.c a1 a3, bd_e]
        · rw [a2, bd_e, if_neg (by decide), lb1 a251, chk_t, k1, if_neg (show ¬ nI c = (6 : Int32) from nI_ne (b := 6) (by omega) (by omega) z), a2, bd_e, m_must1 t.m a4, bd_e]
    · refine ⟨flC h 1, flM k 1, ?_, ?_, Or.inr ⟨fl_R (by omega) t, flC_e.b (okD_W.2 R h k d)⟩, flC_e, flM_e⟩
      · rw [if_neg a1, c_take0 t.c a1, bd_e]
      · rw [a2, bd_e, if_pos rfl, a2, bd_e, m_must0 t.m, bd_e]
  · refine ⟨h, k, ?_, ?_, Or.inr ⟨f, b⟩, eC.rf, eM.rf⟩
    · rw [f_fail f.c, bd_e, f_take f.c, bd_e]
      by_cases z : h 205 5 = nI 103
      · rw [if_pos z, ite_self]
      · rw [if_neg z]
    · rw [fm_let f.m, bd_e, if_pos rfl, fm_let f.m, bd_e, fm_must f.m, bd_e]
theorem c_aw {h : Hp} {w : Nat} {x : Int32} (hw : w < 6) (e : h 7 11 = nI w) : fX2_addWind 7 x h = some ((), up2 (up2 h 8 w x) 7 11 (nI (w + 1))) := by
  unfold fX2_addWind
  rw [e, if_neg (by rw [t_le, nI_toInt (by omega)]; show ¬ (6 : Int) ≤ _; omega), show lenC (7 + 1) = 6 from rfl, inb_n (by omega) (by omega), chk_t, cl_n (by omega), lk_e, g_x (by omega), e, nI_1, lk_e]
theorem c_aw6 {h : Hp} {w : Nat} {x : Int32} (hw : w = 6) (e : h 7 11 = nI w) : fX2_addWind 7 x h = some ((), h) := by
  unfold fX2_addWind
  rw [e, if_pos (by rw [hw]; decide)]
theorem o_wind {c : Nat} {h k : Hp} (hc : c ≤ 6) (s : rdP (DWc c) h k) : ∃ h1 k1, fX4_readWind h = some ((), h1) ∧ fX7_readWind k = some ((), k1) ∧ rdP (DWc (c + 1)) h1 k1 ∧ eD h h1 ∧ eN k k1 := by
  obtain ⟨h1, k1, a1, a2, a3, a4, a5⟩ := wind_a hc s
  have ok1 : okD (fun R h k => DWc c R h k ∧ c < 6) := ⟨fun R h k h1 k1 a b d => ⟨okD_W.1 R h k h1 k1 a b d.1, d.2⟩, fun R h k d => okD_W.2 R h k d.1⟩
  obtain ⟨x, y, h2, k2, b1, b2, b3, b4, b5⟩ := op_num (a1 := 0) (a2 := 4) (b1 := 0) (b2 := 4) (fun _ => 0) (fun _ => 4) ok1 (fun R d => ⟨⟨rfl, rfl, rfl, rfl⟩, by omega, by omega⟩) a3
  have ad : ∃ h3, fX2_addWind 7 x h2 = some ((), h3) ∧ rdP (DWv c y) h3 k2 ∧ eD h2 h3 := by
    rcases b3 with ⟨t, R, v, ⟨d, c6⟩, v1, v2, rfl, rfl⟩ | ⟨f, b⟩
    · have d1 := d.2.2.2.1
      have p1 := d.2.2.1.2.1
      refine ⟨_, c_aw (w := c) c6 (by rw [d.2.1.2.1, d1, I_nat]), Or.inl ⟨t.cg (fun i j q => by rw [g_x (by omega), g_x (by omega)]) (fun i j q => rfl), aw R v, R, v, rfl, d.1, ?_, DP_aw d.2.2.1 d.2.2.2.2 (by omega) ⟨v1, v2⟩, d1, d.2.2.2.2, c6, rfl⟩, (eD.rf.up (by omega)).up (by omega)⟩
      have := DH_aw (v := v) d.2.1 d.2.2.1 d.2.2.2.2 (by omega)
      rw [d1, show ((c : Int)).toNat = c from rfl, show (c : Int) + 1 = ((c + 1 : Nat) : Int) from rfl, ← I_nat] at this
      exact this
    · obtain ⟨⟨w, w1, w2⟩, b2⟩ := b
      by_cases z : w = 6
      · exact ⟨h2, c_aw6 z w2, Or.inr ⟨f, ⟨w, w1, w2⟩, b2⟩, eD.rf⟩
      · refine ⟨_, c_aw (by omega) w2, Or.inr ⟨f.cg (fun j => by rw [g_x (by omega), g_x (by omega)]) (fun j => rfl), ⟨w + 1, by omega, up_s⟩, ?_⟩, (eD.rf.up (by omega)).up (by omega)⟩
        rw [g_o (by omega), g_x (by omega)]
        exact b2
  obtain ⟨h3, d1, d2, d3⟩ := ad
  obtain ⟨h4, k4, e1, e2, e3, e4, e5⟩ := op_sign okD_V sg59 d2
  have u1 : fX4_readWind h = some ((), h4) := by
    rw [a1, b1, bd_e, d1, bd_e, show (59 : Int32) = nI 59 from rfl, e1, bd_e]
  have oC : eD h h4 := ((a4.d.tr b4.d).tr d3).tr e4.d
  have oM : eN k k4 := (a5.n.tr b5.n).tr e5.n
  rcases e3 with ⟨t, R, R0, v, rfl, m0, dh, dp, r1, r0, c6, rfl⟩ | ⟨f, b⟩
  · have q1 : k4 251 (1 : Int32).toNatClampNeg = nI c := by rw [show k4 251 (1 : Int32).toNatClampNeg = I (R0 1) from m0 1 (by omega), r1, I_nat]
    refine ⟨h4, up2 (up2 k4 251 (8 + c) (I v)) 251 1 (nI (c + 1)), u1, ?_, Or.inl ⟨t.cg (fun i j q => rfl) (fun i j q => by rw [g_x (by omega), g_x (by omega)]), aw R0 v, ?_, dh, dp, by rw [aw_1, r1]; omega, by rw [aw_ne (by omega) (by omega)]; exact r0⟩, oC, (oM.up).up⟩
    · rw [a2, b2, bd_e, show (59 : Int32) = nI 59 from rfl, e2, bd_e, if_pos t.m, lb1 a251, chk_t, q1, e8, ib50 a251 (by omega), chk_t, lk_e, chk_t, cl_n (by omega), show (1 : Int32).toNatClampNeg = 1 from rfl, g_o (by omega), show k4 251 1 = nI c from q1, nI_1, chk_t, lk_e]
    · have := (M0.up (j := 8 + c) (v := v) m0).up (j := 1) (v := ((c + 1 : Nat) : Int))
      rw [← I_nat] at this
      unfold aw
      rw [r1, show ((c : Int)).toNat = c from rfl]
      exact this
  · refine ⟨h4, k4, u1, ?_, Or.inr ⟨f, b⟩, oC, oM⟩
    rw [a2, b2, bd_e, show (59 : Int32) = nI 59 from rfl, e2, bd_e, if_neg f.m]
/-- some winds -/
def DWx (R : Rw) (h k : Hp) : Prop := ∃ c, 1 ≤ c ∧ DWc c R h k
theorem winds_L {α : Type} {K : Hp → Option α} (L : Nat → Hp → Option α) (hL : ∀ n k, L (n + 1) k = bd (fX7_isLetter (103 : Int32) k) fun x164 kk165 => if x164 = 0 then K kk165 else bd (fX7_readWind kk165) fun _ kk176 => L n kk176) : ∀ (f i : Nat) (h k : Hp), i ≤ 6 → 6 < f + i → rdP (DWc (1 + i)) h k → ∃ h1 k1, rdW_L f (nI i) h = some ((), h1) ∧ L f k = K k1 ∧ rdP DWx h1 k1 ∧ eD h h1 ∧ eN k k1 := by
  have lt : isLt 103 := by unfold isLt; omega
  intro f
  induction f with
  | zero => intro i h k a b; omega
  | succ f ih =>
    intro i h k a b s
    rw [rdW_L, hL, show (103 : Int32) = nI 103 from rfl]
    have fl : ∀ (F : faR h k) (b : bnd h), ∃ h1 k1, (if (6 : Int32) ≤ nI i then some ((), h) else if h 205 2 = 0 then if h 205 5 = nI 103 then bd (fX4_readWind h) fun _ hh21 => lk (nI i + 1) fun x28 => rdW_L f x28 hh21 else some ((), h) else some ((), h)) = some ((), h1) ∧ (bd (fX7_isLetter (nI 103) k) fun x164 kk165 => if x164 = 0 then K kk165 else bd (fX7_readWind kk165) fun _ kk176 => L f kk176) = K k1 ∧ rdP DWx h1 k1 ∧ eD h h1 ∧ eN k k1 := by
      intro F bb
      refine ⟨h, k, ?_, ?_, Or.inr ⟨F, bb⟩, eD.rf, eN.rf⟩
      · rw [if_neg F.c, ite_self]
      · rw [fm_let F.m, bd_e, if_pos rfl]
    rcases s with ⟨t, R, d⟩ | ⟨F, bb⟩
    · have d1 := d.2.2.2.1
      have p1 := d.2.2.1.2.1
      have i6 : i < 6 := by omega
      rw [if_neg (by rw [t_le, nI_toInt (by omega)]; show ¬ (6 : Int) ≤ _; omega), if_pos t.c]
      rcases o_isl lt t with ⟨a1, a2, -⟩ | ⟨a1, a2⟩
      · obtain ⟨h2, k2, b1, b2, b3, b4, b5⟩ := o_wind (c := 1 + i) (by omega) (Or.inl ⟨t, R, d⟩)
        rw [if_pos a1, b1, bd_e, lk_e, nI_1, a2, bd_e, if_neg (by decide), b2, bd_e]
        obtain ⟨h3, k3, e1, e2, e3, e4, e5⟩ := ih (i + 1) h2 k2 (by omega) (by omega) (by rw [show 1 + (i + 1) = 1 + i + 1 by omega]; exact b3)
        exact ⟨h3, k3, e1, e2, e3, b4.tr e4, b5.tr e5⟩
      · rw [if_neg a1, a2, bd_e, if_pos rfl]
        exact ⟨h, k, rfl, rfl, Or.inl ⟨t, R, 1 + i, by omega, d⟩, eD.rf, eN.rf⟩
    · exact fl F bb
