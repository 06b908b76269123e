/-! ===== by turns: the reference's number is the class's ===== -/
def nv (L : Int) (V : Int → Int) (x : Int) : Int := if 0 ≤ x ∧ x < L then V x else -1000000
theorem mnI_N {v : Int} : mnI (-1000000) v = v := by unfold mnI; split <;> omega
theorem mnI_N2 {v : Int} : mnI v (-1000000) = v := by unfold mnI; rw [if_pos rfl]
theorem mnI_m {a b : Int} (h1 : 0 ≤ a) (h2 : 0 ≤ b) : mnI a b = min a b := by
  unfold mnI
  rw [if_neg (by omega), if_neg (by omega)]
  by_cases q : a ≤ b
  · rw [if_pos q]; omega
  · rw [if_neg q]; omega
theorem mxI_N {v : Int} (h : -1000000 ≤ v) : mxI (-1000000) v = v := by unfold mxI; split <;> omega
theorem mxI_m {a b : Int} : mxI a b = max a b := by unfold mxI; split <;> omega
theorem m3_e {V : Int → Nat → Int} {L x : Int} {f : Nat} (hf : f ≤ 1) (ok : okB V L) (h1 : 0 ≤ x) (h2 : x < L) : mnI (mnI (mnI (-1000000) (nv L (fun y => V y f) (x + -1))) (nv L (fun y => V y f) (x + 0))) (nv L (fun y => V y f) (x + 1)) = wV V L x f := by
  have a := ok x f h1 h2 hf
  rw [mnI_N, show x + 0 = x by omega, show x + -1 = x - 1 by omega]
  unfold nv wV
  dsimp only
  rw [if_pos (show 0 ≤ x ∧ x < L from ⟨h1, h2⟩)]
  by_cases p : x ≤ 0
  · rw [if_neg (show ¬ (0 ≤ x - 1 ∧ x - 1 < L) by omega), mnI_N, if_pos p]
    by_cases q : L - 1 ≤ x
    · rw [if_neg (show ¬ (0 ≤ x + 1 ∧ x + 1 < L) by omega), mnI_N2, if_pos q]
    · have b := ok (x + 1) f (by omega) (by omega) hf
      rw [if_pos (show (0 ≤ x + 1 ∧ x + 1 < L) by omega), if_neg q, mnI_m (by omega) (by omega)]
  · have d := ok (x - 1) f (by omega) (by omega) hf
    rw [if_pos (show (0 ≤ x - 1 ∧ x - 1 < L) by omega), if_neg p, mnI_m (a := V (x - 1) f) (b := V x f) (by omega) (by omega)]
    by_cases q : L - 1 ≤ x
    · rw [if_neg (show ¬ (0 ≤ x + 1 ∧ x + 1 < L) by omega), mnI_N2, if_pos q]
      exact Int.min_comm _ _
    · have b := ok (x + 1) f (by omega) (by omega) hf
      rw [if_pos (show (0 ≤ x + 1 ∧ x + 1 < L) by omega), if_neg q, mnI_m (by omega) (by omega), Int.min_comm (V (x - 1) f)]
theorem wV_cg {V U : Int → Nat → Int} {L x : Int} {f g : Nat} (h : ∀ y, V y f = U y g) : wV V L x f = wV U L x g := by
  unfold wV
  rw [h, h, h]
section TE
variable {R : Rw} {t u : Nat}
theorem tv_2 {x : Int} (W : WF 999 R) : tv R t 2 x = tv R t 0 x := by
  show ov (hrN (tw (tw R)) t) x = _
  rw [tw_tw W]
  rfl
def gT (R : Rw) (t : Nat) : Int → Nat → Int := fun x f => tv R t f x
theorem ok_gT (W : WF 999 R) {L : Int} : okB (gT R t) L := fun _ _ _ _ _ => ok_tv W
def DV (R : Rw) (t u : Nat) : Int → Nat → Int := if u ≤ 3 then gT R t else cV (gT R t)
theorem ok_DV (W : WF 999 R) {L : Int} : okB (DV R t u) L := by
  unfold DV
  split
  · exact ok_gT W
  · exact ok_c (ok_gT W)
theorem aV_e {m1 m2 : Int} {c1 c2 : Nat} (h1 : 0 ≤ R 4 + m1 ∧ R 4 + m1 < R 2) (h2 : 0 ≤ R 4 + m1 + m2 ∧ R 4 + m1 + m2 < R 2) : aV R t m1 c1 m2 c2 = tv R t (c1 + c2) (R 4 + m1 + m2) := if_pos ⟨h1, h2⟩
theorem aV_n {m1 m2 : Int} {c1 c2 : Nat} (h2 : ¬ ((0 ≤ R 4 + m1 ∧ R 4 + m1 < R 2) ∧ 0 ≤ R 4 + m1 + m2 ∧ R 4 + m1 + m2 < R 2)) : aV R t m1 c1 m2 c2 = -1000000 := if_neg h2
theorem r130_n' {m1 m2 : Int} {c1 : Nat} (h2 : ¬ ((0 ≤ R 4 + m1 ∧ R 4 + m1 < R 2) ∧ 0 ≤ R 4 + m1 + m2 ∧ R 4 + m1 + m2 < R 2)) : r130 R t u m1 c1 m2 = -1000000 := by
  unfold r130
  rw [aV_n h2, aV_n h2]
  split
  · exact mxI_N (by omega)
  · rw [mxI_N (by omega)]; exact mxI_N (by omega)
theorem r130_n {m1 m2 : Int} {c1 : Nat} (h1 : ¬ (0 ≤ R 4 + m1 ∧ R 4 + m1 < R 2)) : r130 R t u m1 c1 m2 = -1000000 := r130_n' (fun z => h1 z.1)
theorem r130_e {m1 m2 : Int} {c1 : Nat} (W : WF 999 R) (hc : c1 ≤ 1) (h1 : 0 ≤ R 4 + m1 ∧ R 4 + m1 < R 2) : r130 R t u m1 c1 m2 = nv (R 2) (fun y => DV R t u y c1) (R 4 + m1 + m2) := by
  by_cases q : 0 ≤ R 4 + m1 + m2 ∧ R 4 + m1 + m2 < R 2
  · have b0 := ok_tv (t := t) (f := c1 + 0) (x := R 4 + m1 + m2) W
    have e : nv (R 2) (fun y => DV R t u y c1) (R 4 + m1 + m2) = DV R t u (R 4 + m1 + m2) c1 := if_pos q
    rw [e]
    unfold r130 DV
    rw [aV_e h1 q, aV_e h1 q, mxI_N (by omega)]
    by_cases z : u ≤ 3
    · rw [if_pos z, if_pos z]
      rfl
    · rw [if_neg z, if_neg z, mxI_m]
      show max (tv R t c1 _) (tv R t (c1 + 1) _) = max (tv R t c1 _) (tv R t (1 - c1) _)
      rcases (show c1 = 0 ∨ c1 = 1 by omega) with rfl | rfl
      · rfl
      · rw [tv_2 W]
  · rw [r130_n' (fun z => q z.2)]
    exact (if_neg q).symm
def EV (R : Rw) (t u : Nat) : Int → Nat → Int := if u ≤ 2 then DV R t u else wV (DV R t u) (R 2)
theorem ok_EV (W : WF 999 R) : okB (EV R t u) (R 2) := by
  unfold EV
  split
  · exact ok_DV W
  · exact ok_w (ok_DV W)
theorem r108_e {m1 : Int} {c1 : Nat} (W : WF 999 R) (hc : c1 ≤ 1) : r108 R t u m1 c1 = nv (R 2) (fun y => EV R t u y c1) (R 4 + m1) := by
  unfold r108 EV
  by_cases q : 0 ≤ R 4 + m1 ∧ R 4 + m1 < R 2
  · rw [r130_e W hc q, r130_e W hc q, r130_e W hc q]
    have e : nv (R 2) (fun y => (if u ≤ 2 then DV R t u else wV (DV R t u) (R 2)) y c1) (R 4 + m1) = (if u ≤ 2 then DV R t u else wV (DV R t u) (R 2)) (R 4 + m1) c1 := by
      show (if _ then _ else _) = _
      rw [if_pos q]
    rw [e]
    by_cases z : u ≤ 2
    · rw [if_pos z, if_pos z, mnI_N, show R 4 + m1 + 0 = R 4 + m1 by omega]
      show (if _ then _ else _) = _
      rw [if_pos q]
    · rw [if_neg z, if_neg z]
      exact m3_e hc (ok_DV W) q.1 q.2
  · rw [r130_n q, r130_n q, r130_n q]
    unfold nv
    rw [if_neg q]
    split
    · exact mnI_N
    · rw [mnI_N, mnI_N]; exact mnI_N
def FV (R : Rw) (t u : Nat) : Int → Nat → Int := if u ≤ 1 then EV R t u else cV (EV R t u)
theorem ok_FV (W : WF 999 R) : okB (FV R t u) (R 2) := by
  unfold FV
  split
  · exact ok_EV W
  · exact ok_c (ok_EV W)
theorem r77_e {m1 : Int} (W : WF 999 R) : r77 R t u m1 = nv (R 2) (fun y => FV R t u y 0) (R 4 + m1) := by
  unfold r77 FV
  rw [r108_e W (by omega), r108_e W (by omega)]
  unfold nv
  dsimp only
  by_cases q : 0 ≤ R 4 + m1 ∧ R 4 + m1 < R 2
  · have b0 := ok_EV (t := t) (u := u) W _ 0 q.1 q.2 (by omega)
    rw [if_pos q, if_pos q, if_pos q, mxI_N (by omega)]
    by_cases z : u ≤ 1
    · rw [if_pos z, if_pos z]
    · rw [if_neg z, if_neg z, mxI_m]
      rfl
  · rw [if_neg q, if_neg q, if_neg q]
    split
    · exact mxI_N (by omega)
    · rw [mxI_N (by omega)]; exact mxI_N (by omega)
theorem r56_e (W : WF 999 R) (hu : u ≤ 4) : r56 R t u = gV (gT R t) (R 2) u (R 4) 0 := by
  have w4 := W.2.2.2.2.1
  have e : r56 R t u = (if u ≤ 0 then FV R t u (R 4) 0 else wV (FV R t u) (R 2) (R 4) 0) := by
    unfold r56
    rw [r77_e W, r77_e W, r77_e W]
    by_cases z : u ≤ 0
    · rw [if_pos z, if_pos z, mnI_N, show R 4 + 0 = R 4 by omega]
      show (if _ then _ else _) = _
      rw [if_pos w4]
    · rw [if_neg z, if_neg z]
      exact m3_e (by omega) (ok_FV W) w4.1 w4.2
  rw [e]
  unfold FV EV DV
  rcases (show u = 0 ∨ u = 1 ∨ u = 2 ∨ u = 3 ∨ u = 4 by omega) with rfl | rfl | rfl | rfl | rfl
  · rfl
  · rfl
  · rfl
  · rfl
  · rfl
end TE
theorem st_byTurns : St_byTurns RR := by
  intro h k a1 a2 H
  have hz := H.mz
  rcases H.tld with ⟨c, -, -, -, -, -, -, m, -⟩ | ⟨R, c, m, T⟩
  · exact ⟨-1000002, h, Mz k, by simp only [fX6_byTurns, c, if_true], by simp only [fX7_byTurns, lk_e, Mz_e, m, bd_e, i00, if_true], hz⟩
  rcases nem ((0 : Int) ≤ a1.toInt ∧ a1.toInt ≤ 4) with q | q
  · exact ⟨-1000001, h, Mz k, by simp only [fX6_byTurns, c, i10, if_false, w6_f 0 4 q, bd_e, if_true], by simp only [fX7_byTurns, lk_e, Mz_e, m, bd_e, i10, if_false, L_wf 0 4 q, if_true], hz⟩
  rcases nem ((1 : Int) ≤ a2.toInt ∧ a2.toInt ≤ 20) with y | y
  · exact ⟨-1000001, h, Mz k, by simp only [fX6_byTurns, c, i10, if_false, w6_t 0 4 q, w6_f 1 20 y, bd_e, if_true], by simp only [fX7_byTurns, lk_e, Mz_e, m, bd_e, i10, if_false, L_wd 0 4 q, L_wf 1 20 y, if_true], hz⟩
  obtain ⟨u, hu, rfl⟩ := rg (a := a1) (n := 4) (by omega) ⟨by omega, q.2⟩
  obtain ⟨t, ht, rfl⟩ := rg (a := a2) (n := 20) (by omega) ⟨by omega, y.2⟩
  have w1 := T.W.2.1
  have w2 := T.W.2.2.1
  have w4 := T.W.2.2.2.2.1
  have w6 := T.W.2.2.2.2.2.2.1
  have wl := wnd_lt T.W
  -- the class
  obtain ⟨h1, b1, b2, b3⟩ := c_beh (t := t) T.W (by omega) (by omega) T.C
  obtain ⟨h2, d1, d2, d3, d4⟩ := note (a := 212) (by omega) (by omega) (WF_hrN T.W t) b2
  have o2 : offW h h2 := b3.W.tr (d4.W (by omega) (by omega))
  have H2 := T.C.W0 o2
  obtain ⟨h3, e1, e2, e3⟩ := c_then T.W H2
  have H3 := H2.W0 e3.W
  have cw := c_wnd T.W (by omega) H3
  have hw : ((R 6 % R 1).toNat : Int) < R 1 := by omega
  have g3 : h3 1 (R 6 % R 1).toNat = I (wnd R) := H3.2.2.2.2.2.2.2.2.2.2.1 _ hw
  have H4 : Rep (up2 h3 15 (R 6 % R 1).toNat (I (4 - wnd R))) 14 (hrN (tw R) 0) := Rep.wd T.W e2 hw
  have o4 : off7 h3 (up2 h3 15 (R 6 % R 1).toNat (I (4 - wnd R))) 14 := off7.rf.up (j := 1) (by omega)
  obtain ⟨h5, f1, f2, f3⟩ := oot_L (t := t) (v1 := 0) (v2 := nI u) (K := fun hh66 => chk (inb (1 : Int32) 6) <| bd (fX3_noteOver (212 + (1 : Int32).toNatClampNeg) hh66) fun _ hh77 => bd (fX3_walkersTurn (nI u) (hh77 0 9) (0 : Int32) hh77) fun x84 hh85 => some (x84, hh85)) (WF_tw T.W) (by omega) 4096 0 _ (by omega) (by omega) (by omega) H4
  rw [nI_0] at f1
  obtain ⟨h6, g1, g2, g4, g5⟩ := note (a := 213) (by omega) (by omega) (WF_hrN (WF_tw T.W) t) f2
  have t2 : tw R 2 = R 2 := upR_ne (by unfold wix; omega)
  have o6 : offW h h6 := ((o2.tr e3.W).tr (o4.tr f3).W).tr (g5.W (by omega) (by omega))
  have H6 := T.C.W0 o6
  have c9 : h6 0 9 = I (R 4) := H6.2.2.2.1
  have c7 : h6 14 7 = I (R 2) := by rw [g2.2.1, R2_hrN, t2]
  have hG : ∀ (c f : Nat), (c : Int) < R 2 → f ≤ 1 → h6 (212 + f) c = I (gT R t c f) := by
    intro c f z1 z2
    rcases (show f = 0 ∨ f = 1 by omega) with rfl | rfl
    · have e : h6 212 = h2 212 := by rw [g5 212 (by omega), f3 212 (by omega), o4 212 (by omega), e3 212 (by omega)]
      show h6 212 c = _
      rw [e]
      exact d3 c (by rw [R2_hrN]; omega)
    · exact g4 c (by rw [R2_hrN, t2]; omega)
  have gm := c_game (G := gT R t) (by omega) c7 (ok_gT T.W) hG hu w4.1 w4.2
  rw [nI_0] at gm
  have eC : fX6_byTurns (nI u) (nI t) h = some (I (gV (gT R t) (R 2) u (R 4) 0), h6) := by
    unfold fX6_byTurns fX3_outcomeOfTurns
    rw [c, if_neg (by decide), w6_t 0 4 q, bd_e, if_neg (by decide), w6_t 1 20 y, bd_e, if_neg (by decide), b1, bd_e, i14, chk_t, show inb (0 : Int32) 6 = true from rfl, chk_t, show 212 + (0 : Int32).toNatClampNeg = 212 from rfl, d1, bd_e, e1, bd_e, cw, bd_e, I_n (by omega), show lenC (0 + 1) = 6 from rfl, show lenC 15 = 6 from rfl, inb_n (by omega) (by omega), chk_t, chk_t, cl_n (by omega), show (0 + 1 : Nat) = 1 from rfl, g3, show (4 : Int32) = I 4 from rfl, I_sub, lk_e, f1, show inb (1 : Int32) 6 = true from rfl, chk_t, show 212 + (1 : Int32).toNatClampNeg = 213 from rfl, g1, bd_e, c9, gm, bd_e, bd_e]
  -- the reference
  obtain ⟨k1, x1, x2⟩ := T56 (n := 4092) T.W hu ht T.M
  have eM : fX7_byTurns (nI u) (nI t) k = some (I (r56 R t u), k1) := by
    unfold fX7_byTurns
    rw [lk_e, Mz_e, m, bd_e, if_neg (by decide), L_wd 0 4 q, bd_e, if_neg (by decide), L_wd 1 20 y, bd_e, if_neg (by decide)]
    dsimp only [jp_e]
    rw [← x1, show I (-1000000) = (-1000000 : Int32) from by decide]
    by_cases z : u ≤ 0
    · rw [if_pos (show nI u ≤ (0 : Int32) from (leU (a := 0) hu (by omega)).mpr z), if_pos z]
      rfl
    · rw [if_neg (show ¬ nI u ≤ (0 : Int32) from fun w => z ((leU (a := 0) hu (by omega)).mp w)), if_neg z, ← I_m1]
  exact ⟨_, h6, k1, eC, by rw [eM, r56_e T.W hu], hz.cg o6.sm x2.sm⟩
