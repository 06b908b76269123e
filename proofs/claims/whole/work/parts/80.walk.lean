/-! ===== walks: the reference's best way ===== -/
section SC
variable {R : Rw} {n : Nat} {v2 : Int32} {k : Hp} {K : Int32 → Int32 → Hp → Option (Int32 × Hp)}
theorem sc_1 {f w : Nat} {z : Int} {v5 : Int32} (W : WF 999 R) (M : M0 k 250 R) (hn : n ≤ 6) (h1 : 1 ≤ n) (hO : ∀ s d, s < n → d < (R 2).toNat → k 255 (16 * s + d) = I (ov (hrN R (s + 1)) d)) (hw : w < 3 ^ n) (hz : z = -1000000 ∨ (0 ≤ z ∧ z ≤ 1000)) : fX7_walk_L131 K (f + 1) (nI n) v2 (nI (3 ^ n)) (I z) v5 (nI w) k = if okw (R 2) n (R 4) w = true ∧ (z = -1000000 ∨ vl (wP R n) n (R 4) w < z) then fX7_walk_L131 K f (nI n) v2 (nI (3 ^ n)) (I (vl (wP R n) n (R 4) w)) (nI w) (nI (w + 1)) k else fX7_walk_L131 K f (nI n) v2 (nI (3 ^ n)) (I z) v5 (nI (w + 1)) k := by
  have w4 := W.2.2.2.2.1
  have pb := p3_le hn
  have r4 : k 250 (4 : Int32).toNatClampNeg = I (R 4) := M 4 (by omega)
  have vb := vl_b (L := R 2) (P := wP R n) (fun m x => wP_b W) n (R 4) w
  obtain ⟨s', y1, y2⟩ := in1 (w := w) (v2 := v2) (v3 := nI (3 ^ n)) (v4 := I z) (v5 := v5) (K := fun x230 x231 kk232 => if x231 = 0 then lk (nI w + 1) fun x249 => fX7_walk_L131 K f (nI n) v2 (nI (3 ^ n)) (I z) v5 x249 kk232 else if I z = (-1000000 : Int32) then lk (nI w + 1) fun x249 => fX7_walk_L131 K f (nI n) v2 (nI (3 ^ n)) x230 (nI w) x249 kk232 else if I z ≤ x230 then lk (nI w + 1) fun x249 => fX7_walk_L131 K f (nI n) v2 (nI (3 ^ n)) (I z) v5 x249 kk232 else lk (nI w + 1) fun x249 => fX7_walk_L131 K f (nI n) v2 (nI (3 ^ n)) x230 (nI w) x249 kk232) W M hn (by omega) hO 4096 n 0 (R 4) 0 (by omega) (by omega) w4.1 w4.2
  rw [Nat.mod_eq_of_lt hw] at y1 y2
  rw [nI_0] at y1
  rw [fX7_walk_L131, if_neg (by rw [t_le, nI_toInt (by omega), nI_toInt (by omega)]; omega), lb4 a250, chk_t, r4, lk_e, by_3 hn h1, lk_e]
  dsimp only [jp_e]
  refine Eq.trans y1 ?_
  rw [if_b]
  cases o : okw (R 2) n (R 4) w with
  | false =>
    rw [if_neg (by decide), if_neg (fun q => by cases q.1), lk_e, nI_1]
  | true =>
    have e := y2 o
    rw [Int.zero_add] at e
    have eN : I z = (-1000000 : Int32) ↔ z = -1000000 := by
      rw [show (-1000000 : Int32) = I (-1000000) from by decide]
      exact I_eq (by omega) (by omega) (by omega) (by omega)
    rw [if_pos rfl, e]
    by_cases q : z = -1000000
    · rw [if_pos (eN.mpr q), if_pos ⟨rfl, Or.inl q⟩, lk_e, nI_1]
    · rw [if_neg (fun y => q (eN.mp y))]
      by_cases q2 : z ≤ vl (wP R n) n (R 4) w
      · rw [if_pos ((I_le (by omega) (by omega) (by omega) (by omega)).mpr q2), if_neg (fun y => by omega), lk_e, nI_1]
      · rw [if_neg (fun y => q2 ((I_le (by omega) (by omega) (by omega) (by omega)).mp y)), if_pos ⟨rfl, Or.inr (by omega)⟩, lk_e, nI_1]
theorem sc_B (W : WF 999 R) (M : M0 k 250 R) (hn : n ≤ 6) (h1 : 1 ≤ n) (hO : ∀ s d, s < n → d < (R 2).toNat → k 255 (16 * s + d) = I (ov (hrN R (s + 1)) d)) : ∀ (f w : Nat), WY (wP R n) (R 2) n (R 4) < w → w ≤ 3 ^ n → 3 ^ n < f + w → fX7_walk_L131 K f (nI n) v2 (nI (3 ^ n)) (I (EE (wP R n) (R 2) n (R 4))) (nI (WY (wP R n) (R 2) n (R 4))) (nI w) k = K (I (EE (wP R n) (R 2) n (R 4))) (nI (WY (wP R n) (R 2) n (R 4))) k := by
  intro f
  induction f with
  | zero => intro w a b c; omega
  | succ f ih =>
    intro w a b c
    have w4 := W.2.2.2.2.1
    have pb := p3_le hn
    by_cases q : w = 3 ^ n
    · rw [fX7_walk_L131, if_pos (by rw [q, t_le]; exact Int.le_refl _)]
    · obtain ⟨o1, o2, o3, o4, o5⟩ := opt (P := wP R n) (L := R 2) n (R 4) w4.1 w4.2
      have eb := EE_b (P := wP R n) (L := R 2) (M := n) (fun m x _ _ _ => wP_b W) n (R 4) (Nat.le_refl _) w4.1 w4.2
      rw [sc_1 W M hn h1 hO (by omega) (Or.inr (by omega)), if_neg (fun y => by
        have := o4 w (by omega) y.1
        rcases y.2 with z | z <;> omega)]
      exact ih (w + 1) (by omega) (by omega) (by omega)
theorem sc_A (W : WF 999 R) (M : M0 k 250 R) (hn : n ≤ 6) (h1 : 1 ≤ n) (hO : ∀ s d, s < n → d < (R 2).toNat → k 255 (16 * s + d) = I (ov (hrN R (s + 1)) d)) : ∀ (f w : Nat) (z : Int) (v5 : Int32), w ≤ WY (wP R n) (R 2) n (R 4) → 3 ^ n < f + w → (z = -1000000 ∨ (EE (wP R n) (R 2) n (R 4) < z ∧ z ≤ 1000)) → fX7_walk_L131 K f (nI n) v2 (nI (3 ^ n)) (I z) v5 (nI w) k = K (I (EE (wP R n) (R 2) n (R 4))) (nI (WY (wP R n) (R 2) n (R 4))) k := by
  intro f
  have w4 := W.2.2.2.2.1
  have pb := p3_le hn
  obtain ⟨o1, o2, o3, o4, o5⟩ := opt (P := wP R n) (L := R 2) n (R 4) w4.1 w4.2
  have eb := EE_b (P := wP R n) (L := R 2) (M := n) (fun m x _ _ _ => wP_b W) n (R 4) (Nat.le_refl _) w4.1 w4.2
  induction f with
  | zero => intro w z v5 a b; omega
  | succ f ih =>
    intro w z v5 a b c
    have vb := vl_b (L := R 2) (P := wP R n) (fun m x => wP_b W) n (R 4) w
    rw [sc_1 W M hn h1 hO (by omega) (by omega)]
    by_cases q : w = WY (wP R n) (R 2) n (R 4)
    · rw [q, if_pos ⟨o2, by omega⟩, o3]
      exact sc_B W M hn h1 hO f _ (by omega) (by omega) (by omega)
    · by_cases y : okw (R 2) n (R 4) w = true ∧ (z = -1000000 ∨ vl (wP R n) n (R 4) w < z)
      · rw [if_pos y]
        have := o5 w (by omega) y.1
        exact ih (w + 1) _ _ (by omega) (by omega) (Or.inr (by omega))
      · rw [if_neg y]
        exact ih (w + 1) z v5 (by omega) (by omega) c
end SC
theorem pa_L {P : Nat → Int → Int} {L c : Int} {n j : Nat} {k : Hp} {K : Int32 → Hp → Option (Int32 × Hp)} (hn : n ≤ 6) (hj : j < n) (h1 : 0 ≤ c) (h2 : c < L) (hL : L ≤ 16) : ∀ (f t : Nat), t ≤ j + 1 → j + 1 < f + t → fX7_walk_L306 K f (nI n) (nI j) (nI (WY P L n c)) (I (pth P L n c t)) (nI (3 ^ (n - t - 1))) (nI t) k = K (I (pth P L n c (j + 1))) k := by
  intro f
  have ow := (opt (P := P) (L := L) n c h1 h2).1
  have pb := p3_le hn
  induction f with
  | zero => intro t a b; omega
  | succ f ih =>
    intro t a b
    rw [fX7_walk_L306]
    by_cases q : t = j + 1
    · rw [if_pos (by rw [t_lt, nI_toInt (by omega), nI_toInt (by omega)]; omega), q]
    · have pp := p3 (m := n - t - 1)
      have pl := p3_le (m := n - t - 1) (by omega)
      have dl := Nat.mod_lt (WY P L n c / 3 ^ (n - t - 1)) (show 0 < 3 by omega)
      have wl : WY P L n c / 3 ^ (n - t - 1) ≤ WY P L n c := Nat.div_le_self _ _
      have pd := pth_d (P := P) (L := L) (n := n) (j := t) (c := c) (by omega) h1 h2
      rw [show n - 1 - t = n - t - 1 by omega] at pd
      have ex : I (pth P L n c t) + (irm (nI (WY P L n c) / nI (3 ^ (n - t - 1))) 3 - 1) = I (pth P L n c (t + 1)) := by
        rw [pk_div (by omega) pp (by omega), show (3 : Int32) = nI 3 from rfl, irm_n (by omega) (by omega) (by omega), I_nat, I_1, I_sub, I_add, ← pd]
        congr 1
        omega
      rw [if_neg (by rw [t_lt, nI_toInt (by omega), nI_toInt (by omega)]; omega), if_neg (by rw [t_le, nI_toInt (by omega), nI_toInt (by omega)]; omega), nz_n pp (by omega), chk_t, ex, lk_e]
      dsimp only [jp_e]
      have i := ih (t + 1) (by omega) (by omega)
      rw [show n - (t + 1) - 1 = n - t - 1 - 1 by omega] at i
      by_cases q8 : nI (3 ^ (n - t - 1)) ≤ 1
      · rw [← by_1 (by omega) q8] at i
        rw [if_pos q8, lk_e, nI_1]
        exact i
      · rw [← by_2 (by omega) q8] at i
        rw [if_neg q8, lk_e, nI_1]
        exact i
/-! ===== walks: the class ===== -/
section CW
variable {R : Rw} {n : Nat} {h : Hp}
/-- what is over each cell, and the rows of the least from hour m on -/
def wkO (h : Hp) (R : Rw) (n : Nat) : Prop := ∀ s d, s < n → d < (R 2).toNat → h (212 + s) d = I (ov (hrN R (s + 1)) d)
def wkE (h : Hp) (R : Rw) (n s : Nat) : Prop := ∀ d, d < (R 2).toNat → h (219 + s) d = I (EE (wP R n) (R 2) (n - s) d)
theorem c_wt {s : Nat} {x : Int} (W : WF 999 R) (hn : n ≤ 6) (hs : s < n) (h1 : 0 ≤ x) (h2 : x < R 2) (hO : wkO h R n) (hE : wkE h R n (s + 1)) : fX3_weightOf (nI s) (I x) h = some (I (gg (wP R n) (R 2) (n - 1 - s) x), h) := by
  have w2 := W.2.2.1
  have a := hO s x.toNat hs (by omega)
  have b := hE x.toNat (by omega)
  rw [show ((x.toNat : Nat) : Int) = x by omega] at a b
  unfold fX3_weightOf
  rw [nI_1, inb_n (by omega) (by omega), chk_t, cl_n (by omega), len_W (by omega) (by omega), I_n h1, inb_n (by omega) (by omega), chk_t, inb_n (by omega) (by omega), chk_t, cl_n (by omega), len_W (by omega) (by omega), inb_n (by omega) (by omega), chk_t, cl_n (by omega), a, b, I_add]
  unfold gg wP
  rw [show n - 1 - (n - 1 - s) + 1 = s + 1 by omega, show n - (s + 1) = n - 1 - s by omega]
theorem gg_b {m : Nat} {x : Int} (W : WF 999 R) (hn : n ≤ 6) (hm : m ≤ n) (h1 : 0 ≤ x) (h2 : x < R 2) : 0 ≤ gg (wP R n) (R 2) m x ∧ gg (wP R n) (R 2) m x ≤ 1000 := by
  have a := wP_b (n := n) (m := m) (x := x) W
  have eb := EE_b (P := wP R n) (L := R 2) (M := n) (fun m x _ _ _ => wP_b W) m x hm h1 h2
  unfold gg
  omega
theorem bn_L {s : Nat} {hi : Int} (W : WF 999 R) (hn : n ≤ 6) (hs : s < n) (hh : hi < R 2) (hO : wkO h R n) (hE : wkE h R n (s + 1)) : ∀ (f d : Nat) (b x : Int), x + d = hi + 1 → d < f → 0 ≤ b → b < x → b < R 2 → fX3_bestNext_L30 f (nI s) (I b) (I hi) (I x) h = some (I (cbU (gg (wP R n) (R 2) (n - 1 - s)) d b x), h) := by
  intro f
  have w2 := W.2.2.1
  induction f with
  | zero => intro d b x a c; omega
  | succ f ih =>
    intro d b x a1 a2 a3 a4 a5
    rw [fX3_bestNext_L30]
    cases d with
    | zero =>
      rw [if_pos ((I_lt (by omega) (by omega) (by omega) (by omega)).mpr (by omega))]
      rfl
    | succ d =>
      have g1 := gg_b (m := n - 1 - s) (x := x) W hn (by omega) (by omega) (by omega)
      have g2 := gg_b (m := n - 1 - s) (x := b) W hn (by omega) (by omega) (by omega)
      have u : cbU (gg (wP R n) (R 2) (n - 1 - s)) (d + 1) b x = cbU (gg (wP R n) (R 2) (n - 1 - s)) d (if gg (wP R n) (R 2) (n - 1 - s) x < gg (wP R n) (R 2) (n - 1 - s) b then x else b) (x + 1) := rfl
      rw [if_neg (fun z => by have := (I_lt (by omega) (by omega) (by omega) (by omega)).mp z; omega), c_wt W hn hs (by omega) (by omega) hO hE, bd_e, c_wt W hn hs (by omega) (by omega) hO hE, bd_e, u]
      dsimp only [jp_e]
      by_cases q : gg (wP R n) (R 2) (n - 1 - s) x < gg (wP R n) (R 2) (n - 1 - s) b
      · rw [if_neg (fun z => by have := (I_le (by omega) (by omega) (by omega) (by omega)).mp z; omega), if_pos q, lk_e, I_a1]
        exact ih d x (x + 1) (by omega) (by omega) (by omega) (by omega) (by omega)
      · rw [if_pos ((I_le (by omega) (by omega) (by omega) (by omega)).mpr (by omega)), if_neg q, lk_e, I_a1]
        exact ih d b (x + 1) (by omega) (by omega) (by omega) (by omega) (by omega)
theorem c_bn {s : Nat} {c : Int} (W : WF 999 R) (hn : n ≤ 6) (hs : s < n) (h1 : 0 ≤ c) (h2 : c < R 2) (h7 : h 14 7 = I (R 2)) (hO : wkO h R n) (hE : wkE h R n (s + 1)) : fX3_bestNext (nI s) (I c) h = some (I (nx (wP R n) (R 2) (n - 1 - s) c), h) := by
  have w2 := W.2.2.1
  have e1 : maxJ (I c - 1) 0 = I (max (c - 1) 0) := by
    rw [I_1, I_sub, I_0]
    unfold maxJ
    by_cases q : c - 1 < 0
    · rw [if_pos ((I_lt (by omega) (by omega) (by omega) (by omega)).mpr q), show max (c - 1) 0 = 0 by omega]
    · rw [if_neg (fun z => q ((I_lt (by omega) (by omega) (by omega) (by omega)).mp z)), show max (c - 1) 0 = c - 1 by omega]
  have e2 : minJ (I c + 1) (h 14 7 - 1) = I (min (c + 1) (R 2 - 1)) := by
    rw [h7, I_1, I_add, I_sub]
    unfold minJ
    by_cases q : R 2 - 1 < c + 1
    · rw [if_pos ((I_lt (by omega) (by omega) (by omega) (by omega)).mpr q), show min (c + 1) (R 2 - 1) = R 2 - 1 by omega]
    · rw [if_neg (fun z => q ((I_lt (by omega) (by omega) (by omega) (by omega)).mp z)), show min (c + 1) (R 2 - 1) = c + 1 by omega]
  unfold fX3_bestNext
  rw [lk_e, lk_e, lk_e, e1, e2, I_a1]
  exact bn_L W hn hs (by omega) hO hE 4096 (min (c + 1) (R 2 - 1) - max (c - 1) 0).toNat (max (c - 1) 0) (max (c - 1) 0 + 1) (by omega) (by omega) (by omega) (by omega) (by omega)
end CW
