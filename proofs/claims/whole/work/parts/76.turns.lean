/-! ===== by turns: the class's side ===== -/
def offW (h h1 : Hp) : Prop := ∀ i, ¬ (14 ≤ i ∧ i < 21) → ¬ (212 ≤ i ∧ i < 226) → h1 i = h i
theorem offW.rf {h : Hp} : offW h h := fun _ _ _ => rfl
theorem offW.tr {h h1 h2 : Hp} (a : offW h h1) (b : offW h1 h2) : offW h h2 := fun i p q => (b i p q).trans (a i p q)
theorem off7.W {h h1 : Hp} (a : off7 h h1 14) : offW h h1 := fun i p _ => a i (by omega)
theorem offW.sm {h h1 : Hp} (o : offW h h1) : SmC h h1 := fun i j q => by
  by_cases w : (14 ≤ i ∧ i < 21) ∨ (212 ≤ i ∧ i < 226)
  · have : sigC i j = false := by
      unfold sigC
      have a : ¬ i < 7 := by omega
      have b : ¬ (21 ≤ i ∧ i < 205) := by omega
      have c : ¬ 230 ≤ i := by omega
      have d1 : ¬ i = 205 := by omega
      have d2 : ¬ i = 206 := by omega
      have d3 : ¬ i = 207 := by omega
      have d4 : ¬ i = 228 := by omega
      have d5 : ¬ i = 229 := by omega
      have b2 : (decide (21 ≤ i) && decide (i < 205)) = false := by
        rw [Bool.and_eq_false_iff, decide_eq_false_iff_not, decide_eq_false_iff_not]
        omega
      rw [b2]
      simp [a, c, d1, d2, d3, d4, d5]
    rw [this] at q
    cases q
  · rw [o i (by omega) (by omega)]
theorem Rep.W0 {h h1 : Hp} {R : Rw} (H : Rep h 0 R) (o : offW h h1) : Rep h1 0 R := H.cg (fun i j _ q => by rw [o i (by omega) (by omega)])
theorem len_W {a : Nat} (h1 : 212 ≤ a) (h2 : a < 226) : lenC a = 16 := by
  unfold lenC
  rw [if_neg (by omega), if_neg (by omega), if_pos (by omega)]
theorem note_L {B : Int} {Q : Rw} {a : Nat} (h1 : 212 ≤ a) (h2 : a < 226) (W : WF B Q) : ∀ (n c : Nat) (h : Hp), c ≤ (Q 2).toNat → (Q 2).toNat < n + c → Rep h 14 Q → (∀ d, d < c → h a d = I (ov Q d)) → ∃ h1, fX3_noteOver_L2 n a (nI c) h = some ((), h1) ∧ Rep h1 14 Q ∧ (∀ d, d < (Q 2).toNat → h1 a d = I (ov Q d)) ∧ offA h h1 a := by
  intro n
  induction n with
  | zero => intro c h p1 p2; omega
  | succ n ih =>
    intro c h p1 p2 H e
    have w2 := W.2.2.1
    rw [fX3_noteOver_L2, R_c W H]
    by_cases z : c = (Q 2).toNat
    · rw [if_pos (by rw [z, t_le]; exact Int.le_refl _)]
      exact ⟨h, rfl, H, fun d hd => e d (by omega), offA.rf⟩
    · have co := c_ov (c := (c : Int)) W e14E H (by omega) (by omega)
      rw [← I_nat] at co
      rw [if_neg (by rw [t_le, nI_toInt (by omega), nI_toInt (by omega)]; omega), co, bd_e, len_W h1 h2, inb_n (by omega) (by omega), chk_t, cl_n (by omega), lk_e, lk_e, nI_1]
      obtain ⟨h3, x1, x2, x3, x4⟩ := ih (c + 1) (up2 h a c (I (ov Q c))) (by omega) (by omega) (H.cg (fun i j q1 q2 => by rw [up2_ne (by omega)])) (fun d hd => by
        rw [up2_at]
        by_cases y : d = c
        · rw [if_pos ⟨rfl, y⟩, y]
        · rw [if_neg (fun z => y z.2)]; exact e d (by omega))
      exact ⟨h3, x1, x2, x3, (offA.rf.up).tr x4⟩
theorem note {B : Int} {Q : Rw} {a : Nat} {h : Hp} (h1 : 212 ≤ a) (h2 : a < 226) (W : WF B Q) (H : Rep h 14 Q) : ∃ h1, fX3_noteOver a h = some ((), h1) ∧ Rep h1 14 Q ∧ (∀ d, d < (Q 2).toNat → h1 a d = I (ov Q d)) ∧ offA h h1 a := by
  have w2 := W.2.2.1
  obtain ⟨h3, x⟩ := note_L h1 h2 W 4096 0 h (by omega) (by omega) H (fun d hd => absurd hd (by omega))
  rw [nI_0] at x
  exact ⟨h3, x⟩
theorem offA.W {h h1 : Hp} {a : Nat} (o : offA h h1 a) (p1 : 212 ≤ a) (p2 : a < 226) : offW h h1 := fun i _ q => o i (by omega)
theorem oot_L {B : Int} {Q : Rw} {t v1 : Nat} {v2 : Int32} {K : Hp → Option (Int32 × Hp)} (W : WF B Q) (hB : B + t ≤ 5000) : ∀ (n j : Nat) (h : Hp), j ≤ t → t < n + j → t < 2147483648 → Rep h 14 (hrN Q j) → ∃ h1, fX3_outcomeOfTurns_L53 K n v1 v2 (nI t) (nI j) h = K h1 ∧ Rep h1 14 (hrN Q t) ∧ off7 h h1 14 := by
  intro n
  induction n with
  | zero => intro j h h1 h2; omega
  | succ n ih =>
    intro j h h1 h2 h3 H
    rw [fX3_outcomeOfTurns_L53]
    by_cases e : j = t
    · subst e
      rw [if_pos (by rw [t_le]; exact Int.le_refl _)]
      exact ⟨h, rfl, H, off7.rf⟩
    · rw [if_neg (by rw [t_le, nI_toInt (by omega), nI_toInt (by omega)]; omega)]
      obtain ⟨h1', f1, f2, f3⟩ := c_hour (WF_hrN W j) (by omega) e14E H
      rw [f1, bd_e, lk_e, nI_1]
      obtain ⟨h2', g1, g2, g3⟩ := ih (j + 1) h1' (by omega) (by omega) h3 f2
      exact ⟨h2', g1, g2, f3.tr g3⟩
/-! the game -/
def wV (V : Int → Nat → Int) (L c : Int) (f : Nat) : Int := if L - 1 ≤ c then (if c ≤ 0 then V c f else min (V c f) (V (c - 1) f)) else min (if c ≤ 0 then V c f else min (V c f) (V (c - 1) f)) (V (c + 1) f)
def cV (V : Int → Nat → Int) (c : Int) (f : Nat) : Int := max (V c f) (V c (1 - f))
def okB (V : Int → Nat → Int) (L : Int) : Prop := ∀ x f, 0 ≤ x → x < L → f ≤ 1 → 0 ≤ V x f ∧ V x f ≤ 54
theorem ok_w {V : Int → Nat → Int} {L : Int} (h : okB V L) : okB (wV V L) L := by
  intro x f h1 h2 h3
  have a := h x f h1 h2 h3
  unfold wV
  by_cases p : L - 1 ≤ x
  · rw [if_pos p]
    by_cases q : x ≤ 0
    · rw [if_pos q]; exact a
    · have b := h (x - 1) f (by omega) (by omega) h3
      rw [if_neg q]; omega
  · rw [if_neg p]
    have d := h (x + 1) f (by omega) (by omega) h3
    by_cases q : x ≤ 0
    · rw [if_pos q]; omega
    · have b := h (x - 1) f (by omega) (by omega) h3
      rw [if_neg q]; omega
theorem ok_c {V : Int → Nat → Int} {L : Int} (h : okB V L) : okB (cV V) L := by
  intro x f h1 h2 h3
  have a := h x f h1 h2 h3
  have b := h x (1 - f) h1 h2 (by omega)
  unfold cV
  omega
theorem minJ_I {a b : Int} (h1 : 0 ≤ a ∧ a ≤ 54) (h2 : 0 ≤ b ∧ b ≤ 54) : minJ (I a) (I b) = I (min a b) := by
  unfold minJ
  by_cases q : b < a
  · rw [if_pos ((I_lt (by omega) (by omega) (by omega) (by omega)).mpr q), show min a b = b by omega]
  · rw [if_neg (fun z => q ((I_lt (by omega) (by omega) (by omega) (by omega)).mp z)), show min a b = a by omega]
theorem maxJ_I {a b : Int} (h1 : 0 ≤ a ∧ a ≤ 54) (h2 : 0 ≤ b ∧ b ≤ 54) : maxJ (I a) (I b) = I (max a b) := by
  unfold maxJ
  by_cases q : a < b
  · rw [if_pos ((I_lt (by omega) (by omega) (by omega) (by omega)).mpr q), show max a b = b by omega]
  · rw [if_neg (fun z => q ((I_lt (by omega) (by omega) (by omega) (by omega)).mp z)), show max a b = a by omega]
theorem nI_s1 {a : Nat} : nI (a + 1) - 1 = nI a := by
  rw [I_nat, I_nat, I_1, I_sub]
  congr 1
  omega
theorem wk_o {F : Int32 → Int32 → Int32 → Hp → Option (Int32 × Hp)} {V : Int → Nat → Int} {L c : Int} {f a : Nat} {h : Hp} (ha : a ≤ 4) (hf : f ≤ 1) (hL : L ≤ 16) (hc : 0 ≤ c) (hc2 : c < L) (h7 : h 14 7 = I L) (ok : okB V L) (hF : ∀ x f, 0 ≤ x → x < L → f ≤ 1 → F (nI a) (I x) (nI f) h = some (I (V x f), h)) : fX3_walkersTurn_o F (nI (a + 1)) (I c) (nI f) h = some (I (wV V L c f), h) := by
  unfold fX3_walkersTurn_o wV
  dsimp only [jp_e]
  rw [if_pos (show (0 : Int32) < nI (a + 1) by rw [t_lt, nI_toInt (by omega)]; show (0 : Int) < _; omega), nI_s1, hF c f hc hc2 hf, bd_e]
  have okc := ok c f hc hc2 hf
  have tail : ∀ v : Int, 0 ≤ v ∧ v ≤ 54 → (if h 14 7 - 1 ≤ I c then some (I v, h) else bd (F (nI a) (I c + 1) (nI f) h) fun x25 hh26 => lk (minJ (I v) x25) fun x33 => some (x33, hh26)) = some (I (if L - 1 ≤ c then v else min v (V (c + 1) f)), h) := by
    intro v hv
    rw [h7, I_1, I_sub]
    by_cases q : L - 1 ≤ c
    · rw [if_pos ((I_le (by omega) (by omega) (by omega) (by omega)).mpr q), if_pos q]
    · rw [if_neg (fun z => q ((I_le (by omega) (by omega) (by omega) (by omega)).mp z)), if_neg q, I_add, hF (c + 1) f (by omega) (by omega) hf, bd_e, lk_e, minJ_I hv (ok (c + 1) f (by omega) (by omega) hf)]
  by_cases p : c ≤ 0
  · rw [if_pos (show I c ≤ 0 by rw [t_le, I_toInt (by omega) (by omega)]; exact p), tail _ okc, if_pos p]
  · have okm := ok (c - 1) f (by omega) (by omega) hf
    rw [if_neg (show ¬ I c ≤ 0 by rw [t_le, I_toInt (by omega) (by omega)]; exact p), show I c - 1 = I (c - 1) by rw [I_1, I_sub], hF (c - 1) f (by omega) (by omega) hf, bd_e, lk_e, minJ_I okc okm, tail _ (by omega), if_neg p]
theorem ct_o {F : Int32 → Int32 → Int32 → Hp → Option (Int32 × Hp)} {V : Int → Nat → Int} {L c : Int} {f a : Nat} {h : Hp} (ha : a ≤ 4) (hf : f ≤ 1) (hc : 0 ≤ c) (hc2 : c < L) (ok : okB V L) (hF : ∀ x f, 0 ≤ x → x < L → f ≤ 1 → F (nI a) (I x) (nI f) h = some (I (V x f), h)) : fX3_courtsTurn_o F (nI (a + 1)) (I c) (nI f) h = some (I (cV V c f), h) := by
  have e : (1 : Int32) - nI f = nI (1 - f) := by
    rw [I_nat, I_nat, I_1, I_sub]
    congr 1
    omega
  unfold fX3_courtsTurn_o cV
  rw [if_pos (show (0 : Int32) < nI (a + 1) by rw [t_lt, nI_toInt (by omega)]; show (0 : Int) < _; omega), nI_s1, hF c f hc hc2 hf, bd_e, e, hF c (1 - f) hc hc2 (by omega), bd_e, maxJ_I (ok c f hc hc2 hf) (ok c (1 - f) hc hc2 (by omega))]
section TB
variable {h : Hp} {G : Int → Nat → Int} {L : Int}
theorem lf_w {F : Int32 → Int32 → Int32 → Hp → Option (Int32 × Hp)} (hL : L ≤ 16) (hG : ∀ (c f : Nat), (c : Int) < L → f ≤ 1 → h (212 + f) c = I (G c f)) : ∀ (x : Int) (f : Nat), 0 ≤ x → x < L → f ≤ 1 → fX3_walkersTurn_o F (nI 0) (I x) (nI f) h = some (I (G x f), h) := by
  intro x f h1 h2 h3
  have g := hG x.toNat f (by omega) h3
  rw [show ((x.toNat : Nat) : Int) = x by omega] at g
  unfold fX3_walkersTurn_o
  rw [if_neg (by decide), inb_n (by omega) (by omega), chk_t, cl_n (by omega), len_W (by omega) (by omega), I_n h1, inb_n (by omega) (by omega), chk_t, cl_n (by omega), g]
theorem lf_c {F : Int32 → Int32 → Int32 → Hp → Option (Int32 × Hp)} (hL : L ≤ 16) (hG : ∀ (c f : Nat), (c : Int) < L → f ≤ 1 → h (212 + f) c = I (G c f)) : ∀ (x : Int) (f : Nat), 0 ≤ x → x < L → f ≤ 1 → fX3_courtsTurn_o F (nI 0) (I x) (nI f) h = some (I (G x f), h) := by
  intro x f h1 h2 h3
  have g := hG x.toNat f (by omega) h3
  rw [show ((x.toNat : Nat) : Int) = x by omega] at g
  unfold fX3_courtsTurn_o
  rw [if_neg (by decide), inb_n (by omega) (by omega), chk_t, cl_n (by omega), len_W (by omega) (by omega), I_n h1, inb_n (by omega) (by omega), chk_t, cl_n (by omega), g]
def gV (G : Int → Nat → Int) (L : Int) : Nat → Int → Nat → Int
  | 0 => G
  | 1 => wV G L
  | 2 => wV (cV G) L
  | 3 => wV (cV (wV G L)) L
  | _ => wV (cV (wV (cV G) L)) L
theorem c_game (hL : L ≤ 16) (h7 : h 14 7 = I L) (ok : okB G L) (hG : ∀ (c f : Nat), (c : Int) < L → f ≤ 1 → h (212 + f) c = I (G c f)) {u : Nat} (hu : u ≤ 4) {x : Int} (h1 : 0 ≤ x) (h2 : x < L) : fX3_walkersTurn (nI u) (I x) (nI 0) h = some (I (gV G L u x 0), h) := by
  have T : ∀ n a b c h, fX3_turns (n + 1) a b c h = fX3_walkersTurn_o (fun a b c h => fX3_courtsTurn_o (fX3_turns n) a b c h) a b c h := fun n a b c h => rfl
  have w0 : ∀ n (x : Int) (f : Nat), 0 ≤ x → x < L → f ≤ 1 → fX3_turns (n + 1) (nI 0) (I x) (nI f) h = some (I (G x f), h) := fun n x f a b c => (T n _ _ _ _).trans (lf_w hL hG x f a b c)
  have w1 : ∀ n (x : Int) (f : Nat), 0 ≤ x → x < L → f ≤ 1 → fX3_turns (n + 1) (nI 1) (I x) (nI f) h = some (I (wV G L x f), h) := fun n x f a b c => (T n _ _ _ _).trans (wk_o (a := 0) (by omega) c hL a b h7 ok (lf_c hL hG))
  have w2 : ∀ n (x : Int) (f : Nat), 0 ≤ x → x < L → f ≤ 1 → fX3_turns (n + 2) (nI 2) (I x) (nI f) h = some (I (wV (cV G) L x f), h) := fun n x f a b c => (T (n + 1) _ _ _ _).trans (wk_o (a := 1) (by omega) c hL a b h7 (ok_c ok) (fun x f a b c => ct_o (a := 0) (by omega) c a b ok (w0 n)))
  have w3 : ∀ n (x : Int) (f : Nat), 0 ≤ x → x < L → f ≤ 1 → fX3_turns (n + 2) (nI 3) (I x) (nI f) h = some (I (wV (cV (wV G L)) L x f), h) := fun n x f a b c => (T (n + 1) _ _ _ _).trans (wk_o (a := 2) (by omega) c hL a b h7 (ok_c (ok_w ok)) (fun x f a b c => ct_o (a := 1) (by omega) c a b (ok_w ok) (w1 n)))
  have w4 : ∀ n (x : Int) (f : Nat), 0 ≤ x → x < L → f ≤ 1 → fX3_turns (n + 3) (nI 4) (I x) (nI f) h = some (I (wV (cV (wV (cV G) L)) L x f), h) := fun n x f a b c => (T (n + 2) _ _ _ _).trans (wk_o (a := 3) (by omega) c hL a b h7 (ok_c (ok_w (ok_c ok))) (fun x f a b c => ct_o (a := 2) (by omega) c a b (ok_w (ok_c ok)) (w2 n)))
  unfold fX3_walkersTurn
  rcases (show u = 0 ∨ u = 1 ∨ u = 2 ∨ u = 3 ∨ u = 4 by omega) with rfl | rfl | rfl | rfl | rfl
  · exact w0 5 x 0 h1 h2 (by omega)
  · exact w1 5 x 0 h1 h2 (by omega)
  · exact w2 4 x 0 h1 h2 (by omega)
  · exact w3 4 x 0 h1 h2 (by omega)
  · exact w4 3 x 0 h1 h2 (by omega)
end TB
