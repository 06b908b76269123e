/-! ===== small things ===== -/
theorem i10 : ((1 : Int32) = 0) = False := by decide
theorem i00 : ((0 : Int32) = 0) = True := by decide
theorem isB_0 : isB 0 = true := rfl
theorem isB_1 : isB 1 = true := rfl
theorem jp_e {α β : Type} {F : α} {k : α → β} : jp F k = k F := rfl
theorem t_le (a b : Int32) : a ≤ b ↔ a.toInt ≤ b.toInt := Int32.le_iff_toInt_le
theorem t_lt (a b : Int32) : a < b ↔ a.toInt < b.toInt := Int32.lt_iff_toInt_lt
theorem rg {a : Int32} {n : Nat} (hn : n < 2147483647) (h : 0 ≤ a.toInt ∧ a.toInt ≤ n) : ∃ r : Nat, r ≤ n ∧ a = nI r := by
  refine ⟨a.toInt.toNat, by omega, ?_⟩
  rw [← Int32.toInt_inj, nI_toInt (by omega)]
  omega
theorem w6_t {a : Int32} (lo hi : Int32) {h : Hp} (c : lo.toInt ≤ a.toInt ∧ a.toInt ≤ hi.toInt) : fX6_isWithin a lo hi h = some (1, h) := by
  unfold fX6_isWithin
  rw [if_neg (by rw [t_lt]; omega), if_neg (by rw [t_lt]; omega)]
theorem w6_f {a : Int32} (lo hi : Int32) {h : Hp} (c : ¬ (lo.toInt ≤ a.toInt ∧ a.toInt ≤ hi.toInt)) : fX6_isWithin a lo hi h = some (0, h) := by
  unfold fX6_isWithin
  by_cases c1 : a < lo
  · rw [if_pos c1]
  · rw [if_neg c1]
    rw [t_lt] at c1
    rw [if_pos (by rw [t_lt]; omega)]
theorem lg_lt (x y : Int64) : lg_cmp x y < 0 ↔ x.toInt < y.toInt := by
  unfold lg_cmp
  by_cases h1 : x > y
  · rw [if_pos h1]
    have : y.toInt < x.toInt := Int64.lt_iff_toInt_lt.mp h1
    constructor
    · intro q; exact absurd q (by decide)
    · intro q; omega
  · rw [if_neg h1]
    have h1' : ¬ y.toInt < x.toInt := fun q => h1 (Int64.lt_iff_toInt_lt.mpr q)
    by_cases h2 : x = y
    · rw [if_pos h2, h2]
      constructor
      · intro q; exact absurd q (by decide)
      · intro q; omega
    · rw [if_neg h2]
      have : x.toInt ≠ y.toInt := fun q => h2 (Int64.toInt_inj.mp q)
      constructor
      · intro q; omega
      · intro q; decide
theorem lg_gt (x y : Int64) : 0 < lg_cmp x y ↔ y.toInt < x.toInt := by
  unfold lg_cmp
  by_cases h1 : x > y
  · rw [if_pos h1]
    have : y.toInt < x.toInt := Int64.lt_iff_toInt_lt.mp h1
    constructor
    · intro q; omega
    · intro q; decide
  · rw [if_neg h1]
    have h1' : ¬ y.toInt < x.toInt := fun q => h1 (Int64.lt_iff_toInt_lt.mpr q)
    by_cases h2 : x = y
    · rw [if_pos h2]
      constructor
      · intro q; exact absurd q (by decide)
      · intro q; omega
    · rw [if_neg h2]
      constructor
      · intro q; exact absurd q (by decide)
      · intro q; omega
theorem lg_le (x y : Int64) : lg_cmp x y ≤ 0 ↔ x.toInt ≤ y.toInt := by
  rw [← Int32.not_lt, lg_gt]; omega
theorem L_w (a : Int32) : a.toInt64.toInt = a.toInt := Int32.toInt_toInt64 a
theorem L_wd {a : Int32} (l h : Int64) {k : Hp} (c : l.toInt ≤ a.toInt ∧ a.toInt ≤ h.toInt) : fX7_in a.toInt64 l h k = some (1, k) := by
  unfold fX7_in
  rw [if_neg (by rw [lg_lt, L_w]; omega), if_neg (by rw [lg_gt, L_w]; omega)]
theorem L_wf {a : Int32} (l h : Int64) {k : Hp} (c : ¬ (l.toInt ≤ a.toInt ∧ a.toInt ≤ h.toInt)) : fX7_in a.toInt64 l h k = some (0, k) := by
  unfold fX7_in
  by_cases c1 : a.toInt < l.toInt
  · rw [if_pos (by rw [lg_lt, L_w]; omega)]
  · rw [if_neg (by rw [lg_lt, L_w]; omega), if_pos (by rw [lg_gt, L_w]; omega)]
theorem r6_t {r : Nat} {h : Hp} (c : r ≤ 7) : fX6_isRow (nI r) h = some (1, h) := by
  unfold fX6_isRow
  rw [w6_t 0 7 (by rw [nI_toInt (by omega)]; exact ⟨by show (0 : Int) ≤ _; omega, by show _ ≤ (7 : Int); omega⟩)]
  rfl
theorem r6_f {a : Int32} {h : Hp} (c : ¬ (0 ≤ a.toInt ∧ a.toInt ≤ 7)) : fX6_isRow a h = some (0, h) := by
  unfold fX6_isRow
  rw [w6_f 0 7 c]
  rfl
theorem r7_t {r : Nat} {h : Hp} (c : r ≤ 7) : fX7_isRow (nI r) h = some (1, h) := by
  unfold fX7_isRow
  rw [L_wd 0 7 (by rw [nI_toInt (by omega)]; exact ⟨by show (0 : Int) ≤ _; omega, by show _ ≤ (7 : Int); omega⟩)]
  rfl
theorem r7_f {a : Int32} {h : Hp} (c : ¬ (0 ≤ a.toInt ∧ a.toInt ≤ 7)) : fX7_isRow a h = some (0, h) := by
  unfold fX7_isRow
  rw [L_wf 0 7 c]
  rfl
theorem rowR.cg2 {h h1 k k1 : Hp} {r : Nat} (H : rowR h k r) (hC : ∀ j, h1 (230 + 2 * r) j = h (230 + 2 * r) j) (hI : ∀ j, h1 (231 + 2 * r) j = h (231 + 2 * r) j) (m1 : k1 247 r = k 247 r) (m2 : k1 248 r = k 248 r) (m3 : ∀ j, j < 40 → k1 249 (40 * r + j) = k 249 (40 * r + j)) : rowR h1 k1 r := by
  unfold rowR at H ⊢
  rw [hC, hC, hC, m1, m2]
  rcases H with H | ⟨a, l, n, b1, b2, b3, b4, b5, b6, b7⟩
  · exact Or.inl H
  · exact Or.inr ⟨a, l, n, b1, b2, b3, b4, b5, b6, fun i hi => by rw [hI, m3 i hi]; exact b7 i hi⟩
/-- all but the rows and the status stay -/
theorem RR.rows {h h1 k k1 : Hp} (H : RR h k) (hC : ∀ i j, i < 230 → ¬ (i = 203 ∧ j = 8) → sigC i j = true → h1 i j = h i j) (hM : ∀ i j, ¬ (i = 246 ∧ j = 1) → i ≠ 247 → i ≠ 248 → i ≠ 249 → sigM i j = true → k1 i j = k i j) (hs : h1 203 8 = k1 246 1) (hr : ∀ r, r < 8 → rowR h1 k1 r) : RR h1 k1 := by
  obtain ⟨-, ⟨n, t1, t2, t3, t4⟩, ⟨-, s2⟩, hn, ⟨n2, N, c1, c2, c3, c4, c5, c6⟩, hi, ⟨n3, d1, d2, d3, d4⟩⟩ := H
  refine ⟨hr, ⟨n, t1, ?_, ?_, fun i hi => ?_⟩, ⟨hs, ?_⟩, ?_, ⟨n2, N, c1, c2, ?_, ?_, ?_, fun j hj => ?_⟩, fun i hi2 => ?_, ⟨n3, d1, ?_, ?_, fun i hi => ?_⟩⟩
  · rw [hC 205 1 (by omega) (by omega) rfl]; exact t2
  · rw [hM 246 11 (by omega) (by omega) (by omega) (by omega) rfl]; exact t3
  · rw [hC 206 i (by omega) (by omega) rfl, hM 254 i (by omega) (by omega) (by omega) (by omega) rfl]; exact t4 i hi
  · rw [hC 203 7 (by omega) (by omega) rfl, hM 246 18 (by omega) (by omega) (by omega) (by omega) rfl]; exact s2
  · have c1 : ∀ j, h1 0 j = h 0 j := fun j => hC 0 j (by omega) (by omega) rfl
    have m1 : ∀ j, k1 250 j = k 250 j := fun j => hM 250 j (by omega) (by omega) (by omega) (by omega) rfl
    rcases hn with H | H
    · left
      unfold noE at H ⊢
      simp only [c1, m1]
      exact H
    · right
      exact H.cg (fun i j h1 h2 => hC i j (by omega) (by omega) (sig_e (Or.inr rfl) h1 h2)) (fun j hj => m1 _)
  · rw [hC 207 2 (by omega) (by omega) rfl]; exact c3
  · rw [hC 207 1 (by omega) (by omega) rfl]; exact c4
  · rw [hM 246 9 (by omega) (by omega) (by omega) (by omega) rfl]; exact c5
  · exact (c6 j hj).cg (fun i j h1 h2 => hC i j (by omega) (by omega) (sig_e (Or.inl (by omega)) h1 h2)) (fun q hq => hM 253 _ (by omega) (by omega) (by omega) (by omega) rfl)
  · rcases hi i hi2 with ⟨a, b⟩ | ⟨a, b⟩
    · exact Or.inl ⟨(hC _ 6 (by omega) (by omega) (sig_e (e := 21 + 7 * i) (Or.inl (by omega)) (by omega) (by omega))).trans a, (hM 256 i (by omega) (by omega) (by omega) (by omega) rfl).trans b⟩
    · exact Or.inr ⟨(hM 256 i (by omega) (by omega) (by omega) (by omega) rfl).trans a, b.cg (fun i j h1 h2 => hC i j (by omega) (by omega) (sig_e (Or.inl (by omega)) h1 h2)) (fun q hq => hM 257 _ (by omega) (by omega) (by omega) (by omega) rfl)⟩
  · rw [hC 228 1 (by omega) (by omega) rfl]; exact d2
  · rw [hM 246 23 (by omega) (by omega) (by omega) (by omega) rfl]; exact d3
  · rw [hC 229 i (by omega) (by omega) rfl, hM 258 i (by omega) (by omega) (by omega) (by omega) rfl]; exact d4 i hi
/-- the status alone -/
theorem RR.st {h h1 k k1 : Hp} (H : RR h k) (hC : ∀ i j, ¬ (i = 203 ∧ j = 8) → sigC i j = true → h1 i j = h i j) (hM : ∀ i j, ¬ (i = 246 ∧ j = 1) → sigM i j = true → k1 i j = k i j) (hs : h1 203 8 = k1 246 1) : RR h1 k1 :=
  H.rows (fun i j _ a b => hC i j a b) (fun i j a _ _ _ b => hM i j a b) hs (fun r hr => (H.1 r hr).cg2 (fun j => hC _ j (by omega) (by simp [sigC])) (fun j => hC _ j (by omega) (by simp [sigC]; omega)) (hM 247 r (by omega) rfl) (hM 248 r (by omega) rfl) (fun j _ => hM 249 _ (by omega) rfl))
/-- both tell a finding -/
theorem RR.fnd {h k : Hp} (H : RR h k) (v : Int32) : RR (up2 h 203 8 v) (up2 (up2 (up2 k 246 0 0) 246 1 0) 246 1 v) :=
  H.st (fun i j a _ => by rw [up2_at, if_neg a]) (fun i j a b => by
    rw [up2_at, if_neg a, up2_at, if_neg a, up2_at, if_neg (fun q => by obtain ⟨rfl, rfl⟩ := q; cases b)]) (by simp [up2_at])
theorem RR.bad {h k : Hp} (H : RR h k) : RR h (up2 k 246 0 0) := H.cg SmC.rf (SmM.rf.up rfl)
/-! ===== filling ===== -/
def fillU (h : Hp) (a m n : Nat) (v : Int32) : Hp := va_up h a (fun j => if m ≤ j ∧ j < n then v else h a j)
theorem fill_L {a : Nat} {v : Int32} {N : Nat} (hN : lenC a = N) (hN2 : N ≤ 2000) : ∀ (n m : Nat) (h : Hp), m ≤ N → N < n + m → fJ7_fill_L5 n a v (nI m) (nI N) h = some ((), fillU h a m N v) := by
  intro n
  induction n with
  | zero => intro m h h1 h2; omega
  | succ n ih =>
    intro m h h1 h2
    rw [fJ7_fill_L5]
    by_cases c : m = N
    · subst c
      rw [if_pos (by rw [t_le]; omega)]
      congr 2
      funext b
      unfold fillU va_up
      by_cases e : b = a
      · subst e
        simp only [if_pos]
        funext j
        rw [if_neg (by omega)]
      · rw [if_neg e]
    · rw [if_neg (by rw [t_le, nI_toInt (by omega), nI_toInt (by omega)]; omega), hN, inb_n (by omega) (by omega), chk_t, lk_e, lk_e, nI_1, ih (m + 1) _ (by omega) (by omega), cl_n (by omega)]
      congr 2
      funext b
      unfold fillU va_up
      by_cases e : b = a
      · subst e
        simp only [if_pos]
        funext j
        rw [up2_at]
        by_cases e2 : j = m
        · subst e2
          rw [if_neg (by omega), if_pos ⟨rfl, rfl⟩, if_pos (by omega)]
        · rw [if_neg (show ¬ (b = b ∧ j = m) from fun q => e2 q.2)]
          by_cases e3 : m ≤ j ∧ j < N
          · rw [if_pos e3, if_pos (by omega)]
          · rw [if_neg e3, if_neg (by omega)]
      · rw [if_neg e, if_neg e, up2_ne e]
theorem fill_e {a : Nat} {v : Int32} {h : Hp} (hN : lenC a ≤ 2000) : fJ7_fill a v h = some ((), fillU h a 0 (lenC a) v) := by
  unfold fJ7_fill
  rw [lk_e]
  have e := fill_L (a := a) (v := v) rfl hN 4096 0 h (Nat.zero_le _) (by omega)
  rw [nI_0] at e
  exact e
theorem fillU_at {h : Hp} {a m n i j : Nat} {v : Int32} : fillU h a m n v i j = if i = a ∧ m ≤ j ∧ j < n then v else h i j := by
  unfold fillU va_up
  by_cases e : i = a
  · subst e
    by_cases e2 : m ≤ j ∧ j < n
    · rw [if_pos rfl, if_pos e2, if_pos ⟨rfl, e2⟩]
    · rw [if_pos rfl, if_neg e2, if_neg (fun q => e2 q.2)]
  · rw [if_neg e, if_neg (fun q => e q.1)]
def fillM (k : Hp) (m n : Nat) : Hp := fun i j => if i = 249 ∧ m ≤ j ∧ j < n then 0 else k i j
theorem row7_L {r : Nat} (hr : r ≤ 7) {v : Int32} : ∀ (n m : Nat) (k : Hp), m ≤ 40 → 40 < n + m → fX7_row_L65 n (nI r) v (nI m) k = some (v, fillM k (40 * r + m) (40 * r + 40)) := by
  intro n
  induction n with
  | zero => intro m h h1 h2; omega
  | succ n ih =>
    intro m k h1 h2
    rw [fX7_row_L65]
    by_cases c : m = 40
    · subst c
      rw [if_pos (by rw [t_le, nI_toInt (by omega)]; decide)]
      congr 2
      funext i j
      unfold fillM
      rw [if_neg (by omega)]
    · have e1 : (40 : Int32) * nI r + nI m = nI (40 * r + m) := by
        rw [show (40 : Int32) = nI 40 from rfl, pk_mul, nI_add]
      rw [if_neg (by rw [t_le, nI_toInt (by omega)]; show ¬ (40 : Int) ≤ _; omega), e1, inb_n (show 40 * r + m < lenM 249 by show _ < 320; omega) (by decide), chk_t, lk_e, lk_e, nI_1, ih (m + 1) _ (by omega) (by omega), cl_n (by omega)]
      congr 2
      funext i j
      unfold fillM
      rw [up2_at]
      by_cases e2 : i = 249 ∧ j = 40 * r + m
      · rw [if_neg (by omega), if_pos e2, if_pos (by omega)]
      · rw [if_neg e2]
        by_cases e3 : i = 249 ∧ 40 * r + m ≤ j ∧ j < 40 * r + 40
        · rw [if_pos e3, if_pos (by omega)]
        · rw [if_neg e3, if_neg (by omega)]
theorem row7_e {r : Nat} (hr : r ≤ 7) {v : Int32} {k : Hp} : fX7_row_L65 4096 (nI r) v 0 k = some (v, fillM k (40 * r) (40 * r + 40)) := by
  have e := row7_L hr (v := v) 4096 0 k (by omega) (by omega)
  rw [nI_0, Nat.add_zero] at e
  exact e
theorem row7_ok {r l n : Nat} {k : Hp} (hr : r ≤ 7) (c2 : 0 ≤ (nI l).toInt ∧ (nI l).toInt ≤ 2) (c3 : nI n ≤ (40 : Int32)) (c4 : 0 ≤ nI n) : fX7_row (nI r) (nI l) (nI n) k = some (nI n, fillM (up2 (up2 (up2 (up2 k 246 0 0) 246 1 0) 247 r (nI l)) 248 r (nI n)) (40 * r) (40 * r + 40)) := by
  have i7 : inb (nI r) (lenM 247) = true := inb_n (n := 8) (by omega) (by omega)
  have i8 : inb (nI r) (lenM 248) = true := inb_n (n := 8) (by omega) (by omega)
  unfold fX7_row
  rw [lk_e, r7_t hr, bd_e, if_neg (by decide), L_wd 0 2 c2, bd_e, if_neg (by decide), if_pos c3, lk_e, if_pos c4, i7, chk_t, lk_e, i8, chk_t, lk_e, cl_n (by omega)]
  exact row7_e hr
theorem st_row : St_row RR := by
  intro h k a1 a2 a3 H
  by_cases c1 : 0 ≤ a1.toInt ∧ a1.toInt ≤ 7
  · obtain ⟨r, hr, rfl⟩ := rg (n := 7) (by omega) c1
    by_cases c2 : 0 ≤ a2.toInt ∧ a2.toInt ≤ 2
    · obtain ⟨l, hl, rfl⟩ := rg (n := 2) (by omega) c2
      by_cases c3 : a3 ≤ (40 : Int32)
      · by_cases c4 : 0 ≤ a3
        · obtain ⟨n, hn, rfl⟩ := rg (a := a3) (n := 40) (by omega) ⟨(t_le _ _).mp c4, (t_le _ _).mp c3⟩
          refine ⟨nI n, up2 (fillU (up2 (up2 (up2 h (230 + 2 * r) 1 0) (230 + 2 * r) 2 (nI l)) (230 + 2 * r) 3 (nI n)) (230 + 2 * r + 1) 0 40 0) 203 8 0, fillM (up2 (up2 (up2 (up2 k 246 0 0) 246 1 0) 247 r (nI l)) 248 r (nI n)) (40 * r) (40 * r + 40), ?_, ?_, ?_⟩
          · have e := len_R (e := 230 + 2 * r) ⟨by omega, by omega, by omega⟩
            simp only [fX6_row, r6_t hr, bd_e, i10, if_false, w6_t 0 2 c2, if_pos c3, if_pos c4, inb_n (show r < 8 by omega) (by omega), chk_t, fX5_make, lk_e, cl_n (show r < 2147483648 by omega), fill_e (show lenC (230 + 2 * r + 1) ≤ 2000 by omega), fX6_well, e]
          · exact row7_ok hr c2 c3 c4
          · refine H.rows (fun i j a b c => ?_) (fun i j a b c d e => ?_) ?_ (fun q hq => ?_)
            · rw [up2_at, if_neg b, fillU_at, if_neg (by omega), up2_at, if_neg (by omega), up2_at, if_neg (by omega), up2_at, if_neg (by omega)]
            · unfold fillM
              rw [if_neg (by omega), up2_at, if_neg (by omega), up2_at, if_neg (by omega), up2_at, if_neg a, up2_at, if_neg (fun q => by obtain ⟨rfl, rfl⟩ := q; cases e)]
            · rw [up2_at, if_pos ⟨rfl, rfl⟩]
              unfold fillM
              rw [if_neg (by omega), up2_at, if_neg (by omega), up2_at, if_neg (by omega), up2_at, if_pos ⟨rfl, rfl⟩]
            · by_cases eq : q = r
              · subst eq
                right
                refine ⟨?_, l, n, hl, hn, ?_, ?_, ?_, ?_, fun i hi => ?_⟩
                · simp [up2_at, fillU_at]
                · simp [up2_at, fillU_at]
                · simp [up2_at, fillM]
                · simp [up2_at, fillU_at]
                · simp [up2_at, fillM]
                · rw [up2_at, if_neg (by omega), fillU_at, if_pos (by omega)]
                  unfold fillM
                  rw [if_pos (by omega)]
              · refine (H.1 q hq).cg2 (fun j => ?_) (fun j => ?_) ?_ ?_ (fun j hj => ?_)
                · rw [up2_at, if_neg (by omega), fillU_at, if_neg (by omega), up2_at, if_neg (by omega), up2_at, if_neg (by omega), up2_at, if_neg (by omega)]
                · rw [up2_at, if_neg (by omega), fillU_at, if_neg (by omega), up2_at, if_neg (by omega), up2_at, if_neg (by omega), up2_at, if_neg (by omega)]
                · unfold fillM
                  rw [if_neg (by omega), up2_at, if_neg (by omega), up2_at, if_neg (by omega), up2_at, if_neg (by omega), up2_at, if_neg (by omega)]
                · unfold fillM
                  rw [if_neg (by omega), up2_at, if_neg (by omega), up2_at, if_neg (by omega), up2_at, if_neg (by omega), up2_at, if_neg (by omega)]
                · unfold fillM
                  rw [if_neg (by omega), up2_at, if_neg (by omega), up2_at, if_neg (by omega), up2_at, if_neg (by omega), up2_at, if_neg (by omega)]
        · refine ⟨(-1000010 : Int32) - 4, _, _, ?_, ?_, H.fnd 4⟩
          · simp only [fX6_row, r6_t hr, bd_e, i10, if_false, w6_t 0 2 c2, if_pos c3, if_neg c4, fX6_found, lk_e]
          · simp only [fX7_row, lk_e, r7_t hr, bd_e, i10, if_false, L_wd 0 2 c2, if_pos c3, if_neg c4, fX7_finding]
      · refine ⟨-1000001, _, _, ?_, ?_, H.bad⟩
        · simp only [fX6_row, r6_t hr, bd_e, i10, if_false, w6_t 0 2 c2, if_neg c3]
        · simp only [fX7_row, lk_e, r7_t hr, bd_e, i10, if_false, L_wd 0 2 c2, if_neg c3]
    · refine ⟨-1000001, _, _, ?_, ?_, H.bad⟩
      · simp only [fX6_row, r6_t hr, bd_e, i10, if_false, w6_f 0 2 c2, i00, if_true]
      · simp only [fX7_row, lk_e, r7_t hr, bd_e, i10, if_false, L_wf 0 2 c2, i00, if_true]
  · refine ⟨-1000001, _, _, ?_, ?_, H.bad⟩
    · simp only [fX6_row, r6_f c1, bd_e, i00, if_true]
    · simp only [fX7_row, lk_e, r7_f c1, bd_e, i00, if_true]
theorem hold_t {e : Nat} {a b : Int32} {n : Nat} {h : Hp} (hn : n ≤ 40) (e3 : h e 3 = nI n) (c : 0 ≤ a.toInt ∧ 0 ≤ b.toInt ∧ a.toInt + b.toInt ≤ n) : fX5_holds e a b h = some (1, h) := by
  have h1 : (nI n).toInt = n := nI_toInt (by omega)
  have ha : a = I a.toInt := I_of a
  have h2 : (nI n - a).toInt = n - a.toInt := by
    rw [ha, I_nat, I_sub, I_toInt (by omega) (by omega), I_toInt (by omega) (by omega)]
  have z : (0 : Int32).toInt = 0 := rfl
  unfold fX5_holds
  rw [e3, if_neg (by rw [t_lt]; omega), if_neg (by rw [t_lt]; omega), if_neg (by rw [t_lt]; omega), if_neg (by rw [t_lt]; omega)]
theorem hold_f {e : Nat} {a b : Int32} {n : Nat} {h : Hp} (hn : n ≤ 40) (e3 : h e 3 = nI n) (c : ¬ (0 ≤ a.toInt ∧ 0 ≤ b.toInt ∧ a.toInt + b.toInt ≤ n)) : fX5_holds e a b h = some (0, h) := by
  have h1 : (nI n).toInt = n := nI_toInt (by omega)
  have z : (0 : Int32).toInt = 0 := rfl
  unfold fX5_holds
  rw [e3]
  by_cases c1 : a < 0
  · rw [if_pos c1]
  · rw [if_neg c1]
    by_cases c2 : nI n < a
    · rw [if_pos c2]
    · rw [if_neg c2]
      by_cases c3 : b < 0
      · rw [if_pos c3]
      · rw [if_neg c3]
        rw [t_lt] at c1 c2 c3
        have ha : a = I a.toInt := I_of a
        have h2 : (nI n - a).toInt = n - a.toInt := by
          rw [ha, I_nat, I_sub, I_toInt (by omega) (by omega), I_toInt (by omega) (by omega)]
        rw [if_pos (by rw [t_lt]; omega)]
theorem m1_toInt : (-1 : Int32).toInt = -1 := rfl
theorem up_sub1 {n : Nat} (hn : n ≤ 40) : (nI n - 1).toInt64.toInt = (n : Int) - 1 := by
  rw [L_w, show (1 : Int32) = nI 1 from rfl, pk_sub_toInt (by omega) (by omega)]
  rfl
theorem RR.put {h k : Hp} (H : RR h k) {r l n i : Nat} (hr : r < 8) (p1 : h (230 + 2 * r) 1 = 0) (hl : l ≤ 2) (hn : n ≤ 40) (p2 : h (230 + 2 * r) 2 = nI l) (p3 : k 247 r = nI l) (p4 : h (230 + 2 * r) 3 = nI n) (p5 : k 248 r = nI n) (p6 : ∀ i, i < 40 → h (231 + 2 * r) i = k 249 (40 * r + i)) (hi : i < 40) (v : Int32) : RR (up2 (up2 h (230 + 2 * r + 1) i v) 203 8 0) (up2 (up2 (up2 k 246 0 0) 246 1 0) 249 (40 * r + i) v) := by
  refine H.rows (fun x y a b c => ?_) (fun x y a b c d e => ?_) ?_ (fun q hq => ?_)
  · rw [up2_at, if_neg b, up2_at, if_neg (by omega)]
  · rw [up2_at, if_neg (by omega), up2_at, if_neg a, up2_at, if_neg (fun q => by obtain ⟨rfl, rfl⟩ := q; cases e)]
  · simp [up2_at]
  · by_cases eq : q = r
    · subst eq
      right
      refine ⟨?_, l, n, hl, hn, ?_, ?_, ?_, ?_, fun j hj => ?_⟩
      · rw [up2_at, if_neg (by omega), up2_at, if_neg (by omega)]; exact p1
      · rw [up2_at, if_neg (by omega), up2_at, if_neg (by omega)]; exact p2
      · rw [up2_at, if_neg (by omega), up2_at, if_neg (by omega), up2_at, if_neg (by omega)]; exact p3
      · rw [up2_at, if_neg (by omega), up2_at, if_neg (by omega)]; exact p4
      · rw [up2_at, if_neg (by omega), up2_at, if_neg (by omega), up2_at, if_neg (by omega)]; exact p5
      · rw [up2_at, if_neg (by omega), up2_at, up2_at, up2_at, up2_at]
        by_cases e : j = i
        · rw [if_pos (by omega), if_pos (by omega)]
        · rw [if_neg (by omega), if_neg (by omega), if_neg (by omega), if_neg (by omega)]
          exact p6 j hj
    · refine (H.1 q hq).cg2 (fun j => ?_) (fun j => ?_) ?_ ?_ (fun j hj => ?_)
      · rw [up2_at, if_neg (by omega), up2_at, if_neg (by omega)]
      · rw [up2_at, if_neg (by omega), up2_at, if_neg (by omega)]
      · rw [up2_at, if_neg (by omega), up2_at, if_neg (by omega), up2_at, if_neg (by omega)]
      · rw [up2_at, if_neg (by omega), up2_at, if_neg (by omega), up2_at, if_neg (by omega)]
      · rw [up2_at, if_neg (by omega), up2_at, if_neg (by omega), up2_at, if_neg (by omega)]
theorem m_0 {k : Hp} {i j : Nat} (hi : i ≠ 246) : up2 (up2 k 246 0 0) 246 1 0 i j = k i j := by
  rw [up2_at, if_neg (by omega), up2_at, if_neg (by omega)]
theorem st_set : St_set RR := by
  intro h k a1 a2 a3 H
  by_cases c1 : 0 ≤ a1.toInt ∧ a1.toInt ≤ 7
  · obtain ⟨r, hr, rfl⟩ := rg (n := 7) (by omega) c1
    have i8 := inb_n (show r < 8 by omega) (by omega)
    have i7 : inb (nI r) (lenM 247) = true := i8
    have i9 : inb (nI r) (lenM 248) = true := i8
    have cr := cl_n (show r < 2147483648 by omega)
    rcases H.1 r (by omega) with ⟨p1, p2⟩ | ⟨p1, l, n, hl, hn, p2, p3, p4, p5, p6⟩
    · refine ⟨(-1000010 : Int32) - 1, _, _, ?_, ?_, H.fnd 1⟩
      · simp only [fX6_set, r6_t hr, bd_e, i10, if_false, i8, chk_t, cr, p1, fX6_found, lk_e]
      · simp only [fX7_set, lk_e, r7_t hr, bd_e, i10, if_false, i7, chk_t, cr, m_0 (k := k) (i := 247) (by omega), p2, show ¬ (0 : Int32) ≤ -1 by decide, fX7_finding]
    · by_cases c2 : 0 ≤ a2.toInt ∧ 0 ≤ (1 : Int32).toInt ∧ a2.toInt + (1 : Int32).toInt ≤ n
      · have z : (1 : Int32).toInt = 1 := rfl
        obtain ⟨i, hi, rfl⟩ := rg (a := a2) (n := 39) (by omega) ⟨c2.1, by show a2.toInt ≤ 39; omega⟩
        have hin : i < n := by rw [nI_toInt (by omega)] at c2; omega
        have e1 : (40 : Int32) * nI r + nI i = nI (40 * r + i) := by
          rw [show (40 : Int32) = nI 40 from rfl, pk_mul, nI_add]
        have i3 : inb (nI (40 * r + i)) (lenM 249) = true := inb_n (n := 320) (show 40 * r + i < 320 by omega) (by omega)
        have cri := cl_n (show 40 * r + i < 2147483648 by omega)
        have ci := cl_n (show i < 2147483648 by omega)
        have eR := len_R (e := 230 + 2 * r) ⟨by omega, by omega, by omega⟩
        have i40 : inb (nI i) 40 = true := inb_n (by omega) (by omega)
        have hw : (0 : Int64).toInt ≤ (nI i).toInt ∧ (nI i).toInt ≤ ((nI n - 1).toInt64).toInt := by
          rw [up_sub1 hn, nI_toInt (by omega)]
          exact ⟨by show (0 : Int) ≤ _; omega, by omega⟩
        obtain ⟨v, hv1, hv2⟩ : ∃ v : Int32, fX5_lowestBits (230 + 2 * r) a3 h = some (v, h) ∧ ((l = 0 ∧ v = a3.toInt8.toInt32) ∨ (l = 1 ∧ v = a3.toInt16.toInt32) ∨ (l = 2 ∧ v = a3)) := by
          unfold fX5_lowestBits
          rw [p2]
          rcases (show l = 0 ∨ l = 1 ∨ l = 2 by omega) with rfl | rfl | rfl
          · exact ⟨_, if_pos rfl, Or.inl ⟨rfl, rfl⟩⟩
          · exact ⟨_, (if_neg (by decide)).trans (if_pos rfl), Or.inr (Or.inl ⟨rfl, rfl⟩)⟩
          · exact ⟨_, (if_neg (by decide)).trans (if_neg (by decide)), Or.inr (Or.inr ⟨rfl, rfl⟩)⟩
        refine ⟨v, _, _, ?_, ?_, H.put (by omega) p1 hl hn p2 p3 p4 p5 p6 (show i < 40 by omega) v⟩
        · simp only [fX6_set, r6_t hr, bd_e, i10, if_false, i8, chk_t, cr, p1, if_true, hold_t hn p4 c2, fX5_put, hv1, eR, i40, lk_e, ci, fX6_well, up2_self, upd]
        · simp only [fX7_set, lk_e, r7_t hr, bd_e, i10, if_false, i7, i9, chk_t, cr, m_0 (k := k) (i := 247) (by omega), m_0 (k := k) (i := 248) (by omega), p3, p5, if_pos (nI_pos' (show l < 2 ^ 31 by omega)), L_wd _ _ hw, jp_e, e1, i3, cri, up2_self, upd]
          rcases hv2 with ⟨rfl, rfl⟩ | ⟨rfl, rfl⟩ | ⟨rfl, rfl⟩
          · simp [show nI 0 = (0 : Int32) from rfl]
          · simp [show nI 1 = (1 : Int32) from rfl]
          · simp [show nI 2 = (2 : Int32) from rfl]
      · have hw : ¬ ((0 : Int64).toInt ≤ a2.toInt ∧ a2.toInt ≤ ((nI n - 1).toInt64).toInt) := by
          rw [up_sub1 hn]
          have z : (1 : Int32).toInt = 1 := rfl
          have z2 : (0 : Int64).toInt = 0 := rfl
          omega
        refine ⟨(-1000010 : Int32) - 2, _, _, ?_, ?_, H.fnd 2⟩
        · simp only [fX6_set, r6_t hr, bd_e, i10, if_false, i8, chk_t, cr, p1, if_true, hold_f hn p4 c2, i00, fX6_found, lk_e]
        · simp only [fX7_set, lk_e, r7_t hr, bd_e, i10, if_false, i7, i9, chk_t, cr, m_0 (k := k) (i := 247) (by omega), m_0 (k := k) (i := 248) (by omega), p3, p5, if_pos (nI_pos' (show l < 2 ^ 31 by omega)), L_wf _ _ hw, i00, if_true, fX7_finding]
  · refine ⟨-1000001, _, _, ?_, ?_, H.bad⟩
    · simp only [fX6_set, r6_f c1, bd_e, i00, if_true]
    · simp only [fX7_set, lk_e, r7_f c1, bd_e, i00, if_true]
theorem st_drop : St_drop RR := by
  intro h k a1 H
  by_cases c1 : 0 ≤ a1.toInt ∧ a1.toInt ≤ 7
  · obtain ⟨r, hr, rfl⟩ := rg (n := 7) (by omega) c1
    have i8 := inb_n (show r < 8 by omega) (by omega)
    have i7 : inb (nI r) (lenM 247) = true := i8
    have i9 : inb (nI r) (lenM 248) = true := i8
    have cr := cl_n (show r < 2147483648 by omega)
    rcases H.1 r (by omega) with ⟨p1, p2⟩ | ⟨p1, l, n, hl, hn, p2, p3, p4, p5, p6⟩
    · refine ⟨(-1000010 : Int32) - 1, _, _, ?_, ?_, H.fnd 1⟩
      · simp only [fX6_drop, r6_t hr, bd_e, i10, if_false, i8, chk_t, cr, p1, fX6_found, lk_e]
      · simp only [fX7_drop, lk_e, r7_t hr, bd_e, i10, if_false, i7, chk_t, cr, m_0 (k := k) (i := 247) (by omega), p2, show ¬ (0 : Int32) ≤ -1 by decide, fX7_finding]
    · refine ⟨nI n, up2 (up2 h (230 + 2 * r) 1 1) 203 8 0, up2 (up2 (up2 k 246 0 0) 246 1 0) 247 r (-1), ?_, ?_, ?_⟩
      · simp only [fX6_drop, r6_t hr, bd_e, i10, if_false, i8, chk_t, cr, p1, if_true, lk_e, fX6_well]
        rw [up2_at, if_neg (by omega), p4]
      · simp only [fX7_drop, lk_e, r7_t hr, bd_e, i10, if_false, i7, i9, chk_t, cr, m_0 (k := k) (i := 247) (by omega), p3, if_pos (nI_pos' (show l < 2 ^ 31 by omega))]
        rw [up2_at, if_neg (by omega), m_0 (by omega), p5]
      · refine H.rows (fun x y a b c => ?_) (fun x y a b c d e => ?_) ?_ (fun q hq => ?_)
        · rw [up2_at, if_neg b, up2_at, if_neg (by omega)]
        · rw [up2_at, if_neg (by omega), up2_at, if_neg a, up2_at, if_neg (fun q => by obtain ⟨rfl, rfl⟩ := q; cases e)]
        · simp [up2_at]
        · by_cases eq : q = r
          · subst eq
            left
            exact ⟨by simp [up2_at], by simp [up2_at]⟩
          · refine (H.1 q hq).cg2 (fun j => ?_) (fun j => ?_) ?_ ?_ (fun j hj => ?_)
            · rw [up2_at, if_neg (by omega), up2_at, if_neg (by omega)]
            · rw [up2_at, if_neg (by omega), up2_at, if_neg (by omega)]
            · rw [up2_at, if_neg (by omega), up2_at, if_neg (by omega), up2_at, if_neg (by omega)]
            · rw [up2_at, if_neg (by omega), up2_at, if_neg (by omega), up2_at, if_neg (by omega)]
            · rw [up2_at, if_neg (by omega), up2_at, if_neg (by omega), up2_at, if_neg (by omega)]
  · refine ⟨-1000001, _, _, ?_, ?_, H.bad⟩
    · simp only [fX6_drop, r6_f c1, bd_e, i00, if_true]
    · simp only [fX7_drop, lk_e, r7_f c1, bd_e, i00, if_true]
theorem st_status : St_status RR := fun h k H => ⟨h 203 8, h, up2 k 246 0 0, rfl, by simp only [fX7_status, lk_e]; rw [up2_at, if_neg (by omega), H.2.2.1.1], H.bad⟩
theorem st_fault : St_fault RR := fun h k H => ⟨h 203 7, h, up2 k 246 0 0, rfl, by simp only [fX7_fault, lk_e]; rw [up2_at, if_neg (by omega), H.2.2.1.2], H.bad⟩
