/-! ===== whole numbers for the machine's ===== -/
def I (z : Int) : Int32 := Int32.ofInt z
theorem I_toInt {z : Int} (h1 : -2147483648 ≤ z) (h2 : z < 2147483648) : (I z).toInt = z := Int32.toInt_ofInt_of_le (by exact h1) (by exact h2)
theorem I_of (x : Int32) : x = I x.toInt := by unfold I; exact (Int32.ofInt_toInt x).symm
theorem I_add (a b : Int) : I a + I b = I (a + b) := by unfold I; exact (Int32.ofInt_add a b).symm
theorem I_sub (a b : Int) : I a - I b = I (a - b) := by unfold I; exact (Int32.ofInt_sub a b).symm
theorem I_mul (a b : Int) : I a * I b = I (a * b) := by unfold I; exact (Int32.ofInt_mul a b).symm
theorem I_neg (a : Int) : -I a = I (-a) := by unfold I; exact (Int32.ofInt_neg a).symm
theorem I_nat (n : Nat) : nI n = I (n : Int) := by unfold I nI; exact (Int32.ofInt_eq_ofNat).symm
theorem I_lit (n : Nat) : (OfNat.ofNat n : Int32) = I (n : Int) := by rw [← I_nat]; exact fa_lit' n
where fa_lit' (n : Nat) : (OfNat.ofNat n : Int32) = nI n := rfl
theorem I_0 : (0 : Int32) = I 0 := rfl
theorem I_1 : (1 : Int32) = I 1 := rfl
theorem I_lt {a b : Int} (h1 : -2147483648 ≤ a) (h2 : a < 2147483648) (h3 : -2147483648 ≤ b) (h4 : b < 2147483648) : I a < I b ↔ a < b := by rw [Int32.lt_iff_toInt_lt, I_toInt h1 h2, I_toInt h3 h4]
theorem I_le {a b : Int} (h1 : -2147483648 ≤ a) (h2 : a < 2147483648) (h3 : -2147483648 ≤ b) (h4 : b < 2147483648) : I a ≤ I b ↔ a ≤ b := by rw [Int32.le_iff_toInt_le, I_toInt h1 h2, I_toInt h3 h4]
theorem I_eq {a b : Int} (h1 : -2147483648 ≤ a) (h2 : a < 2147483648) (h3 : -2147483648 ≤ b) (h4 : b < 2147483648) : I a = I b ↔ a = b := by rw [← Int32.toInt_inj, I_toInt h1 h2, I_toInt h3 h4]
theorem I_idx {z : Int} (h1 : 0 ≤ z) (h2 : z < 2147483648) : (I z).toNatClampNeg = z.toNat := by
  show (I z).toInt.toNat = _
  rw [I_toInt (by omega) h2]
theorem I_inb {z : Int} {n : Nat} (h1 : -2147483648 ≤ z) (h2 : z < 2147483648) : inb (I z) n = (decide (0 ≤ z) && decide (z < n)) := by unfold inb; rw [I_toInt h1 h2]
theorem inb_n {i n : Nat} (h : i < n) (hn : n < 2147483648) : inb (nI i) n = true := by
  unfold inb
  rw [nI_toInt (by omega)]
  simp
  omega
theorem cl_n {i : Nat} (h : i < 2147483648) : (nI i).toNatClampNeg = i := nI_clamp h
/-! ===== what is significant ===== -/
def sigC (i j : Nat) : Bool := decide (i < 7) || (decide (21 ≤ i) && decide (i < 205)) || (i == 205 && j == 1) || i == 206 || i == 207 || i == 228 || i == 229 || decide (230 ≤ i)
def sigM (i j : Nat) : Bool := (i == 246 && (j == 1 || j == 9 || j == 11 || j == 18 || j == 23)) || i == 247 || i == 248 || i == 249 || i == 250 || i == 253 || i == 254 || i == 256 || i == 257 || i == 258
def SmC (h h1 : Hp) : Prop := ∀ i j, sigC i j = true → h1 i j = h i j
def SmM (k k1 : Hp) : Prop := ∀ i j, sigM i j = true → k1 i j = k i j
theorem SmC.rf {h : Hp} : SmC h h := fun _ _ _ => rfl
theorem SmM.rf {h : Hp} : SmM h h := fun _ _ _ => rfl
theorem SmC.tr {h h1 h2 : Hp} (a : SmC h h1) (b : SmC h1 h2) : SmC h h2 := fun i j q => (b i j q).trans (a i j q)
theorem SmM.tr {h h1 h2 : Hp} (a : SmM h h1) (b : SmM h1 h2) : SmM h h2 := fun i j q => (b i j q).trans (a i j q)
theorem SmC.up {h h1 : Hp} {i j : Nat} {v : Int32} (a : SmC h h1) (hs : sigC i j = false) : SmC h (up2 h1 i j v) := fun a1 b q => by
  rw [up2_at]
  by_cases e : a1 = i ∧ b = j
  · rw [e.1, e.2, hs] at q; cases q
  · rw [if_neg e]; exact a a1 b q
theorem SmM.up {h h1 : Hp} {i j : Nat} {v : Int32} (a : SmM h h1) (hs : sigM i j = false) : SmM h (up2 h1 i j v) := fun a1 b q => by
  rw [up2_at]
  by_cases e : a1 = i ∧ b = j
  · rw [e.1, e.2, hs] at q; cases q
  · rw [if_neg e]; exact a a1 b q
/-! ===== an estuary: a row of 50 whole numbers ===== -/
abbrev Rw : Type := Nat → Int
def nS (R : Rw) : Nat := (R 0).toNat
/-- which are IN, as bits -/
def mskU (R : Rw) : Nat → Nat
  | 0 => 0
  | s + 1 => mskU R s + (if R (19 + 6 * s) = 1 then 2 ^ s else 0)
def msk (R : Rw) : Nat := mskU R (nS R)
/-- how many have a NUMBER -/
def numU (R : Rw) : Nat → Nat
  | 0 => 0
  | s + 1 => numU R s + (if R (18 + 6 * s) = 0 then 0 else 1)
def ShOk (R : Rw) (s : Nat) : Prop := (1 ≤ R (14 + 6 * s) ∧ R (14 + 6 * s) ≤ 5) ∧ (-16 ≤ R (15 + 6 * s) ∧ R (15 + 6 * s) ≤ 16) ∧ (1 ≤ R (16 + 6 * s) ∧ R (16 + 6 * s) ≤ 5) ∧ (1 ≤ R (17 + 6 * s) ∧ R (17 + 6 * s) ≤ 9) ∧ (0 ≤ R (18 + 6 * s) ∧ R (18 + 6 * s) ≤ 6) ∧ (R (19 + 6 * s) = 0 ∨ R (19 + 6 * s) = 1)
def WF (B : Int) (R : Rw) : Prop := (1 ≤ R 0 ∧ R 0 ≤ 6) ∧ (1 ≤ R 1 ∧ R 1 ≤ 6) ∧ (6 ≤ R 2 ∧ R 2 ≤ 16) ∧ (0 ≤ R 3 ∧ R 3 < R 2) ∧ (0 ≤ R 4 ∧ R 4 < R 2) ∧ (0 ≤ R 5 ∧ R 5 ≤ 15) ∧ (0 ≤ R 6 ∧ R 6 ≤ B) ∧ R 7 = (numU R (nS R) : Int) ∧ (∀ w : Nat, (w : Int) < R 1 → 0 ≤ R (8 + w) ∧ R (8 + w) ≤ 4) ∧ (∀ s, s < nS R → ShOk R s)
def Rep (h : Hp) (e : Nat) (R : Rw) : Prop := h e 6 = 1 ∧ h e 7 = I (R 2) ∧ h e 8 = I (R 3) ∧ h e 9 = I (R 4) ∧ h e 10 = I (R 5) ∧ h e 11 = I (R 1) ∧ h e 12 = I (R 0) ∧ h e 13 = I (R 6) ∧ h e 14 = I (msk R : Int) ∧ h e 15 = I (R 7) ∧ (∀ w : Nat, (w : Int) < R 1 → h (e + 1) w = I (R (8 + w))) ∧ (∀ s, s < nS R → h (e + 2) s = I (R (14 + 6 * s)) ∧ h (e + 3) s = I (R (15 + 6 * s)) ∧ h (e + 4) s = I (R (16 + 6 * s)) ∧ h (e + 5) s = I (R (17 + 6 * s)) ∧ h (e + 6) s = I (R (18 + 6 * s)))
def MR (k : Hp) (a o : Nat) (R : Rw) : Prop := ∀ j, j < 50 → k a (o + j) = I (R j)
/-! ===== class and reference side by side ===== -/
def rowR (h k : Hp) (r : Nat) : Prop := (h (230 + 2 * r) 1 = 1 ∧ k 247 r = -1) ∨ (h (230 + 2 * r) 1 = 0 ∧ ∃ l n : Nat, l ≤ 2 ∧ n ≤ 40 ∧ h (230 + 2 * r) 2 = nI l ∧ k 247 r = nI l ∧ h (230 + 2 * r) 3 = nI n ∧ k 248 r = nI n ∧ ∀ i, i < 40 → h (231 + 2 * r) i = k 249 (40 * r + i))
def tapeR (h k : Hp) : Prop := ∃ n : Nat, n ≤ 120 ∧ h 205 1 = nI n ∧ k 246 11 = nI n ∧ ∀ i, i < n → ∃ c : Nat, c < 256 ∧ h 206 i = nI c ∧ k 254 i = nI c
def statR (h k : Hp) : Prop := h 203 8 = k 246 1 ∧ h 203 7 = k 246 18
def estR (h k : Hp) (e a o : Nat) : Prop := ∃ R, WF 999 R ∧ Rep h e R ∧ MR k a o R
def noE (h k : Hp) : Prop := h 0 6 = 0 ∧ h 0 7 = 0 ∧ h 0 11 = 0 ∧ h 0 12 = 0 ∧ h 0 13 = 0 ∧ h 0 14 = 0 ∧ h 0 15 = 0 ∧ ∀ j, j < 50 → k 250 j = 0
def nowR (h k : Hp) : Prop := noE h k ∨ estR h k 0 250 0
def actsR (h k : Hp) : Prop := ∃ n N : Nat, n ≤ 24 ∧ N < 24 ∧ h 207 2 = nI n ∧ h 207 1 = nI N ∧ k 246 9 = nI n ∧ ∀ j, j < n → estR h k (35 + 7 * ((N + 24 - n + j) % 24)) 253 (50 * j)
def imgR (h k : Hp) (i : Nat) : Prop := (h (21 + 7 * i) 6 = 0 ∧ k 256 i = 0) ∨ (k 256 i = 1 ∧ estR h k (21 + 7 * i) 257 (50 * i))
def askR (h k : Hp) : Prop := ∃ n : Nat, n ≤ 16 ∧ h 228 1 = nI n ∧ k 246 23 = nI n ∧ ∀ i, i < n → h 229 i = k 258 i
def RR (h k : Hp) : Prop := (∀ r, r < 8 → rowR h k r) ∧ tapeR h k ∧ statR h k ∧ nowR h k ∧ actsR h k ∧ (∀ i, i < 2 → imgR h k i) ∧ askR h k
theorem Rep.cg {h h1 : Hp} {e : Nat} {R : Rw} (H : Rep h e R) (hq : ∀ i j, e ≤ i → i < e + 7 → h1 i j = h i j) : Rep h1 e R := by
  obtain ⟨a1, a2, a3, a4, a5, a6, a7, a8, a9, a10, a11, a12⟩ := H
  have q := fun j => hq e j (Nat.le_refl _) (by omega)
  refine ⟨by rw [q]; exact a1, by rw [q]; exact a2, by rw [q]; exact a3, by rw [q]; exact a4, by rw [q]; exact a5, by rw [q]; exact a6, by rw [q]; exact a7, by rw [q]; exact a8, by rw [q]; exact a9, by rw [q]; exact a10, fun w hw => by rw [hq _ _ (by omega) (by omega)]; exact a11 w hw, fun s hs => ?_⟩
  obtain ⟨b1, b2, b3, b4, b5⟩ := a12 s hs
  exact ⟨by rw [hq _ _ (by omega) (by omega)]; exact b1, by rw [hq _ _ (by omega) (by omega)]; exact b2, by rw [hq _ _ (by omega) (by omega)]; exact b3, by rw [hq _ _ (by omega) (by omega)]; exact b4, by rw [hq _ _ (by omega) (by omega)]; exact b5⟩
theorem estR.cg {h h1 k k1 : Hp} {e a o : Nat} (H : estR h k e a o) (hq : ∀ i j, e ≤ i → i < e + 7 → h1 i j = h i j) (hm : ∀ j, j < 50 → k1 a (o + j) = k a (o + j)) : estR h1 k1 e a o := by
  obtain ⟨R, h1, h2, h3⟩ := H
  exact ⟨R, h1, h2.cg hq, fun j hj => (hm j hj).trans (h3 j hj)⟩
theorem sig_e {e i j : Nat} (he : (21 ≤ e ∧ e ≤ 196) ∨ e = 0) (h1 : e ≤ i) (h2 : i < e + 7) : sigC i j = true := by
  unfold sigC
  rcases he with he | he
  · have a : 21 ≤ i := by omega
    have b : i < 205 := by omega
    simp [a, b]
  · have a : i < 7 := by omega
    simp [a]
theorem rowR.cg {h h1 k k1 : Hp} {r : Nat} (H : rowR h k r) (hr : r < 8) (hC : SmC h h1) (hM : SmM k k1) : rowR h1 k1 r := by
  have c1 : ∀ i j, 230 ≤ i → h1 i j = h i j := fun i j q => hC i j (by simp [sigC, q])
  have m1 : ∀ j, k1 247 j = k 247 j := fun j => hM 247 j rfl
  have m2 : ∀ j, k1 248 j = k 248 j := fun j => hM 248 j rfl
  have m3 : ∀ j, k1 249 j = k 249 j := fun j => hM 249 j rfl
  unfold rowR at H ⊢
  rw [c1 _ _ (by omega), c1 _ _ (by omega), c1 _ _ (by omega), m1, m2]
  rcases H with H | ⟨a, l, n, b1, b2, b3, b4, b5, b6, b7⟩
  · exact Or.inl H
  · exact Or.inr ⟨a, l, n, b1, b2, b3, b4, b5, b6, fun i hi => by rw [c1 _ _ (by omega), m3]; exact b7 i hi⟩
theorem tapeR.cg {h h1 k k1 : Hp} (H : tapeR h k) (hC : SmC h h1) (hM : SmM k k1) : tapeR h1 k1 := by
  obtain ⟨n, a, b, c, d⟩ := H
  exact ⟨n, a, (hC 205 1 rfl).trans b, (hM 246 11 rfl).trans c, fun i hi => by rw [hC 206 i rfl, hM 254 i rfl]; exact d i hi⟩
theorem nowR.cg {h h1 k k1 : Hp} (H : nowR h k) (hC : SmC h h1) (hM : SmM k k1) : nowR h1 k1 := by
  have c1 : ∀ j, h1 0 j = h 0 j := fun j => hC 0 j rfl
  have m1 : ∀ j, k1 250 j = k 250 j := fun j => hM 250 j rfl
  rcases H with H | H
  · left
    unfold noE at H ⊢
    simp only [c1, m1]
    exact H
  · right
    exact H.cg (fun i j h1 h2 => hC i j (sig_e (Or.inr rfl) h1 h2)) (fun j hj => m1 _)
theorem actsR.cg {h h1 k k1 : Hp} (H : actsR h k) (hC : SmC h h1) (hM : SmM k k1) : actsR h1 k1 := by
  obtain ⟨n, N, a, b, c, d, e, f⟩ := H
  exact ⟨n, N, a, b, (hC 207 2 rfl).trans c, (hC 207 1 rfl).trans d, (hM 246 9 rfl).trans e, fun j hj => (f j hj).cg (fun i j h1 h2 => hC i j (sig_e (Or.inl (by omega)) h1 h2)) (fun q hq => hM 253 _ rfl)⟩
theorem imgR.cg {h h1 k k1 : Hp} {i : Nat} (hi : i < 2) (H : imgR h k i) (hC : SmC h h1) (hM : SmM k k1) : imgR h1 k1 i := by
  rcases H with ⟨a, b⟩ | ⟨a, b⟩
  · exact Or.inl ⟨(hC _ 6 (sig_e (e := 21 + 7 * i) (Or.inl (by omega)) (by omega) (by omega))).trans a, (hM 256 i rfl).trans b⟩
  · exact Or.inr ⟨(hM 256 i rfl).trans a, b.cg (fun i j h1 h2 => hC i j (sig_e (Or.inl (by omega)) h1 h2)) (fun q hq => hM 257 _ rfl)⟩
theorem askR.cg {h h1 k k1 : Hp} (H : askR h k) (hC : SmC h h1) (hM : SmM k k1) : askR h1 k1 := by
  obtain ⟨n, a, b, c, d⟩ := H
  exact ⟨n, a, (hC 228 1 rfl).trans b, (hM 246 23 rfl).trans c, fun i hi => by rw [hC 229 i rfl, hM 258 i rfl]; exact d i hi⟩
theorem statR.cg {h h1 k k1 : Hp} (H : statR h k) (hC : SmC h h1) (hM : SmM k k1) : statR h1 k1 := ⟨(hC 203 8 rfl).trans (H.1.trans (hM 246 1 rfl).symm), (hC 203 7 rfl).trans (H.2.trans (hM 246 18 rfl).symm)⟩
theorem RR.cg {h h1 k k1 : Hp} (H : RR h k) (hC : SmC h h1) (hM : SmM k k1) : RR h1 k1 := ⟨fun r hr => (H.1 r hr).cg hr hC hM, H.2.1.cg hC hM, H.2.2.1.cg hC hM, H.2.2.2.1.cg hC hM, H.2.2.2.2.1.cg hC hM, fun i hi => (H.2.2.2.2.2.1 i hi).cg hi hC hM, H.2.2.2.2.2.2.cg hC hM⟩
theorem rr_0 : RR h0 k0 := by
  refine ⟨fun r hr => Or.inl ?_, ⟨0, by omega, rfl, rfl, fun i hi => absurd hi (by omega)⟩, ⟨rfl, rfl⟩, Or.inl ⟨rfl, rfl, rfl, rfl, rfl, rfl, rfl, fun j hj => rfl⟩, ⟨0, 0, by omega, by omega, rfl, rfl, rfl, fun j hj => absurd hj (by omega)⟩, fun i hi => Or.inl ⟨?_, rfl⟩, ⟨0, by omega, rfl, rfl, fun i hi => absurd hi (by omega)⟩⟩
  · match r, hr with
    | 0, _ => exact ⟨rfl, rfl⟩
    | 1, _ => exact ⟨rfl, rfl⟩
    | 2, _ => exact ⟨rfl, rfl⟩
    | 3, _ => exact ⟨rfl, rfl⟩
    | 4, _ => exact ⟨rfl, rfl⟩
    | 5, _ => exact ⟨rfl, rfl⟩
    | 6, _ => exact ⟨rfl, rfl⟩
    | 7, _ => exact ⟨rfl, rfl⟩
    | (r + 8), h => exact absurd h (by omega)
  · match i, hi with
    | 0, _ => rfl
    | 1, _ => rfl
    | (r + 2), h => exact absurd h (by omega)
