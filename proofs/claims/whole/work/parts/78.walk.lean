/-! ===== walks: numbers alone ===== -/
def cbU (g : Int → Int) : Nat → Int → Int → Int
  | 0, b, _ => b
  | d + 1, b, x => cbU g d (if g x < g b then x else b) (x + 1)
theorem cbU_p {g : Int → Int} {lo : Int} : ∀ (d : Nat) (b x : Int), lo ≤ b → b < x → (∀ y, lo ≤ y → y < x → g b ≤ g y) → (∀ y, lo ≤ y → y < b → g b < g y) → lo ≤ cbU g d b x ∧ cbU g d b x < x + d ∧ (∀ y, lo ≤ y → y < x + d → g (cbU g d b x) ≤ g y) ∧ (∀ y, lo ≤ y → y < cbU g d b x → g (cbU g d b x) < g y)
  | 0, b, x, h1, h2, h3, h4 => ⟨h1, by show b < _; omega, fun y a c => h3 y a (by omega), h4⟩
  | d + 1, b, x, h1, h2, h3, h4 => by
    have e : x + ((d + 1 : Nat) : Int) = x + 1 + d := by omega
    have u : cbU g (d + 1) b x = cbU g d (if g x < g b then x else b) (x + 1) := rfl
    rw [e, u]
    by_cases q : g x < g b
    · rw [if_pos q]
      refine cbU_p d x (x + 1) (by omega) (by omega) (fun y a c => ?_) (fun y a c => ?_)
      · by_cases z : y = x
        · rw [z]; exact Int.le_refl _
        · have := h3 y a (by omega); omega
      · have := h3 y a (by omega); omega
    · rw [if_neg q]
      refine cbU_p d b (x + 1) h1 (by omega) (fun y a c => ?_) h4
      by_cases z : y = x
      · rw [z]; omega
      · exact h3 y a (by omega)
def cb (g : Int → Int) (L c : Int) : Int := cbU g (min (c + 1) (L - 1) - max (c - 1) 0).toNat (max (c - 1) 0) (max (c - 1) 0 + 1)
theorem cb_p {g : Int → Int} {L c : Int} (h1 : 0 ≤ c) (h2 : c < L) : max (c - 1) 0 ≤ cb g L c ∧ cb g L c ≤ min (c + 1) (L - 1) ∧ (∀ y, max (c - 1) 0 ≤ y → y ≤ min (c + 1) (L - 1) → g (cb g L c) ≤ g y) ∧ (∀ y, max (c - 1) 0 ≤ y → y < cb g L c → g (cb g L c) < g y) := by
  obtain ⟨a1, a2, a3, a4⟩ := cbU_p (g := g) (lo := max (c - 1) 0) (min (c + 1) (L - 1) - max (c - 1) 0).toNat (max (c - 1) 0) (max (c - 1) 0 + 1) (Int.le_refl _) (by omega) (fun y a b => by rw [show y = max (c - 1) 0 by omega]; exact Int.le_refl _) (fun y a b => by omega)
  refine ⟨a1, ?_, fun y p q => a3 y p (by omega), a4⟩
  show cbU g (min (c + 1) (L - 1) - max (c - 1) 0).toNat (max (c - 1) 0) (max (c - 1) 0 + 1) ≤ _
  omega
section WY
variable (P : Nat → Int → Int) (L : Int)
def EE : Nat → Int → Int
  | 0, _ => 0
  | m + 1, c => P m (cb (fun x => P m x + EE m x) L c) + EE m (cb (fun x => P m x + EE m x) L c)
def gg (m : Nat) (x : Int) : Int := P m x + EE P L m x
def nx (m : Nat) (c : Int) : Int := cb (gg P L m) L c
def WY : Nat → Int → Nat
  | 0, _ => 0
  | m + 1, c => (nx P L m c - c + 1).toNat * 3 ^ m + WY m (nx P L m c)
end WY
def okw (L : Int) : Nat → Int → Nat → Bool
  | 0, _, _ => true
  | m + 1, c, w => decide (0 ≤ c + ((w / 3 ^ m : Nat) : Int) - 1 ∧ c + ((w / 3 ^ m : Nat) : Int) - 1 < L) && okw L m (c + ((w / 3 ^ m : Nat) : Int) - 1) (w % 3 ^ m)
def vl (P : Nat → Int → Int) : Nat → Int → Nat → Int
  | 0, _, _ => 0
  | m + 1, c, w => P m (c + ((w / 3 ^ m : Nat) : Int) - 1) + vl P m (c + ((w / 3 ^ m : Nat) : Int) - 1) (w % 3 ^ m)
theorem dvm {d p r : Nat} (h : r < p) : (d * p + r) / p = d ∧ (d * p + r) % p = r := by
  constructor
  · rw [Nat.mul_comm, Nat.mul_add_div (by omega), Nat.div_eq_of_lt h, Nat.add_zero]
  · rw [Nat.mul_comm, Nat.mul_add_mod]
    exact Nat.mod_eq_of_lt h
theorem p3 {m : Nat} : 0 < 3 ^ m := Nat.pow_pos (by omega)
theorem p3s {m : Nat} : 3 ^ (m + 1) = 3 * 3 ^ m := by rw [Nat.pow_succ, Nat.mul_comm]
section OPT
variable {P : Nat → Int → Int} {L : Int}
theorem EE_s {m : Nat} {c : Int} : EE P L (m + 1) c = gg P L m (nx P L m c) := rfl
theorem nx_p {m : Nat} {c : Int} (h1 : 0 ≤ c) (h2 : c < L) : max (c - 1) 0 ≤ nx P L m c ∧ nx P L m c ≤ min (c + 1) (L - 1) ∧ (∀ y, max (c - 1) 0 ≤ y → y ≤ min (c + 1) (L - 1) → gg P L m (nx P L m c) ≤ gg P L m y) ∧ (∀ y, max (c - 1) 0 ≤ y → y < nx P L m c → gg P L m (nx P L m c) < gg P L m y) := cb_p h1 h2
theorem opt : ∀ (m : Nat) (c : Int), 0 ≤ c → c < L → WY P L m c < 3 ^ m ∧ okw L m c (WY P L m c) = true ∧ vl P m c (WY P L m c) = EE P L m c ∧ (∀ w, w < 3 ^ m → okw L m c w = true → EE P L m c ≤ vl P m c w) ∧ (∀ w, w < WY P L m c → okw L m c w = true → EE P L m c < vl P m c w)
  | 0, c, h1, h2 => ⟨by show 0 < 1; omega, rfl, rfl, fun w _ _ => Int.le_refl _, fun w h _ => absurd h (Nat.not_lt_zero _)⟩
  | m + 1, c, h1, h2 => by
    obtain ⟨b1, b2, b3, b4⟩ := nx_p (P := P) (m := m) h1 h2
    have hb1 : 0 ≤ nx P L m c := by omega
    have hb2 : nx P L m c < L := by omega
    obtain ⟨i1, i2, i3, i4, i5⟩ := opt m (nx P L m c) hb1 hb2
    have pp := p3 (m := m)
    have ps := p3s (m := m)
    have uW : WY P L (m + 1) c = (nx P L m c - c + 1).toNat * 3 ^ m + WY P L m (nx P L m c) := rfl
    obtain ⟨dv, mdl⟩ := dvm (d := (nx P L m c - c + 1).toNat) i1
    have ec : c + (((nx P L m c - c + 1).toNat : Nat) : Int) - 1 = nx P L m c := by omega
    have le2 : (nx P L m c - c + 1).toNat * 3 ^ m ≤ 2 * 3 ^ m := Nat.mul_le_mul_right _ (by omega)
    refine ⟨by rw [uW, ps]; omega, ?_, ?_, ?_, ?_⟩
    · show (decide _ && okw L m _ _) = true
      rw [uW, dv, mdl, ec, i2, decide_eq_true ⟨hb1, hb2⟩]
      rfl
    · show P m _ + vl P m _ _ = _
      rw [uW, dv, mdl, ec, i3, EE_s]
      rfl
    · intro w hw ho
      have hd : w / 3 ^ m < 3 := Nat.div_lt_of_lt_mul (by rw [Nat.mul_comm, ← ps]; exact hw)
      have hr : w % 3 ^ m < 3 ^ m := Nat.mod_lt _ pp
      have ho' : (decide (0 ≤ c + ((w / 3 ^ m : Nat) : Int) - 1 ∧ c + ((w / 3 ^ m : Nat) : Int) - 1 < L) && okw L m (c + ((w / 3 ^ m : Nat) : Int) - 1) (w % 3 ^ m)) = true := ho
      rw [Bool.and_eq_true, decide_eq_true_eq] at ho'
      obtain ⟨⟨v1, v2⟩, v3⟩ := ho'
      have nn : (0 : Int) ≤ ((w / 3 ^ m : Nat) : Int) := Int.natCast_nonneg _
      have j := (opt m _ v1 v2).2.2.2.1 _ hr v3
      have g := b3 (c + ((w / 3 ^ m : Nat) : Int) - 1) (by omega) (by omega)
      show _ ≤ P m (c + ((w / 3 ^ m : Nat) : Int) - 1) + vl P m (c + ((w / 3 ^ m : Nat) : Int) - 1) (w % 3 ^ m)
      rw [EE_s]
      have gu : gg P L m (c + ((w / 3 ^ m : Nat) : Int) - 1) = P m (c + ((w / 3 ^ m : Nat) : Int) - 1) + EE P L m (c + ((w / 3 ^ m : Nat) : Int) - 1) := rfl
      omega
    · intro w hw ho
      rw [uW] at hw
      have hr : w % 3 ^ m < 3 ^ m := Nat.mod_lt _ pp
      have ho' : (decide (0 ≤ c + ((w / 3 ^ m : Nat) : Int) - 1 ∧ c + ((w / 3 ^ m : Nat) : Int) - 1 < L) && okw L m (c + ((w / 3 ^ m : Nat) : Int) - 1) (w % 3 ^ m)) = true := ho
      rw [Bool.and_eq_true, decide_eq_true_eq] at ho'
      obtain ⟨⟨v1, v2⟩, v3⟩ := ho'
      have nn : (0 : Int) ≤ ((w / 3 ^ m : Nat) : Int) := Int.natCast_nonneg _
      have dm := Nat.div_add_mod w (3 ^ m)
      rw [Nat.mul_comm] at dm
      have hd : w / 3 ^ m ≤ (nx P L m c - c + 1).toNat := by
        rcases Nat.lt_or_ge (nx P L m c - c + 1).toNat (w / 3 ^ m) with z | z
        · have := Nat.mul_le_mul_right (3 ^ m) (show (nx P L m c - c + 1).toNat + 1 ≤ w / 3 ^ m from z)
          rw [Nat.add_mul, Nat.one_mul] at this
          omega
        · exact z
      show _ < P m (c + ((w / 3 ^ m : Nat) : Int) - 1) + vl P m (c + ((w / 3 ^ m : Nat) : Int) - 1) (w % 3 ^ m)
      rw [EE_s]
      have gu : gg P L m (c + ((w / 3 ^ m : Nat) : Int) - 1) = P m (c + ((w / 3 ^ m : Nat) : Int) - 1) + EE P L m (c + ((w / 3 ^ m : Nat) : Int) - 1) := rfl
      by_cases z : w / 3 ^ m = (nx P L m c - c + 1).toNat
      · rw [z, ec] at gu v3 ⊢
        rw [z] at dm
        have j := i5 (w % 3 ^ m) (by omega) v3
        omega
      · have j := (opt m _ v1 v2).2.2.2.1 _ hr v3
        have g := b4 (c + ((w / 3 ^ m : Nat) : Int) - 1) (by omega) (by omega)
        omega
theorem EE_b {M : Nat} (hP : ∀ m x, m < M → 0 ≤ x → x < L → 0 ≤ P m x ∧ P m x ≤ 54) : ∀ (m : Nat) (c : Int), m ≤ M → 0 ≤ c → c < L → 0 ≤ EE P L m c ∧ EE P L m c ≤ 54 * m
  | 0, c, _, _, _ => ⟨Int.le_refl _, by show (0 : Int) ≤ _; omega⟩
  | m + 1, c, h0, h1, h2 => by
    obtain ⟨b1, b2, -, -⟩ := nx_p (P := P) (m := m) h1 h2
    have a := hP m (nx P L m c) (by omega) (by omega) (by omega)
    have i := EE_b hP m (nx P L m c) (by omega) (by omega) (by omega)
    rw [EE_s]
    unfold gg
    omega
/-- where the walker is behind j of n hours -/
def pth (P : Nat → Int → Int) (L : Int) (n : Nat) (c : Int) : Nat → Int
  | 0 => c
  | j + 1 => nx P L (n - 1 - j) (pth P L n c j)
theorem pth_b {n : Nat} {c : Int} (h1 : 0 ≤ c) (h2 : c < L) : ∀ j, 0 ≤ pth P L n c j ∧ pth P L n c j < L
  | 0 => ⟨h1, h2⟩
  | j + 1 => by
    obtain ⟨i1, i2⟩ := pth_b (n := n) h1 h2 j
    obtain ⟨b1, b2, -, -⟩ := nx_p (P := P) (m := n - 1 - j) i1 i2
    show 0 ≤ nx P L (n - 1 - j) (pth P L n c j) ∧ nx P L (n - 1 - j) (pth P L n c j) < L
    omega
theorem pth_w {n : Nat} {c : Int} : ∀ j, j ≤ n → ∃ q, WY P L n c = q * 3 ^ (n - j) + WY P L (n - j) (pth P L n c j)
  | 0, _ => ⟨0, by show WY P L n c = 0 * 3 ^ n + WY P L n c; omega⟩
  | j + 1, h => by
    obtain ⟨q, e⟩ := pth_w (n := n) (c := c) j (by omega)
    have s : n - j = (n - 1 - j) + 1 := by omega
    rw [s] at e
    refine ⟨q * 3 + (nx P L (n - 1 - j) (pth P L n c j) - pth P L n c j + 1).toNat, ?_⟩
    rw [e, show n - (j + 1) = n - 1 - j by omega, p3s]
    show q * (3 * 3 ^ (n - 1 - j)) + ((nx P L (n - 1 - j) (pth P L n c j) - pth P L n c j + 1).toNat * 3 ^ (n - 1 - j) + WY P L (n - 1 - j) (nx P L (n - 1 - j) (pth P L n c j))) = _
    rw [Nat.add_mul, Nat.mul_assoc]
    show _ = _ + WY P L (n - 1 - j) (nx P L (n - 1 - j) (pth P L n c j))
    omega
/-- its turns are the figures of the way -/
theorem pth_d {n j : Nat} {c : Int} (hj : j < n) (h1 : 0 ≤ c) (h2 : c < L) : pth P L n c j + ((WY P L n c / 3 ^ (n - 1 - j) % 3 : Nat) : Int) - 1 = pth P L n c (j + 1) := by
  obtain ⟨q, e⟩ := pth_w (P := P) (L := L) (n := n) (c := c) j (by omega)
  obtain ⟨i1, i2⟩ := pth_b (P := P) (n := n) h1 h2 j
  obtain ⟨b1, b2, -, -⟩ := nx_p (P := P) (m := n - 1 - j) i1 i2
  have s : n - j = (n - 1 - j) + 1 := by omega
  have wl := (opt (P := P) (L := L) (n - 1 - j) (nx P L (n - 1 - j) (pth P L n c j)) (by omega) (by omega)).1
  have u : WY P L n c = (q * 3 + (nx P L (n - 1 - j) (pth P L n c j) - pth P L n c j + 1).toNat) * 3 ^ (n - 1 - j) + WY P L (n - 1 - j) (nx P L (n - 1 - j) (pth P L n c j)) := by
    rw [e, s, p3s, Nat.add_mul, Nat.mul_assoc]
    show _ + (_ * _ + _) = _
    omega
  rw [u, (dvm wl).1, Nat.mul_comm q 3, Nat.mul_add_mod, Nat.mod_eq_of_lt (by omega)]
  show _ = nx P L (n - 1 - j) (pth P L n c j)
  omega
end OPT
