/-! ===== copying an estuary; keeping acts ===== -/
theorem lk_i {α β : Type} {P : β → Prop} {v : α} {k : α → β} (h : ∀ x, x = v → P (k x)) : P (lk v k) := h v rfl
theorem cp_row {h h1 : Hp} {e o t : Nat} (e1 : h1 = va_up h (e + t) (va_cpy (h (o + t)) (h (e + t)) (0 : Int32).toNatClampNeg (0 : Int32).toNatClampNeg (6 : Int32).toNatClampNeg)) : (∀ i, i ≠ e + t → h1 i = h i) ∧ ∀ j, j < 6 → h1 (e + t) j = h (o + t) j := by
  subst e1
  refine ⟨fun i hi => va_up_ne _ _ hi, fun j hj => ?_⟩
  rw [va_up_at, show (0 : Int32).toNatClampNeg = 0 from rfl, show (6 : Int32).toNatClampNeg = 6 from rfl]
  unfold va_cpy
  rw [if_pos (by omega)]
  congr 1
  omega
theorem cp_sc {h h1 : Hp} {e o j : Nat} (e1 : h1 = up2 h e j (h o j)) : (∀ a b, ¬ (a = e ∧ b = j) → h1 a b = h a b) ∧ h1 e j = h o j := by
  subst e1
  exact ⟨fun a b q => by rw [up2_at, if_neg q], by rw [up2_at, if_pos ⟨rfl, rfl⟩]⟩
theorem cpok6 : cpok 0 0 6 6 6 = true := by decide
theorem c_become {e o : Nat} {h : Hp} (he : isE e) (ho : isE o) (hd : e ≠ o) (hb : isB (h o 6) = true) : ∃ h1, fX2_become e o h = some ((), h1) ∧ (∀ j, 6 ≤ j → j ≤ 15 → h1 e j = h o j) ∧ (∀ t, 1 ≤ t → t ≤ 6 → ∀ j, j < 6 → h1 (e + t) j = h (o + t) j) ∧ off7 h h1 e := by
  have hdis : e + 7 ≤ o ∨ o + 7 ≤ e := by
    obtain ⟨a1, a2⟩ := he
    obtain ⟨b1, b2⟩ := ho
    omega
  unfold fX2_become
  rw [len_E1 he, len_E1 ho, len_E2 he, len_E2 ho, len_E3 he, len_E3 ho, len_E4 he, len_E4 ho, len_E5 he, len_E5 ho, len_E6 he, len_E6 ho, cpok6, chk_t]
  refine lk_i (P := fun z => ∃ h1, z = some ((), h1) ∧ (∀ j, 6 ≤ j → j ≤ 15 → h1 e j = h o j) ∧ (∀ t, 1 ≤ t → t ≤ 6 → ∀ j, j < 6 → h1 (e + t) j = h (o + t) j) ∧ off7 h h1 e) (fun x1 e1 => ?_)
  obtain ⟨f1, g1⟩ := cp_row e1
  rw [chk_t]
  refine lk_i (P := fun z => ∃ h1, z = some ((), h1) ∧ (∀ j, 6 ≤ j → j ≤ 15 → h1 e j = h o j) ∧ (∀ t, 1 ≤ t → t ≤ 6 → ∀ j, j < 6 → h1 (e + t) j = h (o + t) j) ∧ off7 h h1 e) (fun x2 e2 => ?_)
  obtain ⟨f2, g2⟩ := cp_row e2
  rw [chk_t]
  refine lk_i (P := fun z => ∃ h1, z = some ((), h1) ∧ (∀ j, 6 ≤ j → j ≤ 15 → h1 e j = h o j) ∧ (∀ t, 1 ≤ t → t ≤ 6 → ∀ j, j < 6 → h1 (e + t) j = h (o + t) j) ∧ off7 h h1 e) (fun x3 e3 => ?_)
  obtain ⟨f3, g3⟩ := cp_row e3
  rw [chk_t]
  refine lk_i (P := fun z => ∃ h1, z = some ((), h1) ∧ (∀ j, 6 ≤ j → j ≤ 15 → h1 e j = h o j) ∧ (∀ t, 1 ≤ t → t ≤ 6 → ∀ j, j < 6 → h1 (e + t) j = h (o + t) j) ∧ off7 h h1 e) (fun x4 e4 => ?_)
  obtain ⟨f4, g4⟩ := cp_row e4
  rw [chk_t]
  refine lk_i (P := fun z => ∃ h1, z = some ((), h1) ∧ (∀ j, 6 ≤ j → j ≤ 15 → h1 e j = h o j) ∧ (∀ t, 1 ≤ t → t ≤ 6 → ∀ j, j < 6 → h1 (e + t) j = h (o + t) j) ∧ off7 h h1 e) (fun x5 e5 => ?_)
  obtain ⟨f5, g5⟩ := cp_row e5
  rw [chk_t]
  refine lk_i (P := fun z => ∃ h1, z = some ((), h1) ∧ (∀ j, 6 ≤ j → j ≤ 15 → h1 e j = h o j) ∧ (∀ t, 1 ≤ t → t ≤ 6 → ∀ j, j < 6 → h1 (e + t) j = h (o + t) j) ∧ off7 h h1 e) (fun x6 e6 => ?_)
  obtain ⟨f6, g6⟩ := cp_row e6
  clear e1 e2 e3 e4 e5 e6
  have F : ∀ i, ¬ (e + 1 ≤ i ∧ i ≤ e + 6) → x6 i = h i := fun i hi => by
    rw [f6 i (by omega), f5 i (by omega), f4 i (by omega), f3 i (by omega), f2 i (by omega), f1 i (by omega)]
  have G : ∀ t, 1 ≤ t → t ≤ 6 → ∀ j, j < 6 → x6 (e + t) j = h (o + t) j := by
    intro t t1 t2 j hj
    rcases (show t = 1 ∨ t = 2 ∨ t = 3 ∨ t = 4 ∨ t = 5 ∨ t = 6 by omega) with rfl | rfl | rfl | rfl | rfl | rfl
    · rw [f6 _ (by omega), f5 _ (by omega), f4 _ (by omega), f3 _ (by omega), f2 _ (by omega), g1 j hj]
    · rw [f6 _ (by omega), f5 _ (by omega), f4 _ (by omega), f3 _ (by omega), g2 j hj, f1 _ (by omega)]
    · rw [f6 _ (by omega), f5 _ (by omega), f4 _ (by omega), g3 j hj, f2 _ (by omega), f1 _ (by omega)]
    · rw [f6 _ (by omega), f5 _ (by omega), g4 j hj, f3 _ (by omega), f2 _ (by omega), f1 _ (by omega)]
    · rw [f6 _ (by omega), g5 j hj, f4 _ (by omega), f3 _ (by omega), f2 _ (by omega), f1 _ (by omega)]
    · rw [g6 j hj, f5 _ (by omega), f4 _ (by omega), f3 _ (by omega), f2 _ (by omega), f1 _ (by omega)]
  clear f1 f2 f3 f4 f5 f6 g1 g2 g3 g4 g5 g6
  have Fo : ∀ j, x6 o j = h o j := fun j => by rw [F o (by omega)]
  rw [Fo, hb, chk_t]
  refine lk_i (P := fun z => ∃ h1, z = some ((), h1) ∧ (∀ j, 6 ≤ j → j ≤ 15 → h1 e j = h o j) ∧ (∀ t, 1 ≤ t → t ≤ 6 → ∀ j, j < 6 → h1 (e + t) j = h (o + t) j) ∧ off7 h h1 e) (fun y6 e6 => ?_)
  rw [← Fo] at e6
  obtain ⟨a6, b6⟩ := cp_sc e6
  refine lk_i (P := fun z => ∃ h1, z = some ((), h1) ∧ (∀ j, 6 ≤ j → j ≤ 15 → h1 e j = h o j) ∧ (∀ t, 1 ≤ t → t ≤ 6 → ∀ j, j < 6 → h1 (e + t) j = h (o + t) j) ∧ off7 h h1 e) (fun y7 e7 => ?_)
  obtain ⟨a7, b7⟩ := cp_sc e7
  refine lk_i (P := fun z => ∃ h1, z = some ((), h1) ∧ (∀ j, 6 ≤ j → j ≤ 15 → h1 e j = h o j) ∧ (∀ t, 1 ≤ t → t ≤ 6 → ∀ j, j < 6 → h1 (e + t) j = h (o + t) j) ∧ off7 h h1 e) (fun y8 e8 => ?_)
  obtain ⟨a8, b8⟩ := cp_sc e8
  refine lk_i (P := fun z => ∃ h1, z = some ((), h1) ∧ (∀ j, 6 ≤ j → j ≤ 15 → h1 e j = h o j) ∧ (∀ t, 1 ≤ t → t ≤ 6 → ∀ j, j < 6 → h1 (e + t) j = h (o + t) j) ∧ off7 h h1 e) (fun y9 e9 => ?_)
  obtain ⟨a9, b9⟩ := cp_sc e9
  refine lk_i (P := fun z => ∃ h1, z = some ((), h1) ∧ (∀ j, 6 ≤ j → j ≤ 15 → h1 e j = h o j) ∧ (∀ t, 1 ≤ t → t ≤ 6 → ∀ j, j < 6 → h1 (e + t) j = h (o + t) j) ∧ off7 h h1 e) (fun y10 e10 => ?_)
  obtain ⟨a10, b10⟩ := cp_sc e10
  refine lk_i (P := fun z => ∃ h1, z = some ((), h1) ∧ (∀ j, 6 ≤ j → j ≤ 15 → h1 e j = h o j) ∧ (∀ t, 1 ≤ t → t ≤ 6 → ∀ j, j < 6 → h1 (e + t) j = h (o + t) j) ∧ off7 h h1 e) (fun y11 e11 => ?_)
  obtain ⟨a11, b11⟩ := cp_sc e11
  refine lk_i (P := fun z => ∃ h1, z = some ((), h1) ∧ (∀ j, 6 ≤ j → j ≤ 15 → h1 e j = h o j) ∧ (∀ t, 1 ≤ t → t ≤ 6 → ∀ j, j < 6 → h1 (e + t) j = h (o + t) j) ∧ off7 h h1 e) (fun y12 e12 => ?_)
  obtain ⟨a12, b12⟩ := cp_sc e12
  refine lk_i (P := fun z => ∃ h1, z = some ((), h1) ∧ (∀ j, 6 ≤ j → j ≤ 15 → h1 e j = h o j) ∧ (∀ t, 1 ≤ t → t ≤ 6 → ∀ j, j < 6 → h1 (e + t) j = h (o + t) j) ∧ off7 h h1 e) (fun y13 e13 => ?_)
  obtain ⟨a13, b13⟩ := cp_sc e13
  refine lk_i (P := fun z => ∃ h1, z = some ((), h1) ∧ (∀ j, 6 ≤ j → j ≤ 15 → h1 e j = h o j) ∧ (∀ t, 1 ≤ t → t ≤ 6 → ∀ j, j < 6 → h1 (e + t) j = h (o + t) j) ∧ off7 h h1 e) (fun y14 e14 => ?_)
  obtain ⟨a14, b14⟩ := cp_sc e14
  refine lk_i (P := fun z => ∃ h1, z = some ((), h1) ∧ (∀ j, 6 ≤ j → j ≤ 15 → h1 e j = h o j) ∧ (∀ t, 1 ≤ t → t ≤ 6 → ∀ j, j < 6 → h1 (e + t) j = h (o + t) j) ∧ off7 h h1 e) (fun y15 e15 => ?_)
  obtain ⟨a15, b15⟩ := cp_sc e15
  have A : ∀ i j, i ≠ e → y15 i j = x6 i j := fun i j hi => by
    rw [a15 i j (by omega), a14 i j (by omega), a13 i j (by omega), a12 i j (by omega), a11 i j (by omega), a10 i j (by omega), a9 i j (by omega), a8 i j (by omega), a7 i j (by omega), a6 i j (by omega)]
  refine ⟨y15, rfl, fun j j1 j2 => ?_, fun t t1 t2 j hj => ?_, fun i hi => ?_⟩
  · rcases (show j = 6 ∨ j = 7 ∨ j = 8 ∨ j = 9 ∨ j = 10 ∨ j = 11 ∨ j = 12 ∨ j = 13 ∨ j = 14 ∨ j = 15 by omega) with rfl | rfl | rfl | rfl | rfl | rfl | rfl | rfl | rfl | rfl
    · rw [a15 _ _ (by omega), a14 _ _ (by omega), a13 _ _ (by omega), a12 _ _ (by omega), a11 _ _ (by omega), a10 _ _ (by omega), a9 _ _ (by omega), a8 _ _ (by omega), a7 _ _ (by omega), b6, Fo]
    · rw [a15 _ _ (by omega), a14 _ _ (by omega), a13 _ _ (by omega), a12 _ _ (by omega), a11 _ _ (by omega), a10 _ _ (by omega), a9 _ _ (by omega), a8 _ _ (by omega), b7, a6 _ _ (by omega), Fo]
    · rw [a15 _ _ (by omega), a14 _ _ (by omega), a13 _ _ (by omega), a12 _ _ (by omega), a11 _ _ (by omega), a10 _ _ (by omega), a9 _ _ (by omega), b8, a7 _ _ (by omega), a6 _ _ (by omega), Fo]
    · rw [a15 _ _ (by omega), a14 _ _ (by omega), a13 _ _ (by omega), a12 _ _ (by omega), a11 _ _ (by omega), a10 _ _ (by omega), b9, a8 _ _ (by omega), a7 _ _ (by omega), a6 _ _ (by omega), Fo]
    · rw [a15 _ _ (by omega), a14 _ _ (by omega), a13 _ _ (by omega), a12 _ _ (by omega), a11 _ _ (by omega), b10, a9 _ _ (by omega), a8 _ _ (by omega), a7 _ _ (by omega), a6 _ _ (by omega), Fo]
    · rw [a15 _ _ (by omega), a14 _ _ (by omega), a13 _ _ (by omega), a12 _ _ (by omega), b11, a10 _ _ (by omega), a9 _ _ (by omega), a8 _ _ (by omega), a7 _ _ (by omega), a6 _ _ (by omega), Fo]
    · rw [a15 _ _ (by omega), a14 _ _ (by omega), a13 _ _ (by omega), b12, a11 _ _ (by omega), a10 _ _ (by omega), a9 _ _ (by omega), a8 _ _ (by omega), a7 _ _ (by omega), a6 _ _ (by omega), Fo]
    · rw [a15 _ _ (by omega), a14 _ _ (by omega), b13, a12 _ _ (by omega), a11 _ _ (by omega), a10 _ _ (by omega), a9 _ _ (by omega), a8 _ _ (by omega), a7 _ _ (by omega), a6 _ _ (by omega), Fo]
    · rw [a15 _ _ (by omega), b14, a13 _ _ (by omega), a12 _ _ (by omega), a11 _ _ (by omega), a10 _ _ (by omega), a9 _ _ (by omega), a8 _ _ (by omega), a7 _ _ (by omega), a6 _ _ (by omega), Fo]
    · rw [b15, a14 _ _ (by omega), a13 _ _ (by omega), a12 _ _ (by omega), a11 _ _ (by omega), a10 _ _ (by omega), a9 _ _ (by omega), a8 _ _ (by omega), a7 _ _ (by omega), a6 _ _ (by omega), Fo]
  · rw [A _ _ (by omega), G t t1 t2 j hj]
  · funext j
    rw [A i j (by omega), F i (by omega)]
theorem Rep.cp {B : Int} {h h1 : Hp} {e o : Nat} {R : Rw} (W : WF B R) (H : Rep h o R) (hs : ∀ j, 6 ≤ j → j ≤ 15 → h1 e j = h o j) (hr : ∀ t, 1 ≤ t → t ≤ 6 → ∀ j, j < 6 → h1 (e + t) j = h (o + t) j) : Rep h1 e R := by
  obtain ⟨a6, a7, a8, a9, a10, a11, a12, a13, a14, a15, aw, as⟩ := H
  have h6 := (nS_le W).2.1
  have w1 := W.2.1
  refine ⟨by rw [hs _ (by omega) (by omega)]; exact a6, by rw [hs _ (by omega) (by omega)]; exact a7, by rw [hs _ (by omega) (by omega)]; exact a8, by rw [hs _ (by omega) (by omega)]; exact a9, by rw [hs _ (by omega) (by omega)]; exact a10, by rw [hs _ (by omega) (by omega)]; exact a11, by rw [hs _ (by omega) (by omega)]; exact a12, by rw [hs _ (by omega) (by omega)]; exact a13, by rw [hs _ (by omega) (by omega)]; exact a14, by rw [hs _ (by omega) (by omega)]; exact a15, fun w hw => by rw [hr 1 (by omega) (by omega) w (by omega)]; exact aw w hw, fun s hs2 => ?_⟩
  obtain ⟨b1, b2, b3, b4, b5⟩ := as s hs2
  exact ⟨by rw [hr 2 (by omega) (by omega) s (by omega)]; exact b1, by rw [hr 3 (by omega) (by omega) s (by omega)]; exact b2, by rw [hr 4 (by omega) (by omega) s (by omega)]; exact b3, by rw [hr 5 (by omega) (by omega) s (by omega)]; exact b4, by rw [hr 6 (by omega) (by omega) s (by omega)]; exact b5⟩
theorem c_bec {B : Int} {e o : Nat} {h : Hp} {R : Rw} (he : isE e) (ho : isE o) (hd : e ≠ o) (W : WF B R) (H : Rep h o R) : ∃ h1, fX2_become e o h = some ((), h1) ∧ Rep h1 e R ∧ off7 h h1 e := by
  obtain ⟨h1, a, b, c, d⟩ := c_become (h := h) he ho hd (by rw [H.1]; rfl)
  exact ⟨h1, a, H.cp W b c, d⟩
/-- rows, tape, status and trace stay -/
theorem RR.mk3 {h h1 k k1 : Hp} (H : RR h k) (c1 : ∀ i j, 228 ≤ i → h1 i j = h i j) (c2 : h1 205 1 = h 205 1) (c3 : ∀ j, h1 206 j = h 206 j) (c4 : ∀ j, h1 203 j = h 203 j) (m1 : ∀ j, j = 1 ∨ j = 11 ∨ j = 18 ∨ j = 23 → k1 246 j = k 246 j) (m2 : ∀ i j, i = 247 ∨ i = 248 ∨ i = 249 ∨ i = 254 ∨ i = 258 → k1 i j = k i j) (hn : nowR h1 k1) (ha : actsR h1 k1) (hi : ∀ i, i < 2 → imgR h1 k1 i) : RR h1 k1 := by
  obtain ⟨hr, ⟨n, t1, t2, t3, t4⟩, ⟨s1, s2⟩, -, -, -, ⟨n3, d1, d2, d3, d4⟩⟩ := H
  refine ⟨fun r hr2 => (hr r hr2).cg2 (fun j => c1 _ j (by omega)) (fun j => c1 _ j (by omega)) (m2 247 r (by omega)) (m2 248 r (by omega)) (fun j _ => m2 249 _ (by omega)), ⟨n, t1, c2.trans t2, (m1 11 (by omega)).trans t3, fun i hi => by rw [c3, m2 254 i (by omega)]; exact t4 i hi⟩, ⟨by rw [c4, m1 1 (by omega)]; exact s1, by rw [c4, m1 18 (by omega)]; exact s2⟩, hn, ha, hi, ⟨n3, d1, (c1 228 1 (by omega)).trans d2, (m1 23 (by omega)).trans d3, fun i hi => by rw [c1 229 i (by omega), m2 258 i (by omega)]; exact d4 i hi⟩⟩
theorem actsR.cg2 {h h1 k k1 : Hp} (H : actsR h k) (c1 : ∀ i j, 35 ≤ i → i < 203 → h1 i j = h i j) (c2 : ∀ j, h1 207 j = h 207 j) (m1 : k1 246 9 = k 246 9) (m2 : ∀ j, k1 253 j = k 253 j) : actsR h1 k1 := by
  obtain ⟨n, N, a, b, c, d, e, f⟩ := H
  exact ⟨n, N, a, b, (c2 2).trans c, (c2 1).trans d, m1.trans e, fun j hj => (f j hj).cg (fun i j h1 h2 => c1 i j (by omega) (by omega)) (fun q hq => m2 _)⟩
theorem imgR.cg2 {h h1 k k1 : Hp} {i : Nat} (hi : i < 2) (H : imgR h k i) (c1 : ∀ a j, 21 ≤ a → a < 35 → h1 a j = h a j) (m1 : ∀ j, k1 256 j = k 256 j) (m2 : ∀ j, k1 257 j = k 257 j) : imgR h1 k1 i := by
  rcases H with ⟨a, b⟩ | ⟨a, b⟩
  · exact Or.inl ⟨(c1 _ 6 (by omega) (by omega)).trans a, (m1 i).trans b⟩
  · exact Or.inr ⟨(m1 i).trans a, b.cg (fun x y h1 h2 => c1 x y (by omega) (by omega)) (fun q hq => m2 _)⟩
/-! ===== the reference keeps ===== -/
theorem keep7_a {K : Hp → Option (Unit × Hp)} {k0 : Hp} {c : Nat} (hc : c ≤ 23) (h9 : k0 246 9 = nI c) : ∀ (n m : Nat) (k : Hp), m ≤ 50 → 50 < n + m → k = (fun i j => if i = 253 ∧ 50 * c ≤ j ∧ j < 50 * c + m then k0 250 (j - 50 * c) else k0 i j) → fX7_keep_L51 K n (nI m) k = K (fun i j => if i = 253 ∧ 50 * c ≤ j ∧ j < 50 * c + 50 then k0 250 (j - 50 * c) else k0 i j) := by
  intro n
  induction n with
  | zero => intro m k h1 h2; omega
  | succ n ih =>
    intro m k h1 h2 hk
    have k9 : k 246 9 = nI c := by rw [hk]; show (if _ then _ else _) = _; rw [if_neg (by omega)]; exact h9
    have e1 : (50 : Int32) * nI c + nI m = nI (50 * c + m) := by rw [show (50 : Int32) = nI 50 from rfl, pk_mul, nI_add]
    rw [fX7_keep_L51, k9, e1]
    by_cases e : m = 50
    · subst e
      rw [if_pos (by rw [t_le]; decide), hk]
    · have i1 : inb (nI m) (lenM 250) = true := inb_n (n := 50) (by omega) (by omega)
      have i2 : inb (nI (50 * c + m)) (lenM 253) = true := inb_n (n := 1200) (by omega) (by omega)
      rw [if_neg (by rw [t_le, nI_toInt (by omega)]; show ¬ (50 : Int) ≤ _; omega), i1, chk_t, i2, chk_t, lk_e, lk_e, nI_1, cl_n (by omega), cl_n (by omega)]
      apply ih (m + 1) _ (by omega) (by omega)
      funext i j
      rw [up2_at]
      have r : k 250 m = k0 250 m := by rw [hk]; show (if _ then _ else _) = _; rw [if_neg (by omega)]
      rw [r, hk]
      by_cases q : i = 253 ∧ j = 50 * c + m
      · rw [if_pos q, if_pos (by omega), q.2]
        congr 1
        omega
      · rw [if_neg q]
        show (if _ then _ else _) = _
        by_cases q2 : i = 253 ∧ 50 * c ≤ j ∧ j < 50 * c + m
        · rw [if_pos q2, if_pos (by omega)]
        · rw [if_neg q2, if_neg (by omega)]
theorem keep7_b {K : Hp → Option (Unit × Hp)} {k0 : Hp} : ∀ (n m : Nat) (k : Hp), m ≤ 1150 → 1150 < n + m → k = (fun i j => if i = 253 ∧ j < m then k0 253 (j + 50) else k0 i j) → fX7_keep_L11 K n (nI m) k = K (fun i j => if i = 253 ∧ j < 1150 then k0 253 (j + 50) else k0 i j) := by
  intro n
  induction n with
  | zero => intro m k h1 h2; omega
  | succ n ih =>
    intro m k h1 h2 hk
    have e1 : nI m + (50 : Int32) = nI (m + 50) := by rw [show (50 : Int32) = nI 50 from rfl, nI_add]
    rw [fX7_keep_L11, e1]
    by_cases e : m = 1150
    · subst e
      rw [if_pos (by rw [t_le]; decide), hk]
    · have i1 : inb (nI (m + 50)) (lenM 253) = true := inb_n (n := 1200) (by omega) (by omega)
      have i2 : inb (nI m) (lenM 253) = true := inb_n (n := 1200) (by omega) (by omega)
      rw [if_neg (by rw [t_le, nI_toInt (by omega)]; show ¬ (1150 : Int) ≤ _; omega), i1, chk_t, i2, chk_t, lk_e, lk_e, nI_1, cl_n (by omega), cl_n (by omega)]
      apply ih (m + 1) _ (by omega) (by omega)
      funext i j
      rw [up2_at]
      have r : k 253 (m + 50) = k0 253 (m + 50) := by rw [hk]; show (if _ then _ else _) = _; rw [if_neg (by omega)]
      rw [r, hk]
      by_cases q : i = 253 ∧ j = m
      · rw [if_pos q, if_pos (by omega), q.2]
      · rw [if_neg q]
        show (if _ then _ else _) = _
        by_cases q2 : i = 253 ∧ j < m
        · rw [if_pos q2, if_pos (by omega)]
        · rw [if_neg q2, if_neg (by omega)]
def shM (k : Hp) : Hp := fun i j => if i = 253 ∧ j < 1150 then k 253 (j + 50) else k i j
def kpM (k : Hp) (c : Nat) : Hp := up2 (fun i j => if i = 253 ∧ 50 * c ≤ j ∧ j < 50 * c + 50 then k 250 (j - 50 * c) else k i j) 246 9 (nI (c + 1))
theorem keep7_e {k : Hp} {c : Nat} (hc : c ≤ 23) (h9 : k 246 9 = nI c) : fX7_keep_L51 (fun kk29 => lk (up2 kk29 246 9 (kk29 246 9 + 1)) fun kk39 => some ((), kk39)) 4096 0 k = some ((), kpM k c) := by
  have e := keep7_a (K := fun kk29 => lk (up2 kk29 246 9 (kk29 246 9 + 1)) fun kk39 => some ((), kk39)) hc h9 4096 0 k (by omega) (by omega) (by funext i j; rw [if_neg (by omega)])
  rw [nI_0, lk_e] at e
  rw [e]
  unfold kpM
  have r : (fun i j => if i = 253 ∧ 50 * c ≤ j ∧ j < 50 * c + 50 then k 250 (j - 50 * c) else k i j) 246 9 = nI c := by
    show (if _ then _ else _) = _
    rw [if_neg (by omega)]
    exact h9
  rw [r, nI_1]
theorem keep7_lt {k : Hp} {c : Nat} (hc : c ≤ 23) (h9 : k 246 9 = nI c) : fX7_keep k = some ((), kpM k c) := by
  unfold fX7_keep
  rw [jp_e, h9, if_neg (show ¬ nI c = (24 : Int32) from fun q => by have := (nI_eq (b := 24) (by omega) (by omega)).mp q; omega)]
  exact keep7_e hc h9
theorem keep7_eq {k : Hp} (h9 : k 246 9 = nI 24) : fX7_keep k = some ((), kpM (up2 (shM k) 246 9 (nI 23)) 23) := by
  have e := keep7_b (K := fun kk66 => lk (up2 kk66 246 9 (kk66 246 9 - 1)) fun kk76 => fX7_keep_L51 (fun kk29 => lk (up2 kk29 246 9 (kk29 246 9 + 1)) fun kk39 => some ((), kk39)) 4096 0 kk76) 4096 0 k (by omega) (by omega) (by funext i j; rw [if_neg (by omega)])
  rw [nI_0, lk_e] at e
  unfold fX7_keep
  rw [jp_e, h9, if_pos (show nI 24 = (24 : Int32) from rfl)]
  refine e.trans ?_
  have e2 : (fun i j => if i = 253 ∧ j < 1150 then k 253 (j + 50) else k i j) = shM k := rfl
  rw [e2]
  have e3 : shM k 246 9 = nI 24 := by unfold shM; rw [if_neg (by omega)]; exact h9
  rw [e3, show nI 24 - 1 = nI 23 from rfl]
  exact keep7_e (by omega) (by rw [up2_at, if_pos ⟨rfl, rfl⟩])
