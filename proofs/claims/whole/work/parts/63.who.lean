/-! ===== who, gusts ===== -/
theorem WF.sf {B : Int} {R : Rw} {s f : Nat} {v : Int} (W : WF B R) (hf : (f = 0 ∧ 1 ≤ v ∧ v ≤ 5) ∨ (f = 1 ∧ 0 ≤ v ∧ v < R 2) ∨ (f = 3 ∧ 1 ≤ v ∧ v ≤ 9)) : WF B (va_up R (14 + 6 * s + f) v) := by
  have w2 := W.2.2.1
  have w1 := W.2.1
  refine W.mod (upR_ne (by omega)) (upR_ne (by omega)) (upR_ne (by omega)) (by rw [upR_ne (by omega)]; exact W.2.2.2.1) (by rw [upR_ne (by omega)]; exact W.2.2.2.2.1) (by rw [upR_ne (by omega)]; exact W.2.2.2.2.2.1) (upR_ne (by omega)) (upR_ne (by omega)) (fun w hw => by rw [upR_ne (by omega)]; exact W.2.2.2.2.2.2.2.2.1 w hw) (fun q hq => ?_) (fun q hq => upR_ne (by omega))
  have k := sh W hq
  unfold ShOk at k ⊢
  by_cases e : q = s
  · subst e
    rcases hf with ⟨rfl, z⟩ | ⟨rfl, z⟩ | ⟨rfl, z⟩
    · rw [show 14 + 6 * q + 0 = 14 + 6 * q by omega, upR_at, upR_ne (by omega), upR_ne (by omega), upR_ne (by omega), upR_ne (by omega), upR_ne (by omega)]; omega
    · rw [show 14 + 6 * q + 1 = 15 + 6 * q by omega, upR_ne (by omega), upR_at, upR_ne (by omega), upR_ne (by omega), upR_ne (by omega), upR_ne (by omega)]; omega
    · rw [show 14 + 6 * q + 3 = 17 + 6 * q by omega, upR_ne (by omega), upR_ne (by omega), upR_ne (by omega), upR_at, upR_ne (by omega), upR_ne (by omega)]; omega
  · rw [upR_ne (by omega), upR_ne (by omega), upR_ne (by omega), upR_ne (by omega), upR_ne (by omega), upR_ne (by omega)]; exact k
theorem Rep.sf {B : Int} {h : Hp} {e s f : Nat} {R : Rw} {v : Int} (W : WF B R) (H : Rep h e R) (hf : f = 0 ∨ f = 1 ∨ f = 3) : Rep (up2 h (e + 2 + f) s (I v)) e (va_up R (14 + 6 * s + f) v) := by
  have w1 := W.2.1
  have o : ∀ i, i ≠ e + 2 + f → ∀ j, up2 h (e + 2 + f) s (I v) i j = h i j := fun i q j => by rw [up2_at, if_neg (by omega)]
  have H2 := H
  obtain ⟨a6, a7, a8, a9, a10, a11, a12, a13, a14, a15, aw, as⟩ := H2
  refine H.mod (upR_ne (by omega)) (upR_ne (by omega)) (o _ (by omega) _) (by rw [o _ (by omega), upR_ne (by omega)]; exact a7) (by rw [o _ (by omega), upR_ne (by omega)]; exact a8) (by rw [o _ (by omega), upR_ne (by omega)]; exact a9) (by rw [o _ (by omega), upR_ne (by omega)]; exact a10) (o _ (by omega) _) (o _ (by omega) _) (by rw [o _ (by omega), upR_ne (by omega)]; exact a13) (by rw [o _ (by omega), msk_congr (upR_ne (by omega)) (fun q hq => upR_ne (by omega))]; exact a14) (by rw [o _ (by omega), upR_ne (by omega)]; exact a15) (fun x hx => by rw [o _ (by omega), upR_ne (by omega)]; exact aw x hx) (fun q hq => ?_)
  obtain ⟨b1, b2, b3, b4, b5⟩ := as q hq
  refine ⟨?_, ?_, by rw [o _ (by omega), upR_ne (by omega)]; exact b3, ?_, by rw [o _ (by omega), upR_ne (by omega)]; exact b5⟩
  · rw [up2_at]
    by_cases z : f = 0 ∧ q = s
    · obtain ⟨rfl, rfl⟩ := z
      rw [if_pos ⟨rfl, rfl⟩, show 14 + 6 * q + 0 = 14 + 6 * q by omega, upR_at]
    · rw [if_neg (by omega), upR_ne (by omega)]; exact b1
  · rw [up2_at]
    by_cases z : f = 1 ∧ q = s
    · obtain ⟨rfl, rfl⟩ := z
      rw [if_pos ⟨rfl, rfl⟩, show 14 + 6 * q + 1 = 15 + 6 * q by omega, upR_at]
    · rw [if_neg (by omega), upR_ne (by omega)]; exact b2
  · rw [up2_at]
    by_cases z : f = 3 ∧ q = s
    · obtain ⟨rfl, rfl⟩ := z
      rw [if_pos ⟨rfl, rfl⟩, show 14 + 6 * q + 3 = 17 + 6 * q by omega, upR_at]
    · rw [if_neg (by omega), upR_ne (by omega)]; exact b4
theorem so_0 {B : Int} {Q : Rw} {c : Nat} {v1 v3 v4 v6 v7 : Int32} {K : Int32 → Hp → Option (Int32 × Hp)} (W : WF B Q) (hB : B + c ≤ 5000) (hc : c ≤ 12) : ∀ (n i : Nat) (k : Hp), i ≤ c → c < n + i → M0 k 252 (hrN Q i) → ∃ k1, fX7_allSo_L30 K n v1 v3 v4 (nI c) v6 v7 0 (nI i) k = K 0 k1 ∧ offA k k1 252 := by
  intro n
  induction n with
  | zero => intro i k h1 h2; omega
  | succ n ih =>
    intro i k h1 h2 M
    rw [fX7_allSo_L30]
    by_cases e : i = c
    · subst e
      rw [if_pos (by rw [t_le]; exact Int.le_refl _)]
      exact ⟨k, rfl, offA.rf⟩
    · have ni : ¬ nI c ≤ nI i := by rw [t_le, nI_toInt (by omega), nI_toInt (by omega)]; omega
      obtain ⟨k1, g1, g2, g3⟩ := m_hour (WF_hrN W i) (by omega) a252 M
      rw [if_neg ni, g1, bd_e]
      dsimp only [jp_e]
      rw [if_pos rfl, lk_e, nI_1]
      obtain ⟨k2, x1, x2⟩ := ih (i + 1) k1 (by omega) (by omega) g2
      exact ⟨k2, x1, g3.tr x2⟩
theorem so_L {B : Int} {Q : Rw} {c o : Nat} {vals : Nat → Int32} {v1 v3 v6 v7 : Int32} {K : Int32 → Hp → Option (Int32 × Hp)} (W : WF B Q) (hB : B + c ≤ 5000) (hc : c ≤ 12) (ho : o + c ≤ 320) : ∀ (n i : Nat) (h k : Hp), i ≤ c → c < n + i → Rep h 14 (hrN Q i) → M0 k 252 (hrN Q i) → h 210 5 = nI c → (∀ j, j < c → h 227 j = vals j) → (∀ j, j < c → k 249 (o + j) = vals j) → ∃ b h1 k1, fX3_isAsTold_L2 n (nI i) h = some (b32 b, h1) ∧ fX7_allSo_L30 K n v1 v3 (nI o) (nI c) v6 v7 1 (nI i) k = K (b32 b) k1 ∧ off7 h h1 14 ∧ offA k k1 252 := by
  intro n
  induction n with
  | zero => intro i h k h1 h2; omega
  | succ n ih =>
    intro i h k h1 h2 H M e5 ev em
    rw [fX3_isAsTold_L2, fX7_allSo_L30, e5]
    by_cases e : i = c
    · subst e
      have le : nI i ≤ nI i := by rw [t_le]; exact Int.le_refl _
      rw [if_pos le, if_pos le]
      exact ⟨true, h, k, rfl, rfl, off7.rf, offA.rf⟩
    · have ni : ¬ nI c ≤ nI i := by rw [t_le, nI_toInt (by omega), nI_toInt (by omega)]; omega
      obtain ⟨h1', f1, f2, f3⟩ := c_hour (WF_hrN W i) (by omega) e14E H
      obtain ⟨k1, g1, g2, g3⟩ := m_hour (WF_hrN W i) (by omega) a252 M
      have f2' : Rep h1' 14 (hrN Q (i + 1)) := f2
      have g2' : M0 k1 252 (hrN Q (i + 1)) := g2
      have WH := WF_hrN W (i + 1)
      have w4 := WH.2.2.2.2.1
      have w2 := WH.2.2.1
      have r4 : k1 252 (4 : Int32).toNatClampNeg = nI (hrN Q (i + 1) 4).toNat := by
        have := g2' 4 (by omega)
        rw [I_n (by omega)] at this
        exact this
      have ez : (((hrN Q (i + 1) 4).toNat : Nat) : Int) = hrN Q (i + 1) 4 := by omega
      have co := c_ov WH e14E f2' (c := hrN Q (i + 1) 4) (by omega) (by omega)
      have mo := m_ov WH a252 g2' (c := (hrN Q (i + 1) 4).toNat) (by omega)
      rw [ez] at mo
      have v1' : h1' 227 i = vals i := by rw [f3 227 (by omega)]; exact ev i (by omega)
      have v2' : k1 249 (o + i) = vals i := by rw [g3 249 (by omega)]; exact em i (by omega)
      have eo : nI o + nI i = nI (o + i) := nI_add o i
      rw [if_neg ni, if_neg ni, f1, bd_e, f2'.2.2.2.1, co, bd_e, show lenC 227 = 12 from rfl, inb_n (by omega) (by omega), chk_t, cl_n (by omega), v1', g1, bd_e]
      dsimp only [jp_e]
      rw [if_neg (show ¬ (1 : Int32) = 0 by decide), lb4' , chk_t, r4, mo, bd_e, eo, show inb (nI (o + i)) (lenM 249) = true from inb_n (n := 320) (by omega) (by omega), chk_t, cl_n (by omega), v2']
      by_cases q : I (ov (hrN Q (i + 1)) (hrN Q (i + 1) 4)) = vals i
      · rw [if_pos q, if_pos q, lk_e, lk_e, nI_1]
        obtain ⟨b, h2', k2', x1, x2, x3, x4⟩ := ih (i + 1) h1' k1 (by omega) (by omega) f2' g2' (by rw [f3 210 (by omega)]; exact e5) (fun j hj => by rw [f3 227 (by omega)]; exact ev j hj) (fun j hj => by rw [g3 249 (by omega)]; exact em j hj)
        exact ⟨b, h2', k2', x1, x2, f3.tr x3, g3.tr x4⟩
      · rw [if_neg q, if_neg q, lk_e, nI_1]
        obtain ⟨k2, x1, x2⟩ := so_0 (v1 := v1) (v3 := v3) (v4 := nI o) (v6 := v6) (v7 := v7) (K := K) W hB hc n (i + 1) k1 (by omega) (by omega) g2'
        exact ⟨false, h1', k2, rfl, x1, f3, g3.tr x2⟩
where lb4' : inb (4 : Int32) (lenM 252) = true := rfl
theorem fit_L {R : Rw} {c o lo hi idx s : Nat} {a2 : Int32} {vals : Nat → Int32} (W : WF 999 R) (hc : c ≤ 12) (ho : o + c ≤ 320) (hi2 : hi ≤ 20) (ix : idx < 50) (S : ∀ v : Nat, lo ≤ v → v ≤ hi → ∀ h, Rep h 14 R → ∃ h1, fX3_suppose a2 (nI s) (nI v) h = some ((), h1) ∧ Rep h1 14 (va_up R idx (v : Int)) ∧ off7 h h1 14) (WV : ∀ v : Nat, lo ≤ v → v ≤ hi → WF 999 (va_up R idx (v : Int))) : ∀ (n v : Nat) (v6 : Int32) (h k : Hp), lo ≤ v → v ≤ hi + 1 → hi + 1 < n + v → Rep h 0 R → M0 k 250 R → h 210 5 = nI c → (∀ j, j < c → h 227 j = vals j) → (∀ j, j < c → k 249 (o + j) = vals j) → ∃ r h1 k1, fX3_fitting_L31 n 0 a2 (nI s) (nI hi) v6 (nI v) h = some (r, h1) ∧ fX7_allSo_L6 n (nI idx) (nI hi) (nI o) (nI c) v6 (nI v) k = some (r, k1) ∧ off7 h h1 14 ∧ offA k k1 252 := by
  intro n
  induction n with
  | zero => intro v v6 h k h0 h1 h2; omega
  | succ n ih =>
    intro v v6 h k h0 h1 h2 H M e5 ev em
    rw [fX3_fitting_L31, fX7_allSo_L6]
    by_cases e : v = hi + 1
    · have le : nI hi < nI v := by rw [t_lt, nI_toInt (by omega), nI_toInt (by omega)]; omega
      rw [if_pos le, if_pos le]
      exact ⟨v6, h, k, rfl, rfl, off7.rf, offA.rf⟩
    · have ni : ¬ nI hi < nI v := by rw [t_lt, nI_toInt (by omega), nI_toInt (by omega)]; omega
      obtain ⟨hA, a1, a2', a3⟩ := c_then W H
      obtain ⟨hB, b1, b2, b3⟩ := S v h0 (by omega) hA a2'
      obtain ⟨kA, l1, l2, l3⟩ := m_then M
      have l4 := l2.up (j := idx) (v := (v : Int))
      rw [← I_nat] at l4
      have ob := a3.tr b3
      have oM : offA k (up2 kA 252 idx (nI v)) 252 := l3.up
      have SO := fun K => so_L (K := K) (v1 := nI idx) (v3 := nI hi) (v6 := v6) (v7 := nI v) (vals := vals) (WV v h0 (by omega)) (by omega) hc ho 4096 0 hB (up2 kA 252 idx (nI v)) (by omega) (by omega) b2 l4 (by rw [ob 210 (by omega)]; exact e5) (fun j hj => by rw [ob 227 (by omega)]; exact ev j hj) (fun j hj => by rw [oM 249 (by omega)]; exact em j hj)
      rw [if_neg ni, if_neg ni, a1, bd_e, b1, bd_e, l1, bd_e, ib50 a252 ix, chk_t, cl_n (by omega), lk_e]
      obtain ⟨b, hC, kC, x1, x2, x3, x4⟩ := SO (fun x83 kk84 => jp (fun J103_92s0 kk93 => lk (v6 ||| J103_92s0) fun x101 => lk (nI v + (1 : Int32)) fun x105 => fX7_allSo_L6 n (nI idx) (nI hi) (nI o) (nI c) x101 x105 kk93) fun J103_92 => if x83 = 0 then J103_92 (0 : Int32) kk84 else J103_92 (shlI (1 : Int32) (nI v)) kk84)
      rw [nI_0] at x1 x2
      have x1' : fX3_isAsTold hB = some (b32 b, hC) := x1
      rw [x1', bd_e, x2]
      dsimp only [jp_e]
      have oC := ob.tr x3
      have oK := oM.tr x4
      have nx := fun w => ih (v + 1) w hC kC (by omega) (by omega) (by omega) (H.cg (fun i j q1 q2 => by rw [oC i (by omega)])) (fun j hj => by rw [oK 250 (by omega)]; exact M j hj) (by rw [oC 210 (by omega)]; exact e5) (fun j hj => by rw [oC 227 (by omega)]; exact ev j hj) (fun j hj => by rw [oK 249 (by omega)]; exact em j hj)
      cases b
      · rw [b32_f, if_pos rfl, if_pos rfl, lk_e, lk_e, lk_e, lk_e, nI_1]
        obtain ⟨r, hD, kD, y1, y2, y3, y4⟩ := nx (v6 ||| 0)
        exact ⟨r, hD, kD, y1, y2, oC.tr y3, oK.tr y4⟩
      · rw [b32_t, if_neg (show ¬ (1 : Int32) = 0 by decide), if_neg (show ¬ (1 : Int32) = 0 by decide), lk_e, lk_e, lk_e, lk_e, nI_1]
        obtain ⟨r, hD, kD, y1, y2, y3, y4⟩ := nx (v6 ||| shlI 1 (nI v))
        exact ⟨r, hD, kD, y1, y2, oC.tr y3, oK.tr y4⟩
