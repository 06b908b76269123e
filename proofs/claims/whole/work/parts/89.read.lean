/-! ===== reading: all of it ===== -/
def fin9 (h k : Hp) : Prop := (tokR h k ∧ k 246 14 = nI 1 ∧ ∃ R c, 1 ≤ c ∧ DSc c R h k) ∨ faR h k ∨ (k 246 16 = 0 ∧ (¬ k 246 14 = nI 1) ∧ faR h (flM k 1))
theorem L6_fa {f : Nat} {v : Int32} {h : Hp} (q : ¬ h 205 2 = 0) : rdS_L (f + 1) v h = some ((), h) := by
  rw [rdS_L, if_neg q, ite_self]
section SL
variable {α : Type} {K : Hp → Option α} (L : Nat → Hp → Option α) (hL : ∀ n k, L (n + 1) k = bd (fX7_isSort k) fun x208 kk209 => if x208 = 0 then K kk209 else bd (fX7_readSheet kk209) fun _ kk220 => L n kk220)
theorem sheets_L (hL : ∀ n k, L (n + 1) k = bd (fX7_isSort k) fun x208 kk209 => if x208 = 0 then K kk209 else bd (fX7_readSheet kk209) fun _ kk220 => L n kk220) : ∀ (f g i : Nat) (h k : Hp), i ≤ 6 → 6 < f + i → 6 < g + i → rdP (DSc (1 + i)) h k → ∃ h1 k1, rdS_L f (nI i) h = some ((), h1) ∧ L g k = K k1 ∧ fin9 h1 k1 ∧ eD h h1 ∧ eN k k1 := by
  intro f
  induction f with
  | zero => intro g i h k a b; omega
  | succ f ih =>
    intro g i h k a b b' s
    cases g with
    | zero => omega
    | succ g =>
    rcases s with ⟨t, R, d⟩ | ⟨F, bb⟩
    · have d0 := d.2.2.2.1
      have p0 := d.2.2.1.1
      have i6 : i < 6 := by omega
      rw [rdS_L, hL, if_neg (by rw [t_le, nI_toInt (by omega)]; show ¬ (6 : Int) ≤ _; omega), if_pos t.c]
      rcases o_sort t with ⟨e, e1, e2, e3, e4, e5, h1, k1, n1, n2, n3, n4, n5⟩ | ⟨e1, e2, e3⟩
      · obtain ⟨h2, k2, x1, x2, x3, x4, x5⟩ := o_sheet (c := 1 + i) (by omega) t d e1 e3 e5 n1 n2 n3 n4 n5
        rw [if_neg (show ¬ h 205 5 = (258 : Int32) from e2), x1, bd_e, lk_e, nI_1, e4, bd_e, if_neg (by decide), x2, bd_e]
        obtain ⟨h3, k3, y1, y2, y3, y4, y5⟩ := ih g (i + 1) h2 k2 (by omega) (by omega) (by omega) (by rw [show 1 + (i + 1) = 1 + i + 1 by omega]; exact x3)
        exact ⟨h3, k3, y1, y2, y3, x4.tr y4, x5.tr y5⟩
      · rw [e2, bd_e, if_pos rfl]
        rcases e3 with ⟨e3, e4⟩ | ⟨e3, e4⟩
        · rw [if_pos (show h 205 5 = (258 : Int32) from e3)]
          exact ⟨h, k, rfl, rfl, Or.inl ⟨t, e4, R, 1 + i, by omega, d⟩, eD.rf, eN.rf⟩
        · obtain ⟨h2, x1, x2, x3, x4⟩ := o_nosh t (okD_S.2 R h k d) e1
          rw [if_neg (show ¬ h 205 5 = (258 : Int32) from e3), x1, bd_e, lk_e, show f = f - 1 + 1 by omega, L6_fa x2.c]
          exact ⟨h2, k, rfl, rfl, Or.inr (Or.inr ⟨t.m, e4, x2⟩), x4, eN.rf⟩
    · rw [L6_fa F.c, hL, fm_sort F.m, bd_e, if_pos rfl]
      exact ⟨h, k, rfl, rfl, Or.inr (Or.inl F), eD.rf, eN.rf⟩
theorem o_shs (hL : ∀ n k, L (n + 1) k = bd (fX7_isSort k) fun x208 kk209 => if x208 = 0 then K kk209 else bd (fX7_readSheet kk209) fun _ kk220 => L n kk220) {h k : Hp} (s : rdP DWx h k) : ∃ h1 k1, rdS h = some ((), h1) ∧ (bd (fX7_isSort k) fun x191 kk192 => if x191 = 0 then bd (fX7_bad (1 : Int32) kk192) fun _ kk278 => L 4096 kk278 else L 4096 kk192) = K k1 ∧ fin9 h1 k1 ∧ eD h h1 ∧ eN k k1 := by
  unfold rdS
  rcases s with ⟨t, R, c, hc, d⟩ | ⟨F, bb⟩
  · have D : DSc 0 R h k := ⟨d.1, d.2.1, d.2.2.1, d.2.2.2.2, by have := d.2.2.2.1; omega⟩
    rcases o_sort t with ⟨e, e1, e2, e3, e4, e5, h1, k1, n1, n2, n3, n4, n5⟩ | ⟨e1, e2, e3⟩
    · obtain ⟨h2, k2, x1, x2, x3, x4, x5⟩ := o_sheet (c := 0) (by omega) t D e1 e3 e5 n1 n2 n3 n4 n5
      obtain ⟨h3, k3, y1, y2, y3, y4, y5⟩ := sheets_L L hL 4096 4095 0 h2 k2 (by omega) (by omega) (by omega) x3
      rw [nI_0] at y1
      have u := hL 4095 k
      rw [e4, bd_e, if_neg (by decide), x2, bd_e, y2] at u
      refine ⟨h3, k3, by rw [x1, bd_e, y1], ?_, y3, x4.tr y4, x5.tr y5⟩
      rw [e4, bd_e, if_neg (by decide)]
      exact u
    · obtain ⟨h2, x1, x2, x3, x4⟩ := o_nosh t (okD_S.2 R h k D) e1
      have u := hL 4095 (flM k 1)
      rw [fm_sort x2.m, bd_e, if_pos rfl] at u
      refine ⟨h2, flM k 1, ?_, ?_, Or.inr (Or.inl x2), x4, flM_e.n⟩
      · rw [x1, bd_e]
        exact L6_fa (f := 4095) x2.c
      · rw [e2, bd_e, if_pos rfl, show (1 : Int32) = nI 1 from rfl, fl_M t.m, bd_e]
        exact u
  · obtain ⟨h2, x1, x2, x3, x4⟩ := o_fash F.c bb
    have F2 : faR h2 k := F.cg x4 (fun j => rfl)
    have u := hL 4095 k
    rw [fm_sort F.m, bd_e, if_pos rfl] at u
    refine ⟨h2, k, ?_, ?_, Or.inr (Or.inl F2), x3, eN.rf⟩
    · rw [x1, bd_e]
      exact L6_fa (f := 4095) F2.c
    · rw [fm_sort F.m, bd_e, if_pos rfl, fm_bad F.m, bd_e]
      exact u
end SL
/-! whether it failed -/
theorem fd_0 {h k : Hp} (t : tokR h k) (e : k 246 14 = nI 1) : fX7_failed k = some (0, up2 (up2 k 246 11 0) 246 18 (k 246 18)) := by
  unfold fX7_failed
  dsimp only [jp_e]
  rw [if_pos t.m, if_pos (show k 246 14 = (1 : Int32) from e), lk_e, g_o (by omega), t.m, if_pos (by decide), g_o (by omega), lk_e, g_o (by omega), g_o (by omega), t.m, if_pos (by decide)]
theorem fd_j {h k : Hp} (F : faR h k) : (lk (up2 k 246 11 (0 : Int32)) fun kk12 => if (kk12 246 16) ≤ 0 then lk (up2 kk12 246 18 (kk12 246 18)) fun kk27 => if (kk27 246 16) ≤ 0 then some ((0 : Int32), kk27) else some ((1 : Int32), kk27) else lk (up2 kk12 246 18 (kk12 246 16)) fun kk27 => if (kk27 246 16) ≤ 0 then some ((0 : Int32), kk27) else some ((1 : Int32), kk27)) = some (1, up2 (up2 k 246 11 0) 246 18 (k 246 16)) := by
  obtain ⟨f, p, a1, a2, a3, a4, a5, a6⟩ := F
  have nl : ¬ nI f ≤ (0 : Int32) := by rw [t_le, nI_toInt (by omega)]; show ¬ _ ≤ (0 : Int); omega
  rw [lk_e, g_o (by omega), a3, if_neg nl, lk_e, g_o (by omega), g_o (by omega), a3, if_neg nl]
theorem fd_1 {h k : Hp} (s : faR h k ∨ (k 246 16 = 0 ∧ (¬ k 246 14 = nI 1) ∧ faR h (flM k 1))) : ∃ k', eN k k' ∧ faR h k' ∧ fX7_failed k = some (1, up2 (up2 k' 246 11 0) 246 18 (k' 246 16)) := by
  rcases s with F | ⟨s1, s2, F⟩
  · refine ⟨k, eN.rf, F, ?_⟩
    unfold fX7_failed
    dsimp only [jp_e]
    rw [if_neg F.m]
    exact fd_j F
  · refine ⟨flM k 1, flM_e.n, F, ?_⟩
    unfold fX7_failed
    dsimp only [jp_e]
    rw [if_pos s1, if_neg (show ¬ k 246 14 = (1 : Int32) from s2), show (1 : Int32) = nI 1 from rfl, fl_M s1, bd_e]
    exact fd_j F
/-! the start -/
theorem zero_L {K : Hp → Option (Int32 × Hp)} : ∀ (f m : Nat) (k : Hp), m ≤ 50 → 50 < f + m → (∀ j, j < m → k 251 j = 0) → ∃ k1, fX7_estuary_L11 K f (nI m) k = K k1 ∧ (∀ j, j < 50 → k1 251 j = 0) ∧ (∀ i j, i ≠ 251 → k1 i j = k i j) := by
  intro f
  induction f with
  | zero => intro m k a b; omega
  | succ f ih =>
    intro m k a b e
    rw [fX7_estuary_L11]
    by_cases z : m = 50
    · subst z
      rw [if_pos (by decide)]
      exact ⟨k, rfl, e, fun i j _ => rfl⟩
    · rw [if_neg (by rw [t_le, nI_toInt (by omega)]; show ¬ (50 : Int) ≤ _; omega), ib50 a251 (by omega), chk_t, cl_n (by omega), lk_e, lk_e, nI_1]
      obtain ⟨k1, x1, x2, x3⟩ := ih (m + 1) (up2 k 251 m 0) (by omega) (by omega) (fun j hj => by
        by_cases y : j = m
        · subst y; exact up_s
        · rw [g_o y]; exact e j (by omega))
      exact ⟨k1, x1, x2, fun i j q => by rw [x3 i j q, g_x q]⟩
theorem c_clear {h : Hp} : ∃ h1, fX2_clear 7 h = some ((), h1) ∧ bas h1 ∧ eD h h1 ∧ (∀ j, h1 205 j = h 205 j) := by
  have eF := fill_e (a := 13) (v := 0) (h := h) (by decide)
  have r : ∀ i j, i ≠ 13 → fillU h 13 0 (lenC 13) 0 i j = h i j := fun i j q => by rw [fillU_at, if_neg (by omega)]
  refine ⟨up2 (up2 (up2 (up2 (up2 (up2 (up2 (fillU h 13 0 (lenC 13) 0) 7 6 0) 7 7 0) 7 11 0) 7 12 0) 7 13 0) 7 14 0) 7 15 0, ?_, ⟨?_, ?_, ?_, ?_, up_s, fun s hs => ?_⟩, ?_, fun j => ?_⟩
  · unfold fX2_clear
    rw [show 7 + 6 = 13 from rfl, eF, bd_e, lk_e, lk_e, lk_e, lk_e, lk_e, lk_e, lk_e]
  · rw [g_o (by omega), g_o (by omega), g_o (by omega), g_o (by omega), up_s]
  · rw [g_o (by omega), g_o (by omega), g_o (by omega), up_s]
  · rw [g_o (by omega), g_o (by omega), up_s]
  · rw [g_o (by omega), up_s]
  · rw [g_x (by omega), g_x (by omega), g_x (by omega), g_x (by omega), g_x (by omega), g_x (by omega), g_x (by omega), fillU_at, if_pos ⟨rfl, by omega, by show s < 6; exact hs⟩]
  · have e0 : eD h (fillU h 13 0 (lenC 13) 0) := fun i j p q => r i j (by omega)
    exact ((((((e0.up (by omega)).up (by omega)).up (by omega)).up (by omega)).up (by omega)).up (by omega)).up (by omega)
  · rw [g_x (by omega), g_x (by omega), g_x (by omega), g_x (by omega), g_x (by omega), g_x (by omega), g_x (by omega), r 205 j (by omega)]
theorem e7E : isE 7 := ⟨rfl, by decide⟩
theorem copy_L {k : Hp} : ∀ (n m : Nat), m ≤ 50 → 50 < n + m → fX7_estuary_L197 n (nI m) (cp5 k 250 0 251 0 m) = some (k 251 0, cp5 k 250 0 251 0 50) := by
  intro n
  induction n with
  | zero => intro m h1 h2; omega
  | succ n ih =>
    intro m h1 h2
    rw [fX7_estuary_L197]
    by_cases e : m = 50
    · subst e
      rw [if_pos (by rw [t_le]; decide), lb0 a250, chk_t]
      have := cp5_r (k := k) (d := 250) (o := 0) (a := 251) (b := 0) (j := 0) (by omega)
      rw [show (0 : Int32).toNatClampNeg = 0 from rfl, show cp5 k 250 0 251 0 50 250 0 = k 251 0 from this]
    · rw [if_neg (by rw [t_le, nI_toInt (by omega)]; show ¬ (50 : Int) ≤ _; omega), ib50 a251 (by omega), chk_t, ib50 a250 (by omega), chk_t, lk_e, lk_e, nI_1, cl_n (by omega)]
      have s := cp5_s (k := k) (d := 250) (o := 0) (a := 251) (b := 0) (m := m) (by omega)
      rw [Nat.zero_add] at s
      rw [s]
      exact ih (m + 1) (by omega) (by omega)
theorem numU_0 {R : Rw} : ∀ n, (∀ s, s < n → R (18 + 6 * s) = 0) → numU R n = 0
  | 0, _ => rfl
  | n + 1, h => by
    show numU R n + (if R (18 + 6 * n) = 0 then 0 else 1) = 0
    rw [numU_0 n (fun s hs => h s (by omega)), if_pos (h n (by omega))]
theorem DP_W {R : Rw} (p : DP R) (h0 : 1 ≤ R 0) (h1 : 1 ≤ R 1) : WF 999 R := by
  obtain ⟨p0, p1, p2, p3, p4, p5, p6, p7, p8, p9⟩ := p
  exact ⟨by omega, by omega, p2, p3, p4, p5, by omega, by rw [p7, numU_0 (nS R) (fun s hs => (p9 s hs).2.1)]; rfl, p8, fun s hs => (p9 s hs).1⟩
theorem DH_R {R : Rw} {h : Hp} (d : DH R h) (p : DP R) : Rep (up2 (up2 h 7 6 1) 205 1 0) 7 R := by
  obtain ⟨⟨b1, b2, b3, b4⟩, b5, b6, b7, b8, b9, b10, b11, b12⟩ := d
  obtain ⟨p0, p1, p2, p3, p4, p5, p6, p7, p8, p9⟩ := p
  have u : ∀ j, j ≠ 6 → up2 (up2 h 7 6 1) 205 1 0 7 j = h 7 j := fun j q => by rw [g_x (by omega), g_o q]
  have x : ∀ i j, i ≠ 7 → i ≠ 205 → up2 (up2 h 7 6 1) 205 1 0 i j = h i j := fun i j q1 q2 => by rw [g_x q2, g_x q1]
  refine ⟨by rw [g_x (by omega), up_s], by rw [u 7 (by omega)]; exact b1, by rw [u 8 (by omega)]; exact b2, by rw [u 9 (by omega)]; exact b3, by rw [u 10 (by omega)]; exact b4, by rw [u 11 (by omega)]; exact b5, by rw [u 12 (by omega)]; exact b6, by rw [u 13 (by omega), b7, p6]; rfl, by rw [u 14 (by omega), b8, I_nat], by rw [u 15 (by omega), b9, p7]; rfl, fun w hw => by rw [x _ _ (by omega) (by omega)]; exact b10 w hw, fun s hs => ?_⟩
  obtain ⟨c1, c2, c3, c4⟩ := b11 s hs
  have s6 : s < 6 := by unfold nS at hs; omega
  exact ⟨by rw [x _ _ (by omega) (by omega)]; exact c1, by rw [x _ _ (by omega) (by omega)]; exact c2, by rw [x _ _ (by omega) (by omega)]; exact c3, by rw [x _ _ (by omega) (by omega)]; exact c4, by rw [x _ _ (by omega) (by omega), (p9 s hs).2.1]; exact b12 s s6⟩
/-- the two start to read -/
theorem o_begin {h k : Hp} (H : RR h k) : ∃ h1 k1, (fX4_read h = bd (fX4_readLaw h1) fun _ hh30 => bd (rdW hh30) fun _ hh38 => bd (rdS hh38) fun _ hh46 => if (hh46 205 2) = 0 then lk (up2 hh46 7 6 (1 : Int32)) fun hh66 => lk (up2 hh66 205 1 (0 : Int32)) fun hh72 => some ((), hh72) else lk (up2 hh46 7 6 (0 : Int32)) fun hh66 => lk (up2 hh66 205 1 (0 : Int32)) fun hh72 => some ((), hh72)) ∧ (∀ K : Hp → Option (Int32 × Hp), (lk (up2 k 246 0 (0 : Int32)) fun kk3 => bd (fX7_begin kk3) fun _ kk8 => fX7_estuary_L11 K 4096 (0 : Int32) kk8) = K k1) ∧ rdP (LD 0) h1 k1 ∧ eD h h1 ∧ eN (Mz k) k1 := by
  obtain ⟨n, t1, t2, t3, t4⟩ := H.mz.2.1
  have TC0 : TpC h n (fun i => (h 206 i).toNatClampNeg) := ⟨t1, t2, fun i hi => by
    obtain ⟨c, c1, c2, c3⟩ := t4 i hi
    dsimp only
    rw [c2, cl_n (by omega)]
    exact ⟨c1, rfl⟩⟩
  have TM0 : TpM (Mz k) n (fun i => (h 206 i).toNatClampNeg) := ⟨t1, t3, fun i hi => by
    obtain ⟨c, c1, c2, c3⟩ := t4 i hi
    dsimp only
    rw [c2, cl_n (by omega)]
    exact ⟨c1, c3⟩⟩
  obtain ⟨hA, a1, a2, a3, a4⟩ := c_clear (h := up2 (up2 h 205 2 0) 205 7 0)
  have oA : eD h hA := eD.tr (fun i j p q => by rw [up2_at, if_neg (by omega), up2_at, if_neg (by omega)]) a3
  have TC1 : TpC hA n (fun i => (h 206 i).toNatClampNeg) := ⟨t1, by rw [oA 205 1 (by omega) (by omega)]; exact t2, fun i hi => by rw [oA 206 i (by omega) (by omega)]; exact TC0.2.2 i hi⟩
  have TM1 : TpM (up2 (up2 (Mz k) 246 12 0) 246 16 0) n (fun i => (h 206 i).toNatClampNeg) := ⟨t1, by rw [g_o (by omega), g_o (by omega)]; exact t3, fun i hi => by rw [g_x (by omega), g_x (by omega)]; exact TM0.2.2 i hi⟩
  obtain ⟨hB, kB, n1, n2, n3, n4, n5⟩ := nt_e (q := 0) TC1 TM1 (by rw [a4, g_o (by omega), up_s]) up_s (by rw [a4, up_s]; rfl) (by rw [g_o (by omega), up_s]; rfl) (by omega)
  have z0 : ∀ K : Hp → Option (Int32 × Hp), ∃ k1, fX7_estuary_L11 K 4096 (nI 0) kB = K k1 ∧ (∀ j, j < 50 → k1 251 j = 0) ∧ (∀ i j, i ≠ 251 → k1 i j = kB i j) := fun K => zero_L 4096 0 kB (by omega) (by omega) (fun j hj => absurd hj (by omega))
  have zz : ∃ k1, (∀ K : Hp → Option (Int32 × Hp), fX7_estuary_L11 K 4096 (nI 0) kB = K k1) ∧ (∀ j, j < 50 → k1 251 j = 0) ∧ (∀ i j, i ≠ 251 → k1 i j = kB i j) := by
    have gen : ∀ (K : Hp → Option (Int32 × Hp)) (f m : Nat) (k : Hp), m ≤ 50 → 50 < f + m → fX7_estuary_L11 K f (nI m) k = K (fun i j => if i = 251 ∧ m ≤ j ∧ j < 50 then 0 else k i j) := by
      intro K f
      induction f with
      | zero => intro m k a b; omega
      | succ f ih =>
        intro m k a b
        rw [fX7_estuary_L11]
        by_cases z : m = 50
        · subst z
          rw [if_pos (by decide)]
          congr 1
          funext i j
          rw [if_neg (by omega)]
        · rw [if_neg (by rw [t_le, nI_toInt (by omega)]; show ¬ (50 : Int) ≤ _; omega), ib50 a251 (by omega), chk_t, cl_n (by omega), lk_e, lk_e, nI_1, ih (m + 1) _ (by omega) (by omega)]
          congr 1
          funext i j
          by_cases y : i = 251 ∧ m + 1 ≤ j ∧ j < 50
          · rw [if_pos y, if_pos (by omega)]
          · rw [if_neg y, up2_at]
            by_cases x : i = 251 ∧ j = m
            · rw [if_pos x, if_pos (by omega)]
            · rw [if_neg x, if_neg (by omega)]
    exact ⟨_, fun K => gen K 4096 0 kB (by omega) (by omega), fun j hj => by rw [if_pos (by omega)], fun i j q => by rw [if_neg (by omega)]⟩
  obtain ⟨kC, w1, w2, w3⟩ := zz
  refine ⟨hB, kC, ?_, fun K => ?_, Or.inl ⟨n3.cg (fun i j q => rfl) (fun i j q => w3 i j (by omega)), fun _ => 0, fun j hj => by rw [w2 j hj]; rfl, ?_, ⟨rfl, rfl, rfl, rfl⟩, fun i hi => absurd hi (by omega), fun z => absurd z (by omega), fun z => absurd z (by omega), fun z => absurd z (by omega), fun z => absurd z (by omega)⟩, oA.tr n4.e.d, ?_⟩
  · unfold fX4_read
    dsimp only [jp_e]
    rw [lk_e, lk_e, a1, bd_e, n1, bd_e, isB_1, isB_0]
    congr 1
    funext _ a
    refine (rd_tail2 _ a).trans ?_
    simp only [chk_t]
  · rw [lk_e, Mz_e]
    unfold fX7_begin
    rw [lk_e, lk_e, n2, bd_e, bd_e]
    have := w1 K
    rw [nI_0] at this
    exact this
  · obtain ⟨c1, c2, c3, c4, c5, c6⟩ := a2
    have r := fun i j (q : i ≠ 205) => n4.e i j (Or.inl q)
    exact ⟨by rw [r 7 _ (by omega)]; exact c1, by rw [r 7 _ (by omega)]; exact c2, by rw [r 7 _ (by omega)]; exact c3, by rw [r 7 _ (by omega)]; exact c4, by rw [r 7 _ (by omega)]; exact c5, fun s hs => by rw [r 13 _ (by omega)]; exact c6 s hs⟩
  · have e0 : eN (Mz k) (up2 (up2 (Mz k) 246 12 0) 246 16 0) := fun i j p q => by rw [up2_at, if_neg (by omega), up2_at, if_neg (by omega)]
    exact (e0.tr n5.e.n).tr (fun i j p q => w3 i j p)
/-- what stays, stays -/
theorem RR.est {h k h1 k1 : Hp} (H : RR h k) (c1 : ∀ i j, 228 ≤ i ∨ (21 ≤ i ∧ i < 35) → h1 i j = h i j) (c2 : h1 205 1 = 0) (c3 : h1 203 8 = h 203 8) (m1 : k1 246 1 = k 246 1 ∧ k1 246 23 = k 246 23) (m2 : ∀ i j, 247 ≤ i → i ≠ 250 → i ≠ 251 → k1 i j = k i j) (m3 : k1 246 11 = 0) (st : h1 203 7 = k1 246 18) (hn : nowR h1 k1) (ha : actsR h1 k1) : RR h1 k1 := by
  obtain ⟨hr, -, ⟨s1, s2⟩, -, -, hi, ⟨n3, d1, d2, d3, d4⟩⟩ := H
  exact ⟨fun r hr2 => (hr r hr2).cg2 (fun j => c1 _ j (by omega)) (fun j => c1 _ j (by omega)) (m2 247 r (by omega) (by omega) (by omega)) (m2 248 r (by omega) (by omega) (by omega)) (fun j _ => m2 249 _ (by omega) (by omega) (by omega)), ⟨0, by omega, c2, m3, fun i hi => absurd hi (by omega)⟩, ⟨by rw [c3, m1.1]; exact s1, st⟩, hn, ha, fun i hi2 => (hi i hi2).cg2 hi2 (fun a j q1 q2 => c1 a j (by omega)) (fun j => m2 _ _ (by omega) (by omega) (by omega)) (fun j => m2 _ _ (by omega) (by omega) (by omega)), ⟨n3, d1, (c1 228 1 (by omega)).trans d2, m1.2.trans d3, fun i hi => by rw [c1 229 i (by omega), m2 258 i (by omega) (by omega) (by omega)]; exact d4 i hi⟩⟩
theorem st_estuary : St_estuary RR := by
  intro h k H
  have hz := H.mz
  obtain ⟨h1, k1, a1, a2, a3, a4, a5⟩ := o_begin H
  obtain ⟨h2, k2, b1, b2, b3, b4, b5⟩ := o_law (α := Int32 × Hp) a3
  have s0 : rdP (DWc 0) h2 k2 := by
    rcases b3 with ⟨t, R, d⟩ | b3
    · exact Or.inl ⟨t, R, law_W d⟩
    · exact Or.inr b3
  obtain ⟨h3, k3, d1, d2, d3, d4, d5⟩ := o_wind (c := 0) (by omega) s0
  obtain ⟨h4, k4, e1, e2, e3, e4, e5⟩ := winds_L (K := fun kk183 => bd (fX7_isSort kk183) fun x191 kk192 => if x191 = 0 then bd (fX7_bad (1 : Int32) kk192) fun _ kk278 => fX7_estuary_L161 (fun kk227 => bd (fX7_failed kk227) fun x235 kk236 => if x235 = 0 then lk (up2 kk236 246 9 (0 : Int32)) fun kk247 => fX7_estuary_L197 4096 (0 : Int32) kk247 else some ((-1000100 : Int32) - (kk236 246 17), kk236)) 4096 kk278 else fX7_estuary_L161 (fun kk227 => bd (fX7_failed kk227) fun x235 kk236 => if x235 = 0 then lk (up2 kk236 246 9 (0 : Int32)) fun kk247 => fX7_estuary_L197 4096 (0 : Int32) kk247 else some ((-1000100 : Int32) - (kk236 246 17), kk236)) 4096 kk192) (fX7_estuary_L133 (fun kk183 => bd (fX7_isSort kk183) fun x191 kk192 => if x191 = 0 then bd (fX7_bad (1 : Int32) kk192) fun _ kk278 => fX7_estuary_L161 (fun kk227 => bd (fX7_failed kk227) fun x235 kk236 => if x235 = 0 then lk (up2 kk236 246 9 (0 : Int32)) fun kk247 => fX7_estuary_L197 4096 (0 : Int32) kk247 else some ((-1000100 : Int32) - (kk236 246 17), kk236)) 4096 kk278 else fX7_estuary_L161 (fun kk227 => bd (fX7_failed kk227) fun x235 kk236 => if x235 = 0 then lk (up2 kk236 246 9 (0 : Int32)) fun kk247 => fX7_estuary_L197 4096 (0 : Int32) kk247 else some ((-1000100 : Int32) - (kk236 246 17), kk236)) 4096 kk192)) (fun n k => fX7_estuary_L133.eq_2 _ _ _) 4096 0 h3 k3 (by omega) (by omega) d3
  obtain ⟨h5, k5, f1, f2, f3, f4, f5⟩ := o_shs (K := fun kk227 => bd (fX7_failed kk227) fun x235 kk236 => if x235 = 0 then lk (up2 kk236 246 9 (0 : Int32)) fun kk247 => fX7_estuary_L197 4096 (0 : Int32) kk247 else some ((-1000100 : Int32) - (kk236 246 17), kk236)) (fX7_estuary_L161 (fun kk227 => bd (fX7_failed kk227) fun x235 kk236 => if x235 = 0 then lk (up2 kk236 246 9 (0 : Int32)) fun kk247 => fX7_estuary_L197 4096 (0 : Int32) kk247 else some ((-1000100 : Int32) - (kk236 246 17), kk236))) (fun n k => fX7_estuary_L161.eq_2 _ _ _) e3
  rw [nI_0] at e1
  have oC : eD h h5 := (((a4.tr b4).tr d4).tr e4).tr f4
  have oM : eN (Mz k) k5 := (((a5.tr b5).tr d5).tr e5).tr f5
  have uC : fX4_read h = if (h5 205 2) = 0 then some ((), up2 (up2 h5 7 6 1) 205 1 0) else some ((), up2 (up2 h5 7 6 0) 205 1 0) := by
    rw [a1, b1, bd_e]
    unfold rdW
    rw [d1, bd_e, e1, bd_e, f1, bd_e, lk_e, lk_e, lk_e, lk_e]
  have uM : fX7_estuary k = bd (fX7_failed k5) fun x235 kk236 => if x235 = 0 then lk (up2 kk236 246 9 (0 : Int32)) fun kk247 => fX7_estuary_L197 4096 (0 : Int32) kk247 else some ((-1000100 : Int32) - (kk236 246 17), kk236) := by
    unfold fX7_estuary
    dsimp only [jp_e]
    refine (a2 _).trans ?_
    refine (b2 _).trans ?_
    rw [d2, bd_e]
    exact e2.trans f2
  rcases f3 with ⟨t, tE, R, c, c1, D⟩ | F
  · -- it is read
    have r0 := D.2.2.2.1
    have W := DP_W D.2.2.1 (by omega) D.2.2.2.2
    have Rp := DH_R D.2.1 D.2.2.1
    obtain ⟨h6, g1, g2, g3⟩ := c_bec (e := 0) (o := 7) e0E e7E (by omega) W Rp
    have e2' : up2 (up2 h5 7 6 1) 205 1 0 205 2 = 0 := by rw [g_o (by omega), g_x (by omega)]; exact t.c
    have cp := copy_L (k := up2 (up2 (up2 k5 246 11 0) 246 18 (k5 246 18)) 246 9 0) 4096 0 (by omega) (by omega)
    rw [cp5_0, nI_0] at cp
    refine ⟨I (R 0), up2 h6 207 2 0, cp5 (up2 (up2 (up2 k5 246 11 0) 246 18 (k5 246 18)) 246 9 0) 250 0 251 0 50, ?_, ?_, ?_⟩
    · unfold fX6_estuary fX0_forget
      rw [uC, if_pos t.c, bd_e, if_pos e2', g1, bd_e, lk_e, bd_e, g_x (by omega), g2.2.2.2.2.2.2.1]
    · rw [uM, fd_0 t tE, bd_e, if_pos rfl, lk_e]
      refine cp.trans ?_
      rw [g_x (by omega), g_x (by omega), g_x (by omega), D.1 0 (by omega)]
    · have cc : ∀ i j, 14 ≤ i → i ≠ 205 → ¬ (i = 207 ∧ j = 2) → up2 h6 207 2 0 i j = h i j := fun i j q1 q2 q3 => by
        rw [up2_at, if_neg q3, g3 i (by omega), up2_at, if_neg (by omega), up2_at, if_neg (by omega)]
        exact oC i j (by omega) (by omega)
      have mm : ∀ i j, i ≠ 250 → i ≠ 251 → ¬ (i = 246 ∧ (j = 9 ∨ j = 11 ∨ j = 18 ∨ (12 ≤ j ∧ j ≤ 17))) → cp5 (up2 (up2 (up2 k5 246 11 0) 246 18 (k5 246 18)) 246 9 0) 250 0 251 0 50 i j = Mz k i j := fun i j q1 q2 q3 => by
        rw [cp5_o q1, up2_at, if_neg (by omega), up2_at, if_neg (by omega), up2_at, if_neg (by omega)]
        exact oM i j q2 (by omega)
      refine hz.est (fun i j q => cc i j (by omega) (by omega) (by omega)) ?_ (cc _ _ (by omega) (by omega) (by omega)) ⟨mm _ _ (by omega) (by omega) (by omega), mm _ _ (by omega) (by omega) (by omega)⟩ (fun i j q1 q2 q3 => mm i j q2 q3 (by omega)) ?_ ?_ ?_ ?_
      · rw [g_x (by omega), g3 205 (by omega), up_s]
      · rw [cp5_o (by omega), g_o (by omega), g_o (by omega), up_s]
      · rw [cc _ _ (by omega) (by omega) (by omega), cp5_o (by omega), g_o (by omega), up_s, oM 246 18 (by omega) (by omega)]
        exact hz.2.2.1.2
      · right
        refine ⟨R, W, g2.cg (fun a j q1 q2 => by rw [up2_ne (by omega)]), fun j hj => ?_⟩
        rw [cp5_r hj, Nat.zero_add, g_x (by omega), g_x (by omega), g_x (by omega)]
        exact D.1 j hj
      · obtain ⟨n, N, x1, x2, x3, x4, x5, x6⟩ := hz.2.2.2.2.1
        exact ⟨0, N, by omega, x2, by rw [up_s]; rfl, by rw [cc _ _ (by omega) (by omega) (by omega)]; exact x4, by rw [cp5_o (by omega), up_s]; rfl, fun j hj => absurd hj (by omega)⟩
  · -- a fault
    obtain ⟨k6, g1, g2, g3⟩ := fd_1 F
    have oM6 := oM.tr g1
    obtain ⟨f, p, x1, x2, x3, x4, x5, x6⟩ := g2
    have nf : ¬ h5 205 2 = 0 := by rw [x2]; exact nz_f x1
    have e2' : up2 (up2 h5 7 6 0) 205 1 0 205 2 = nI f := by rw [g_o (by omega), g_x (by omega)]; exact x2
    have e3' : up2 (up2 (up2 h5 7 6 0) 205 1 0) 203 7 (nI f) 205 3 = nI p := by rw [g_x (by omega), g_o (by omega), g_x (by omega)]; exact x4
    refine ⟨-1000100 - nI p, up2 (up2 (up2 h5 7 6 0) 205 1 0) 203 7 (nI f), up2 (up2 k6 246 11 0) 246 18 (nI f), ?_, ?_, ?_⟩
    · unfold fX6_estuary
      rw [uC, if_neg nf, bd_e, e2', if_neg (nz_f x1), lk_e, e3']
    · rw [uM, g3, bd_e, if_neg (by decide), x3, g_o (by omega), g_o (by omega), x5]
    · have cc : ∀ i j, ¬ (7 ≤ i ∧ i < 14) → i ≠ 205 → ¬ (i = 203 ∧ j = 7) → up2 (up2 (up2 h5 7 6 0) 205 1 0) 203 7 (nI f) i j = h i j := fun i j q1 q2 q3 => by
        rw [up2_at, if_neg q3, up2_at, if_neg (by omega), up2_at, if_neg (by omega)]
        exact oC i j q1 (by omega)
      have mm : ∀ i j, i ≠ 251 → ¬ (i = 246 ∧ (j = 11 ∨ j = 18 ∨ (12 ≤ j ∧ j ≤ 17))) → up2 (up2 k6 246 11 0) 246 18 (nI f) i j = Mz k i j := fun i j q1 q2 => by
        rw [up2_at, if_neg (by omega), up2_at, if_neg (by omega)]
        exact oM6 i j q1 (by omega)
      refine hz.est (fun i j q => cc i j (by omega) (by omega) (by omega)) ?_ (cc _ _ (by omega) (by omega) (by omega)) ⟨mm _ _ (by omega) (by omega), mm _ _ (by omega) (by omega)⟩ (fun i j q1 q2 q3 => mm i j q3 (by omega)) ?_ ?_ ?_ ?_
      · rw [g_x (by omega), up_s]
      · rw [g_o (by omega), up_s]
      · rw [up_s, up_s]
      · rcases hz.2.2.2.1 with E | E
        · left
          obtain ⟨y1, y2, y3, y4, y5, y6, y7, y8⟩ := E
          have z := fun j => cc 0 j (by omega) (by omega) (by omega)
          exact ⟨by rw [z]; exact y1, by rw [z]; exact y2, by rw [z]; exact y3, by rw [z]; exact y4, by rw [z]; exact y5, by rw [z]; exact y6, by rw [z]; exact y7, fun j hj => by rw [mm _ _ (by omega) (by omega)]; exact y8 j hj⟩
        · right
          exact E.cg (fun i j q1 q2 => cc i j (by omega) (by omega) (by omega)) (fun j hj => mm _ _ (by omega) (by omega))
      · exact hz.2.2.2.2.1.cg2 (fun i j q1 q2 => cc i j (by omega) (by omega) (by omega)) (fun j => cc _ _ (by omega) (by omega) (by omega)) (mm _ _ (by omega) (by omega)) (fun j => mm _ _ (by omega) (by omega))
