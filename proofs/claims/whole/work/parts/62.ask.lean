/-! ===== ask ===== -/
def lvC (h : Hp) (n : Nat) (v : Int32) : Hp := up2 (up2 h 229 n v) 228 1 (nI (n + 1))
def lvM (k : Hp) (n : Nat) (v : Int32) : Hp := up2 (up2 k 258 n v) 246 23 (nI (n + 1))
theorem lvC_n {h : Hp} {n : Nat} {v : Int32} : lvC h n v 228 1 = nI (n + 1) := by unfold lvC; rw [up2_at, if_pos ⟨rfl, rfl⟩]
theorem lvM_n {k : Hp} {n : Nat} {v : Int32} : lvM k n v 246 23 = nI (n + 1) := by unfold lvM; rw [up2_at, if_pos ⟨rfl, rfl⟩]
theorem lvC_o {h : Hp} {n i j : Nat} {v : Int32} (q1 : i ≠ 229) (q2 : i ≠ 228) : lvC h n v i j = h i j := by unfold lvC; rw [up2_ne q2, up2_ne q1]
theorem lvM_o {k : Hp} {n i j : Nat} {v : Int32} (q1 : i ≠ 258) (q2 : ¬ (i = 246 ∧ j = 23)) : lvM k n v i j = k i j := by unfold lvM; rw [up2_at, if_neg q2, up2_ne q1]
theorem c_lv {h : Hp} {n : Nat} {v : Int32} (hn : n < 16) (e : h 228 1 = nI n) : fX1_leave v h = some ((), lvC h n v) := by
  unfold fX1_leave
  rw [e, show nI (lenC 229) = nI 16 from rfl, if_neg (by rw [t_le, nI_toInt (by omega), nI_toInt (by omega)]; omega), show lenC 229 = 16 from rfl, inb_n hn (by omega), chk_t, cl_n (by omega), lk_e, up2_at, if_neg (by omega), e, nI_1, lk_e]
  rfl
theorem m_lv {k : Hp} {n : Nat} {v : Int32} (hn : n < 16) (e : k 246 23 = nI n) : fX7_began v k = some ((), lvM k n v) := by
  unfold fX7_began
  rw [e, if_neg (by rw [t_le, nI_toInt (by omega)]; show ¬ (16 : Int) ≤ _; omega), show lenM 258 = 16 from rfl, inb_n hn (by omega), chk_t, cl_n (by omega), lk_e, up2_at, if_neg (by omega), e, nI_1, lk_e]
  rfl
/-- both have left the same marks; the rest stands -/
def AkC (h0 h : Hp) (n : Nat) : Prop := h 228 1 = nI n ∧ ∀ i j, i ≠ 229 → ¬ (i = 228 ∧ j = 1) → h i j = h0 i j
def AkM (k0 k : Hp) (n : Nat) : Prop := k 246 23 = nI n ∧ ∀ i j, i ≠ 258 → ¬ (i = 246 ∧ j = 23) → k i j = k0 i j
def AkS (h k : Hp) (n : Nat) : Prop := ∀ i, i < n → h 229 i = k 258 i
theorem AkC.lv {h0 h : Hp} {n : Nat} {v : Int32} (A : AkC h0 h n) : AkC h0 (lvC h n v) (n + 1) := ⟨lvC_n, fun i j q1 q2 => by unfold lvC; rw [up2_at, if_neg q2, up2_ne q1]; exact A.2 i j q1 q2⟩
theorem AkM.lv {h0 h : Hp} {n : Nat} {v : Int32} (A : AkM h0 h n) : AkM h0 (lvM h n v) (n + 1) := ⟨lvM_n, fun i j q1 q2 => by rw [lvM_o q1 q2]; exact A.2 i j q1 q2⟩
theorem AkS.lv {h k : Hp} {n : Nat} {v : Int32} (A : AkS h k n) : AkS (lvC h n v) (lvM k n v) (n + 1) := fun i hi => by
  unfold lvC lvM
  rw [up2_ne (show (229 : Nat) ≠ 228 by omega), up2_ne (show (258 : Nat) ≠ 246 by omega), up2_at, up2_at]
  by_cases e : i = n
  · rw [if_pos ⟨rfl, e⟩, if_pos ⟨rfl, e⟩]
  · rw [if_neg (by omega), if_neg (by omega)]; exact A i (by omega)
theorem RR.asked {h0 k0 h k : Hp} {n : Nat} (H : RR h0 k0) (hn : n ≤ 16) (C : AkC h0 h n) (M : AkM k0 k n) (S : AkS h k n) : RR h k := by
  refine ⟨fun r hr => (H.1 r hr).cg2 (fun j => C.2 _ _ (by omega) (by omega)) (fun j => C.2 _ _ (by omega) (by omega)) (M.2 _ _ (by omega) (by omega)) (M.2 _ _ (by omega) (by omega)) (fun j _ => M.2 _ _ (by omega) (by omega)), ?_, ⟨?_, ?_⟩, ?_, H.2.2.2.2.1.cg2 (fun i j _ _ => C.2 _ _ (by omega) (by omega)) (fun j => C.2 _ _ (by omega) (by omega)) (M.2 _ _ (by omega) (by omega)) (fun j => M.2 _ _ (by omega) (by omega)), fun i hi => (H.2.2.2.2.2.1 i hi).cg2 hi (fun a j _ _ => C.2 _ _ (by omega) (by omega)) (fun j => M.2 _ _ (by omega) (by omega)) (fun j => M.2 _ _ (by omega) (by omega)), ⟨n, hn, C.1, M.1, S⟩⟩
  · obtain ⟨m, a, b, c, d⟩ := H.2.1
    exact ⟨m, a, by rw [C.2 _ _ (by omega) (by omega)]; exact b, by rw [M.2 _ _ (by omega) (by omega)]; exact c, fun i hi => by rw [C.2 _ _ (by omega) (by omega), M.2 _ _ (by omega) (by omega)]; exact d i hi⟩
  · rw [C.2 _ _ (by omega) (by omega), M.2 _ _ (by omega) (by omega)]; exact H.2.2.1.1
  · rw [C.2 _ _ (by omega) (by omega), M.2 _ _ (by omega) (by omega)]; exact H.2.2.1.2
  · rcases H.2.2.2.1 with ⟨b1, b2, b3, b4, b5, b6, b7, b8⟩ | b
    · left
      have c := fun j => C.2 0 j (by omega) (by omega)
      exact ⟨by rw [c]; exact b1, by rw [c]; exact b2, by rw [c]; exact b3, by rw [c]; exact b4, by rw [c]; exact b5, by rw [c]; exact b6, by rw [c]; exact b7, fun j hj => by rw [M.2 _ _ (by omega) (by omega)]; exact b8 j hj⟩
    · right
      exact b.cg (fun i j _ _ => C.2 _ _ (by omega) (by omega)) (fun j _ => M.2 _ _ (by omega) (by omega))
theorem asks_s {n : Nat} {a c d : Int32} {b : Nat} {h : Hp} : fX1_asks (n + 1) a b c d h = fX1_begin_o (fun a b c d h => fX1_answer_o (fX1_asks n) a b c d h) (fX1_asks n) a b c d h := rfl
theorem dp {d : Nat} (h : d ≤ 16) : nI d ≤ (16 : Int32) := by rw [t_le, nI_toInt (by omega)]; show _ ≤ (16 : Int); omega
section ASK
variable {B : Int} {R : Rw} {h0 h k0 k : Hp} {s n d c : Nat}
theorem as_w (W : WF B R) (H : Rep h0 0 R) (hs : s < nS R) (A : AkC h0 h c) : h (0 + 4) (nI s).toNatClampNeg = I (R (16 + 6 * s)) := by
  have h6 := nS_le W
  rw [cl_n (by omega), A.2 _ _ (by omega) (by omega)]
  exact (H.2.2.2.2.2.2.2.2.2.2.2 s hs).2.2.1
theorem as_t (W : WF B R) (H : Rep h0 0 R) (hs : s < nS R) (A : AkC h0 h c) : h (0 + 5) (nI s).toNatClampNeg = I (R (17 + 6 * s)) := by
  have h6 := nS_le W
  rw [cl_n (by omega), A.2 _ _ (by omega) (by omega)]
  exact (H.2.2.2.2.2.2.2.2.2.2.2 s hs).2.2.2.1
theorem as_k (W : WF B R) (H : Rep h0 0 R) (hs : s < nS R) (A : AkC h0 h c) : h (0 + 2) (nI s).toNatClampNeg = I (R (14 + 6 * s)) := by
  have h6 := nS_le W
  rw [cl_n (by omega), A.2 _ _ (by omega) (by omega)]
  exact (H.2.2.2.2.2.2.2.2.2.2.2 s hs).1
theorem is4 (W : WF B R) (hs : s < nS R) : inb (nI s) (lenC (0 + 4)) = true := by have h6 := nS_le W; rw [len_E4 e0E]; exact inb_n (by omega) (by omega)
theorem is5 (W : WF B R) (hs : s < nS R) : inb (nI s) (lenC (0 + 5)) = true := by have h6 := nS_le W; rw [len_E5 e0E]; exact inb_n (by omega) (by omega)
theorem is2 (W : WF B R) (hs : s < nS R) : inb (nI s) (lenC (0 + 2)) = true := by have h6 := nS_le W; rw [len_E2 e0E]; exact inb_n (by omega) (by omega)
theorem b_10 (W : WF B R) (H : Rep h0 0 R) (hs : s < nS R) (hd : d + 1 ≤ 16) (hc : c + 1 ≤ 16) (A : AkC h0 h c) : fX1_asks (n + 1) 10 0 (nI s) (nI d) h = some (I (R (16 + 6 * s)), (lvC h c 10)) := by
  rw [asks_s, fX1_begin_o, if_pos (dp (by omega)), c_lv (by omega) A.1, bd_e, lk_e, if_pos rfl, is4 W hs, chk_t, as_w W H hs A.lv]
theorem b_20 (W : WF B R) (H : Rep h0 0 R) (hs : s < nS R) (hd : d + 1 ≤ 16) (hc : c + 1 ≤ 16) (A : AkC h0 h c) : fX1_asks (n + 1) 20 0 (nI s) (nI d) h = some (nI s, (lvC h c 20)) := by
  rw [asks_s, fX1_begin_o, if_pos (dp (by omega)), c_lv (by omega) A.1, bd_e, lk_e, if_neg (show ¬ (20 : Int32) = 10 by decide), if_neg (show ¬ (20 : Int32) = 11 by decide), if_neg (show ¬ (20 : Int32) = 12 by decide), if_neg (show ¬ (20 : Int32) = 13 by decide), if_neg (show ¬ (20 : Int32) = 14 by decide), if_neg (show ¬ (20 : Int32) = 15 by decide), if_neg (show ¬ (20 : Int32) = 16 by decide), if_neg (show ¬ (20 : Int32) = 17 by decide), if_neg (show ¬ (20 : Int32) = 18 by decide), if_neg (show ¬ (20 : Int32) = 19 by decide), if_pos rfl]
theorem b_21 (W : WF B R) (H : Rep h0 0 R) (hs : s < nS R) (hd : d + 2 ≤ 16) (hc : c + 2 ≤ 16) (A : AkC h0 h c) : fX1_asks (n + 2) 21 0 (nI s) (nI d) h = some (nI s + I (R (17 + 6 * s)), (lvC (lvC h c 21) (c + 1) 20)) := by
  rw [asks_s, fX1_begin_o, if_pos (dp (by omega)), c_lv (by omega) A.1, bd_e, lk_e, if_neg (show ¬ (21 : Int32) = 10 by decide), if_neg (show ¬ (21 : Int32) = 11 by decide), if_neg (show ¬ (21 : Int32) = 12 by decide), if_neg (show ¬ (21 : Int32) = 13 by decide), if_neg (show ¬ (21 : Int32) = 14 by decide), if_neg (show ¬ (21 : Int32) = 15 by decide), if_neg (show ¬ (21 : Int32) = 16 by decide), if_neg (show ¬ (21 : Int32) = 17 by decide), if_neg (show ¬ (21 : Int32) = 18 by decide), if_neg (show ¬ (21 : Int32) = 19 by decide), if_neg (show ¬ (21 : Int32) = 20 by decide), if_pos rfl, nI_1, b_20 (n := n) W H hs (by omega) (by omega) A.lv, bd_e, is5 W hs, chk_t, as_t W H hs A.lv.lv]
theorem b_22 (W : WF B R) (H : Rep h0 0 R) (hs : s < nS R) (hd : d + 3 ≤ 16) (hc : c + 3 ≤ 16) (A : AkC h0 h c) : fX1_asks (n + 3) 22 0 (nI s) (nI d) h = some (nI s + I (R (17 + 6 * s)) - 1000, (lvC (lvC (lvC h c 22) (c + 1) 21) (c + 2) 20)) := by
  rw [asks_s, fX1_begin_o, if_pos (dp (by omega)), c_lv (by omega) A.1, bd_e, lk_e, if_neg (show ¬ (22 : Int32) = 10 by decide), if_neg (show ¬ (22 : Int32) = 11 by decide), if_neg (show ¬ (22 : Int32) = 12 by decide), if_neg (show ¬ (22 : Int32) = 13 by decide), if_neg (show ¬ (22 : Int32) = 14 by decide), if_neg (show ¬ (22 : Int32) = 15 by decide), if_neg (show ¬ (22 : Int32) = 16 by decide), if_neg (show ¬ (22 : Int32) = 17 by decide), if_neg (show ¬ (22 : Int32) = 18 by decide), if_neg (show ¬ (22 : Int32) = 19 by decide), if_neg (show ¬ (22 : Int32) = 20 by decide), if_neg (show ¬ (22 : Int32) = 21 by decide), if_pos rfl, nI_1, b_21 (n := n) W H hs (by omega) (by omega) A.lv, bd_e]
theorem b_24 (W : WF B R) (H : Rep h0 0 R) (hs : s < nS R) (hd : d + 3 ≤ 16) (hc : c + 3 ≤ 16) (A : AkC h0 h c) : fX1_asks (n + 3) 24 0 (nI s) (nI d) h = some (2 * (nI s + I (R (17 + 6 * s))), (lvC (lvC (lvC h c 24) (c + 1) 21) (c + 2) 20)) := by
  rw [asks_s, fX1_begin_o, if_pos (dp (by omega)), c_lv (by omega) A.1, bd_e, lk_e, if_neg (show ¬ (24 : Int32) = 10 by decide), if_neg (show ¬ (24 : Int32) = 11 by decide), if_neg (show ¬ (24 : Int32) = 12 by decide), if_neg (show ¬ (24 : Int32) = 13 by decide), if_neg (show ¬ (24 : Int32) = 14 by decide), if_neg (show ¬ (24 : Int32) = 15 by decide), if_neg (show ¬ (24 : Int32) = 16 by decide), if_neg (show ¬ (24 : Int32) = 17 by decide), if_neg (show ¬ (24 : Int32) = 18 by decide), if_neg (show ¬ (24 : Int32) = 19 by decide), if_neg (show ¬ (24 : Int32) = 20 by decide), if_neg (show ¬ (24 : Int32) = 21 by decide), if_neg (show ¬ (24 : Int32) = 22 by decide), if_neg (show ¬ (24 : Int32) = 23 by decide), if_pos rfl, nI_1, b_21 (n := n) W H hs (by omega) (by omega) A.lv, bd_e]
theorem b_13 (W : WF B R) (H : Rep h0 0 R) (hs : s < nS R) (hd : d + 2 ≤ 16) (hc : c + 2 ≤ 16) (A : AkC h0 h c) : fX1_asks (n + 2) 13 0 (nI s) (nI d) h = some (I (R (16 + 6 * s)) - 100, (lvC (lvC h c 13) (c + 1) 10)) := by
  rw [asks_s, fX1_begin_o, if_pos (dp (by omega)), c_lv (by omega) A.1, bd_e, lk_e, if_neg (show ¬ (13 : Int32) = 10 by decide), if_neg (show ¬ (13 : Int32) = 11 by decide), if_neg (show ¬ (13 : Int32) = 12 by decide), if_pos rfl, nI_1, b_10 (n := n) W H hs (by omega) (by omega) A.lv, bd_e]
theorem b_14 (W : WF B R) (H : Rep h0 0 R) (hs : s < nS R) (hd : d + 3 ≤ 16) (hc : c + 3 ≤ 16) (A : AkC h0 h c) : fX1_asks (n + 3) 14 0 (nI s) (nI d) h = some (2 * (I (R (16 + 6 * s)) - 100), (lvC (lvC (lvC h c 14) (c + 1) 13) (c + 2) 10)) := by
  rw [asks_s, fX1_begin_o, if_pos (dp (by omega)), c_lv (by omega) A.1, bd_e, lk_e, if_neg (show ¬ (14 : Int32) = 10 by decide), if_neg (show ¬ (14 : Int32) = 11 by decide), if_neg (show ¬ (14 : Int32) = 12 by decide), if_neg (show ¬ (14 : Int32) = 13 by decide), if_pos rfl, nI_1, b_13 (n := n) W H hs (by omega) (by omega) A.lv, bd_e]
theorem nb {kd z v : Nat} {g : Hp} (h1 : 1 ≤ kd) (h2 : kd ≤ 5) (hz : (z = 0 ∧ ((kd = 1 ∧ v = 11) ∨ (kd = 2 ∧ v = 12) ∨ (kd = 3 ∧ v = 11) ∨ (kd = 4 ∧ v = 13) ∨ (kd = 5 ∧ v = 14))) ∨ (z = 1 ∧ ((kd = 1 ∧ v = 21) ∨ (kd = 2 ∧ v = 24) ∨ (kd = 3 ∧ v = 22) ∨ (kd = 4 ∧ v = 23) ∨ (kd = 5 ∧ v = 23)))) : fX1_nearestBody (nI kd) (nI z) g = some (nI v, g) := by
  rcases hz with ⟨rfl, q⟩ | ⟨rfl, q⟩
  · rcases q with ⟨rfl, rfl⟩ | ⟨rfl, rfl⟩ | ⟨rfl, rfl⟩ | ⟨rfl, rfl⟩ | ⟨rfl, rfl⟩ <;> rfl
  · rcases q with ⟨rfl, rfl⟩ | ⟨rfl, rfl⟩ | ⟨rfl, rfl⟩ | ⟨rfl, rfl⟩ | ⟨rfl, rfl⟩ <;> rfl
theorem ans_e {F : Int32 → Nat → Int32 → Int32 → Hp → Option (Int32 × Hp)} {kd z v : Nat} (W : WF B R) (H : Rep h0 0 R) (hs : s < nS R) (A : AkC h0 h c) (ek : R (14 + 6 * s) = (kd : Int)) (hz : (z = 0 ∧ ((kd = 1 ∧ v = 11) ∨ (kd = 2 ∧ v = 12) ∨ (kd = 3 ∧ v = 11) ∨ (kd = 4 ∧ v = 13) ∨ (kd = 5 ∧ v = 14))) ∨ (z = 1 ∧ ((kd = 1 ∧ v = 21) ∨ (kd = 2 ∧ v = 24) ∨ (kd = 3 ∧ v = 22) ∨ (kd = 4 ∧ v = 23) ∨ (kd = 5 ∧ v = 23)))) : fX1_answer_o F 0 (nI s) (nI z) (nI d) h = bd (F (nI v) 0 (nI s) (nI (d + 1)) h) fun x11 hh12 => some (x11, hh12) := by
  have kd1 := (sh W hs).1
  unfold fX1_answer_o
  rw [is2 W hs, chk_t, as_k W H hs A, ek, ← I_nat, nb (by omega) (by omega) hz, bd_e, nI_1]
theorem b_23_4 (W : WF B R) (H : Rep h0 0 R) (hs : s < nS R) (hd : d + 5 ≤ 16) (hc : c + 4 ≤ 16) (A : AkC h0 h c) (ek : R (14 + 6 * s) = ((4 : Nat) : Int)) : fX1_asks (n + 3) 23 0 (nI s) (nI d) h = some (nI s - (I (R (16 + 6 * s)) - 100), (lvC (lvC (lvC (lvC h c 23) (c + 1) 20) (c + 2) 13) (c + 3) 10)) := by
  rw [asks_s, fX1_begin_o, if_pos (dp (by omega)), c_lv (by omega) A.1, bd_e, lk_e, if_neg (show ¬ (23 : Int32) = 10 by decide), if_neg (show ¬ (23 : Int32) = 11 by decide), if_neg (show ¬ (23 : Int32) = 12 by decide), if_neg (show ¬ (23 : Int32) = 13 by decide), if_neg (show ¬ (23 : Int32) = 14 by decide), if_neg (show ¬ (23 : Int32) = 15 by decide), if_neg (show ¬ (23 : Int32) = 16 by decide), if_neg (show ¬ (23 : Int32) = 17 by decide), if_neg (show ¬ (23 : Int32) = 18 by decide), if_neg (show ¬ (23 : Int32) = 19 by decide), if_neg (show ¬ (23 : Int32) = 20 by decide), if_neg (show ¬ (23 : Int32) = 21 by decide), if_neg (show ¬ (23 : Int32) = 22 by decide), if_pos rfl, nI_1, b_20 (n := n + 1) W H hs (by omega) (by omega) A.lv, bd_e, show (0 : Int32) = nI 0 from rfl, ans_e W H hs A.lv.lv ek (v := 13) (by omega), show nI 13 = (13 : Int32) from rfl, b_13 (n := n) W H hs (by omega) (by omega) A.lv.lv, bd_e, bd_e]
theorem b_23_5 (W : WF B R) (H : Rep h0 0 R) (hs : s < nS R) (hd : d + 6 ≤ 16) (hc : c + 5 ≤ 16) (A : AkC h0 h c) (ek : R (14 + 6 * s) = ((5 : Nat) : Int)) : fX1_asks (n + 4) 23 0 (nI s) (nI d) h = some (nI s - 2 * (I (R (16 + 6 * s)) - 100), (lvC (lvC (lvC (lvC (lvC h c 23) (c + 1) 20) (c + 2) 14) (c + 3) 13) (c + 4) 10)) := by
  rw [asks_s, fX1_begin_o, if_pos (dp (by omega)), c_lv (by omega) A.1, bd_e, lk_e, if_neg (show ¬ (23 : Int32) = 10 by decide), if_neg (show ¬ (23 : Int32) = 11 by decide), if_neg (show ¬ (23 : Int32) = 12 by decide), if_neg (show ¬ (23 : Int32) = 13 by decide), if_neg (show ¬ (23 : Int32) = 14 by decide), if_neg (show ¬ (23 : Int32) = 15 by decide), if_neg (show ¬ (23 : Int32) = 16 by decide), if_neg (show ¬ (23 : Int32) = 17 by decide), if_neg (show ¬ (23 : Int32) = 18 by decide), if_neg (show ¬ (23 : Int32) = 19 by decide), if_neg (show ¬ (23 : Int32) = 20 by decide), if_neg (show ¬ (23 : Int32) = 21 by decide), if_neg (show ¬ (23 : Int32) = 22 by decide), if_pos rfl, nI_1, b_20 (n := n + 2) W H hs (by omega) (by omega) A.lv, bd_e, show (0 : Int32) = nI 0 from rfl, ans_e W H hs A.lv.lv ek (v := 14) (by omega), show nI 14 = (14 : Int32) from rfl, b_14 (n := n) W H hs (by omega) (by omega) A.lv.lv, bd_e, bd_e]
theorem b_11_1 (W : WF B R) (H : Rep h0 0 R) (hs : s < nS R) (hd : d + 5 ≤ 16) (hc : c + 4 ≤ 16) (A : AkC h0 h c) (ek : R (14 + 6 * s) = ((1 : Nat) : Int)) : fX1_asks (n + 3) 11 0 (nI s) (nI d) h = some (I (R (16 + 6 * s)) + (nI s + I (R (17 + 6 * s))), (lvC (lvC (lvC (lvC h c 11) (c + 1) 10) (c + 2) 21) (c + 3) 20)) := by
  rw [asks_s, fX1_begin_o, if_pos (dp (by omega)), c_lv (by omega) A.1, bd_e, lk_e, if_neg (show ¬ (11 : Int32) = 10 by decide), if_pos rfl, nI_1, b_10 (n := n + 1) W H hs (by omega) (by omega) A.lv, bd_e, show (1 : Int32) = nI 1 from rfl, ans_e W H hs A.lv.lv ek (v := 21) (by omega), show nI 21 = (21 : Int32) from rfl, b_21 (n := n) W H hs (by omega) (by omega) A.lv.lv, bd_e, bd_e]
theorem b_11_2 (W : WF B R) (H : Rep h0 0 R) (hs : s < nS R) (hd : d + 6 ≤ 16) (hc : c + 5 ≤ 16) (A : AkC h0 h c) (ek : R (14 + 6 * s) = ((2 : Nat) : Int)) : fX1_asks (n + 4) 11 0 (nI s) (nI d) h = some (I (R (16 + 6 * s)) + 2 * (nI s + I (R (17 + 6 * s))), (lvC (lvC (lvC (lvC (lvC h c 11) (c + 1) 10) (c + 2) 24) (c + 3) 21) (c + 4) 20)) := by
  rw [asks_s, fX1_begin_o, if_pos (dp (by omega)), c_lv (by omega) A.1, bd_e, lk_e, if_neg (show ¬ (11 : Int32) = 10 by decide), if_pos rfl, nI_1, b_10 (n := n + 2) W H hs (by omega) (by omega) A.lv, bd_e, show (1 : Int32) = nI 1 from rfl, ans_e W H hs A.lv.lv ek (v := 24) (by omega), show nI 24 = (24 : Int32) from rfl, b_24 (n := n) W H hs (by omega) (by omega) A.lv.lv, bd_e, bd_e]
theorem b_11_3 (W : WF B R) (H : Rep h0 0 R) (hs : s < nS R) (hd : d + 6 ≤ 16) (hc : c + 5 ≤ 16) (A : AkC h0 h c) (ek : R (14 + 6 * s) = ((3 : Nat) : Int)) : fX1_asks (n + 4) 11 0 (nI s) (nI d) h = some (I (R (16 + 6 * s)) + (nI s + I (R (17 + 6 * s)) - 1000), (lvC (lvC (lvC (lvC (lvC h c 11) (c + 1) 10) (c + 2) 22) (c + 3) 21) (c + 4) 20)) := by
  rw [asks_s, fX1_begin_o, if_pos (dp (by omega)), c_lv (by omega) A.1, bd_e, lk_e, if_neg (show ¬ (11 : Int32) = 10 by decide), if_pos rfl, nI_1, b_10 (n := n + 2) W H hs (by omega) (by omega) A.lv, bd_e, show (1 : Int32) = nI 1 from rfl, ans_e W H hs A.lv.lv ek (v := 22) (by omega), show nI 22 = (22 : Int32) from rfl, b_22 (n := n) W H hs (by omega) (by omega) A.lv.lv, bd_e, bd_e]
theorem b_12_2 (W : WF B R) (H : Rep h0 0 R) (hs : s < nS R) (hd : d + 7 ≤ 16) (hc : c + 6 ≤ 16) (A : AkC h0 h c) (ek : R (14 + 6 * s) = ((2 : Nat) : Int)) : fX1_asks (n + 5) 12 0 (nI s) (nI d) h = some (-(I (R (16 + 6 * s)) + 2 * (nI s + I (R (17 + 6 * s)))), (lvC (lvC (lvC (lvC (lvC (lvC h c 12) (c + 1) 11) (c + 2) 10) (c + 3) 24) (c + 4) 21) (c + 5) 20)) := by
  rw [asks_s, fX1_begin_o, if_pos (dp (by omega)), c_lv (by omega) A.1, bd_e, lk_e, if_neg (show ¬ (12 : Int32) = 10 by decide), if_neg (show ¬ (12 : Int32) = 11 by decide), if_pos rfl, nI_1, b_11_2 (n := n) W H hs (by omega) (by omega) A.lv ek, bd_e]
theorem am (M0k : M0 k0 250 R) (A : AkM k0 k c) : M0 k 250 R := fun j hj => by rw [A.2 _ _ (by omega) (by omega)]; exact M0k j hj
theorem r_10 (W : WF B R) (M : M0 k0 250 R) (hs : s < nS R) (hc : c + 1 ≤ 16) (A : AkM k0 k c) : fX7_plainSize (nI s) k = some (I (R (16 + 6 * s)), (lvM k c 10)) := by
  unfold fX7_plainSize
  rw [m_lv (by omega) A.1, bd_e, m_f2 W a250 (am M A.lv) hs, bd_e]
theorem r_h4 (W : WF B R) (M : M0 k0 250 R) (hs : s < nS R) (hc : c + 2 ≤ 16) (A : AkM k0 k c) (ek : R (14 + 6 * s) = 4) : fX7_haarSize (nI s) k = some (I (R (16 + 6 * s)) - 100, (lvM (lvM k c 13) (c + 1) 10)) := by
  unfold fX7_haarSize
  rw [m_f0 W a250 (am M A) hs, bd_e, ek]
  dsimp only [jp_e]
  rw [if_neg (by decide), if_pos rfl, m_lv (by omega) A.1, bd_e, r_10 W M hs (by omega) A.lv, bd_e, lk_e, if_pos rfl]
theorem r_h5 (W : WF B R) (M : M0 k0 250 R) (hs : s < nS R) (hc : c + 3 ≤ 16) (A : AkM k0 k c) (ek : R (14 + 6 * s) = 5) : fX7_haarSize (nI s) k = some (2 * (I (R (16 + 6 * s)) - 100), (lvM (lvM (lvM k c 14) (c + 1) 13) (c + 2) 10)) := by
  unfold fX7_haarSize
  rw [m_f0 W a250 (am M A) hs, bd_e, ek]
  dsimp only [jp_e]
  rw [if_pos (by decide), if_neg (by decide), m_lv (by omega) A.1, bd_e, m_lv (by omega) A.lv.1, bd_e, r_10 W M hs (by omega) A.lv.lv, bd_e, lk_e, if_neg (by decide)]
theorem r_m1 (W : WF B R) (M : M0 k0 250 R) (hs : s < nS R) (hc : c + 2 ≤ 16) (A : AkM k0 k c) (ek : R (14 + 6 * s) = 1) : fX7_markOf (nI s) k = some (nI s + I (R (17 + 6 * s)), (lvM (lvM k c 21) (c + 1) 20)) := by
  unfold fX7_markOf
  rw [m_f0 W a250 (am M A) hs, bd_e, ek]
  dsimp only [jp_e]
  rw [if_pos (by decide), if_pos (by decide), m_lv (by omega) A.1, bd_e, m_lv (by omega) A.lv.1, bd_e, m_f3 W a250 (am M A.lv.lv) hs, bd_e, lk_e, if_pos (by decide)]
theorem r_m2 (W : WF B R) (M : M0 k0 250 R) (hs : s < nS R) (hc : c + 3 ≤ 16) (A : AkM k0 k c) (ek : R (14 + 6 * s) = 2) : fX7_markOf (nI s) k = some (2 * (nI s + I (R (17 + 6 * s))), (lvM (lvM (lvM k c 24) (c + 1) 21) (c + 2) 20)) := by
  unfold fX7_markOf
  rw [m_f0 W a250 (am M A) hs, bd_e, ek]
  dsimp only [jp_e]
  rw [if_pos (by decide), if_neg (by decide), if_neg (by decide), m_lv (by omega) A.1, bd_e, m_lv (by omega) A.lv.1, bd_e, m_lv (by omega) A.lv.lv.1, bd_e, m_f3 W a250 (am M A.lv.lv.lv) hs, bd_e, lk_e, if_neg (by decide), if_neg (by decide)]
theorem r_m3 (W : WF B R) (M : M0 k0 250 R) (hs : s < nS R) (hc : c + 3 ≤ 16) (A : AkM k0 k c) (ek : R (14 + 6 * s) = 3) : fX7_markOf (nI s) k = some (nI s + I (R (17 + 6 * s)) - 1000, (lvM (lvM (lvM k c 22) (c + 1) 21) (c + 2) 20)) := by
  unfold fX7_markOf
  rw [m_f0 W a250 (am M A) hs, bd_e, ek]
  dsimp only [jp_e]
  rw [if_pos (by decide), if_neg (by decide), if_pos (by decide), m_lv (by omega) A.1, bd_e, m_lv (by omega) A.lv.1, bd_e, m_lv (by omega) A.lv.lv.1, bd_e, m_f3 W a250 (am M A.lv.lv.lv) hs, bd_e, lk_e, if_neg (by decide), if_pos (by decide)]
theorem r_m4 (W : WF B R) (M : M0 k0 250 R) (hs : s < nS R) (hc : c + 4 ≤ 16) (A : AkM k0 k c) (ek : R (14 + 6 * s) = 4) : fX7_markOf (nI s) k = some (nI s - (I (R (16 + 6 * s)) - 100), (lvM (lvM (lvM (lvM k c 23) (c + 1) 20) (c + 2) 13) (c + 3) 10)) := by
  unfold fX7_markOf
  rw [m_f0 W a250 (am M A) hs, bd_e, ek, if_neg (by decide), m_lv (by omega) A.1, bd_e, m_lv (by omega) A.lv.1, bd_e, r_h4 W M hs (by omega) A.lv.lv ek, bd_e]
theorem r_m5 (W : WF B R) (M : M0 k0 250 R) (hs : s < nS R) (hc : c + 5 ≤ 16) (A : AkM k0 k c) (ek : R (14 + 6 * s) = 5) : fX7_markOf (nI s) k = some (nI s - 2 * (I (R (16 + 6 * s)) - 100), (lvM (lvM (lvM (lvM (lvM k c 23) (c + 1) 20) (c + 2) 14) (c + 3) 13) (c + 4) 10)) := by
  unfold fX7_markOf
  rw [m_f0 W a250 (am M A) hs, bd_e, ek, if_neg (by decide), m_lv (by omega) A.1, bd_e, m_lv (by omega) A.lv.1, bd_e, r_h5 W M hs (by omega) A.lv.lv ek, bd_e]
theorem r_s1 (W : WF B R) (M : M0 k0 250 R) (hs : s < nS R) (hc : c + 4 ≤ 16) (A : AkM k0 k c) (ek : R (14 + 6 * s) = 1) : fX7_sizeOf (nI s) k = some (I (R (16 + 6 * s)) + (nI s + I (R (17 + 6 * s))), (lvM (lvM (lvM (lvM k c 11) (c + 1) 10) (c + 2) 21) (c + 3) 20)) := by
  unfold fX7_sizeOf
  rw [m_f0 W a250 (am M A) hs, bd_e, ek]
  dsimp only [jp_e]
  rw [if_pos (by decide), if_neg (by decide), m_lv (by omega) A.1, bd_e, r_10 W M hs (by omega) A.lv, bd_e, r_m1 W M hs (by omega) A.lv.lv ek, bd_e, lk_e, if_neg (by decide)]
theorem r_s3 (W : WF B R) (M : M0 k0 250 R) (hs : s < nS R) (hc : c + 5 ≤ 16) (A : AkM k0 k c) (ek : R (14 + 6 * s) = 3) : fX7_sizeOf (nI s) k = some (I (R (16 + 6 * s)) + (nI s + I (R (17 + 6 * s)) - 1000), (lvM (lvM (lvM (lvM (lvM k c 11) (c + 1) 10) (c + 2) 22) (c + 3) 21) (c + 4) 20)) := by
  unfold fX7_sizeOf
  rw [m_f0 W a250 (am M A) hs, bd_e, ek]
  dsimp only [jp_e]
  rw [if_pos (by decide), if_neg (by decide), m_lv (by omega) A.1, bd_e, r_10 W M hs (by omega) A.lv, bd_e, r_m3 W M hs (by omega) A.lv.lv ek, bd_e, lk_e, if_neg (by decide)]
theorem r_s2 (W : WF B R) (M : M0 k0 250 R) (hs : s < nS R) (hc : c + 6 ≤ 16) (A : AkM k0 k c) (ek : R (14 + 6 * s) = 2) : fX7_sizeOf (nI s) k = some (-(I (R (16 + 6 * s)) + 2 * (nI s + I (R (17 + 6 * s)))), (lvM (lvM (lvM (lvM (lvM (lvM k c 12) (c + 1) 11) (c + 2) 10) (c + 3) 24) (c + 4) 21) (c + 5) 20)) := by
  unfold fX7_sizeOf
  rw [m_f0 W a250 (am M A) hs, bd_e, ek]
  dsimp only [jp_e]
  rw [if_pos (by decide), if_pos (by decide), m_lv (by omega) A.1, bd_e, m_lv (by omega) A.lv.1, bd_e, r_10 W M hs (by omega) A.lv.lv, bd_e, r_m2 W M hs (by omega) A.lv.lv.lv ek, bd_e, lk_e, if_pos (by decide)]
theorem r_s4 (W : WF B R) (M : M0 k0 250 R) (hs : s < nS R) (hc : c + 2 ≤ 16) (A : AkM k0 k c) (ek : R (14 + 6 * s) = 4) : fX7_sizeOf (nI s) k = some (I (R (16 + 6 * s)) - 100, (lvM (lvM k c 13) (c + 1) 10)) := by
  unfold fX7_sizeOf
  rw [m_f0 W a250 (am M A) hs, bd_e, ek, if_neg (by decide), r_h4 W M hs (by omega) A ek, bd_e]
theorem r_s5 (W : WF B R) (M : M0 k0 250 R) (hs : s < nS R) (hc : c + 3 ≤ 16) (A : AkM k0 k c) (ek : R (14 + 6 * s) = 5) : fX7_sizeOf (nI s) k = some (2 * (I (R (16 + 6 * s)) - 100), (lvM (lvM (lvM k c 14) (c + 1) 13) (c + 2) 10)) := by
  unfold fX7_sizeOf
  rw [m_f0 W a250 (am M A) hs, bd_e, ek, if_neg (by decide), r_h5 W M hs (by omega) A ek, bd_e]
end ASK
theorem ak_0 {h : Hp} : AkC h (up2 h 228 1 0) 0 := ⟨by rw [up2_at, if_pos ⟨rfl, rfl⟩]; rfl, fun i j q1 q2 => by rw [up2_at, if_neg q2]⟩
theorem am_0 {k : Hp} : AkM k (up2 k 246 23 0) 0 := ⟨by rw [up2_at, if_pos ⟨rfl, rfl⟩]; rfl, fun i j q1 q2 => by rw [up2_at, if_neg q2]⟩
theorem as_0 {h k : Hp} : AkS h k 0 := fun i hi => absurd hi (by omega)
theorem st_ask : St_ask RR := by
  intro h k a1 a2 H
  have hz := H.mz
  rcases H.sheet a1 with ⟨p1, p2⟩ | ⟨R, s, hs, rfl, T, p1, p2⟩
  · exact ⟨-1000001, h, Mz k, by simp only [fX6_ask, p1, bd_e, if_true], by simp only [fX7_ask, lk_e, Mz_e, p2, bd_e, if_true], hz⟩
  rcases nem ((0 : Int) ≤ a2.toInt ∧ a2.toInt ≤ 1) with q | q
  · exact ⟨-1000001, h, Mz k, by simp only [fX6_ask, p1, bd_e, i10, if_false, w6_f 0 1 q, if_true], by simp only [fX7_ask, lk_e, Mz_e, p2, bd_e, i10, if_false, L_wf 0 1 q, if_true], hz⟩
  have eC : fX6_ask (nI s) a2 h = bd (fX1_answer 0 (nI s) a2 (nI 0) (up2 h 228 1 0)) fun x22 hh23 => some (x22, hh23) := by
    unfold fX6_ask fX1_askOf
    rw [p1, bd_e, if_neg (by decide), w6_t 0 1 q, bd_e, if_neg (by decide), lk_e, nI_0]
    cases fX1_answer 0 (nI s) a2 0 (up2 h 228 1 0) <;> rfl
  have eM : fX7_ask (nI s) a2 k = if a2 = 0 then bd (fX7_sizeOf (nI s) (up2 (Mz k) 246 23 0)) fun x45 kk46 => some (x45, kk46) else bd (fX7_markOf (nI s) (up2 (Mz k) 246 23 0)) fun x36 kk37 => some (x36, kk37) := by
    unfold fX7_ask
    rw [lk_e, Mz_e, p2, bd_e, if_neg (by decide), L_wd 0 1 q, bd_e, if_neg (by decide), lk_e]
  rw [eC, eM]
  have kd := (sh T.W hs).1
  have fin : ∀ (v x : Int32) (h1 k1 : Hp) (n : Nat), n ≤ 16 → AkC h h1 n → AkM (Mz k) k1 n → AkS h1 k1 n → RR h1 k1 := fun _ _ h1 k1 n hn a b c => hz.asked hn a b c
  obtain ⟨v, hv, rfl⟩ := rg (a := a2) (n := 1) (by omega) ⟨by omega, q.2⟩
  unfold fX1_answer
  have kk : R (14 + 6 * s) = 1 ∨ R (14 + 6 * s) = 2 ∨ R (14 + 6 * s) = 3 ∨ R (14 + 6 * s) = 4 ∨ R (14 + 6 * s) = 5 := by omega
  rcases (show v = 0 ∨ v = 1 by omega) with rfl | rfl
  · rw [if_pos (show nI 0 = (0 : Int32) from rfl)]
    rcases kk with ek | ek | ek | ek | ek
    · rw [ans_e (kd := 1) (v := 11) T.W T.C hs ak_0 ek (by omega), show nI 11 = (11 : Int32) from rfl, b_11_1 (n := 5) T.W T.C hs (by omega) (by omega) ak_0 ek, bd_e, bd_e, r_s1 T.W T.M hs (by omega) am_0 ek, bd_e]
      exact ⟨_, _, _, rfl, rfl, hz.asked (n := 4) (by omega) ak_0.lv.lv.lv.lv am_0.lv.lv.lv.lv as_0.lv.lv.lv.lv⟩
    · rw [ans_e (kd := 2) (v := 12) T.W T.C hs ak_0 ek (by omega), show nI 12 = (12 : Int32) from rfl, b_12_2 (n := 3) T.W T.C hs (by omega) (by omega) ak_0 ek, bd_e, bd_e, r_s2 T.W T.M hs (by omega) am_0 ek, bd_e]
      exact ⟨_, _, _, rfl, rfl, hz.asked (n := 6) (by omega) ak_0.lv.lv.lv.lv.lv.lv am_0.lv.lv.lv.lv.lv.lv as_0.lv.lv.lv.lv.lv.lv⟩
    · rw [ans_e (kd := 3) (v := 11) T.W T.C hs ak_0 ek (by omega), show nI 11 = (11 : Int32) from rfl, b_11_3 (n := 4) T.W T.C hs (by omega) (by omega) ak_0 ek, bd_e, bd_e, r_s3 T.W T.M hs (by omega) am_0 ek, bd_e]
      exact ⟨_, _, _, rfl, rfl, hz.asked (n := 5) (by omega) ak_0.lv.lv.lv.lv.lv am_0.lv.lv.lv.lv.lv as_0.lv.lv.lv.lv.lv⟩
    · rw [ans_e (kd := 4) (v := 13) T.W T.C hs ak_0 ek (by omega), show nI 13 = (13 : Int32) from rfl, b_13 (n := 6) T.W T.C hs (by omega) (by omega) ak_0, bd_e, bd_e, r_s4 T.W T.M hs (by omega) am_0 ek, bd_e]
      exact ⟨_, _, _, rfl, rfl, hz.asked (n := 2) (by omega) ak_0.lv.lv am_0.lv.lv as_0.lv.lv⟩
    · rw [ans_e (kd := 5) (v := 14) T.W T.C hs ak_0 ek (by omega), show nI 14 = (14 : Int32) from rfl, b_14 (n := 5) T.W T.C hs (by omega) (by omega) ak_0, bd_e, bd_e, r_s5 T.W T.M hs (by omega) am_0 ek, bd_e]
      exact ⟨_, _, _, rfl, rfl, hz.asked (n := 3) (by omega) ak_0.lv.lv.lv am_0.lv.lv.lv as_0.lv.lv.lv⟩
  · rw [if_neg (show ¬ nI 1 = (0 : Int32) by decide)]
    rcases kk with ek | ek | ek | ek | ek
    · rw [ans_e (kd := 1) (v := 21) T.W T.C hs ak_0 ek (by omega), show nI 21 = (21 : Int32) from rfl, b_21 (n := 6) T.W T.C hs (by omega) (by omega) ak_0, bd_e, bd_e, r_m1 T.W T.M hs (by omega) am_0 ek, bd_e]
      exact ⟨_, _, _, rfl, rfl, hz.asked (n := 2) (by omega) ak_0.lv.lv am_0.lv.lv as_0.lv.lv⟩
    · rw [ans_e (kd := 2) (v := 24) T.W T.C hs ak_0 ek (by omega), show nI 24 = (24 : Int32) from rfl, b_24 (n := 5) T.W T.C hs (by omega) (by omega) ak_0, bd_e, bd_e, r_m2 T.W T.M hs (by omega) am_0 ek, bd_e]
      exact ⟨_, _, _, rfl, rfl, hz.asked (n := 3) (by omega) ak_0.lv.lv.lv am_0.lv.lv.lv as_0.lv.lv.lv⟩
    · rw [ans_e (kd := 3) (v := 22) T.W T.C hs ak_0 ek (by omega), show nI 22 = (22 : Int32) from rfl, b_22 (n := 5) T.W T.C hs (by omega) (by omega) ak_0, bd_e, bd_e, r_m3 T.W T.M hs (by omega) am_0 ek, bd_e]
      exact ⟨_, _, _, rfl, rfl, hz.asked (n := 3) (by omega) ak_0.lv.lv.lv am_0.lv.lv.lv as_0.lv.lv.lv⟩
    · rw [ans_e (kd := 4) (v := 23) T.W T.C hs ak_0 ek (by omega), show nI 23 = (23 : Int32) from rfl, b_23_4 (n := 5) T.W T.C hs (by omega) (by omega) ak_0 ek, bd_e, bd_e, r_m4 T.W T.M hs (by omega) am_0 ek, bd_e]
      exact ⟨_, _, _, rfl, rfl, hz.asked (n := 4) (by omega) ak_0.lv.lv.lv.lv am_0.lv.lv.lv.lv as_0.lv.lv.lv.lv⟩
    · rw [ans_e (kd := 5) (v := 23) T.W T.C hs ak_0 ek (by omega), show nI 23 = (23 : Int32) from rfl, b_23_5 (n := 4) T.W T.C hs (by omega) (by omega) ak_0 ek, bd_e, bd_e, r_m5 T.W T.M hs (by omega) am_0 ek, bd_e]
      exact ⟨_, _, _, rfl, rfl, hz.asked (n := 5) (by omega) ak_0.lv.lv.lv.lv.lv am_0.lv.lv.lv.lv.lv as_0.lv.lv.lv.lv.lv⟩
