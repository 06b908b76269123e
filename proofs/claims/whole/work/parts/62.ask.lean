/-! ===== ask ===== -/
def lvC (h : Hp) (n : Nat) (v : Int32) : Hp := up2 (up2 h 229 n v) 228 1 (nI (n + 1))
def lvM (k : Hp) (n : Nat) (v : Int32) : Hp := up2 (up2 k 258 n v) 246 23 (nI (n + 1))
theorem lvC_n {h : Hp} {n : Nat} {v : Int32} : lvC h n v 228 1 = nI (n + 1) := by unfold lvC; rw [up2_at, if_pos ⟨rfl, rfl⟩]
theorem lvM_n {k : Hp} {n : Nat} {v : Int32} : lvM k n v 246 23 = nI (n + 1) := by unfold lvM; rw [up2_at, if_pos ⟨rfl, rfl⟩]
theorem lvC_o {h : Hp} {n i j : Nat} {v : Int32} (q1 : i ≠ 229) (q2 : i ≠ 228) : lvC h n v i j = h i j := by unfold lvC; rw [up2_ne q2, up2_ne q1]
theorem lvM_o {k : Hp} {n i j : Nat} {v : Int32} (q1 : i ≠ 258) (q2 : ¬ (i = 246 ∧ j = 23)) : lvM k n v i j = k i j := by unfold lvM; rw [up2_at, if_neg q2, up2_ne q1]
theorem c_lv {h : Hp} {n : Nat} {v : Int32} (hn : n < 16) (e : h 228 1 = nI n) : fX1_leave v h = some ((), lvC h n v) := by
  unfold fX1_leave
  rw [e, show nI (lenC 229) = nI 16 from rfl, if_neg (by rw [t_le, nI_toInt (by omega), nI_toInt (by omega)]; omega), show lenC 229 = 16 from rfl, inb_n hn (by omega), chk_t, cl_n (by omega), lk_e, up2_at, if_neg (by omega), e, nI_1, lk_e]
  rfl
theorem m_lv {k : Hp} {n : Nat} {v : Int32} (hn : n < 16) (e : k 246 23 = nI n) : fX7_began v k = some ((), lvM k n v) := by
  unfold fX7_began
  rw [e, if_neg (by rw [t_le, nI_toInt (by omega)]; show ¬ (16 : Int) ≤ _; omega), show lenM 258 = 16 from rfl, inb_n hn (by omega), chk_t, cl_n (by omega), lk_e, up2_at, if_neg (by omega), e, nI_1, lk_e]
  rfl
/-- both have left the same marks; the rest stands -/
def AkC (h0 h : Hp) (n : Nat) : Prop := h 228 1 = nI n ∧ ∀ i j, i ≠ 229 → ¬ (i = 228 ∧ j = 1) → h i j = h0 i j
def AkM (k0 k : Hp) (n : Nat) : Prop := k 246 23 = nI n ∧ ∀ i j, i ≠ 258 → ¬ (i = 246 ∧ j = 23) → k i j = k0 i j
def AkS (h k : Hp) (n : Nat) : Prop := ∀ i, i < n → h 229 i = k 258 i
theorem AkC.lv {h0 h : Hp} {n : Nat} {v : Int32} (A : AkC h0 h n) : AkC h0 (lvC h n v) (n + 1) := ⟨lvC_n, fun i j q1 q2 => by unfold lvC; rw [up2_at, if_neg q2, up2_ne q1]; exact A.2 i j q1 q2⟩
theorem AkM.lv {h0 h : Hp} {n : Nat} {v : Int32} (A : AkM h0 h n) : AkM h0 (lvM h n v) (n + 1) := ⟨lvM_n, fun i j q1 q2 => by rw [lvM_o q1 q2]; exact A.2 i j q1 q2⟩
theorem AkS.lv {h k : Hp} {n : Nat} {v : Int32} (A : AkS h k n) : AkS (lvC h n v) (lvM k n v) (n + 1) := fun i hi => by
  unfold lvC lvM
  rw [up2_ne (by omega), up2_ne (by omega), up2_at, up2_at]
  by_cases e : i = n
  · rw [if_pos ⟨rfl, e⟩, if_pos ⟨rfl, e⟩]
  · rw [if_neg (by omega), if_neg (by omega)]; exact A i (by omega)
theorem RR.asked {h0 k0 h k : Hp} {n : Nat} (H : RR h0 k0) (hn : n ≤ 16) (C : AkC h0 h n) (M : AkM k0 k n) (S : AkS h k n) : RR h k := by
  refine ⟨fun r hr => (H.1 r hr).cg2 (fun j => C.2 _ _ (by omega) (by omega)) (fun j => C.2 _ _ (by omega) (by omega)) (M.2 _ _ (by omega) (by omega)) (M.2 _ _ (by omega) (by omega)) (fun j _ => M.2 _ _ (by omega) (by omega)), ?_, ⟨?_, ?_⟩, ?_, H.2.2.2.2.1.cg2 (fun i j _ _ => C.2 _ _ (by omega) (by omega)) (fun j => C.2 _ _ (by omega) (by omega)) (M.2 _ _ (by omega) (by omega)) (fun j => M.2 _ _ (by omega) (by omega)), fun i hi => (H.2.2.2.2.2.1 i hi).cg2 hi (fun a j _ _ => C.2 _ _ (by omega) (by omega)) (fun j => M.2 _ _ (by omega) (by omega)) (fun j => M.2 _ _ (by omega) (by omega)), ⟨n, hn, C.1, M.1, S⟩⟩
  · obtain ⟨m, a, b, c, d⟩ := H.2.1
    exact ⟨m, a, by rw [C.2 _ _ (by omega) (by omega)]; exact b, by rw [M.2 _ _ (by omega) (by omega)]; exact c, fun i hi => by rw [C.2 _ _ (by omega) (by omega), M.2 _ _ (by omega) (by omega)]; exact d i hi⟩
  · rw [C.2 _ _ (by omega) (by omega), M.2 _ _ (by omega) (by omega)]; exact H.2.2.1.1
  · rw [C.2 _ _ (by omega) (by omega), M.2 _ _ (by omega) (by omega)]; exact H.2.2.1.2
  · rcases H.2.2.2.1 with ⟨b1, b2, b3, b4, b5, b6, b7, b8⟩ | b
    · left
      have c := fun j => C.2 0 j (by omega) (by omega)
      exact ⟨by rw [c]; exact b1, by rw [c]; exact b2, by rw [c]; exact b3, by rw [c]; exact b4, by rw [c]; exact b5, by rw [c]; exact b6, by rw [c]; exact b7, fun j hj => by rw [M.2 _ _ (by omega) (by omega)]; exact b8 j hj⟩
    · right
      exact b.cg (fun i j _ _ => C.2 _ _ (by omega) (by omega)) (fun j _ => M.2 _ _ (by omega) (by omega))
