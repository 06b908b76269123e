section TM
variable {R : Rw} {t u : Nat} {k : Hp}
theorem t108e {K : Int32 → Hp → Option (Int32 × Hp)} {v3 v4 v5 v6 v2 acc : Int32} (hu : u ≤ 4) {n : Nat} {m2 : Int} (hc : m2 ≤ 3) (hm2 : (if u ≤ 2 then 0 else 1) < m2) : fX7_byTurns_L108 K (n + 1) (nI u) v2 v3 v4 v5 v6 acc (I m2) k = K acc k := by
  rw [fX7_byTurns_L108]
  dsimp only [jp_e]
  by_cases q : u ≤ 2
  · rw [if_pos q] at hm2
    rw [if_pos (show nI u ≤ (2 : Int32) from (leU (a := 2) hu (by omega)).mpr q), if_pos (by rw [t_lt, I_toInt (by omega) (by omega)]; show (0 : Int) < _; omega)]
  · rw [if_neg q] at hm2
    rw [if_neg (show ¬ nI u ≤ (2 : Int32) from fun z => q ((leU (a := 2) hu (by omega)).mp z)), if_pos (by rw [t_lt, I_toInt (by omega) (by omega)]; show (1 : Int) < _; omega)]
def r108 (R : Rw) (t u : Nat) (m1 : Int) (c1 : Nat) : Int := if u ≤ 2 then mnI (-1000000) (r130 R t u m1 c1 0) else mnI (mnI (mnI (-1000000) (r130 R t u m1 c1 (-1))) (r130 R t u m1 c1 0)) (r130 R t u m1 c1 1)
theorem ok_108 (W : WF 999 R) {m1 : Int} {c1 : Nat} : okV (r108 R t u m1 c1) := by
  unfold r108
  split
  · exact ok_mn ok_N (ok_130 W)
  · exact ok_mn (ok_mn (ok_mn ok_N (ok_130 W)) (ok_130 W)) (ok_130 W)
theorem T108 {K : Int32 → Hp → Option (Int32 × Hp)} {v3 v5 : Int32} {c1 : Nat} {m1 : Int} (W : WF 999 R) (hu : u ≤ 4) (ht : t ≤ 20) (hm1 : -1 ≤ m1 ∧ m1 ≤ 1) (hc1 : c1 ≤ 1) {n : Nat} (M : M0 k 250 R) : ∃ k1, fX7_byTurns_L108 K (n + 4) (nI u) (nI t) v3 (I m1) v5 (nI c1) (I (-1000000)) (I (if u ≤ 2 then 0 else -1)) k = K (I (r108 R t u m1 c1)) k1 ∧ offA k k1 252 := by
  unfold r108
  by_cases q : u ≤ 2
  · obtain ⟨k1, a1, a2⟩ := t108 (K := K) (v3 := v3) (v5 := v5) (n := n + 3) (m2 := 0) (u := u) W hu ht hm1 (by omega) (by rw [if_pos q]; omega) hc1 ok_N M
    refine ⟨k1, ?_, a2⟩
    rw [if_pos q, a1, show (0 : Int) + 1 = 1 by omega, t108e hu (by omega) (by rw [if_pos q]; omega), if_pos q]
  · obtain ⟨k1, a1, a2⟩ := t108 (K := K) (v3 := v3) (v5 := v5) (n := n + 3) (m2 := -1) (u := u) W hu ht hm1 (by omega) (by rw [if_neg q]; omega) hc1 ok_N M
    have M1 : M0 k1 250 R := fun j hj => by rw [a2 250 (by omega)]; exact M j hj
    obtain ⟨k2, b1, b2⟩ := t108 (K := K) (v3 := v3) (v5 := v5) (n := n + 2) (m2 := 0) (u := u) W hu ht hm1 (by omega) (by rw [if_neg q]; omega) hc1 (ok_mn ok_N (ok_130 W (t := t) (u := u) (m1 := m1) (c1 := c1) (m2 := -1))) M1
    have M2 : M0 k2 250 R := fun j hj => by rw [b2 250 (by omega)]; exact M1 j hj
    obtain ⟨k3, d1, d2⟩ := t108 (K := K) (v3 := v3) (v5 := v5) (n := n + 1) (m2 := 1) (u := u) W hu ht hm1 (by omega) (by rw [if_neg q]; omega) hc1 (ok_mn (ok_mn ok_N (ok_130 W (t := t) (u := u) (m1 := m1) (c1 := c1) (m2 := -1))) (ok_130 W (t := t) (u := u) (m1 := m1) (c1 := c1) (m2 := 0))) M2
    refine ⟨k3, ?_, (a2.tr b2).tr d2⟩
    rw [if_neg q, a1, show (-1 : Int) + 1 = 0 by omega, b1, show (0 : Int) + 1 = 1 by omega, d1, show (1 : Int) + 1 = 2 by omega, t108e hu (by omega) (by rw [if_neg q]; omega), if_neg q]
theorem t77 {K : Int32 → Hp → Option (Int32 × Hp)} {v3 : Int32} {c1 : Nat} {m1 acc : Int} (W : WF 999 R) (hu : u ≤ 4) (ht : t ≤ 20) (hm1 : -1 ≤ m1 ∧ m1 ≤ 1) (hc : c1 ≤ (if u ≤ 1 then 0 else 1)) (ha : okV acc) {n : Nat} (M : M0 k 250 R) : ∃ k1, fX7_byTurns_L77 K (n + 1) (nI u) (nI t) v3 (I m1) (I acc) (nI c1) k = fX7_byTurns_L77 K n (nI u) (nI t) v3 (I m1) (I (mxI acc (r108 R t u m1 c1))) (nI (c1 + 1)) k1 ∧ offA k k1 252 := by
  have c1' : c1 ≤ 1 := by split at hc <;> omega
  obtain ⟨k1, a1, a2⟩ := T108 (K := fun x211 kk212 => if x211 ≤ I acc then lk (nI c1 + 1) fun x231 => fX7_byTurns_L77 K n (nI u) (nI t) v3 (I m1) (I acc) x231 kk212 else lk (nI c1 + 1) fun x231 => fX7_byTurns_L77 K n (nI u) (nI t) v3 (I m1) x211 x231 kk212) (v3 := v3) (v5 := I acc) (n := 4092) (u := u) W hu ht hm1 c1' M
  refine ⟨k1, ?_, a2⟩
  rw [fX7_byTurns_L77]
  dsimp only [jp_e]
  have ng : ¬ I (if u ≤ 1 then 0 else 1) < nI c1 := by
    rw [t_lt, I_toInt (by split <;> omega) (by split <;> omega), nI_toInt (by omega)]
    split at hc <;> omega
  have J : ∀ J : Int32 → Option (Int32 × Hp), (if nI u ≤ (1 : Int32) then J 0 else J 1) = J (I (if u ≤ 1 then 0 else 1)) := fun J => hi_e (a := 1) hu (by omega)
  rw [J (fun J89_67s0 => if J89_67s0 < nI c1 then K (I acc) k else _)]
  rw [if_neg ng]
  have J2 : ∀ J : Int32 → Option (Int32 × Hp), (if nI u ≤ (2 : Int32) then J 0 else J (-1)) = J (I (if u ≤ 2 then 0 else -1)) := fun J => by
    by_cases q : u ≤ 2
    · rw [if_pos (show nI u ≤ (2 : Int32) from (leU (a := 2) hu (by omega)).mpr q), if_pos q]; rfl
    · rw [if_neg (show ¬ nI u ≤ (2 : Int32) from fun z => q ((leU (a := 2) hu (by omega)).mp z)), if_neg q, I_m1]
  rw [J2 (fun J106_81s0 => fX7_byTurns_L108 _ 4096 (nI u) (nI t) v3 (I m1) (I acc) (nI c1) (-1000000 : Int32) J106_81s0 k)]
  rw [show (-1000000 : Int32) = I (-1000000) from by decide]
  refine (Eq.trans ?_ a1).trans ?_
  · rfl
  · rw [lk_e, lk_e, nI_1]
    exact mx_e (J := fun z => fX7_byTurns_L77 K n (nI u) (nI t) v3 (I m1) z (nI (c1 + 1)) k1) ha (ok_108 W)
theorem t77e {K : Int32 → Hp → Option (Int32 × Hp)} {v3 v4 v2 acc : Int32} (hu : u ≤ 4) {n c1 : Nat} (hc : c1 ≤ 3) (hc2 : (if u ≤ 1 then 0 else 1) < c1) : fX7_byTurns_L77 K (n + 1) (nI u) v2 v3 v4 acc (nI c1) k = K acc k := by
  rw [fX7_byTurns_L77]
  dsimp only [jp_e]
  by_cases q : u ≤ 1
  · rw [if_pos q] at hc2
    rw [if_pos (show nI u ≤ (1 : Int32) from (leU (a := 1) hu (by omega)).mpr q), if_pos (by rw [t_lt, nI_toInt (by omega)]; show (0 : Int) < _; omega)]
  · rw [if_neg q] at hc2
    rw [if_neg (show ¬ nI u ≤ (1 : Int32) from fun z => q ((leU (a := 1) hu (by omega)).mp z)), if_pos (by rw [t_lt, nI_toInt (by omega)]; show (1 : Int) < _; omega)]
def r77 (R : Rw) (t u : Nat) (m1 : Int) : Int := if u ≤ 1 then mxI (-1000000) (r108 R t u m1 0) else mxI (mxI (-1000000) (r108 R t u m1 0)) (r108 R t u m1 1)
theorem ok_77 (W : WF 999 R) {m1 : Int} : okV (r77 R t u m1) := by
  unfold r77
  split
  · exact ok_mx ok_N (ok_108 W)
  · exact ok_mx (ok_mx ok_N (ok_108 W)) (ok_108 W)
theorem T77 {K : Int32 → Hp → Option (Int32 × Hp)} {v3 : Int32} {m1 : Int} (W : WF 999 R) (hu : u ≤ 4) (ht : t ≤ 20) (hm1 : -1 ≤ m1 ∧ m1 ≤ 1) {n : Nat} (M : M0 k 250 R) : ∃ k1, fX7_byTurns_L77 K (n + 3) (nI u) (nI t) v3 (I m1) (I (-1000000)) (nI 0) k = K (I (r77 R t u m1)) k1 ∧ offA k k1 252 := by
  obtain ⟨k1, a1, a2⟩ := t77 (K := K) (v3 := v3) (n := n + 2) (c1 := 0) (u := u) W hu ht hm1 (Nat.zero_le _) ok_N M
  have M1 : M0 k1 250 R := fun j hj => by rw [a2 250 (by omega)]; exact M j hj
  unfold r77
  by_cases q : u ≤ 1
  · refine ⟨k1, ?_, a2⟩
    rw [a1, t77e hu (by omega) (by rw [if_pos q]; omega), if_pos q]
  · obtain ⟨k2, b1, b2⟩ := t77 (K := K) (v3 := v3) (n := n + 1) (c1 := 1) (u := u) W hu ht hm1 (by rw [if_neg q]; omega) (ok_mx ok_N (ok_108 W (t := t) (u := u) (m1 := m1) (c1 := 0))) M1
    refine ⟨k2, ?_, a2.tr b2⟩
    rw [a1, b1, t77e hu (by omega) (by rw [if_neg q]; omega), if_neg q]
theorem t56 {m1 acc : Int} (W : WF 999 R) (hu : u ≤ 4) (ht : t ≤ 20) (hm : -1 ≤ m1) (hm1 : m1 ≤ (if u ≤ 0 then 0 else 1)) (ha : okV acc) {n : Nat} (M : M0 k 250 R) : ∃ k1, fX7_byTurns_L56 (n + 1) (nI u) (nI t) (I acc) (I m1) k = fX7_byTurns_L56 n (nI u) (nI t) (I (mnI acc (r77 R t u m1))) (I (m1 + 1)) k1 ∧ offA k k1 252 := by
  have m1' : m1 ≤ 1 := by split at hm1 <;> omega
  obtain ⟨k1, a1, a2⟩ := T77 (K := fun x247 kk248 => if x247 = (-1000000 : Int32) then lk (I m1 + 1) fun x267 => fX7_byTurns_L56 n (nI u) (nI t) (I acc) x267 kk248 else if I acc = (-1000000 : Int32) then lk (I m1 + 1) fun x267 => fX7_byTurns_L56 n (nI u) (nI t) x247 x267 kk248 else if I acc ≤ x247 then lk (I m1 + 1) fun x267 => fX7_byTurns_L56 n (nI u) (nI t) (I acc) x267 kk248 else lk (I m1 + 1) fun x267 => fX7_byTurns_L56 n (nI u) (nI t) x247 x267 kk248) (v3 := I acc) (n := 4093) (u := u) W hu ht ⟨hm, m1'⟩ M
  refine ⟨k1, ?_, a2⟩
  rw [fX7_byTurns_L56]
  dsimp only [jp_e]
  have ng : ¬ I (if u ≤ 0 then 0 else 1) < I m1 := by
    rw [t_lt, I_toInt (by split <;> omega) (by split <;> omega), I_toInt (by omega) (by omega)]
    split at hm1 <;> omega
  have J : ∀ J : Int32 → Option (Int32 × Hp), (if nI u ≤ (0 : Int32) then J 0 else J 1) = J (I (if u ≤ 0 then 0 else 1)) := fun J => hi_e (a := 0) hu (by omega)
  rw [J (fun J67_51s0 => if J67_51s0 < I m1 then some (I acc, k) else _)]
  rw [if_neg ng]
  rw [nI_0, show I (-1000000) = (-1000000 : Int32) from by decide] at a1
  refine (Eq.trans ?_ a1).trans ?_
  · rfl
  · rw [lk_e, lk_e, I_a1]
    exact mn_e (J := fun z => fX7_byTurns_L56 n (nI u) (nI t) z (I (m1 + 1)) k1) ha (ok_77 W)
theorem t56e {v2 acc : Int32} (hu : u ≤ 4) {n : Nat} {m1 : Int} (hc : m1 ≤ 3) (hm : (if u ≤ 0 then 0 else 1) < m1) : fX7_byTurns_L56 (n + 1) (nI u) v2 acc (I m1) k = some (acc, k) := by
  rw [fX7_byTurns_L56]
  dsimp only [jp_e]
  by_cases q : u ≤ 0
  · rw [if_pos q] at hm
    rw [if_pos (show nI u ≤ (0 : Int32) from (leU (a := 0) hu (by omega)).mpr q), if_pos (by rw [t_lt, I_toInt (by omega) (by omega)]; show (0 : Int) < _; omega)]
  · rw [if_neg q] at hm
    rw [if_neg (show ¬ nI u ≤ (0 : Int32) from fun z => q ((leU (a := 0) hu (by omega)).mp z)), if_pos (by rw [t_lt, I_toInt (by omega) (by omega)]; show (1 : Int) < _; omega)]
def r56 (R : Rw) (t u : Nat) : Int := if u ≤ 0 then mnI (-1000000) (r77 R t u 0) else mnI (mnI (mnI (-1000000) (r77 R t u (-1))) (r77 R t u 0)) (r77 R t u 1)
theorem T56 (W : WF 999 R) (hu : u ≤ 4) (ht : t ≤ 20) {n : Nat} (M : M0 k 250 R) : ∃ k1, fX7_byTurns_L56 (n + 4) (nI u) (nI t) (I (-1000000)) (I (if u ≤ 0 then 0 else -1)) k = some (I (r56 R t u), k1) ∧ offA k k1 252 := by
  unfold r56
  by_cases q : u ≤ 0
  · obtain ⟨k1, a1, a2⟩ := t56 (n := n + 3) (m1 := 0) (u := u) W hu ht (by omega) (by rw [if_pos q]; omega) ok_N M
    refine ⟨k1, ?_, a2⟩
    rw [if_pos q, a1, show (0 : Int) + 1 = 1 by omega, t56e hu (by omega) (by rw [if_pos q]; omega), if_pos q]
  · obtain ⟨k1, a1, a2⟩ := t56 (n := n + 3) (m1 := -1) (u := u) W hu ht (by omega) (by rw [if_neg q]; omega) ok_N M
    have M1 : M0 k1 250 R := fun j hj => by rw [a2 250 (by omega)]; exact M j hj
    obtain ⟨k2, b1, b2⟩ := t56 (n := n + 2) (m1 := 0) (u := u) W hu ht (by omega) (by rw [if_neg q]; omega) (ok_mn ok_N (ok_77 W (t := t) (u := u) (m1 := -1))) M1
    have M2 : M0 k2 250 R := fun j hj => by rw [b2 250 (by omega)]; exact M1 j hj
    obtain ⟨k3, d1, d2⟩ := t56 (n := n + 1) (m1 := 1) (u := u) W hu ht (by omega) (by rw [if_neg q]; omega) (ok_mn (ok_mn ok_N (ok_77 W (t := t) (u := u) (m1 := -1))) (ok_77 W (t := t) (u := u) (m1 := 0))) M2
    refine ⟨k3, ?_, (a2.tr b2).tr d2⟩
    rw [if_neg q, a1, show (-1 : Int) + 1 = 0 by omega, b1, show (0 : Int) + 1 = 1 by omega, d1, show (1 : Int) + 1 = 2 by omega, t56e hu (by omega) (by rw [if_neg q]; omega), if_neg q]
end TM
