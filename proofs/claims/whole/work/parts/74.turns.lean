def mxI (a b : Int) : Int := if b ≤ a then a else b
def mnI (v x : Int) : Int := if x = -1000000 then v else if v = -1000000 then x else if v ≤ x then v else x
def okV (z : Int) : Prop := z = -1000000 ∨ (0 ≤ z ∧ z ≤ 54)
theorem ok_mx {a b : Int} (h1 : okV a) (h2 : okV b) : okV (mxI a b) := by unfold mxI; split <;> assumption
theorem ok_mn {a b : Int} (h1 : okV a) (h2 : okV b) : okV (mnI a b) := by unfold mnI; split <;> (try split) <;> (try split) <;> assumption
theorem ok_N : okV (-1000000) := Or.inl rfl
theorem ok_tv {R : Rw} {t f : Nat} {x : Int} (W : WF 999 R) : 0 ≤ tv R t f x ∧ tv R t f x ≤ 54 := by
  have WT := WF_hrN (WF_trn W f) t
  have b := ovU_b (c := x) WT _ (Nat.le_refl _)
  have h6 := nS_le WT
  unfold tv ov
  omega
theorem ok_aV {R : Rw} {t c1 c2 : Nat} {m1 m2 : Int} (W : WF 999 R) : okV (aV R t m1 c1 m2 c2) := by
  unfold aV
  split
  · exact Or.inr (ok_tv W)
  · exact ok_N
theorem le_ok {a b : Int} (h1 : okV a) (h2 : okV b) : I a ≤ I b ↔ a ≤ b := by
  unfold okV at h1 h2
  exact I_le (by omega) (by omega) (by omega) (by omega)
theorem eq_N {a : Int} (h1 : okV a) : I a = (-1000000 : Int32) ↔ a = -1000000 := by
  unfold okV at h1
  rw [show (-1000000 : Int32) = I (-1000000) from by decide]
  exact I_eq (by omega) (by omega) (by omega) (by omega)
theorem mx_e {α : Type} {J : Int32 → α} {a b : Int} (h1 : okV a) (h2 : okV b) : (if I b ≤ I a then J (I a) else J (I b)) = J (I (mxI a b)) := by
  unfold mxI
  by_cases q : b ≤ a
  · rw [if_pos ((le_ok h2 h1).mpr q), if_pos q]
  · rw [if_neg (fun z => q ((le_ok h2 h1).mp z)), if_neg q]
theorem mn_e {α : Type} {J : Int32 → α} {v x : Int} (h1 : okV v) (h2 : okV x) : (if I x = (-1000000 : Int32) then J (I v) else if I v = (-1000000 : Int32) then J (I x) else if I v ≤ I x then J (I v) else J (I x)) = J (I (mnI v x)) := by
  unfold mnI
  by_cases q : x = -1000000
  · rw [if_pos ((eq_N h2).mpr q), if_pos q]
  · rw [if_neg (fun z => q ((eq_N h2).mp z)), if_neg q]
    by_cases q2 : v = -1000000
    · rw [if_pos ((eq_N h1).mpr q2), if_pos q2]
    · rw [if_neg (fun z => q2 ((eq_N h1).mp z)), if_neg q2]
      by_cases q3 : v ≤ x
      · rw [if_pos ((le_ok h1 h2).mpr q3), if_pos q3]
      · rw [if_neg (fun z => q3 ((le_ok h1 h2).mp z)), if_neg q3]
section TL
variable {R : Rw} {t u : Nat} {k : Hp}
theorem leU {u a : Nat} (hu : u ≤ 4) (ha : a ≤ 4) : nI u ≤ nI a ↔ u ≤ a := by
  rw [t_le, nI_toInt (by omega), nI_toInt (by omega)]
  omega
theorem hi_e {α : Type} {u a : Nat} (hu : u ≤ 4) (ha : a ≤ 4) {J : Int32 → α} : (if nI u ≤ nI a then J 0 else J 1) = J (I (if u ≤ a then 0 else 1)) := by
  by_cases q : u ≤ a
  · rw [if_pos ((leU hu ha).mpr q), if_pos q]; rfl
  · rw [if_neg (fun z => q ((leU hu ha).mp z)), if_neg q]; rfl
theorem t130 {K : Int32 → Hp → Option (Int32 × Hp)} {v3 v5 v7 : Int32} {c1 : Nat} {m1 m2 acc : Int} (W : WF 999 R) (hu : u ≤ 4) (ht : t ≤ 20) (hm1 : -1 ≤ m1 ∧ m1 ≤ 1) (hm2 : -1 ≤ m2 ∧ m2 ≤ 1) (hc1 : c1 ≤ 1) (ha : okV acc) {n c2 : Nat} (hc2 : c2 ≤ (if u ≤ 3 then 0 else 1)) (M : M0 k 250 R) : ∃ k1, fX7_byTurns_L130 K (n + 1) (nI u) (nI t) v3 (I m1) v5 (nI c1) v7 (I m2) (I acc) (nI c2) k = fX7_byTurns_L130 K n (nI u) (nI t) v3 (I m1) v5 (nI c1) v7 (I m2) (I (mxI acc (aV R t m1 c1 m2 c2))) (nI (c2 + 1)) k1 ∧ offA k k1 252 := by
  have c1' : c2 ≤ 1 := by split at hc2 <;> omega
  obtain ⟨k1, a1, a2⟩ := aft (c2 := c2) W ht M hm1 hm2 hc1 c1'
  refine ⟨k1, ?_, a2⟩
  rw [fX7_byTurns_L130]
  dsimp only [jp_e]
  rw [show (3 : Int32) = nI 3 from rfl, hi_e (J := fun J142_108s0 => if J142_108s0 < nI c2 then K (I acc) k else bd (fX7_afterTurns (I m1) (nI c1) (I m2) (nI c2) (nI t) k) fun x120 kk121 => if x120 ≤ I acc then lk (nI c2 + 1) fun x141 => fX7_byTurns_L130 K n (nI u) (nI t) v3 (I m1) v5 (nI c1) v7 (I m2) (I acc) x141 kk121 else lk (nI c2 + 1) fun x141 => fX7_byTurns_L130 K n (nI u) (nI t) v3 (I m1) v5 (nI c1) v7 (I m2) x120 x141 kk121) hu (by omega)]
  have ng : ¬ I (if u ≤ 3 then 0 else 1) < nI c2 := by
    rw [t_lt, nI_toInt (by omega), I_toInt (by split <;> omega) (by split <;> omega)]
    split at hc2 <;> omega
  rw [if_neg ng, a1, bd_e, lk_e, lk_e, nI_1]
  exact mx_e (J := fun z => fX7_byTurns_L130 K n (nI u) (nI t) v3 (I m1) v5 (nI c1) v7 (I m2) z (nI (c2 + 1)) k1) ha (ok_aV W)
theorem t130e {K : Int32 → Hp → Option (Int32 × Hp)} {v3 v4 v5 v6 v7 v8 v2 acc : Int32} (hu : u ≤ 4) {n c2 : Nat} (hc : c2 ≤ 3) (hc2 : (if u ≤ 3 then 0 else 1) < c2) : fX7_byTurns_L130 K (n + 1) (nI u) v2 v3 v4 v5 v6 v7 v8 acc (nI c2) k = K acc k := by
  rw [fX7_byTurns_L130]
  dsimp only [jp_e]
  by_cases q : u ≤ 3
  · rw [if_pos q] at hc2
    rw [if_pos (show nI u ≤ (3 : Int32) from (leU (a := 3) hu (by omega)).mpr q), if_pos (by rw [t_lt, nI_toInt (by omega)]; show (0 : Int) < _; omega)]
  · rw [if_neg q] at hc2
    rw [if_neg (show ¬ nI u ≤ (3 : Int32) from fun z => q ((leU (a := 3) hu (by omega)).mp z)), if_pos (by rw [t_lt, nI_toInt (by omega)]; show (1 : Int) < _; omega)]
def r130 (R : Rw) (t u : Nat) (m1 : Int) (c1 : Nat) (m2 : Int) : Int := if u ≤ 3 then mxI (-1000000) (aV R t m1 c1 m2 0) else mxI (mxI (-1000000) (aV R t m1 c1 m2 0)) (aV R t m1 c1 m2 1)
theorem ok_130 (W : WF 999 R) {m1 m2 : Int} {c1 : Nat} : okV (r130 R t u m1 c1 m2) := by
  unfold r130
  split
  · exact ok_mx ok_N (ok_aV W)
  · exact ok_mx (ok_mx ok_N (ok_aV W)) (ok_aV W)
theorem T130 {K : Int32 → Hp → Option (Int32 × Hp)} {v3 v5 v7 : Int32} {c1 : Nat} {m1 m2 : Int} (W : WF 999 R) (hu : u ≤ 4) (ht : t ≤ 20) (hm1 : -1 ≤ m1 ∧ m1 ≤ 1) (hm2 : -1 ≤ m2 ∧ m2 ≤ 1) (hc1 : c1 ≤ 1) {n : Nat} (M : M0 k 250 R) : ∃ k1, fX7_byTurns_L130 K (n + 3) (nI u) (nI t) v3 (I m1) v5 (nI c1) v7 (I m2) (I (-1000000)) (nI 0) k = K (I (r130 R t u m1 c1 m2)) k1 ∧ offA k k1 252 := by
  obtain ⟨k1, a1, a2⟩ := t130 (K := K) (v3 := v3) (v5 := v5) (v7 := v7) (n := n + 2) (c2 := 0) (u := u) W hu ht hm1 hm2 hc1 ok_N (Nat.zero_le _) M
  have M1 : M0 k1 250 R := fun j hj => by rw [a2 250 (by omega)]; exact M j hj
  unfold r130
  by_cases q : u ≤ 3
  · refine ⟨k1, ?_, a2⟩
    rw [a1, t130e hu (by omega) (by rw [if_pos q]; omega), if_pos q]
  · obtain ⟨k2, b1, b2⟩ := t130 (K := K) (v3 := v3) (v5 := v5) (v7 := v7) (n := n + 1) (c2 := 1) (u := u) W hu ht hm1 hm2 hc1 (ok_mx ok_N (ok_aV W (t := t) (m1 := m1) (c1 := c1) (m2 := m2) (c2 := 0))) (by rw [if_neg q]; omega) M1
    refine ⟨k2, ?_, a2.tr b2⟩
    rw [a1, b1, t130e hu (by omega) (by rw [if_neg q]; omega), if_neg q]
theorem t108 {K : Int32 → Hp → Option (Int32 × Hp)} {v3 v5 : Int32} {c1 : Nat} {m1 m2 acc : Int} (W : WF 999 R) (hu : u ≤ 4) (ht : t ≤ 20) (hm1 : -1 ≤ m1 ∧ m1 ≤ 1) (hm : -1 ≤ m2) (hm2 : m2 ≤ (if u ≤ 2 then 0 else 1)) (hc1 : c1 ≤ 1) (ha : okV acc) {n : Nat} (M : M0 k 250 R) : ∃ k1, fX7_byTurns_L108 K (n + 1) (nI u) (nI t) v3 (I m1) v5 (nI c1) (I acc) (I m2) k = fX7_byTurns_L108 K n (nI u) (nI t) v3 (I m1) v5 (nI c1) (I (mnI acc (r130 R t u m1 c1 m2))) (I (m2 + 1)) k1 ∧ offA k k1 252 := by
  have m1' : m2 ≤ 1 := by split at hm2 <;> omega
  obtain ⟨k1, a1, a2⟩ := T130 (K := fun x153 kk154 => if x153 = (-1000000 : Int32) then lk (I m2 + 1) fun x173 => fX7_byTurns_L108 K n (nI u) (nI t) v3 (I m1) v5 (nI c1) (I acc) x173 kk154 else if I acc = (-1000000 : Int32) then lk (I m2 + 1) fun x173 => fX7_byTurns_L108 K n (nI u) (nI t) v3 (I m1) v5 (nI c1) x153 x173 kk154 else if I acc ≤ x153 then lk (I m2 + 1) fun x173 => fX7_byTurns_L108 K n (nI u) (nI t) v3 (I m1) v5 (nI c1) (I acc) x173 kk154 else lk (I m2 + 1) fun x173 => fX7_byTurns_L108 K n (nI u) (nI t) v3 (I m1) v5 (nI c1) x153 x173 kk154) (v3 := v3) (v5 := v5) (v7 := I acc) (n := 4093) W hu ht hm1 ⟨hm, m1'⟩ hc1 M
  refine ⟨k1, ?_, a2⟩
  rw [fX7_byTurns_L108]
  dsimp only [jp_e]
  have ng : ¬ I (if u ≤ 2 then 0 else 1) < I m2 := by
    rw [t_lt, I_toInt (by split <;> omega) (by split <;> omega), I_toInt (by omega) (by omega)]
    split at hm2 <;> omega
  have J : ∀ J : Int32 → Option (Int32 × Hp), (if nI u ≤ (2 : Int32) then J 0 else J 1) = J (I (if u ≤ 2 then 0 else 1)) := fun J => hi_e (a := 2) hu (by omega)
  rw [J (fun J120_92s0 => if J120_92s0 < I m2 then K (I acc) k else _)]
  rw [if_neg ng]
  refine (Eq.trans ?_ a1).trans ?_
  · rfl
  · rw [lk_e, lk_e, I_a1]
    exact mn_e (J := fun z => fX7_byTurns_L108 K n (nI u) (nI t) v3 (I m1) v5 (nI c1) z (I (m2 + 1)) k1) ha (ok_130 W)
end TL
