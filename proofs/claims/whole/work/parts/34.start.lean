/-! ===== the start ===== -/
theorem wd_71 : Cond.classLink RL 7 RX6 ∈ GG := gg_in (List.mem_of_getElem? (i := 71) (by decide +kernel)) rfl
theorem wd_72 : Cond.instantiable RX6 9 ∈ GG := gg_in (List.mem_of_getElem? (i := 72) (by decide +kernel)) rfl
theorem wd_73 : Cond.methodLink RL 9 yX6_init ∈ GG := gg_in (List.mem_of_getElem? (i := 73) (by decide +kernel)) rfl
theorem wd_74 : Cond.instanceMethod yX6_init ∈ GG := gg_in (List.mem_of_getElem? (i := 74) (by decide +kernel)) rfl
theorem wd_75 : Cond.code yX6_init cX6_init 2 none ∈ GG := gg_in (List.mem_of_getElem? (i := 75) (by decide +kernel)) rfl
theorem wd_877 : Cond.classLink RL 10 RX7 ∈ GG := gg_in (List.mem_of_getElem? (i := 877) (by decide +kernel)) rfl
theorem wd_878 : Cond.instantiable RX7 24 ∈ GG := gg_in (List.mem_of_getElem? (i := 878) (by decide +kernel)) rfl
theorem wd_879 : Cond.methodLink RL 12 yX7_init ∈ GG := gg_in (List.mem_of_getElem? (i := 879) (by decide +kernel)) rfl
theorem wd_880 : Cond.instanceMethod yX7_init ∈ GG := gg_in (List.mem_of_getElem? (i := 880) (by decide +kernel)) rfl
theorem wd_881 : Cond.code yX7_init cX7_init 1 none ∈ GG := gg_in (List.mem_of_getElem? (i := 881) (by decide +kernel)) rfl
def perm (i : Nat) : Nat := if i < 7 then 11 + i else if i < 14 then i - 4 else if i < 21 then 176 + i else if i < 35 then 211 + i else if i < 203 then i - 15 else if i = 203 then 0 else if i = 204 then 1 else if i = 205 then 2 else if i = 206 then 10 else if i = 207 then 18 else if i = 208 then 19 else if i = 209 then 188 else if i = 210 then 189 else if i = 211 then 197 else if i = 218 then 204 else if i < 246 then i - 14 else i
def pinv (q : Nat) : Nat := if q = 0 then 203 else if q = 1 then 204 else if q = 2 then 205 else if q < 10 then q + 4 else if q = 10 then 206 else if q < 18 then q - 11 else if q = 18 then 207 else if q = 19 then 208 else if q < 188 then q + 15 else if q = 188 then 209 else if q = 189 then 210 else if q < 197 then q - 176 else if q = 197 then 211 else if q = 204 then 218 else if q < 232 then q + 14 else if q < 246 then q - 211 else q
theorem pinv_perm : ∀ i, i < 259 → pinv (perm i) = i := by decide +kernel
theorem perm_lt : ∀ i, i < 259 → perm i < 259 := by decide +kernel
def gS (D : va_G) (cy : Nat → ClassId) (z tS tM : Nat) : Gx := (D, cy, fun i => if i = 260 then tS else if i = 261 then tM else z + perm i)
def h0 : Hp := fun i j => if 230 ≤ i ∧ i % 2 = 0 ∧ j = 1 then 1 else 0
def k0 : Hp := fun i => if i = 247 then upd (upd (upd (upd (upd (upd (upd (upd (fun _ => 0) 0 (-1)) 1 (-1)) 2 (-1)) 3 (-1)) 4 (-1)) 5 (-1)) 6 (-1)) 7 (-1) else fun _ => 0
def cAll (g : Gx) (z i : Nat) : va_E := if i < 246 then cFog g z i else cMod g (z + 246) (i - 246)
theorem arrV_ext {c : ClassId} {n : Nat} {f f1 : Nat → Value} (h : ∀ j, j < n → f j = f1 j) : arrV c n f = arrV c n f1 := by
  unfold arrV
  congr 1
  congr 1
  funext j
  exact h j.val j.isLt
theorem rf_same {D : va_G} {q n k : Nat} {c : ClassId} {f f1 : Nat → Nat} {H : Heap} (hk : n ≤ k) (hf : ∀ j, j < n → f j = f1 j) (h : va_at D vwCl (q, rfP c n k f) H) : va_at D vwCl (q, rfA c n f1) H := by
  show H[q]? = some (vp_cell _ _)
  have h1 : H[q]? = some (vp_cell _ _) := h
  rw [h1, vp_cell_q, vp_cell_q]
  congr 1
  apply arrV_ext
  intro j hj
  simp [show j < k by omega, hf j hj]
theorem zI_eq {g : Gx} {h : Hp} {i n : Nat} (hn : lenC i = n) (hz : h i = fun _ => 0) : zI g n = .inl (g.2.1 0, lenC i, .inl (h i)) := by rw [hz, hn]; rfl
set_option maxRecDepth 100000 in
theorem fin_0 (D : va_G) (cy : Nat → ClassId) (z tS tM : Nat) : cAll (gS D cy z tS tM) z 11 = cW (gS D cy z tS tM) h0 k0 0 ∧ cAll (gS D cy z tS tM) z 12 = cW (gS D cy z tS tM) h0 k0 1 ∧ cAll (gS D cy z tS tM) z 13 = cW (gS D cy z tS tM) h0 k0 2 ∧ cAll (gS D cy z tS tM) z 14 = cW (gS D cy z tS tM) h0 k0 3 ∧ cAll (gS D cy z tS tM) z 15 = cW (gS D cy z tS tM) h0 k0 4 ∧ cAll (gS D cy z tS tM) z 16 = cW (gS D cy z tS tM) h0 k0 5 ∧ cAll (gS D cy z tS tM) z 17 = cW (gS D cy z tS tM) h0 k0 6 ∧ cAll (gS D cy z tS tM) z 3 = cW (gS D cy z tS tM) h0 k0 7 ∧ cAll (gS D cy z tS tM) z 4 = cW (gS D cy z tS tM) h0 k0 8 ∧ cAll (gS D cy z tS tM) z 5 = cW (gS D cy z tS tM) h0 k0 9 ∧ cAll (gS D cy z tS tM) z 6 = cW (gS D cy z tS tM) h0 k0 10 ∧ cAll (gS D cy z tS tM) z 7 = cW (gS D cy z tS tM) h0 k0 11 ∧ cAll (gS D cy z tS tM) z 8 = cW (gS D cy z tS tM) h0 k0 12 ∧ cAll (gS D cy z tS tM) z 9 = cW (gS D cy z tS tM) h0 k0 13 ∧ cAll (gS D cy z tS tM) z 190 = cW (gS D cy z tS tM) h0 k0 14 ∧ cAll (gS D cy z tS tM) z 191 = cW (gS D cy z tS tM) h0 k0 15 ∧ cAll (gS D cy z tS tM) z 192 = cW (gS D cy z tS tM) h0 k0 16 ∧ cAll (gS D cy z tS tM) z 193 = cW (gS D cy z tS tM) h0 k0 17 ∧ cAll (gS D cy z tS tM) z 194 = cW (gS D cy z tS tM) h0 k0 18 ∧ cAll (gS D cy z tS tM) z 195 = cW (gS D cy z tS tM) h0 k0 19 ∧ cAll (gS D cy z tS tM) z 196 = cW (gS D cy z tS tM) h0 k0 20 ∧ cAll (gS D cy z tS tM) z 232 = cW (gS D cy z tS tM) h0 k0 21 ∧ cAll (gS D cy z tS tM) z 233 = cW (gS D cy z tS tM) h0 k0 22 ∧ cAll (gS D cy z tS tM) z 234 = cW (gS D cy z tS tM) h0 k0 23 ∧ cAll (gS D cy z tS tM) z 235 = cW (gS D cy z tS tM) h0 k0 24 ∧ cAll (gS D cy z tS tM) z 236 = cW (gS D cy z tS tM) h0 k0 25 ∧ cAll (gS D cy z tS tM) z 237 = cW (gS D cy z tS tM) h0 k0 26 ∧ cAll (gS D cy z tS tM) z 238 = cW (gS D cy z tS tM) h0 k0 27 ∧ cAll (gS D cy z tS tM) z 239 = cW (gS D cy z tS tM) h0 k0 28 ∧ cAll (gS D cy z tS tM) z 240 = cW (gS D cy z tS tM) h0 k0 29 ∧ cAll (gS D cy z tS tM) z 241 = cW (gS D cy z tS tM) h0 k0 30 ∧ cAll (gS D cy z tS tM) z 242 = cW (gS D cy z tS tM) h0 k0 31 ∧ cAll (gS D cy z tS tM) z 243 = cW (gS D cy z tS tM) h0 k0 32 ∧ cAll (gS D cy z tS tM) z 244 = cW (gS D cy z tS tM) h0 k0 33 ∧ cAll (gS D cy z tS tM) z 245 = cW (gS D cy z tS tM) h0 k0 34 ∧ cAll (gS D cy z tS tM) z 20 = cW (gS D cy z tS tM) h0 k0 35 ∧ cAll (gS D cy z tS tM) z 21 = cW (gS D cy z tS tM) h0 k0 36 ∧ cAll (gS D cy z tS tM) z 22 = cW (gS D cy z tS tM) h0 k0 37 ∧ cAll (gS D cy z tS tM) z 23 = cW (gS D cy z tS tM) h0 k0 38 ∧ cAll (gS D cy z tS tM) z 24 = cW (gS D cy z tS tM) h0 k0 39 ∧ cAll (gS D cy z tS tM) z 25 = cW (gS D cy z tS tM) h0 k0 40 ∧ cAll (gS D cy z tS tM) z 26 = cW (gS D cy z tS tM) h0 k0 41 ∧ cAll (gS D cy z tS tM) z 27 = cW (gS D cy z tS tM) h0 k0 42 ∧ cAll (gS D cy z tS tM) z 28 = cW (gS D cy z tS tM) h0 k0 43 ∧ cAll (gS D cy z tS tM) z 29 = cW (gS D cy z tS tM) h0 k0 44 ∧ cAll (gS D cy z tS tM) z 30 = cW (gS D cy z tS tM) h0 k0 45 ∧ cAll (gS D cy z tS tM) z 31 = cW (gS D cy z tS tM) h0 k0 46 ∧ cAll (gS D cy z tS tM) z 32 = cW (gS D cy z tS tM) h0 k0 47 ∧ cAll (gS D cy z tS tM) z 33 = cW (gS D cy z tS tM) h0 k0 48 ∧ cAll (gS D cy z tS tM) z 34 = cW (gS D cy z tS tM) h0 k0 49 := ⟨rfl, rfl, rfl, rfl, rfl, rfl, rfl, rfl, rfl, rfl, rfl, rfl, rfl, rfl, rfl, rfl, rfl, rfl, rfl, rfl, rfl, rfl, rfl, rfl, rfl, rfl, rfl, rfl, rfl, rfl, rfl, rfl, rfl, rfl, rfl, rfl, rfl, rfl, rfl, rfl, rfl, rfl, rfl, rfl, rfl, rfl, rfl, rfl, rfl, rfl⟩
set_option maxRecDepth 100000 in
theorem fin_1 (D : va_G) (cy : Nat → ClassId) (z tS tM : Nat) : cAll (gS D cy z tS tM) z 35 = cW (gS D cy z tS tM) h0 k0 50 ∧ cAll (gS D cy z tS tM) z 36 = cW (gS D cy z tS tM) h0 k0 51 ∧ cAll (gS D cy z tS tM) z 37 = cW (gS D cy z tS tM) h0 k0 52 ∧ cAll (gS D cy z tS tM) z 38 = cW (gS D cy z tS tM) h0 k0 53 ∧ cAll (gS D cy z tS tM) z 39 = cW (gS D cy z tS tM) h0 k0 54 ∧ cAll (gS D cy z tS tM) z 40 = cW (gS D cy z tS tM) h0 k0 55 ∧ cAll (gS D cy z tS tM) z 41 = cW (gS D cy z tS tM) h0 k0 56 ∧ cAll (gS D cy z tS tM) z 42 = cW (gS D cy z tS tM) h0 k0 57 ∧ cAll (gS D cy z tS tM) z 43 = cW (gS D cy z tS tM) h0 k0 58 ∧ cAll (gS D cy z tS tM) z 44 = cW (gS D cy z tS tM) h0 k0 59 ∧ cAll (gS D cy z tS tM) z 45 = cW (gS D cy z tS tM) h0 k0 60 ∧ cAll (gS D cy z tS tM) z 46 = cW (gS D cy z tS tM) h0 k0 61 ∧ cAll (gS D cy z tS tM) z 47 = cW (gS D cy z tS tM) h0 k0 62 ∧ cAll (gS D cy z tS tM) z 48 = cW (gS D cy z tS tM) h0 k0 63 ∧ cAll (gS D cy z tS tM) z 49 = cW (gS D cy z tS tM) h0 k0 64 ∧ cAll (gS D cy z tS tM) z 50 = cW (gS D cy z tS tM) h0 k0 65 ∧ cAll (gS D cy z tS tM) z 51 = cW (gS D cy z tS tM) h0 k0 66 ∧ cAll (gS D cy z tS tM) z 52 = cW (gS D cy z tS tM) h0 k0 67 ∧ cAll (gS D cy z tS tM) z 53 = cW (gS D cy z tS tM) h0 k0 68 ∧ cAll (gS D cy z tS tM) z 54 = cW (gS D cy z tS tM) h0 k0 69 ∧ cAll (gS D cy z tS tM) z 55 = cW (gS D cy z tS tM) h0 k0 70 ∧ cAll (gS D cy z tS tM) z 56 = cW (gS D cy z tS tM) h0 k0 71 ∧ cAll (gS D cy z tS tM) z 57 = cW (gS D cy z tS tM) h0 k0 72 ∧ cAll (gS D cy z tS tM) z 58 = cW (gS D cy z tS tM) h0 k0 73 ∧ cAll (gS D cy z tS tM) z 59 = cW (gS D cy z tS tM) h0 k0 74 ∧ cAll (gS D cy z tS tM) z 60 = cW (gS D cy z tS tM) h0 k0 75 ∧ cAll (gS D cy z tS tM) z 61 = cW (gS D cy z tS tM) h0 k0 76 ∧ cAll (gS D cy z tS tM) z 62 = cW (gS D cy z tS tM) h0 k0 77 ∧ cAll (gS D cy z tS tM) z 63 = cW (gS D cy z tS tM) h0 k0 78 ∧ cAll (gS D cy z tS tM) z 64 = cW (gS D cy z tS tM) h0 k0 79 ∧ cAll (gS D cy z tS tM) z 65 = cW (gS D cy z tS tM) h0 k0 80 ∧ cAll (gS D cy z tS tM) z 66 = cW (gS D cy z tS tM) h0 k0 81 ∧ cAll (gS D cy z tS tM) z 67 = cW (gS D cy z tS tM) h0 k0 82 ∧ cAll (gS D cy z tS tM) z 68 = cW (gS D cy z tS tM) h0 k0 83 ∧ cAll (gS D cy z tS tM) z 69 = cW (gS D cy z tS tM) h0 k0 84 ∧ cAll (gS D cy z tS tM) z 70 = cW (gS D cy z tS tM) h0 k0 85 ∧ cAll (gS D cy z tS tM) z 71 = cW (gS D cy z tS tM) h0 k0 86 ∧ cAll (gS D cy z tS tM) z 72 = cW (gS D cy z tS tM) h0 k0 87 ∧ cAll (gS D cy z tS tM) z 73 = cW (gS D cy z tS tM) h0 k0 88 ∧ cAll (gS D cy z tS tM) z 74 = cW (gS D cy z tS tM) h0 k0 89 ∧ cAll (gS D cy z tS tM) z 75 = cW (gS D cy z tS tM) h0 k0 90 ∧ cAll (gS D cy z tS tM) z 76 = cW (gS D cy z tS tM) h0 k0 91 ∧ cAll (gS D cy z tS tM) z 77 = cW (gS D cy z tS tM) h0 k0 92 ∧ cAll (gS D cy z tS tM) z 78 = cW (gS D cy z tS tM) h0 k0 93 ∧ cAll (gS D cy z tS tM) z 79 = cW (gS D cy z tS tM) h0 k0 94 ∧ cAll (gS D cy z tS tM) z 80 = cW (gS D cy z tS tM) h0 k0 95 ∧ cAll (gS D cy z tS tM) z 81 = cW (gS D cy z tS tM) h0 k0 96 ∧ cAll (gS D cy z tS tM) z 82 = cW (gS D cy z tS tM) h0 k0 97 ∧ cAll (gS D cy z tS tM) z 83 = cW (gS D cy z tS tM) h0 k0 98 ∧ cAll (gS D cy z tS tM) z 84 = cW (gS D cy z tS tM) h0 k0 99 := ⟨rfl, rfl, rfl, rfl, rfl, rfl, rfl, rfl, rfl, rfl, rfl, rfl, rfl, rfl, rfl, rfl, rfl, rfl, rfl, rfl, rfl, rfl, rfl, rfl, rfl, rfl, rfl, rfl, rfl, rfl, rfl, rfl, rfl, rfl, rfl, rfl, rfl, rfl, rfl, rfl, rfl, rfl, rfl, rfl, rfl, rfl, rfl, rfl, rfl, rfl⟩
set_option maxRecDepth 100000 in
theorem fin_2 (D : va_G) (cy : Nat → ClassId) (z tS tM : Nat) : cAll (gS D cy z tS tM) z 85 = cW (gS D cy z tS tM) h0 k0 100 ∧ cAll (gS D cy z tS tM) z 86 = cW (gS D cy z tS tM) h0 k0 101 ∧ cAll (gS D cy z tS tM) z 87 = cW (gS D cy z tS tM) h0 k0 102 ∧ cAll (gS D cy z tS tM) z 88 = cW (gS D cy z tS tM) h0 k0 103 ∧ cAll (gS D cy z tS tM) z 89 = cW (gS D cy z tS tM) h0 k0 104 ∧ cAll (gS D cy z tS tM) z 90 = cW (gS D cy z tS tM) h0 k0 105 ∧ cAll (gS D cy z tS tM) z 91 = cW (gS D cy z tS tM) h0 k0 106 ∧ cAll (gS D cy z tS tM) z 92 = cW (gS D cy z tS tM) h0 k0 107 ∧ cAll (gS D cy z tS tM) z 93 = cW (gS D cy z tS tM) h0 k0 108 ∧ cAll (gS D cy z tS tM) z 94 = cW (gS D cy z tS tM) h0 k0 109 ∧ cAll (gS D cy z tS tM) z 95 = cW (gS D cy z tS tM) h0 k0 110 ∧ cAll (gS D cy z tS tM) z 96 = cW (gS D cy z tS tM) h0 k0 111 ∧ cAll (gS D cy z tS tM) z 97 = cW (gS D cy z tS tM) h0 k0 112 ∧ cAll (gS D cy z tS tM) z 98 = cW (gS D cy z tS tM) h0 k0 113 ∧ cAll (gS D cy z tS tM) z 99 = cW (gS D cy z tS tM) h0 k0 114 ∧ cAll (gS D cy z tS tM) z 100 = cW (gS D cy z tS tM) h0 k0 115 ∧ cAll (gS D cy z tS tM) z 101 = cW (gS D cy z tS tM) h0 k0 116 ∧ cAll (gS D cy z tS tM) z 102 = cW (gS D cy z tS tM) h0 k0 117 ∧ cAll (gS D cy z tS tM) z 103 = cW (gS D cy z tS tM) h0 k0 118 ∧ cAll (gS D cy z tS tM) z 104 = cW (gS D cy z tS tM) h0 k0 119 ∧ cAll (gS D cy z tS tM) z 105 = cW (gS D cy z tS tM) h0 k0 120 ∧ cAll (gS D cy z tS tM) z 106 = cW (gS D cy z tS tM) h0 k0 121 ∧ cAll (gS D cy z tS tM) z 107 = cW (gS D cy z tS tM) h0 k0 122 ∧ cAll (gS D cy z tS tM) z 108 = cW (gS D cy z tS tM) h0 k0 123 ∧ cAll (gS D cy z tS tM) z 109 = cW (gS D cy z tS tM) h0 k0 124 ∧ cAll (gS D cy z tS tM) z 110 = cW (gS D cy z tS tM) h0 k0 125 ∧ cAll (gS D cy z tS tM) z 111 = cW (gS D cy z tS tM) h0 k0 126 ∧ cAll (gS D cy z tS tM) z 112 = cW (gS D cy z tS tM) h0 k0 127 ∧ cAll (gS D cy z tS tM) z 113 = cW (gS D cy z tS tM) h0 k0 128 ∧ cAll (gS D cy z tS tM) z 114 = cW (gS D cy z tS tM) h0 k0 129 ∧ cAll (gS D cy z tS tM) z 115 = cW (gS D cy z tS tM) h0 k0 130 ∧ cAll (gS D cy z tS tM) z 116 = cW (gS D cy z tS tM) h0 k0 131 ∧ cAll (gS D cy z tS tM) z 117 = cW (gS D cy z tS tM) h0 k0 132 ∧ cAll (gS D cy z tS tM) z 118 = cW (gS D cy z tS tM) h0 k0 133 ∧ cAll (gS D cy z tS tM) z 119 = cW (gS D cy z tS tM) h0 k0 134 ∧ cAll (gS D cy z tS tM) z 120 = cW (gS D cy z tS tM) h0 k0 135 ∧ cAll (gS D cy z tS tM) z 121 = cW (gS D cy z tS tM) h0 k0 136 ∧ cAll (gS D cy z tS tM) z 122 = cW (gS D cy z tS tM) h0 k0 137 ∧ cAll (gS D cy z tS tM) z 123 = cW (gS D cy z tS tM) h0 k0 138 ∧ cAll (gS D cy z tS tM) z 124 = cW (gS D cy z tS tM) h0 k0 139 ∧ cAll (gS D cy z tS tM) z 125 = cW (gS D cy z tS tM) h0 k0 140 ∧ cAll (gS D cy z tS tM) z 126 = cW (gS D cy z tS tM) h0 k0 141 ∧ cAll (gS D cy z tS tM) z 127 = cW (gS D cy z tS tM) h0 k0 142 ∧ cAll (gS D cy z tS tM) z 128 = cW (gS D cy z tS tM) h0 k0 143 ∧ cAll (gS D cy z tS tM) z 129 = cW (gS D cy z tS tM) h0 k0 144 ∧ cAll (gS D cy z tS tM) z 130 = cW (gS D cy z tS tM) h0 k0 145 ∧ cAll (gS D cy z tS tM) z 131 = cW (gS D cy z tS tM) h0 k0 146 ∧ cAll (gS D cy z tS tM) z 132 = cW (gS D cy z tS tM) h0 k0 147 ∧ cAll (gS D cy z tS tM) z 133 = cW (gS D cy z tS tM) h0 k0 148 ∧ cAll (gS D cy z tS tM) z 134 = cW (gS D cy z tS tM) h0 k0 149 := ⟨rfl, rfl, rfl, rfl, rfl, rfl, rfl, rfl, rfl, rfl, rfl, rfl, rfl, rfl, rfl, rfl, rfl, rfl, rfl, rfl, rfl, rfl, rfl, rfl, rfl, rfl, rfl, rfl, rfl, rfl, rfl, rfl, rfl, rfl, rfl, rfl, rfl, rfl, rfl, rfl, rfl, rfl, rfl, rfl, rfl, rfl, rfl, rfl, rfl, rfl⟩
set_option maxRecDepth 100000 in
theorem fin_3 (D : va_G) (cy : Nat → ClassId) (z tS tM : Nat) : cAll (gS D cy z tS tM) z 135 = cW (gS D cy z tS tM) h0 k0 150 ∧ cAll (gS D cy z tS tM) z 136 = cW (gS D cy z tS tM) h0 k0 151 ∧ cAll (gS D cy z tS tM) z 137 = cW (gS D cy z tS tM) h0 k0 152 ∧ cAll (gS D cy z tS tM) z 138 = cW (gS D cy z tS tM) h0 k0 153 ∧ cAll (gS D cy z tS tM) z 139 = cW (gS D cy z tS tM) h0 k0 154 ∧ cAll (gS D cy z tS tM) z 140 = cW (gS D cy z tS tM) h0 k0 155 ∧ cAll (gS D cy z tS tM) z 141 = cW (gS D cy z tS tM) h0 k0 156 ∧ cAll (gS D cy z tS tM) z 142 = cW (gS D cy z tS tM) h0 k0 157 ∧ cAll (gS D cy z tS tM) z 143 = cW (gS D cy z tS tM) h0 k0 158 ∧ cAll (gS D cy z tS tM) z 144 = cW (gS D cy z tS tM) h0 k0 159 ∧ cAll (gS D cy z tS tM) z 145 = cW (gS D cy z tS tM) h0 k0 160 ∧ cAll (gS D cy z tS tM) z 146 = cW (gS D cy z tS tM) h0 k0 161 ∧ cAll (gS D cy z tS tM) z 147 = cW (gS D cy z tS tM) h0 k0 162 ∧ cAll (gS D cy z tS tM) z 148 = cW (gS D cy z tS tM) h0 k0 163 ∧ cAll (gS D cy z tS tM) z 149 = cW (gS D cy z tS tM) h0 k0 164 ∧ cAll (gS D cy z tS tM) z 150 = cW (gS D cy z tS tM) h0 k0 165 ∧ cAll (gS D cy z tS tM) z 151 = cW (gS D cy z tS tM) h0 k0 166 ∧ cAll (gS D cy z tS tM) z 152 = cW (gS D cy z tS tM) h0 k0 167 ∧ cAll (gS D cy z tS tM) z 153 = cW (gS D cy z tS tM) h0 k0 168 ∧ cAll (gS D cy z tS tM) z 154 = cW (gS D cy z tS tM) h0 k0 169 ∧ cAll (gS D cy z tS tM) z 155 = cW (gS D cy z tS tM) h0 k0 170 ∧ cAll (gS D cy z tS tM) z 156 = cW (gS D cy z tS tM) h0 k0 171 ∧ cAll (gS D cy z tS tM) z 157 = cW (gS D cy z tS tM) h0 k0 172 ∧ cAll (gS D cy z tS tM) z 158 = cW (gS D cy z tS tM) h0 k0 173 ∧ cAll (gS D cy z tS tM) z 159 = cW (gS D cy z tS tM) h0 k0 174 ∧ cAll (gS D cy z tS tM) z 160 = cW (gS D cy z tS tM) h0 k0 175 ∧ cAll (gS D cy z tS tM) z 161 = cW (gS D cy z tS tM) h0 k0 176 ∧ cAll (gS D cy z tS tM) z 162 = cW (gS D cy z tS tM) h0 k0 177 ∧ cAll (gS D cy z tS tM) z 163 = cW (gS D cy z tS tM) h0 k0 178 ∧ cAll (gS D cy z tS tM) z 164 = cW (gS D cy z tS tM) h0 k0 179 ∧ cAll (gS D cy z tS tM) z 165 = cW (gS D cy z tS tM) h0 k0 180 ∧ cAll (gS D cy z tS tM) z 166 = cW (gS D cy z tS tM) h0 k0 181 ∧ cAll (gS D cy z tS tM) z 167 = cW (gS D cy z tS tM) h0 k0 182 ∧ cAll (gS D cy z tS tM) z 168 = cW (gS D cy z tS tM) h0 k0 183 ∧ cAll (gS D cy z tS tM) z 169 = cW (gS D cy z tS tM) h0 k0 184 ∧ cAll (gS D cy z tS tM) z 170 = cW (gS D cy z tS tM) h0 k0 185 ∧ cAll (gS D cy z tS tM) z 171 = cW (gS D cy z tS tM) h0 k0 186 ∧ cAll (gS D cy z tS tM) z 172 = cW (gS D cy z tS tM) h0 k0 187 ∧ cAll (gS D cy z tS tM) z 173 = cW (gS D cy z tS tM) h0 k0 188 ∧ cAll (gS D cy z tS tM) z 174 = cW (gS D cy z tS tM) h0 k0 189 ∧ cAll (gS D cy z tS tM) z 175 = cW (gS D cy z tS tM) h0 k0 190 ∧ cAll (gS D cy z tS tM) z 176 = cW (gS D cy z tS tM) h0 k0 191 ∧ cAll (gS D cy z tS tM) z 177 = cW (gS D cy z tS tM) h0 k0 192 ∧ cAll (gS D cy z tS tM) z 178 = cW (gS D cy z tS tM) h0 k0 193 ∧ cAll (gS D cy z tS tM) z 179 = cW (gS D cy z tS tM) h0 k0 194 ∧ cAll (gS D cy z tS tM) z 180 = cW (gS D cy z tS tM) h0 k0 195 ∧ cAll (gS D cy z tS tM) z 181 = cW (gS D cy z tS tM) h0 k0 196 ∧ cAll (gS D cy z tS tM) z 182 = cW (gS D cy z tS tM) h0 k0 197 ∧ cAll (gS D cy z tS tM) z 183 = cW (gS D cy z tS tM) h0 k0 198 ∧ cAll (gS D cy z tS tM) z 184 = cW (gS D cy z tS tM) h0 k0 199 := ⟨rfl, rfl, rfl, rfl, rfl, rfl, rfl, rfl, rfl, rfl, rfl, rfl, rfl, rfl, rfl, rfl, rfl, rfl, rfl, rfl, rfl, rfl, rfl, rfl, rfl, rfl, rfl, rfl, rfl, rfl, rfl, rfl, rfl, rfl, rfl, rfl, rfl, rfl, rfl, rfl, rfl, rfl, rfl, rfl, rfl, rfl, rfl, rfl, rfl, rfl⟩
set_option maxRecDepth 100000 in
theorem fin_4 (D : va_G) (cy : Nat → ClassId) (z tS tM : Nat) : cAll (gS D cy z tS tM) z 185 = cW (gS D cy z tS tM) h0 k0 200 ∧ cAll (gS D cy z tS tM) z 186 = cW (gS D cy z tS tM) h0 k0 201 ∧ cAll (gS D cy z tS tM) z 187 = cW (gS D cy z tS tM) h0 k0 202 ∧ cAll (gS D cy z tS tM) z 0 = cW (gS D cy z tS tM) h0 k0 203 ∧ cAll (gS D cy z tS tM) z 2 = cW (gS D cy z tS tM) h0 k0 205 ∧ cAll (gS D cy z tS tM) z 10 = cW (gS D cy z tS tM) h0 k0 206 ∧ cAll (gS D cy z tS tM) z 18 = cW (gS D cy z tS tM) h0 k0 207 ∧ cAll (gS D cy z tS tM) z 189 = cW (gS D cy z tS tM) h0 k0 210 ∧ cAll (gS D cy z tS tM) z 198 = cW (gS D cy z tS tM) h0 k0 212 ∧ cAll (gS D cy z tS tM) z 199 = cW (gS D cy z tS tM) h0 k0 213 ∧ cAll (gS D cy z tS tM) z 200 = cW (gS D cy z tS tM) h0 k0 214 ∧ cAll (gS D cy z tS tM) z 201 = cW (gS D cy z tS tM) h0 k0 215 ∧ cAll (gS D cy z tS tM) z 202 = cW (gS D cy z tS tM) h0 k0 216 ∧ cAll (gS D cy z tS tM) z 203 = cW (gS D cy z tS tM) h0 k0 217 ∧ cAll (gS D cy z tS tM) z 205 = cW (gS D cy z tS tM) h0 k0 219 ∧ cAll (gS D cy z tS tM) z 206 = cW (gS D cy z tS tM) h0 k0 220 ∧ cAll (gS D cy z tS tM) z 207 = cW (gS D cy z tS tM) h0 k0 221 ∧ cAll (gS D cy z tS tM) z 208 = cW (gS D cy z tS tM) h0 k0 222 ∧ cAll (gS D cy z tS tM) z 209 = cW (gS D cy z tS tM) h0 k0 223 ∧ cAll (gS D cy z tS tM) z 210 = cW (gS D cy z tS tM) h0 k0 224 ∧ cAll (gS D cy z tS tM) z 211 = cW (gS D cy z tS tM) h0 k0 225 ∧ cAll (gS D cy z tS tM) z 212 = cW (gS D cy z tS tM) h0 k0 226 ∧ cAll (gS D cy z tS tM) z 213 = cW (gS D cy z tS tM) h0 k0 227 ∧ cAll (gS D cy z tS tM) z 214 = cW (gS D cy z tS tM) h0 k0 228 ∧ cAll (gS D cy z tS tM) z 215 = cW (gS D cy z tS tM) h0 k0 229 ∧ cAll (gS D cy z tS tM) z 216 = cW (gS D cy z tS tM) h0 k0 230 ∧ cAll (gS D cy z tS tM) z 217 = cW (gS D cy z tS tM) h0 k0 231 ∧ cAll (gS D cy z tS tM) z 218 = cW (gS D cy z tS tM) h0 k0 232 ∧ cAll (gS D cy z tS tM) z 219 = cW (gS D cy z tS tM) h0 k0 233 ∧ cAll (gS D cy z tS tM) z 220 = cW (gS D cy z tS tM) h0 k0 234 ∧ cAll (gS D cy z tS tM) z 221 = cW (gS D cy z tS tM) h0 k0 235 ∧ cAll (gS D cy z tS tM) z 222 = cW (gS D cy z tS tM) h0 k0 236 ∧ cAll (gS D cy z tS tM) z 223 = cW (gS D cy z tS tM) h0 k0 237 ∧ cAll (gS D cy z tS tM) z 224 = cW (gS D cy z tS tM) h0 k0 238 ∧ cAll (gS D cy z tS tM) z 225 = cW (gS D cy z tS tM) h0 k0 239 ∧ cAll (gS D cy z tS tM) z 226 = cW (gS D cy z tS tM) h0 k0 240 ∧ cAll (gS D cy z tS tM) z 227 = cW (gS D cy z tS tM) h0 k0 241 ∧ cAll (gS D cy z tS tM) z 228 = cW (gS D cy z tS tM) h0 k0 242 ∧ cAll (gS D cy z tS tM) z 229 = cW (gS D cy z tS tM) h0 k0 243 ∧ cAll (gS D cy z tS tM) z 230 = cW (gS D cy z tS tM) h0 k0 244 ∧ cAll (gS D cy z tS tM) z 231 = cW (gS D cy z tS tM) h0 k0 245 ∧ cAll (gS D cy z tS tM) z 246 = cW (gS D cy z tS tM) h0 k0 246 ∧ cAll (gS D cy z tS tM) z 247 = cW (gS D cy z tS tM) h0 k0 247 ∧ cAll (gS D cy z tS tM) z 248 = cW (gS D cy z tS tM) h0 k0 248 ∧ cAll (gS D cy z tS tM) z 249 = cW (gS D cy z tS tM) h0 k0 249 ∧ cAll (gS D cy z tS tM) z 250 = cW (gS D cy z tS tM) h0 k0 250 ∧ cAll (gS D cy z tS tM) z 251 = cW (gS D cy z tS tM) h0 k0 251 ∧ cAll (gS D cy z tS tM) z 252 = cW (gS D cy z tS tM) h0 k0 252 ∧ cAll (gS D cy z tS tM) z 253 = cW (gS D cy z tS tM) h0 k0 253 ∧ cAll (gS D cy z tS tM) z 254 = cW (gS D cy z tS tM) h0 k0 254 := ⟨rfl, rfl, rfl, rfl, rfl, rfl, rfl, rfl, rfl, rfl, rfl, rfl, rfl, rfl, rfl, rfl, rfl, rfl, rfl, rfl, rfl, rfl, rfl, rfl, rfl, rfl, rfl, rfl, rfl, rfl, rfl, rfl, rfl, rfl, rfl, rfl, rfl, rfl, rfl, rfl, rfl, rfl, rfl, rfl, rfl, rfl, rfl, rfl, rfl, rfl⟩
set_option maxRecDepth 100000 in
theorem fin_5 (D : va_G) (cy : Nat → ClassId) (z tS tM : Nat) : cAll (gS D cy z tS tM) z 255 = cW (gS D cy z tS tM) h0 k0 255 ∧ cAll (gS D cy z tS tM) z 256 = cW (gS D cy z tS tM) h0 k0 256 ∧ cAll (gS D cy z tS tM) z 257 = cW (gS D cy z tS tM) h0 k0 257 ∧ cAll (gS D cy z tS tM) z 258 = cW (gS D cy z tS tM) h0 k0 258 := ⟨rfl, rfl, rfl, rfl⟩
theorem sp_j {D : va_G} {cy : Nat → ClassId} {z tS tM a b c : Nat} (h : ∀ j, j < c → a + b * j < 259 ∧ perm (a + b * j) = perm a + b * j) : ∀ j, j < c → z + perm a + b * j = (gS D cy z tS tM).2.2 (a + b * j) := by
  intro j hj
  obtain ⟨h1, h2⟩ := h j hj
  show _ = if a + b * j = 260 then tS else if a + b * j = 261 then tM else z + perm (a + b * j)
  rw [if_neg (by omega), if_neg (by omega), h2]
  omega
set_option maxRecDepth 100000 in
theorem fin_all {D : va_G} {cy : Nat → ClassId} {z tS tM : Nat} {H : Heap} (hL : Ly D z 259 (cAll (gS D cy z tS tM) z) H) : va_P D vwCl (WW (gS D cy z tS tM) h0 k0) H := by
  intro k q hq
  have hk : k < 259 := by
    have := (List.getElem?_eq_some_iff.mp hq).1
    simpa [WW] using this
  rw [WW_get hk rfl] at hq
  cases hq
  have ha : (gS D cy z tS tM).2.2 k = z + perm k := by
    show (if k = 260 then tS else if k = 261 then tM else z + perm k) = _
    rw [if_neg (by omega), if_neg (by omega)]
  rw [ha]
  have h1 := hL.at (perm_lt k hk)
  have key : cAll (gS D cy z tS tM) z (perm k) = cW (gS D cy z tS tM) h0 k0 k → va_at D vwCl (z + perm k, cW (gS D cy z tS tM) h0 k0 k) H := fun e1 => by rw [← e1]; exact h1
  match k, hk, h1, key with
  | 0, _, _, key => exact key (fin_0 D cy z tS tM).1
  | 1, _, _, key => exact key (fin_0 D cy z tS tM).2.1
  | 2, _, _, key => exact key (fin_0 D cy z tS tM).2.2.1
  | 3, _, _, key => exact key (fin_0 D cy z tS tM).2.2.2.1
  | 4, _, _, key => exact key (fin_0 D cy z tS tM).2.2.2.2.1
  | 5, _, _, key => exact key (fin_0 D cy z tS tM).2.2.2.2.2.1
  | 6, _, _, key => exact key (fin_0 D cy z tS tM).2.2.2.2.2.2.1
  | 7, _, _, key => exact key (fin_0 D cy z tS tM).2.2.2.2.2.2.2.1
  | 8, _, _, key => exact key (fin_0 D cy z tS tM).2.2.2.2.2.2.2.2.1
  | 9, _, _, key => exact key (fin_0 D cy z tS tM).2.2.2.2.2.2.2.2.2.1
  | 10, _, _, key => exact key (fin_0 D cy z tS tM).2.2.2.2.2.2.2.2.2.2.1
  | 11, _, _, key => exact key (fin_0 D cy z tS tM).2.2.2.2.2.2.2.2.2.2.2.1
  | 12, _, _, key => exact key (fin_0 D cy z tS tM).2.2.2.2.2.2.2.2.2.2.2.2.1
  | 13, _, _, key => exact key (fin_0 D cy z tS tM).2.2.2.2.2.2.2.2.2.2.2.2.2.1
  | 14, _, _, key => exact key (fin_0 D cy z tS tM).2.2.2.2.2.2.2.2.2.2.2.2.2.2.1
  | 15, _, _, key => exact key (fin_0 D cy z tS tM).2.2.2.2.2.2.2.2.2.2.2.2.2.2.2.1
  | 16, _, _, key => exact key (fin_0 D cy z tS tM).2.2.2.2.2.2.2.2.2.2.2.2.2.2.2.2.1
  | 17, _, _, key => exact key (fin_0 D cy z tS tM).2.2.2.2.2.2.2.2.2.2.2.2.2.2.2.2.2.1
  | 18, _, _, key => exact key (fin_0 D cy z tS tM).2.2.2.2.2.2.2.2.2.2.2.2.2.2.2.2.2.2.1
  | 19, _, _, key => exact key (fin_0 D cy z tS tM).2.2.2.2.2.2.2.2.2.2.2.2.2.2.2.2.2.2.2.1
  | 20, _, _, key => exact key (fin_0 D cy z tS tM).2.2.2.2.2.2.2.2.2.2.2.2.2.2.2.2.2.2.2.2.1
  | 21, _, _, key => exact key (fin_0 D cy z tS tM).2.2.2.2.2.2.2.2.2.2.2.2.2.2.2.2.2.2.2.2.2.1
  | 22, _, _, key => exact key (fin_0 D cy z tS tM).2.2.2.2.2.2.2.2.2.2.2.2.2.2.2.2.2.2.2.2.2.2.1
  | 23, _, _, key => exact key (fin_0 D cy z tS tM).2.2.2.2.2.2.2.2.2.2.2.2.2.2.2.2.2.2.2.2.2.2.2.1
  | 24, _, _, key => exact key (fin_0 D cy z tS tM).2.2.2.2.2.2.2.2.2.2.2.2.2.2.2.2.2.2.2.2.2.2.2.2.1
  | 25, _, _, key => exact key (fin_0 D cy z tS tM).2.2.2.2.2.2.2.2.2.2.2.2.2.2.2.2.2.2.2.2.2.2.2.2.2.1
  | 26, _, _, key => exact key (fin_0 D cy z tS tM).2.2.2.2.2.2.2.2.2.2.2.2.2.2.2.2.2.2.2.2.2.2.2.2.2.2.1
  | 27, _, _, key => exact key (fin_0 D cy z tS tM).2.2.2.2.2.2.2.2.2.2.2.2.2.2.2.2.2.2.2.2.2.2.2.2.2.2.2.1
  | 28, _, _, key => exact key (fin_0 D cy z tS tM).2.2.2.2.2.2.2.2.2.2.2.2.2.2.2.2.2.2.2.2.2.2.2.2.2.2.2.2.1
  | 29, _, _, key => exact key (fin_0 D cy z tS tM).2.2.2.2.2.2.2.2.2.2.2.2.2.2.2.2.2.2.2.2.2.2.2.2.2.2.2.2.2.1
  | 30, _, _, key => exact key (fin_0 D cy z tS tM).2.2.2.2.2.2.2.2.2.2.2.2.2.2.2.2.2.2.2.2.2.2.2.2.2.2.2.2.2.2.1
  | 31, _, _, key => exact key (fin_0 D cy z tS tM).2.2.2.2.2.2.2.2.2.2.2.2.2.2.2.2.2.2.2.2.2.2.2.2.2.2.2.2.2.2.2.1
  | 32, _, _, key => exact key (fin_0 D cy z tS tM).2.2.2.2.2.2.2.2.2.2.2.2.2.2.2.2.2.2.2.2.2.2.2.2.2.2.2.2.2.2.2.2.1
  | 33, _, _, key => exact key (fin_0 D cy z tS tM).2.2.2.2.2.2.2.2.2.2.2.2.2.2.2.2.2.2.2.2.2.2.2.2.2.2.2.2.2.2.2.2.2.1
  | 34, _, _, key => exact key (fin_0 D cy z tS tM).2.2.2.2.2.2.2.2.2.2.2.2.2.2.2.2.2.2.2.2.2.2.2.2.2.2.2.2.2.2.2.2.2.2.1
  | 35, _, _, key => exact key (fin_0 D cy z tS tM).2.2.2.2.2.2.2.2.2.2.2.2.2.2.2.2.2.2.2.2.2.2.2.2.2.2.2.2.2.2.2.2.2.2.2.1
  | 36, _, _, key => exact key (fin_0 D cy z tS tM).2.2.2.2.2.2.2.2.2.2.2.2.2.2.2.2.2.2.2.2.2.2.2.2.2.2.2.2.2.2.2.2.2.2.2.2.1
  | 37, _, _, key => exact key (fin_0 D cy z tS tM).2.2.2.2.2.2.2.2.2.2.2.2.2.2.2.2.2.2.2.2.2.2.2.2.2.2.2.2.2.2.2.2.2.2.2.2.2.1
  | 38, _, _, key => exact key (fin_0 D cy z tS tM).2.2.2.2.2.2.2.2.2.2.2.2.2.2.2.2.2.2.2.2.2.2.2.2.2.2.2.2.2.2.2.2.2.2.2.2.2.2.1
  | 39, _, _, key => exact key (fin_0 D cy z tS tM).2.2.2.2.2.2.2.2.2.2.2.2.2.2.2.2.2.2.2.2.2.2.2.2.2.2.2.2.2.2.2.2.2.2.2.2.2.2.2.1
  | 40, _, _, key => exact key (fin_0 D cy z tS tM).2.2.2.2.2.2.2.2.2.2.2.2.2.2.2.2.2.2.2.2.2.2.2.2.2.2.2.2.2.2.2.2.2.2.2.2.2.2.2.2.1
  | 41, _, _, key => exact key (fin_0 D cy z tS tM).2.2.2.2.2.2.2.2.2.2.2.2.2.2.2.2.2.2.2.2.2.2.2.2.2.2.2.2.2.2.2.2.2.2.2.2.2.2.2.2.2.1
  | 42, _, _, key => exact key (fin_0 D cy z tS tM).2.2.2.2.2.2.2.2.2.2.2.2.2.2.2.2.2.2.2.2.2.2.2.2.2.2.2.2.2.2.2.2.2.2.2.2.2.2.2.2.2.2.1
  | 43, _, _, key => exact key (fin_0 D cy z tS tM).2.2.2.2.2.2.2.2.2.2.2.2.2.2.2.2.2.2.2.2.2.2.2.2.2.2.2.2.2.2.2.2.2.2.2.2.2.2.2.2.2.2.2.1
  | 44, _, _, key => exact key (fin_0 D cy z tS tM).2.2.2.2.2.2.2.2.2.2.2.2.2.2.2.2.2.2.2.2.2.2.2.2.2.2.2.2.2.2.2.2.2.2.2.2.2.2.2.2.2.2.2.2.1
  | 45, _, _, key => exact key (fin_0 D cy z tS tM).2.2.2.2.2.2.2.2.2.2.2.2.2.2.2.2.2.2.2.2.2.2.2.2.2.2.2.2.2.2.2.2.2.2.2.2.2.2.2.2.2.2.2.2.2.1
  | 46, _, _, key => exact key (fin_0 D cy z tS tM).2.2.2.2.2.2.2.2.2.2.2.2.2.2.2.2.2.2.2.2.2.2.2.2.2.2.2.2.2.2.2.2.2.2.2.2.2.2.2.2.2.2.2.2.2.2.1
  | 47, _, _, key => exact key (fin_0 D cy z tS tM).2.2.2.2.2.2.2.2.2.2.2.2.2.2.2.2.2.2.2.2.2.2.2.2.2.2.2.2.2.2.2.2.2.2.2.2.2.2.2.2.2.2.2.2.2.2.2.1
  | 48, _, _, key => exact key (fin_0 D cy z tS tM).2.2.2.2.2.2.2.2.2.2.2.2.2.2.2.2.2.2.2.2.2.2.2.2.2.2.2.2.2.2.2.2.2.2.2.2.2.2.2.2.2.2.2.2.2.2.2.2.1
  | 49, _, _, key => exact key (fin_0 D cy z tS tM).2.2.2.2.2.2.2.2.2.2.2.2.2.2.2.2.2.2.2.2.2.2.2.2.2.2.2.2.2.2.2.2.2.2.2.2.2.2.2.2.2.2.2.2.2.2.2.2.2
  | 50, _, _, key => exact key (fin_1 D cy z tS tM).1
  | 51, _, _, key => exact key (fin_1 D cy z tS tM).2.1
  | 52, _, _, key => exact key (fin_1 D cy z tS tM).2.2.1
  | 53, _, _, key => exact key (fin_1 D cy z tS tM).2.2.2.1
  | 54, _, _, key => exact key (fin_1 D cy z tS tM).2.2.2.2.1
  | 55, _, _, key => exact key (fin_1 D cy z tS tM).2.2.2.2.2.1
  | 56, _, _, key => exact key (fin_1 D cy z tS tM).2.2.2.2.2.2.1
  | 57, _, _, key => exact key (fin_1 D cy z tS tM).2.2.2.2.2.2.2.1
  | 58, _, _, key => exact key (fin_1 D cy z tS tM).2.2.2.2.2.2.2.2.1
  | 59, _, _, key => exact key (fin_1 D cy z tS tM).2.2.2.2.2.2.2.2.2.1
  | 60, _, _, key => exact key (fin_1 D cy z tS tM).2.2.2.2.2.2.2.2.2.2.1
  | 61, _, _, key => exact key (fin_1 D cy z tS tM).2.2.2.2.2.2.2.2.2.2.2.1
  | 62, _, _, key => exact key (fin_1 D cy z tS tM).2.2.2.2.2.2.2.2.2.2.2.2.1
  | 63, _, _, key => exact key (fin_1 D cy z tS tM).2.2.2.2.2.2.2.2.2.2.2.2.2.1
  | 64, _, _, key => exact key (fin_1 D cy z tS tM).2.2.2.2.2.2.2.2.2.2.2.2.2.2.1
  | 65, _, _, key => exact key (fin_1 D cy z tS tM).2.2.2.2.2.2.2.2.2.2.2.2.2.2.2.1
  | 66, _, _, key => exact key (fin_1 D cy z tS tM).2.2.2.2.2.2.2.2.2.2.2.2.2.2.2.2.1
  | 67, _, _, key => exact key (fin_1 D cy z tS tM).2.2.2.2.2.2.2.2.2.2.2.2.2.2.2.2.2.1
  | 68, _, _, key => exact key (fin_1 D cy z tS tM).2.2.2.2.2.2.2.2.2.2.2.2.2.2.2.2.2.2.1
  | 69, _, _, key => exact key (fin_1 D cy z tS tM).2.2.2.2.2.2.2.2.2.2.2.2.2.2.2.2.2.2.2.1
  | 70, _, _, key => exact key (fin_1 D cy z tS tM).2.2.2.2.2.2.2.2.2.2.2.2.2.2.2.2.2.2.2.2.1
  | 71, _, _, key => exact key (fin_1 D cy z tS tM).2.2.2.2.2.2.2.2.2.2.2.2.2.2.2.2.2.2.2.2.2.1
  | 72, _, _, key => exact key (fin_1 D cy z tS tM).2.2.2.2.2.2.2.2.2.2.2.2.2.2.2.2.2.2.2.2.2.2.1
  | 73, _, _, key => exact key (fin_1 D cy z tS tM).2.2.2.2.2.2.2.2.2.2.2.2.2.2.2.2.2.2.2.2.2.2.2.1
  | 74, _, _, key => exact key (fin_1 D cy z tS tM).2.2.2.2.2.2.2.2.2.2.2.2.2.2.2.2.2.2.2.2.2.2.2.2.1
  | 75, _, _, key => exact key (fin_1 D cy z tS tM).2.2.2.2.2.2.2.2.2.2.2.2.2.2.2.2.2.2.2.2.2.2.2.2.2.1
  | 76, _, _, key => exact key (fin_1 D cy z tS tM).2.2.2.2.2.2.2.2.2.2.2.2.2.2.2.2.2.2.2.2.2.2.2.2.2.2.1
  | 77, _, _, key => exact key (fin_1 D cy z tS tM).2.2.2.2.2.2.2.2.2.2.2.2.2.2.2.2.2.2.2.2.2.2.2.2.2.2.2.1
  | 78, _, _, key => exact key (fin_1 D cy z tS tM).2.2.2.2.2.2.2.2.2.2.2.2.2.2.2.2.2.2.2.2.2.2.2.2.2.2.2.2.1
  | 79, _, _, key => exact key (fin_1 D cy z tS tM).2.2.2.2.2.2.2.2.2.2.2.2.2.2.2.2.2.2.2.2.2.2.2.2.2.2.2.2.2.1
  | 80, _, _, key => exact key (fin_1 D cy z tS tM).2.2.2.2.2.2.2.2.2.2.2.2.2.2.2.2.2.2.2.2.2.2.2.2.2.2.2.2.2.2.1
  | 81, _, _, key => exact key (fin_1 D cy z tS tM).2.2.2.2.2.2.2.2.2.2.2.2.2.2.2.2.2.2.2.2.2.2.2.2.2.2.2.2.2.2.2.1
  | 82, _, _, key => exact key (fin_1 D cy z tS tM).2.2.2.2.2.2.2.2.2.2.2.2.2.2.2.2.2.2.2.2.2.2.2.2.2.2.2.2.2.2.2.2.1
  | 83, _, _, key => exact key (fin_1 D cy z tS tM).2.2.2.2.2.2.2.2.2.2.2.2.2.2.2.2.2.2.2.2.2.2.2.2.2.2.2.2.2.2.2.2.2.1
  | 84, _, _, key => exact key (fin_1 D cy z tS tM).2.2.2.2.2.2.2.2.2.2.2.2.2.2.2.2.2.2.2.2.2.2.2.2.2.2.2.2.2.2.2.2.2.2.1
  | 85, _, _, key => exact key (fin_1 D cy z tS tM).2.2.2.2.2.2.2.2.2.2.2.2.2.2.2.2.2.2.2.2.2.2.2.2.2.2.2.2.2.2.2.2.2.2.2.1
  | 86, _, _, key => exact key (fin_1 D cy z tS tM).2.2.2.2.2.2.2.2.2.2.2.2.2.2.2.2.2.2.2.2.2.2.2.2.2.2.2.2.2.2.2.2.2.2.2.2.1
  | 87, _, _, key => exact key (fin_1 D cy z tS tM).2.2.2.2.2.2.2.2.2.2.2.2.2.2.2.2.2.2.2.2.2.2.2.2.2.2.2.2.2.2.2.2.2.2.2.2.2.1
  | 88, _, _, key => exact key (fin_1 D cy z tS tM).2.2.2.2.2.2.2.2.2.2.2.2.2.2.2.2.2.2.2.2.2.2.2.2.2.2.2.2.2.2.2.2.2.2.2.2.2.2.1
  | 89, _, _, key => exact key (fin_1 D cy z tS tM).2.2.2.2.2.2.2.2.2.2.2.2.2.2.2.2.2.2.2.2.2.2.2.2.2.2.2.2.2.2.2.2.2.2.2.2.2.2.2.1
  | 90, _, _, key => exact key (fin_1 D cy z tS tM).2.2.2.2.2.2.2.2.2.2.2.2.2.2.2.2.2.2.2.2.2.2.2.2.2.2.2.2.2.2.2.2.2.2.2.2.2.2.2.2.1
  | 91, _, _, key => exact key (fin_1 D cy z tS tM).2.2.2.2.2.2.2.2.2.2.2.2.2.2.2.2.2.2.2.2.2.2.2.2.2.2.2.2.2.2.2.2.2.2.2.2.2.2.2.2.2.1
  | 92, _, _, key => exact key (fin_1 D cy z tS tM).2.2.2.2.2.2.2.2.2.2.2.2.2.2.2.2.2.2.2.2.2.2.2.2.2.2.2.2.2.2.2.2.2.2.2.2.2.2.2.2.2.2.1
  | 93, _, _, key => exact key (fin_1 D cy z tS tM).2.2.2.2.2.2.2.2.2.2.2.2.2.2.2.2.2.2.2.2.2.2.2.2.2.2.2.2.2.2.2.2.2.2.2.2.2.2.2.2.2.2.2.1
  | 94, _, _, key => exact key (fin_1 D cy z tS tM).2.2.2.2.2.2.2.2.2.2.2.2.2.2.2.2.2.2.2.2.2.2.2.2.2.2.2.2.2.2.2.2.2.2.2.2.2.2.2.2.2.2.2.2.1
  | 95, _, _, key => exact key (fin_1 D cy z tS tM).2.2.2.2.2.2.2.2.2.2.2.2.2.2.2.2.2.2.2.2.2.2.2.2.2.2.2.2.2.2.2.2.2.2.2.2.2.2.2.2.2.2.2.2.2.1
  | 96, _, _, key => exact key (fin_1 D cy z tS tM).2.2.2.2.2.2.2.2.2.2.2.2.2.2.2.2.2.2.2.2.2.2.2.2.2.2.2.2.2.2.2.2.2.2.2.2.2.2.2.2.2.2.2.2.2.2.1
  | 97, _, _, key => exact key (fin_1 D cy z tS tM).2.2.2.2.2.2.2.2.2.2.2.2.2.2.2.2.2.2.2.2.2.2.2.2.2.2.2.2.2.2.2.2.2.2.2.2.2.2.2.2.2.2.2.2.2.2.2.1
  | 98, _, _, key => exact key (fin_1 D cy z tS tM).2.2.2.2.2.2.2.2.2.2.2.2.2.2.2.2.2.2.2.2.2.2.2.2.2.2.2.2.2.2.2.2.2.2.2.2.2.2.2.2.2.2.2.2.2.2.2.2.1
  | 99, _, _, key => exact key (fin_1 D cy z tS tM).2.2.2.2.2.2.2.2.2.2.2.2.2.2.2.2.2.2.2.2.2.2.2.2.2.2.2.2.2.2.2.2.2.2.2.2.2.2.2.2.2.2.2.2.2.2.2.2.2
  | 100, _, _, key => exact key (fin_2 D cy z tS tM).1
  | 101, _, _, key => exact key (fin_2 D cy z tS tM).2.1
  | 102, _, _, key => exact key (fin_2 D cy z tS tM).2.2.1
  | 103, _, _, key => exact key (fin_2 D cy z tS tM).2.2.2.1
  | 104, _, _, key => exact key (fin_2 D cy z tS tM).2.2.2.2.1
  | 105, _, _, key => exact key (fin_2 D cy z tS tM).2.2.2.2.2.1
  | 106, _, _, key => exact key (fin_2 D cy z tS tM).2.2.2.2.2.2.1
  | 107, _, _, key => exact key (fin_2 D cy z tS tM).2.2.2.2.2.2.2.1
  | 108, _, _, key => exact key (fin_2 D cy z tS tM).2.2.2.2.2.2.2.2.1
  | 109, _, _, key => exact key (fin_2 D cy z tS tM).2.2.2.2.2.2.2.2.2.1
  | 110, _, _, key => exact key (fin_2 D cy z tS tM).2.2.2.2.2.2.2.2.2.2.1
  | 111, _, _, key => exact key (fin_2 D cy z tS tM).2.2.2.2.2.2.2.2.2.2.2.1
  | 112, _, _, key => exact key (fin_2 D cy z tS tM).2.2.2.2.2.2.2.2.2.2.2.2.1
  | 113, _, _, key => exact key (fin_2 D cy z tS tM).2.2.2.2.2.2.2.2.2.2.2.2.2.1
  | 114, _, _, key => exact key (fin_2 D cy z tS tM).2.2.2.2.2.2.2.2.2.2.2.2.2.2.1
  | 115, _, _, key => exact key (fin_2 D cy z tS tM).2.2.2.2.2.2.2.2.2.2.2.2.2.2.2.1
  | 116, _, _, key => exact key (fin_2 D cy z tS tM).2.2.2.2.2.2.2.2.2.2.2.2.2.2.2.2.1
  | 117, _, _, key => exact key (fin_2 D cy z tS tM).2.2.2.2.2.2.2.2.2.2.2.2.2.2.2.2.2.1
  | 118, _, _, key => exact key (fin_2 D cy z tS tM).2.2.2.2.2.2.2.2.2.2.2.2.2.2.2.2.2.2.1
  | 119, _, _, key => exact key (fin_2 D cy z tS tM).2.2.2.2.2.2.2.2.2.2.2.2.2.2.2.2.2.2.2.1
  | 120, _, _, key => exact key (fin_2 D cy z tS tM).2.2.2.2.2.2.2.2.2.2.2.2.2.2.2.2.2.2.2.2.1
  | 121, _, _, key => exact key (fin_2 D cy z tS tM).2.2.2.2.2.2.2.2.2.2.2.2.2.2.2.2.2.2.2.2.2.1
  | 122, _, _, key => exact key (fin_2 D cy z tS tM).2.2.2.2.2.2.2.2.2.2.2.2.2.2.2.2.2.2.2.2.2.2.1
  | 123, _, _, key => exact key (fin_2 D cy z tS tM).2.2.2.2.2.2.2.2.2.2.2.2.2.2.2.2.2.2.2.2.2.2.2.1
  | 124, _, _, key => exact key (fin_2 D cy z tS tM).2.2.2.2.2.2.2.2.2.2.2.2.2.2.2.2.2.2.2.2.2.2.2.2.1
  | 125, _, _, key => exact key (fin_2 D cy z tS tM).2.2.2.2.2.2.2.2.2.2.2.2.2.2.2.2.2.2.2.2.2.2.2.2.2.1
  | 126, _, _, key => exact key (fin_2 D cy z tS tM).2.2.2.2.2.2.2.2.2.2.2.2.2.2.2.2.2.2.2.2.2.2.2.2.2.2.1
  | 127, _, _, key => exact key (fin_2 D cy z tS tM).2.2.2.2.2.2.2.2.2.2.2.2.2.2.2.2.2.2.2.2.2.2.2.2.2.2.2.1
  | 128, _, _, key => exact key (fin_2 D cy z tS tM).2.2.2.2.2.2.2.2.2.2.2.2.2.2.2.2.2.2.2.2.2.2.2.2.2.2.2.2.1
  | 129, _, _, key => exact key (fin_2 D cy z tS tM).2.2.2.2.2.2.2.2.2.2.2.2.2.2.2.2.2.2.2.2.2.2.2.2.2.2.2.2.2.1
  | 130, _, _, key => exact key (fin_2 D cy z tS tM).2.2.2.2.2.2.2.2.2.2.2.2.2.2.2.2.2.2.2.2.2.2.2.2.2.2.2.2.2.2.1
  | 131, _, _, key => exact key (fin_2 D cy z tS tM).2.2.2.2.2.2.2.2.2.2.2.2.2.2.2.2.2.2.2.2.2.2.2.2.2.2.2.2.2.2.2.1
  | 132, _, _, key => exact key (fin_2 D cy z tS tM).2.2.2.2.2.2.2.2.2.2.2.2.2.2.2.2.2.2.2.2.2.2.2.2.2.2.2.2.2.2.2.2.1
  | 133, _, _, key => exact key (fin_2 D cy z tS tM).2.2.2.2.2.2.2.2.2.2.2.2.2.2.2.2.2.2.2.2.2.2.2.2.2.2.2.2.2.2.2.2.2.1
  | 134, _, _, key => exact key (fin_2 D cy z tS tM).2.2.2.2.2.2.2.2.2.2.2.2.2.2.2.2.2.2.2.2.2.2.2.2.2.2.2.2.2.2.2.2.2.2.1
  | 135, _, _, key => exact key (fin_2 D cy z tS tM).2.2.2.2.2.2.2.2.2.2.2.2.2.2.2.2.2.2.2.2.2.2.2.2.2.2.2.2.2.2.2.2.2.2.2.1
  | 136, _, _, key => exact key (fin_2 D cy z tS tM).2.2.2.2.2.2.2.2.2.2.2.2.2.2.2.2.2.2.2.2.2.2.2.2.2.2.2.2.2.2.2.2.2.2.2.2.1
  | 137, _, _, key => exact key (fin_2 D cy z tS tM).2.2.2.2.2.2.2.2.2.2.2.2.2.2.2.2.2.2.2.2.2.2.2.2.2.2.2.2.2.2.2.2.2.2.2.2.2.1
  | 138, _, _, key => exact key (fin_2 D cy z tS tM).2.2.2.2.2.2.2.2.2.2.2.2.2.2.2.2.2.2.2.2.2.2.2.2.2.2.2.2.2.2.2.2.2.2.2.2.2.2.1
  | 139, _, _, key => exact key (fin_2 D cy z tS tM).2.2.2.2.2.2.2.2.2.2.2.2.2.2.2.2.2.2.2.2.2.2.2.2.2.2.2.2.2.2.2.2.2.2.2.2.2.2.2.1
  | 140, _, _, key => exact key (fin_2 D cy z tS tM).2.2.2.2.2.2.2.2.2.2.2.2.2.2.2.2.2.2.2.2.2.2.2.2.2.2.2.2.2.2.2.2.2.2.2.2.2.2.2.2.1
  | 141, _, _, key => exact key (fin_2 D cy z tS tM).2.2.2.2.2.2.2.2.2.2.2.2.2.2.2.2.2.2.2.2.2.2.2.2.2.2.2.2.2.2.2.2.2.2.2.2.2.2.2.2.2.1
  | 142, _, _, key => exact key (fin_2 D cy z tS tM).2.2.2.2.2.2.2.2.2.2.2.2.2.2.2.2.2.2.2.2.2.2.2.2.2.2.2.2.2.2.2.2.2.2.2.2.2.2.2.2.2.2.1
  | 143, _, _, key => exact key (fin_2 D cy z tS tM).2.2.2.2.2.2.2.2.2.2.2.2.2.2.2.2.2.2.2.2.2.2.2.2.2.2.2.2.2.2.2.2.2.2.2.2.2.2.2.2.2.2.2.1
  | 144, _, _, key => exact key (fin_2 D cy z tS tM).2.2.2.2.2.2.2.2.2.2.2.2.2.2.2.2.2.2.2.2.2.2.2.2.2.2.2.2.2.2.2.2.2.2.2.2.2.2.2.2.2.2.2.2.1
  | 145, _, _, key => exact key (fin_2 D cy z tS tM).2.2.2.2.2.2.2.2.2.2.2.2.2.2.2.2.2.2.2.2.2.2.2.2.2.2.2.2.2.2.2.2.2.2.2.2.2.2.2.2.2.2.2.2.2.1
  | 146, _, _, key => exact key (fin_2 D cy z tS tM).2.2.2.2.2.2.2.2.2.2.2.2.2.2.2.2.2.2.2.2.2.2.2.2.2.2.2.2.2.2.2.2.2.2.2.2.2.2.2.2.2.2.2.2.2.2.1
  | 147, _, _, key => exact key (fin_2 D cy z tS tM).2.2.2.2.2.2.2.2.2.2.2.2.2.2.2.2.2.2.2.2.2.2.2.2.2.2.2.2.2.2.2.2.2.2.2.2.2.2.2.2.2.2.2.2.2.2.2.1
  | 148, _, _, key => exact key (fin_2 D cy z tS tM).2.2.2.2.2.2.2.2.2.2.2.2.2.2.2.2.2.2.2.2.2.2.2.2.2.2.2.2.2.2.2.2.2.2.2.2.2.2.2.2.2.2.2.2.2.2.2.2.1
  | 149, _, _, key => exact key (fin_2 D cy z tS tM).2.2.2.2.2.2.2.2.2.2.2.2.2.2.2.2.2.2.2.2.2.2.2.2.2.2.2.2.2.2.2.2.2.2.2.2.2.2.2.2.2.2.2.2.2.2.2.2.2
  | 150, _, _, key => exact key (fin_3 D cy z tS tM).1
  | 151, _, _, key => exact key (fin_3 D cy z tS tM).2.1
  | 152, _, _, key => exact key (fin_3 D cy z tS tM).2.2.1
  | 153, _, _, key => exact key (fin_3 D cy z tS tM).2.2.2.1
  | 154, _, _, key => exact key (fin_3 D cy z tS tM).2.2.2.2.1
  | 155, _, _, key => exact key (fin_3 D cy z tS tM).2.2.2.2.2.1
  | 156, _, _, key => exact key (fin_3 D cy z tS tM).2.2.2.2.2.2.1
  | 157, _, _, key => exact key (fin_3 D cy z tS tM).2.2.2.2.2.2.2.1
  | 158, _, _, key => exact key (fin_3 D cy z tS tM).2.2.2.2.2.2.2.2.1
  | 159, _, _, key => exact key (fin_3 D cy z tS tM).2.2.2.2.2.2.2.2.2.1
  | 160, _, _, key => exact key (fin_3 D cy z tS tM).2.2.2.2.2.2.2.2.2.2.1
  | 161, _, _, key => exact key (fin_3 D cy z tS tM).2.2.2.2.2.2.2.2.2.2.2.1
  | 162, _, _, key => exact key (fin_3 D cy z tS tM).2.2.2.2.2.2.2.2.2.2.2.2.1
  | 163, _, _, key => exact key (fin_3 D cy z tS tM).2.2.2.2.2.2.2.2.2.2.2.2.2.1
  | 164, _, _, key => exact key (fin_3 D cy z tS tM).2.2.2.2.2.2.2.2.2.2.2.2.2.2.1
  | 165, _, _, key => exact key (fin_3 D cy z tS tM).2.2.2.2.2.2.2.2.2.2.2.2.2.2.2.1
  | 166, _, _, key => exact key (fin_3 D cy z tS tM).2.2.2.2.2.2.2.2.2.2.2.2.2.2.2.2.1
  | 167, _, _, key => exact key (fin_3 D cy z tS tM).2.2.2.2.2.2.2.2.2.2.2.2.2.2.2.2.2.1
  | 168, _, _, key => exact key (fin_3 D cy z tS tM).2.2.2.2.2.2.2.2.2.2.2.2.2.2.2.2.2.2.1
  | 169, _, _, key => exact key (fin_3 D cy z tS tM).2.2.2.2.2.2.2.2.2.2.2.2.2.2.2.2.2.2.2.1
  | 170, _, _, key => exact key (fin_3 D cy z tS tM).2.2.2.2.2.2.2.2.2.2.2.2.2.2.2.2.2.2.2.2.1
  | 171, _, _, key => exact key (fin_3 D cy z tS tM).2.2.2.2.2.2.2.2.2.2.2.2.2.2.2.2.2.2.2.2.2.1
  | 172, _, _, key => exact key (fin_3 D cy z tS tM).2.2.2.2.2.2.2.2.2.2.2.2.2.2.2.2.2.2.2.2.2.2.1
  | 173, _, _, key => exact key (fin_3 D cy z tS tM).2.2.2.2.2.2.2.2.2.2.2.2.2.2.2.2.2.2.2.2.2.2.2.1
  | 174, _, _, key => exact key (fin_3 D cy z tS tM).2.2.2.2.2.2.2.2.2.2.2.2.2.2.2.2.2.2.2.2.2.2.2.2.1
  | 175, _, _, key => exact key (fin_3 D cy z tS tM).2.2.2.2.2.2.2.2.2.2.2.2.2.2.2.2.2.2.2.2.2.2.2.2.2.1
  | 176, _, _, key => exact key (fin_3 D cy z tS tM).2.2.2.2.2.2.2.2.2.2.2.2.2.2.2.2.2.2.2.2.2.2.2.2.2.2.1
  | 177, _, _, key => exact key (fin_3 D cy z tS tM).2.2.2.2.2.2.2.2.2.2.2.2.2.2.2.2.2.2.2.2.2.2.2.2.2.2.2.1
  | 178, _, _, key => exact key (fin_3 D cy z tS tM).2.2.2.2.2.2.2.2.2.2.2.2.2.2.2.2.2.2.2.2.2.2.2.2.2.2.2.2.1
  | 179, _, _, key => exact key (fin_3 D cy z tS tM).2.2.2.2.2.2.2.2.2.2.2.2.2.2.2.2.2.2.2.2.2.2.2.2.2.2.2.2.2.1
  | 180, _, _, key => exact key (fin_3 D cy z tS tM).2.2.2.2.2.2.2.2.2.2.2.2.2.2.2.2.2.2.2.2.2.2.2.2.2.2.2.2.2.2.1
  | 181, _, _, key => exact key (fin_3 D cy z tS tM).2.2.2.2.2.2.2.2.2.2.2.2.2.2.2.2.2.2.2.2.2.2.2.2.2.2.2.2.2.2.2.1
  | 182, _, _, key => exact key (fin_3 D cy z tS tM).2.2.2.2.2.2.2.2.2.2.2.2.2.2.2.2.2.2.2.2.2.2.2.2.2.2.2.2.2.2.2.2.1
  | 183, _, _, key => exact key (fin_3 D cy z tS tM).2.2.2.2.2.2.2.2.2.2.2.2.2.2.2.2.2.2.2.2.2.2.2.2.2.2.2.2.2.2.2.2.2.1
  | 184, _, _, key => exact key (fin_3 D cy z tS tM).2.2.2.2.2.2.2.2.2.2.2.2.2.2.2.2.2.2.2.2.2.2.2.2.2.2.2.2.2.2.2.2.2.2.1
  | 185, _, _, key => exact key (fin_3 D cy z tS tM).2.2.2.2.2.2.2.2.2.2.2.2.2.2.2.2.2.2.2.2.2.2.2.2.2.2.2.2.2.2.2.2.2.2.2.1
  | 186, _, _, key => exact key (fin_3 D cy z tS tM).2.2.2.2.2.2.2.2.2.2.2.2.2.2.2.2.2.2.2.2.2.2.2.2.2.2.2.2.2.2.2.2.2.2.2.2.1
  | 187, _, _, key => exact key (fin_3 D cy z tS tM).2.2.2.2.2.2.2.2.2.2.2.2.2.2.2.2.2.2.2.2.2.2.2.2.2.2.2.2.2.2.2.2.2.2.2.2.2.1
  | 188, _, _, key => exact key (fin_3 D cy z tS tM).2.2.2.2.2.2.2.2.2.2.2.2.2.2.2.2.2.2.2.2.2.2.2.2.2.2.2.2.2.2.2.2.2.2.2.2.2.2.1
  | 189, _, _, key => exact key (fin_3 D cy z tS tM).2.2.2.2.2.2.2.2.2.2.2.2.2.2.2.2.2.2.2.2.2.2.2.2.2.2.2.2.2.2.2.2.2.2.2.2.2.2.2.1
  | 190, _, _, key => exact key (fin_3 D cy z tS tM).2.2.2.2.2.2.2.2.2.2.2.2.2.2.2.2.2.2.2.2.2.2.2.2.2.2.2.2.2.2.2.2.2.2.2.2.2.2.2.2.1
  | 191, _, _, key => exact key (fin_3 D cy z tS tM).2.2.2.2.2.2.2.2.2.2.2.2.2.2.2.2.2.2.2.2.2.2.2.2.2.2.2.2.2.2.2.2.2.2.2.2.2.2.2.2.2.1
  | 192, _, _, key => exact key (fin_3 D cy z tS tM).2.2.2.2.2.2.2.2.2.2.2.2.2.2.2.2.2.2.2.2.2.2.2.2.2.2.2.2.2.2.2.2.2.2.2.2.2.2.2.2.2.2.1
  | 193, _, _, key => exact key (fin_3 D cy z tS tM).2.2.2.2.2.2.2.2.2.2.2.2.2.2.2.2.2.2.2.2.2.2.2.2.2.2.2.2.2.2.2.2.2.2.2.2.2.2.2.2.2.2.2.1
  | 194, _, _, key => exact key (fin_3 D cy z tS tM).2.2.2.2.2.2.2.2.2.2.2.2.2.2.2.2.2.2.2.2.2.2.2.2.2.2.2.2.2.2.2.2.2.2.2.2.2.2.2.2.2.2.2.2.1
  | 195, _, _, key => exact key (fin_3 D cy z tS tM).2.2.2.2.2.2.2.2.2.2.2.2.2.2.2.2.2.2.2.2.2.2.2.2.2.2.2.2.2.2.2.2.2.2.2.2.2.2.2.2.2.2.2.2.2.1
  | 196, _, _, key => exact key (fin_3 D cy z tS tM).2.2.2.2.2.2.2.2.2.2.2.2.2.2.2.2.2.2.2.2.2.2.2.2.2.2.2.2.2.2.2.2.2.2.2.2.2.2.2.2.2.2.2.2.2.2.1
  | 197, _, _, key => exact key (fin_3 D cy z tS tM).2.2.2.2.2.2.2.2.2.2.2.2.2.2.2.2.2.2.2.2.2.2.2.2.2.2.2.2.2.2.2.2.2.2.2.2.2.2.2.2.2.2.2.2.2.2.2.1
  | 198, _, _, key => exact key (fin_3 D cy z tS tM).2.2.2.2.2.2.2.2.2.2.2.2.2.2.2.2.2.2.2.2.2.2.2.2.2.2.2.2.2.2.2.2.2.2.2.2.2.2.2.2.2.2.2.2.2.2.2.2.1
  | 199, _, _, key => exact key (fin_3 D cy z tS tM).2.2.2.2.2.2.2.2.2.2.2.2.2.2.2.2.2.2.2.2.2.2.2.2.2.2.2.2.2.2.2.2.2.2.2.2.2.2.2.2.2.2.2.2.2.2.2.2.2
  | 200, _, _, key => exact key (fin_4 D cy z tS tM).1
  | 201, _, _, key => exact key (fin_4 D cy z tS tM).2.1
  | 202, _, _, key => exact key (fin_4 D cy z tS tM).2.2.1
  | 203, _, _, key => exact key (fin_4 D cy z tS tM).2.2.2.1
  | 204, _, h1, _ => exact rf_same (Nat.le_refl 8) (sp_j (a := 230) (b := 2) (by decide +kernel)) h1
  | 205, _, _, key => exact key (fin_4 D cy z tS tM).2.2.2.2.1
  | 206, _, _, key => exact key (fin_4 D cy z tS tM).2.2.2.2.2.1
  | 207, _, _, key => exact key (fin_4 D cy z tS tM).2.2.2.2.2.2.1
  | 208, _, h1, _ => exact rf_same (Nat.le_refl 24) (sp_j (a := 35) (b := 7) (by decide +kernel)) h1
  | 209, _, h1, _ => exact rf_same (Nat.le_refl 2) (sp_j (a := 21) (b := 7) (by decide +kernel)) h1
  | 210, _, _, key => exact key (fin_4 D cy z tS tM).2.2.2.2.2.2.2.1
  | 211, _, h1, _ => exact rf_same (Nat.le_refl 6) (fun j hj => by have := sp_j (D := D) (cy := cy) (z := z) (tS := tS) (tM := tM) (a := 212) (b := 1) (c := 6) (by decide +kernel) j hj; simp only [Nat.one_mul] at this; exact this) h1
  | 212, _, _, key => exact key (fin_4 D cy z tS tM).2.2.2.2.2.2.2.2.1
  | 213, _, _, key => exact key (fin_4 D cy z tS tM).2.2.2.2.2.2.2.2.2.1
  | 214, _, _, key => exact key (fin_4 D cy z tS tM).2.2.2.2.2.2.2.2.2.2.1
  | 215, _, _, key => exact key (fin_4 D cy z tS tM).2.2.2.2.2.2.2.2.2.2.2.1
  | 216, _, _, key => exact key (fin_4 D cy z tS tM).2.2.2.2.2.2.2.2.2.2.2.2.1
  | 217, _, _, key => exact key (fin_4 D cy z tS tM).2.2.2.2.2.2.2.2.2.2.2.2.2.1
  | 218, _, h1, _ => exact rf_same (Nat.le_refl 7) (fun j hj => by have := sp_j (D := D) (cy := cy) (z := z) (tS := tS) (tM := tM) (a := 219) (b := 1) (c := 7) (by decide +kernel) j hj; simp only [Nat.one_mul] at this; exact this) h1
  | 219, _, _, key => exact key (fin_4 D cy z tS tM).2.2.2.2.2.2.2.2.2.2.2.2.2.2.1
  | 220, _, _, key => exact key (fin_4 D cy z tS tM).2.2.2.2.2.2.2.2.2.2.2.2.2.2.2.1
  | 221, _, _, key => exact key (fin_4 D cy z tS tM).2.2.2.2.2.2.2.2.2.2.2.2.2.2.2.2.1
  | 222, _, _, key => exact key (fin_4 D cy z tS tM).2.2.2.2.2.2.2.2.2.2.2.2.2.2.2.2.2.1
  | 223, _, _, key => exact key (fin_4 D cy z tS tM).2.2.2.2.2.2.2.2.2.2.2.2.2.2.2.2.2.2.1
  | 224, _, _, key => exact key (fin_4 D cy z tS tM).2.2.2.2.2.2.2.2.2.2.2.2.2.2.2.2.2.2.2.1
  | 225, _, _, key => exact key (fin_4 D cy z tS tM).2.2.2.2.2.2.2.2.2.2.2.2.2.2.2.2.2.2.2.2.1
  | 226, _, _, key => exact key (fin_4 D cy z tS tM).2.2.2.2.2.2.2.2.2.2.2.2.2.2.2.2.2.2.2.2.2.1
  | 227, _, _, key => exact key (fin_4 D cy z tS tM).2.2.2.2.2.2.2.2.2.2.2.2.2.2.2.2.2.2.2.2.2.2.1
  | 228, _, _, key => exact key (fin_4 D cy z tS tM).2.2.2.2.2.2.2.2.2.2.2.2.2.2.2.2.2.2.2.2.2.2.2.1
  | 229, _, _, key => exact key (fin_4 D cy z tS tM).2.2.2.2.2.2.2.2.2.2.2.2.2.2.2.2.2.2.2.2.2.2.2.2.1
  | 230, _, _, key => exact key (fin_4 D cy z tS tM).2.2.2.2.2.2.2.2.2.2.2.2.2.2.2.2.2.2.2.2.2.2.2.2.2.1
  | 231, _, _, key => exact key (fin_4 D cy z tS tM).2.2.2.2.2.2.2.2.2.2.2.2.2.2.2.2.2.2.2.2.2.2.2.2.2.2.1
  | 232, _, _, key => exact key (fin_4 D cy z tS tM).2.2.2.2.2.2.2.2.2.2.2.2.2.2.2.2.2.2.2.2.2.2.2.2.2.2.2.1
  | 233, _, _, key => exact key (fin_4 D cy z tS tM).2.2.2.2.2.2.2.2.2.2.2.2.2.2.2.2.2.2.2.2.2.2.2.2.2.2.2.2.1
  | 234, _, _, key => exact key (fin_4 D cy z tS tM).2.2.2.2.2.2.2.2.2.2.2.2.2.2.2.2.2.2.2.2.2.2.2.2.2.2.2.2.2.1
  | 235, _, _, key => exact key (fin_4 D cy z tS tM).2.2.2.2.2.2.2.2.2.2.2.2.2.2.2.2.2.2.2.2.2.2.2.2.2.2.2.2.2.2.1
  | 236, _, _, key => exact key (fin_4 D cy z tS tM).2.2.2.2.2.2.2.2.2.2.2.2.2.2.2.2.2.2.2.2.2.2.2.2.2.2.2.2.2.2.2.1
  | 237, _, _, key => exact key (fin_4 D cy z tS tM).2.2.2.2.2.2.2.2.2.2.2.2.2.2.2.2.2.2.2.2.2.2.2.2.2.2.2.2.2.2.2.2.1
  | 238, _, _, key => exact key (fin_4 D cy z tS tM).2.2.2.2.2.2.2.2.2.2.2.2.2.2.2.2.2.2.2.2.2.2.2.2.2.2.2.2.2.2.2.2.2.1
  | 239, _, _, key => exact key (fin_4 D cy z tS tM).2.2.2.2.2.2.2.2.2.2.2.2.2.2.2.2.2.2.2.2.2.2.2.2.2.2.2.2.2.2.2.2.2.2.1
  | 240, _, _, key => exact key (fin_4 D cy z tS tM).2.2.2.2.2.2.2.2.2.2.2.2.2.2.2.2.2.2.2.2.2.2.2.2.2.2.2.2.2.2.2.2.2.2.2.1
  | 241, _, _, key => exact key (fin_4 D cy z tS tM).2.2.2.2.2.2.2.2.2.2.2.2.2.2.2.2.2.2.2.2.2.2.2.2.2.2.2.2.2.2.2.2.2.2.2.2.1
  | 242, _, _, key => exact key (fin_4 D cy z tS tM).2.2.2.2.2.2.2.2.2.2.2.2.2.2.2.2.2.2.2.2.2.2.2.2.2.2.2.2.2.2.2.2.2.2.2.2.2.1
  | 243, _, _, key => exact key (fin_4 D cy z tS tM).2.2.2.2.2.2.2.2.2.2.2.2.2.2.2.2.2.2.2.2.2.2.2.2.2.2.2.2.2.2.2.2.2.2.2.2.2.2.1
  | 244, _, _, key => exact key (fin_4 D cy z tS tM).2.2.2.2.2.2.2.2.2.2.2.2.2.2.2.2.2.2.2.2.2.2.2.2.2.2.2.2.2.2.2.2.2.2.2.2.2.2.2.1
  | 245, _, _, key => exact key (fin_4 D cy z tS tM).2.2.2.2.2.2.2.2.2.2.2.2.2.2.2.2.2.2.2.2.2.2.2.2.2.2.2.2.2.2.2.2.2.2.2.2.2.2.2.2.1
  | 246, _, _, key => exact key (fin_4 D cy z tS tM).2.2.2.2.2.2.2.2.2.2.2.2.2.2.2.2.2.2.2.2.2.2.2.2.2.2.2.2.2.2.2.2.2.2.2.2.2.2.2.2.2.1
  | 247, _, _, key => exact key (fin_4 D cy z tS tM).2.2.2.2.2.2.2.2.2.2.2.2.2.2.2.2.2.2.2.2.2.2.2.2.2.2.2.2.2.2.2.2.2.2.2.2.2.2.2.2.2.2.1
  | 248, _, _, key => exact key (fin_4 D cy z tS tM).2.2.2.2.2.2.2.2.2.2.2.2.2.2.2.2.2.2.2.2.2.2.2.2.2.2.2.2.2.2.2.2.2.2.2.2.2.2.2.2.2.2.2.1
  | 249, _, _, key => exact key (fin_4 D cy z tS tM).2.2.2.2.2.2.2.2.2.2.2.2.2.2.2.2.2.2.2.2.2.2.2.2.2.2.2.2.2.2.2.2.2.2.2.2.2.2.2.2.2.2.2.2.1
  | 250, _, _, key => exact key (fin_4 D cy z tS tM).2.2.2.2.2.2.2.2.2.2.2.2.2.2.2.2.2.2.2.2.2.2.2.2.2.2.2.2.2.2.2.2.2.2.2.2.2.2.2.2.2.2.2.2.2.1
  | 251, _, _, key => exact key (fin_4 D cy z tS tM).2.2.2.2.2.2.2.2.2.2.2.2.2.2.2.2.2.2.2.2.2.2.2.2.2.2.2.2.2.2.2.2.2.2.2.2.2.2.2.2.2.2.2.2.2.2.1
  | 252, _, _, key => exact key (fin_4 D cy z tS tM).2.2.2.2.2.2.2.2.2.2.2.2.2.2.2.2.2.2.2.2.2.2.2.2.2.2.2.2.2.2.2.2.2.2.2.2.2.2.2.2.2.2.2.2.2.2.2.1
  | 253, _, _, key => exact key (fin_4 D cy z tS tM).2.2.2.2.2.2.2.2.2.2.2.2.2.2.2.2.2.2.2.2.2.2.2.2.2.2.2.2.2.2.2.2.2.2.2.2.2.2.2.2.2.2.2.2.2.2.2.2.1
  | 254, _, _, key => exact key (fin_4 D cy z tS tM).2.2.2.2.2.2.2.2.2.2.2.2.2.2.2.2.2.2.2.2.2.2.2.2.2.2.2.2.2.2.2.2.2.2.2.2.2.2.2.2.2.2.2.2.2.2.2.2.2
  | 255, _, _, key => exact key (fin_5 D cy z tS tM).1
  | 256, _, _, key => exact key (fin_5 D cy z tS tM).2.1
  | 257, _, _, key => exact key (fin_5 D cy z tS tM).2.2.1
  | 258, _, _, key => exact key (fin_5 D cy z tS tM).2.2.2
  | (k + 259), h, _, _ => exact absurd h (by omega)
theorem inj_S {D : va_G} {cy : Nat → ClassId} {z tS tM : Nat} : InjG (gS D cy z tS tM) := by
  intro i j hi hj h
  have e1 : (if i = 260 then tS else if i = 261 then tM else z + perm i) = (if j = 260 then tS else if j = 261 then tM else z + perm j) := h
  rw [if_neg (by omega), if_neg (by omega), if_neg (by omega), if_neg (by omega)] at e1
  have := congrArg pinv (Nat.add_left_cancel e1)
  rwa [pinv_perm i hi, pinv_perm j hj] at this
theorem new_S {D : va_G} {cy : Nat → ClassId} {z tS tM : Nat} : ∀ i, i < 259 → z ≤ (gS D cy z tS tM).2.2 i := by
  intro i hi
  show z ≤ if i = 260 then tS else if i = 261 then tM else z + perm i
  rw [if_neg (by omega), if_neg (by omega)]
  omega
theorem ao_ty {s : State} {C : String} (h : va_AO C s) : ∃ cA : ClassId, ArrOfT s cA (.object C) ∧ va_RA s cA (.object C) := by
  obtain ⟨comp, c, k, f1, f2, f3, f4, f5⟩ := Cond.arrayOver_spec h
  exact ⟨c, fun N z => ⟨(fun k h => by cases h), k, f3, comp, f4⟩, k, comp, f3, f4, f1, f5⟩
theorem aoa_ty {s : State} (h : va_AOA s) : ∃ cA : ClassId, ArrOfT s cA (.array .int) ∧ va_RA s cA (.array .int) := by
  obtain ⟨comp, c, k, f1, f2, f3, f4, f5⟩ := Jvm.Stand.arrayOver_specB h
  exact ⟨c, fun N z => ⟨(fun k h => by cases h), k, f3, comp, f4⟩, f5⟩
theorem ac_ty {s : State} {a : Array Value} {ty : FieldType} (h : (Cond.arrayClass ty).before a s = true) : ∃ cA : ClassId, ArrOfT s cA ty ∧ s.vm.findClass ("[" ++ ty.toString) = some cA := by
  obtain ⟨c, k, comp, f1, f2, f3⟩ := Cond.arrayClass_spec h
  exact ⟨c, fun N z => ⟨(fun k h => by cases h), k, f2, comp, f3⟩, f1⟩
set_option maxRecDepth 100000 in
set_option maxHeartbeats 8000000 in
theorem law_start {p : Program} {e : Env} {s : State} {m : MethodId} {below : List Frame} {meth : Method} {c : Code} (l : Launch) {b L : Nat} {xs : Nat → Int32} (hL : L ≤ 3072) (C0 : lw_At p s m meth c b L xs) {RR : Hp → Hp → Prop} (s_0 : RR h0 k0) (s_row : St_row RR) (s_set : St_set RR) (s_copy : St_copy RR) (s_drop : St_drop RR) (s_feed : St_feed RR) (s_estuary : St_estuary RR) (s_fault : St_fault RR) (s_undo : St_undo RR) (s_hours : St_hours RR) (s_step : St_step RR) (s_wind : St_wind RR) (s_wake : St_wake RR) (s_let : St_let RR) (s_sheet : St_sheet RR) (s_cell : St_cell RR) (s_stand : St_stand RR) (s_ahead : St_ahead RR) (s_over : St_over RR) (s_when : St_when RR) (s_overlap : St_overlap RR) (s_walk : St_walk RR) (s_meet : St_meet RR) (s_site : St_site RR) (s_waking : St_waking RR) (s_meant : St_meant RR) (s_share : St_share RR) (s_byTurns : St_byTurns RR) (s_who : St_who RR) (s_gusts : St_gusts RR) (s_lift : St_lift RR) (s_drawn : St_drawn RR) (s_image : St_image RR) (s_restore : St_restore RR) (s_kind : St_kind RR) (s_as : St_as RR) (s_ask : St_ask RR) (s_trace : St_trace RR) (s_count : St_count RR) (s_status : St_status RR) : W p l e room_1 s m #[Value.ref b] below meth c s.heap [] 0 0 (lw_Z below #[Value.ref b] s) (entryFrame m ([Value.ref b] : List Value).toArray 4) := by
  obtain ⟨hx, hb, hr, hml, hown, hts, hX, hbl, hlocks, hgv⟩ := id C0
  have hG : ∀ w ∈ GG, w.before #[Value.ref b] s = true := fun w hw => hts w (List.mem_filter.mp hw).1
  obtain ⟨c0, iS0, hKn0⟩ := u_known (C := RX0) (T := TX0) (N := 3) (n := 3) hG inX0 (hG _ wd_211)
  obtain ⟨c1, iS1, hKn1⟩ := u_known (C := RX1) (T := TX1) (N := 2) (n := 2) hG inX1 (hG _ wd_260)
  obtain ⟨c2, iS2, hKn2⟩ := u_known (C := RX2) (T := TX2) (N := 16) (n := 16) hG inX2 (hG _ wd_88)
  obtain ⟨c3, iS3, hKn3⟩ := u_known (C := RX3) (T := TX3) (N := 6) (n := 6) hG inX3 (hG _ wd_231)
  obtain ⟨c4, iS4, hKn4⟩ := u_known (C := RX4) (T := TX4) (N := 8) (n := 8) hG inX4 (hG _ wd_82)
  obtain ⟨c5, iS5, hKn5⟩ := u_known (C := RX5) (T := TX5) (N := 4) (n := 4) hG inX5 (hG _ wd_274)
  obtain ⟨c6, iS6, hKn6⟩ := u_known (C := RX6) (T := TX6) (N := 9) (n := 9) hG inX6 (hG _ wd_72)
  obtain ⟨c7, iS7, hKn7⟩ := u_known (C := RX7) (T := TX7) (N := 24) (n := 24) hG inX7 (hG _ wd_878)
  obtain ⟨dC, dI, hKc⟩ : ∃ (dC : Nat → ClassId) (dI : Nat → Nat → Nat), ∀ (k : Nat) (q : vw_C), vwCl[k]? = some q → u_Kn s q.1 q.2.1 q.2.2 (dC k) (dI k) := by
    refine ⟨fun k => match k with | 0 => c0 | 1 => c1 | 2 => c2 | 3 => c3 | 4 => c4 | 5 => c5 | 6 => c6 | _ => c7, fun k => match k with | 0 => iS0 | 1 => iS1 | 2 => iS2 | 3 => iS3 | 4 => iS4 | 5 => iS5 | 6 => iS6 | _ => iS7, ?_⟩
    intro k q hq
    match k, hq with
    | 0, hq => cases hq; exact hKn0
    | 1, hq => cases hq; exact hKn1
    | 2, hq => cases hq; exact hKn2
    | 3, hq => cases hq; exact hKn3
    | 4, hq => cases hq; exact hKn4
    | 5, hq => cases hq; exact hKn5
    | 6, hq => cases hq; exact hKn6
    | 7, hq => cases hq; exact hKn7
    | k + 8, hq => simp [vwCl] at hq
  have hAO2 : va_AO RX2 s := va_AO.of (hts (.arrayOver (.object RX2)) (List.mem_of_getElem? (i := 217) (by decide +kernel)))
  have hAO5 : va_AO RX5 s := va_AO.of (hts (.arrayOver (.object RX5)) (List.mem_of_getElem? (i := 80) (by decide +kernel)))
  have hAOA : va_AOA s := (hts (.arrayOver (.array .int)) (List.mem_of_getElem? (i := 239) (by decide +kernel)))
  obtain ⟨cy0, y0a, y0b⟩ := ac_ty (ty := .int) (hG _ wd_178)
  obtain ⟨cy1, y1a, y1b⟩ := ac_ty (ty := .boolean) (hG _ wd_956)
  obtain ⟨cy2, y2a, y2b⟩ := ao_ty hAO2
  obtain ⟨cy3, y3a, y3b⟩ := ao_ty hAO5
  obtain ⟨cy4, y4a, y4b⟩ := aoa_ty hAOA
  have hnw := flat_of_before _ hgv
  have hlentS := va_eqt (hnw (.eq (.length (.static "FogSheets$Asks" "SIZE_BODIES" "[I")) (.int 6)) (by decide +kernel))
  have hartS : (Cond.arrayOf (.static "FogSheets$Asks" "SIZE_BODIES" "[I") .int).before #[Value.ref b] s = true := hnw _ (by decide +kernel)
  have heltS : ∀ j : Nat, j < 6 → (Term.elem (.static "FogSheets$Asks" "SIZE_BODIES" "[I") (.int (Int32.ofNat j))).eval #[Value.ref b] s none [] s = some (.int (sizeB j)) := by
    intro j hj
    match j, hj with
    | 0, _ => exact va_eqt (hnw (.eq (.elem (.static "FogSheets$Asks" "SIZE_BODIES" "[I") (.int 0)) (.int 10)) (by decide +kernel))
    | 1, _ => exact va_eqt (hnw (.eq (.elem (.static "FogSheets$Asks" "SIZE_BODIES" "[I") (.int 1)) (.int 11)) (by decide +kernel))
    | 2, _ => exact va_eqt (hnw (.eq (.elem (.static "FogSheets$Asks" "SIZE_BODIES" "[I") (.int 2)) (.int 12)) (by decide +kernel))
    | 3, _ => exact va_eqt (hnw (.eq (.elem (.static "FogSheets$Asks" "SIZE_BODIES" "[I") (.int 3)) (.int 0)) (by decide +kernel))
    | 4, _ => exact va_eqt (hnw (.eq (.elem (.static "FogSheets$Asks" "SIZE_BODIES" "[I") (.int 4)) (.int 13)) (by decide +kernel))
    | 5, _ => exact va_eqt (hnw (.eq (.elem (.static "FogSheets$Asks" "SIZE_BODIES" "[I") (.int 5)) (.int 14)) (by decide +kernel))
    | (j + 6), h => exact absurd h (by omega)
  have hlentM := va_eqt (hnw (.eq (.length (.static "FogSheets$Asks" "MARK_BODIES" "[I")) (.int 6)) (by decide +kernel))
  have hartM : (Cond.arrayOf (.static "FogSheets$Asks" "MARK_BODIES" "[I") .int).before #[Value.ref b] s = true := hnw _ (by decide +kernel)
  have heltM : ∀ j : Nat, j < 6 → (Term.elem (.static "FogSheets$Asks" "MARK_BODIES" "[I") (.int (Int32.ofNat j))).eval #[Value.ref b] s none [] s = some (.int (markB j)) := by
    intro j hj
    match j, hj with
    | 0, _ => exact va_eqt (hnw (.eq (.elem (.static "FogSheets$Asks" "MARK_BODIES" "[I") (.int 0)) (.int 20)) (by decide +kernel))
    | 1, _ => exact va_eqt (hnw (.eq (.elem (.static "FogSheets$Asks" "MARK_BODIES" "[I") (.int 1)) (.int 21)) (by decide +kernel))
    | 2, _ => exact va_eqt (hnw (.eq (.elem (.static "FogSheets$Asks" "MARK_BODIES" "[I") (.int 2)) (.int 24)) (by decide +kernel))
    | 3, _ => exact va_eqt (hnw (.eq (.elem (.static "FogSheets$Asks" "MARK_BODIES" "[I") (.int 3)) (.int 22)) (by decide +kernel))
    | 4, _ => exact va_eqt (hnw (.eq (.elem (.static "FogSheets$Asks" "MARK_BODIES" "[I") (.int 4)) (.int 23)) (by decide +kernel))
    | 5, _ => exact va_eqt (hnw (.eq (.elem (.static "FogSheets$Asks" "MARK_BODIES" "[I") (.int 5)) (.int 0)) (by decide +kernel))
    | (j + 6), h => exact absurd h (by omega)
  have hlays : ∀ n, Cond.laysStatic "FogSheets$Asks" n "[I" ∈ lw_tbl → (Cond.laysStatic "FogSheets$Asks" n "[I").before #[Value.ref b] s = true := fun n h => hts _ h
  have hall : ∃ tS tM : Nat, (∀ A : Nat → Prop, (∀ a : Nat, a < s.heap.size → ¬ A a) → va_Z "FogSheets$Asks" "SIZE_BODIES" "[I" (.ref tS) A s s.heap ∧ va_T .int tS 6 (fun j => .int (sizeB j)) A s s.heap) ∧ ∀ A : Nat → Prop, (∀ a : Nat, a < s.heap.size → ¬ A a) → va_Z "FogSheets$Asks" "MARK_BODIES" "[I" (.ref tM) A s s.heap ∧ va_T .int tM 6 (fun j => .int (markB j)) A s s.heap := by
    obtain ⟨tS, etS, -⟩ := va_Tof (f := fun j => .int (sizeB j)) (A := fun _ => False) (N := 6) (by decide) hartS hlentS heltS (fun _ _ q => q)
    obtain ⟨tM, etM, -⟩ := va_Tof (f := fun j => .int (markB j)) (A := fun _ => False) (N := 6) (by decide) hartM hlentM heltM (fun _ _ q => q)
    refine ⟨tS, tM, fun A hA => ?_, fun A hA => ?_⟩
    · obtain ⟨t2, e2, hT⟩ := va_Tof (f := fun j => .int (sizeB j)) (A := A) (N := 6) (by decide) hartS hlentS heltS hA
      have : t2 = tS := by have := e2.symm.trans etS; cases this; rfl
      subst this
      exact ⟨va_Zref (hlays _ (List.mem_of_getElem? (i := 849) (by decide +kernel))) (hG (Cond.initialized "FogSheets$Asks") wd_64) e2 hA, hT⟩
    · obtain ⟨t2, e2, hT⟩ := va_Tof (f := fun j => .int (markB j)) (A := A) (N := 6) (by decide) hartM hlentM heltM hA
      have : t2 = tM := by have := e2.symm.trans etM; cases this; rfl
      subst this
      exact ⟨va_Zref (hlays _ (List.mem_of_getElem? (i := 851) (by decide +kernel))) (hG (Cond.initialized "FogSheets$Asks") wd_64) e2 hA, hT⟩
  obtain ⟨tS, tM, hSz, hMk⟩ := hall
  obtain ⟨g, hg⟩ : ∃ g, g = gS (dC, dI) (fun k => match k with | 0 => cy0 | 1 => cy1 | 2 => cy2 | 3 => cy3 | _ => cy4) s.heap.size tS tM := ⟨_, rfl⟩
  have hold : ∀ a : Nat, a < s.heap.size → ¬ inA g a := by
    intro a ha ⟨i, hi, q⟩
    have := new_S (D := (dC, dI)) (cy := fun k => match k with | 0 => cy0 | 1 => cy1 | 2 => cy2 | 3 => cy3 | _ => cy4) (z := s.heap.size) (tS := tS) (tM := tM) i hi
    rw [← hg] at this
    omega
  have hK : va_K g.1 vwCl (tysG g) s := by
    subst hg
    refine ⟨hKc, fun k q hq => ?_⟩
    match k, hq with
    | 0, hq => cases hq; exact ⟨y0a, y0b⟩
    | 1, hq => cases hq; exact ⟨y1a, y1b⟩
    | 2, hq => cases hq; exact ⟨y2a, y2b⟩
    | 3, hq => cases hq; exact ⟨y3a, y3b⟩
    | 4, hq => cases hq; exact ⟨y4a, y4b⟩
    | k + 5, hq => simp [tysG] at hq
  have hSK : SK g s := ⟨hK, va_Nw.of rfl (hts (.methodLinkNest RX4 97 yX6_isWithin RX6) (List.mem_of_getElem? (i := 408) (by decide +kernel))), va_Nw.of rfl (hts (.methodLinkNest RX1 40 yX6_widerKind RX6) (List.mem_of_getElem? (i := 852) (by decide +kernel)))⟩
  have hSC : SC g s := ⟨hSK, hAO2, hAO5, hAOA, va_Nw.of rfl (hts (.methodLinkNest RX6 17 yX4_init RX6) (List.mem_of_getElem? (i := 83) (by decide +kernel))), va_Nw.of rfl (hts (.methodLinkNest RX4 11 yX2_init RX6) (List.mem_of_getElem? (i := 89) (by decide +kernel))), va_Nw.of rfl (hts (.methodLinkNest RX6 24 yX2_init RX6) (List.mem_of_getElem? (i := 209) (by decide +kernel))), va_Nw.of rfl (hts (.methodLinkNest RX0 17 yX2_init RX6) (List.mem_of_getElem? (i := 218) (by decide +kernel))), va_Nw.of rfl (hts (.methodLinkNest RX6 42 yX3_init RX6) (List.mem_of_getElem? (i := 232) (by decide +kernel))), va_Nw.of rfl (hts (.methodLinkNest RX3 11 yX2_init RX6) (List.mem_of_getElem? (i := 237) (by decide +kernel))), va_Nw.of rfl (hts (.methodLinkNest RX6 49 yX1_init RX6) (List.mem_of_getElem? (i := 261) (by decide +kernel))), va_Nw.of rfl (hts (.methodLinkNest RX6 54 yX5_init RX6) (List.mem_of_getElem? (i := 275) (by decide +kernel)))⟩
  have hSH : SH g s s.heap := by
    have a1 := hSz (inA g) hold
    have a2 := hMk (inA g) hold
    have e1 : g.2.2 260 = tS := by rw [hg]; rfl
    have e2 : g.2.2 261 = tM := by rw [hg]; rfl
    unfold SH
    rw [e1, e2]
    exact ⟨a1, a2⟩
  have hI : InjG g := by rw [hg]; exact inj_S
  have hnew : ∀ i, i < 259 → s.heap.size ≤ g.2.2 i := by rw [hg]; exact new_S
  have X : CB p s m #[Value.ref b] c code 4 RL g := ⟨hx, hb, hml, hown, hG, hSC⟩
  have Y : Cx p s m #[Value.ref b] c code 4 RL g := ⟨hx, hb, hml, hown, hG, hSK, hI, hSH⟩
  have hS : va_S (fun q => s.heap.size ≤ q) s.heap s.heap [] := va_S.rf
  have hA : ∀ q, s.heap.size ≤ q → (fun q => s.heap.size ≤ q) q := fun _ h => h
  have hLy : Ly g.1 s.heap.size 0 (fun _ => .inr (0, [])) s.heap := Ly.of rfl (fun i hi => absurd hi (by omega))
  clear hKc hKn0 hKn1 hKn2 hKn3 hKn4 hKn5 hKn6 hKn7 hAO2 hAO5 hAOA hnw hlentS hlentM hartS hartM heltS heltM hlays hSz hMk hold hK hSK hSC hSH
  have hl := lv_entry ([.ref b]) (n := 4) (Nat.le_of_ble_eq_true rfl)
  rw [lg_entry_eq]
  generalize (lg_sl ([.ref b]) ++ List.replicate (4 - (lg_sl ([.ref b])).length) Slot.unset).toArray = ls at hl ⊢
  have hl : lv_has ls 4 [(0, .ref b)] := hl
  refine r_new X hLy hS (ci := 6) (fs := [.null, .null, .null, .null, .null, .null, .null, .int 0, .int 0]) rfl inX6 tyX6_ok ⟨wd_71, wd_72, wd_59⟩ (fun j hj => by first | (match j, hj with | 0, _ => rfl | 1, _ => rfl | 2, _ => rfl | 3, _ => rfl | 4, _ => rfl | 5, _ => rfl | 6, _ => rfl | 7, _ => rfl | 8, _ => rfl | (q + 9), h => exact absurd h (by omega))) (Nat.le_of_ble_eq_true rfl) (Nat.le_of_ble_eq_true rfl) dL_law_0 (fun H hLy hS => ?_)
  refine lv_dup hx hb dL_law_3 rfl ?_
  refine r_initP X (n := 0) hLy hS hA rfl (k_X6 l _) ⟨wd_75, wd_59, wd_74, wd_73⟩ ⟨by decide +kernel, by decide +kernel, by decide +kernel⟩ rfl hl.1 (Nat.le_of_ble_eq_true rfl) dL_law_4 ⟨(Nat.le_of_ble_eq_true rfl), (Nat.le_of_ble_eq_true rfl)⟩ ⟨(Nat.le_of_ble_eq_true rfl), (Nat.le_of_ble_eq_true rfl)⟩ (fun H locs hLy hS => ?_)
  have hLy : Ly g.1 s.heap.size 246 (cAll g s.heap.size) _ := hLy.congr (fun i hi => by rw [glue_ge (by omega)]; unfold cAll; rw [if_pos hi]; rfl)
  refine lv_astore_n (lv' := [(1, .ref s.heap.size), (0, .ref b)]) hx hb dL_law_7 rfl hl (by decide) rfl (fun ls hl => ?_)
  refine r_new X hLy hS (ci := 7) (fs := [.int 0, .int 0, .null, .null, .null, .null, .null, .null, .null, .int 0, .null, .int 0, .int 0, .int 0, .int 0, .int 0, .int 0, .int 0, .int 0, .null, .null, .null, .null, .int 0]) rfl inX7 tyX7_ok ⟨wd_877, wd_878, wd_66⟩ (fun j hj => by first | (match j, hj with | 0, _ => rfl | 1, _ => rfl | 2, _ => rfl | 3, _ => rfl | 4, _ => rfl | 5, _ => rfl | 6, _ => rfl | 7, _ => rfl | 8, _ => rfl | 9, _ => rfl | 10, _ => rfl | 11, _ => rfl | 12, _ => rfl | 13, _ => rfl | 14, _ => rfl | 15, _ => rfl | 16, _ => rfl | 17, _ => rfl | 18, _ => rfl | 19, _ => rfl | 20, _ => rfl | 21, _ => rfl | 22, _ => rfl | 23, _ => rfl | (q + 24), h => exact absurd h (by omega))) (Nat.le_of_ble_eq_true rfl) (Nat.le_of_ble_eq_true rfl) dL_law_8 (fun H hLy hS => ?_)
  refine lv_dup hx hb dL_law_11 rfl ?_
  refine r_initP X (n := 246) hLy hS hA rfl (k_X7 l _) ⟨wd_881, wd_66, wd_880, wd_879⟩ ⟨by decide +kernel, by decide +kernel, by decide +kernel⟩ rfl hl.1 (Nat.le_of_ble_eq_true rfl) dL_law_12 ⟨(Nat.le_of_ble_eq_true rfl), (Nat.le_of_ble_eq_true rfl)⟩ ⟨(Nat.le_of_ble_eq_true rfl), (Nat.le_of_ble_eq_true rfl)⟩ (fun H locs hLy hS => ?_)
  have hLy : Ly g.1 s.heap.size 259 (cAll g s.heap.size) _ := hLy.congr (fun i hi => by
      by_cases h : i < 246
      · rw [glue_lt h, va_up_ne _ _ (by omega)]
      · rw [glue_ge h]; unfold cAll; rw [if_neg h])
  refine lv_astore_n (lv' := [(2, .ref (s.heap.size + 246)), (1, .ref s.heap.size), (0, .ref b)]) hx hb dL_law_15 rfl hl (by decide) rfl (fun ls hl => ?_)
  refine lv_iconst (v := 0) hx hb dL_law_16 (by decide) ?_
  refine lv_istore_n (lv' := [(3, .int 0), (2, .ref (s.heap.size + 246)), (1, .ref s.heap.size), (0, .ref b)]) hx hb dL_law_17 rfl hl (by decide) rfl (fun ls hl => ?_)
  have hP : va_P g.1 vwCl (WW g h0 k0) H := by rw [hg] at hLy ⊢; exact fin_all hLy
  refine va_forget (fun q hq => hS.2.2 q hq) ?_
  refine W.widen (k := 600000) (n := 7302250) (Nat.le_of_ble_eq_true rfl) (Nat.le_of_ble_eq_true rfl) ?_
  have hS2 : va_S (inA g) s.heap H [] := ⟨hS.1, fun q hq _ => hS.2.1 q hq (by show ¬ s.heap.size ≤ q; omega), fun q hq => absurd hq List.not_mem_nil⟩
  have e203 : g.2.2 203 = s.heap.size := by rw [hg]; rfl
  have e246 : g.2.2 246 = s.heap.size + 246 := by rw [hg]; rfl
  exact law_loop hL Y hr hlocks hX hbl hnew s_row s_set s_copy s_drop s_feed s_estuary s_fault s_undo s_hours s_step s_wind s_wake s_let s_sheet s_cell s_stand s_ahead s_over s_when s_overlap s_walk s_meet s_site s_waking s_meant s_share s_byTurns s_who s_gusts s_lift s_drawn s_image s_restore s_kind s_as s_ask s_trace s_count s_status (L + 6) 0 0 h0 k0 _ [] ls (by omega) (by omega) nI_0.symm s_0 hP hS2 (by rw [e203, e246]; exact lv_sub hl [3, 2, 1, 0] rfl)
