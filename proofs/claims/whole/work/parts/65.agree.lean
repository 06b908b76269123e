/-! ===== what the numbers do not touch ===== -/
def Ag (P Q : Rw) : Prop := ∀ j, j ≠ 3 → j ≠ 5 → j ≠ 7 → (∀ s, j ≠ 18 + 6 * s) → P j = Q j
theorem Ag.rf {P : Rw} : Ag P P := fun _ _ _ _ _ => rfl
theorem Ag.tr {P Q S : Rw} (a : Ag P Q) (b : Ag Q S) : Ag P S := fun j h1 h2 h3 h4 => (a j h1 h2 h3 h4).trans (b j h1 h2 h3 h4)
theorem Ag.sy {P Q : Rw} (a : Ag P Q) : Ag Q P := fun j h1 h2 h3 h4 => (a j h1 h2 h3 h4).symm
theorem Ag_nS {P Q : Rw} (a : Ag P Q) : nS P = nS Q := by unfold nS; rw [a 0 (by omega) (by omega) (by omega) (fun s => by omega)]
theorem Ag_wnd {P Q : Rw} {B : Int} (W : WF B P) (a : Ag P Q) : wnd P = wnd Q := by
  have w := wnd_lt W
  unfold wnd
  rw [← a 6 (by omega) (by omega) (by omega) (fun s => by omega), ← a 1 (by omega) (by omega) (by omega) (fun s => by omega)]
  exact a _ (by omega) (by omega) (by omega) (fun s => by omega)
theorem Ag_up {P Q : Rw} {i : Nat} {v : Int} (a : Ag P Q) : Ag (va_up P i v) (va_up Q i v) := fun j h1 h2 h3 h4 => by
  by_cases e : j = i
  · subst e; rw [upR_at, upR_at]
  · rw [upR_ne e, upR_ne e]; exact a j h1 h2 h3 h4
theorem Ag_dft {P Q : Rw} {b : Int} {s : Nat} (a : Ag P Q) : Ag (dft P b s) (dft Q b s) := by
  have e14 := a (14 + 6 * s) (by omega) (by omega) (by omega) (fun s => by omega)
  have e15 := a (15 + 6 * s) (by omega) (by omega) (by omega) (fun s => by omega)
  have e16 := a (16 + 6 * s) (by omega) (by omega) (by omega) (fun s => by omega)
  have e17 := a (17 + 6 * s) (by omega) (by omega) (by omega) (fun s => by omega)
  have e2 := a 2 (by omega) (by omega) (by omega) (fun s => by omega)
  have e6 := a 6 (by omega) (by omega) (by omega) (fun s => by omega)
  have dA : dAt P b s = dAt Q b s := by unfold dAt; rw [e15, e14]
  have dT : dTh P b s = dTh Q b s := by unfold dTh; rw [e17, e14, e6]
  have g : gon P b s = gon Q b s := by unfold gon; rw [dA, dT, e2, e16]
  unfold dft
  rw [g, dA, dT]
  split
  · exact Ag_up a
  · exact Ag_up (Ag_up a)
theorem Ag_dfU {P Q : Rw} {b : Int} (a : Ag P Q) : ∀ n, Ag (dfU P b n) (dfU Q b n)
  | 0 => a
  | n + 1 => by
    have i := Ag_dfU (b := b) a n
    unfold dfU
    rw [i (19 + 6 * n) (by omega) (by omega) (by omega) (fun s => by omega)]
    split
    · exact Ag_dft i
    · exact i
theorem Ag_nmS {P : Rw} {s : Nat} : Ag (nmS P s) P := fun j h1 h2 h3 h4 => nmS_ne h3 (h4 s)
theorem Ag_nmU {P : Rw} : ∀ n, Ag (nmU P n) P
  | 0 => Ag.rf
  | n + 1 => Ag.tr Ag_nmS (Ag_nmU n)
theorem Ag_nmA {P : Rw} : Ag (nmA P) P := by
  unfold nmA
  split
  · exact Ag_nmU _
  · exact Ag.rf
theorem Ag_hr {P Q : Rw} {B : Int} (W : WF B P) (a : Ag P Q) : Ag (hr P) (hr Q) := by
  unfold hr
  rw [Ag_wnd W a, Ag_nS a, a 6 (by omega) (by omega) (by omega) (fun s => by omega)]
  exact Ag_up (Ag.tr Ag_nmA (Ag.tr (Ag_dfU a _) (Ag.sy Ag_nmA)))
theorem Ag_hrN {P Q : Rw} {B : Int} (W : WF B P) (a : Ag P Q) : ∀ n, Ag (hrN P n) (hrN Q n)
  | 0 => a
  | n + 1 => Ag_hr (WF_hrN W n) (Ag_hrN W a n)
theorem Ag_lie {P Q : Rw} {s : Nat} {c : Int} (a : Ag P Q) : lie P s c = lie Q s c := by
  unfold lie
  rw [a (19 + 6 * s) (by omega) (by omega) (by omega) (fun s => by omega), a (15 + 6 * s) (by omega) (by omega) (by omega) (fun s => by omega), a (16 + 6 * s) (by omega) (by omega) (by omega) (fun s => by omega)]
theorem nmB_nmS {P : Rw} {q s : Nat} (h7 : 0 ≤ P 7) : nmB (nmS P q) s = (nmB P s || (decide (s = q) && lie P q (P 3))) := by
  unfold nmS
  by_cases c : (lie P q (P 3) && decide (P (18 + 6 * q) = 0)) = true
  · rw [if_pos c]
    simp only [Bool.and_eq_true, decide_eq_true_eq] at c
    unfold nmB
    by_cases e : s = q
    · subst e
      rw [upR_at, c.1]
      simp
      omega
    · rw [upR_ne (by omega), upR_ne (by omega)]
      simp [e]
  · rw [if_neg c]
    unfold nmB
    by_cases e : s = q
    · subst e
      cases l : lie P s (P 3)
      · simp
      · rw [l] at c
        simp at c
        simp [c]
    · simp [e]
theorem nmB_nmU {B : Int} {P : Rw} (W : WF B P) : ∀ n, n ≤ nS P → ∀ s, nmB (nmU P n) s = (nmB P s || (decide (s < n) && lie P s (P 3)))
  | 0, _, s => by simp [nmU]
  | n + 1, h, s => by
    have i := nmB_nmU W n (by omega) s
    have w7 := (WF_nmU W (n := n) (by omega)).2.2.2.2.2.2.2.1
    unfold nmU
    rw [nmB_nmS (by rw [w7]; omega), i, nmU_0 (j := 3) (by omega) (by omega), Ag_lie (Ag_nmU (P := P) n)]
    by_cases e : s = n
    · subst e
      have a1 : ¬ s < s := by omega
      have a2 : s < s + 1 := by omega
      simp [a1, a2]
    · have a3 : decide (s < n + 1) = decide (s < n) := decide_eq_decide.mpr (by omega)
      rw [a3]
      simp [e]
theorem nmB_hr {B : Int} {P : Rw} (W : WF B P) {s : Nat} (hs : s < nS P) : nmB (hr P) s = (nmB P s || (awk P && lie (hr P) s (P 3))) := by
  have WD := WF_dfU (b := wnd P - 2) W (n := nS P) (Nat.le_refl _)
  have e18 : nmB (dfU P (wnd P - 2) (nS P)) s = nmB P s := by unfold nmB; rw [dfU_lo (fun q _ => by omega)]
  have e3 : dfU P (wnd P - 2) (nS P) 3 = P 3 := dfU_0 (by omega)
  have ea : awk (dfU P (wnd P - 2) (nS P)) = awk P := by unfold awk; rw [dfU_0 (by omega), dfU_0 (by omega)]
  have el : lie (hr P) s (P 3) = lie (dfU P (wnd P - 2) (nS P)) s (P 3) := by
    have e0 : lie (hr P) s (P 3) = lie (nmA (dfU P (wnd P - 2) (nS P))) s (P 3) := by
      unfold hr lie
      rw [upR_ne (by omega), upR_ne (by omega), upR_ne (by omega)]
    rw [e0, Ag_lie Ag_nmA]
  have eb : nmB (hr P) s = nmB (nmA (dfU P (wnd P - 2) (nS P))) s := by
    unfold hr nmB
    rw [upR_ne (by omega)]
  rw [eb, el]
  unfold nmA
  rw [ea]
  by_cases q : awk P = true
  · rw [if_pos q, nmB_nmU WD _ (Nat.le_refl _), e18, e3, nS_dfU, q, decide_eq_true hs]
  · rw [if_neg q, e18]
    have : awk P = false := by simpa using q
    rw [this]
    simp
/-- which have a number behind t hours, were the clerk on cell c -/
def acS (R : Rw) (c : Int) : Nat → Nat → Bool
  | 0, s => nmB R s
  | t + 1, s => acS R c t s || (awk (hrN R t) && lie (hrN R (t + 1)) s c)
theorem Ag_3 {R : Rw} {c : Int} : Ag (va_up R 3 c) R := fun j h1 _ _ _ => upR_ne h1
theorem acS_e {B : Int} {R : Rw} {c : Int} (W : WF B R) (h1 : 0 ≤ c) (h2 : c < R 2) {s : Nat} (hs : s < nS R) : ∀ t, nmB (hrN (va_up R 3 c) t) s = acS R c t s
  | 0 => by unfold hrN acS nmB; rw [upR_ne (by omega)]
  | t + 1 => by
    have WQ : WF B (va_up R 3 c) := W.hd (Or.inl ⟨rfl, h1, h2⟩)
    have i := acS_e W h1 h2 hs t
    have e3 : hrN (va_up R 3 c) t 3 = c := by rw [hrN_0 (by omega) (by omega) (by omega), upR_at]
    have ea : awk (hrN (va_up R 3 c) t) = awk (hrN R t) := by
      have e6 := Ag_hrN WQ (Ag_3 (R := R) (c := c)) t 6 (by omega) (by omega) (by omega) (fun s => by omega)
      unfold awk
      rw [e6, hrN_0 (j := 5) (by omega) (by omega) (by omega), hrN_0 (j := 5) (by omega) (by omega) (by omega), upR_ne (by omega)]
    have u := nmB_hr (WF_hrN WQ t) (s := s) (by rw [nS_hrN]; unfold nS; rw [upR_ne (by omega)]; exact hs)
    show nmB (hr (hrN (va_up R 3 c) t)) s = _
    rw [u, i, ea, e3]
    have el : lie (hr (hrN (va_up R 3 c) t)) s c = lie (hrN R (t + 1)) s c := Ag_lie (Ag_hrN WQ Ag_3 (t + 1))
    rw [el]
    rfl
