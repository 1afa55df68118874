/-! sums, and the coins -/
def sm (g : Nat → Int) : Nat → Int
  | 0 => 0
  | n + 1 => sm g n + g n
theorem sm_congr {g h : Nat → Int} : ∀ {n : Nat}, (∀ i, i < n → g i = h i) → sm g n = sm h n := by
  intro n
  induction n with
  | zero => intro _; rfl
  | succ n ih =>
    intro e
    rw [sm, sm, ih (fun i hi => e i (by omega)), e n (by omega)]
theorem sm_upd {g h : Nat → Int} {j : Nat} : ∀ {n : Nat}, j < n → (∀ i, i < n → i ≠ j → h i = g i) → sm h n = sm g n - g j + h j := by
  intro n
  induction n with
  | zero => intro e; omega
  | succ n ih =>
    intro e o
    rw [sm, sm]
    by_cases q : j = n
    · subst q
      rw [sm_congr (g := h) (h := g) (fun i hi => o i (by omega) (by omega))]
      omega
    · rw [ih (by omega) (fun i hi hj => o i (by omega) hj), o n (by omega) (by omega)]
      omega
theorem sm_nn {g : Nat → Int} : ∀ {n : Nat}, (∀ i, i < n → 0 ≤ g i) → 0 ≤ sm g n := by
  intro n
  induction n with
  | zero => intro _; exact Int.le_refl _
  | succ n ih =>
    intro e
    rw [sm]
    have h1 := ih (fun i hi => e i (by omega))
    have h2 := e n (by omega)
    omega
theorem sm_le {g : Nat → Int} {j : Nat} : ∀ {n : Nat}, j < n → (∀ i, i < n → 0 ≤ g i) → g j ≤ sm g n := by
  intro n
  induction n with
  | zero => intro e; omega
  | succ n ih =>
    intro e o
    rw [sm]
    have h2 := o n (by omega)
    by_cases q : j = n
    · subst q
      have := sm_nn (g := g) (n := j) (fun i hi => o i (by omega))
      omega
    · have := ih (by omega) (fun i hi => o i (by omega))
      omega
def pS (f : Nat → Int32) (s : Nat) : Int := (f (24 + 23 * s + 4)).toInt
def pC (f : Nat → Int32) (k : Nat) : Int := (f (185 + 8 * k + 0)).toInt
def Mo (f : Nat → Int32) : Prop := 0 ≤ (f 0).toInt ∧ 0 ≤ (f 1).toInt ∧ 0 ≤ (f 2).toInt ∧ (∀ s, s < nS f → 0 ≤ pS f s) ∧ (∀ k, k < nC f → 0 ≤ pC f k) ∧ (f 0).toInt + (f 1).toInt + (f 2).toInt + sm (pS f) (nS f) + sm (pC f) (nC f) = 500 + (f 3).toInt ∧ (f 3).toInt ≤ 99 * (nC f : Int) ∧ (f 4).toInt = (f 3).toInt - sm (pC f) (nC f)
theorem Mo.frame {f g : Nat → Int32} (h : Mo f) (h0 : g 0 = f 0) (h1 : g 1 = f 1) (h2 : g 2 = f 2) (h3 : g 3 = f 3) (h4 : g 4 = f 4) (h8 : nS g = nS f) (h9 : nC g = nC f) (hs : ∀ s, s < nS f → g (24 + 23 * s + 4) = f (24 + 23 * s + 4)) (hc : ∀ k, k < nC f → g (185 + 8 * k + 0) = f (185 + 8 * k + 0)) : Mo g := by
  obtain ⟨a0, a1, a2, a3, a4, a5, a6, a7⟩ := h
  have es : sm (pS g) (nS g) = sm (pS f) (nS f) := by
    rw [h8]
    exact sm_congr (fun i hi => by unfold pS; rw [hs i hi])
  have ec : sm (pC g) (nC g) = sm (pC f) (nC f) := by
    rw [h9]
    exact sm_congr (fun i hi => by unfold pC; rw [hc i hi])
  refine ⟨by rw [h0]; exact a0, by rw [h1]; exact a1, by rw [h2]; exact a2, fun s hs2 => ?_, fun k hk => ?_, ?_, by rw [h3, h9]; exact a6, ?_⟩
  · rw [h8] at hs2
    unfold pS; rw [hs s hs2]; exact a3 s hs2
  · rw [h9] at hk
    unfold pC; rw [hc k hk]; exact a4 k hk
  · rw [es, ec, h0, h1, h2, h3]; exact a5
  · rw [h4, h3, ec]; exact a7
theorem Mo.bounds {f : Nat → Int32} (h : Mo f) (hw : WB f) : (f 3).toInt ≤ 19800 ∧ sm (pS f) (nS f) ≤ 20300 ∧ sm (pC f) (nC f) ≤ 20300 ∧ 0 ≤ sm (pS f) (nS f) ∧ 0 ≤ sm (pC f) (nC f) ∧ (f 0).toInt ≤ 20300 ∧ (f 1).toInt ≤ 20300 ∧ (f 2).toInt ≤ 20300 ∧ -500 ≤ (f 4).toInt ∧ (f 4).toInt ≤ 19800 ∧ -500 ≤ (f 3).toInt := by
  obtain ⟨a0, a1, a2, a3, a4, a5, a6, a7⟩ := h
  have hc := hw.c200
  have b1 := sm_nn a3
  have b2 := sm_nn a4
  have : (nC f : Int) ≤ 200 := by omega
  refine ⟨?_, ?_, ?_, ?_, ?_, ?_, ?_, ?_, ?_, ?_, ?_⟩ <;> omega
theorem s_pay_v0 {f : Nat → Int32} {k s : Nat} (hs : s < 7) : s_pay f k s (185 + 8 * k + 0) = f (185 + 8 * k + 0) - f (24 + 23 * s + 2) := by
  simp only [s_pay, upd_app]
  grind
theorem s_pay_v4 {f : Nat → Int32} {k s : Nat} (hs : s < 7) : s_pay f k s (24 + 23 * s + 4) = f (24 + 23 * s + 4) + f (24 + 23 * s + 2) := by
  simp only [s_pay, upd_app]
  grind
theorem s_pay_v5 {f : Nat → Int32} {k s : Nat} (hs : s < 7) : s_pay f k s (24 + 23 * s + 5) = f (24 + 23 * s + 5) + 1 := by
  simp only [s_pay, upd_app]
  grind
theorem s_pay_w4 {f : Nat → Int32} {k s : Nat} (hs : s < 7) : s_pay f k s 4 = f 4 + f (24 + 23 * s + 2) := by
  simp only [s_pay, upd_app]
  grind
theorem s_pay_w5 {f : Nat → Int32} {k s : Nat} (hs : s < 7) : s_pay f k s 5 = f 5 + 1 := by
  simp only [s_pay, upd_app]
  grind
theorem Mo.pay {f : Nat → Int32} {k s : Nat} (h : Mo f) (hw : WB f) (hk : k < nC f) (hs : s < nS f) (hp : ¬ f (185 + 8 * k + 0) < f (24 + 23 * s + 2)) : Mo (s_pay f k s) := by
  have hB := h.bounds hw
  obtain ⟨a0, a1, a2, a3, a4, a5, a6, a7⟩ := h
  have h7 := hw.s7
  have hs7 : s < 7 := by omega
  have n1 : nS (s_pay f k s) = nS f := nS_pay hs7
  have m1 : nC (s_pay f k s) = nC f := nC_pay hs7
  have pr := tI_vp (hw.st s hs).price
  have lS : (f (24 + 23 * s + 4)).toInt ≤ sm (pS f) (nS f) := sm_le (g := pS f) hs a3
  have lC : (f (185 + 8 * k + 0)).toInt ≤ sm (pC f) (nC f) := sm_le (g := pC f) hk a4
  have k0 : 0 ≤ (f (185 + 8 * k + 0)).toInt := a4 k hk
  have s0 : 0 ≤ (f (24 + 23 * s + 4)).toInt := a3 s hs
  rw [tI_lt] at hp
  have v0 : (s_pay f k s (185 + 8 * k + 0)).toInt = (f (185 + 8 * k + 0)).toInt - (f (24 + 23 * s + 2)).toInt := by
    rw [s_pay_v0 hs7, tI_sub (by omega) (by omega)]
  have v4 : (s_pay f k s (24 + 23 * s + 4)).toInt = (f (24 + 23 * s + 4)).toInt + (f (24 + 23 * s + 2)).toInt := by
    rw [s_pay_v4 hs7, tI_add (by omega) (by omega)]
  have w4 : (s_pay f k s 4).toInt = (f 4).toInt + (f (24 + 23 * s + 2)).toInt := by
    rw [s_pay_w4 hs7, tI_add (by omega) (by omega)]
  have oS : ∀ i, i < nS f → i ≠ s → pS (s_pay f k s) i = pS f i := by
    intro i hi hj
    unfold pS
    rw [s_pay_o (by omega) (by omega) (by omega) (by omega) (by omega) (by omega)]
  have oC : ∀ i, i < nC f → i ≠ k → pC (s_pay f k s) i = pC f i := by
    intro i hi hj
    unfold pC
    rw [s_pay_o (by omega) (by omega) (by omega) (by omega) (by omega) (by omega)]
  have eS := sm_upd (g := pS f) (h := pS (s_pay f k s)) hs oS
  have eC := sm_upd (g := pC f) (h := pC (s_pay f k s)) hk oC
  have e0 : s_pay f k s 0 = f 0 := s_pay_o (by omega) (by omega) (by omega) (by omega) (by omega) (by omega)
  have e1 : s_pay f k s 1 = f 1 := s_pay_o (by omega) (by omega) (by omega) (by omega) (by omega) (by omega)
  have e2 : s_pay f k s 2 = f 2 := s_pay_o (by omega) (by omega) (by omega) (by omega) (by omega) (by omega)
  have e3 : s_pay f k s 3 = f 3 := s_pay_o (by omega) (by omega) (by omega) (by omega) (by omega) (by omega)
  have xS : pS (s_pay f k s) s = pS f s + (f (24 + 23 * s + 2)).toInt := v4
  have xC : pC (s_pay f k s) k = pC f k - (f (24 + 23 * s + 2)).toInt := v0
  refine ⟨by rw [e0]; exact a0, by rw [e1]; exact a1, by rw [e2]; exact a2, fun t ht => ?_, fun q hq => ?_, ?_, by rw [e3, m1]; exact a6, ?_⟩
  · rw [n1] at ht
    by_cases e : t = s
    · subst e
      rw [xS]
      have := a3 t ht
      omega
    · rw [oS t ht e]; exact a3 t ht
  · rw [m1] at hq
    by_cases e : q = k
    · subst e
      rw [xC]
      unfold pC
      omega
    · rw [oC q hq e]; exact a4 q hq
  · rw [n1, m1, eS, eC, e0, e1, e2, e3, xS, xC]; omega
  · rw [m1, w4, e3, eC, xC]; omega
