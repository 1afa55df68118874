theorem nS_feels {f : Nat → Int32} {k : Nat} {v : Int32} : nS (s_feels f k v) = nS f := nS_upd (by omega)
theorem nC_feels {f : Nat → Int32} {k : Nat} {v : Int32} : nC (s_feels f k v) = nC f := nC_upd (by omega)
theorem WB.feels {f : Nat → Int32} {k : Nat} {v : Int32} (h : WB f) : WB (s_feels f k v) := by
  have h7 := h.s7
  refine ⟨?_, ?_, ?_, ?_, fun i hi => ?_, fun t ht => ?_, fun q hq => ?_⟩
  · rw [s_feels_o (by omega)]; exact h.day
  · rw [s_feels_o (by omega)]; exact h.rnd
  · rw [s_feels_o (by omega)]; exact h.ns
  · rw [s_feels_o (by omega)]; exact h.nc
  · rw [s_feels_o (by omega)]; exact h.rain i hi
  · rw [nS_feels] at ht
    exact SW.feels (by omega) (h.st t ht)
  · rw [nC_feels] at hq
    exact CW.feels (h.ch q hq)
theorem sk_cell {c s : Nat} (hc : c = 1 ∨ c = 28 ∨ c = 55) (hs : s < 7) : sh (c + 13 + 2 * s) = (3, 0) := by
  have : s = 0 ∨ s = 1 ∨ s = 2 ∨ s = 3 ∨ s = 4 ∨ s = 5 ∨ s = 6 := by omega
  rcases hc with rfl | rfl | rfl <;> rcases this with rfl | rfl | rfl | rfl | rfl | rfl | rfl <;> rfl
theorem sg_ok {α : Type} {k q : Nat} {x : Option α} (h : sh k = (q, 0)) : sg k q x = x := if_pos h
/-- the turn after the mood's step: g is the row then -/
theorem c_actT {c k s : Nat} {σ0 : Sg} {g b : Nat → Int32} {σ : Sg} (h : GR c σ0 g b σ) (hw : WB g) (hk : k < nC g) (hs : s < nS g) (hp : vp_in (g (24 + 23 * s + 5)) 100000000) (ha : vp_in (g (185 + 8 * k + 4)) 12) : ∃ σ', (if (σ ((c + 4) + 2) (nI k).toNatClampNeg) = 0 then (b1 (f_X0_goHome (c + 4) σ (nI k)) fun σ40 => some σ40) else (if (σ (c + 13 + 2 * s) 9) = 0 then (b1 (f_X0_reasonAgainst (c + 4) (c + 13 + 2 * s) σ (nI k)) fun y42 => if y42 = 0 then (b1 (f_X1_play c (c + 13 + 2 * s) σ (nI k)) fun σ47 => some σ47) else (b1 (f_X0_moveOn (c + 4) σ (nI k)) fun σ50 => some σ50)) else (b1 (f_X0_moveOn (c + 4) σ (nI k)) fun σ53 => some σ53))) = some σ' ∧ GR c σ0 (if g (185 + 8 * k + 1) = 0 then s_home g k else match (if g (185 + 8 * k + 1) = 0 then none else if s_wants g k s = 0 then none else if b s = 0 then some s else none : Option Nat) with
    | none => s_moves g k
    | some s => s_playsAt g k s) (match (if g (185 + 8 * k + 1) = 0 then none else if s_wants g k s = 0 then none else if b s = 0 then some s else none : Option Nat) with
    | none => b
    | some s => upd b s 1) σ' := by
  have h7 := hw.s7
  have hc := hw.c200
  rw [cl_nI (by omega), h.1.c1 hk, h.2.1 s hs, c_why h.1 h7 hc hk hs]
  obtain ⟨σ1, x1, g1⟩ := c_home h h7 hc hk
  obtain ⟨σ2, x2, g2⟩ := c_moves h h7 hc hk ha
  rw [x1, x2]
  simp only [b1_some]
  by_cases h0 : g (185 + 8 * k + 1) = 0
  · simp only [if_pos h0]
    exact ⟨_, rfl, g1⟩
  · simp only [if_neg h0]
    by_cases hb : b s = 0
    · simp only [if_pos hb]
      by_cases hn : s_wants g k s = 0
      · rw [if_neg (fun q => (s_why0.mp q) hn)]
        simp only [if_pos hn]
        exact ⟨_, rfl, g2⟩
      · rw [if_pos (s_why0.mpr hn)]
        simp only [if_neg hn]
        obtain ⟨σ3, x3, g3⟩ := c_playsAt h hw hk hs hp (s_wants_2 hn).2.1
        rw [x3]
        exact ⟨_, rfl, g3⟩
    · simp only [if_neg hb, ite_self]
      exact ⟨_, rfl, g2⟩
theorem c_acts {c k : Nat} {r : Int32} {σ0 : Sg} {f b : Nat → Int32} {σ : Sg} (hcc : c = 1 ∨ c = 28 ∨ c = 55) (h : GR c σ0 f b σ) (hw : WB f) (hk : k < nC f) (hp : ∀ s, s < nS f → vp_in (f (24 + 23 * s + 5)) 100000000) (ha : vp_in (f (185 + 8 * k + 4)) 12) : ∃ σ', f_X1_takeTurn c σ (nI k) r = some σ' ∧ GR c σ0 (s_act f b r k) (s_actB f b r k) σ' := by
  have h7 := hw.s7
  have hc := hw.c200
  obtain ⟨σ1, x1, g1⟩ := c_mood (v := -(r / 2)) h h7 hc hk
  have hw1 := hw.feels (k := k) (v := -(r / 2))
  have n1 : nS (s_feels f k (-(r / 2))) = nS f := nS_feels
  have m1 : nC (s_feels f k (-(r / 2))) = nC f := nC_feels
  have ha1 : vp_in (s_feels f k (-(r / 2)) (185 + 8 * k + 4)) 12 := by rw [s_feels_o (by omega)]; exact ha
  unfold f_X1_takeTurn s_act s_actB s_actP s_actS
  rw [gd_ok rfl (show k < 200 by omega) (by omega), cl_nI (by omega), h.1.c4 hk, c_openOn h.1 hw.ns (fun s hs => (hw.st s hs).opn), b1_some, x1]
  cases ho : s_openOn f (f (185 + 8 * k + 4)) with
  | none =>
    dsimp only
    rw [if_pos rfl, b1_some, g1.1.c1 (by omega)]
    obtain ⟨σ2, x2, g2⟩ := c_home g1 (by omega) (by omega) (show k < nC (s_feels f k (-(r / 2))) by omega)
    obtain ⟨σ3, x3, g3⟩ := c_moves g1 (by omega) (by omega) (show k < nC (s_feels f k (-(r / 2))) by omega) ha1
    rw [x2, x3]
    split
    · exact ⟨_, rfl, g2⟩
    · exact ⟨_, rfl, g3⟩
  | some s =>
    obtain ⟨q1, q2, q3⟩ := s_openOn_lt ho
    dsimp only
    rw [if_neg (show ¬ c + 13 + 2 * s = 0 by omega), sg_ok (sk_cell hcc (by omega)), h.1.s3 q1 h7]
    by_cases hr : f (24 + 23 * s + 3) = 0
    · simp only [if_pos hr, b1_some]
      have hp1 : vp_in (s_feels f k (-(r / 2)) (24 + 23 * s + 5)) 100000000 := by rw [s_feels_o (by omega)]; exact hp s q1
      have := c_actT g1 hw1 (show k < nC (s_feels f k (-(r / 2))) by omega) (show s < nS (s_feels f k (-(r / 2))) by omega) hp1 ha1
      rw [cl_nI (by omega)] at this
      exact this
    · simp only [if_neg hr]
      have := c_actT h hw hk q1 (hp s q1) ha
      rw [cl_nI (by omega)] at this
      exact this
