/-! the bounds through a turn -/
theorem WB.two {f g : Nat → Int32} (h : WB f) (k s : Nat) (ho : ∀ i, 6 ≤ i → (i < 10 ∨ 14 ≤ i) → (i < 24 + 23 * s ∨ 24 + 23 * s + 23 ≤ i) → (i < 185 + 8 * k ∨ 185 + 8 * k + 8 ≤ i) → g i = f i) (hs : s < nS f → SW g s) (hs7 : s < 7) (hk : k < nC f → CW g k) : WB g := by
  have h7 := h.s7
  have e6 := ho 6 (by omega) (by omega) (by omega) (by omega)
  have e7 := ho 7 (by omega) (by omega) (by omega) (by omega)
  have e8 := ho 8 (by omega) (by omega) (by omega) (by omega)
  have e9 := ho 9 (by omega) (by omega) (by omega) (by omega)
  have en : nS g = nS f := by unfold nS; rw [e8]
  have ec : nC g = nC f := by unfold nC; rw [e9]
  refine ⟨by rw [e6]; exact h.day, by rw [e7]; exact h.rnd, by rw [e8]; exact h.ns, by rw [e9]; exact h.nc, fun i hi => ?_, fun t ht => ?_, fun q hq => ?_⟩
  · rw [ho _ (by omega) (by omega) (by omega) (by omega)]; exact h.rain i hi
  · rw [en] at ht
    by_cases e : t = s
    · subst e; exact hs ht
    · obtain ⟨a1, a2, a3, a4, a5, a6, a7⟩ := h.st t ht
      refine ⟨?_, ?_, ?_, ?_, ?_, ?_, fun i hi => ?_⟩
      all_goals rw [ho _ (by omega) (by omega) (by omega) (by omega)]
      all_goals first
        | assumption
        | exact a7 i hi
  · rw [ec] at hq
    by_cases e : q = k
    · subst e; exact hk hq
    · obtain ⟨a1, a2, a3, a4, a5, a6⟩ := h.ch q hq
      refine ⟨?_, ?_, ?_, ?_, ?_, ?_⟩
      · rw [ho _ (by omega) (by omega) (by omega) (by omega)]; exact a1
      · rw [ho _ (by omega) (by omega) (by omega) (by omega)]; exact a2
      · rw [ho _ (by omega) (by omega) (by omega) (by omega)]; exact a3
      · rw [ho _ (by omega) (by omega) (by omega) (by omega), ho (185 + 8 * q + 5) (by omega) (by omega) (by omega) (by omega)]; exact a4
      · rw [ho _ (by omega) (by omega) (by omega) (by omega)]; exact a5
      · rw [ho _ (by omega) (by omega) (by omega) (by omega)]; exact a6
theorem s_home_o {f : Nat → Int32} {k i : Nat} (h1 : i ≠ 185 + 8 * k + 4) (h2 : i ≠ 185 + 8 * k + 5) : s_home f k i = f i := by
  unfold s_home
  rw [upd_n h2, upd_n h1]
theorem s_home_4 {f : Nat → Int32} {k : Nat} : s_home f k (185 + 8 * k + 4) = -1 := by
  unfold s_home
  rw [upd_n (by omega), upd_s]
theorem s_home_5 {f : Nat → Int32} {k : Nat} : s_home f k (185 + 8 * k + 5) = 1 := by
  unfold s_home
  rw [upd_s]
theorem CW.home {f : Nat → Int32} {k q : Nat} (h : CW f q) : CW (s_home f k) q := by
  obtain ⟨a1, a2, a3, a4, a5, a6⟩ := h
  refine ⟨?_, ?_, ?_, ?_, ?_, ?_⟩
  · rw [s_home_o (by omega) (by omega)]; exact a1
  · rw [s_home_o (by omega) (by omega)]; exact a2
  · rw [s_home_o (by omega) (by omega)]; exact a3
  · by_cases e : q = k
    · subst e
      exact Or.inl ⟨s_home_4, s_home_5⟩
    · rw [s_home_o (by omega) (by omega), s_home_o (by omega) (by omega)]; exact a4
  · by_cases e : q = k
    · subst e
      rw [s_home_5]
      exact vp_lit (by decide)
    · rw [s_home_o (by omega) (by omega)]; exact a5
  · rw [s_home_o (by omega) (by omega)]; exact a6
theorem s_moves_o {f : Nat → Int32} {k i : Nat} (h1 : i ≠ 185 + 8 * k + 4) (h2 : i ≠ 185 + 8 * k + 5) (h3 : i ≠ 185 + 8 * k + 6) : s_moves f k i = f i := by
  unfold s_moves s_home
  try dsimp only
  repeat' split
  all_goals simp only [upd_app, h1, h2, h3, if_false]
theorem CW.moves {f : Nat → Int32} {k : Nat} (h : CW f k) (ha : vp_in (f (185 + 8 * k + 4)) 12) : CW (s_moves f k) k := by
  obtain ⟨a1, a2, a3, a4, a5, a6⟩ := h
  have v5 : upd f (185 + 8 * k + 6) 0 (185 + 8 * k + 5) = f (185 + 8 * k + 5) := upd_n (by omega)
  obtain ⟨j, hj, ej⟩ := vp_ex ha (by omega)
  have e11 : f (185 + 8 * k + 4) = 11 ↔ j = 11 := by rw [ej, show (11 : Int32) = nI 11 from rfl, nI_eq (by omega) (by omega)]
  have e0 : f (185 + 8 * k + 4) = 0 ↔ j = 0 := by rw [ej, show (0 : Int32) = nI 0 from rfl, nI_eq (by omega) (by omega)]
  have em : j ≠ 0 → vp_in (f (185 + 8 * k + 4) - 1) 12 := by
    intro hj0
    rw [ej, show (1 : Int32) = nI 1 from rfl, pk_sub (by omega)]
    exact vp_in_nI (by omega) (by omega)
  have ep : j ≠ 11 → vp_in (f (185 + 8 * k + 4) + 1) 12 := by
    intro hj0
    rw [ej, nI_1]
    exact vp_in_nI (by omega) (by omega)
  refine ⟨?_, ?_, ?_, ?_, ?_, ?_⟩
  · rw [s_moves_o (by omega) (by omega) (by omega)]; exact a1
  · rw [s_moves_o (by omega) (by omega) (by omega)]; exact a2
  · rw [s_moves_o (by omega) (by omega) (by omega)]; exact a3
  · unfold s_moves
    try dsimp only
    rw [v5]
    split
    · split
      · rename_i q
        rw [upd_s]
        exact Or.inr (em (by have := e11.mp q; omega))
      · rename_i q
        rw [upd_s]
        exact Or.inr (ep (fun e => q (e11.mpr e)))
    · split
      · exact Or.inl ⟨s_home_4, s_home_5⟩
      · rename_i q
        rw [upd_s]
        exact Or.inr (em (fun e => q (e0.mpr e)))
  · unfold s_moves
    try dsimp only
    rw [v5]
    split
    · split
      · rw [upd_n (by omega), upd_s]; exact vp_lit (by decide)
      · rw [upd_n (by omega), upd_s]; exact vp_lit (by decide)
    · split
      · rw [s_home_5]; exact vp_lit (by decide)
      · rw [upd_n (by omega), v5]; exact a5
  · unfold s_moves
    try dsimp only
    rw [v5]
    repeat' split
    · rw [upd_n (by omega), upd_n (by omega), upd_s]; exact vp_lit (by decide)
    · rw [upd_n (by omega), upd_n (by omega), upd_s]; exact vp_lit (by decide)
    · rw [s_home_o (by omega) (by omega), upd_s]; exact vp_lit (by decide)
    · rw [upd_n (by omega), upd_s]; exact vp_lit (by decide)
/-! the shelf loses one -/
theorem s_give_o {f : Nat → Int32} {k s l j i : Nat} {v : Int32} (hs : s < 7) (hl : l < 4) (hj : j < 4) (h1 : i ≠ 24 + 23 * s + 7 + (4 * l + j)) (h2 : i ≠ 185 + 8 * k + 7) (h3 : i ≠ 10 + l) (h4 : i ≠ 185 + 8 * k + 1) : s_give f k s l j v i = f i := by
  rw [s_give_e hs hl hj, s_feels_o h4, upd_n h3, upd_n h2, upd_n h1]
theorem SW.give {f : Nat → Int32} {k s l j : Nat} {v : Int32} (hs : s < 7) (hl : l < 4) (hj : j < 4) (h : SW f s) (hn : f (24 + 23 * s + 7 + (4 * l + j)) ≠ 0) : SW (s_give f k s l j v) s := by
  obtain ⟨a1, a2, a3, a4, a5, a6, a7⟩ := h
  refine ⟨?_, ?_, ?_, ?_, ?_, ?_, fun i hi => ?_⟩
  · rw [s_give_o hs hl hj (by omega) (by omega) (by omega) (by omega)]; exact a1
  · rw [s_give_o hs hl hj (by omega) (by omega) (by omega) (by omega)]; exact a2
  · rw [s_give_o hs hl hj (by omega) (by omega) (by omega) (by omega)]; exact a3
  · rw [s_give_o hs hl hj (by omega) (by omega) (by omega) (by omega)]; exact a4
  · rw [s_give_o hs hl hj (by omega) (by omega) (by omega) (by omega)]; exact a5
  · rw [s_give_o hs hl hj (by omega) (by omega) (by omega) (by omega)]; exact a6
  · by_cases e : i = 4 * l + j
    · subst e
      rw [s_give_e hs hl hj, s_feels_o (by omega), upd_n (by omega), upd_n (by omega), upd_s]
      obtain ⟨q, hq, eq⟩ := vp_ex (a7 _ hi) (by omega)
      have : q ≠ 0 := fun e => hn (by rw [eq, e]; rfl)
      rw [eq, show (1 : Int32) = nI 1 from rfl, pk_sub (by omega)]
      exact vp_in_nI (by omega) (by omega)
    · rw [s_give_o hs hl hj (by omega) (by omega) (by omega) (by omega)]; exact a7 i hi
theorem CW.give {f : Nat → Int32} {k s l j : Nat} {v : Int32} (hs : s < 7) (hl : l < 4) (hj : j < 4) (h : CW f k) : CW (s_give f k s l j v) k := by
  rw [s_give_e hs hl hj]
  apply CW.feels
  obtain ⟨a1, a2, a3, a4, a5, a6⟩ := h
  refine ⟨?_, ?_, ?_, ?_, ?_, ?_⟩
  · rw [upd_n (by omega), upd_n (by omega), upd_n (by omega)]; exact a1
  · rw [upd_n (by omega), upd_n (by omega), upd_n (by omega)]; exact a2
  · rw [upd_n (by omega), upd_n (by omega), upd_n (by omega)]; exact a3
  · rw [upd_n (by omega), upd_n (by omega), upd_n (by omega), upd_n (by omega), upd_n (by omega), upd_n (by omega)]; exact a4
  · rw [upd_n (by omega), upd_n (by omega), upd_n (by omega)]; exact a5
  · rw [upd_n (by omega), upd_n (by omega), upd_n (by omega)]; exact a6
