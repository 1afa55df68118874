theorem s_colA_le {f : Nat → Int32} {s l : Nat} : ∀ d j, j ≤ s_colA f s l d j ∧ s_colA f s l d j ≤ j + d := by
  intro d
  induction d with
  | zero => intro j; exact ⟨Nat.le_refl _, Nat.le_refl _⟩
  | succ d ih =>
    intro j
    rw [s_colA]
    split
    · have := ih (j + 1); omega
    · omega
theorem s_col_lt {f : Nat → Int32} {s l q : Nat} (hq : q < 4) : s_col f s l q < 4 := by
  unfold s_col
  split
  · have := @s_colA_le f s l 3 0; omega
  · exact hq
/-- a level that is on offer holds a prize, so the search ends before the fourth colour -/
theorem s_colA_ne {f : Nat → Int32} {s l : Nat} : ∀ d j, (∃ i, j ≤ i ∧ i ≤ j + d ∧ f (24 + 23 * s + (7 + 4 * l + i)) ≠ 0) → f (24 + 23 * s + (7 + 4 * l + s_colA f s l d j)) ≠ 0 := by
  intro d
  induction d with
  | zero =>
    intro j ⟨i, h1, h2, h3⟩
    rw [s_colA]
    rwa [show j = i by omega]
  | succ d ih =>
    intro j ⟨i, h1, h2, h3⟩
    rw [s_colA]
    split
    · rename_i hz
      refine ih (j + 1) ⟨i, ?_, by omega, h3⟩
      rcases Nat.lt_or_eq_of_le h1 with h | h
      · omega
      · subst h; exact absurd hz h3
    · assumption
theorem s_lvl_lt {f : Nat → Int32} {s : Nat} : ∀ {L l : Nat}, s_lvl f s L = some l → l < L ∧ f (24 + 23 * s + (7 + 4 * l + 0)) + f (24 + 23 * s + (7 + 4 * l + 1)) + f (24 + 23 * s + (7 + 4 * l + 2)) + f (24 + 23 * s + (7 + 4 * l + 3)) ≠ 0 := by
  intro L
  induction L with
  | zero => intro l h; cases h
  | succ L ih =>
    intro l h
    rw [s_lvl] at h
    split at h
    · have := ih h; exact ⟨by omega, this.2⟩
    · cases h; exact ⟨by omega, by assumption⟩
theorem s_best_lt {f : Nat → Int32} {s l : Nat} (h : s_best f s = some l) : l < 4 ∧ f (24 + 23 * s + (7 + 4 * l + 0)) + f (24 + 23 * s + (7 + 4 * l + 1)) + f (24 + 23 * s + (7 + 4 * l + 2)) + f (24 + 23 * s + (7 + 4 * l + 3)) ≠ 0 := by
  have h1 := s_lvl_lt h
  have h2 := @grn_lt (f (24 + 23 * s + 1))
  exact ⟨by omega, h1.2⟩
theorem s_best_ex {f : Nat → Int32} {s l : Nat} (hw : SW f s) (h : s_best f s = some l) : ∃ i, 0 ≤ i ∧ i ≤ 0 + 3 ∧ f (24 + 23 * s + (7 + 4 * l + i)) ≠ 0 := by
  have hl := s_best_lt h
  rcases hl with ⟨hl, hn⟩
  have e0 := hw.shelf (4 * l + 0) (by omega)
  have e1 := hw.shelf (4 * l + 1) (by omega)
  have e2 := hw.shelf (4 * l + 2) (by omega)
  have e3 := hw.shelf (4 * l + 3) (by omega)
  rw [show 24 + 23 * s + 7 + (4 * l + 0) = 24 + 23 * s + (7 + 4 * l + 0) by omega] at e0
  rw [show 24 + 23 * s + 7 + (4 * l + 1) = 24 + 23 * s + (7 + 4 * l + 1) by omega] at e1
  rw [show 24 + 23 * s + 7 + (4 * l + 2) = 24 + 23 * s + (7 + 4 * l + 2) by omega] at e2
  rw [show 24 + 23 * s + 7 + (4 * l + 3) = 24 + 23 * s + (7 + 4 * l + 3) by omega] at e3
  rw [Ne, s_four e0 e1 e2 e3] at hn
  by_cases h0 : f (24 + 23 * s + (7 + 4 * l + 0)) = 0
  · by_cases h1 : f (24 + 23 * s + (7 + 4 * l + 1)) = 0
    · by_cases h2 : f (24 + 23 * s + (7 + 4 * l + 2)) = 0
      · exact ⟨3, by omega, by omega, fun h3 => hn ⟨h0, h1, h2, h3⟩⟩
      · exact ⟨2, by omega, by omega, h2⟩
    · exact ⟨1, by omega, by omega, h1⟩
  · exact ⟨0, by omega, by omega, h0⟩
theorem s_col_ne {f : Nat → Int32} {s l q : Nat} (hw : SW f s) (h : s_best f s = some l) : f (24 + 23 * s + (7 + 4 * l + s_col f s l q)) ≠ 0 := by
  unfold s_col
  split
  · exact s_colA_ne 3 0 (s_best_ex hw h)
  · rename_i hz
    intro e
    rw [e] at hz
    exact hz (by decide)
theorem c_colA {c s l : Nat} {σ : Sg} {f : Nat → Int32} (hR : FR c σ f) (hw : WB f) (hs : s < nS f) (hl : l < 4) : ∀ (d j n : Nat), j + d = 3 → d + 1 < n → (∃ i, j ≤ i ∧ i ≤ j + d ∧ f (24 + 23 * s + (7 + 4 * l + i)) ≠ 0) → l_X3_colourOnOffer_17 (c + 13 + 2 * s) n σ (nI l) (nI j) = some (nI (s_colA f s l d j)) := by
  intro d
  induction d with
  | zero =>
    intro j n hj hn ⟨i, h1, h2, h3⟩
    obtain ⟨m, rfl⟩ : ∃ m, n = m + 1 := ⟨n - 1, by omega⟩
    have e := (hw.st s hs).shelf (4 * l + j) (by omega)
    rw [l_X3_colourOnOffer_17.eq_2, if_neg (show ¬ (4 : Int32) ≤ nI j from nI_ge (a := j) (b := 4) (by omega) (by omega)), ix_4, gd_ok rfl (show 4 * l + j < 16 by omega) (by omega), cl_nI (by omega), hR.sh hs hw.s7 (by omega)]
    rw [if_neg]
    · rfl
    · rw [vp_le0 e]
      rwa [show 24 + 23 * s + 7 + (4 * l + j) = 24 + 23 * s + (7 + 4 * l + i) by omega]
  | succ d ih =>
    intro j n hj hn ⟨i, h1, h2, h3⟩
    obtain ⟨m, rfl⟩ : ∃ m, n = m + 1 := ⟨n - 1, by omega⟩
    have e := (hw.st s hs).shelf (4 * l + j) (by omega)
    rw [l_X3_colourOnOffer_17.eq_2, if_neg (show ¬ (4 : Int32) ≤ nI j from nI_ge (a := j) (b := 4) (by omega) (by omega)), ix_4, gd_ok rfl (show 4 * l + j < 16 by omega) (by omega), cl_nI (by omega), hR.sh hs hw.s7 (by omega)]
    simp only [vp_le0 e]
    rw [s_colA, show 24 + 23 * s + 7 + (4 * l + j) = 24 + 23 * s + (7 + 4 * l + j) by omega]
    split
    · rename_i hz
      rw [nI_1]
      refine ih (j + 1) m (by omega) (by omega) ⟨i, ?_, by omega, h3⟩
      rcases Nat.lt_or_eq_of_le h1 with h | h
      · omega
      · subst h; exact absurd hz h3
    · rfl
theorem c_col {c s l q : Nat} {σ : Sg} {f : Nat → Int32} (hR : FR c σ f) (hw : WB f) (hs : s < nS f) (hb : s_best f s = some l) (hq : q < 4) : f_X3_colourOnOffer (c + 13 + 2 * s) σ (nI l) (nI q) = some (nI (s_col f s l q)) := by
  have hl := (s_best_lt hb).1
  unfold f_X3_colourOnOffer s_col
  rw [ix_4, gd_ok rfl (show 4 * l + q < 16 by omega) (by omega), cl_nI (by omega), hR.sh hs hw.s7 (by omega), show 24 + 23 * s + 7 + (4 * l + q) = 24 + 23 * s + (7 + 4 * l + q) by omega]
  split
  · exact c_colA hR hw hs hl 3 0 10000 (by omega) (by omega) (s_best_ex (hw.st s hs) hb)
  · rfl
/-! rain, room, arrivals -/
def s_rain (f : Nat → Int32) (h : Nat) : Int32 := if f 6 - f 6 / 7 * 7 = 6 then (if f (14 + h) + 4 ≤ 9 then f (14 + h) + 4 else 9) else (if f (14 + h) + 0 ≤ 9 then f (14 + h) + 0 else 9)
theorem jmin_9 {x : Int32} : jmin 9 x = if x ≤ 9 then x else 9 := by
  unfold jmin
  simp only [tI_lt, tI_le]
  by_cases h1 : x.toInt < (9 : Int32).toInt
  · rw [if_pos h1, if_pos (by omega)]
  · rw [if_neg h1]
    split
    · exact (tI_eq.mpr (by omega))
    · rfl
theorem c_rain {c h : Nat} {σ : Sg} {f : Nat → Int32} (hR : FR c σ f) (hh : h < 10) : f_X1_rainToday c σ (nI h) = some (s_rain f h) := by
  unfold f_X1_rainToday s_rain
  rw [hR.r6, gd_ok rfl hh (by omega), gd_ok rfl hh (by omega), cl_nI (by omega), hR.rain hh, jmin_9, jmin_9]
  split <;> rfl
def s_crA (f : Nat → Int32) : Nat → Nat → Int32 → Int32
  | 0, _, a => a
  | d + 1, k, a => if f (185 + 8 * k + 4) = -1 then s_crA f d (k + 1) a else s_crA f d (k + 1) (a + 1)
def s_crowd (f : Nat → Int32) : Int32 := s_crA f (nC f) 0 0
theorem s_crA_skip {f : Nat → Int32} {a : Int32} : ∀ (e d k : Nat), (∀ j, k ≤ j → j < k + e → f (185 + 8 * j + 4) = -1) → s_crA f (e + d) k a = s_crA f d (k + e) a := by
  intro e
  induction e with
  | zero => intro d k _; rw [Nat.zero_add]; rfl
  | succ e ih =>
    intro d k h
    rw [show e + 1 + d = e + d + 1 by omega, s_crA, if_pos (h k (by omega) (by omega)), ih d (k + 1) (fun j h1 h2 => h j (by omega) (by omega)), show k + 1 + e = k + (e + 1) by omega]
theorem c_crA {c : Nat} {σ : Sg} {f : Nat → Int32} (hR : FR c σ f) (h9 : vp_in (f 9) 201) : ∀ (d k n : Nat) (a : Int32), k + d = nC f → d < n → l_X0_countHere_7 (c + 4) n σ a (nI k) = some (s_crA f d k a) := by
  have h7 : nC f < 201 := tc_vp h9
  intro d
  induction d with
  | zero =>
    intro k n a hk hn
    obtain ⟨m, rfl⟩ : ∃ m, n = m + 1 := ⟨n - 1, by omega⟩
    rw [l_X0_countHere_7.eq_2, hR.r9, nc_eq h9 (by omega), if_pos (nI_le (by omega) (by omega))]
    rfl
  | succ d ih =>
    intro k n a hk hn
    obtain ⟨m, rfl⟩ : ∃ m, n = m + 1 := ⟨n - 1, by omega⟩
    rw [l_X0_countHere_7.eq_2, hR.r9, nc_eq h9 (by omega), if_neg (nI_ge (by omega) (by omega)), gd_ok rfl (show k < 200 by omega) (by omega), cl_nI (by omega), hR.c4 (by omega), s_crA, nI_1, ih _ _ _ (by omega) (by omega), ih _ _ _ (by omega) (by omega)]
    split <;> rfl
theorem c_crowd {c : Nat} {σ : Sg} {f : Nat → Int32} (hR : FR c σ f) (h9 : vp_in (f 9) 201) : f_X0_countHere (c + 4) σ = some (s_crowd f) := by
  have h7 : nC f < 201 := tc_vp h9
  obtain ⟨ft, h1, h2, h3⟩ := hR.2.1
  unfold f_X0_countHere s_crowd
  rw [h2, c_crA hR h9 (nC f - ft) ft 10000 0 (by omega) (by omega)]
  have := s_crA_skip (f := f) (a := 0) ft (nC f - ft) 0 (fun j _ h => h3 j (by omega))
  rw [show ft + (nC f - ft) = nC f by omega, show 0 + ft = ft by omega] at this
  rw [this]
def s_room (f : Nat → Int32) : Int32 := if 200 ≤ f 9 then 0 else if 40 ≤ s_crowd f then 0 else 1
theorem c_room {c : Nat} {σ : Sg} {f : Nat → Int32} (hR : FR c σ f) (h9 : vp_in (f 9) 201) : f_X0_haveRoom (c + 4) σ = some (s_room f) := by
  unfold f_X0_haveRoom s_room
  rw [hR.r9, c_crowd hR h9, b1_some]
  repeat' split
  all_goals rfl
