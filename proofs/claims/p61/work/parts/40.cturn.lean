/-! the class's turn of a child -/
theorem c_mood {c k : Nat} {σ0 : Sg} {f b : Nat → Int32} {σ : Sg} {v : Int32} (h : GR c σ0 f b σ) (h7 : nS f ≤ 7) (hc : nC f ≤ 200) (hk : k < nC f) : ∃ σ', f_X0_changeMood (c + 4) σ (nI k) v = some σ' ∧ GR c σ0 (s_feels f k v) b σ' := by
  unfold f_X0_changeMood s_feels s_mood
  rw [gd_ok rfl (show k < 200 by omega) (by omega), cl_nI (by omega), h.1.c1 hk]
  split
  · split
    · exact ⟨_, rfl, h.c1 h7⟩
    · exact ⟨_, rfl, h.c1 h7⟩
  · exact ⟨_, rfl, h.c1 h7⟩
theorem c_home {c k : Nat} {σ0 : Sg} {f b : Nat → Int32} {σ : Sg} (h : GR c σ0 f b σ) (h7 : nS f ≤ 7) (hc : nC f ≤ 200) (hk : k < nC f) : ∃ σ', f_X0_goHome (c + 4) σ (nI k) = some σ' ∧ GR c σ0 (s_home f k) b σ' := by
  unfold f_X0_goHome s_home
  rw [gd_ok rfl (show k < 200 by omega) (by omega), cl_nI (by omega)]
  have h1 := h.c4 (k := k) (v := -1) h7 (Or.inl rfl)
  have h2 := h1.c5 (k := k) (v := -1) (by rw [nS_upd (by omega)]; exact h7) (Or.inr rfl)
  exact ⟨_, rfl, h2⟩
theorem upd_self {f : Nat → Int32} {i : Nat} : upd f i (f i) = f := by
  funext j
  rw [upd_app]
  split
  · rename_i h; rw [h]
  · rfl
theorem hw_1 : hw 1 = 0 := rfl
theorem hw_m1 : hw (-1) = 1 := rfl
theorem add_m1 {x : Int32} : x + -1 = x - 1 := (Int32.sub_eq_add_neg x 1).symm
theorem c_moves {c k : Nat} {σ0 : Sg} {f b : Nat → Int32} {σ : Sg} (h : GR c σ0 f b σ) (h7 : nS f ≤ 7) (hc : nC f ≤ 200) (hk : k < nC f) (ha : vp_in (f (185 + 8 * k + 4)) 12) : ∃ σ', f_X0_moveOn (c + 4) σ (nI k) = some σ' ∧ GR c σ0 (s_moves f k) b σ' := by
  have hd := h.1.2.2.1 k hk
  have hf := h.1.c5 hk
  have e4 := h.1.c4 hk
  have h1 := h.c6 (k := k) (v := 0) h7
  have n7 : nS (upd f (185 + 8 * k + 6) 0) ≤ 7 := by rw [nS_upd (by omega)]; exact h7
  have nc : nC (upd f (185 + 8 * k + 6) 0) = nC f := nC_upd (by omega)
  have v4 : upd f (185 + 8 * k + 6) 0 (185 + 8 * k + 4) = f (185 + 8 * k + 4) := upd_n (by omega)
  have v5 : upd f (185 + 8 * k + 6) 0 (185 + 8 * k + 5) = f (185 + 8 * k + 5) := upd_n (by omega)
  have na : f (185 + 8 * k + 4) ≠ -1 := by
    intro e
    rw [e] at ha
    exact ha (Or.inl (by decide))
  unfold f_X0_moveOn s_moves
  rw [gd_ok rfl (show k < 200 by omega) (by omega), cl_nI (by omega), st_eq, u2_rc (by omega), u2_rc (by omega), e4]
  dsimp only
  rw [v5, ← hf]
  obtain ⟨j, hj, ej⟩ := vp_ex ha (by omega)
  rcases hd with hd | hd
  · rw [hd, hw_1, if_pos rfl]
    split
    · rename_i h11
      have h2 := h1.c5 (k := k) (v := -1) n7 (Or.inr rfl)
      rw [hw_m1] at h2
      have h3 := h2.c4 (k := k) (v := f (185 + 8 * k + 4) - 1) (by rw [nS_upd (by omega)]; exact n7) (Or.inr (by rw [upd_n (by omega), v4]; exact na))
      rw [st_eq, u2_rc (by omega), u2_rc (by omega), e4, u2_rs, h11]
      rw [h11] at h3
      exact ⟨_, rfl, h3⟩
    · rename_i h11
      have h3 := h1.c4 (k := k) (v := f (185 + 8 * k + 4) + 1) n7 (Or.inr (by rw [v4]; exact na))
      have e5 : upd (upd f (185 + 8 * k + 6) 0) (185 + 8 * k + 5) 0 = upd f (185 + 8 * k + 6) 0 := by
        have := @upd_self (upd f (185 + 8 * k + 6) 0) (185 + 8 * k + 5)
        rw [v5, ← hf, hd, hw_1] at this
        exact this
      rw [e5, if_pos (by rw [ej, nI_1]; exact nI_le (a := 0) (by omega) (by omega))]
      exact ⟨_, rfl, h3⟩
  · rw [hd, hw_m1, if_neg (show ¬ (1 : Int32) = 0 by decide)]
    by_cases h11 : f (185 + 8 * k + 4) = 11
    · rw [if_pos h11, if_neg (show ¬ f (185 + 8 * k + 4) = 0 by rw [h11]; decide)]
      have h2 := h1.c5 (k := k) (v := -1) n7 (Or.inr rfl)
      rw [hw_m1] at h2
      have e5 : upd (upd f (185 + 8 * k + 6) 0) (185 + 8 * k + 5) 1 = upd f (185 + 8 * k + 6) 0 := by
        have := @upd_self (upd f (185 + 8 * k + 6) 0) (185 + 8 * k + 5)
        rw [v5, ← hf, hd, hw_m1] at this
        exact this
      rw [e5] at h2
      have h3 := h2.c4 (k := k) (v := f (185 + 8 * k + 4) - 1) n7 (Or.inr (by rw [v4]; exact na))
      rw [st_eq, u2_rc (by omega), u2_rc (by omega), e4, u2_rs, h11]
      rw [h11] at h3
      exact ⟨_, rfl, h3⟩
    · rw [if_neg h11]
      by_cases h0 : f (185 + 8 * k + 4) = 0
      · rw [if_pos h0, h0, if_neg (by decide)]
        obtain ⟨σ', x1, x2⟩ := c_home (k := k) h1 n7 (by omega) (by omega)
        rw [x1]
        exact ⟨_, rfl, x2⟩
      · have hj0 : j ≠ 0 := fun e => h0 (by rw [ej, e]; rfl)
        have h3 := h1.c4 (k := k) (v := f (185 + 8 * k + 4) - 1) n7 (Or.inr (by rw [v4]; exact na))
        rw [if_neg h0, if_pos (show (0 : Int32) ≤ f (185 + 8 * k + 4) + -1 by rw [ej, show nI j = nI (j - 1 + 1) by rw [show j - 1 + 1 = j by omega], pk_m1]; exact nI_le (a := 0) (by omega) (by omega)), ← Int32.sub_eq_add_neg]
        exact ⟨_, rfl, h3⟩
