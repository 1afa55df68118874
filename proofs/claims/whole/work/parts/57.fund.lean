/-! coins into a stall, prizes onto its shelf -/
def s_funds (f : Nat → Int32) (s : Nat) (p : Int32) : Nat → Int32 := upd (upd f 0 (f 0 - p)) (24 + 23 * s + 4) (f (24 + 23 * s + 4) + p)
theorem m_funds {τ : Sg} {s : Nat} {p : Int32} (hs : s < 7) : f_X5_funds τ (nI s) p = some (τ 194 (24 + 23 * s + 4) + p, w4 τ (s_funds (τ 194) s p)) := by
  unfold f_X5_funds s_funds
  simp only [lc_0, st_eq, u2_w4, m_it4 hs, m_st4 hs, b1_some, w4_194, w4_w4]
  rw [upd_n (show 24 + 23 * s + 4 ≠ 0 by omega), upd_s]
theorem c_funds {c s : Nat} {σ0 : Sg} {f b : Nat → Int32} {σ : Sg} {p : Int32} (h : GR c σ0 f b σ) (h7 : nS f ≤ 7) (hs : s < nS f) : ∃ σ', f_X1_giveCoins c σ (nI s) p = some σ' ∧ GR c σ0 (s_funds f s p) b σ' := by
  unfold f_X1_giveCoins s_funds
  rw [h.1.r0, st_eq, gd_ok rfl (show s < 7 by omega) (by omega), sk_nI (by omega)]
  have h1 := h.F (i := 0) (v := f 0 - p) (by omega)
  rw [h1.1.s4 (by rw [nS_upd (by omega)]; omega) (by rw [nS_upd (by omega)]; omega), upd_n (by omega), st_eq]
  exact ⟨_, rfl, h1.s4 (by omega)⟩
