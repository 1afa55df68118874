/-! the readers of stalls -/
theorem IV.parts {σ : Sg} (h : IV σ) : ∃ m R hs sn, RC σ (σ 194) m R hs sn ∧ RM σ m R hs sn ∧ OKA (σ 194) m R hs sn := h.2
theorem u10 {τ : Sg} {v : Int32} : u2 τ 193 10 v 194 = τ 194 := u2_cell (by omega)
theorem le00 : (0 : Int32) ≤ 0 := by decide
theorem nle10 : ¬ (1 : Int32) ≤ 0 := by decide
