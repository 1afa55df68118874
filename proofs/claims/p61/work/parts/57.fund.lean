/-! coins into a stall, prizes onto its shelf -/
def s_funds (f : Nat → Int32) (s : Nat) (p : Int32) : Nat → Int32 := upd (upd f 0 (f 0 - p)) (24 + 23 * s + 4) (f (24 + 23 * s + 4) + p)
theorem c_funds {c s : Nat} {σ0 : Sg} {f b : Nat → Int32} {σ : Sg} {p : Int32} (h : GR c σ0 f b σ) (h7 : nS f ≤ 7) (hs : s < nS f) : ∃ σ', f_X1_giveCoins c σ (nI s) p = some σ' ∧ GR c σ0 (s_funds f s p) b σ' := by
  unfold f_X1_giveCoins s_funds
  rw [h.1.r0, st_eq, gd_ok rfl (show s < 7 by omega) (by omega), sk_nI (by omega)]
  have h1 := h.F (i := 0) (v := f 0 - p) (by omega)
  rw [h1.1.s4 (by rw [nS_upd (by omega)]; omega) (by rw [nS_upd (by omega)]; omega), upd_n (by omega), st_eq]
  exact ⟨_, rfl, h1.s4 (by omega)⟩
def s_cost (l : Int32) : Int32 := if l = 0 then 1 else if l = 1 then 3 else if l = 2 then 6 else 10
theorem c_cost {τ : Sg} {l : Int32} : f_X4_costOfPrize τ l = some (s_cost l) := by
  unfold f_X4_costOfPrize s_cost
  repeat' split
  all_goals rfl
def s_stocks (f : Nat → Int32) (s l j : Nat) (q : Int32) : Nat → Int32 := upd (upd (upd f (24 + 23 * s + 4) (f (24 + 23 * s + 4) - q * s_cost (nI l))) 2 (f 2 + q * s_cost (nI l))) (24 + 23 * s + 7 + (4 * l + j)) (f (24 + 23 * s + 7 + (4 * l + j)) + q)
theorem c_stocks {c s l j : Nat} {σ0 : Sg} {f b : Nat → Int32} {σ : Sg} {q : Int32} (h : GR c σ0 f b σ) (h7 : nS f ≤ 7) (hs : s < nS f) (hl : l < 4) (hj : j < 4) : ∃ σ', f_X1_putPrizes c σ (nI s) (nI l) (nI j) q = some σ' ∧ GR c σ0 (s_stocks f s l j q) b σ' := by
  unfold f_X1_putPrizes s_stocks
  rw [c_cost, b1_some, gd_ok rfl (show s < 7 by omega) (by omega), sk_nI (by omega), h.1.s4 hs h7, Int32.mul_comm (s_cost (nI l)) q, st_eq]
  have h1 := h.s4 (s := s) (v := f (24 + 23 * s + 4) - q * s_cost (nI l)) (by omega)
  rw [h1.1.r2, upd_n (by omega), st_eq]
  have h2 := h1.F (i := 2) (v := f 2 + q * s_cost (nI l)) (by omega)
  rw [ix_4, gd_ok rfl (show 4 * l + j < 16 by omega) (by omega), cl_nI (by omega), h2.1.sh (by rw [nS_upd (by omega), nS_upd (by omega)]; omega) (by rw [nS_upd (by omega), nS_upd (by omega)]; omega) (by omega), upd_n (by omega), upd_n (by omega), st_eq]
  exact ⟨_, rfl, h2.sh (by omega) (by omega)⟩
