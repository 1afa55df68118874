def s_why (f : Nat → Int32) (k s : Nat) : Int32 := if f (24 + 23 * s + 2) ≤ f (185 + 8 * k + 0) then (if f (185 + 8 * k + 6) < 2 then (if f (24 + 23 * s + 1) = f (185 + 8 * k + 2) then 0 else if f (24 + 23 * s + 1) = 4 then 0 else if f (185 + 8 * k + 1) < 50 then 5 else 0) else 4) else 3
theorem c_why {c k s : Nat} {σ : Sg} {f : Nat → Int32} (h : FR c σ f) (h7 : nS f ≤ 7) (hc : nC f ≤ 200) (hk : k < nC f) (hs : s < nS f) : f_X0_reasonAgainst (c + 4) (c + 13 + 2 * s) σ (nI k) = some (s_why f k s) := by
  unfold f_X0_reasonAgainst s_why
  rw [gd_ok rfl (show k < 200 by omega) (by omega), cl_nI (by omega), h.s2 hs h7, h.c0 hk, h.c6 hk, h.s1 hs h7, h.c2 hk, h.c1 hk]
  repeat' split
  all_goals rfl
theorem s_why0 {f : Nat → Int32} {k s : Nat} : s_why f k s = 0 ↔ ¬ s_wants f k s = 0 := by
  unfold s_why s_wants s_likes
  have e1 : f (24 + 23 * s + 2) ≤ f (185 + 8 * k + 0) ↔ ¬ f (185 + 8 * k + 0) < f (24 + 23 * s + 2) := by rw [tI_le, tI_lt]; omega
  have e2 : f (185 + 8 * k + 6) < 2 ↔ ¬ 2 ≤ f (185 + 8 * k + 6) := by rw [tI_le, tI_lt]; omega
  have e3 : f (185 + 8 * k + 1) < 50 ↔ ¬ 50 ≤ f (185 + 8 * k + 1) := by rw [tI_le, tI_lt]; omega
  have n3 : ¬ (3 : Int32) = 0 := by decide
  have n4 : ¬ (4 : Int32) = 0 := by decide
  have n5 : ¬ (5 : Int32) = 0 := by decide
  have n1 : ¬ (1 : Int32) = 0 := by decide
  grind
theorem c_pay {c k s : Nat} {σ0 : Sg} {f b : Nat → Int32} {σ : Sg} (h : GR c σ0 f b σ) (h7 : nS f ≤ 7) (hc : nC f ≤ 200) (hk : k < nC f) (hs : s < nS f) : ∃ σ', f_X1_pay c (c + 13 + 2 * s) σ (nI k) = some σ' ∧ GR c σ0 (s_pay f k s) (upd b s 1) σ' := by
  unfold f_X1_pay
  rw [gd_ok rfl (show k < 200 by omega) (by omega), cl_nI (by omega)]
  have h1 := h.c0 (k := k) (v := f (185 + 8 * k + 0) - f (24 + 23 * s + 2)) h7
  rw [st_eq, h.1.c0 hk, h.1.s2 hs h7]
  have n1 : nS (upd f (185 + 8 * k + 0) (f (185 + 8 * k + 0) - f (24 + 23 * s + 2))) = nS f := nS_upd (by omega)
  have m1 : nC (upd f (185 + 8 * k + 0) (f (185 + 8 * k + 0) - f (24 + 23 * s + 2))) = nC f := nC_upd (by omega)
  rw [st_eq, h1.1.c6 (by omega), upd_n (by omega)]
  have h2 := h1.c6 (k := k) (v := f (185 + 8 * k + 6) + 1) (by omega)
  have n2 := nS_upd (f := upd f (185 + 8 * k + 0) (f (185 + 8 * k + 0) - f (24 + 23 * s + 2))) (i := 185 + 8 * k + 6) (v := f (185 + 8 * k + 6) + 1) (by omega)
  rw [st_eq, h2.1.s4 (by omega) (by omega), h2.1.s2 (by omega) (by omega), upd_n (by omega), upd_n (by omega), upd_n (by omega), upd_n (by omega)]
  have h3 := h2.s4 (s := s) (v := f (24 + 23 * s + 4) + f (24 + 23 * s + 2)) (by omega)
  rw [st_eq, h3.1.s5 (by rw [nS_upd (by omega)]; omega) (by rw [nS_upd (by omega)]; omega), upd_n (by omega), upd_n (by omega), upd_n (by omega)]
  have h4 := h3.s5 (s := s) (v := f (24 + 23 * s + 5) + 1) (by omega)
  have h5 := h4.busy (s := s) (v := 1) (by omega)
  rw [st_eq, st_eq, h5.1.r4, h5.1.s2 (by rw [nS_upd (by omega), nS_upd (by omega)]; omega) (by rw [nS_upd (by omega), nS_upd (by omega)]; omega), upd_n (by omega), upd_n (by omega), upd_n (by omega), upd_n (by omega), upd_n (by omega), upd_n (by omega), upd_n (by omega), upd_n (by omega)]
  have h6 := h5.F (i := 4) (v := f 4 + f (24 + 23 * s + 2)) (by omega)
  rw [st_eq, h6.1.r5, upd_n (by omega), upd_n (by omega), upd_n (by omega), upd_n (by omega), upd_n (by omega)]
  have h8 := h6.F (i := 5) (v := f 5 + 1) (by omega)
  refine ⟨_, rfl, ?_⟩
  have e : s_pay f k s = upd (upd (upd (upd (upd (upd f (185 + 8 * k + 0) (f (185 + 8 * k + 0) - f (24 + 23 * s + 2))) (185 + 8 * k + 6) (f (185 + 8 * k + 6) + 1)) (24 + 23 * s + 4) (f (24 + 23 * s + 4) + f (24 + 23 * s + 2))) (24 + 23 * s + 5) (f (24 + 23 * s + 5) + 1)) 4 (f 4 + f (24 + 23 * s + 2))) 5 (f 5 + 1) := by
    funext i
    simp only [s_pay, upd_app]
    grind
  rw [e]
  exact h8
