theorem nS_pay {f : Nat → Int32} {k s : Nat} (hs : s < 7) : nS (s_pay f k s) = nS f := by
  unfold nS
  rw [s_pay_o (by omega) (by omega) (by omega) (by omega) (by omega) (by omega)]
theorem nC_pay {f : Nat → Int32} {k s : Nat} (hs : s < 7) : nC (s_pay f k s) = nC f := by
  unfold nC
  rw [s_pay_o (by omega) (by omega) (by omega) (by omega) (by omega) (by omega)]
theorem WB.pay {f : Nat → Int32} {k s : Nat} (h : WB f) (hs : s < nS f) (h2 : ¬ 2 ≤ f (185 + 8 * k + 6)) : WB (s_pay f k s) := by
  have h7 := h.s7
  have hs7 : s < 7 := by omega
  refine ⟨?_, ?_, ?_, ?_, fun i hi => ?_, fun t ht => ?_, fun q hq => ?_⟩
  · rw [s_pay_o (by omega) (by omega) (by omega) (by omega) (by omega) (by omega)]; exact h.day
  · rw [s_pay_o (by omega) (by omega) (by omega) (by omega) (by omega) (by omega)]; exact h.rnd
  · rw [s_pay_o (by omega) (by omega) (by omega) (by omega) (by omega) (by omega)]; exact h.ns
  · rw [s_pay_o (by omega) (by omega) (by omega) (by omega) (by omega) (by omega)]; exact h.nc
  · rw [s_pay_o (by omega) (by omega) (by omega) (by omega) (by omega) (by omega)]; exact h.rain i hi
  · rw [nS_pay hs7] at ht
    exact SW.pay hs7 (by omega) (h.st t ht)
  · rw [nC_pay hs7] at hq
    exact CW.pay hs7 (h.ch q hq) (fun _ => h2)
/-- the next play wins: before it, one play is wanting; after it, the plays are a whole number of turns -/
theorem win_iff {k p : Int32} (hk : vp_in k 5) (h4 : k ≠ 4) (hp : vp_in p 100000000) : evr k - (p - p / evr k * evr k) = 1 ↔ (p + 1) - (p + 1) / evr k * evr k = 0 := by
  obtain ⟨n, hn, rfl⟩ := vp_in_of hp (by omega)
  obtain ⟨j, hj, rfl⟩ := vp_ex hk (by omega)
  have hw : ∃ w : Nat, evr (nI j) = nI w ∧ 0 < w ∧ w < 6 := by
    have : j = 0 ∨ j = 1 ∨ j = 2 ∨ j = 3 ∨ j = 4 := by omega
    rcases this with rfl | rfl | rfl | rfl | rfl
    · exact ⟨4, rfl, by omega, by omega⟩
    · exact ⟨3, rfl, by omega, by omega⟩
    · exact ⟨5, rfl, by omega, by omega⟩
    · exact ⟨1, rfl, by omega, by omega⟩
    · exact absurd rfl h4
  obtain ⟨w, e, w0, w6⟩ := hw
  have hm := Nat.mod_lt n w0
  rw [e, nI_1, pk_rem (by omega) w0 (by omega), pk_rem (by omega) w0 (by omega), pk_sub (by omega), show (1 : Int32) = nI 1 from rfl, show (0 : Int32) = nI 0 from rfl, nI_eq (by omega) (by omega), nI_eq (by have := Nat.mod_lt (n + 1) w0; omega) (by omega)]
  have : w = 1 ∨ w = 2 ∨ w = 3 ∨ w = 4 ∨ w = 5 := by omega
  rcases this with rfl | rfl | rfl | rfl | rfl <;> omega
theorem s_give_e {f : Nat → Int32} {k s l j : Nat} {v : Int32} (hs : s < 7) (hl : l < 4) (hj : j < 4) : s_give f k s l j v = s_feels (upd (upd (upd f (24 + 23 * s + 7 + (4 * l + j)) (f (24 + 23 * s + 7 + (4 * l + j)) - 1)) (185 + 8 * k + 7) (f (185 + 8 * k + 7) + 1)) (10 + l) (f (10 + l) + 1)) k v := by
  unfold s_give
  dsimp only
  rw [show 24 + 23 * s + (7 + 4 * l + j) = 24 + 23 * s + 7 + (4 * l + j) by omega, upd_n (by omega), upd_n (by omega), upd_n (by omega)]
theorem c_give {c k s l j : Nat} {σ0 : Sg} {f b : Nat → Int32} {σ : Sg} {v : Int32} (h : GR c σ0 f b σ) (hw : WB f) (hk : k < nC f) (hs : s < nS f) (hl : l < 4) (hj : j < 4) : ∃ σ', f_X1_handOver c (c + 13 + 2 * s) σ (nI k) (nI l) (nI j) = some σ' ∧ ∃ σ'', f_X0_changeMood (c + 4) σ' (nI k) v = some σ'' ∧ GR c σ0 (s_give f k s l j v) b σ'' := by
  have h7 := hw.s7
  have hc := hw.c200
  unfold f_X1_handOver
  rw [ix_4, gd_ok rfl (show 4 * l + j < 16 by omega) (by omega), cl_nI (by omega)]
  have h1 := h.sh (s := s) (i := 4 * l + j) (v := f (24 + 23 * s + 7 + (4 * l + j)) - 1) (by omega) (by omega)
  rw [st_eq, h.1.sh hs h7 (by omega), gd_ok rfl (show k < 200 by omega) (by omega), cl_nI (by omega), st_eq, h1.1.c7 (by rw [nC_upd (by omega)]; omega), upd_n (by omega)]
  have h2 := h1.c7 (k := k) (v := f (185 + 8 * k + 7) + 1) (by rw [nS_upd (by omega)]; omega)
  rw [gd_ok rfl hl (by omega), cl_nI (by omega), st_eq, h2.1.won hl, upd_n (by omega), upd_n (by omega)]
  have h3 := h2.won (i := l) (v := f (10 + l) + 1) hl
  refine ⟨_, rfl, ?_⟩
  obtain ⟨σ'', x1, x2⟩ := c_mood (k := k) (v := v) h3 (by rw [nS_upd (by omega), nS_upd (by omega), nS_upd (by omega)]; omega) (by rw [nC_upd (by omega), nC_upd (by omega), nC_upd (by omega)]; omega) (by rw [nC_upd (by omega), nC_upd (by omega), nC_upd (by omega)]; omega)
  refine ⟨_, x1, ?_⟩
  rw [s_give_e (by omega) hl hj]
  exact x2
theorem c_playsAt {c k s : Nat} {σ0 : Sg} {f b : Nat → Int32} {σ : Sg} (h : GR c σ0 f b σ) (hw : WB f) (hk : k < nC f) (hs : s < nS f) (hp : vp_in (f (24 + 23 * s + 5)) 100000000) (h2 : ¬ 2 ≤ f (185 + 8 * k + 6)) : ∃ σ', f_X1_play c (c + 13 + 2 * s) σ (nI k) = some σ' ∧ GR c σ0 (s_playsAt f k s) (upd b s 1) σ' := by
  have h7 := hw.s7
  have hc := hw.c200
  have hs7 : s < 7 := by omega
  obtain ⟨σ1, x1, g1⟩ := c_pay h h7 hc hk hs
  have hw1 := hw.pay hs h2
  have n1 : nS (s_pay f k s) = nS f := nS_pay hs7
  have m1 : nC (s_pay f k s) = nC f := nC_pay hs7
  have ek : s_pay f k s (24 + 23 * s + 1) = f (24 + 23 * s + 1) := s_pay_o (by omega) (by omega) (by omega) (by omega) (by omega) (by omega)
  have ep : s_pay f k s (24 + 23 * s + 5) = f (24 + 23 * s + 5) + 1 := by
    simp only [s_pay, upd_app]
    grind
  obtain ⟨σ2, y1, k1⟩ := c_mood (k := k) (v := 15) g1 (by omega) (by omega) (by omega)
  obtain ⟨σ3, y2, k2⟩ := c_mood (k := k) (v := -8) g1 (by omega) (by omega) (by omega)
  have hkd := g1.1.s1 (s := s) (by omega) (by omega)
  unfold f_X1_play f_X3_playsUntilWin s_playsAt
  rw [(h.1.2.2.2 s hs).1, h.1.s5 hs h7]
  simp only [x1, b1_some, hkd, y1, y2]
  rw [ek, ep]
  by_cases h4 : f (24 + 23 * s + 1) = 4
  · have e0 : evr (f (24 + 23 * s + 1)) = 0 := by rw [h4]; rfl
    rw [if_pos e0, b1_some, if_neg (show ¬ (-1 : Int32) = 1 by decide), gd_ok rfl (show k < 200 by omega) (by omega), if_pos h4, if_pos h4]
    exact ⟨_, rfl, k1⟩
  · have e0 := evr_ne (hw.st s hs).kind h4
    rw [if_neg e0, nz_ok e0, b1_some]
    have hwi := win_iff (hw.st s hs).kind h4 hp
    by_cases hwn : f (24 + 23 * s + 5) + 1 - (f (24 + 23 * s + 5) + 1) / evr (f (24 + 23 * s + 1)) * evr (f (24 + 23 * s + 1)) = 0
    · rw [if_pos (hwi.mpr hwn), if_neg h4, if_pos hwn, c_best g1.1 hw1 (by omega), b1_some, gd_ok rfl (show k < 200 by omega) (by omega)]
      cases hb : s_best (s_pay f k s) s with
      | none =>
        rw [oI_none, if_pos rfl, if_neg h4]
        exact ⟨_, rfl, k2⟩
      | some l =>
        have hl := (s_best_lt hb).1
        have hCk := hw1.ch k (by omega)
        have hSs := hw1.st s (by omega)
        have hq : s_cq (s_pay f k s) k < 4 := tc_vp hCk.colour
        have hq2 : s_pay f k s (185 + 8 * k + 3) = nI (s_cq (s_pay f k s) k) := tc_eq hCk.colour (by omega)
        have hj := s_col_lt (f := s_pay f k s) (s := s) (l := l) hq
        have hne := s_col_ne (q := s_cq (s_pay f k s) k) hSs hb
        rw [oI_some, if_neg (nI_neg1 (by omega)), cl_nI (by omega), g1.1.c3 (by omega), hq2, c_col g1.1 hw1 (by omega) hb hq, b1_some, if_neg (nI_neg1 (by omega))]
        dsimp only
        unfold s_wins
        by_cases ho : s_pay f k s (24 + 23 * s + (7 + 4 * l + s_cq (s_pay f k s) k)) ≤ 0
        · have hjq : s_col (s_pay f k s) s l (s_cq (s_pay f k s) k) ≠ s_cq (s_pay f k s) k := by
            intro e
            rw [e] at hne
            have e1 := hSs.shelf (4 * l + s_cq (s_pay f k s) k) (by omega)
            rw [show 24 + 23 * s + 7 + (4 * l + s_cq (s_pay f k s) k) = 24 + 23 * s + (7 + 4 * l + s_cq (s_pay f k s) k) by omega] at e1
            exact hne ((vp_le0 e1).mp ho)
          obtain ⟨σ4, z1, σ5, z2, z3⟩ := c_give (v := 20) g1 hw1 (show k < nC (s_pay f k s) by omega) (show s < nS (s_pay f k s) by omega) hl hj
          rw [z1, b1_some, if_neg (fun e => hjq (nI_inj (by omega) (by omega) e)), if_pos ho, show (20 : Int32) + 0 = 20 by decide, z2]
          exact ⟨_, rfl, by rw [if_neg h4]; exact z3⟩
        · have hjq : s_col (s_pay f k s) s l (s_cq (s_pay f k s) k) = s_cq (s_pay f k s) k := by
            unfold s_col
            rw [if_neg ho]
          obtain ⟨σ4, z1, σ5, z2, z3⟩ := c_give (v := 30) g1 hw1 (show k < nC (s_pay f k s) by omega) (show s < nS (s_pay f k s) by omega) hl hj
          rw [z1, b1_some, if_pos (by rw [hjq]), if_neg ho, show (20 : Int32) + 10 = 30 by decide, z2]
          exact ⟨_, rfl, by rw [if_neg h4]; exact z3⟩
    · rw [if_neg (fun q => hwn (hwi.mp q)), if_neg h4, if_neg hwn, gd_ok rfl (show k < 200 by omega) (by omega), if_neg h4]
      exact ⟨_, rfl, k2⟩
