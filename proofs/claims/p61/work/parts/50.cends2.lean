theorem c_rents {c : Nat} : ∀ (d s n : Nat) (σ0 : Sg) (f b : Nat → Int32) (σ : Sg), GR c σ0 f b σ → WB f → Mo f → s + d = nS f → d < n → ∃ σ', l_X1_endDay_9 c n σ (nI s) = some σ' ∧ GR c σ0 (upd (upd (s_rents d s f) 6 (s_rents d s f 6 + 1)) 7 0) b σ' := by
  intro d
  induction d with
  | zero =>
    intro s n σ0 f b σ h hw hm hk hn
    have h7 := hw.s7
    obtain ⟨m, rfl⟩ : ∃ m, n = m + 1 := ⟨n - 1, by omega⟩
    have h1 := h.F (i := 6) (v := f 6 + 1) (by omega)
    rw [l_X1_endDay_9.eq_2, h.1.r8, ns_eq hw.ns (by omega), if_pos (nI_le (by omega) (by omega)), h.1.r6]
    exact ⟨_, rfl, h1.F (i := 7) (by omega)⟩
  | succ d ih =>
    intro s n σ0 f b σ h hw hm hk hn
    have h7 := hw.s7
    obtain ⟨m, rfl⟩ : ∃ m, n = m + 1 := ⟨n - 1, by omega⟩
    have hs : s < nS f := by omega
    have h1 := TW.rent1 hw hm hs
    obtain ⟨j, hj, ej⟩ := vp_ex (hw.st s hs).opn (by omega)
    rw [l_X1_endDay_9.eq_2, h.1.r8, ns_eq hw.ns (by omega), if_neg (nI_ge (by omega) (by omega)), gd_ok rfl (show s < 7 by omega) (by omega), sk_nI (by omega), h.1.s6 hs h7, nI_1, s_rents]
    by_cases h6 : f (24 + 23 * s + 6) = 1
    · obtain ⟨σ1, x1, g1⟩ := c_rent1 h hw hs h6
      rw [if_neg (by rw [h6]; decide), x1, b1_some]
      exact ih (s + 1) m σ0 _ b σ1 g1 h1.1 h1.2.1 (by rw [h1.ns]; omega) (by omega)
    · have hj0 : j = 0 := by
        have : j = 0 ∨ j = 1 := by omega
        rcases this with e | e
        · exact e
        · subst e; exact absurd ej h6
      rw [if_pos (by rw [ej, hj0]; rfl)]
      have e : s_rent1 f s = f := by unfold s_rent1; rw [if_neg h6]
      rw [e]
      exact ih (s + 1) m σ0 f b σ h hw hm (by omega) (by omega)
theorem c_ends {c : Nat} {σ0 : Sg} {f b : Nat → Int32} {σ : Sg} (h : GR c σ0 f b σ) (hw : WB f) (hm : Mo f) : ∃ σ', f_X1_endDay c σ = some σ' ∧ GR c σ0 (s_ends f) b σ' := by
  have h1 := TW.homes (nC f) 0 f hw hm
  have h7 := h1.1.s7
  obtain ⟨σ1, x1, g1⟩ := c_homes h hw hm
  unfold f_X1_endDay
  rw [x1, b1_some]
  obtain ⟨σ2, x2, g2⟩ := c_rents (nS (s_homes (nC f) 0 f)) 0 10000 σ0 _ b σ1 g1 h1.1 h1.2.1 (by omega) (by omega)
  refine ⟨σ2, x2, ?_⟩
  rw [h1.ns] at g2
  exact g2
/-- day's end: the bounds, with the day one on -/
theorem W_ends {f : Nat → Int32} (hw : WB f) (hm : Mo f) (hd : (f 6).toInt < 10000) : WB (s_ends f) ∧ Mo (s_ends f) ∧ s_ends f 3 = f 3 ∧ s_ends f 5 = f 5 ∧ s_ends f 6 = f 6 + 1 ∧ s_ends f 7 = 0 ∧ s_ends f 8 = f 8 ∧ s_ends f 9 = f 9 ∧ (∀ h, h < 10 → s_ends f (14 + h) = f (14 + h)) ∧ (∀ s, s < nS f → s_ends f (24 + 23 * s + 5) = f (24 + 23 * s + 5)) ∧ ∀ k, k < nC f → s_ends f (185 + 8 * k + 4) = -1 := by
  have h1 := TW.homes (nC f) 0 f hw hm
  have h2 := TW.rents (nS f) 0 _ h1.1 h1.2.1 (by rw [h1.ns]; omega)
  have h3 := h1.trans h2
  have h7 := hw.s7
  have hx : ∀ k, k < nC f → s_rents (nS f) 0 (s_homes (nC f) 0 f) (185 + 8 * k + 4) = -1 := by
    intro k hk
    have key : ∀ (d s : Nat) (g : Nat → Int32), s + d ≤ 7 → s_rents d s g (185 + 8 * k + 4) = g (185 + 8 * k + 4) := by
      intro d
      induction d with
      | zero => intro s g _; rfl
      | succ d ih =>
        intro s g hs
        rw [s_rents, ih (s + 1) _ (by omega), s_rent1_o (by omega) (by omega) (by omega)]
    rw [key _ _ _ (by omega)]
    exact s_homes_at _ _ _ k (by omega) (by omega)
  have hg : ∃ g, g = s_rents (nS f) 0 (s_homes (nC f) 0 f) := ⟨_, rfl⟩
  obtain ⟨g, hg⟩ := hg
  rw [← hg] at h3 hx
  have es : s_ends f = upd (upd g 6 (g 6 + 1)) 7 0 := by rw [hg]; rfl
  have o : ∀ i, i ≠ 6 → i ≠ 7 → s_ends f i = g i := fun i h6 h7 => by rw [es, upd_n h7, upd_n h6]
  obtain ⟨gw, gm, ⟨e3, e6, e7, e8, e9⟩, er, ⟨j, hj, e5⟩, ep⟩ := h3
  have hj0 : j = 0 := by omega
  subst hj0
  have v6 : s_ends f 6 = f 6 + 1 := by rw [es, upd_n (by omega), upd_s, e6]
  have v7 : s_ends f 7 = 0 := by rw [es, upd_s]
  have n8 : nS (s_ends f) = nS g := by unfold nS; rw [o 8 (by omega) (by omega)]
  have n9 : nC (s_ends f) = nC g := by unfold nC; rw [o 9 (by omega) (by omega)]
  have m8 : nS g = nS f := by unfold nS; rw [e8]
  have m9 : nC g = nC f := by unfold nC; rw [e9]
  have hd0 := tI_vp hw.day
  refine ⟨?_, ?_, ?_, ?_, v6, v7, ?_, ?_, fun h hh => ?_, fun s hs => ?_, fun k hk => ?_⟩
  · refine ⟨?_, by rw [v7]; exact vp_lit (by decide), by rw [o 8 (by omega) (by omega)]; exact gw.ns, by rw [o 9 (by omega) (by omega)]; exact gw.nc, fun h hh => by rw [o _ (by omega) (by omega)]; exact gw.rain h hh, fun s hs => ?_, fun k hk => ?_⟩
    · rw [v6]
      have e1 : (f 6 + 1).toInt = (f 6).toInt + 1 := by
        rw [tI_add] <;> rw [show (1 : Int32).toInt = 1 from by decide] <;> omega
      exact vp_tI (by omega) (by omega)
    · rw [n8] at hs
      obtain ⟨a1, a2, a3, a4, a5, a6, a7⟩ := gw.st s hs
      refine ⟨?_, ?_, ?_, ?_, ?_, ?_, fun i hi => ?_⟩
      all_goals rw [o _ (by omega) (by omega)]
      all_goals first
        | assumption
        | exact a7 i hi
    · rw [n9] at hk
      obtain ⟨a1, a2, a3, a4, a5, a6⟩ := gw.ch k hk
      refine ⟨?_, ?_, ?_, ?_, ?_, ?_⟩
      · rw [o _ (by omega) (by omega)]; exact a1
      · rw [o _ (by omega) (by omega)]; exact a2
      · rw [o _ (by omega) (by omega)]; exact a3
      · rw [o _ (by omega) (by omega), o (185 + 8 * k + 5) (by omega) (by omega)]; exact a4
      · rw [o _ (by omega) (by omega)]; exact a5
      · rw [o _ (by omega) (by omega)]; exact a6
  · exact gm.frame (o _ (by omega) (by omega)) (o _ (by omega) (by omega)) (o _ (by omega) (by omega)) (o _ (by omega) (by omega)) (o _ (by omega) (by omega)) n8 n9 (fun s hs => o _ (by omega) (by omega)) (fun k hk => o _ (by omega) (by omega))
  · rw [o _ (by omega) (by omega)]; exact e3
  · rw [o _ (by omega) (by omega), e5]; exact Int32.add_zero _
  · rw [o _ (by omega) (by omega)]; exact e8
  · rw [o _ (by omega) (by omega)]; exact e9
  · rw [o _ (by omega) (by omega)]; exact er h hh
  · rw [o _ (by omega) (by omega)]
    obtain ⟨j, hj, ej⟩ := ep s hs
    have hj0 : j = 0 := by omega
    subst hj0
    rw [ej]; exact Int32.add_zero _
  · rw [o _ (by omega) (by omega)]; exact hx k hk
