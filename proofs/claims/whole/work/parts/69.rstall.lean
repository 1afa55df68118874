/-! the readers of stalls -/
theorem IV.parts {σ : Sg} (h : IV σ) : ∃ m R hs sn, RC σ (σ 194) m R hs sn ∧ RM σ m R hs sn ∧ OKA (σ 194) m R hs sn := h.2
theorem rd_at {σ : Sg} {a : Int32} {n : Nat} (hn : n ≤ 1000) (hI : IV σ) {C : Option (Nat ⊕ Int32)} {X : Sg → Option (Int32 × Sg)} (v : Nat → Int32) (h1 : ∀ s, s < n → a = nI s → C = some (.inr (v s)) ∧ ∀ τ : Sg, τ 194 = σ 194 → X τ = some (v s, u2 τ 193 10 0)) (h0 : ¬ vp_in a n → C = some (.inl 1) ∧ ∀ τ : Sg, τ 194 = σ 194 → ∃ y, X τ = some (y, u2 τ 193 10 1)) : ∃ σ', (b2 (bw C (fun k => if k = 1 then (some (1, σ)) else (none)) (fun y4 => st (u2 σ 202 (0 : Int32).toNatClampNeg y4) fun σ5 => some (0, σ5))) fun y2 σ1 => b2 (X σ1) fun y4 σ6 => b1 (f_X5_thrown σ6) fun y7 => if y7 = y2 then (if y2 = 0 then (if (σ6 202 (0 : Int32).toNatClampNeg) = y4 then (some σ6) else (none)) else (some σ6)) else (none)) = some σ' ∧ IV σ' := by
  refine rd_g hI ?_
  by_cases h : vp_in a n
  · obtain ⟨s, hs, e⟩ := vp_s h hn
    obtain ⟨c1, x1⟩ := h1 s hs e
    exact Or.inl ⟨v s, c1, x1 _ (u2_cell (by omega))⟩
  · obtain ⟨c0, x0⟩ := h0 h
    exact Or.inr ⟨c0, x0 σ rfl⟩
theorem rb_at {σ : Sg} {a : Int32} {n : Nat} (hn : n ≤ 1000) (hI : IV σ) {C : Option (Nat ⊕ Int32)} {X : Sg → Option (Int32 × Sg)} (v : Nat → Int32) (h1 : ∀ s, s < n → a = nI s → C = some (.inr (v s)) ∧ ∀ τ : Sg, τ 194 = σ 194 → X τ = some (if v s = 0 then 0 else 1, u2 τ 193 10 0)) (h0 : ¬ vp_in a n → C = some (.inl 1) ∧ ∀ τ : Sg, τ 194 = σ 194 → ∃ y, X τ = some (y, u2 τ 193 10 1)) : ∃ σ', (b2 (bw C (fun k => if k = 1 then (some (1, σ)) else (none)) (fun y4 => if y4 = 0 then (st (u2 σ 202 (0 : Int32).toNatClampNeg 0) fun σ6 => some (0, σ6)) else (st (u2 σ 202 (0 : Int32).toNatClampNeg 1) fun σ8 => some (0, σ8)))) fun y2 σ1 => b2 (X σ1) fun y4 σ6 => b1 (f_X5_thrown σ6) fun y7 => if y7 = y2 then (if y2 = 0 then (if y4 = 0 then (if (σ6 202 (0 : Int32).toNatClampNeg) = 0 then (some σ6) else (none)) else (if (σ6 202 (0 : Int32).toNatClampNeg) = 1 then (some σ6) else (none))) else (some σ6)) else (none)) = some σ' ∧ IV σ' := by
  refine rd_b hI ?_
  by_cases h : vp_in a n
  · obtain ⟨s, hs, e⟩ := vp_s h hn
    obtain ⟨c1, x1⟩ := h1 s hs e
    exact Or.inl ⟨v s, c1, x1 _ (u2_cell (by omega))⟩
  · obtain ⟨c0, x0⟩ := h0 h
    exact Or.inr ⟨c0, x0 σ rfl⟩
theorem u10 {τ : Sg} {v : Int32} : u2 τ 193 10 v 194 = τ 194 := u2_cell (by omega)
theorem le00 : (0 : Int32) ≤ 0 := by decide
theorem nle10 : ¬ (1 : Int32) ≤ 0 := by decide
theorem m_tells1 {τ : Sg} {s : Nat} (w : Nat) (h8 : vp_in (τ 194 8) 8) (hs : s < nS (τ 194)) (hw : w < 23) : f_X5_tells τ (nI s) (nI w) = some (τ 194 (24 + 23 * s + w), u2 τ 193 10 0) := by
  have h7 : nS (τ 194) < 8 := tc_vp h8
  unfold f_X5_tells
  rw [m_stall1 h8 (vp_in_nI hs (by omega)), b1_some, if_neg (by decide), st_eq, u2_rs, if_pos le00, m_it w (by omega), b1_some, u10]
theorem m_tells0 {τ : Sg} {p w : Int32} (h8 : vp_in (τ 194 8) 8) (hs : ¬ vp_in p (nS (τ 194))) : f_X5_tells τ p w = some (0, u2 τ 193 10 1) := by
  unfold f_X5_tells
  rw [m_stall0 h8 hs, b1_some, if_pos rfl, st_eq, u2_rs, if_neg nle10]
theorem kk_19 {σ : Sg} {a1 a2 a3 a4 : Int32} (hI : IV σ) : ∃ σ', g_19 σ a1 a2 a3 a4 = some σ' ∧ IV σ' := by
  obtain ⟨m, R, hs, sn, hc, hr, ok⟩ := hI.parts
  have hw := ok.1.1
  have h7 := hw.s7
  unfold g_19 f_L_pitchOf
  refine rd_at (a := a1) (n := nS (σ 194)) (X := fun τ => f_X5_pitchOf τ a1) (by omega) hI (fun s => σ 194 (24 + 23 * s + 0)) (fun s hs e => ⟨?_, fun τ e4 => ?_⟩) (fun h0 => ⟨?_, fun τ e4 => ⟨0, ?_⟩⟩)
  · subst e
    unfold f_X4_pitchOf
    rw [c_num1 hc.1 hw.ns hs, bt_inr, sg_ok (sk_cell (Or.inl rfl) (by omega)), hc.1.s0 hs h7]
  · subst e
    show f_X5_pitchOf τ (nI s) = _
    unfold f_X5_pitchOf
    rw [show f_X5_tells τ (nI s) 0 = _ from m_tells1 0 (by rw [e4]; exact hw.ns) (by rw [e4]; exact hs) (by omega), b2_some, e4]
  · unfold f_X4_pitchOf
    rw [c_num0 hc.1 hw.ns h0, bt_inl]
  · show f_X5_pitchOf τ a1 = _
    unfold f_X5_pitchOf
    rw [m_tells0 (by rw [e4]; exact hw.ns) (by rw [e4]; exact h0), b2_some]
theorem kk_21 {σ : Sg} {a1 a2 a3 a4 : Int32} (hI : IV σ) : ∃ σ', g_21 σ a1 a2 a3 a4 = some σ' ∧ IV σ' := by
  obtain ⟨m, R, hs, sn, hc, hr, ok⟩ := hI.parts
  have hw := ok.1.1
  have h7 := hw.s7
  unfold g_21 f_L_priceOf
  refine rd_at (a := a1) (n := nS (σ 194)) (X := fun τ => f_X5_priceOf τ a1) (by omega) hI (fun s => σ 194 (24 + 23 * s + 2)) (fun s hs e => ⟨?_, fun τ e4 => ?_⟩) (fun h0 => ⟨?_, fun τ e4 => ⟨0, ?_⟩⟩)
  · subst e
    unfold f_X4_priceOf
    rw [c_num1 hc.1 hw.ns hs, bt_inr, sg_ok (sk_cell (Or.inl rfl) (by omega)), hc.1.s2 hs h7]
  · subst e
    show f_X5_priceOf τ (nI s) = _
    unfold f_X5_priceOf
    rw [show f_X5_tells τ (nI s) 2 = _ from m_tells1 2 (by rw [e4]; exact hw.ns) (by rw [e4]; exact hs) (by omega), b2_some, e4]
  · unfold f_X4_priceOf
    rw [c_num0 hc.1 hw.ns h0, bt_inl]
  · show f_X5_priceOf τ a1 = _
    unfold f_X5_priceOf
    rw [m_tells0 (by rw [e4]; exact hw.ns) (by rw [e4]; exact h0), b2_some]
theorem kk_22 {σ : Sg} {a1 a2 a3 a4 : Int32} (hI : IV σ) : ∃ σ', g_22 σ a1 a2 a3 a4 = some σ' ∧ IV σ' := by
  obtain ⟨m, R, hs, sn, hc, hr, ok⟩ := hI.parts
  have hw := ok.1.1
  have h7 := hw.s7
  unfold g_22 f_L_isOpen
  refine rb_at (a := a1) (n := nS (σ 194)) (X := fun τ => f_X5_isOpen τ a1) (by omega) hI (fun s => σ 194 (24 + 23 * s + 6)) (fun s hs e => ⟨?_, fun τ e4 => ?_⟩) (fun h0 => ⟨?_, fun τ e4 => ⟨(if (0 : Int32) = 1 then 1 else 0), ?_⟩⟩)
  · subst e
    unfold f_X4_isOpen
    rw [c_num1 hc.1 hw.ns hs, bt_inr, sg_ok (sk_cell (Or.inl rfl) (by omega)), hc.1.s6 hs h7, gd_in (hw.st s hs).opn]
  · subst e
    show f_X5_isOpen τ (nI s) = _
    unfold f_X5_isOpen
    rw [show f_X5_tells τ (nI s) 6 = _ from m_tells1 6 (by rw [e4]; exact hw.ns) (by rw [e4]; exact hs) (by omega), b2_some, e4]
    obtain ⟨j, hj, ej⟩ := vp_ex (hw.st s hs).opn (by omega)
    rw [ej]
    have : j = 0 ∨ j = 1 := by omega
    rcases this with rfl | rfl <;> rfl
  · unfold f_X4_isOpen
    rw [c_num0 hc.1 hw.ns h0, bt_inl]
  · show f_X5_isOpen τ a1 = _
    unfold f_X5_isOpen
    rw [m_tells0 (by rw [e4]; exact hw.ns) (by rw [e4]; exact h0), b2_some]
    rfl
theorem kk_23 {σ : Sg} {a1 a2 a3 a4 : Int32} (hI : IV σ) : ∃ σ', g_23 σ a1 a2 a3 a4 = some σ' ∧ IV σ' := by
  obtain ⟨m, R, hs, sn, hc, hr, ok⟩ := hI.parts
  have hw := ok.1.1
  have h7 := hw.s7
  unfold g_23 f_L_purseOfStall
  refine rd_at (a := a1) (n := nS (σ 194)) (X := fun τ => f_X5_purseOfStall τ a1) (by omega) hI (fun s => σ 194 (24 + 23 * s + 4)) (fun s hs e => ⟨?_, fun τ e4 => ?_⟩) (fun h0 => ⟨?_, fun τ e4 => ⟨0, ?_⟩⟩)
  · subst e
    unfold f_X4_purseOfStall
    rw [c_num1 hc.1 hw.ns hs, bt_inr, sg_ok (sk_cell (Or.inl rfl) (by omega)), hc.1.s4 hs h7]
  · subst e
    show f_X5_purseOfStall τ (nI s) = _
    unfold f_X5_purseOfStall
    rw [show f_X5_tells τ (nI s) 4 = _ from m_tells1 4 (by rw [e4]; exact hw.ns) (by rw [e4]; exact hs) (by omega), b2_some, e4]
  · unfold f_X4_purseOfStall
    rw [c_num0 hc.1 hw.ns h0, bt_inl]
  · show f_X5_purseOfStall τ a1 = _
    unfold f_X5_purseOfStall
    rw [m_tells0 (by rw [e4]; exact hw.ns) (by rw [e4]; exact h0), b2_some]
theorem kk_24 {σ : Sg} {a1 a2 a3 a4 : Int32} (hI : IV σ) : ∃ σ', g_24 σ a1 a2 a3 a4 = some σ' ∧ IV σ' := by
  obtain ⟨m, R, hs, sn, hc, hr, ok⟩ := hI.parts
  have hw := ok.1.1
  have h7 := hw.s7
  unfold g_24 f_L_playsOf
  refine rd_at (a := a1) (n := nS (σ 194)) (X := fun τ => f_X5_playsOf τ a1) (by omega) hI (fun s => σ 194 (24 + 23 * s + 5)) (fun s hs e => ⟨?_, fun τ e4 => ?_⟩) (fun h0 => ⟨?_, fun τ e4 => ⟨0, ?_⟩⟩)
  · subst e
    unfold f_X4_playsOf
    rw [c_num1 hc.1 hw.ns hs, bt_inr, sg_ok (sk_cell (Or.inl rfl) (by omega)), hc.1.s5 hs h7]
  · subst e
    show f_X5_playsOf τ (nI s) = _
    unfold f_X5_playsOf
    rw [show f_X5_tells τ (nI s) 5 = _ from m_tells1 5 (by rw [e4]; exact hw.ns) (by rw [e4]; exact hs) (by omega), b2_some, e4]
  · unfold f_X4_playsOf
    rw [c_num0 hc.1 hw.ns h0, bt_inl]
  · show f_X5_playsOf τ a1 = _
    unfold f_X5_playsOf
    rw [m_tells0 (by rw [e4]; exact hw.ns) (by rw [e4]; exact h0), b2_some]
theorem kk_25 {σ : Sg} {a1 a2 a3 a4 : Int32} (hI : IV σ) : ∃ σ', g_25 σ a1 a2 a3 a4 = some σ' ∧ IV σ' := by
  obtain ⟨m, R, hs, sn, hc, hr, ok⟩ := hI.parts
  have hw := ok.1.1
  have h7 := hw.s7
  unfold g_25 f_L_rentOf
  refine rd_at (a := a1) (n := nS (σ 194)) (X := fun τ => f_X5_rentOf τ a1) (by omega) hI (fun s => s_rt (σ 194) s) (fun s hs e => ⟨?_, fun τ e4 => ?_⟩) (fun h0 => ⟨?_, fun τ e4 => ⟨0, ?_⟩⟩)
  · subst e
    unfold f_X4_rentOf
    rw [c_num1 hc.1 hw.ns hs, bt_inr, sg_ok (sk_cell (Or.inl rfl) (by omega))]
    unfold f_X3_rent s_rt
    rw [hc.1.s0 hs h7, b1_some]
  · subst e
    show f_X5_rentOf τ (nI s) = _
    unfold f_X5_rentOf
    rw [m_stall1 (by rw [e4]; exact hw.ns) (vp_in_nI (by rw [e4]; exact hs) (by rw [e4]; omega)), b1_some, if_neg (by decide), st_eq, u2_rs, if_pos le00]
    rw [m_it0 (by omega), b1_some]
    unfold f_X5_rent f_X5_half s_rt
    rw [b1_some, b1_some, u10, e4]
  · unfold f_X4_rentOf
    rw [c_num0 hc.1 hw.ns h0, bt_inl]
  · show f_X5_rentOf τ a1 = _
    unfold f_X5_rentOf
    rw [m_stall0 (by rw [e4]; exact hw.ns) (by rw [e4]; exact h0), b1_some, if_pos rfl, st_eq, u2_rs, if_neg nle10]
theorem kk_28 {σ : Sg} {a1 a2 a3 a4 : Int32} (hI : IV σ) : ∃ σ', g_28 σ a1 a2 a3 a4 = some σ' ∧ IV σ' := by
  obtain ⟨m, R, hs, sn, hc, hr, ok⟩ := hI.parts
  have hw := ok.1.1
  have h7 := hw.s7
  unfold g_28 f_L_shelfOf
  refine rd_at (a := a1) (n := nS (σ 194)) (X := fun τ => f_X5_shelfOf τ a1) (by omega) hI (fun s => s_onShelf (σ 194) s) (fun s hs e => ⟨?_, fun τ e4 => ?_⟩) (fun h0 => ⟨?_, fun τ e4 => ⟨0, ?_⟩⟩)
  · subst e
    unfold f_X4_shelfOf
    rw [c_num1 hc.1 hw.ns hs, bt_inr, sg_ok (sk_cell (Or.inl rfl) (by omega))]
    rw [c_onShelf hc.1 hs h7, b1_some]
  · subst e
    show f_X5_shelfOf τ (nI s) = _
    unfold f_X5_shelfOf
    rw [m_stall1 (by rw [e4]; exact hw.ns) (vp_in_nI (by rw [e4]; exact hs) (by rw [e4]; omega)), b1_some, if_neg (by decide), st_eq, u2_rs, if_pos le00]
    rw [m_onShelf (by omega), b1_some, u10, e4]
  · unfold f_X4_shelfOf
    rw [c_num0 hc.1 hw.ns h0, bt_inl]
  · show f_X5_shelfOf τ a1 = _
    unfold f_X5_shelfOf
    rw [m_stall0 (by rw [e4]; exact hw.ns) (by rw [e4]; exact h0), b1_some, if_pos rfl, st_eq, u2_rs, if_neg nle10]
theorem kk_29 {σ : Sg} {a1 a2 a3 a4 : Int32} (hI : IV σ) : ∃ σ', g_29 σ a1 a2 a3 a4 = some σ' ∧ IV σ' := by
  obtain ⟨m, R, hs, sn, hc, hr, ok⟩ := hI.parts
  have hw := ok.1.1
  have h7 := hw.s7
  unfold g_29 f_L_levelToWin
  refine rd_at (a := a1) (n := nS (σ 194)) (X := fun τ => f_X5_levelToWin τ a1) (by omega) hI (fun s => oI (s_best (σ 194) s)) (fun s hs e => ⟨?_, fun τ e4 => ?_⟩) (fun h0 => ⟨?_, fun τ e4 => ⟨0, ?_⟩⟩)
  · subst e
    unfold f_X4_levelToWin
    rw [c_num1 hc.1 hw.ns hs, bt_inr, sg_ok (sk_cell (Or.inl rfl) (by omega))]
    rw [c_best hc.1 hw hs, b1_some]
  · subst e
    show f_X5_levelToWin τ (nI s) = _
    unfold f_X5_levelToWin
    rw [m_stall1 (by rw [e4]; exact hw.ns) (vp_in_nI (by rw [e4]; exact hs) (by rw [e4]; omega)), b1_some, if_neg (by decide), st_eq, u2_rs, if_pos le00]
    rw [m_best (by omega), b1_some, u10, e4]
  · unfold f_X4_levelToWin
    rw [c_num0 hc.1 hw.ns h0, bt_inl]
  · show f_X5_levelToWin τ a1 = _
    unfold f_X5_levelToWin
    rw [m_stall0 (by rw [e4]; exact hw.ns) (by rw [e4]; exact h0), b1_some, if_pos rfl, st_eq, u2_rs, if_neg nle10]
theorem kk_26 {σ : Sg} {a1 a2 a3 a4 : Int32} (hI : IV σ) : ∃ σ', g_26 σ a1 a2 a3 a4 = some σ' ∧ IV σ' := by
  obtain ⟨m, R, hs, sn, hc, hr, ok⟩ := hI.parts
  have hw := ok.1.1
  have h7 := hw.s7
  unfold g_26 f_L_playsToWin
  refine rd_at (a := a1) (n := nS (σ 194)) (X := fun τ => f_X5_playsToWin τ a1) (by omega) hI (fun s => if evr (σ 194 (24 + 23 * s + 1)) = 0 then -1 else evr (σ 194 (24 + 23 * s + 1)) - (σ 194 (24 + 23 * s + 5) - σ 194 (24 + 23 * s + 5) / evr (σ 194 (24 + 23 * s + 1)) * evr (σ 194 (24 + 23 * s + 1)))) (fun s hs e => ⟨?_, fun τ e4 => ?_⟩) (fun h0 => ⟨?_, fun τ e4 => ⟨0, ?_⟩⟩)
  · subst e
    unfold f_X4_playsToWin
    rw [c_num1 hc.1 hw.ns hs, bt_inr, sg_ok (sk_cell (Or.inl rfl) (by omega))]
    unfold f_X3_playsUntilWin
    rw [(hc.1.2.2.2 s hs).1, hc.1.s5 hs h7]
    split
    · rfl
    · rename_i hne
      rw [nz_ok hne, b1_some]
  · subst e
    show f_X5_playsToWin τ (nI s) = _
    unfold f_X5_playsToWin
    rw [m_stall1 (by rw [e4]; exact hw.ns) (vp_in_nI (by rw [e4]; exact hs) (by rw [e4]; omega)), b1_some, if_neg (by decide), st_eq, u2_rs, if_pos le00]
    rw [m_it1 (by omega), b1_some, m_every, b1_some, m_it5 (by omega), b1_some, u10, e4]
    by_cases hne : evr (σ 194 (24 + 23 * s + 1)) = 0
    · rw [if_pos hne, if_pos le00, if_pos hne]
    · rw [if_neg hne, if_pos le00, if_neg hne, nz_ok hne]
  · unfold f_X4_playsToWin
    rw [c_num0 hc.1 hw.ns h0, bt_inl]
  · show f_X5_playsToWin τ a1 = _
    unfold f_X5_playsToWin
    rw [m_stall0 (by rw [e4]; exact hw.ns) (by rw [e4]; exact h0), b1_some, if_pos rfl, st_eq, u2_rs, if_neg nle10, if_neg nle10]
theorem kk_27 {σ : Sg} {a1 a2 a3 a4 : Int32} (hI : IV σ) : ∃ σ', g_27 σ a1 a2 a3 a4 = some σ' ∧ IV σ' := by
  obtain ⟨m, R, hs, sn, hc, hr, ok⟩ := hI.parts
  have hw := ok.1.1
  have h7 := hw.s7
  unfold g_27 f_L_prizesOn
  refine rd_g (X := fun τ => f_X5_prizesOn τ a1 a2 a3) hI ?_
  have hX0 : ∀ τ : Sg, τ 194 = σ 194 → ¬ (vp_in a1 (nS (σ 194)) ∧ vp_in a2 4 ∧ vp_in a3 4) → ∃ y', f_X5_prizesOn τ a1 a2 a3 = some (y', u2 τ 193 10 1) := by
    intro τ e4 hn
    unfold f_X5_prizesOn
    by_cases h1 : vp_in a1 (nS (σ 194))
    · rw [m_stall1 (by rw [e4]; exact hw.ns) (by rw [e4]; exact h1), b1_some, if_neg (by decide)]
      by_cases h2 : vp_in a2 4
      · rw [m_four1 h2, b1_some, if_neg (by decide)]
        by_cases h3 : vp_in a3 4
        · exact absurd ⟨h1, h2, h3⟩ hn
        · rw [m_four0 h3, b1_some, if_pos rfl, st_eq, u2_rs, if_neg nle10]
          exact ⟨_, rfl⟩
      · rw [m_four0 h2, b1_some, if_pos rfl, st_eq, u2_rs, if_neg nle10]
        exact ⟨_, rfl⟩
    · rw [m_stall0 (by rw [e4]; exact hw.ns) (by rw [e4]; exact h1), b1_some, if_pos rfl, st_eq, u2_rs, if_neg nle10]
      exact ⟨_, rfl⟩
  by_cases h1 : vp_in a1 (nS (σ 194))
  · obtain ⟨s, hs, rfl⟩ := vp_s h1 (by omega)
    by_cases h2 : vp_in a2 4
    · obtain ⟨l, hl, rfl⟩ := vp_s h2 (by omega)
      by_cases h3 : vp_in a3 4
      · obtain ⟨j, hj, rfl⟩ := vp_s h3 (by omega)
        refine Or.inl ⟨σ 194 (24 + 23 * s + (7 + 4 * l + j)), ?_, ?_⟩
        · unfold f_X4_prizesOn
          rw [c_num1 hc.1 hw.ns hs, bt_inr, sg_ok (sk_cell (Or.inl rfl) (by omega)), c_level1 h2, bt_inr, c_colour1 h3, bt_inr, ix_4, gd_ok rfl (show 4 * l + j < 16 by omega) (by omega), cl_nI (by omega), hc.1.sh hs h7 (by omega), show 24 + 23 * s + 7 + (4 * l + j) = 24 + 23 * s + (7 + 4 * l + j) by omega]
        · have e4 : u2 σ 202 0 (σ 194 (24 + 23 * s + (7 + 4 * l + j))) 194 = σ 194 := u2_cell (by omega)
          show f_X5_prizesOn _ (nI s) (nI l) (nI j) = _
          unfold f_X5_prizesOn
          rw [m_stall1 (by rw [e4]; exact hw.ns) (by rw [e4]; exact h1), b1_some, if_neg (by decide), m_four1 h2, b1_some, if_neg (by decide), m_four1 h3, b1_some, if_neg (by decide), st_eq, u2_rs, if_pos le00, m_prizes (by omega) hl hj, b1_some, u10, e4]
      · refine Or.inr ⟨?_, hX0 σ rfl (fun q => h3 q.2.2)⟩
        unfold f_X4_prizesOn
        rw [c_num1 hc.1 hw.ns hs, bt_inr, sg_ok (sk_cell (Or.inl rfl) (by omega)), c_level1 h2, bt_inr, c_colour0 h3, bt_inl]
    · refine Or.inr ⟨?_, hX0 σ rfl (fun q => h2 q.2.1)⟩
      unfold f_X4_prizesOn
      rw [c_num1 hc.1 hw.ns hs, bt_inr, sg_ok (sk_cell (Or.inl rfl) (by omega)), c_level0 h2, bt_inl]
  · refine Or.inr ⟨?_, hX0 σ rfl (fun q => h1 q.1)⟩
    unfold f_X4_prizesOn
    rw [c_num0 hc.1 hw.ns h1, bt_inl]
theorem kk_20 {σ : Sg} {a1 a2 a3 a4 : Int32} (hI : IV σ) : ∃ σ', g_20 σ a1 a2 a3 a4 = some σ' ∧ IV σ' := by
  obtain ⟨m, R, hs, sn, hc, hr, ok⟩ := hI.parts
  have hw := ok.1.1
  unfold g_20 f_L_stallOn
  refine rd_at (a := a1) (n := 12) (X := fun τ => f_X5_stallOn τ a1) (by omega) hI (fun s => oI (s_on (σ 194) (nI s))) (fun s hs e => ⟨?_, fun τ e4 => ?_⟩) (fun h0 => ⟨?_, fun τ e4 => ⟨0, ?_⟩⟩)
  · subst e
    unfold f_X4_stallOn
    rw [c_pitch1 (vp_in_nI hs (by omega)), bt_inr, c_on hc.1 hw.ns, b1_some]
  · subst e
    show f_X5_stallOn τ (nI s) = _
    unfold f_X5_stallOn
    rw [m_pitch1 (vp_in_nI hs (by omega)), b1_some, if_neg (by decide), st_eq, u2_rs, if_pos le00, m_on (by rw [u10, e4]; exact hw.ns), b1_some, u10, e4]
  · unfold f_X4_stallOn
    rw [c_pitch0 h0, bt_inl]
  · show f_X5_stallOn τ a1 = _
    unfold f_X5_stallOn
    rw [m_pitch0 h0, b1_some, if_pos rfl, st_eq, u2_rs, if_neg nle10]
theorem kk_30 {σ : Sg} {a1 a2 a3 a4 : Int32} (hI : IV σ) : ∃ σ', g_30 σ a1 a2 a3 a4 = some σ' ∧ IV σ' := by
  obtain ⟨m, R, hs, sn, hc, hr, ok⟩ := hI.parts
  have hw := ok.1.1
  unfold g_30 f_L_wonOf
  refine rd_at (a := a1) (n := 4) (X := fun τ => f_X5_wonOf τ a1) (by omega) hI (fun s => σ 194 (10 + s)) (fun s hs e => ⟨?_, fun τ e4 => ?_⟩) (fun h0 => ⟨?_, fun τ e4 => ⟨0, ?_⟩⟩)
  · subst e
    unfold f_X4_wonOf
    rw [c_level1 (vp_in_nI hs (by omega)), bt_inr, gd_ok rfl hs (by omega), cl_nI (by omega), hc.1.won hs]
  · subst e
    show f_X5_wonOf τ (nI s) = _
    unfold f_X5_wonOf
    rw [m_four1 (vp_in_nI hs (by omega)), b1_some, if_neg (by decide), st_eq, u2_rs, if_pos le00, show (10 : Int32) = nI 10 from rfl, nI_add, gd_ok rfl (show 10 + s < 1785 by omega) (by omega), cl_nI (by omega), u10, e4]
  · unfold f_X4_wonOf
    rw [c_level0 h0, bt_inl]
  · show f_X5_wonOf τ a1 = _
    unfold f_X5_wonOf
    rw [m_four0 h0, b1_some, if_pos rfl, st_eq, u2_rs, if_neg nle10]
theorem kk_45 {σ : Sg} {a1 a2 a3 a4 : Int32} (hI : IV σ) : ∃ σ', g_45 σ a1 a2 a3 a4 = some σ' ∧ IV σ' := by
  obtain ⟨m, R, hs, sn, hc, hr, ok⟩ := hI.parts
  have hw := ok.1.1
  unfold g_45 f_L_rainIn
  refine rd_at (a := a1) (n := 10) (X := fun τ => f_X5_rainIn τ a1) (by omega) hI (fun s => s_rain (σ 194) s) (fun s hs e => ⟨?_, fun τ e4 => ?_⟩) (fun h0 => ⟨?_, fun τ e4 => ⟨0, ?_⟩⟩)
  · subst e
    unfold f_X4_rainIn
    rw [c_hour1 (vp_in_nI hs (by omega)), bt_inr, c_rain hc.1 hs, b1_some]
  · subst e
    show f_X5_rainIn τ (nI s) = _
    unfold f_X5_rainIn
    rw [m_hour1 (vp_in_nI hs (by omega)), b1_some, if_neg (by decide), st_eq, u2_rs, if_pos le00, m_rain hs, b1_some, u10, e4]
  · unfold f_X4_rainIn
    rw [c_hour0 h0, bt_inl]
  · show f_X5_rainIn τ a1 = _
    unfold f_X5_rainIn
    rw [m_hour0 h0, b1_some, if_pos rfl, st_eq, u2_rs, if_neg nle10]
