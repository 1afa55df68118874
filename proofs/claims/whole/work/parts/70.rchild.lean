/-! the readers of children -/
theorem m_tof1 {τ : Sg} {k : Nat} (w : Nat) (h9 : vp_in (τ 194 9) 201) (hk : k < nC (τ 194)) (hw : w < 8) : f_X5_tellsOf τ (nI k) (nI w) = some (τ 194 (185 + 8 * k + w), u2 τ 193 10 0) := by
  have h7 : nC (τ 194) < 201 := tc_vp h9
  unfold f_X5_tellsOf
  rw [m_child1 h9 (vp_in_nI hk (by omega)), b1_some, if_neg (by decide), st_eq, u2_rs, if_pos le00, m_of' w (by omega), b1_some, u10]
theorem m_tof0 {τ : Sg} {p w : Int32} (h9 : vp_in (τ 194 9) 201) (hs : ¬ vp_in p (nC (τ 194))) : f_X5_tellsOf τ p w = some (0, u2 τ 193 10 1) := by
  unfold f_X5_tellsOf
  rw [m_child0 h9 hs, b1_some, if_pos rfl, st_eq, u2_rs, if_neg nle10]
theorem kk_34 {σ : Sg} {a1 a2 a3 a4 : Int32} (hI : IV σ) : ∃ σ', g_34 σ a1 a2 a3 a4 = some σ' ∧ IV σ' := by
  obtain ⟨m, R, hs, sn, hc, hr, ok⟩ := hI.parts
  have hw := ok.1.1
  have h7 := hw.c200
  unfold g_34 f_L_purseOf
  refine rd_at (a := a1) (n := nC (σ 194)) (X := fun τ => f_X5_purseOf τ a1) (by omega) hI (fun k => σ 194 (185 + 8 * k + 0)) (fun k hk e => ⟨?_, fun τ e4 => ?_⟩) (fun h0 => ⟨?_, fun τ e4 => ⟨0, ?_⟩⟩)
  · subst e
    unfold f_X4_purseOf
    rw [c_nch1 hc.1 hw.nc (vp_in_nI hk (by omega)), bt_inr, gd_ok rfl (show k < 200 by omega) (by omega), cl_nI (by omega), hc.1.c0 hk]
  · subst e
    show f_X5_purseOf τ (nI k) = _
    unfold f_X5_purseOf
    rw [show f_X5_tellsOf τ (nI k) 0 = _ from m_tof1 0 (by rw [e4]; exact hw.nc) (by rw [e4]; exact hk) (by omega), b2_some, e4]
  · unfold f_X4_purseOf
    rw [c_nch0 hc.1 hw.nc h0, bt_inl]
  · show f_X5_purseOf τ a1 = _
    unfold f_X5_purseOf
    rw [m_tof0 (by rw [e4]; exact hw.nc) (by rw [e4]; exact h0), b2_some]
theorem kk_35 {σ : Sg} {a1 a2 a3 a4 : Int32} (hI : IV σ) : ∃ σ', g_35 σ a1 a2 a3 a4 = some σ' ∧ IV σ' := by
  obtain ⟨m, R, hs, sn, hc, hr, ok⟩ := hI.parts
  have hw := ok.1.1
  have h7 := hw.c200
  unfold g_35 f_L_moodOf
  refine rd_at (a := a1) (n := nC (σ 194)) (X := fun τ => f_X5_moodOf τ a1) (by omega) hI (fun k => σ 194 (185 + 8 * k + 1)) (fun k hk e => ⟨?_, fun τ e4 => ?_⟩) (fun h0 => ⟨?_, fun τ e4 => ⟨0, ?_⟩⟩)
  · subst e
    unfold f_X4_moodOf
    rw [c_nch1 hc.1 hw.nc (vp_in_nI hk (by omega)), bt_inr, gd_ok rfl (show k < 200 by omega) (by omega), cl_nI (by omega), hc.1.c1 hk]
  · subst e
    show f_X5_moodOf τ (nI k) = _
    unfold f_X5_moodOf
    rw [show f_X5_tellsOf τ (nI k) 1 = _ from m_tof1 1 (by rw [e4]; exact hw.nc) (by rw [e4]; exact hk) (by omega), b2_some, e4]
  · unfold f_X4_moodOf
    rw [c_nch0 hc.1 hw.nc h0, bt_inl]
  · show f_X5_moodOf τ a1 = _
    unfold f_X5_moodOf
    rw [m_tof0 (by rw [e4]; exact hw.nc) (by rw [e4]; exact h0), b2_some]
theorem kk_36 {σ : Sg} {a1 a2 a3 a4 : Int32} (hI : IV σ) : ∃ σ', g_36 σ a1 a2 a3 a4 = some σ' ∧ IV σ' := by
  obtain ⟨m, R, hs, sn, hc, hr, ok⟩ := hI.parts
  have hw := ok.1.1
  have h7 := hw.c200
  unfold g_36 f_L_placeOf
  refine rd_at (a := a1) (n := nC (σ 194)) (X := fun τ => f_X5_placeOf τ a1) (by omega) hI (fun k => σ 194 (185 + 8 * k + 4)) (fun k hk e => ⟨?_, fun τ e4 => ?_⟩) (fun h0 => ⟨?_, fun τ e4 => ⟨0, ?_⟩⟩)
  · subst e
    unfold f_X4_placeOf
    rw [c_nch1 hc.1 hw.nc (vp_in_nI hk (by omega)), bt_inr, gd_ok rfl (show k < 200 by omega) (by omega), cl_nI (by omega), hc.1.c4 hk]
  · subst e
    show f_X5_placeOf τ (nI k) = _
    unfold f_X5_placeOf
    rw [show f_X5_tellsOf τ (nI k) 4 = _ from m_tof1 4 (by rw [e4]; exact hw.nc) (by rw [e4]; exact hk) (by omega), b2_some, e4]
  · unfold f_X4_placeOf
    rw [c_nch0 hc.1 hw.nc h0, bt_inl]
  · show f_X5_placeOf τ a1 = _
    unfold f_X5_placeOf
    rw [m_tof0 (by rw [e4]; exact hw.nc) (by rw [e4]; exact h0), b2_some]
theorem kk_38 {σ : Sg} {a1 a2 a3 a4 : Int32} (hI : IV σ) : ∃ σ', g_38 σ a1 a2 a3 a4 = some σ' ∧ IV σ' := by
  obtain ⟨m, R, hs, sn, hc, hr, ok⟩ := hI.parts
  have hw := ok.1.1
  have h7 := hw.c200
  unfold g_38 f_L_prizesOf
  refine rd_at (a := a1) (n := nC (σ 194)) (X := fun τ => f_X5_prizesOf τ a1) (by omega) hI (fun k => σ 194 (185 + 8 * k + 7)) (fun k hk e => ⟨?_, fun τ e4 => ?_⟩) (fun h0 => ⟨?_, fun τ e4 => ⟨0, ?_⟩⟩)
  · subst e
    unfold f_X4_prizesOf
    rw [c_nch1 hc.1 hw.nc (vp_in_nI hk (by omega)), bt_inr, gd_ok rfl (show k < 200 by omega) (by omega), cl_nI (by omega), hc.1.c7 hk]
  · subst e
    show f_X5_prizesOf τ (nI k) = _
    unfold f_X5_prizesOf
    rw [show f_X5_tellsOf τ (nI k) 7 = _ from m_tof1 7 (by rw [e4]; exact hw.nc) (by rw [e4]; exact hk) (by omega), b2_some, e4]
  · unfold f_X4_prizesOf
    rw [c_nch0 hc.1 hw.nc h0, bt_inl]
  · show f_X5_prizesOf τ a1 = _
    unfold f_X5_prizesOf
    rw [m_tof0 (by rw [e4]; exact hw.nc) (by rw [e4]; exact h0), b2_some]
theorem kk_33 {σ : Sg} {a1 a2 a3 a4 : Int32} (hI : IV σ) : ∃ σ', g_33 σ a1 a2 a3 a4 = some σ' ∧ IV σ' := by
  obtain ⟨m, R, hs, sn, hc, hr, ok⟩ := hI.parts
  have hw := ok.1.1
  have h7 := hw.c200
  unfold g_33 f_L_isAtFair
  refine rb_at (a := a1) (n := nC (σ 194)) (X := fun τ => f_X5_isAtFair τ a1) (by omega) hI (fun k => if σ 194 (185 + 8 * k + 4) = -1 then 0 else 1) (fun k hk e => ⟨?_, fun τ e4 => ?_⟩) (fun h0 => ⟨?_, fun τ e4 => ⟨0, ?_⟩⟩)
  · subst e
    unfold f_X4_isAtFair
    rw [c_nch1 hc.1 hw.nc (vp_in_nI hk (by omega)), bt_inr, gd_ok rfl (show k < 200 by omega) (by omega), cl_nI (by omega), hc.1.c4 hk]
    split <;> rfl
  · subst e
    show f_X5_isAtFair τ (nI k) = _
    unfold f_X5_isAtFair
    rw [m_child1 (by rw [e4]; exact hw.nc) (vp_in_nI (by rw [e4]; exact hk) (by rw [e4]; omega)), b1_some, if_neg (by decide), st_eq, u2_rs, if_pos rfl, m_isHere (by omega), b1_some, u10, e4]
    split <;> rfl
  · unfold f_X4_isAtFair
    rw [c_nch0 hc.1 hw.nc h0, bt_inl]
  · show f_X5_isAtFair τ a1 = _
    unfold f_X5_isAtFair
    rw [m_child0 (by rw [e4]; exact hw.nc) (by rw [e4]; exact h0), b1_some, if_pos rfl, st_eq, u2_rs, if_neg (by decide)]
theorem kk_37 {σ : Sg} {a1 a2 a3 a4 : Int32} (hI : IV σ) : ∃ σ', g_37 σ a1 a2 a3 a4 = some σ' ∧ IV σ' := by
  obtain ⟨m, R, hs, sn, hc, hr, ok⟩ := hI.parts
  have hw := ok.1.1
  have h7 := hw.c200
  unfold g_37 f_L_isHomeward
  refine rb_at (a := a1) (n := nC (σ 194)) (X := fun τ => f_X5_isHomeward τ a1) (by omega) hI (fun k => σ 194 (185 + 8 * k + 5)) (fun k hk e => ⟨?_, fun τ e4 => ?_⟩) (fun h0 => ⟨?_, fun τ e4 => ⟨0, ?_⟩⟩)
  · subst e
    unfold f_X4_isHomeward
    have hd := hc.1.2.2.1 k hk
    rw [c_nch1 hc.1 hw.nc (vp_in_nI hk (by omega)), bt_inr, gd_ok rfl (show k < 200 by omega) (by omega), cl_nI (by omega), ← hc.1.c5 hk]
    rcases hd with hd | hd
    · rw [hd]; rfl
    · rw [hd]; rfl
  · subst e
    show f_X5_isHomeward τ (nI k) = _
    unfold f_X5_isHomeward
    rw [show f_X5_tellsOf τ (nI k) 5 = _ from m_tof1 5 (by rw [e4]; exact hw.nc) (by rw [e4]; exact hk) (by omega), b2_some, e4]
    obtain ⟨j, hj, ej⟩ := vp_ex (hw.ch k hk).way (by omega)
    rw [ej]
    have : j = 0 ∨ j = 1 := by omega
    rcases this with rfl | rfl <;> rfl
  · unfold f_X4_isHomeward
    rw [c_nch0 hc.1 hw.nc h0, bt_inl]
  · show f_X5_isHomeward τ a1 = _
    unfold f_X5_isHomeward
    rw [m_tof0 (by rw [e4]; exact hw.nc) (by rw [e4]; exact h0), b2_some]
    rfl
/-- why a child would not play -/
def s_rsn (f : Nat → Int32) (k : Nat) : Int32 := if f (185 + 8 * k + 4) = -1 then 1 else match s_openOn f (f (185 + 8 * k + 4)) with
  | none => 2
  | some s => s_why f k s
theorem m_rsn {τ : Sg} {k : Nat} (hw : WB (τ 194)) (hk : k < nC (τ 194)) : f_X5_reason τ (nI k) = some (s_rsn (τ 194) k) := by
  have hc := hw.c200
  have h7 := hw.s7
  have hk2 : k < 200 := by omega
  unfold f_X5_reason s_rsn
  rw [m_isHere hk2, b1_some]
  by_cases h : τ 194 (185 + 8 * k + 4) = -1
  · rw [if_pos h, if_pos rfl, if_pos h]
  · rw [if_neg h, if_neg (by decide), if_neg h, m_of4 hk2, b1_some, m_openOn hw.ns, b1_some]
    cases ho : s_openOn (τ 194) (τ 194 (185 + 8 * k + 4)) with
    | none => rw [oI_none, if_pos rfl]
    | some s =>
      obtain ⟨q1, q2, q3⟩ := s_openOn_lt ho
      dsimp only
      rw [oI_some, if_neg (nI_neg1 (by omega)), m_of0 hk2, b1_some, m_it2 (by omega), b1_some, m_of6 hk2, b1_some, m_likes hk2 (by omega), b1_some]
      unfold s_why s_likes
      have e3 : τ 194 (185 + 8 * k + 1) < 50 ↔ ¬ 50 ≤ τ 194 (185 + 8 * k + 1) := by rw [tI_le, tI_lt]; omega
      have n1 : ¬ (1 : Int32) = 0 := by decide
      grind
theorem kk_39 {σ : Sg} {a1 a2 a3 a4 : Int32} (hI : IV σ) : ∃ σ', g_39 σ a1 a2 a3 a4 = some σ' ∧ IV σ' := by
  obtain ⟨m, R, hs, sn, hc, hr, ok⟩ := hI.parts
  have hw := ok.1.1
  have h7 := hw.c200
  have hs7 := hw.s7
  unfold g_39 f_L_whyNoPlay
  refine rd_at (a := a1) (n := nC (σ 194)) (X := fun τ => f_X5_whyNoPlay τ a1) (by omega) hI (fun k => s_rsn (σ 194) k) (fun k hk e => ⟨?_, fun τ e4 => ?_⟩) (fun h0 => ⟨?_, fun τ e4 => ⟨0, ?_⟩⟩)
  · subst e
    unfold f_X4_whyNoPlay s_rsn
    rw [c_nch1 hc.1 hw.nc (vp_in_nI hk (by omega)), bt_inr, gd_ok rfl (show k < 200 by omega) (by omega), cl_nI (by omega), hc.1.c4 hk]
    by_cases h : σ 194 (185 + 8 * k + 4) = -1
    · rw [if_pos h, if_pos h]
    · rw [if_neg h, if_neg h, c_openOn hc.1 hw.ns (fun s hs => (hw.st s hs).opn), b1_some]
      cases ho : s_openOn (σ 194) (σ 194 (185 + 8 * k + 4)) with
      | none =>
        dsimp only
        rw [if_pos rfl]
      | some s =>
        obtain ⟨q1, q2, q3⟩ := s_openOn_lt ho
        dsimp only
        rw [if_neg (show ¬ 1 + 13 + 2 * s = 0 by omega), sg_ok (sk_cell (Or.inl rfl) (by omega)), c_why hc.1 hs7 h7 hk q1, b1_some]
  · subst e
    show f_X5_whyNoPlay τ (nI k) = _
    unfold f_X5_whyNoPlay
    rw [m_child1 (by rw [e4]; exact hw.nc) (vp_in_nI (by rw [e4]; exact hk) (by rw [e4]; omega)), b1_some, if_neg (by decide), st_eq, u2_rs, if_pos le00, m_rsn (by rw [u10, e4]; exact hw) (by rw [u10, e4]; exact hk), b1_some, u10, e4]
  · unfold f_X4_whyNoPlay
    rw [c_nch0 hc.1 hw.nc h0, bt_inl]
  · show f_X5_whyNoPlay τ a1 = _
    unfold f_X5_whyNoPlay
    rw [m_child0 (by rw [e4]; exact hw.nc) (by rw [e4]; exact h0), b1_some, if_pos rfl, st_eq, u2_rs, if_neg nle10]
/-! counts -/
def s_onPA (f : Nat → Int32) (p : Int32) : Nat → Nat → Int32 → Int32
  | 0, _, a => a
  | d + 1, k, a => if f (185 + 8 * k + 4) = p then s_onPA f p d (k + 1) (a + 1) else s_onPA f p d (k + 1) a
theorem s_onPA_skip {f : Nat → Int32} {p a : Int32} (hp : ¬ p = -1) : ∀ (e d k : Nat), (∀ j, k ≤ j → j < k + e → f (185 + 8 * j + 4) = -1) → s_onPA f p (e + d) k a = s_onPA f p d (k + e) a := by
  intro e
  induction e with
  | zero => intro d k _; rw [Nat.zero_add]; rfl
  | succ e ih =>
    intro d k h
    rw [show e + 1 + d = e + d + 1 by omega, s_onPA, if_neg (by rw [h k (by omega) (by omega)]; exact fun q => hp q.symm), ih d (k + 1) (fun j h1 h2 => h j (by omega) (by omega)), show k + 1 + e = k + (e + 1) by omega]
theorem m_onP {τ : Sg} {p : Int32} (h9 : vp_in (τ 194 9) 201) (h10 : τ 193 10 = 0) : ∀ (d k n : Nat) (a : Int32), k + d = nC (τ 194) → d < n → l_X5_crowdOn_20 n τ p a (nI k) = some (s_onPA (τ 194) p d k a, τ) := by
  have h7 : nC (τ 194) < 201 := tc_vp h9
  intro d
  induction d with
  | zero =>
    intro k n a hk hn
    obtain ⟨m, rfl⟩ : ∃ m, n = m + 1 := ⟨n - 1, by omega⟩
    rw [l_X5_crowdOn_20.eq_2, lc_9, nc_eq h9 (by omega), if_pos (nI_le (by omega) (by omega))]
    rfl
  | succ d ih =>
    intro k n a hk hn
    obtain ⟨m, rfl⟩ : ∃ m, n = m + 1 := ⟨n - 1, by omega⟩
    rw [l_X5_crowdOn_20.eq_2, lc_9, nc_eq h9 (by omega), if_neg (nI_ge (by omega) (by omega)), if_pos h10, m_of4 (by omega), b1_some, s_onPA, nI_1, Int32.add_zero, ih _ _ _ (by omega) (by omega), ih _ _ _ (by omega) (by omega)]
    split <;> rfl
theorem c_onP {c : Nat} {σ : Sg} {f : Nat → Int32} {p : Int32} (hR : FR c σ f) (h9 : vp_in (f 9) 201) : ∀ (d k n : Nat) (a : Int32), k + d = nC f → d < n → l_X0_countOn_7 (c + 4) n σ p a (nI k) = some (s_onPA f p d k a) := by
  have h7 : nC f < 201 := tc_vp h9
  intro d
  induction d with
  | zero =>
    intro k n a hk hn
    obtain ⟨m, rfl⟩ : ∃ m, n = m + 1 := ⟨n - 1, by omega⟩
    rw [l_X0_countOn_7.eq_2, hR.r9, nc_eq h9 (by omega), if_pos (nI_le (by omega) (by omega))]
    rfl
  | succ d ih =>
    intro k n a hk hn
    obtain ⟨m, rfl⟩ : ∃ m, n = m + 1 := ⟨n - 1, by omega⟩
    rw [l_X0_countOn_7.eq_2, hR.r9, nc_eq h9 (by omega), if_neg (nI_ge (by omega) (by omega)), gd_ok rfl (show k < 200 by omega) (by omega), cl_nI (by omega), hR.c4 (by omega), s_onPA, nI_1, ih _ _ _ (by omega) (by omega), ih _ _ _ (by omega) (by omega)]
    split <;> rfl
theorem kk_42 {σ : Sg} {a1 a2 a3 a4 : Int32} (hI : IV σ) : ∃ σ', g_42 σ a1 a2 a3 a4 = some σ' ∧ IV σ' := by
  obtain ⟨m, R, hs, sn, hc, hr, ok⟩ := hI.parts
  have hw := ok.1.1
  have h7 := hw.c200
  unfold g_42 f_L_crowdOn
  refine rd_at (a := a1) (n := 12) (X := fun τ => f_X5_crowdOn τ a1) (by omega) hI (fun p => s_onPA (σ 194) (nI p) (nC (σ 194)) 0 0) (fun p hp e => ⟨?_, fun τ e4 => ?_⟩) (fun h0 => ⟨?_, fun τ e4 => ?_⟩)
  · subst e
    obtain ⟨ft, t1, t2, t3⟩ := hc.1.2.1
    unfold f_X4_crowdOn f_X0_countOn
    rw [c_pitch1 (vp_in_nI hp (by omega)), bt_inr, t2, c_onP hc.1 hw.nc (nC (σ 194) - ft) ft 10000 0 (by omega) (by omega), b1_some]
    have := s_onPA_skip (f := σ 194) (a := 0) (nI_neg1 (s := p) (by omega)) ft (nC (σ 194) - ft) 0 (fun j _ h => t3 j (by omega))
    rw [show ft + (nC (σ 194) - ft) = nC (σ 194) by omega, show 0 + ft = ft by omega] at this
    rw [this]
  · subst e
    show f_X5_crowdOn τ (nI p) = _
    unfold f_X5_crowdOn
    have := m_onP (τ := u2 τ 193 10 0) (p := nI p) (by rw [u10, e4]; exact hw.nc) u2_rs (nC (σ 194)) 0 10000 0 (by rw [u10, e4]; omega) (by omega)
    rw [u10, e4] at this
    rw [m_pitch1 (vp_in_nI hp (by omega)), b1_some, if_neg (by decide), st_eq]
    exact this
  · unfold f_X4_crowdOn
    rw [c_pitch0 h0, bt_inl]
  · show ∃ y, f_X5_crowdOn τ a1 = _
    unfold f_X5_crowdOn
    rw [m_pitch0 h0, b1_some, if_pos rfl, st_eq, show (10000 : Nat) = 9999 + 1 from rfl, l_X5_crowdOn_20.eq_2, u2_rs, if_neg (show ¬ (1 : Int32) = 0 by decide)]
    split <;> exact ⟨_, rfl⟩
