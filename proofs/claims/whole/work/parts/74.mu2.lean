/-! more calls that keep a record first -/
theorem kk_2 {σ : Sg} {a1 a2 a3 a4 : Int32} (hI : IV σ) : ∃ σ', g_2 σ a1 a2 a3 a4 = some σ' ∧ IV σ' := by
  obtain ⟨m, R, hs, sn, hc, hr, ok⟩ := hI.parts
  have hw := ok.1.1
  have h7 := hw.s7
  unfold g_2 f_L_setPrice
  by_cases h1 : vp_in a1 (nS (σ 194))
  · obtain ⟨s, hs, rfl⟩ := vp_s h1 (by omega)
    by_cases h2 : pr9 a2
    · refine mu_op hI (X := fun τ => f_X5_setPrice τ (nI s) a2) (g := upd (σ 194) (24 + 23 * s + 2) a2) (y := σ 194 (24 + 23 * s + 2)) (W_setP ok.1 hs (pr9_vp h2).1 (pr9_vp h2).2) (fun σk e1 e2 => ?_) (fun τ τ1 e1 e2 e3 => ?_)
      · have x2 := (gr_of e2).s2 (s := s) (v := a2) (by omega)
        refine ⟨_, ?_, x2.1, x2.2.2⟩
        unfold f_X4_setPrice
        rw [c_num1 hc.1 hw.ns hs, bt_inr, sg_ok (sk_cell (Or.inl rfl) (by omega)), c_price1 h2, bt_inr, e1, b1_some, st_eq, e2.s2 hs h7]
      · show ∃ b, f_X5_setPrice τ (nI s) a2 = _
        obtain ⟨b, hb⟩ := @w4_49 τ1 (upd (σ 194) (24 + 23 * s + 2) a2)
        refine ⟨b, ?_⟩
        unfold f_X5_setPrice
        rw [m_stall1 (by rw [e1]; exact hw.ns) (by rw [e1]; exact h1), b1_some, if_neg (by decide), m_price1 h2, b1_some, if_neg (by decide), st_eq, u2_rs, if_pos le00, e2, b1_some, m_it2 (by omega), b1_some, m_st2 (by omega), b1_some, e3, hb]
    · refine mu_no hI (e := 2) (k := 2) (X := fun τ => f_X5_setPrice τ (nI s) a2) ?_ rfl (by decide) ?_
      · unfold f_X4_setPrice
        rw [c_num1 hc.1 hw.ns hs, bt_inr, sg_ok (sk_cell (Or.inl rfl) (by omega)), c_price0 h2, bt_inl]
      · show ∃ y', f_X5_setPrice σ (nI s) a2 = _
        unfold f_X5_setPrice
        rw [m_stall1 hw.ns h1, b1_some, if_neg (by decide), m_price0 h2, b1_some, if_pos rfl, st_eq, u2_rs, if_neg nle20]
        exact ⟨_, rfl⟩
  · refine mu_no hI (e := 1) (k := 1) (X := fun τ => f_X5_setPrice τ a1 a2) ?_ rfl (by decide) ?_
    · unfold f_X4_setPrice
      rw [c_num0 hc.1 hw.ns h1, bt_inl]
    · show ∃ y', f_X5_setPrice σ a1 a2 = _
      unfold f_X5_setPrice
      rw [m_stall0 hw.ns h1, b1_some, if_pos rfl, st_eq, u2_rs, if_neg nle10]
      exact ⟨_, rfl⟩
theorem kk_4 {σ : Sg} {a1 a2 a3 a4 : Int32} (hI : IV σ) : ∃ σ', g_4 σ a1 a2 a3 a4 = some σ' ∧ IV σ' := by
  obtain ⟨m, R, hs, sn, hc, hr, ok⟩ := hI.parts
  have hw := ok.1.1
  have h7 := hw.s7
  unfold g_4 f_L_restock
  by_cases h1 : vp_in a1 (nS (σ 194))
  · obtain ⟨s, hs, rfl⟩ := vp_s h1 (by omega)
    by_cases h2 : vp_in a2 4
    · obtain ⟨l, hl, rfl⟩ := vp_s h2 (by omega)
      by_cases h3 : vp_in a3 4
      · obtain ⟨j, hj, rfl⟩ := vp_s h3 (by omega)
        by_cases h4 : up1 40 a4
        · have t1 : ¬ a4 < 1 := by rw [tI_lt, show (1 : Int32).toInt = 1 from by decide]; unfold up1 at h4; omega
          have t2 : a4 ≤ 40 := by rw [tI_le, show (40 : Int32).toInt = 40 from by decide]; exact h4.2
          by_cases h5 : s_whyS (σ 194) s l a4 = 0
          · obtain ⟨q1, q2⟩ := s_whyS_0 h5
            refine mu_op hI (X := fun τ => f_X5_restock τ (nI s) (nI l) (nI j) a4) (g := s_stocks (σ 194) s l j a4) (y := σ 194 (24 + 23 * s + 4) - a4 * s_cost (nI l)) (W_stocks ok.1 hs hl hj h4 q1 q2) (fun σk e1 e2 => ?_) (fun τ τ1 e1 e2 e3 => ?_)
            · obtain ⟨σ1, x1, x2⟩ := c_stocks (q := a4) (gr_of e2) h7 hs hl hj
              refine ⟨σ1, ?_, x2.1, x2.2.2⟩
              have ep : s_stocks (σ 194) s l j a4 (24 + 23 * s + 4) = σ 194 (24 + 23 * s + 4) - a4 * s_cost (nI l) := by
                unfold s_stocks
                rw [upd_n (by omega), upd_n (by omega), upd_s]
              have n8 : nS (s_stocks (σ 194) s l j a4) = nS (σ 194) := by
                unfold s_stocks
                rw [nS_upd (by omega), nS_upd (by omega), nS_upd (by omega)]
              unfold f_X4_restock
              rw [c_num1 hc.1 hw.ns hs, bt_inr, sg_ok (sk_cell (Or.inl rfl) (by omega)), c_level1 h2, bt_inr, c_colour1 h3, bt_inr, if_neg t1, if_pos t2, c_canS hc.1 hw hs, b1_some, if_pos h5, if_neg (by decide), e1, b1_some, x1, b1_some, x2.1.s4 (by omega) (by omega), ep]
            · show ∃ b, f_X5_restock τ (nI s) (nI l) (nI j) a4 = _
              obtain ⟨b, hb⟩ := @w4_49 τ1 (s_stocks (σ 194) s l j a4)
              refine ⟨b, ?_⟩
              unfold f_X5_restock
              rw [m_whyS (by rw [e1]; exact hw) (by rw [e1]; exact hs) hl hj h4, b1_some, e1, h5, st_eq, u2_rs, if_pos le00, e2, b1_some, m_stocks (by omega) hl hj, b2_some, e3, hb]
          · refine mu_no hI (e := 3) (k := 3) (X := fun τ => f_X5_restock τ (nI s) (nI l) (nI j) a4) ?_ rfl (by decide) ?_
            · unfold f_X4_restock
              rw [c_num1 hc.1 hw.ns hs, bt_inr, sg_ok (sk_cell (Or.inl rfl) (by omega)), c_level1 h2, bt_inr, c_colour1 h3, bt_inr, if_neg t1, if_pos t2, c_canS hc.1 hw hs, b1_some, if_neg h5, if_pos rfl]
            · show ∃ y', f_X5_restock σ (nI s) (nI l) (nI j) a4 = _
              unfold f_X5_restock
              rw [m_whyS hw hs hl hj h4, b1_some, s_whyS_n h5, st_eq, u2_rs, if_neg nle30]
              exact ⟨_, rfl⟩
        · refine mu_no hI (e := 2) (k := 2) (X := fun τ => f_X5_restock τ (nI s) (nI l) (nI j) a4) ?_ rfl (by decide) ?_
          · unfold f_X4_restock
            rw [c_num1 hc.1 hw.ns hs, bt_inr, sg_ok (sk_cell (Or.inl rfl) (by omega)), c_level1 h2, bt_inr, c_colour1 h3, bt_inr]
            by_cases t1 : a4 < 1
            · rw [if_pos t1]
            · rw [if_neg t1, if_neg]
              intro t2
              rw [tI_le, show (40 : Int32).toInt = 40 from by decide] at t2
              rw [tI_lt, show (1 : Int32).toInt = 1 from by decide] at t1
              exact h4 ⟨by omega, t2⟩
          · show ∃ y', f_X5_restock σ (nI s) (nI l) (nI j) a4 = _
            unfold f_X5_restock f_X5_whyNotStocked
            rw [m_stall1 hw.ns h1, b1_some, if_neg (by decide), m_four1 h2, b1_some, if_neg (by decide), m_four1 h3, b1_some, if_neg (by decide), (m_up1 (by decide)).2 h4, b1_some, if_pos rfl, b1_some, st_eq, u2_rs, if_neg nle20]
            exact ⟨_, rfl⟩
      · refine mu_no hI (e := 1) (k := 1) (X := fun τ => f_X5_restock τ (nI s) (nI l) a3 a4) ?_ rfl (by decide) ?_
        · unfold f_X4_restock
          rw [c_num1 hc.1 hw.ns hs, bt_inr, sg_ok (sk_cell (Or.inl rfl) (by omega)), c_level1 h2, bt_inr, c_colour0 h3, bt_inl]
        · show ∃ y', f_X5_restock σ (nI s) (nI l) a3 a4 = _
          unfold f_X5_restock f_X5_whyNotStocked
          rw [m_stall1 hw.ns h1, b1_some, if_neg (by decide), m_four1 h2, b1_some, if_neg (by decide), m_four0 h3, b1_some, if_pos rfl, b1_some, st_eq, u2_rs, if_neg nle10]
          exact ⟨_, rfl⟩
    · refine mu_no hI (e := 1) (k := 1) (X := fun τ => f_X5_restock τ (nI s) a2 a3 a4) ?_ rfl (by decide) ?_
      · unfold f_X4_restock
        rw [c_num1 hc.1 hw.ns hs, bt_inr, sg_ok (sk_cell (Or.inl rfl) (by omega)), c_level0 h2, bt_inl]
      · show ∃ y', f_X5_restock σ (nI s) a2 a3 a4 = _
        unfold f_X5_restock f_X5_whyNotStocked
        rw [m_stall1 hw.ns h1, b1_some, if_neg (by decide), m_four0 h2, b1_some, if_pos rfl, b1_some, st_eq, u2_rs, if_neg nle10]
        exact ⟨_, rfl⟩
  · refine mu_no hI (e := 1) (k := 1) (X := fun τ => f_X5_restock τ a1 a2 a3 a4) ?_ rfl (by decide) ?_
    · unfold f_X4_restock
      rw [c_num0 hc.1 hw.ns h1, bt_inl]
    · show ∃ y', f_X5_restock σ a1 a2 a3 a4 = _
      unfold f_X5_restock f_X5_whyNotStocked
      rw [m_stall0 hw.ns h1, b1_some, if_pos rfl, b1_some, st_eq, u2_rs, if_neg nle10]
      exact ⟨_, rfl⟩
theorem up_vp {p : Int32} (h : up1 99 p) : vp_in p 100 := vp_tI (by unfold up1 at h; omega) (by unfold up1 at h; omega)
theorem kk_5 {σ : Sg} {a1 a2 a3 a4 : Int32} (hI : IV σ) : ∃ σ', g_5 σ a1 a2 a3 a4 = some σ' ∧ IV σ' := by
  obtain ⟨m, R, hs, sn, hc, hr, ok⟩ := hI.parts
  have hw := ok.1.1
  have h7 := hw.s7
  unfold g_5 f_L_fund
  by_cases h1 : vp_in a1 (nS (σ 194))
  · obtain ⟨s, hs, rfl⟩ := vp_s h1 (by omega)
    by_cases h4 : up1 99 a2
    · have t1 : ¬ a2 < 1 := by rw [tI_lt, show (1 : Int32).toInt = 1 from by decide]; unfold up1 at h4; omega
      have t2 : a2 ≤ 99 := by rw [tI_le, show (99 : Int32).toInt = 99 from by decide]; exact h4.2
      by_cases h5 : a2 ≤ σ 194 0
      · refine mu_op hI (X := fun τ => f_X5_fund τ (nI s) a2) (g := s_funds (σ 194) s a2) (y := σ 194 (24 + 23 * s + 4) + a2) (W_funds ok.1 hs (up_vp h4) h5) (fun σk e1 e2 => ?_) (fun τ τ1 e1 e2 e3 => ?_)
        · obtain ⟨σ1, x1, x2⟩ := c_funds (p := a2) (gr_of e2) h7 hs
          refine ⟨σ1, ?_, x2.1, x2.2.2⟩
          have ep : s_funds (σ 194) s a2 (24 + 23 * s + 4) = σ 194 (24 + 23 * s + 4) + a2 := by
            unfold s_funds
            rw [upd_s]
          have n8 : nS (s_funds (σ 194) s a2) = nS (σ 194) := by
            unfold s_funds
            rw [nS_upd (by omega), nS_upd (by omega)]
          unfold f_X4_fund
          rw [c_num1 hc.1 hw.ns hs, bt_inr, sg_ok (sk_cell (Or.inl rfl) (by omega)), if_neg t1, if_pos t2, c_canF hc.1 hw hs, b1_some, if_pos h5, if_neg (by decide), e1, b1_some, x1, b1_some, x2.1.s4 (by omega) (by omega), ep]
        · show ∃ b, f_X5_fund τ (nI s) a2 = _
          obtain ⟨b, hb⟩ := @w4_49 τ1 (s_funds (σ 194) s a2)
          refine ⟨b, ?_⟩
          unfold f_X5_fund
          rw [m_whyF (by rw [e1]; exact hw) (by rw [e1]; exact hs) h4, b1_some, e1, if_pos h5, st_eq, u2_rs, if_pos le00, e2, b1_some, m_funds (by omega), b2_some, e3, hb]
      · refine mu_no hI (e := 3) (k := 3) (X := fun τ => f_X5_fund τ (nI s) a2) ?_ rfl (by decide) ?_
        · unfold f_X4_fund
          rw [c_num1 hc.1 hw.ns hs, bt_inr, sg_ok (sk_cell (Or.inl rfl) (by omega)), if_neg t1, if_pos t2, c_canF hc.1 hw hs, b1_some, if_neg h5, if_pos rfl]
        · show ∃ y', f_X5_fund σ (nI s) a2 = _
          unfold f_X5_fund
          rw [m_whyF hw hs h4, b1_some, if_neg h5, st_eq, u2_rs, if_neg nle30]
          exact ⟨_, rfl⟩
    · refine mu_no hI (e := 2) (k := 2) (X := fun τ => f_X5_fund τ (nI s) a2) ?_ rfl (by decide) ?_
      · unfold f_X4_fund
        rw [c_num1 hc.1 hw.ns hs, bt_inr, sg_ok (sk_cell (Or.inl rfl) (by omega))]
        by_cases t1 : a2 < 1
        · rw [if_pos t1]
        · rw [if_neg t1, if_neg]
          intro t2
          rw [tI_le, show (99 : Int32).toInt = 99 from by decide] at t2
          rw [tI_lt, show (1 : Int32).toInt = 1 from by decide] at t1
          exact h4 ⟨by omega, t2⟩
      · show ∃ y', f_X5_fund σ (nI s) a2 = _
        unfold f_X5_fund f_X5_whyNotFunded
        rw [m_stall1 hw.ns h1, b1_some, if_neg (by decide), (m_up1 (by decide)).2 h4, b1_some, if_pos rfl, b1_some, st_eq, u2_rs, if_neg nle20]
        exact ⟨_, rfl⟩
  · refine mu_no hI (e := 1) (k := 1) (X := fun τ => f_X5_fund τ a1 a2) ?_ rfl (by decide) ?_
    · unfold f_X4_fund
      rw [c_num0 hc.1 hw.ns h1, bt_inl]
    · show ∃ y', f_X5_fund σ a1 a2 = _
      unfold f_X5_fund f_X5_whyNotFunded
      rw [m_stall0 hw.ns h1, b1_some, if_pos rfl, b1_some, st_eq, u2_rs, if_neg nle10]
      exact ⟨_, rfl⟩
theorem in_vp {τ : Sg} {p k : Int32} {n : Nat} (hk : k.toInt = (n : Int) - 1) : (vp_in p n → f_X5_in τ p 0 k = some 1) ∧ (¬ vp_in p n → f_X5_in τ p 0 k = some 0) := by
  rw [m_in]
  refine ⟨fun h => ?_, fun h => ?_⟩
  · rw [if_pos ((in0 hk).mpr h)]
  · rw [if_neg (fun q => h ((in0 hk).mp q))]
theorem le_vp {p k : Int32} {n : Nat} (hk : k.toInt = (n : Int) - 1) (h : vp_in p n) : p ≤ k := ((in0 hk).mpr h).2
theorem nle_vp {p k : Int32} {n : Nat} (hk : k.toInt = (n : Int) - 1) (h : ¬ vp_in p n) (h0 : ¬ p < 0) : ¬ p ≤ k := by
  intro q
  refine h ((in0 hk).mp ⟨?_, q⟩)
  rw [tI_lt] at h0
  rw [tI_le]
  omega
theorem kk_7 {σ : Sg} {a1 a2 a3 a4 : Int32} (hI : IV σ) : ∃ σ', g_7 σ a1 a2 a3 a4 = some σ' ∧ IV σ' := by
  obtain ⟨m, R, hs, sn, hc, hr, ok⟩ := hI.parts
  have hw := ok.1.1
  have h7 := hw.s7
  unfold g_7 f_L_come
  by_cases h2 : vp_in a2 5
  · by_cases h3 : vp_in a3 4
    · by_cases h1 : vp_in a1 100
      · have t2 : a1 ≤ 99 := le_vp (n := 100) (by decide) h1
        by_cases h5 : s_room (σ 194) = 0
        · refine mu_no hI (e := 3) (k := 3) (X := fun τ => f_X5_come τ a1 a2 a3) ?_ rfl (by decide) ?_
          · unfold f_X4_come
            rw [c_kind1 h2, bt_inr, c_colour1 h3, bt_inr, if_neg (lo_neg h1), if_pos t2, c_room hc.1 hw.nc, b1_some, if_pos h5]
          · show ∃ y', f_X5_come σ a1 a2 a3 = _
            unfold f_X5_come
            rw [m_whyC hw h1 h2 h3, b1_some, if_pos h5, st_eq, u2_rs, if_neg nle30]
            exact ⟨_, rfl⟩
        · have hk := room_lt hw h5
          refine mu_op hI (X := fun τ => f_X5_come τ a1 a2 a3) (g := s_comes (σ 194) a1 a2 a3) (y := nI (nC (σ 194))) (W_come ok.1 hk h1 h2 h3) (fun σk e1 e2 => ?_) (fun τ τ1 e1 e2 e3 => ?_)
          · obtain ⟨σ1, x1, x2⟩ := c_add (p := a1) (kd := a2) (cl := a3) (gr_of e2) hw hk
            refine ⟨σ1, ?_, x2.1, x2.2.2⟩
            unfold f_X4_come
            rw [c_kind1 h2, bt_inr, c_colour1 h3, bt_inr, if_neg (lo_neg h1), if_pos t2, c_room hc.1 hw.nc, b1_some, if_neg h5, e1, b1_some, x1, b2_some]
          · show ∃ b, f_X5_come τ a1 a2 a3 = _
            obtain ⟨b, hb⟩ := @w4_49 τ1 (s_comes (σ 194) a1 a2 a3)
            refine ⟨b, ?_⟩
            unfold f_X5_come
            rw [m_whyC (by rw [e1]; exact hw) h1 h2 h3, b1_some, e1, if_neg h5, st_eq, u2_rs, if_pos le00, e2, b1_some, m_comes (by rw [e3]; exact hk) (by rw [e3]; exact hw.nc), b2_some, e3, hb]
      · refine mu_no hI (e := 2) (k := 2) (X := fun τ => f_X5_come τ a1 a2 a3) ?_ rfl (by decide) ?_
        · unfold f_X4_come
          rw [c_kind1 h2, bt_inr, c_colour1 h3, bt_inr]
          by_cases t1 : a1 < 0
          · rw [if_pos t1]
          · rw [if_neg t1, if_neg (nle_vp (n := 100) (by decide) h1 t1)]
        · show ∃ y', f_X5_come σ a1 a2 a3 = _
          unfold f_X5_come f_X5_whyNotCome
          rw [m_kind1 h2, b1_some, if_neg (by decide), m_four1 h3, b1_some, if_neg (by decide), (in_vp (n := 100) (by decide)).2 h1, b1_some, if_pos rfl, b1_some, st_eq, u2_rs, if_neg nle20]
          exact ⟨_, rfl⟩
    · refine mu_no hI (e := 1) (k := 1) (X := fun τ => f_X5_come τ a1 a2 a3) ?_ rfl (by decide) ?_
      · unfold f_X4_come
        rw [c_kind1 h2, bt_inr, c_colour0 h3, bt_inl]
      · show ∃ y', f_X5_come σ a1 a2 a3 = _
        unfold f_X5_come f_X5_whyNotCome
        rw [m_kind1 h2, b1_some, if_neg (by decide), m_four0 h3, b1_some, if_pos rfl, b1_some, st_eq, u2_rs, if_neg nle10]
        exact ⟨_, rfl⟩
  · refine mu_no hI (e := 1) (k := 1) (X := fun τ => f_X5_come τ a1 a2 a3) ?_ rfl (by decide) ?_
    · unfold f_X4_come
      rw [c_kind0 h2, bt_inl]
    · show ∃ y', f_X5_come σ a1 a2 a3 = _
      unfold f_X5_come f_X5_whyNotCome
      rw [m_kind0 h2, b1_some, if_pos rfl, b1_some, st_eq, u2_rs, if_neg nle10]
      exact ⟨_, rfl⟩
theorem kk_8 {σ : Sg} {a1 a2 a3 a4 : Int32} (hI : IV σ) : ∃ σ', g_8 σ a1 a2 a3 a4 = some σ' ∧ IV σ' := by
  obtain ⟨m, R, hs, sn, hc, hr, ok⟩ := hI.parts
  have hw := ok.1.1
  unfold g_8 f_L_setRain
  by_cases h1 : vp_in a1 10
  · obtain ⟨s, hs, rfl⟩ := vp_s h1 (by omega)
    by_cases h2 : vp_in a2 10
    · refine mu_op hI (X := fun τ => f_X5_setRain τ (nI s) a2) (g := upd (σ 194) (14 + s) a2) (y := σ 194 (14 + s)) (W_rains ok.1 hs h2) (fun σk e1 e2 => ?_) (fun τ τ1 e1 e2 e3 => ?_)
      · have x2 := (gr_of e2).rain (i := s) (v := a2) hs
        refine ⟨_, ?_, x2.1, x2.2.2⟩
        unfold f_X4_setRain
        rw [c_hour1 h1, bt_inr, if_neg (lo_neg h2), if_pos (le_vp (n := 10) (by decide) h2), e1, b1_some, gd_ok rfl hs (by omega), cl_nI (by omega), st_eq, e2.rain hs]
      · show ∃ b, f_X5_setRain τ (nI s) a2 = _
        obtain ⟨b, hb⟩ := @w4_49 τ1 (upd (σ 194) (14 + s) a2)
        refine ⟨b, ?_⟩
        unfold f_X5_setRain
        rw [m_hour1 h1, b1_some, if_neg (by decide), (in_vp (n := 10) (by decide)).1 h2, b1_some, if_neg (by decide), st_eq, u2_rs, if_pos le00, e2, b1_some, m_rains hs, b2_some, e3, hb]
    · refine mu_no hI (e := 2) (k := 2) (X := fun τ => f_X5_setRain τ (nI s) a2) ?_ rfl (by decide) ?_
      · unfold f_X4_setRain
        rw [c_hour1 h1, bt_inr]
        by_cases t1 : a2 < 0
        · rw [if_pos t1]
        · rw [if_neg t1, if_neg (nle_vp (n := 10) (by decide) h2 t1)]
      · show ∃ y', f_X5_setRain σ (nI s) a2 = _
        unfold f_X5_setRain
        rw [m_hour1 h1, b1_some, if_neg (by decide), (in_vp (n := 10) (by decide)).2 h2, b1_some, if_pos rfl, st_eq, u2_rs, if_neg nle20]
        exact ⟨_, rfl⟩
  · refine mu_no hI (e := 1) (k := 1) (X := fun τ => f_X5_setRain τ a1 a2) ?_ rfl (by decide) ?_
    · unfold f_X4_setRain
      rw [c_hour0 h1, bt_inl]
    · show ∃ y', f_X5_setRain σ a1 a2 = _
      unfold f_X5_setRain
      rw [m_hour0 h1, b1_some, if_pos rfl, st_eq, u2_rs, if_neg nle10]
      exact ⟨_, rfl⟩
theorem up_ex {p : Int32} {k : Nat} (h : up1 k p) (hk : k ≤ 1000) : ∃ n, 1 ≤ n ∧ n ≤ k ∧ p = nI n := by
  obtain ⟨n, hn, e⟩ := vp_ex (x := p) (n := k + 1) (vp_tI (by unfold up1 at h; omega) (by unfold up1 at h; omega)) (by omega)
  refine ⟨n, ?_, by omega, e⟩
  have := h.1
  rw [e, nI_toInt (by omega)] at this
  omega
theorem sub_nI {x : Int32} {j : Nat} : x + nI j - x = nI j := by
  rw [Int32.add_comm, Int32.add_sub_cancel]
theorem kk_9 {σ : Sg} {a1 a2 a3 a4 : Int32} (hI : IV σ) : ∃ σ', g_9 σ a1 a2 a3 a4 = some σ' ∧ IV σ' := by
  obtain ⟨m, R, hs, sn, hc, hr, ok⟩ := hI.parts
  have hw := ok.1.1
  have hr7 := ok.1.2.2.1
  unfold g_9 f_L_pass
  by_cases h1 : up1 40 a1
  · have t1 : ¬ a1 < 1 := by rw [tI_lt, show (1 : Int32).toInt = 1 from by decide]; unfold up1 at h1; omega
    have t2 : a1 ≤ 40 := by rw [tI_le, show (40 : Int32).toInt = 40 from by decide]; exact h1.2
    have t3 := (m_up1 (τ := σ) (p := a1) (k := 40) (n := 40) (by decide)).1 h1
    obtain ⟨n, n1, n2, e⟩ := up_ex (k := 40) h1 (by omega)
    subst e
    by_cases h5 : tm (σ 194) + n < 400000
    · obtain ⟨w1, j, hj, ej⟩ := W_passes (n := n) (b := σ 199) ok.1 n2 h5
      refine mu_op9 hI (X := fun τ => f_X5_pass τ (nI n)) (g := (s_pass n (σ 194) (σ 199)).1) (y := nI j) w1 (fun σk e1 e2 => ?_) (fun τ τ1 e1 e2 e3 e9 => ?_)
      · obtain ⟨σ1, x1, x2, x3⟩ := C_pass (b := σ 199) (Or.inl rfl) e2 ok.1 n2 (by omega)
        refine ⟨σ1, ?_, x2, x3⟩
        unfold f_X4_pass
        rw [if_neg t1, if_pos t2, c_canP hc.1 hw hr7 n2, b1_some, if_pos h5, if_neg (by decide), e1, b1_some, x1, b1_some, x2.r5, e2.r5, ej, sub_nI]
      · show ∃ b, f_X5_pass τ (nI n) = _
        refine ⟨(s_pass n (σ 194) (σ 199)).2, ?_⟩
        have hp := M_pass (τ := τ1) (n := n) (by rw [e3]; exact ok.1) n2 (by rw [e3]; omega)
        rw [e3, e9.1 199 (by omega) (by omega) (by omega) (by omega), ej, sub_nI] at hp
        unfold f_X5_pass
        rw [(m_up1 (by decide)).1 h1, b1_some, if_neg (by decide), m_canP (by rw [e1]; exact hw) (by rw [e1]; exact hr7) n2, b1_some, e1, if_pos h5, if_neg (by decide), st_eq, u2_rs, if_pos le00, e2, b1_some, hp, b2_some]
    · refine mu_no hI (e := 3) (k := 2) (X := fun τ => f_X5_pass τ (nI n)) ?_ rfl (by decide) ?_
      · unfold f_X4_pass
        rw [if_neg t1, if_pos t2, c_canP hc.1 hw hr7 n2, b1_some, if_neg h5, if_pos rfl]
      · show ∃ y', f_X5_pass σ (nI n) = _
        unfold f_X5_pass
        rw [t3, b1_some, if_neg (by decide), m_canP hw hr7 n2, b1_some, if_neg h5, if_pos rfl, st_eq, u2_rs, if_neg nle20]
        exact ⟨_, rfl⟩
  · refine mu_no hI (e := 2) (k := 1) (X := fun τ => f_X5_pass τ a1) ?_ rfl (by decide) ?_
    · unfold f_X4_pass
      by_cases t1 : a1 < 1
      · rw [if_pos t1]
      · rw [if_neg t1, if_neg]
        intro t2
        rw [tI_le, show (40 : Int32).toInt = 40 from by decide] at t2
        rw [tI_lt, show (1 : Int32).toInt = 1 from by decide] at t1
        exact h1 ⟨by omega, t2⟩
    · show ∃ y', f_X5_pass σ a1 = _
      unfold f_X5_pass
      rw [(m_up1 (by decide)).2 h1, b1_some, if_pos rfl, st_eq, u2_rs, if_neg nle10]
      exact ⟨_, rfl⟩
theorem kk_3 {σ : Sg} {a1 a2 a3 a4 : Int32} (hI : IV σ) : ∃ σ', g_3 σ a1 a2 a3 a4 = some σ' ∧ IV σ' := by
  obtain ⟨m, R, hs, sn, hc, hr, ok⟩ := hI.parts
  have hw := ok.1.1
  have h7 := hw.s7
  unfold g_3 f_L_turnStall
  by_cases h1 : vp_in a1 (nS (σ 194))
  · obtain ⟨s, hs, rfl⟩ := vp_s h1 (by omega)
    have ho := (hw.st s hs).opn
    obtain ⟨o, ho2, eo⟩ := vp_ex ho (by omega)
    have e01 : o = 0 ∨ o = 1 := by omega
    obtain ⟨σ1, τ6, c1, x1, x2, x3, x4⟩ := mu_core hI (C := f_X4_turnStall σ (nI s)) (X := fun τ => f_X5_turnStall τ (nI s)) (g := upd (σ 194) (24 + 23 * s + 6) (1 - σ 194 (24 + 23 * s + 6))) (y := 1 - σ 194 (24 + 23 * s + 6)) (W_turn ok.1 hs) (fun σk e1 e2 => by
      have x2 := (gr_of e2).s6 (s := s) (v := 1 - σ 194 (24 + 23 * s + 6)) (by omega)
      refine ⟨_, ?_, x2.1, x2.2.2⟩
      unfold f_X4_turnStall
      rw [c_num1 hc.1 hw.ns hs, bt_inr, sg_ok (sk_cell (Or.inl rfl) (by omega)), e1, b1_some, e2.s6 hs h7, eo]
      rcases e01 with rfl | rfl
      · rw [if_pos (show nI 0 = 0 from rfl), st_eq, u2_rs, gd_in (vp_lit (by decide))]
        rfl
      · rw [if_neg (show ¬ nI 1 = 0 by decide), st_eq, u2_rs, gd_in (vp_lit (by decide))]
        rfl) (fun τ τ1 e1 e2 e3 _ => by
      show ∃ b, f_X5_turnStall τ (nI s) = _
      obtain ⟨b, hb⟩ := @w4_49 τ1 (upd (σ 194) (24 + 23 * s + 6) (1 - σ 194 (24 + 23 * s + 6)))
      refine ⟨b, ?_⟩
      unfold f_X5_turnStall
      rw [m_stall1 (by rw [e1]; exact hw.ns) (by rw [e1]; exact h1), b1_some, if_neg (by decide), st_eq, u2_rs, if_pos le00, e2, b1_some, m_it6 (by omega), b1_some, m_st6 (by omega), b1_some, m_it6 (by omega), b1_some, w4_194, upd_s, e3, hb, eo]
      rcases e01 with rfl | rfl
      · rw [if_pos (by decide)]
        rfl
      · rw [if_neg (by decide)]
        rfl)
    refine g_thb (k := 0) (σ1 := u2 σ1 202 0 (1 - σ 194 (24 + 23 * s + 6))) ?_ x1 x2 (fun _ => ?_) x4
    · rw [c1]
      show (if 1 - σ 194 (24 + 23 * s + 6) = 0 then _ else _) = _
      rw [eo]
      rcases e01 with rfl | rfl
      · rw [if_neg (by decide)]
        rfl
      · rw [if_pos (by decide)]
        rfl
    · rw [x3, eo]
      rcases e01 with rfl | rfl
      · exact Or.inr ⟨by decide, by decide⟩
      · exact Or.inl ⟨by decide, by decide⟩
  · have hC : f_X4_turnStall σ a1 = some (.inl 1) := by
      unfold f_X4_turnStall
      rw [c_num0 hc.1 hw.ns h1, bt_inl]
    have hX : ∃ y', f_X5_turnStall σ a1 = some (y', u2 σ 193 10 1) := by
      unfold f_X5_turnStall
      rw [m_stall0 hw.ns h1, b1_some, if_pos rfl, st_eq, u2_rs, if_neg nle10]
      exact ⟨_, rfl⟩
    obtain ⟨y', hX⟩ := hX
    exact g_thb (k := 1) (σ1 := σ) (by rw [hC]; rfl) hX u2_rs (fun q => absurd q (by decide)) (hI.same (Same.u (by omega)))
