/-! one call that changes something: a record is kept first, on both sides -/
theorem mu_core {σ : Sg} (hI : IV σ) {C : Option (Nat ⊕ (Int32 × Sg))} {X : Sg → Option (Int32 × Sg)} {g : Nat → Int32} {y : Int32} (hg : OKf g) (hC : ∀ σk, f_X4_keepRecord σ = some σk → FR 1 σk (σ 194) → ∃ σ1, C = some (.inr (y, σ1)) ∧ FR 1 σ1 g ∧ ∀ a, a < 1 ∨ 28 ≤ a → σ1 a = σk a) (hX : ∀ τ τ1 : Sg, τ 194 = σ 194 → f_X5_saves 194 1785 (u2 τ 193 10 0) = some τ1 → τ1 194 = σ 194 → (∀ a, 191 ≤ a → a ≠ 193 → a ≠ 195 → a ≠ 202 → τ1 a = σ a) ∧ (∀ a, 191 ≤ a → a ≠ 202 → τ a = σ a) → ∃ b, X τ = some (y, w49 τ1 g b)) : ∃ σ1 τ6, C = some (.inr (y, σ1)) ∧ X (u2 σ1 202 0 y) = some (y, τ6) ∧ τ6 193 10 = 0 ∧ τ6 202 0 = y ∧ IV τ6 := by
  obtain ⟨⟨n, ht⟩, m, R, hs, sn, hc, hr, ok⟩ := hI
  obtain ⟨σk, k1, k2, k3⟩ := hc.keep ok
  have ok2 := ok.keep hc.2.1
  obtain ⟨σ1, c1, c2, c3⟩ := hC σk k1 k2.1
  have s1 : ∀ a, 191 ≤ a → σ1 a = σ a := fun a ha => by rw [c3 a (by omega), k3 a (by omega)]
  obtain ⟨τ, hτ⟩ : ∃ τ, τ = u2 σ1 202 0 y := ⟨_, rfl⟩
  have t194 : τ 194 = σ 194 := by rw [hτ, u2_cell (by omega), s1 _ (by omega)]
  have hr1 : RM (u2 τ 193 10 0) m R hs sn := by
    refine hr.at ?_ ?_ ?_ ?_
    · rw [u2_cell (by omega), hτ, u2_cell (by omega), s1 _ (by omega)]
    · rw [u2_cell (by omega), hτ, u2_cell (by omega), s1 _ (by omega)]
    · rw [u2_ri (by omega), hτ, u2_cell (by omega), s1 _ (by omega)]
    · rw [u2_ri (by omega), hτ, u2_cell (by omega), s1 _ (by omega)]
  obtain ⟨τ1, y1, y2, y3, y4⟩ := M_keep (d1 := 194) hr1 hc.2.1 (by omega) (by omega)
  rw [u10, t194] at y2
  have z194 : τ1 194 = σ 194 := by rw [y3 194 (by omega) (by omega), u10, t194]
  obtain ⟨b, x1⟩ := hX τ τ1 t194 y1 z194 ⟨fun a h1 h2 h3 h4 => by rw [y3 a h2 h3, u2_cell h2, hτ, u2_cell h4, s1 a h1], fun a h1 h2 => by rw [hτ, u2_cell h2, s1 a h1]⟩
  have zo : ∀ a, a ≠ 193 → a ≠ 194 → a ≠ 195 → a ≠ 199 → w49 τ1 g b a = τ a := by
    intro a h1 h2 h3 h4
    show (if a = 194 then g else if a = 199 then b else τ1 a) = _
    rw [if_neg h2, if_neg h4, y3 a h1 h3, u2_cell h1]
  have z3 : w49 τ1 g b 193 = τ1 193 := rfl
  rw [hτ] at x1
  refine ⟨σ1, w49 τ1 g b, c1, x1, ?_, ?_, ?_⟩
  · rw [z3, y4 10 (by omega), u2_rs]
  · rw [zo 202 (by omega) (by omega) (by omega) (by omega), hτ, u2_rs]
  · have zt : ∀ a, a ≠ 193 → a ≠ 194 → a ≠ 195 → a ≠ 199 → a ≠ 202 → w49 τ1 g b a = σ1 a := fun a h1 h2 h3 h4 h5 => by rw [zo a h1 h2 h3 h4, hτ, u2_cell h5]
    have o2 : OKA g (kp m) (kR m R (σ 194)) hs sn := ⟨hg, ok2.2⟩
    have c5 : RC σ1 g (kp m) (kR m R (σ 194)) hs sn := k2.op ok2 c2 (c3 0 (by omega)) (fun a h1 h2 => c3 a (by omega))
    refine IV.of (f := g) (n := n) ?_ (c5.op o2 (c2.at (fun a h1 h2 => zt a (by omega) (by omega) (by omega) (by omega) (by omega)) hg.b.1 hg.b.2) (zt 0 (by omega) (by omega) (by omega) (by omega) (by omega)) (fun a h1 h2 => zt a (by omega) (by omega) (by omega) (by omega) (by omega))) (y2.at rfl rfl rfl rfl) o2 (fun i hi => rfl)
    refine ht.at ?_ ?_ ?_ ?_
    · rw [zt 191 (by omega) (by omega) (by omega) (by omega) (by omega), s1 _ (by omega)]
    · rw [zt 192 (by omega) (by omega) (by omega) (by omega) (by omega), s1 _ (by omega)]
    · rw [z3, y4 9 (by omega), u2_ri (by omega), hτ, u2_cell (by omega), s1 _ (by omega)]
    · rw [zt 200 (by omega) (by omega) (by omega) (by omega) (by omega), s1 _ (by omega)]
theorem mu_op9 {σ : Sg} (hI : IV σ) {C : Option (Nat ⊕ (Int32 × Sg))} {K : Nat → Option (Int32 × Sg)} {X : Sg → Option (Int32 × Sg)} {g : Nat → Int32} {y : Int32} (hg : OKf g) (hC : ∀ σk, f_X4_keepRecord σ = some σk → FR 1 σk (σ 194) → ∃ σ1, C = some (.inr (y, σ1)) ∧ FR 1 σ1 g ∧ ∀ a, a < 1 ∨ 28 ≤ a → σ1 a = σk a) (hX : ∀ τ τ1 : Sg, τ 194 = σ 194 → f_X5_saves 194 1785 (u2 τ 193 10 0) = some τ1 → τ1 194 = σ 194 → (∀ a, 191 ≤ a → a ≠ 193 → a ≠ 195 → a ≠ 202 → τ1 a = σ a) ∧ (∀ a, 191 ≤ a → a ≠ 202 → τ a = σ a) → ∃ b, X τ = some (y, w49 τ1 g b)) : ∃ σ', (b2 (bw C K (fun y => st (u2 y.2 202 (0 : Int32).toNatClampNeg y.1) fun σ7 => some (0, σ7))) fun y2 σ1 => b2 (X σ1) fun y4 σ6 => b1 (f_X5_thrown σ6) fun y7 => if y7 = y2 then (if y2 = 0 then (if (σ6 202 (0 : Int32).toNatClampNeg) = y4 then (some σ6) else (none)) else (some σ6)) else (none)) = some σ' ∧ IV σ' := by
  obtain ⟨σ1, τ6, c1, x1, x2, x3, x4⟩ := mu_core hI hg hC hX
  exact g_thr (k := 0) (σ1 := u2 σ1 202 0 y) (y4 := y) (by rw [c1]; rfl) x1 x2 (fun _ => x3) x4
theorem mu_op {σ : Sg} (hI : IV σ) {C : Option (Nat ⊕ (Int32 × Sg))} {K : Nat → Option (Int32 × Sg)} {X : Sg → Option (Int32 × Sg)} {g : Nat → Int32} {y : Int32} (hg : OKf g) (hC : ∀ σk, f_X4_keepRecord σ = some σk → FR 1 σk (σ 194) → ∃ σ1, C = some (.inr (y, σ1)) ∧ FR 1 σ1 g ∧ ∀ a, a < 1 ∨ 28 ≤ a → σ1 a = σk a) (hX : ∀ τ τ1 : Sg, τ 194 = σ 194 → f_X5_saves 194 1785 (u2 τ 193 10 0) = some τ1 → τ1 194 = σ 194 → ∃ b, X τ = some (y, w49 τ1 g b)) : ∃ σ', (b2 (bw C K (fun y => st (u2 y.2 202 (0 : Int32).toNatClampNeg y.1) fun σ7 => some (0, σ7))) fun y2 σ1 => b2 (X σ1) fun y4 σ6 => b1 (f_X5_thrown σ6) fun y7 => if y7 = y2 then (if y2 = 0 then (if (σ6 202 (0 : Int32).toNatClampNeg) = y4 then (some σ6) else (none)) else (some σ6)) else (none)) = some σ' ∧ IV σ' :=
  mu_op9 hI hg hC (fun τ τ1 e1 e2 e3 _ => hX τ τ1 e1 e2 e3)
theorem mu_no {σ : Sg} (hI : IV σ) {C : Option (Nat ⊕ (Int32 × Sg))} {K : Nat → Option (Int32 × Sg)} {V : Int32 × Sg → Option (Int32 × Sg)} {X : Sg → Option (Int32 × Sg)} {e : Nat} {k : Int32} (hC : C = some (.inl e)) (hK : K e = some (k, σ)) (hk : ¬ k = 0) (hX : ∃ y', X σ = some (y', u2 σ 193 10 k)) : ∃ σ', (b2 (bw C K V) fun y2 σ1 => b2 (X σ1) fun y4 σ6 => b1 (f_X5_thrown σ6) fun y7 => if y7 = y2 then (if y2 = 0 then (if (σ6 202 (0 : Int32).toNatClampNeg) = y4 then (some σ6) else (none)) else (some σ6)) else (none)) = some σ' ∧ IV σ' := by
  obtain ⟨y', hX⟩ := hX
  exact g_thr (k := k) (σ1 := σ) (by rw [hC]; exact hK) hX u2_rs (fun q => absurd q hk) (hI.same (Same.u (by omega)))
theorem w4_49 {τ : Sg} {g : Nat → Int32} : ∃ b, w4 τ g = w49 τ g b := ⟨_, w49_w⟩
/-- the class's now through an order on it -/
theorem gr_of {c : Nat} {σ : Sg} {f : Nat → Int32} (h : FR c σ f) : GR c σ f (fun s => σ (c + 13 + 2 * s) 9) σ := ⟨h, fun _ _ => rfl, fun _ _ => rfl⟩
theorem nle30 : ¬ (3 : Int32) ≤ 0 := by decide
theorem nle20 : ¬ (2 : Int32) ≤ 0 := by decide
theorem k0A {σ : Sg} {a1 a2 a3 rf : Int32} (hI : IV σ) (hrf : vp_in rf 2) : ∃ σ', (b2 (f_L_build σ a1 a2 a3 rf) fun y3 σ2 => b2 (f_X5_build σ2 a1 a2 a3 rf) fun y6 σ8 => b1 (f_X5_thrown σ8) fun y9 => if y9 = y3 then (if y3 = 0 then (if (σ8 202 (0 : Int32).toNatClampNeg) = y6 then (some σ8) else (none)) else (some σ8)) else (none)) = some σ' ∧ IV σ' := by
  obtain ⟨m, R, hs, sn, hc, hr, ok⟩ := hI.parts
  have hw := ok.1.1
  have h6 := ok.1.2.2.2.2.2
  unfold f_L_build
  by_cases h1 : vp_in a1 12
  · by_cases h2 : vp_in a2 5
    · by_cases h3 : pr9 a3
      · by_cases h4 : s_whyB (σ 194) a1 rf = 0
        · obtain ⟨q1, q2⟩ := s_whyB_0 h6 h4
          refine mu_op hI (X := fun τ => f_X5_build τ a1 a2 a3 rf) (g := s_pays (σ 194) a1 a2 a3 rf) (y := nI (nS (σ 194))) (W_pays ok.1 q1 q2 h1 h2 (pr9_vp h3).1 (pr9_vp h3).2) (fun σk e1 e2 => ?_) (fun τ τ1 e1 e2 e3 => ?_)
          · obtain ⟨σ1, x1, x2, x3⟩ := c_pays (p := a1) (kd := a2) (pr := a3) e2 (fun _ _ => rfl) hw (by omega) hrf
            refine ⟨σ1, ?_, x2, x3⟩
            unfold f_X4_build
            rw [c_pitch1 h1, bt_inr, c_kind1 h2, bt_inr, c_price1 h3, bt_inr, c_canB hc.1 hw h6, b1_some, if_pos h4, if_neg (by decide), e1, b1_some, x1, b2_some]
          · obtain ⟨b, hb⟩ := @w4_49 τ1 (s_pays (σ 194) a1 a2 a3 rf)
            refine ⟨b, ?_⟩
            show f_X5_build τ a1 a2 a3 rf = _
            unfold f_X5_build
            rw [m_whyB (by rw [e1]; exact hw) h1 h2 h3, b1_some, e1, h4, st_eq, u2_rs, if_pos le00, e2, b1_some, m_pays (by rw [e3]; exact vp_mono (show vp_in (σ 194 8) 7 from by rw [ns_eq hw.ns (by omega)]; exact vp_in_nI (by omega) (by omega)) (by omega)), b2_some, e3, hb]
        · refine mu_no hI (e := 3) (k := 3) (X := fun τ => f_X5_build τ a1 a2 a3 rf) ?_ rfl (by decide) ?_
          · unfold f_X4_build
            rw [c_pitch1 h1, bt_inr, c_kind1 h2, bt_inr, c_price1 h3, bt_inr, c_canB hc.1 hw h6, b1_some, if_neg h4, if_pos rfl]
          · show ∃ y', f_X5_build σ a1 a2 a3 rf = _
            unfold f_X5_build
            rw [m_whyB hw h1 h2 h3, b1_some, s_whyB_n h4, st_eq, u2_rs, if_neg nle30]
            exact ⟨_, rfl⟩
      · refine mu_no hI (e := 2) (k := 2) (X := fun τ => f_X5_build τ a1 a2 a3 rf) ?_ rfl (by decide) ?_
        · unfold f_X4_build
          rw [c_pitch1 h1, bt_inr, c_kind1 h2, bt_inr, c_price0 h3, bt_inl]
        · show ∃ y', f_X5_build σ a1 a2 a3 rf = _
          unfold f_X5_build f_X5_whyNotBuilt
          rw [m_pitch1 h1, b1_some, if_neg (by decide), m_kind1 h2, b1_some, if_neg (by decide), m_price0 h3, b1_some, if_pos rfl, b1_some, st_eq, u2_rs, if_neg nle20]
          exact ⟨_, rfl⟩
    · refine mu_no hI (e := 1) (k := 1) (X := fun τ => f_X5_build τ a1 a2 a3 rf) ?_ rfl (by decide) ?_
      · unfold f_X4_build
        rw [c_pitch1 h1, bt_inr, c_kind0 h2, bt_inl]
      · show ∃ y', f_X5_build σ a1 a2 a3 rf = _
        unfold f_X5_build f_X5_whyNotBuilt
        rw [m_pitch1 h1, b1_some, if_neg (by decide), m_kind0 h2, b1_some, if_pos rfl, b1_some, st_eq, u2_rs, if_neg nle10]
        exact ⟨_, rfl⟩
  · refine mu_no hI (e := 1) (k := 1) (X := fun τ => f_X5_build τ a1 a2 a3 rf) ?_ rfl (by decide) ?_
    · unfold f_X4_build
      rw [c_pitch0 h1, bt_inl]
    · show ∃ y', f_X5_build σ a1 a2 a3 rf = _
      unfold f_X5_build f_X5_whyNotBuilt
      rw [m_pitch0 h1, b1_some, if_pos rfl, b1_some, st_eq, u2_rs, if_neg nle10]
      exact ⟨_, rfl⟩
theorem kk_0 {σ : Sg} {a1 a2 a3 a4 : Int32} (hI : IV σ) : ∃ σ', g_0 σ a1 a2 a3 a4 = some σ' ∧ IV σ' := by
  unfold g_0
  by_cases h : a4 = 0
  · simp only [if_pos h]
    exact k0A hI (vp_lit (by decide))
  · simp only [if_neg h]
    exact k0A hI (vp_lit (by decide))
theorem kk_1 {σ : Sg} {a1 a2 a3 a4 : Int32} (hI : IV σ) : ∃ σ', g_1 σ a1 a2 a3 a4 = some σ' ∧ IV σ' := by
  obtain ⟨m, R, hs, sn, hc, hr, ok⟩ := hI.parts
  have hw := ok.1.1
  have h7 := hw.s7
  unfold g_1 f_L_pullDown
  by_cases h1 : vp_in a1 (nS (σ 194))
  · obtain ⟨s, hs, rfl⟩ := vp_s h1 (by omega)
    refine mu_op hI (X := fun τ => f_X5_pullDown τ (nI s)) (g := s_down (σ 194) s) (y := σ 194 (24 + 23 * s + 4)) (W_down ok.1 hs) (fun σk e1 e2 => ?_) (fun τ τ1 e1 e2 e3 => ?_)
    · obtain ⟨σ1, σ2, x1, x2, x3, x4⟩ := c_down e2 (fun _ _ => rfl) hw hs
      refine ⟨σ2, ?_, x3, x4⟩
      unfold f_X4_pullDown
      rw [c_need1 hc.1 hw.ns h1, bt_inr, e1, b1_some, x1, b2_some, x2, b1_some]
    · show ∃ b, f_X5_pullDown τ (nI s) = _
      obtain ⟨T, hT⟩ : ∃ T, T = upd (upd (σ 194) 0 (σ 194 0 + σ 194 (24 + 23 * s + 4))) 8 (σ 194 8 - 1) := ⟨_, rfl⟩
      have T8 : T 8 = nI (nS (σ 194) - 1) := by rw [hT, upd_s, ns_eq hw.ns (by omega), show (1 : Int32) = nI 1 from rfl, pk_sub (by omega)]
      have nT : nS T = nS (σ 194) - 1 := by
        have : nS T = (nI (nS (σ 194) - 1)).toNatClampNeg := by rw [← T8]; rfl
        rw [this]
        exact cl_nI (by omega)
      have hsh := m_shift (x2 := σ 194 (24 + 23 * s + 4)) (23 * (nS (σ 194) - 1 - s)) (24 + 23 * s) 10000 (w4 τ1 T) (by rw [w4_194]; omega) (by rw [w4_194, T8]; exact vp_in_nI (by omega) (by omega)) (by rw [w4_194]; omega) (by omega) (by omega)
      rw [w4_194, w4_w4] at hsh
      have eg : (fun i => if 24 + 23 * s ≤ i ∧ i < 24 + 23 * s + 23 * (nS (σ 194) - 1 - s) then T (i + 23) else T i) = s_down (σ 194) s := by
        funext i
        unfold s_down
        rw [hT]
        simp only [upd_app]
        by_cases q0 : i = 0
        · subst q0
          rw [if_neg (by omega), if_neg (by omega), if_pos rfl, if_pos rfl]
        · by_cases q8 : i = 8
          · subst q8
            rw [if_neg (by omega), if_pos rfl, if_neg (by omega), if_pos rfl]
          · rw [if_neg q0, if_neg q8, if_neg q8, if_neg q0, if_neg (show ¬ i + 23 = 8 by omega), if_neg (show ¬ i + 23 = 0 by omega)]
            by_cases q : 24 + 23 * s ≤ i ∧ i < 24 + 23 * s + 23 * (nS (σ 194) - 1 - s)
            · rw [if_pos q, if_pos (by omega)]
            · rw [if_neg q, if_neg (by omega)]
      rw [eg] at hsh
      obtain ⟨b, hb⟩ := @w4_49 τ1 (s_down (σ 194) s)
      refine ⟨b, ?_⟩
      unfold f_X5_pullDown
      rw [m_stall1 (by rw [e1]; exact hw.ns) (by rw [e1]; exact h1), b1_some, if_neg (by decide), st_eq, u2_rs, if_pos le00, e2, b1_some, m_it4 (by omega), b1_some, lc_0, lc_8, st_eq, u2_w4, st_eq, u2_w4, w4_194, w4_w4, e3, upd_n (show 8 ≠ 0 by omega), ← hT, ix_23, hsh, hb]
  · refine mu_no hI (e := 1) (k := 1) (X := fun τ => f_X5_pullDown τ a1) ?_ rfl (by decide) ?_
    · unfold f_X4_pullDown
      rw [c_need0 hc.1 hw.ns h1, bt_inl]
    · show ∃ y', f_X5_pullDown σ a1 = _
      unfold f_X5_pullDown
      rw [m_stall0 hw.ns h1, b1_some, if_pos rfl, st_eq, u2_rs, if_neg nle10]
      exact ⟨_, rfl⟩
theorem kk_6 {σ : Sg} {a1 a2 a3 a4 : Int32} (hI : IV σ) : ∃ σ', g_6 σ a1 a2 a3 a4 = some σ' ∧ IV σ' := by
  obtain ⟨m, R, hs, sn, hc, hr, ok⟩ := hI.parts
  have hw := ok.1.1
  have h7 := hw.s7
  unfold g_6 f_L_collect
  by_cases h1 : vp_in a1 (nS (σ 194))
  · obtain ⟨s, hs, rfl⟩ := vp_s h1 (by omega)
    refine mu_op hI (X := fun τ => f_X5_collect τ (nI s)) (g := s_coll (σ 194) s) (y := σ 194 (24 + 23 * s + 4)) (W_coll ok.1 hs) (fun σk e1 e2 => ?_) (fun τ τ1 e1 e2 e3 => ?_)
    · obtain ⟨σ1, x1, x2⟩ := c_empty (gr_of e2) h7 hs
      refine ⟨σ1, ?_, x2.1, x2.2.2⟩
      unfold f_X4_collect
      rw [c_need1 hc.1 hw.ns h1, bt_inr, e1, b1_some, x1, b2_some]
    · show ∃ b, f_X5_collect τ (nI s) = _
      obtain ⟨b, hb⟩ := @w4_49 τ1 (s_coll (σ 194) s)
      refine ⟨b, ?_⟩
      unfold f_X5_collect
      rw [m_stall1 (by rw [e1]; exact hw.ns) (by rw [e1]; exact h1), b1_some, if_neg (by decide), st_eq, u2_rs, if_pos le00, e2, b1_some, m_it4 (by omega), b1_some, lc_0, st_eq, u2_w4, m_st4 (by omega), b1_some, w4_194, w4_w4, e3, ← hb]
      rfl
  · refine mu_no hI (e := 1) (k := 1) (X := fun τ => f_X5_collect τ a1) ?_ rfl (by decide) ?_
    · unfold f_X4_collect
      rw [c_need0 hc.1 hw.ns h1, bt_inl]
    · show ∃ y', f_X5_collect σ a1 = _
      unfold f_X5_collect
      rw [m_stall0 hw.ns h1, b1_some, if_pos rfl, st_eq, u2_rs, if_neg nle10]
      exact ⟨_, rfl⟩
