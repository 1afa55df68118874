/-! what is refused: numbers just outside, far outside -/
theorem far_n {k hi : Int32} {n : Nat} (hk : k = 0 ∨ k = 1 ∨ k = 2 ∨ k = 3) (hn : n ≤ 1000) (e : hi = nI n - 1) : ∃ y, f_L_far k 0 hi = some y ∧ ¬ vp_in y n := by
  subst e
  rcases hk with rfl | rfl | rfl | rfl
  · refine ⟨_, rfl, fun h => ?_⟩
    rw [vp_in_iff, show ((0 : Int32) - 1).toInt = -1 from by decide] at h
    omega
  · refine ⟨_, rfl, fun h => ?_⟩
    rw [Int32.sub_add_cancel, vp_in_iff, nI_toInt (by omega)] at h
    omega
  · refine ⟨_, rfl, fun h => ?_⟩
    rw [vp_in_iff, show (-2147483648 : Int32).toInt = -2147483648 from by decide] at h
    omega
  · refine ⟨_, rfl, fun h => ?_⟩
    rw [vp_in_iff, show (2147483647 : Int32).toInt = 2147483647 from by decide] at h
    omega
theorem far_9 {k : Int32} (hk : k = 0 ∨ k = 1 ∨ k = 2 ∨ k = 3) : ∃ y, f_L_far k 1 9 = some y ∧ ¬ pr9 y := by
  rcases hk with rfl | rfl | rfl | rfl <;> exact ⟨_, rfl, by unfold pr9; decide⟩
theorem far_40 {k : Int32} (hk : k = 0 ∨ k = 1 ∨ k = 2 ∨ k = 3) : ∃ y, f_L_far k 1 40 = some y ∧ ¬ up1 40 y := by
  rcases hk with rfl | rfl | rfl | rfl <;> exact ⟨_, rfl, by unfold up1; decide⟩
theorem far_99 {k : Int32} (hk : k = 0 ∨ k = 1 ∨ k = 2 ∨ k = 3) : ∃ y, f_L_far k 1 99 = some y ∧ ¬ up1 99 y := by
  rcases hk with rfl | rfl | rfl | rfl <;> exact ⟨_, rfl, by unfold up1; decide⟩
theorem all_0 {T : Nat → Int32} : ¬ (s_all T 0 40 0).2.1 = true := by
  have h : (s_ord T 0 0).2.1 = -1 := rfl
  rw [show (40 : Nat) = 39 + 1 from rfl, s_all, if_pos h]
  exact Bool.false_ne_true
section REF
variable {σ : Sg} {f : Nat → Int32} {m : Nat} {R : Nat → Nat → Int32} {hs : Int32} {sn : Nat → Int32} {n : Nat} {T : Nat → Int32}
theorem ref373 {x1 x2 x3 : Int32} (h : PI σ f m R hs sn n T) (hq : ¬ vp_in x2 (nS f)) : l_L_refusesOne_373 7 σ x1 x2 x3 1 = some (.inr (σ, x1, x2, x3)) := by
  rw [l_L_refusesOne_373.eq_2, if_neg (show ¬ (7 : Int32) ≤ 1 by decide), cl_1i (Or.inl rfl) (n_down h hq), b2_some, if_pos (show cde 1 = -2011 from rfl), show (1 : Int32) + 1 = 2 from rfl, l_L_refusesOne_373.eq_2, if_neg (show ¬ (7 : Int32) ≤ 2 by decide), cl_2i (Or.inl rfl) (n_setP1 h hq), b2_some, if_pos (show cde 1 = -2011 from rfl), show (2 : Int32) + 1 = 3 from rfl, l_L_refusesOne_373.eq_2, if_neg (show ¬ (7 : Int32) ≤ 3 by decide), cl_3i (Or.inl rfl) (n_turn h hq), b2_some, if_pos (show cde 1 = -2011 from rfl), show (3 : Int32) + 1 = 4 from rfl, l_L_refusesOne_373.eq_2, if_neg (show ¬ (7 : Int32) ≤ 4 by decide), cl_4i (Or.inl rfl) (n_stock1 h hq), b2_some, if_pos (show cde 1 = -2011 from rfl), show (4 : Int32) + 1 = 5 from rfl, l_L_refusesOne_373.eq_2, if_neg (show ¬ (7 : Int32) ≤ 5 by decide), cl_5i (Or.inl rfl) (n_fund1 h hq), b2_some, if_pos (show cde 1 = -2011 from rfl), show (5 : Int32) + 1 = 6 from rfl, l_L_refusesOne_373.eq_2, if_neg (show ¬ (7 : Int32) ≤ 6 by decide), cl_6i (Or.inl rfl) (n_coll h hq), b2_some, if_pos (show cde 1 = -2011 from rfl), show (6 : Int32) + 1 = 7 from rfl, l_L_refusesOne_373.eq_2, if_pos (show (7 : Int32) ≤ 7 by decide)]
theorem ref408 {x1 x2 x3 : Int32} (h : PI σ f m R hs sn n T) (hq : ¬ vp_in x2 (nS f)) : l_L_refusesOne_408 11 σ x1 x2 x3 12 = some (.inr (σ, x1, x3)) := by
  rw [l_L_refusesOne_408.eq_2, if_neg (show ¬ (22 : Int32) ≤ 12 by decide), cl_12i (Or.inl rfl) (n_pitchOf h hq), b2_some, if_pos (show cde 1 = -2011 from rfl), show (12 : Int32) + 1 = 13 from rfl, l_L_refusesOne_408.eq_2, if_neg (show ¬ (22 : Int32) ≤ 13 by decide), cl_13i (Or.inl rfl) (n_priceOf h hq), b2_some, if_pos (show cde 1 = -2011 from rfl), show (13 : Int32) + 1 = 14 from rfl, l_L_refusesOne_408.eq_2, if_neg (show ¬ (22 : Int32) ≤ 14 by decide), cl_14i (Or.inl rfl) (n_isOpen h hq), b2_some, if_pos (show cde 1 = -2011 from rfl), show (14 : Int32) + 1 = 15 from rfl, l_L_refusesOne_408.eq_2, if_neg (show ¬ (22 : Int32) ≤ 15 by decide), cl_15i (Or.inl rfl) (n_purseOfStall h hq), b2_some, if_pos (show cde 1 = -2011 from rfl), show (15 : Int32) + 1 = 16 from rfl, l_L_refusesOne_408.eq_2, if_neg (show ¬ (22 : Int32) ≤ 16 by decide), cl_16i (Or.inl rfl) (n_playsOf h hq), b2_some, if_pos (show cde 1 = -2011 from rfl), show (16 : Int32) + 1 = 17 from rfl, l_L_refusesOne_408.eq_2, if_neg (show ¬ (22 : Int32) ≤ 17 by decide), cl_17i (Or.inl rfl) (n_rentOf h hq), b2_some, if_pos (show cde 1 = -2011 from rfl), show (17 : Int32) + 1 = 18 from rfl, l_L_refusesOne_408.eq_2, if_neg (show ¬ (22 : Int32) ≤ 18 by decide), cl_18i (Or.inl rfl) (n_playsToWin h hq), b2_some, if_pos (show cde 1 = -2011 from rfl), show (18 : Int32) + 1 = 19 from rfl, l_L_refusesOne_408.eq_2, if_neg (show ¬ (22 : Int32) ≤ 19 by decide), cl_19i (Or.inl rfl) (n_shelfOf h hq), b2_some, if_pos (show cde 1 = -2011 from rfl), show (19 : Int32) + 1 = 20 from rfl, l_L_refusesOne_408.eq_2, if_neg (show ¬ (22 : Int32) ≤ 20 by decide), cl_20i (Or.inl rfl) (n_levelToWin h hq), b2_some, if_pos (show cde 1 = -2011 from rfl), show (20 : Int32) + 1 = 21 from rfl, l_L_refusesOne_408.eq_2, if_neg (show ¬ (22 : Int32) ≤ 21 by decide), cl_21i (Or.inl rfl) (n_prizesOn1 h hq), b2_some, if_pos (show cde 1 = -2011 from rfl), show (21 : Int32) + 1 = 22 from rfl, l_L_refusesOne_408.eq_2, if_pos (show (22 : Int32) ≤ 22 by decide)]
theorem ref443 {x1 x3 : Int32} (h : PI σ f m R hs sn n T) (hk : x1 = 0 ∨ x1 = 1 ∨ x1 = 2 ∨ x1 = 3) : l_L_refusesOne_443 9 σ x1 x3 22 = some (.inr (σ, x1, x3)) := by
  have h9 := h.2.1.1.1.c200
  obtain ⟨y, fc, hq⟩ := far_n (n := nC f) (hi := f 9 - 1) hk (by omega) (by rw [nc_eq h.2.1.1.1.nc (by omega)])
  rw [l_L_refusesOne_443.eq_2, if_neg (show ¬ (30 : Int32) ≤ 22 by decide), q_children h, b1_some, fc, b1_some, cl_22i (Or.inl rfl) (n_isAtFair h hq), b2_some, if_pos (show cde 1 = -2011 from rfl), show (22 : Int32) + 1 = 23 from rfl, l_L_refusesOne_443.eq_2, if_neg (show ¬ (30 : Int32) ≤ 23 by decide), q_children h, b1_some, fc, b1_some, cl_23i (Or.inl rfl) (n_purseOf h hq), b2_some, if_pos (show cde 1 = -2011 from rfl), show (23 : Int32) + 1 = 24 from rfl, l_L_refusesOne_443.eq_2, if_neg (show ¬ (30 : Int32) ≤ 24 by decide), q_children h, b1_some, fc, b1_some, cl_24i (Or.inl rfl) (n_moodOf h hq), b2_some, if_pos (show cde 1 = -2011 from rfl), show (24 : Int32) + 1 = 25 from rfl, l_L_refusesOne_443.eq_2, if_neg (show ¬ (30 : Int32) ≤ 25 by decide), q_children h, b1_some, fc, b1_some, cl_25i (Or.inl rfl) (n_placeOf h hq), b2_some, if_pos (show cde 1 = -2011 from rfl), show (25 : Int32) + 1 = 26 from rfl, l_L_refusesOne_443.eq_2, if_neg (show ¬ (30 : Int32) ≤ 26 by decide), q_children h, b1_some, fc, b1_some, cl_26i (Or.inl rfl) (n_isHomeward h hq), b2_some, if_pos (show cde 1 = -2011 from rfl), show (26 : Int32) + 1 = 27 from rfl, l_L_refusesOne_443.eq_2, if_neg (show ¬ (30 : Int32) ≤ 27 by decide), q_children h, b1_some, fc, b1_some, cl_27i (Or.inl rfl) (n_prizesOf h hq), b2_some, if_pos (show cde 1 = -2011 from rfl), show (27 : Int32) + 1 = 28 from rfl, l_L_refusesOne_443.eq_2, if_neg (show ¬ (30 : Int32) ≤ 28 by decide), q_children h, b1_some, fc, b1_some, cl_28i (Or.inl rfl) (n_whyNoPlay h hq), b2_some, if_pos (show cde 1 = -2011 from rfl), show (28 : Int32) + 1 = 29 from rfl, l_L_refusesOne_443.eq_2, if_neg (show ¬ (30 : Int32) ≤ 29 by decide), q_children h, b1_some, fc, b1_some, cl_29i (Or.inl rfl) (n_homeIn h hq), b2_some, if_pos (show cde 1 = -2011 from rfl), show (29 : Int32) + 1 = 30 from rfl, l_L_refusesOne_443.eq_2, if_pos (show (30 : Int32) ≤ 30 by decide)]
theorem y_one {k : Int32} (h : PI σ f m R hs sn 0 T) (hk : k = 0 ∨ k = 1 ∨ k = 2 ∨ k = 3) : ∃ σ', f_L_refusesOne σ k = some (1, σ') ∧ PI σ' f m R hs sn 0 T := by
  have h7 := h.2.1.1.1.s7
  have e8 := ns_eq h.2.1.1.1.ns (by omega)
  obtain ⟨ys, fs, ns⟩ := far_n (n := nS f) (hi := f 8 - 1) hk (by omega) (by rw [e8])
  obtain ⟨y4, f4, n4⟩ := far_n (n := 4) (hi := 3) hk (by omega) (by decide)
  obtain ⟨y12, f12, n12⟩ := far_n (n := 12) (hi := 11) hk (by omega) (by decide)
  obtain ⟨y5, f5, n5⟩ := far_n (n := 5) (hi := 4) hk (by omega) (by decide)
  obtain ⟨y100, f100, n100⟩ := far_n (n := 100) (hi := 99) hk (by omega) (by decide)
  obtain ⟨y10, f10, n10⟩ := far_n (n := 10) (hi := 9) hk (by omega) (by decide)
  obtain ⟨y9, f9, n9⟩ := far_9 hk
  obtain ⟨y40, f40, n40⟩ := far_40 hk
  obtain ⟨y99, f99, n99⟩ := far_99 hk
  obtain ⟨σ1, c1, h1⟩ := n_car h all_0
  obtain ⟨σ2, c2, h2⟩ := n_imp h1 all_0
  refine ⟨σ2, ?_, h2⟩
  unfold f_L_refusesOne
  refine b1_ok (q_stalls h) ?_
  refine b1_ok fs ?_
  refine b1_ok f4 ?_
  refine b1_ok f12 ?_
  refine b2_ok (cl_00i (Or.inl rfl) (by decide) (n_build1 n12)) ?_
  refine ip_ok (show cde 1 = -2011 from rfl) ?_
  refine b1_ok f5 ?_
  refine b2_ok (cl_00i (Or.inl rfl) (by decide) (n_build2 (show vp_in 0 12 from vp_lit (by decide)) n5)) ?_
  refine ip_ok (show cde 1 = -2011 from rfl) ?_
  refine b1_ok f9 ?_
  refine b2_ok (cl_01i (Or.inr (Or.inl rfl)) (n_build3 (show vp_in 11 12 from vp_lit (by decide)) (show vp_in 4 5 from vp_lit (by decide)) n9)) ?_
  refine ip_ok (show cde 2 = -2012 from rfl) ?_
  refine b1_ok f5 ?_
  refine b2_ok (cl_7i (Or.inl rfl) (n_come1 n5)) ?_
  refine ip_ok (show cde 1 = -2011 from rfl) ?_
  refine b2_ok (cl_7i (Or.inl rfl) (n_come2 (show vp_in 0 5 from vp_lit (by decide)) n4)) ?_
  refine ip_ok (show cde 1 = -2011 from rfl) ?_
  refine b1_ok f100 ?_
  refine b2_ok (cl_7i (Or.inr (Or.inl rfl)) (n_come3 n100 (show vp_in 4 5 from vp_lit (by decide)) (show vp_in 3 4 from vp_lit (by decide)))) ?_
  refine ip_ok (show cde 2 = -2012 from rfl) ?_
  refine b1_ok f10 ?_
  refine b2_ok (cl_8i (Or.inl rfl) (n_setR1 n10)) ?_
  refine ip_ok (show cde 1 = -2011 from rfl) ?_
  refine b1_ok f10 ?_
  refine b2_ok (cl_8i (Or.inr (Or.inl rfl)) (n_setR2 (show vp_in 9 10 from vp_lit (by decide)) n10)) ?_
  refine ip_ok (show cde 2 = -2012 from rfl) ?_
  refine b1_ok f40 ?_
  refine b2_ok (cl_9i (Or.inr (Or.inl rfl)) (n_pass1 n40)) ?_
  refine ip_ok (show cde 2 = -2012 from rfl) ?_
  refine b1_ok f12 ?_
  refine b2_ok (cl_30i (Or.inl rfl) (n_stallOn n12)) ?_
  refine ip_ok (show cde 1 = -2011 from rfl) ?_
  refine b1_ok f12 ?_
  refine b2_ok (cl_31i (Or.inl rfl) (n_crowdOn n12)) ?_
  refine ip_ok (show cde 1 = -2011 from rfl) ?_
  refine b2_ok (cl_32i (Or.inl rfl) (n_wonOf n4)) ?_
  refine ip_ok (show cde 1 = -2011 from rfl) ?_
  refine b1_ok f10 ?_
  refine b2_ok (cl_33i (Or.inl rfl) (n_rainIn n10)) ?_
  refine ip_ok (show cde 1 = -2011 from rfl) ?_
  refine b1_ok f5 ?_
  refine b2_ok (cl_34i (Or.inl rfl) (n_best1 n5)) ?_
  refine ip_ok (show cde 1 = -2011 from rfl) ?_
  refine b1_ok f9 ?_
  refine b2_ok (cl_34i (Or.inr (Or.inl rfl)) (n_best2 (show vp_in 4 5 from vp_lit (by decide)) n9)) ?_
  refine ip_ok (show cde 2 = -2012 from rfl) ?_
  refine b2_ok (cl_36i (Or.inr (Or.inr rfl)) c1) ?_
  refine ip_ok (show cde 3 = -2013 from rfl) ?_
  refine b2_ok (cl_37i (Or.inr (Or.inr rfl)) c2) ?_
  refine ip_ok (show cde 3 = -2013 from rfl) ?_
  refine bl_ok (ref373 h2 ns) ?_
  refine bl_ok (ref408 h2 ns) ?_
  refine bl_ok (ref443 h2 hk) ?_
  refine b1_ok (q_stalls h2) ?_
  by_cases g8 : f 8 = 0
  · exact ip_ok g8 rfl
  · refine in_ok g8 ?_
    have g0 : 0 < nS f := by
      rcases Nat.eq_zero_or_pos (nS f) with q | q
      · rw [q] at e8
        exact absurd e8 g8
      · exact q
    refine b1_ok f9 ?_
    refine b2_ok (cl_2i (Or.inr (Or.inl rfl)) (n_setP2 (s := 0) h2 g0 n9)) ?_
    refine ip_ok (show cde 2 = -2012 from rfl) ?_
    refine b2_ok (cl_4i (Or.inl rfl) (n_stock2 (s := 0) h2 g0 n4)) ?_
    refine ip_ok (show cde 1 = -2011 from rfl) ?_
    refine b2_ok (cl_4i (Or.inl rfl) (n_stock3 (s := 0) h2 g0 (show vp_in 0 4 from vp_lit (by decide)) n4)) ?_
    refine ip_ok (show cde 1 = -2011 from rfl) ?_
    refine b1_ok f40 ?_
    refine b2_ok (cl_4i (Or.inr (Or.inl rfl)) (n_stock4 (s := 0) h2 g0 (show vp_in 3 4 from vp_lit (by decide)) (show vp_in 3 4 from vp_lit (by decide)) n40)) ?_
    refine ip_ok (show cde 2 = -2012 from rfl) ?_
    refine b1_ok f99 ?_
    refine b2_ok (cl_5i (Or.inr (Or.inl rfl)) (n_fund2 (s := 0) h2 g0 n99)) ?_
    refine ip_ok (show cde 2 = -2012 from rfl) ?_
    refine b2_ok (cl_21i (Or.inl rfl) (n_prizesOn2 (s := 0) h2 g0 n4)) ?_
    refine ip_ok (show cde 1 = -2011 from rfl) ?_
    refine b2_ok (cl_21i (Or.inl rfl) (n_prizesOn3 (s := 0) h2 g0 (show vp_in 0 4 from vp_lit (by decide)) n4)) ?_
    refine ip_ok (show cde 1 = -2011 from rfl) ?_
    rfl
theorem y_refused (h : PI σ f m R hs sn 0 T) : ∃ σ', f_L_refused σ = some (1, σ') ∧ PI σ' f m R hs sn 0 T := by
  obtain ⟨σ1, c1, h1⟩ := y_one (k := 0) h (by decide)
  obtain ⟨σ2, c2, h2⟩ := y_one (k := 1) h1 (by decide)
  obtain ⟨σ3, c3, h3⟩ := y_one (k := 2) h2 (by decide)
  obtain ⟨σ4, c4, h4⟩ := y_one (k := 3) h3 (by decide)
  obtain ⟨σ5, c5, h5⟩ := p_clear h4
  refine ⟨σ5, ?_, h5⟩
  have n10 : ¬ (1 : Int32) = 0 := by decide
  unfold f_L_refused
  rw [y_seen h, b2L_some, q_recorded h, b1_some]
  rw [l_L_refused_13.eq_2, if_neg (show ¬ (4 : Int32) ≤ 0 by decide), c1, b2_some, if_neg n10, show (0 : Int32) + 1 = 1 from rfl, l_L_refused_13.eq_2, if_neg (show ¬ (4 : Int32) ≤ 1 by decide), c2, b2_some, if_neg n10, show (1 : Int32) + 1 = 2 from rfl, l_L_refused_13.eq_2, if_neg (show ¬ (4 : Int32) ≤ 2 by decide), c3, b2_some, if_neg n10, show (2 : Int32) + 1 = 3 from rfl, l_L_refused_13.eq_2, if_neg (show ¬ (4 : Int32) ≤ 3 by decide), c4, b2_some, if_neg n10, show (3 : Int32) + 1 = 4 from rfl, l_L_refused_13.eq_2, if_pos (show (4 : Int32) ≤ 4 by decide), bl_inr]
  dsimp only
  rw [y_seen h4, b2L_some, if_pos rfl, q_recorded h4, b1_some, if_pos rfl, c5, b2_some, if_pos (show nI 0 = 0 from rfl)]
end REF
