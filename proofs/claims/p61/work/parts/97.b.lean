/-! the law's games -/
theorem z_gamesL {K : Nat → Nat → Int32 → Nat → Bool} {σ : Sg} (h : KQ (k_come 9 0 2 0 (k_come 9 1 2 1 (k_come 9 0 2 2 (k_come 9 1 2 3 (k_come 0 0 2 4 (K)))))) σ) : ∃ τ, l_L_games_113 6 σ 0 = some (.inr τ) ∧ KQ K τ := by
  obtain ⟨τ0, e0, h⟩ := z_come h
  obtain ⟨τ1, e1, h⟩ := z_come h
  obtain ⟨τ2, e2, h⟩ := z_come h
  obtain ⟨τ3, e3, h⟩ := z_come h
  obtain ⟨τ4, e4, h⟩ := z_come h
  refine ⟨τ4, ?_, h⟩
  rw [l_L_games_113.eq_2]
  refine in_ok (by decide) (in_ok (by decide) (ip_ok (by decide) (bn2_ok e0 (ip_ok (by decide) ?_))))
  rw [l_L_games_113.eq_2]
  refine in_ok (by decide) (in_ok (by decide) (in_ok (by decide) (bn2_ok e1 (ip_ok (by decide) ?_))))
  rw [l_L_games_113.eq_2]
  refine in_ok (by decide) (in_ok (by decide) (ip_ok (by decide) (bn2_ok e2 (ip_ok (by decide) ?_))))
  rw [l_L_games_113.eq_2]
  refine in_ok (by decide) (in_ok (by decide) (in_ok (by decide) (bn2_ok e3 (ip_ok (by decide) ?_))))
  rw [l_L_games_113.eq_2]
  refine in_ok (by decide) (ip_ok (by decide) (ip_ok (by decide) (bn2_ok e4 (ip_ok (by decide) ?_))))
  rw [l_L_games_113.eq_2]
  exact if_pos (by decide)
noncomputable def k_games : Nat → Nat → Int32 → Nat → Bool := k_rains 5 (k_build 0 0 1 1 0 (k_fund 0 99 99 (k_stock 0 3 0 2 79 (k_stock 0 2 1 1 73 (k_stock 0 1 2 1 70 (k_stock 0 1 0 1 67 (r_levelToWin 0 2 (r_playsToWin 0 4 (k_come 9 0 2 0 (k_come 9 1 2 1 (k_come 9 0 2 2 (k_come 9 1 2 3 (k_come 0 0 2 4 (r_crowdOn 0 5 (r_whyNoPlay 4 3 (k_pass 1 1 (r_is 0 8 52 0 0 0 (r_placeOf 1 1 (r_placeOf 4 1 (r_crowdOn 1 4 (k_pass 1 1 (r_is 0 7 44 0 0 4 (r_sulkers 1 (r_happiest 1 (r_playsToWin 0 2 (k_come 9 4 2 5 (k_pass 1 1 (r_placeOf 0 1 (r_is 5 8 52 0 0 0 (r_playsToWin 0 1 (k_pass 1 1 (r_is 5 7 72 0 1 4 (r_wonOf 2 1 (r_prizesOn 0 2 1 0 (r_levelToWin 0 1 (r_prizesOn 0 3 0 2 (r_playsOf 0 4 (k_setP 0 9 1 (k_come 9 2 2 6 (k_come 99 2 0 7 (k_pass 1 1 (r_is 6 0 52 0 0 3 (r_placeOf 7 1 (k_turn 0 0 (k_come 50 0 0 8 (r_whyNoPlay 8 2 (r_whyNoPlay 6 2 (r_levelToWin 0 1 (k_build 3 1 1 0 1 (r_playsToWin 1 3 (r_levelToWin 1 (-1) (k_fund 1 60 60 (k_stock 1 2 0 3 42 (r_levelToWin 1 (-1) (k_stock 1 1 3 1 39 (r_levelToWin 1 1 (k_build 4 2 1 0 2 (r_playsToWin 2 5 (k_fund 2 31 31 (k_stock 2 3 3 3 1 (r_levelToWin 2 3 (x_stock 2 3 3 1 (k_end)))))))))))))))))))))))))))))))))))))))))))))))))))))))))))))))
theorem k_games_ok : k_games 9223372036854775808000 0 0 0 = true := by decide +kernel
theorem r_games : f_L_games = some 1 := by
  have h := z_start k_games_ok
  unfold k_games at h
  unfold f_L_games
  obtain ⟨τ, e, h⟩ := z_rains h
  refine b2_ok e (in_ok (by decide) ?_)
  obtain ⟨τ, e, h⟩ := z_build h
  refine bn2_ok e (ip_ok rfl ?_)
  obtain ⟨τ, e, h⟩ := z_fund h
  refine bn2_ok e (ip_ok rfl ?_)
  obtain ⟨τ, e, h⟩ := z_stock h
  refine bn2_ok e (ip_ok rfl ?_)
  obtain ⟨τ, e, h⟩ := z_stock h
  refine bn2_ok e (ip_ok rfl ?_)
  obtain ⟨τ, e, h⟩ := z_stock h
  refine bn2_ok e (ip_ok rfl ?_)
  obtain ⟨τ, e, h⟩ := z_stock h
  refine bn2_ok e (ip_ok rfl ?_)
  obtain ⟨e, h⟩ := y_levelToWin h
  refine bn1_ok e (ip_ok rfl ?_)
  obtain ⟨e, h⟩ := y_playsToWin h
  refine bn1_ok e (ip_ok rfl ?_)
  obtain ⟨τ, e, h⟩ := z_gamesL h
  refine bl_ok e ?_
  obtain ⟨e, h⟩ := y_crowdOn h
  refine bn1_ok e (ip_ok rfl ?_)
  obtain ⟨e, h⟩ := y_whyNoPlay h
  refine bn1_ok e (ip_ok rfl ?_)
  obtain ⟨τ, e, h⟩ := z_pass h
  refine bn2_ok e (ip_ok rfl ?_)
  obtain ⟨e, h⟩ := y_is h
  refine b2_ok e (in_ok (by decide) ?_)
  obtain ⟨e, h⟩ := y_placeOf h
  refine bn1_ok e (ip_ok rfl ?_)
  obtain ⟨e, h⟩ := y_placeOf h
  refine bn1_ok e (ip_ok rfl ?_)
  obtain ⟨e, h⟩ := y_crowdOn h
  refine bn1_ok e (ip_ok rfl ?_)
  obtain ⟨τ, e, h⟩ := z_pass h
  refine bn2_ok e (ip_ok rfl ?_)
  obtain ⟨e, h⟩ := y_is h
  refine b2_ok e (in_ok (by decide) ?_)
  obtain ⟨e, h⟩ := y_sulkers h
  refine b1_ok e (ip_ok rfl ?_)
  obtain ⟨e, h⟩ := y_happiest h
  refine b1_ok e (ip_ok rfl ?_)
  obtain ⟨e, h⟩ := y_playsToWin h
  refine bn1_ok e (ip_ok rfl ?_)
  obtain ⟨τ, e, h⟩ := z_come h
  refine bn2_ok e (ip_ok rfl ?_)
  obtain ⟨τ, e, h⟩ := z_pass h
  refine bn2_ok e (ip_ok rfl ?_)
  obtain ⟨e, h⟩ := y_placeOf h
  refine bn1_ok e (ip_ok rfl ?_)
  obtain ⟨e, h⟩ := y_is h
  refine b2_ok e (in_ok (by decide) ?_)
  obtain ⟨e, h⟩ := y_playsToWin h
  refine bn1_ok e (ip_ok rfl ?_)
  obtain ⟨τ, e, h⟩ := z_pass h
  refine bn2_ok e (ip_ok rfl ?_)
  obtain ⟨e, h⟩ := y_is h
  refine b2_ok e (in_ok (by decide) ?_)
  obtain ⟨e, h⟩ := y_wonOf h
  refine bn1_ok e (ip_ok rfl ?_)
  obtain ⟨e, h⟩ := y_prizesOn h
  refine bn1_ok e (ip_ok rfl ?_)
  obtain ⟨e, h⟩ := y_levelToWin h
  refine bn1_ok e (ip_ok rfl ?_)
  obtain ⟨e, h⟩ := y_prizesOn h
  refine bn1_ok e (ip_ok rfl ?_)
  obtain ⟨e, h⟩ := y_playsOf h
  refine bn1_ok e (ip_ok rfl ?_)
  obtain ⟨τ, e, h⟩ := z_setP h
  refine bn2_ok e (ip_ok rfl ?_)
  obtain ⟨τ, e, h⟩ := z_come h
  refine bn2_ok e (ip_ok rfl ?_)
  obtain ⟨τ, e, h⟩ := z_come h
  refine bn2_ok e (ip_ok rfl ?_)
  obtain ⟨τ, e, h⟩ := z_pass h
  refine bn2_ok e (ip_ok rfl ?_)
  obtain ⟨e, h⟩ := y_is h
  refine b2_ok e (in_ok (by decide) ?_)
  obtain ⟨e, h⟩ := y_placeOf h
  refine bn1_ok e (ip_ok rfl ?_)
  obtain ⟨τ, e, h⟩ := z_turn h
  refine bn2_ok e (ip_ok rfl ?_)
  obtain ⟨τ, e, h⟩ := z_come h
  refine bn2_ok e (ip_ok rfl ?_)
  obtain ⟨e, h⟩ := y_whyNoPlay h
  refine bn1_ok e (ip_ok rfl ?_)
  obtain ⟨e, h⟩ := y_whyNoPlay h
  refine bn1_ok e (ip_ok rfl ?_)
  obtain ⟨e, h⟩ := y_levelToWin h
  refine bn1_ok e (ip_ok rfl ?_)
  obtain ⟨τ, e, h⟩ := z_build h
  refine bn2_ok e (ip_ok rfl ?_)
  obtain ⟨e, h⟩ := y_playsToWin h
  refine bn1_ok e (ip_ok rfl ?_)
  obtain ⟨e, h⟩ := y_levelToWin h
  refine bn1_ok e (ip_ok rfl ?_)
  obtain ⟨τ, e, h⟩ := z_fund h
  refine bn2_ok e (ip_ok rfl ?_)
  obtain ⟨τ, e, h⟩ := z_stock h
  refine bn2_ok e (ip_ok rfl ?_)
  obtain ⟨e, h⟩ := y_levelToWin h
  refine bn1_ok e (ip_ok rfl ?_)
  obtain ⟨τ, e, h⟩ := z_stock h
  refine bn2_ok e (ip_ok rfl ?_)
  obtain ⟨e, h⟩ := y_levelToWin h
  refine bn1_ok e (ip_ok rfl ?_)
  obtain ⟨τ, e, h⟩ := z_build h
  refine bn2_ok e (ip_ok rfl ?_)
  obtain ⟨e, h⟩ := y_playsToWin h
  refine bn1_ok e (ip_ok rfl ?_)
  obtain ⟨τ, e, h⟩ := z_fund h
  refine bn2_ok e (ip_ok rfl ?_)
  obtain ⟨τ, e, h⟩ := z_stock h
  refine bn2_ok e (ip_ok rfl ?_)
  obtain ⟨e, h⟩ := y_levelToWin h
  refine bn1_ok e (ip_ok rfl ?_)
  obtain ⟨e, h⟩ := w_stock h
  refine b2_ok e (ip_ok rfl ?_)
  obtain ⟨y0, e, e2, h⟩ := y_sum h
  refine b1_ok e (b1_ok e2 (ip_ok rfl ?_))
  rfl
