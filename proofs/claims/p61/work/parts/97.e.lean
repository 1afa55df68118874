/-! the law's days -/
noncomputable def k_days : Nat → Nat → Int32 → Nat → Bool := x_undo (x_rest (r_bank 500 (r_coinsByPlaces 500 (r_happiest (-1) (r_isChildDue 1 (r_stallOn 11 (-1) (k_rains 5 (k_best 0 1 0 (k_today 0 (k_come 20 3 1 0 (r_is 0 20 60 0 0 2 (k_build 0 4 3 1 0 (r_bank 450 (k_build 1 3 2 0 1 (x_build 1 0 1 (x_stock 1 0 1 1 (k_fund 1 20 20 (k_stock 1 0 1 2 18 (k_stock 1 0 3 1 17 (r_shelfOf 1 3 (r_levelToWin 1 0 (r_levelToWin 0 (-1) (r_playsToWin 1 1 (r_playsToWin 0 (-1) (r_rentOf 0 8 (r_rentOf 1 7 (k_home 0 31 (k_today 20 (r_is 0 20 60 0 0 0 (k_snap 400 (k_pass 1 1 (r_is 0 17 75 0 0 0 (k_pass 1 1 (r_is 0 14 90 0 0 4 (k_pass 1 0 (r_is 0 14 90 1 0 0 (k_pass 2 2 (r_is 0 10 100 1 2 4 (r_prizesOn 1 0 1 0 (r_wonOf 0 2 (k_pass 10 0 (r_is 0 10 80 11 2 2 (r_isHomeward 0 0 (k_pass 1 0 (r_is 0 10 78 10 2 2 (r_isHomeward 0 1 (k_pass 9 0 (r_is 0 10 60 1 2 0 (k_pass 1 1 (r_is 0 8 78 1 3 0 (r_levelToWin 1 (-1) (k_pass 1 1 (r_is 0 6 68 1 3 4 (k_pass 1 0 (r_is 0 6 66 0 3 0 (k_pass 2 2 (r_is 0 0 96 0 3 3 (k_home 0 1 (k_pass 1 0 (r_is 0 0 96 (-1) 3 1 (r_isHomeward 0 1 (r_round 31 (r_takings 20 (r_takingsByChildren 20 (r_purseOfStall 0 12 (r_purseOfStall 1 25 (k_pass 9 0 (r_day 1 (r_round 0 (r_purseOfStall 0 4 (r_purseOfStall 1 18 (r_town 15 (r_allCoins 520 (r_coinsByPlaces 520 (r_recordedStates 4 (k_coll 0 4 (k_pass 40 0 (r_isOpen 0 0 (r_purseOfStall 0 0 (r_purseOfStall 1 11 (r_town 22 (k_turn 0 1 (k_rest 400 (k_pass 40 8 (r_town 15 (k_down 0 4 (r_stallOn 1 0 (r_plays 8 (k_end)))))))))))))))))))))))))))))))))))))))))))))))))))))))))))))))))))))))))))))))))))))))))
theorem k_days_ok : k_days 9223372036854775808000 0 0 0 = true := by decide +kernel
theorem r_days : f_L_days = some 1 := by
  have h := z_start k_days_ok
  unfold k_days at h
  unfold f_L_days
  obtain ⟨e, h⟩ := w_undo h
  refine b2_ok e (ip_ok rfl ?_)
  obtain ⟨e, h⟩ := w_rest h
  refine b2_ok e (ip_ok rfl ?_)
  obtain ⟨e, h⟩ := y_bank h
  refine b1_ok e (ip_ok rfl ?_)
  obtain ⟨e, h⟩ := y_coinsByPlaces h
  refine b1_ok e (ip_ok rfl ?_)
  obtain ⟨e, h⟩ := y_happiest h
  refine b1_ok e (ip_ok rfl ?_)
  obtain ⟨e, h⟩ := y_isChildDue h
  refine b1_ok e (in_ok (by decide) ?_)
  obtain ⟨e, h⟩ := y_stallOn h
  refine bn1_ok e (ip_ok rfl ?_)
  obtain ⟨τ, e, h⟩ := z_refused h
  refine b2_ok e (in_ok (by decide) ?_)
  obtain ⟨τ, e, h⟩ := z_rains h
  refine b2_ok e (in_ok (by decide) ?_)
  obtain ⟨τ, e, h⟩ := z_best h
  refine bn2_ok e (ip_ok rfl ?_)
  obtain ⟨τ, e, h⟩ := z_today h
  refine b2_ok e (ip_ok rfl ?_)
  obtain ⟨τ, e, h⟩ := z_come h
  refine bn2_ok e (ip_ok rfl ?_)
  obtain ⟨e, h⟩ := y_is h
  refine b2_ok e (in_ok (by decide) ?_)
  obtain ⟨τ, e, h⟩ := z_build h
  refine bn2_ok e (ip_ok rfl ?_)
  obtain ⟨e, h⟩ := y_bank h
  refine b1_ok e (ip_ok rfl ?_)
  obtain ⟨τ, e, h⟩ := z_build h
  refine bn2_ok e (ip_ok rfl ?_)
  obtain ⟨e, h⟩ := w_build h
  refine b2_ok e (ip_ok rfl ?_)
  obtain ⟨e, h⟩ := w_stock h
  refine b2_ok e (ip_ok rfl ?_)
  obtain ⟨τ, e, h⟩ := z_fund h
  refine bn2_ok e (ip_ok rfl ?_)
  obtain ⟨τ, e, h⟩ := z_stock h
  refine bn2_ok e (ip_ok rfl ?_)
  obtain ⟨τ, e, h⟩ := z_stock h
  refine bn2_ok e (ip_ok rfl ?_)
  obtain ⟨e, h⟩ := y_shelfOf h
  refine bn1_ok e (ip_ok rfl ?_)
  obtain ⟨e, h⟩ := y_levelToWin h
  refine bn1_ok e (ip_ok rfl ?_)
  obtain ⟨e, h⟩ := y_levelToWin h
  refine bn1_ok e (ip_ok rfl ?_)
  obtain ⟨e, h⟩ := y_playsToWin h
  refine bn1_ok e (ip_ok rfl ?_)
  obtain ⟨e, h⟩ := y_playsToWin h
  refine bn1_ok e (ip_ok rfl ?_)
  obtain ⟨e, h⟩ := y_rentOf h
  refine bn1_ok e (ip_ok rfl ?_)
  obtain ⟨e, h⟩ := y_rentOf h
  refine bn1_ok e (ip_ok rfl ?_)
  obtain ⟨τ, e, h⟩ := z_home h
  refine bn2_ok e (ip_ok rfl ?_)
  obtain ⟨τ, e, h⟩ := z_today h
  refine b2_ok e (ip_ok rfl ?_)
  obtain ⟨e, h⟩ := y_is h
  refine b2_ok e (in_ok (by decide) ?_)
  obtain ⟨τ, e, h⟩ := z_refused h
  refine b2_ok e (in_ok (by decide) ?_)
  obtain ⟨τ, e, h⟩ := z_snap h
  refine b2_ok e (ip_ok rfl ?_)
  obtain ⟨τ, e, h⟩ := z_pass h
  refine bn2_ok e (ip_ok rfl ?_)
  obtain ⟨e, h⟩ := y_is h
  refine b2_ok e (in_ok (by decide) ?_)
  obtain ⟨τ, e, h⟩ := z_pass h
  refine bn2_ok e (ip_ok rfl ?_)
  obtain ⟨e, h⟩ := y_is h
  refine b2_ok e (in_ok (by decide) ?_)
  obtain ⟨τ, e, h⟩ := z_pass h
  refine bn2_ok e (ip_ok rfl ?_)
  obtain ⟨e, h⟩ := y_is h
  refine b2_ok e (in_ok (by decide) ?_)
  obtain ⟨τ, e, h⟩ := z_pass h
  refine bn2_ok e (ip_ok rfl ?_)
  obtain ⟨e, h⟩ := y_is h
  refine b2_ok e (in_ok (by decide) ?_)
  obtain ⟨e, h⟩ := y_prizesOn h
  refine bn1_ok e (ip_ok rfl ?_)
  obtain ⟨e, h⟩ := y_wonOf h
  refine bn1_ok e (ip_ok rfl ?_)
  obtain ⟨τ, e, h⟩ := z_pass h
  refine bn2_ok e (ip_ok rfl ?_)
  obtain ⟨e, h⟩ := y_is h
  refine b2_ok e (in_ok (by decide) ?_)
  obtain ⟨e, h⟩ := y_isHomeward h
  refine bn1_ok e (ip_ok rfl ?_)
  obtain ⟨τ, e, h⟩ := z_pass h
  refine bn2_ok e (ip_ok rfl ?_)
  obtain ⟨e, h⟩ := y_is h
  refine b2_ok e (in_ok (by decide) ?_)
  obtain ⟨e, h⟩ := y_isHomeward h
  refine bn1_ok e (in_ok (by decide) ?_)
  obtain ⟨τ, e, h⟩ := z_pass h
  refine bn2_ok e (ip_ok rfl ?_)
  obtain ⟨e, h⟩ := y_is h
  refine b2_ok e (in_ok (by decide) ?_)
  obtain ⟨τ, e, h⟩ := z_pass h
  refine bn2_ok e (ip_ok rfl ?_)
  obtain ⟨e, h⟩ := y_is h
  refine b2_ok e (in_ok (by decide) ?_)
  obtain ⟨e, h⟩ := y_levelToWin h
  refine bn1_ok e (ip_ok rfl ?_)
  obtain ⟨τ, e, h⟩ := z_pass h
  refine bn2_ok e (ip_ok rfl ?_)
  obtain ⟨e, h⟩ := y_is h
  refine b2_ok e (in_ok (by decide) ?_)
  obtain ⟨τ, e, h⟩ := z_pass h
  refine bn2_ok e (ip_ok rfl ?_)
  obtain ⟨e, h⟩ := y_is h
  refine b2_ok e (in_ok (by decide) ?_)
  obtain ⟨τ, e, h⟩ := z_pass h
  refine bn2_ok e (ip_ok rfl ?_)
  obtain ⟨e, h⟩ := y_is h
  refine b2_ok e (in_ok (by decide) ?_)
  obtain ⟨τ, e, h⟩ := z_home h
  refine bn2_ok e (ip_ok rfl ?_)
  obtain ⟨τ, e, h⟩ := z_pass h
  refine bn2_ok e (ip_ok rfl ?_)
  obtain ⟨e, h⟩ := y_is h
  refine b2_ok e (in_ok (by decide) ?_)
  obtain ⟨e, h⟩ := y_isHomeward h
  refine bn1_ok e (in_ok (by decide) ?_)
  obtain ⟨e, h⟩ := y_round h
  refine b1_ok e (ip_ok rfl ?_)
  obtain ⟨e, h⟩ := y_takings h
  refine b1_ok e (ip_ok rfl ?_)
  obtain ⟨e, h⟩ := y_takingsByChildren h
  refine b1_ok e (ip_ok rfl ?_)
  obtain ⟨e, h⟩ := y_purseOfStall h
  refine bn1_ok e (ip_ok rfl ?_)
  obtain ⟨e, h⟩ := y_purseOfStall h
  refine bn1_ok e (ip_ok rfl ?_)
  obtain ⟨τ, e, h⟩ := z_pass h
  refine bn2_ok e (ip_ok rfl ?_)
  obtain ⟨e, h⟩ := y_day h
  refine b1_ok e (ip_ok rfl ?_)
  obtain ⟨e, h⟩ := y_round h
  refine b1_ok e (ip_ok rfl ?_)
  obtain ⟨e, h⟩ := y_purseOfStall h
  refine bn1_ok e (ip_ok rfl ?_)
  obtain ⟨e, h⟩ := y_purseOfStall h
  refine bn1_ok e (ip_ok rfl ?_)
  obtain ⟨e, h⟩ := y_town h
  refine b1_ok e (ip_ok rfl ?_)
  obtain ⟨e, h⟩ := y_allCoins h
  refine b1_ok e (ip_ok rfl ?_)
  obtain ⟨e, h⟩ := y_coinsByPlaces h
  refine b1_ok e (ip_ok rfl ?_)
  obtain ⟨e, h⟩ := y_recordedStates h
  refine b1_ok e (ip_ok rfl ?_)
  obtain ⟨τ, e, h⟩ := z_refused h
  refine b2_ok e (in_ok (by decide) ?_)
  obtain ⟨τ, e, h⟩ := z_coll h
  refine bn2_ok e (ip_ok rfl ?_)
  obtain ⟨τ, e, h⟩ := z_pass h
  refine bn2_ok e (ip_ok rfl ?_)
  obtain ⟨e, h⟩ := y_isOpen h
  refine bn1_ok e (ip_ok rfl ?_)
  obtain ⟨e, h⟩ := y_purseOfStall h
  refine bn1_ok e (ip_ok rfl ?_)
  obtain ⟨e, h⟩ := y_purseOfStall h
  refine bn1_ok e (ip_ok rfl ?_)
  obtain ⟨e, h⟩ := y_town h
  refine b1_ok e (ip_ok rfl ?_)
  obtain ⟨τ, e, h⟩ := z_turn h
  refine bn2_ok e (in_ok (by decide) ?_)
  obtain ⟨τ, e, h⟩ := z_rest h
  refine bn2_ok e (ip_ok rfl ?_)
  obtain ⟨τ, e, h⟩ := z_pass h
  refine bn2_ok e (ip_ok rfl ?_)
  obtain ⟨e, h⟩ := y_town h
  refine b1_ok e (ip_ok rfl ?_)
  obtain ⟨τ, e, h⟩ := z_down h
  refine bn2_ok e (ip_ok rfl ?_)
  obtain ⟨e, h⟩ := y_stallOn h
  refine bn1_ok e (ip_ok rfl ?_)
  obtain ⟨e, h⟩ := y_plays h
  refine b1_ok e (ip_ok rfl ?_)
  refine b1_ok r_games (in_ok (by decide) ?_)
  refine b1_ok r_walks (in_ok (by decide) ?_)
  refine b1_ok r_limits (in_ok (by decide) ?_)
  rfl
