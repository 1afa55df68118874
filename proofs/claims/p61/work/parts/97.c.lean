/-! the law's walks -/
theorem z_walksL {K : Nat → Nat → Int32 → Nat → Bool} {σ : Sg} (h : KQ (r_rainIn 0 0 (r_rainIn 2 4 (k_pass 40 0 (r_atFair 0 (r_rainIn 0 0 (r_rainIn 2 4 (k_pass 40 0 (r_atFair 0 (r_rainIn 0 0 (r_rainIn 2 4 (k_pass 40 0 (r_atFair 0 (r_rainIn 0 0 (r_rainIn 2 4 (k_pass 40 0 (r_atFair 0 (r_rainIn 0 0 (r_rainIn 2 4 (k_pass 40 0 (r_atFair 0 (K))))))))))))))))))))) σ) : ∃ τ, l_L_walks_235 6 σ 1 = some (.inr τ) ∧ KQ K τ := by
  obtain ⟨a0, h⟩ := y_rainIn h
  obtain ⟨b0, h⟩ := y_rainIn h
  obtain ⟨τ0, e0, h⟩ := z_pass h
  obtain ⟨d0, h⟩ := y_atFair h
  obtain ⟨a1, h⟩ := y_rainIn h
  obtain ⟨b1, h⟩ := y_rainIn h
  obtain ⟨τ1, e1, h⟩ := z_pass h
  obtain ⟨d1, h⟩ := y_atFair h
  obtain ⟨a2, h⟩ := y_rainIn h
  obtain ⟨b2, h⟩ := y_rainIn h
  obtain ⟨τ2, e2, h⟩ := z_pass h
  obtain ⟨d2, h⟩ := y_atFair h
  obtain ⟨a3, h⟩ := y_rainIn h
  obtain ⟨b3, h⟩ := y_rainIn h
  obtain ⟨τ3, e3, h⟩ := z_pass h
  obtain ⟨d3, h⟩ := y_atFair h
  obtain ⟨a4, h⟩ := y_rainIn h
  obtain ⟨b4, h⟩ := y_rainIn h
  obtain ⟨τ4, e4, h⟩ := z_pass h
  obtain ⟨d4, h⟩ := y_atFair h
  refine ⟨τ4, ?_, h⟩
  rw [l_L_walks_235.eq_2]
  refine in_ok (by decide) (bn1_ok a0 (ip_ok rfl (bn1_ok b0 (ip_ok rfl (bn2_ok e0 (ip_ok rfl (b1_ok d0 (ip_ok rfl ?_))))))))
  rw [l_L_walks_235.eq_2]
  refine in_ok (by decide) (bn1_ok a1 (ip_ok rfl (bn1_ok b1 (ip_ok rfl (bn2_ok e1 (ip_ok rfl (b1_ok d1 (ip_ok rfl ?_))))))))
  rw [l_L_walks_235.eq_2]
  refine in_ok (by decide) (bn1_ok a2 (ip_ok rfl (bn1_ok b2 (ip_ok rfl (bn2_ok e2 (ip_ok rfl (b1_ok d2 (ip_ok rfl ?_))))))))
  rw [l_L_walks_235.eq_2]
  refine in_ok (by decide) (bn1_ok a3 (ip_ok rfl (bn1_ok b3 (ip_ok rfl (bn2_ok e3 (ip_ok rfl (b1_ok d3 (ip_ok rfl ?_))))))))
  rw [l_L_walks_235.eq_2]
  refine in_ok (by decide) (bn1_ok a4 (ip_ok rfl (bn1_ok b4 (ip_ok rfl (bn2_ok e4 (ip_ok rfl (b1_ok d4 (ip_ok rfl ?_))))))))
  rw [l_L_walks_235.eq_2]
  exact if_pos (by decide)
noncomputable def k_walks : Nat → Nat → Int32 → Nat → Bool := k_pass 1 0 (r_children 1 (r_is 0 5 60 1 0 2 (r_isChildDue 0 (k_pass 3 0 (r_isChildDue 1 (k_pass 1 0 (r_children 2 (r_is 1 12 60 1 0 2 (k_setR 2 4 0 (k_setR 3 1 0 (k_pass 3 0 (r_isChildDue 1 (k_pass 1 0 (r_children 3 (r_is 2 19 58 1 0 2 (r_moodOf 0 58 (k_pass 3 0 (r_isChildDue 0 (k_pass 1 0 (r_moodOf 2 52 (k_pass 27 0 (r_day 1 (r_atFair 0 (r_children 9 (r_rainIn 0 0 (r_rainIn 2 4 (k_pass 40 0 (r_atFair 0 (r_rainIn 0 0 (r_rainIn 2 4 (k_pass 40 0 (r_atFair 0 (r_rainIn 0 0 (r_rainIn 2 4 (k_pass 40 0 (r_atFair 0 (r_rainIn 0 0 (r_rainIn 2 4 (k_pass 40 0 (r_atFair 0 (r_rainIn 0 0 (r_rainIn 2 4 (k_pass 40 0 (r_atFair 0 (r_day 6 (r_rainIn 0 4 (r_rainIn 2 8 (r_rainIn 3 5 (k_setR 1 9 0 (r_rainIn 1 9 (r_isChildDue 1 (r_children 54 (k_pass 1 0 (r_children 55 (r_is 54 8 58 1 0 2 (k_setR 0 9 0 (k_pass 3 0 (r_moodOf 54 46 (k_pass 4 0 (r_moodOf 54 30 (k_setR 2 9 4 (k_setR 3 9 1 (k_home 54 8 (k_pass 7 0 (r_moodOf 54 2 (r_isAtFair 54 1 (k_pass 1 0 (r_moodOf 54 0 (r_isAtFair 54 0 (r_isHomeward 54 1 (r_purseOf 54 8 (k_end))))))))))))))))))))))))))))))))))))))))))))))))))))))))))))))))))))))))
theorem k_walks_ok : k_walks 9223372036854775808000 0 0 0 = true := by decide +kernel
theorem r_walks : f_L_walks = some 1 := by
  have h := z_start k_walks_ok
  unfold k_walks at h
  unfold f_L_walks
  obtain ⟨τ, e, h⟩ := z_pass h
  refine bn2_ok e (ip_ok rfl ?_)
  obtain ⟨e, h⟩ := y_children h
  refine b1_ok e (ip_ok rfl ?_)
  obtain ⟨e, h⟩ := y_is h
  refine b2_ok e (in_ok (by decide) ?_)
  obtain ⟨e, h⟩ := y_isChildDue h
  refine b1_ok e (ip_ok rfl ?_)
  obtain ⟨τ, e, h⟩ := z_pass h
  refine bn2_ok e (ip_ok rfl ?_)
  obtain ⟨e, h⟩ := y_isChildDue h
  refine b1_ok e (in_ok (by decide) ?_)
  obtain ⟨τ, e, h⟩ := z_pass h
  refine bn2_ok e (ip_ok rfl ?_)
  obtain ⟨e, h⟩ := y_children h
  refine b1_ok e (ip_ok rfl ?_)
  obtain ⟨e, h⟩ := y_is h
  refine b2_ok e (in_ok (by decide) ?_)
  obtain ⟨τ, e, h⟩ := z_setR h
  refine bn2_ok e (ip_ok rfl ?_)
  obtain ⟨τ, e, h⟩ := z_setR h
  refine bn2_ok e (ip_ok rfl ?_)
  obtain ⟨τ, e, h⟩ := z_pass h
  refine bn2_ok e (ip_ok rfl ?_)
  obtain ⟨e, h⟩ := y_isChildDue h
  refine b1_ok e (in_ok (by decide) ?_)
  obtain ⟨τ, e, h⟩ := z_pass h
  refine bn2_ok e (ip_ok rfl ?_)
  obtain ⟨e, h⟩ := y_children h
  refine b1_ok e (ip_ok rfl ?_)
  obtain ⟨e, h⟩ := y_is h
  refine b2_ok e (in_ok (by decide) ?_)
  obtain ⟨e, h⟩ := y_moodOf h
  refine bn1_ok e (ip_ok rfl ?_)
  obtain ⟨τ, e, h⟩ := z_pass h
  refine bn2_ok e (ip_ok rfl ?_)
  obtain ⟨e, h⟩ := y_isChildDue h
  refine b1_ok e (ip_ok rfl ?_)
  obtain ⟨τ, e, h⟩ := z_pass h
  refine bn2_ok e (ip_ok rfl ?_)
  obtain ⟨e, h⟩ := y_moodOf h
  refine bn1_ok e (ip_ok rfl ?_)
  obtain ⟨τ, e, h⟩ := z_pass h
  refine bn2_ok e (ip_ok rfl ?_)
  obtain ⟨e, h⟩ := y_day h
  refine b1_ok e (ip_ok rfl ?_)
  obtain ⟨e, h⟩ := y_atFair h
  refine b1_ok e (ip_ok rfl ?_)
  obtain ⟨e, h⟩ := y_children h
  refine b1_ok e (ip_ok rfl ?_)
  obtain ⟨τ, e, h⟩ := z_walksL h
  refine bl_ok e ?_
  obtain ⟨e, h⟩ := y_day h
  refine b1_ok e (ip_ok rfl ?_)
  obtain ⟨e, h⟩ := y_rainIn h
  refine bn1_ok e (ip_ok rfl ?_)
  obtain ⟨e, h⟩ := y_rainIn h
  refine bn1_ok e (ip_ok rfl ?_)
  obtain ⟨e, h⟩ := y_rainIn h
  refine bn1_ok e (ip_ok rfl ?_)
  obtain ⟨τ, e, h⟩ := z_setR h
  refine bn2_ok e (ip_ok rfl ?_)
  obtain ⟨e, h⟩ := y_rainIn h
  refine bn1_ok e (ip_ok rfl ?_)
  obtain ⟨e, h⟩ := y_isChildDue h
  refine b1_ok e (in_ok (by decide) ?_)
  obtain ⟨e, h⟩ := y_children h
  refine b1_ok e (ip_ok rfl ?_)
  obtain ⟨τ, e, h⟩ := z_pass h
  refine bn2_ok e (ip_ok rfl ?_)
  obtain ⟨e, h⟩ := y_children h
  refine b1_ok e (ip_ok rfl ?_)
  obtain ⟨e, h⟩ := y_is h
  refine b2_ok e (in_ok (by decide) ?_)
  obtain ⟨τ, e, h⟩ := z_setR h
  refine bn2_ok e (ip_ok rfl ?_)
  obtain ⟨τ, e, h⟩ := z_pass h
  refine bn2_ok e (ip_ok rfl ?_)
  obtain ⟨e, h⟩ := y_moodOf h
  refine bn1_ok e (ip_ok rfl ?_)
  obtain ⟨τ, e, h⟩ := z_pass h
  refine bn2_ok e (ip_ok rfl ?_)
  obtain ⟨e, h⟩ := y_moodOf h
  refine bn1_ok e (ip_ok rfl ?_)
  obtain ⟨τ, e, h⟩ := z_setR h
  refine bn2_ok e (ip_ok rfl ?_)
  obtain ⟨τ, e, h⟩ := z_setR h
  refine bn2_ok e (ip_ok rfl ?_)
  obtain ⟨τ, e, h⟩ := z_home h
  refine bn2_ok e (ip_ok rfl ?_)
  obtain ⟨τ, e, h⟩ := z_pass h
  refine bn2_ok e (ip_ok rfl ?_)
  obtain ⟨e, h⟩ := y_moodOf h
  refine bn1_ok e (ip_ok rfl ?_)
  obtain ⟨e, h⟩ := y_isAtFair h
  refine bn1_ok e (in_ok (by decide) ?_)
  obtain ⟨τ, e, h⟩ := z_pass h
  refine bn2_ok e (ip_ok rfl ?_)
  obtain ⟨e, h⟩ := y_moodOf h
  refine bn1_ok e (ip_ok rfl ?_)
  obtain ⟨e, h⟩ := y_isAtFair h
  refine bn1_ok e (ip_ok rfl ?_)
  obtain ⟨e, h⟩ := y_isHomeward h
  refine bn1_ok e (in_ok (by decide) ?_)
  obtain ⟨e, h⟩ := y_purseOf h
  refine bn1_ok e (ip_ok rfl ?_)
  obtain ⟨τ, e, h⟩ := z_refused h
  refine b2_ok e (in_ok (by decide) ?_)
  rfl
