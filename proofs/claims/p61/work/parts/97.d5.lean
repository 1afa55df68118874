/-! the law's limits, the end -/
theorem z_l289 {σ : Sg} (h : KQ (k_lim 80 0 (k_at LA)) σ) : ∃ τ, l_L_limits_289 201 σ 0 = some (.inr τ) ∧ KQ (r_children 200 (x_come 5 0 0 (k_setR 0 0 9 (r_isChildDue 0 (r_day 5 ((k_at LE))))))) τ := by
  obtain ⟨τ1, e1, h⟩ := z_lim 80 0 121 σ (by omega) h
  obtain ⟨τ2, e2, h⟩ := z_lim 80 80 41 τ1 (by omega) (z_at h k_limC_ok)
  have h := z_at h k_limE_ok
  unfold k_limE at h
  obtain ⟨τ3, e3, h⟩ := z_lim 40 160 1 τ2 (by omega) h
  refine ⟨τ3, ?_, h⟩
  exact e1.trans (e2.trans (e3.trans (by rw [l_L_limits_289.eq_2]; exact if_pos (by decide))))
theorem r_limits : f_L_limits = some 1 := by
  have h := z_start k_limA_ok
  unfold k_limA at h
  unfold f_L_limits
  obtain ⟨τ, e, h⟩ := z_rains h
  refine b2_ok e (in_ok (by decide) ?_)
  obtain ⟨τ, e, h⟩ := z_l21 h
  refine bl_ok e ?_
  obtain ⟨e, h⟩ := y_bank h
  refine b1_ok e (ip_ok rfl ?_)
  obtain ⟨e, h⟩ := w_build h
  refine b2_ok e (ip_ok rfl ?_)
  obtain ⟨τ, e, h⟩ := z_best h
  refine bn2_ok e (ip_ok rfl ?_)
  obtain ⟨τ, e, h⟩ := z_fund h
  refine bn2_ok e (ip_ok rfl ?_)
  obtain ⟨τ, e, h⟩ := z_fund h
  refine bn2_ok e (ip_ok rfl ?_)
  obtain ⟨τ, e, h⟩ := z_fund h
  refine bn2_ok e (ip_ok rfl ?_)
  obtain ⟨e, h⟩ := w_fund h
  refine b2_ok e (ip_ok rfl ?_)
  obtain ⟨τ, e, h⟩ := z_stock h
  refine bn2_ok e (ip_ok rfl ?_)
  obtain ⟨e, h⟩ := w_stock h
  refine b2_ok e (ip_ok rfl ?_)
  obtain ⟨τ, e, h⟩ := z_stock h
  refine bn2_ok e (ip_ok rfl ?_)
  obtain ⟨e, h⟩ := w_stock h
  refine b2_ok e (ip_ok rfl ?_)
  obtain ⟨τ, e, h⟩ := z_down h
  refine bn2_ok e (ip_ok rfl ?_)
  obtain ⟨e, h⟩ := y_pitchOf h
  refine bn1_ok e (ip_ok rfl ?_)
  obtain ⟨e, h⟩ := w_build h
  refine b2_ok e (ip_ok rfl ?_)
  obtain ⟨τ, e, h⟩ := z_coll h
  refine bn2_ok e (ip_ok rfl ?_)
  obtain ⟨τ, e, h⟩ := z_build h
  refine bn2_ok e (ip_ok rfl ?_)
  obtain ⟨e, h⟩ := y_bank h
  refine b1_ok e (ip_ok rfl ?_)
  obtain ⟨e, h⟩ := w_build h
  refine b2_ok e (ip_ok rfl ?_)
  obtain ⟨τ, e, h⟩ := z_l289 h
  refine bl_ok e ?_
  obtain ⟨e, h⟩ := y_children h
  refine b1_ok e (ip_ok rfl ?_)
  obtain ⟨e, h⟩ := w_come h
  refine b2_ok e (ip_ok rfl ?_)
  obtain ⟨τ, e, h⟩ := z_setR h
  refine bn2_ok e (ip_ok rfl ?_)
  obtain ⟨e, h⟩ := y_isChildDue h
  refine b1_ok e (ip_ok rfl ?_)
  obtain ⟨e, h⟩ := y_day h
  refine b1_ok e (ip_ok rfl ?_)
  have h := z_at h k_limF_ok
  obtain ⟨τ, e, h⟩ := z_last h
  refine b2_ok e (in_ok (by decide) ?_)
  rfl
