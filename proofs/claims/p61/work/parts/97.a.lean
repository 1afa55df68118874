/-! the law's rains, its days at the end -/
noncomputable def k_rains (r : Int32) (K : Nat → Nat → Int32 → Nat → Bool) : Nat → Nat → Int32 → Nat → Bool := k_setR 0 r 0 (k_setR 1 r 0 (k_setR 2 r 0 (k_setR 3 r 0 (k_setR 4 r 0 (k_setR 5 r 0 (k_setR 6 r 0 (k_setR 7 r 0 (k_setR 8 r 0 (k_setR 9 r 0 (r_isChildDue 0 (K)))))))))))
theorem z_rains {r : Int32} {K : Nat → Nat → Int32 → Nat → Bool} {σ : Sg} (h : KQ (k_rains r K) σ) : ∃ τ, f_L_rains σ r = some (1, τ) ∧ KQ K τ := by
  unfold k_rains at h
  obtain ⟨τ0, e0, h⟩ := z_setR h
  obtain ⟨τ1, e1, h⟩ := z_setR h
  obtain ⟨τ2, e2, h⟩ := z_setR h
  obtain ⟨τ3, e3, h⟩ := z_setR h
  obtain ⟨τ4, e4, h⟩ := z_setR h
  obtain ⟨τ5, e5, h⟩ := z_setR h
  obtain ⟨τ6, e6, h⟩ := z_setR h
  obtain ⟨τ7, e7, h⟩ := z_setR h
  obtain ⟨τ8, e8, h⟩ := z_setR h
  obtain ⟨τ9, e9, h⟩ := z_setR h
  obtain ⟨e, h⟩ := y_isChildDue h
  refine ⟨τ9, ?_, h⟩
  unfold f_L_rains
  refine bl_ok (s := τ9) ?_ (b1_ok e (ip_ok rfl rfl))
  rw [l_L_rains_2.eq_2]
  refine in_ok (by decide) (bn2_ok e0 (ip_ok rfl ?_))
  rw [l_L_rains_2.eq_2]
  refine in_ok (by decide) (bn2_ok e1 (ip_ok rfl ?_))
  rw [l_L_rains_2.eq_2]
  refine in_ok (by decide) (bn2_ok e2 (ip_ok rfl ?_))
  rw [l_L_rains_2.eq_2]
  refine in_ok (by decide) (bn2_ok e3 (ip_ok rfl ?_))
  rw [l_L_rains_2.eq_2]
  refine in_ok (by decide) (bn2_ok e4 (ip_ok rfl ?_))
  rw [l_L_rains_2.eq_2]
  refine in_ok (by decide) (bn2_ok e5 (ip_ok rfl ?_))
  rw [l_L_rains_2.eq_2]
  refine in_ok (by decide) (bn2_ok e6 (ip_ok rfl ?_))
  rw [l_L_rains_2.eq_2]
  refine in_ok (by decide) (bn2_ok e7 (ip_ok rfl ?_))
  rw [l_L_rains_2.eq_2]
  refine in_ok (by decide) (bn2_ok e8 (ip_ok rfl ?_))
  rw [l_L_rains_2.eq_2]
  refine in_ok (by decide) (bn2_ok e9 (ip_ok rfl ?_))
  rw [l_L_rains_2.eq_2]
  exact if_pos (by decide)
theorem z_lastL {K : Nat → Nat → Int32 → Nat → Bool} {σ : Sg} (h : KQ (k_pass 40 0 (k_pass 40 0 (k_pass 40 0 K))) σ) : ∃ τ, l_L_last_2 4 σ 0 = some (.inr τ) ∧ KQ K τ := by
  obtain ⟨τ0, e0, h⟩ := z_pass h
  obtain ⟨τ1, e1, h⟩ := z_pass h
  obtain ⟨τ2, e2, h⟩ := z_pass h
  refine ⟨τ2, ?_, h⟩
  rw [l_L_last_2.eq_2]
  refine in_ok (by decide) (bn2_ok e0 (ip_ok rfl ?_))
  rw [l_L_last_2.eq_2]
  refine in_ok (by decide) (bn2_ok e1 (ip_ok rfl ?_))
  rw [l_L_last_2.eq_2]
  refine in_ok (by decide) (bn2_ok e2 (ip_ok rfl ?_))
  rw [l_L_last_2.eq_2]
  exact if_pos (by decide)
noncomputable def k_last (K : Nat → Nat → Int32 → Nat → Bool) : Nat → Nat → Int32 → Nat → Bool := k_pass 40 0 (k_pass 40 0 (k_pass 40 0 (r_day 8 (k_pass 39 0 (r_round 39 (k_pass 40 0 (r_round 39 (r_day 9 (K)))))))))
theorem z_last {K : Nat → Nat → Int32 → Nat → Bool} {σ : Sg} (h : KQ (k_last K) σ) : ∃ τ, f_L_last σ = some (1, τ) ∧ KQ K τ := by
  unfold k_last at h
  unfold f_L_last
  obtain ⟨τ0, e0, h⟩ := z_lastL h
  obtain ⟨e1, h⟩ := y_day h
  obtain ⟨τ2, f2, h⟩ := z_pass h
  obtain ⟨e3, h⟩ := y_round h
  obtain ⟨τ4, e4, h⟩ := z_pass h
  obtain ⟨e5, h⟩ := y_round h
  obtain ⟨e6, h⟩ := y_day h
  obtain ⟨v7, e7, f7, h⟩ := y_sum h
  obtain ⟨τ8, e8, h⟩ := z_refused h
  refine ⟨τ8, ?_, h⟩
  refine bl_ok e0 ?_
  refine b1_ok e1 (ip_ok rfl ?_)
  refine bn2_ok f2 (ip_ok rfl ?_)
  refine b1_ok e3 (ip_ok rfl ?_)
  refine bn2_ok e4 (ip_ok rfl ?_)
  refine b1_ok e5 (ip_ok rfl ?_)
  refine b1_ok e6 (ip_ok rfl ?_)
  refine b1_ok e7 (b1_ok f7 (ip_ok rfl ?_))
  refine b2_ok e8 (in_ok (by decide) ?_)
  rfl
