/-! the law's limits -/
noncomputable def k_lim : Nat → Nat → (Nat → Nat → Int32 → Nat → Bool) → Nat → Nat → Int32 → Nat → Bool
  | 0, _, K => K
  | d + 1, k, K => k_come (nI (k % 2)) 1 0 (nI k) (if k % 40 = 39 then x_come 5 0 0 (r_atFair 40 (k_passA 40 (r_atFair 0 (k_lim d (k + 1) K)))) else k_lim d (k + 1) K)
theorem z_lim {K : Nat → Nat → Int32 → Nat → Bool} : ∀ (d k n : Nat) (σ : Sg), k + d ≤ 200 → KQ (k_lim d k K) σ → ∃ τ, l_L_limits_289 (n + d) σ (nI k) = l_L_limits_289 n τ (nI (k + d)) ∧ KQ K τ := by
  intro d
  induction d with
  | zero => intro k n σ _ h; exact ⟨σ, rfl, h⟩
  | succ d ih =>
    intro k n σ hk h
    rw [k_lim] at h
    obtain ⟨σ1, e1, h⟩ := z_come h
    have em : ∀ q, 0 < q → q < 100 → nI k - nI k / nI q * nI q = nI (k % q) := fun q hq hq2 => pk_rem (by omega) (by omega) (by omega)
    rw [show n + (d + 1) = n + d + 1 by omega, l_L_limits_289.eq_2, if_neg (show ¬ (200 : Int32) ≤ nI k from nI_ge (a := k) (b := 200) (by omega) (by omega)), show (nI k - nI k / 2 * 2 : Int32) = nI (k % 2) from em 2 (by omega) (by omega), show (nI k - nI k / 40 * 40 : Int32) = nI (k % 40) from em 40 (by omega) (by omega), e1, bn2_some, if_pos rfl, nI_1]
    by_cases q : k % 40 = 39
    · rw [if_pos q] at h
      obtain ⟨e2, h⟩ := w_come h
      obtain ⟨e3, h⟩ := y_atFair h
      obtain ⟨y0, σ2, e4, hn, h⟩ := z_passA h
      obtain ⟨e5, h⟩ := y_atFair h
      obtain ⟨τ, e6, h⟩ := ih (k + 1) n σ2 (by omega) h
      refine ⟨τ, ?_, h⟩
      have e4' : f_X4_pass σ1 40 = some (.inr (y0, σ2)) := e4
      rw [if_pos (show nI (k % 40) = 39 by rw [q]; rfl), e2, b2_some, if_pos rfl, e3, b1_some, if_pos rfl, e4', bn2_some, if_neg hn, e5, b1_some, if_pos rfl, e6, show k + 1 + d = k + (d + 1) by omega]
    · rw [if_neg q] at h
      obtain ⟨τ, e6, h⟩ := ih (k + 1) n σ1 (by omega) h
      refine ⟨τ, ?_, h⟩
      rw [if_neg (show ¬ nI (k % 40) = 39 from fun z => q (nI_inj (by omega) (by omega) z)), e6, show k + 1 + d = k + (d + 1) by omega]
theorem z_l289 {K : Nat → Nat → Int32 → Nat → Bool} {σ : Sg} (h : KQ (k_lim 200 0 K) σ) : ∃ τ, l_L_limits_289 201 σ 0 = some (.inr τ) ∧ KQ K τ := by
  obtain ⟨τ, e, h⟩ := z_lim 200 0 1 σ (by omega) h
  refine ⟨τ, ?_, h⟩
  rw [show (0 : Int32) = nI 0 from rfl, show 201 = 1 + 200 from rfl, e, l_L_limits_289.eq_2]
  exact if_pos (by decide)
theorem z_l21 {K : Nat → Nat → Int32 → Nat → Bool} {σ : Sg} (h : KQ (k_build 0 0 1 1 0 (k_build 2 0 1 1 1 (k_build 4 0 1 0 2 (k_build 6 0 1 0 3 (k_build 8 0 1 0 4 (k_build 10 0 1 0 5 (K))))))) σ) : ∃ τ, l_L_limits_21 7 σ 0 = some (.inr τ) ∧ KQ K τ := by
  obtain ⟨τ0, e0, h⟩ := z_build h
  obtain ⟨τ1, e1, h⟩ := z_build h
  obtain ⟨τ2, e2, h⟩ := z_build h
  obtain ⟨τ3, e3, h⟩ := z_build h
  obtain ⟨τ4, e4, h⟩ := z_build h
  obtain ⟨τ5, e5, h⟩ := z_build h
  refine ⟨τ5, ?_, h⟩
  rw [l_L_limits_21.eq_2]
  refine in_ok (by decide) (in_ok (by decide) (bn2_ok e0 (ip_ok (by decide) ?_)))
  rw [l_L_limits_21.eq_2]
  refine in_ok (by decide) (in_ok (by decide) (bn2_ok e1 (ip_ok (by decide) ?_)))
  rw [l_L_limits_21.eq_2]
  refine in_ok (by decide) (ip_ok (by decide) (bn2_ok e2 (ip_ok (by decide) ?_)))
  rw [l_L_limits_21.eq_2]
  refine in_ok (by decide) (ip_ok (by decide) (bn2_ok e3 (ip_ok (by decide) ?_)))
  rw [l_L_limits_21.eq_2]
  refine in_ok (by decide) (ip_ok (by decide) (bn2_ok e4 (ip_ok (by decide) ?_)))
  rw [l_L_limits_21.eq_2]
  refine in_ok (by decide) (ip_ok (by decide) (bn2_ok e5 (ip_ok (by decide) ?_)))
  rw [l_L_limits_21.eq_2]
  exact if_pos (by decide)
noncomputable def k_limits : Nat → Nat → Int32 → Nat → Bool := k_rains 9 (k_build 0 0 1 1 0 (k_build 2 0 1 1 1 (k_build 4 0 1 0 2 (k_build 6 0 1 0 3 (k_build 8 0 1 0 4 (k_build 10 0 1 0 5 (r_bank 280 (x_build 1 0 1 (k_best 4 9 1 (k_fund 0 99 99 (k_fund 0 99 198 (k_fund 1 82 82 (x_fund 1 1 (k_stock 0 0 0 39 159 (x_stock 0 0 1 2 (k_stock 0 0 1 1 158 (x_stock 0 0 1 1 (k_down 2 0 (r_pitchOf 2 6 (x_build 5 0 1 (k_coll 1 82 (k_build 5 0 1 1 5 (r_bank 32 (x_build 7 0 1 (k_lim 200 0 (r_children 200 (x_come 5 0 0 (k_setR 0 0 9 (r_isChildDue 0 (r_day 5 (k_last (k_end))))))))))))))))))))))))))))))))
theorem k_limits_ok : k_limits 9223372036854775808000 0 0 0 = true := by decide +kernel
theorem r_limits : f_L_limits = some 1 := by
  have h := z_start k_limits_ok
  unfold k_limits at h
  unfold f_L_limits
  obtain ⟨τ, e, h⟩ := z_rains h
  refine b2_ok e (in_ok (by decide) ?_)
  obtain ⟨τ, e, h⟩ := z_l21 h
  refine bl_ok e ?_
  obtain ⟨e, h⟩ := y_bank h
  refine b1_ok e (ip_ok rfl ?_)
  obtain ⟨e, h⟩ := w_build h
  refine b2_ok e (ip_ok rfl ?_)
  obtain ⟨τ, e, h⟩ := z_best h
  refine bn2_ok e (ip_ok rfl ?_)
  obtain ⟨τ, e, h⟩ := z_fund h
  refine bn2_ok e (ip_ok rfl ?_)
  obtain ⟨τ, e, h⟩ := z_fund h
  refine bn2_ok e (ip_ok rfl ?_)
  obtain ⟨τ, e, h⟩ := z_fund h
  refine bn2_ok e (ip_ok rfl ?_)
  obtain ⟨e, h⟩ := w_fund h
  refine b2_ok e (ip_ok rfl ?_)
  obtain ⟨τ, e, h⟩ := z_stock h
  refine bn2_ok e (ip_ok rfl ?_)
  obtain ⟨e, h⟩ := w_stock h
  refine b2_ok e (ip_ok rfl ?_)
  obtain ⟨τ, e, h⟩ := z_stock h
  refine bn2_ok e (ip_ok rfl ?_)
  obtain ⟨e, h⟩ := w_stock h
  refine b2_ok e (ip_ok rfl ?_)
  obtain ⟨τ, e, h⟩ := z_down h
  refine bn2_ok e (ip_ok rfl ?_)
  obtain ⟨e, h⟩ := y_pitchOf h
  refine bn1_ok e (ip_ok rfl ?_)
  obtain ⟨e, h⟩ := w_build h
  refine b2_ok e (ip_ok rfl ?_)
  obtain ⟨τ, e, h⟩ := z_coll h
  refine bn2_ok e (ip_ok rfl ?_)
  obtain ⟨τ, e, h⟩ := z_build h
  refine bn2_ok e (ip_ok rfl ?_)
  obtain ⟨e, h⟩ := y_bank h
  refine b1_ok e (ip_ok rfl ?_)
  obtain ⟨e, h⟩ := w_build h
  refine b2_ok e (ip_ok rfl ?_)
  obtain ⟨τ, e, h⟩ := z_l289 h
  refine bl_ok e ?_
  obtain ⟨e, h⟩ := y_children h
  refine b1_ok e (ip_ok rfl ?_)
  obtain ⟨e, h⟩ := w_come h
  refine b2_ok e (ip_ok rfl ?_)
  obtain ⟨τ, e, h⟩ := z_setR h
  refine bn2_ok e (ip_ok rfl ?_)
  obtain ⟨e, h⟩ := y_isChildDue h
  refine b1_ok e (ip_ok rfl ?_)
  obtain ⟨e, h⟩ := y_day h
  refine b1_ok e (ip_ok rfl ?_)
  obtain ⟨τ, e, h⟩ := z_last h
  refine b2_ok e (in_ok (by decide) ?_)
  rfl
