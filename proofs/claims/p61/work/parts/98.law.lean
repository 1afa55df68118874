/-! the law: true whatever the numbers are -/
theorem drawn_ok {L j : Nat} {xs : Nat → Int32} (hL : L ≤ 260) (hj : j < 26) : ∃ x, f_L_drawn L xs (nI j) = some x := by
  unfold f_L_drawn
  by_cases q : Int32.ofNat L = 0
  · exact ⟨_, if_pos q⟩
  · have hL0 : L ≠ 0 := fun z => q (by rw [z]; rfl)
    have e : nI j - nI j / Int32.ofNat L * Int32.ofNat L = nI (j % L) := pk_rem (by omega) (by omega) (by omega)
    have hm : j % L < L := Nat.mod_lt _ (by omega)
    rw [if_neg q, e, gd_ok rfl hm (by omega)]
    exact ⟨_, if_neg q⟩
noncomputable def k_fin (N m : Nat) (hs : Int32) (S : Nat) : Bool := (Nat.beq m 4 && (decide (hs = 1) && (Nat.beq N S && decide (DD S 0 = 461))))
theorem law_ok {X : Int32 → Option Int32} (hX : ∀ j, j < 26 → ∃ x, X (nI j) = some x) : f_law X = some 1 := by
  have h : KQ (k_build 1 3 1 0 0 (k_fund 0 9 9 (k_stock 0 0 0 4 5 (k_come 30 3 0 0 (k_snap 461 k_fin))))) s0 := z_start (by decide +kernel)
  unfold f_law
  refine b1_ok r_days (in_ok (by decide) (b1_ok r_texts (in_ok (by decide) ?_)))
  obtain ⟨τ1, e1, h⟩ := z_build h
  refine bn2_ok e1 (ip_ok rfl ?_)
  obtain ⟨τ2, e2, h⟩ := z_fund h
  refine bn2_ok e2 (ip_ok rfl ?_)
  obtain ⟨τ3, e3, h⟩ := z_stock h
  refine bn2_ok e3 (ip_ok rfl ?_)
  obtain ⟨τ4, e4, h⟩ := z_come h
  refine bn2_ok e4 (ip_ok rfl ?_)
  obtain ⟨τ5, e5, h⟩ := z_snap h
  refine b2_ok e5 (ip_ok rfl ?_)
  obtain ⟨N, m, hs, S, ⟨R, T, hp⟩, hc⟩ := h
  simp only [k_fin, Bool.and_eq_true, decide_eq_true_eq] at hc
  obtain ⟨h1, h2, h3, h4⟩ := hc
  have h1 := Nat.eq_of_beq_eq_true h1
  have h3 := Nat.eq_of_beq_eq_true h3
  subst h1 h2 h3
  refine b2L_ok (y_seen hp) ?_
  obtain ⟨σ1, w1, a1, f1, R1, e6, ⟨p1, hR1⟩, ha⟩ := law96 (x4 := s_seen (DD N)) hX 26 0 27 0 τ5 (DD N) R (fun _ => 0) (by omega) (by omega) (by omega) ⟨hp, fun j _ hj => by omega⟩
  refine bl_ok e6 ?_
  dsimp only
  refine b2L_ok (y_seen p1) ?_
  obtain ⟨w2, hw2⟩ : ∃ w2, w2 = vp_updL w1 a1 (s_seen f1) := ⟨_, rfl⟩
  rw [gd_ok rfl (show a1 < 64 by omega) (by omega), cl_nI (by omega), ← hw2]
  unfold stw
  obtain ⟨σ2, e7, p2⟩ := y_refused p1
  refine b2_ok e7 ?_
  refine in_ok (by decide) ?_
  obtain ⟨σ3, f3, m3, e8, p3, hm3⟩ := law476 (X := X) (x4 := s_seen (DD N)) (acts := a1) (w := w2) ha (fun j hj hja => by rw [hw2, w_ne (by omega)]; exact hR1 j hj hja) 4 0 6 σ2 f1 (by omega) (by omega) p2 (fun _ => by rw [hw2]; exact w_at)
  refine bl_ok e8 ?_
  dsimp only
  obtain ⟨σ4, f4, e9, p4⟩ := law537 (X := X) (x4 := s_seen (DD N)) (w := w2) m3 0 6 σ3 f3 (by omega) (by omega) p3
  refine bl_ok e9 ?_
  dsimp only
  refine b2_ok (cl_10i (e := 3) (by omega) (n_undo p4)) (ip_ok (by decide) ?_)
  obtain ⟨σ5, e10, p5⟩ := p_rest p4 rfl
  refine bn2_ok e10 (ip_ok h4 ?_)
  refine b2L_ok (y_seen p5) (ip_ok rfl ?_)
  exact b1_ok (q_recorded p5) (ip_ok (by decide) rfl)
