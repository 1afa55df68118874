/-! text typed and emptied, undo, snapshots -/
theorem IV.text {σ σ' : Sg} {n : Nat} (h : IV σ) (ht : TX σ' n) (ho : ∀ a, a < 191 ∨ a = 194 ∨ a = 195 ∨ a = 196 → σ' a = σ a) (h2 : σ' 193 2 = σ 193 2) (h4 : σ' 193 4 = σ 193 4) : IV σ' := by
  obtain ⟨-, m, R, hs, sn, hc, hr, ok⟩ := h
  have b := ok.1.b
  have hc' : RC σ' (σ 194) m R hs sn := hc.op ok (hc.1.at (fun a h1 h2 => ho a (by omega)) b.1 b.2) (ho 0 (by omega)) (fun a h1 h2 => ho a (by omega))
  exact IV.of ht hc' (hr.at (ho 195 (by omega)) (ho 196 (by omega)) h2 h4) ok (fun i hi => by rw [ho 194 (by omega)])
theorem kk_10 {σ : Sg} {a1 a2 a3 a4 : Int32} (hI : IV σ) : ∃ σ', g_10 σ a1 a2 a3 a4 = some σ' ∧ IV σ' := by
  obtain ⟨⟨n, ht⟩, -⟩ := id hI
  obtain ⟨t1, t2, t3, t4⟩ := id ht
  have hz := pk_char a1
  have hv := pk_vc a1
  unfold g_10
  obtain ⟨z, hz1, hz2⟩ : ∃ z, z < 65536 ∧ (a1.toUInt32 % 65536).toInt32 = nI z := ⟨_, Nat.mod_lt _ (by omega), hz⟩
  rw [hz2] at hv ⊢
  by_cases h80 : n = 80
  · have hL : f_L_type σ (nI z) = some (1, σ) := by
      unfold f_L_type f_X4_type f_X2_append
      rw [t2, if_neg (show ¬ nI n < 80 by rw [show (80 : Int32) = nI 80 from rfl, nI_ltI (by omega) (by omega)]; omega), b2_some, if_pos rfl]
      rfl
    have hX : f_X5_type σ (nI z) = some (0, u2 σ 193 10 1) := by
      unfold f_X5_type
      rw [t3, if_pos (show nI n = 80 by rw [h80]; rfl), st_eq, u2_rs, if_neg nle10]
    exact g_thr (X := fun τ => f_X5_type τ (nI z)) (k := 1) hL hX u2_rs (fun q => absurd q (by decide)) (hI.same (Same.u (by omega)))
  · obtain ⟨S, hS⟩ : ∃ S, S = u2 (u2 σ 192 n (nI z)) 191 1 (nI (n + 1)) := ⟨_, rfl⟩
    have hL : f_L_type σ (nI z) = some (0, u2 S 202 0 (nI (n + 1))) := by
      unfold f_L_type f_X4_type f_X2_append
      rw [t2, if_pos (show nI n < 80 by rw [show (80 : Int32) = nI 80 from rfl, nI_ltI (by omega) (by omega)]; omega), gd_ok rfl (show n < 80 by omega) (by omega), cl_nI (by omega), st_eq, hv, u2_rc (by omega), t2, nI_1, st_eq, b2_some, if_neg (by decide), u2_rs, ← hS]
      rfl
    obtain ⟨T, hT⟩ : ∃ T, T = u2 (u2 (u2 (u2 S 202 0 (nI (n + 1))) 193 10 0) 200 n (nI z)) 193 9 (nI (n + 1)) := ⟨_, rfl⟩
    have e9 : u2 S 202 0 (nI (n + 1)) 193 9 = nI n := by rw [u2_rc (by omega), hS, u2_rc (by omega), u2_rc (by omega)]; exact t3
    have hX : f_X5_type (u2 S 202 0 (nI (n + 1))) (nI z) = some (nI (n + 1), T) := by
      unfold f_X5_type
      rw [e9, if_neg (show ¬ nI n = 80 by rw [show (80 : Int32) = nI 80 from rfl, nI_eq (by omega) (by omega)]; exact h80), st_eq, u2_rs, if_pos le00, u2_ri (by omega), e9, gd_ok rfl (show n < 80 by omega) (by omega), cl_nI (by omega), st_eq, u2_rc (by omega), u2_ri (by omega), e9, nI_1, st_eq, u2_rs, ← hT]
    have To : ∀ a, a ≠ 191 → a ≠ 192 → a ≠ 193 → a ≠ 200 → a ≠ 202 → T a = σ a := fun a h1 h2 h3 h4 h5 => by
      rw [hT, u2_cell h3, u2_cell h4, u2_cell h3, u2_cell h5, hS, u2_cell h1, u2_cell h2]
    have T3 : ∀ i, i ≠ 9 → i ≠ 10 → T 193 i = σ 193 i := fun i h1 h2 => by
      rw [hT, u2_ri h1, u2_rc (by omega), u2_ri h2, u2_rc (by omega), hS, u2_rc (by omega), u2_rc (by omega)]
    refine g_thr (X := fun τ => f_X5_type τ (nI z)) (k := 0) hL hX ?_ (fun _ => ?_) (hI.text (n := n + 1) ⟨by omega, ?_, ?_, fun i hi => ?_⟩ (fun a ha => To a (by omega) (by omega) (by omega) (by omega) (by omega)) (T3 2 (by omega) (by omega)) (T3 4 (by omega) (by omega)))
    · rw [hT, u2_ri (by omega), u2_rc (by omega), u2_rs]
    · rw [hT, u2_rc (by omega), u2_rc (by omega), u2_rc (by omega), u2_rs]
    · rw [hT, u2_rc (by omega), u2_rc (by omega), u2_rc (by omega), u2_rc (by omega), hS, u2_rs]
    · rw [hT, u2_rs]
    · have eA : T 192 i = if i = n then nI z else σ 192 i := by
        rw [hT, u2_rc (by omega), u2_rc (by omega), u2_rc (by omega), u2_rc (by omega), hS, u2_rc (by omega)]
        by_cases q : i = n
        · rw [if_pos q, q, u2_rs]
        · rw [if_neg q, u2_ri q]
      have eB : T 200 i = if i = n then nI z else σ 200 i := by
        rw [hT, u2_rc (by omega)]
        by_cases q : i = n
        · rw [if_pos q, q, u2_rs]
        · rw [if_neg q, u2_ri q, u2_rc (by omega), u2_rc (by omega), hS, u2_rc (by omega), u2_rc (by omega)]
      rw [eA, eB]
      by_cases q : i = n
      · rw [if_pos q, if_pos q]
        exact ⟨rfl, vp_in_nI hz1 (by omega)⟩
      · rw [if_neg q, if_neg q]
        exact t4 i (by omega)
theorem kk_11 {σ : Sg} {a1 a2 a3 a4 : Int32} (hI : IV σ) : ∃ σ', g_11 σ a1 a2 a3 a4 = some σ' ∧ IV σ' := by
  obtain ⟨⟨n, ht⟩, -⟩ := id hI
  obtain ⟨t1, t2, t3, t4⟩ := ht
  obtain ⟨T, hT⟩ : ∃ T, T = u2 (u2 (u2 σ 191 1 0) 193 10 0) 193 9 0 := ⟨_, rfl⟩
  refine ⟨T, ?_, hI.text (n := 0) ⟨by omega, ?_, ?_, fun i hi => by omega⟩ (fun a ha => ?_) ?_ ?_⟩
  · unfold g_11 f_X4_clearText f_X5_clearText
    rw [st_eq, b2_some, st_eq, st_eq, b2_some, ← hT, u2_ri (by omega), u2_rc (by omega), t2, t3, if_pos rfl]
  · rw [hT, u2_rc (by omega), u2_rc (by omega), u2_rs]
    rfl
  · rw [hT, u2_rs]
    rfl
  · rw [hT, u2_cell (by omega), u2_cell (by omega), u2_cell (by omega)]
  · rw [hT, u2_ri (by omega), u2_ri (by omega), u2_rc (by omega)]
  · rw [hT, u2_ri (by omega), u2_ri (by omega), u2_rc (by omega)]
theorem wr_row {τ : Sg} {g : Nat → Int32} : wr τ 194 g = w4 τ g := rfl
theorem kk_15 {σ : Sg} {a1 a2 a3 a4 : Int32} (hI : IV σ) : ∃ σ', g_15 σ a1 a2 a3 a4 = some σ' ∧ IV σ' := by
  obtain ⟨⟨n, ht⟩, m, R, hs, sn, hc, hr, ok⟩ := id hI
  obtain ⟨r1, r2, r3, ⟨q, r4, r5, r6⟩, r7, r8⟩ := id hc
  obtain ⟨p1, p2, p3, p4⟩ := id hr
  unfold g_15
  by_cases h0 : m = 0
  · have hL : f_L_undo σ = some (1, σ) := by
      unfold f_L_undo f_X4_undo
      rw [r3, if_pos (show nI m = 0 by rw [h0]; rfl)]
      rfl
    have hX : f_X5_undo σ = some (0, u2 σ 193 10 1) := by
      unfold f_X5_undo
      rw [p2, if_pos (show nI m = 0 by rw [h0]; rfl), st_eq, u2_rs, if_neg nle10]
    exact g_thr (k := 1) hL hX u2_rs (fun q => absurd q (by decide)) (hI.same (Same.u (by omega)))
  · have hm0 : ¬ nI m = 0 := by rw [show (0 : Int32) = nI 0 from rfl, nI_eq (by omega) (by omega)]; exact h0
    have hq : nI q + 4 - 1 - (nI q + 4 - 1) / 4 * 4 = nI ((q + 3) % 4) := by
      rw [show nI q + 4 = nI (q + 4) from nI_add q 4, show (1 : Int32) = nI 1 from rfl, pk_sub (by omega), show (4 : Int32) = nI 4 from rfl, pk_rem (by omega) (by omega) (by omega), show q + 4 - 1 = q + 3 by omega]
    have hm1 : nI m - 1 = nI (m - 1) := by rw [show (1 : Int32) = nI 1 from rfl, pk_sub (by omega)]
    obtain ⟨S, hS⟩ : ∃ S, S = u2 (u2 σ 0 5 (nI ((q + 3) % 4))) 0 6 (nI (m - 1)) := ⟨_, rfl⟩
    have So : ∀ a, a ≠ 0 → S a = σ a := fun a ha => by rw [hS, u2_cell ha, u2_cell ha]
    have S5 : S 0 5 = nI ((q + 3) % 4) := by rw [hS, u2_ri (by omega), u2_rs]
    have S6 : S 0 6 = nI (m - 1) := by rw [hS, u2_rs]
    have S3 : S 0 3 = σ 0 3 := by rw [hS, u2_ri (by omega), u2_ri (by omega)]
    have okm := ok.2.1 (m - 1) (by omega)
    have f6 := r6 (m - 1) (by omega)
    rw [show (q + 4 - m + (m - 1)) % 4 = (q + 3) % 4 by omega] at f6
    obtain ⟨U, x1, x2, x3⟩ := c_copy (c := 1) (d := 83 + 27 * ((q + 3) % 4)) (σ := S) (f := R (m - 1)) (by omega) (f6.at (fun a h1 h2 => So a (by omega)) okm.b.1 okm.b.2) okm.1
    have U0 : U 0 = S 0 := x3 0 (by omega)
    have Uo : ∀ a, 28 ≤ a → U a = σ a := fun a ha => by rw [x3 a (by omega), So a (by omega)]
    have hL : f_L_undo σ = some (0, u2 U 202 0 (nI (m - 1))) := by
      unfold f_L_undo f_X4_undo
      rw [r3, if_neg hm0, r5, hq, st_eq, u2_ri (by omega), r3, hm1, st_eq, ← hS, S5, gd_ok rfl (show (q + 3) % 4 < 4 by omega) (by omega), rk_nI (by omega), x1, b1_some, U0, S6]
      rfl
    obtain ⟨τ, hτ⟩ : ∃ τ, τ = u2 U 202 0 (nI (m - 1)) := ⟨_, rfl⟩
    have to : ∀ a, 28 ≤ a → a ≠ 202 → τ a = σ a := fun a h1 h2 => by rw [hτ, u2_cell h2, Uo a h1]
    obtain ⟨V, hV⟩ : ∃ V, V = u2 (u2 τ 193 10 0) 193 2 (nI (m - 1)) := ⟨_, rfl⟩
    have Vo : ∀ a, a ≠ 193 → V a = τ a := fun a ha => by rw [hV, u2_cell ha, u2_cell ha]
    have V2 : V 193 2 = nI (m - 1) := by rw [hV, u2_rs]
    have hl := m_lays (τ := V) (d0 := 195) (n0 := 7140) (d2 := 194) (n2 := 1785) (p1 := nI (1785 * (m - 1))) (p3 := 0) (x1 := 1785 * (m - 1)) (x3 := 0) (by omega) rfl rfl (by omega) (by omega) (by omega) (by omega)
    obtain ⟨W, hW⟩ : ∃ W, W = wr V 194 (s_lay (V 195) (V 194) (1785 * (m - 1)) 0) := ⟨_, rfl⟩
    have W3 : W 193 = V 193 := by rw [hW, wr_n (by omega)]
    have hX : f_X5_undo τ = some (nI (m - 1), W) := by
      unfold f_X5_undo
      rw [to 193 (by omega) (by omega), p2, if_neg hm0, st_eq, u2_rs, if_pos le00, u2_ri (by omega), to 193 (by omega) (by omega), p2, hm1, st_eq, ← hV, V2, show (1785 : Int32) = nI 1785 from rfl, pk_mul, hl, b1_some, ← hW, W3, V2]
    have Wo : ∀ a, a ≠ 193 → a ≠ 194 → W a = τ a := fun a h1 h2 => by rw [hW, wr_n h2, Vo a h1]
    have Ws : ∀ a, a < 191 → W a = U a := fun a ha => by rw [Wo a (by omega) (by omega), hτ, u2_cell (by omega)]
    have V3 : ∀ i, i ≠ 2 → i ≠ 10 → V 193 i = σ 193 i := fun i h1 h2 => by rw [hV, u2_ri h1, u2_ri h2, to 193 (by omega) (by omega)]
    rw [← hτ] at hL
    refine g_thr (k := 0) hL hX ?_ (fun _ => ?_) ?_
    · rw [W3, hV, u2_ri (by omega), u2_rs]
    · rw [Wo 202 (by omega) (by omega), hτ, u2_rs]
    · have o2 : OKA (R (m - 1)) (m - 1) R hs sn := ⟨okm, fun j hj => ok.2.1 j (by omega), ok.2.2⟩
      have hc2 : RC W (R (m - 1)) (m - 1) R hs sn := by
        refine ⟨x2.at (fun a h1 h2 => Ws a (by omega)) okm.b.1 okm.b.2, by omega, by rw [Ws 0 (by omega), U0, S6], ⟨(q + 3) % 4, by omega, by rw [Ws 0 (by omega), U0, S5], fun j hj => ?_⟩, by rw [Ws 0 (by omega), U0, S3]; exact r7, fun e => ?_⟩
        · have hb := (ok.2.1 j (by omega)).b
          rw [show ((q + 3) % 4 + 4 - (m - 1) + j) % 4 = (q + 4 - m + j) % 4 by omega]
          exact (r6 j (by omega)).at (fun a h1 h2 => by rw [Ws a (by omega), Uo a (by omega)]) hb.1 hb.2
        · have hb := (ok.2.2.2 e).b
          exact (r8 e).at (fun a h1 h2 => by rw [Ws a (by omega), Uo a (by omega)]) hb.1 hb.2
      have hr2 : RM W (m - 1) R hs sn := by
        refine ⟨fun j hj i hi => ?_, by rw [W3, V2], by rw [W3, V3 4 (by omega) (by omega)]; exact p3, fun e i hi => ?_⟩
        · rw [Wo 195 (by omega) (by omega), to 195 (by omega) (by omega)]
          exact p1 j (by omega) i hi
        · rw [Wo 196 (by omega) (by omega), to 196 (by omega) (by omega)]
          exact p4 e i hi
      refine IV.of (f := R (m - 1)) (ht.at ?_ ?_ ?_ ?_) hc2 hr2 o2 (fun i hi => ?_)
      · rw [Wo 191 (by omega) (by omega), to 191 (by omega) (by omega)]
      · rw [Wo 192 (by omega) (by omega), to 192 (by omega) (by omega)]
      · rw [W3, V3 9 (by omega) (by omega)]
      · rw [Wo 200 (by omega) (by omega), to 200 (by omega) (by omega)]
      · have := s_lay_in (g := V 195) (h := V 194) (x1 := 1785 * (m - 1)) (x3 := 0) hi
        rw [Nat.zero_add] at this
        rw [hW, wr_s, this, Vo 195 (by omega), to 195 (by omega) (by omega)]
        exact p1 (m - 1) (by omega) i hi
theorem s_lay0 {g h : Nat → Int32} {i : Nat} (hi : i < 1785) : s_lay g h 0 0 i = g i := by
  have := s_lay_in (g := g) (h := h) (x1 := 0) (x3 := 0) hi
  rwa [Nat.zero_add] at this
theorem kk_16 {σ : Sg} {a1 a2 a3 a4 : Int32} (hI : IV σ) : ∃ σ', g_16 σ a1 a2 a3 a4 = some σ' ∧ IV σ' := by
  obtain ⟨⟨n, ht⟩, m, R, hs, sn, hc, hr, ok⟩ := id hI
  obtain ⟨r1, r2, r3, ⟨q, r4, r5, r6⟩, r7, r8⟩ := id hc
  obtain ⟨p1, p2, p3, p4⟩ := id hr
  obtain ⟨U, x1, x2, x3⟩ := c_copy (c := 55) (d := 1) (by omega) r1 ok.1.1
  obtain ⟨S, hS⟩ : ∃ S, S = u2 U 0 3 1 := ⟨_, rfl⟩
  have So : ∀ a, a ≠ 0 → a < 55 ∨ 82 ≤ a → S a = σ a := fun a h1 h2 => by rw [hS, u2_cell h1, x3 a (by omega)]
  obtain ⟨V, hV⟩ : ∃ V, V = u2 S 193 10 0 := ⟨_, rfl⟩
  have Vo : ∀ a, a ≠ 193 → V a = S a := fun a ha => by rw [hV, u2_cell ha]
  have hl := m_lays (τ := V) (d0 := 194) (n0 := 1785) (d2 := 196) (n2 := 1785) (p1 := 0) (p3 := 0) (x1 := 0) (x3 := 0) (by omega) rfl rfl (by omega) (by omega) (by omega) (by omega)
  obtain ⟨W, hW⟩ : ∃ W, W = u2 (wr V 196 (s_lay (V 194) (V 196) 0 0)) 193 4 1 := ⟨_, rfl⟩
  have Wo : ∀ a, a ≠ 193 → a ≠ 196 → W a = S a := fun a h1 h2 => by rw [hW, u2_cell h1, wr_n h2, Vo a h1]
  have W3 : ∀ i, i ≠ 4 → i ≠ 10 → W 193 i = σ 193 i := fun i h1 h2 => by rw [hW, u2_ri h1, wr_n (by omega), hV, u2_ri h2, So 193 (by omega) (by omega)]
  refine ⟨W, ?_, ?_⟩
  · unfold g_16 f_X4_takeSnapshot f_X5_takeSnapshot
    rw [x1, b1_some, st_eq, ← hS, b2_some, st_eq, ← hV, hl, b1_some, st_eq, ← hW, b2_some, lc_0, So 1 (by omega) (by omega), r1.r0, Wo 194 (by omega) (by omega), So 194 (by omega) (by omega), if_pos rfl]
  · have o2 : OKA (σ 194) m R 1 (σ 194) := ⟨ok.1, ok.2.1, Or.inr rfl, fun _ => ok.1⟩
    have b := ok.1.b
    have hc2 : RC W (σ 194) m R 1 (σ 194) := by
      refine ⟨r1.at (fun a h1 h2 => by rw [Wo a (by omega) (by omega), So a (by omega) (by omega)]) b.1 b.2, r2, ?_, ⟨q, r4, ?_, fun j hj => ?_⟩, ?_, fun _ => ?_⟩
      · rw [Wo 0 (by omega) (by omega), hS, u2_ri (by omega), x3 0 (by omega)]; exact r3
      · rw [Wo 0 (by omega) (by omega), hS, u2_ri (by omega), x3 0 (by omega)]; exact r5
      · have hb := (ok.2.1 j hj).b
        exact (r6 j hj).at (fun a h1 h2 => by rw [Wo a (by omega) (by omega), So a (by omega) (by omega)]) hb.1 hb.2
      · rw [Wo 0 (by omega) (by omega), hS, u2_rs]
      · exact x2.at (fun a h1 h2 => by rw [Wo a (by omega) (by omega), hS, u2_cell (by omega)]) b.1 b.2
    have hr2 : RM W m R 1 (σ 194) := by
      refine ⟨fun j hj i hi => ?_, by rw [W3 2 (by omega) (by omega)]; exact p2, by rw [hW, u2_rs], fun _ i hi => ?_⟩
      · rw [Wo 195 (by omega) (by omega), So 195 (by omega) (by omega)]
        exact p1 j hj i hi
      · rw [hW, u2_cell (by omega), wr_s, s_lay0 hi, Vo 194 (by omega), So 194 (by omega) (by omega)]
    refine IV.of (ht.at ?_ ?_ ?_ ?_) hc2 hr2 o2 (fun i hi => ?_)
    · rw [Wo 191 (by omega) (by omega), So 191 (by omega) (by omega)]
    · rw [Wo 192 (by omega) (by omega), So 192 (by omega) (by omega)]
    · exact W3 9 (by omega) (by omega)
    · rw [Wo 200 (by omega) (by omega), So 200 (by omega) (by omega)]
    · rw [Wo 194 (by omega) (by omega), So 194 (by omega) (by omega)]
theorem kk_17 {σ : Sg} {a1 a2 a3 a4 : Int32} (hI : IV σ) : ∃ σ', g_17 σ a1 a2 a3 a4 = some σ' ∧ IV σ' := by
  obtain ⟨m, R, hs, sn, hc, hr, ok⟩ := hI.parts
  obtain ⟨r1, r2, r3, r4, r7, r8⟩ := id hc
  obtain ⟨p1, p2, p3, p4⟩ := id hr
  unfold g_17
  by_cases h0 : hs = 0
  · have hL : f_L_restoreSnapshot σ = some (1, σ) := by
      unfold f_L_restoreSnapshot f_X4_restoreSnapshot
      rw [r7, if_pos h0]
      rfl
    have hX : f_X5_restoreSnapshot σ = some (0, u2 σ 193 10 1) := by
      unfold f_X5_restoreSnapshot
      rw [p3, if_pos h0, st_eq, u2_rs, if_neg nle10]
    exact g_thr (k := 1) hL hX u2_rs (fun q => absurd q (by decide)) (hI.same (Same.u (by omega)))
  · have h1 : hs = 1 := by
      rcases ok.2.2.1 with h | h
      · exact absurd h h0
      · exact h
    have oks := ok.2.2.2 h1
    have e96 := p4 h1
    have eg : ∀ i, i < 1785 → s_lay (σ 196) (σ 194) 0 0 i = sn i := fun i hi => by rw [s_lay0 hi, e96 i hi]
    unfold f_L_restoreSnapshot
    refine mu_op9 hI (C := f_X4_restoreSnapshot σ) (X := fun τ => f_X5_restoreSnapshot τ) (g := s_lay (σ 196) (σ 194) 0 0) (y := sn 0) (oks.ext eg) (fun σk e1 e2 => ?_) (fun τ τ1 e1 e2 e3 e9 => ?_)
    · obtain ⟨σ2, k1, k2, k3⟩ := hc.keep ok
      rw [k1] at e1
      cases e1
      obtain ⟨U, x1, x2, x3⟩ := c_copy (c := 1) (d := 55) (by omega) (k2.2.2.2.2.2 h1) oks.1
      refine ⟨U, ?_, x2.ext eg oks.b.1 oks.b.2, x3⟩
      unfold f_X4_restoreSnapshot
      rw [r7, if_neg h0, k1, b1_some, x1, b1_some, x2.r0]
    · show ∃ b, f_X5_restoreSnapshot τ = _
      have hl := m_lays (τ := τ1) (d0 := 196) (n0 := 1785) (d2 := 194) (n2 := 1785) (p1 := 0) (p3 := 0) (x1 := 0) (x3 := 0) (by omega) rfl rfl (by omega) (by omega) (by omega) (by omega)
      rw [wr_row, e9.1 196 (by omega) (by omega) (by omega) (by omega), e3] at hl
      obtain ⟨b, hb⟩ := @w4_49 τ1 (s_lay (σ 196) (σ 194) 0 0)
      refine ⟨b, ?_⟩
      unfold f_X5_restoreSnapshot
      rw [e9.2 193 (by omega) (by omega), p3, if_neg h0, st_eq, u2_rs, if_pos le00, e2, b1_some, hl, b1_some, lc_0, w4_194, eg 0 (by omega), hb]
