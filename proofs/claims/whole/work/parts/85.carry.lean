/-! impossibleOrder, carryOut -/
theorem s_all_len {tx : Nat → Int32} {n : Nat} : ∀ m i, (s_all tx n m i).2.2.length ≤ m := by
  intro m
  induction m with
  | zero => intro i; exact Nat.le_refl _
  | succ m ih =>
    intro i
    rw [s_all]
    by_cases q : (s_ord tx n i).2.1 = -1
    · rw [if_pos q]; exact Nat.zero_le _
    · rw [if_neg q]
      by_cases p : (s_sgn tx n (s_ord tx n i).1 59).1 = 0
      · rw [if_pos p]
        show 1 ≤ m + 1
        omega
      · rw [if_neg p]
        show (s_all tx n m ((s_ord tx n i).1 + 1)).2.2.length + 1 ≤ m + 1
        have := ih ((s_ord tx n i).1 + 1)
        omega
theorem s_all_le {tx : Nat → Int32} {n : Nat} : ∀ m i, i ≤ n → (s_all tx n m i).1 ≤ n := by
  intro m
  induction m with
  | zero => intro i h; exact h
  | succ m ih =>
    intro i h
    have le := s_ord_le (tx := tx) h
    rw [s_all]
    by_cases q : (s_ord tx n i).2.1 = -1
    · rw [if_pos q]; exact le.2.1
    · rw [if_neg q]
      by_cases p : (s_sgn tx n (s_ord tx n i).1 59).1 = 0
      · rw [if_pos p]; exact le.2.1
      · rw [if_neg p]
        obtain ⟨p1, p2, p3⟩ := s_sgn1 p
        exact ih _ (by omega)
theorem C_try {σ : Sg} {n : Nat} {f : Nat → Int32} (b : Nat → Int32) (hn : n ≤ 80) (h1 : σ 191 1 = nI n) (hc : ∀ i, i < n → vp_in (σ 192 i) 65536) (hR : FR 1 σ f) (ok : OKf f) (hok : (s_all (σ 192) n 40 0).2.1 = true) : ∃ F', f_X4_tryOrders σ = some ((s_run (s_all (σ 192) n 40 0).2.2 0 f b).1, F') ∧ F' 191 1 = nI n ∧ (∀ a, a < 28 ∨ (55 ≤ a ∧ a ≠ 191) → F' a = σ a) ∧ ((s_run (s_all (σ 192) n 40 0).2.2 0 f b).1 = -1 → F' 191 3 = nI (s_all (σ 192) n 40 0).2.2.length ∧ FR 28 F' (s_run (s_all (σ 192) n 40 0).2.2 0 f b).2.1) := by
  obtain ⟨S, x1, x2, x3⟩ := c_copy (c := 28) (d := 1) (by omega) hR ok.1
  have S92 : S 192 = σ 192 := x3 192 (by omega)
  have e : u2 (u2 S 191 2 0) 191 3 0 = wr S 191 (upd (upd (S 191) 2 0) 3 0) := by
    have : u2 (u2 (wr S 191 (S 191)) 191 2 0) 191 3 0 = wr S 191 (upd (upd (S 191) 2 0) 3 0) := by rw [wr_u, wr_u]
    rwa [wr_self] at this
  obtain ⟨F', i1, i2, i3, i4⟩ := c_run hn 40 0 0 10000 S (upd (upd (S 191) 2 0) 3 0) f b (by omega) (by omega) (by omega) (by omega) (by rw [S92]; exact hc) ⟨by rw [upd_n (by omega), upd_n (by omega), x3 191 (by omega)]; exact h1, upd_s, Or.inl ⟨rfl, by rw [upd_n (by omega), upd_s]; rfl⟩⟩ (by rw [S92]; exact hok) (x2.at (fun a z1 z2 => wr_n (by omega)) ok.b.1 ok.b.2) ok
  rw [S92] at i1 i4
  rw [Nat.zero_add] at i4
  unfold f_X4_tryOrders f_X2_rewind
  rw [x1, b1_some, st_eq, st_eq, b1_some, e]
  exact ⟨F', i1, i2, fun a ha => by rw [i3 a ha, x3 a (by omega)], i4⟩
/-- the second side: the row laid by, then the orders -/
theorem M_car {τ : Sg} {l : List (Int32 × Int32 × Int32 × Int32 × Int32)} (h40 : l.length ≤ 40) (h13 : τ 193 13 = nI l.length) (hM : FMs (τ 201) 0 l) (hV : VFs l) (ok : OKf (τ 194)) : ∃ F, f_X5_carries τ = some ((s_run l 0 (τ 194) (τ 199)).1, F) ∧ F 194 = (s_run l 0 (τ 194) (τ 199)).2.1 ∧ (∀ i, i < 1785 → F 198 i = τ 194 i) ∧ ∀ a, a ≠ 194 → a ≠ 198 → a ≠ 199 → F a = τ a := by
  obtain ⟨T, hT⟩ : ∃ T, T = wr τ 198 (s_lay (τ 194) (τ 198) 0 0) := ⟨_, rfl⟩
  have hl := m_lays (τ := τ) (d0 := 194) (n0 := 1785) (d2 := 198) (n2 := 1785) (p1 := 0) (p3 := 0) (x1 := 0) (x3 := 0) (by omega) rfl rfl (by omega) (by omega) (by omega) (by omega)
  rw [← hT] at hl
  have To : ∀ a, a ≠ 198 → T a = τ a := fun a ha => by rw [hT, wr_n ha]
  have hr := m_run l 0 10000 l.length T (by omega) h40 (by omega) (by rw [To 193 (by omega)]; exact h13) (by rw [To 201 (by omega)]; exact hM) hV (by rw [To 194 (by omega)]; exact ok)
  rw [To 194 (by omega), To 199 (by omega)] at hr
  unfold f_X5_carries
  rw [hl, b1_some]
  refine ⟨_, hr, w49_1, fun i hi => ?_, fun a z1 z2 z3 => ?_⟩
  · show T 198 i = _
    rw [hT, wr_s, s_lay0 hi]
  · show (if a = 194 then _ else if a = 199 then _ else _) = _
    rw [if_neg z1, if_neg z3, To a z2]
theorem m_bef {τ : Sg} : f_X5_lays 198 1785 194 1785 τ 0 0 = some (wr τ 194 (s_lay (τ 198) (τ 194) 0 0)) := m_lays (by omega) rfl rfl (by omega) (by omega) (by omega) (by omega)
theorem kk_13 {σ : Sg} {a1 a2 a3 a4 : Int32} (hI : IV σ) : ∃ σ', g_13 σ a1 a2 a3 a4 = some σ' ∧ IV σ' := by
  obtain ⟨⟨n, t1, t2, t3, t4⟩, m, R, hs, sn, hc, hr, ok⟩ := id hI
  have hcA : ∀ i, i < n → vp_in (σ 192 i) 65536 := fun i hi => by rw [(t4 i hi).1]; exact (t4 i hi).2
  have hcB : ∀ i, i < n → vp_in (σ 200 i) 65536 := fun i hi => (t4 i hi).2
  have eA : s_all (σ 192) n 40 0 = s_all (σ 200) n 40 0 := s_all_ext (fun i hi => (t4 i hi).1) 40 0
  obtain ⟨G, x1, x2⟩ := C_err t1 t2 hcA
  rw [eA] at x1
  unfold g_13
  by_cases q : (s_all (σ 200) n 40 0).2.1 = true
  · rw [if_pos q] at x1
    have A1 : wr σ 191 G 192 = σ 192 := wr_n (by omega)
    obtain ⟨F', y1, y2, y3, y4⟩ := C_try (σ := wr σ 191 G) (f := σ 194) (σ 199) t1 (by rw [wr_s]; exact x2) (by rw [A1]; exact hcA) (hc.1.at (fun a z1 z2 => wr_n (by omega)) ok.1.b.1 ok.1.b.2) ok.1 (by rw [A1, eA]; exact q)
    rw [A1, eA] at y1
    obtain ⟨y, hy⟩ : ∃ y, y = (s_run (s_all (σ 200) n 40 0).2.2 0 (σ 194) (σ 199)).1 := ⟨_, rfl⟩
    rw [← hy] at y1
    have Fo : ∀ a, a < 28 ∨ (55 ≤ a ∧ a ≠ 191) → F' a = σ a := fun a ha => by rw [y3 a ha, wr_n (by omega)]
    have hL : f_L_impossibleOrder σ = some (0, u2 F' 202 0 y) := by
      unfold f_L_impossibleOrder f_X4_impossibleOrder
      rw [x1, b2_some, if_pos rfl, y1, b2_some]
      rfl
    obtain ⟨τ, hτ⟩ : ∃ τ, τ = u2 F' 202 0 y := ⟨_, rfl⟩
    have to : ∀ a, (a < 28 ∨ (55 ≤ a ∧ a ≠ 191)) → a ≠ 202 → τ a = σ a := fun a ha h2 => by rw [hτ, u2_cell h2, Fo a ha]
    obtain ⟨W, w1, w2, w3, w4, w5⟩ := M_all (τ := τ) t1 (by rw [to 193 (by omega) (by omega)]; exact t3) (by rw [to 200 (by omega) (by omega)]; exact hcB)
    rw [to 200 (by omega) (by omega)] at w1 w5
    obtain ⟨w6, w7⟩ := w5 q
    rw [if_pos q] at w1
    obtain ⟨V, hV⟩ : ∃ V, V = u2 W 193 10 0 := ⟨_, rfl⟩
    have Vo : ∀ a, a ≠ 193 → a ≠ 201 → V a = τ a := fun a z1 z2 => by rw [hV, u2_cell z1, w2 a z1 z2]
    have V94 : V 194 = σ 194 := by rw [Vo 194 (by omega) (by omega), to 194 (by omega) (by omega)]
    have V99 : V 199 = σ 199 := by rw [Vo 199 (by omega) (by omega), to 199 (by omega) (by omega)]
    obtain ⟨X, c1, c2, c3, c4⟩ := M_car (τ := V) (l := (s_all (σ 200) n 40 0).2.2) (s_all_len 40 0) (by rw [hV, u2_ri (by omega)]; exact w6) (by rw [hV, u2_cell (by omega)]; exact w7) (s_all_vf hcB 40 0) (by rw [V94]; exact ok.1)
    rw [V94, V99, ← hy] at c1
    rw [V94] at c3
    obtain ⟨Z, hZ⟩ : ∃ Z, Z = wr X 194 (s_lay (X 198) (X 194) 0 0) := ⟨_, rfl⟩
    have hX : f_X5_impossibleOrder τ = some (y, Z) := by
      unfold f_X5_impossibleOrder
      rw [w1, b2_some, if_neg (by decide), ← hV, st_eq, hV, u2_rs, if_pos le00, ← hV, c1, b2_some, m_bef, b1_some, ← hZ]
    have Zo : ∀ a, a ≠ 193 → a ≠ 194 → a ≠ 198 → a ≠ 199 → a ≠ 201 → Z a = τ a := fun a z1 z2 z3 z4 z5 => by rw [hZ, wr_n z2, c4 a z2 z3 z4, Vo a z1 z5]
    have Z93 : ∀ j, j ≠ 10 → j ≠ 11 → j ≠ 13 → Z 193 j = σ 193 j := fun j z1 z2 z3 => by rw [hZ, wr_n (by omega), c4 193 (by omega) (by omega) (by omega), hV, u2_ri z1, w3 j z2 z3, to 193 (by omega) (by omega)]
    rw [← hτ] at hL
    refine g_thr (X := fun τ => f_X5_impossibleOrder τ) (k := 0) hL hX ?_ (fun _ => ?_) (hI.same ⟨fun a ha => ?_, fun i hi => ?_, ?_, ?_, ?_, ?_⟩)
    · rw [hZ, wr_n (by omega), c4 193 (by omega) (by omega) (by omega), hV, u2_rs]
    · rw [Zo 202 (by omega) (by omega) (by omega) (by omega) (by omega), hτ, u2_rs]
    · rw [Zo a (by omega) (by omega) (by omega) (by omega) (by omega), to a (by omega) (by omega)]
    · rw [hZ, wr_s, s_lay0 hi, c3 i hi]
    · rw [Zo 191 (by omega) (by omega) (by omega) (by omega) (by omega), hτ, u2_cell (by omega), y2, t2]
    · exact Z93 2 (by omega) (by omega) (by omega)
    · exact Z93 4 (by omega) (by omega) (by omega)
    · exact Z93 9 (by omega) (by omega) (by omega)
  · rw [if_neg q] at x1
    have le := s_all_le (tx := σ 200) (n := n) 40 0 (by omega)
    have hL : f_L_impossibleOrder σ = some (1, wr σ 191 G) := by
      unfold f_L_impossibleOrder f_X4_impossibleOrder
      rw [x1, b2_some, if_neg (nI_neg1 (by omega))]
      rfl
    have A0 : wr σ 191 G 200 = σ 200 := wr_n (by omega)
    obtain ⟨W, w1, w2, w3, w4, -⟩ := M_all (τ := wr σ 191 G) t1 (by rw [wr_n (by omega)]; exact t3) (by rw [A0]; exact hcB)
    rw [A0, if_neg q] at w1
    have hX : f_X5_impossibleOrder (wr σ 191 G) = some (0, u2 W 193 10 1) := by
      unfold f_X5_impossibleOrder
      rw [w1, b2_some, if_pos rfl, st_eq, u2_rs, if_neg nle10]
    refine g_thr (X := fun τ => f_X5_impossibleOrder τ) (k := 1) hL hX u2_rs (fun z => absurd z (by decide)) (hI.same ⟨fun a ha => ?_, fun i hi => ?_, ?_, ?_, ?_, ?_⟩)
    · rw [u2_cell (by omega), w2 a (by omega) (by omega), wr_n (by omega)]
    · rw [u2_cell (by omega), w2 194 (by omega) (by omega), wr_n (by omega)]
    · rw [u2_cell (by omega), w2 191 (by omega) (by omega), wr_s, x2, t2]
    · rw [u2_ri (by omega), w3 2 (by omega) (by omega), wr_n (by omega)]
    · rw [u2_ri (by omega), w3 4 (by omega) (by omega), wr_n (by omega)]
    · rw [u2_ri (by omega), w3 9 (by omega) (by omega), wr_n (by omega)]
theorem RM.kR_ext {τ : Sg} {m M : Nat} {R : Nat → Nat → Int32} {g f : Nat → Int32} {hs : Int32} {sn : Nat → Int32} (h : RM τ M (kR m R g) hs sn) (e : ∀ i, i < 1785 → g i = f i) : RM τ M (kR m R f) hs sn := by
  obtain ⟨h1, h2⟩ := h
  refine ⟨fun j hj i hi => ?_, h2⟩
  rw [h1 j hj i hi]
  unfold kR
  split
  · exact e i hi
  · rfl
theorem kk_14 {σ : Sg} {a1 a2 a3 a4 : Int32} (hI : IV σ) : ∃ σ', g_14 σ a1 a2 a3 a4 = some σ' ∧ IV σ' := by
  obtain ⟨⟨n, ht⟩, m, R, hs, sn, hc, hr, ok⟩ := id hI
  obtain ⟨t1, t2, t3, t4⟩ := id ht
  have hcA : ∀ i, i < n → vp_in (σ 192 i) 65536 := fun i hi => by rw [(t4 i hi).1]; exact (t4 i hi).2
  have hcB : ∀ i, i < n → vp_in (σ 200 i) 65536 := fun i hi => (t4 i hi).2
  have eA : s_all (σ 192) n 40 0 = s_all (σ 200) n 40 0 := s_all_ext (fun i hi => (t4 i hi).1) 40 0
  obtain ⟨G, x1, x2⟩ := C_err t1 t2 hcA
  rw [eA] at x1
  unfold g_14
  by_cases q : (s_all (σ 200) n 40 0).2.1 = true
  · rw [if_pos q] at x1
    have A1 : wr σ 191 G 192 = σ 192 := wr_n (by omega)
    obtain ⟨F', y1, y2, y3, y4⟩ := C_try (σ := wr σ 191 G) (f := σ 194) (σ 199) t1 (by rw [wr_s]; exact x2) (by rw [A1]; exact hcA) (hc.1.at (fun a z1 z2 => wr_n (by omega)) ok.1.b.1 ok.1.b.2) ok.1 (by rw [A1, eA]; exact q)
    rw [A1, eA] at y1 y4
    obtain ⟨P, hP⟩ : ∃ P, P = s_run (s_all (σ 200) n 40 0).2.2 0 (σ 194) (σ 199) := ⟨_, rfl⟩
    have okP : OKf P.2.1 := by rw [hP]; exact W_run _ _ _ _ (s_all_vf hcB 40 0) ok.1
    rw [← hP] at y1 y4
    have Fo : ∀ a, a < 28 ∨ (55 ≤ a ∧ a ≠ 191) → F' a = σ a := fun a ha => by rw [y3 a ha, wr_n (by omega)]
    -- the second side, from any state that has the first side's rest
    have second : ∀ τ : Sg, (∀ a, 192 ≤ a → a ≠ 202 → τ a = σ a) → ∃ V X, f_X5_isWhole τ = some (1, V) ∧ f_X5_carries (u2 V 193 10 0) = some (P.1, X) ∧ X 194 = P.2.1 ∧ (∀ i, i < 1785 → X 198 i = σ 194 i) ∧ (∀ a, a ≠ 193 → a ≠ 194 → a ≠ 198 → a ≠ 199 → a ≠ 201 → X a = τ a) ∧ (∀ j, j ≠ 10 → j ≠ 11 → j ≠ 13 → X 193 j = σ 193 j) ∧ X 193 10 = 0 ∧ X 193 13 = nI (s_all (σ 200) n 40 0).2.2.length := by
      intro τ to
      obtain ⟨W, w1, w2, w3, w4, w5⟩ := M_all (τ := τ) t1 (by rw [to 193 (by omega) (by omega)]; exact t3) (by rw [to 200 (by omega) (by omega)]; exact hcB)
      rw [to 200 (by omega) (by omega)] at w1 w5
      obtain ⟨w6, w7⟩ := w5 q
      rw [if_pos q] at w1
      obtain ⟨V, hV⟩ : ∃ V, V = u2 W 193 10 0 := ⟨_, rfl⟩
      have Vo : ∀ a, a ≠ 193 → a ≠ 201 → V a = τ a := fun a z1 z2 => by rw [hV, u2_cell z1, w2 a z1 z2]
      have V94 : V 194 = σ 194 := by rw [Vo 194 (by omega) (by omega), to 194 (by omega) (by omega)]
      have V99 : V 199 = σ 199 := by rw [Vo 199 (by omega) (by omega), to 199 (by omega) (by omega)]
      obtain ⟨X, c1, c2, c3, c4⟩ := M_car (τ := V) (l := (s_all (σ 200) n 40 0).2.2) (s_all_len 40 0) (by rw [hV, u2_ri (by omega)]; exact w6) (by rw [hV, u2_cell (by omega)]; exact w7) (s_all_vf hcB 40 0) (by rw [V94]; exact ok.1)
      rw [V94, V99, ← hP] at c1
      rw [V94, V99, ← hP] at c2
      rw [V94] at c3
      rw [hV] at c1
      refine ⟨W, X, w1, c1, c2, c3, fun a z1 z2 z3 z4 z5 => by rw [c4 a z2 z3 z4, Vo a z1 z5], fun j z1 z2 z3 => ?_, ?_, ?_⟩
      · rw [c4 193 (by omega) (by omega) (by omega), hV, u2_ri z1, w3 j z2 z3, to 193 (by omega) (by omega)]
      · rw [c4 193 (by omega) (by omega) (by omega), hV, u2_rs]
      · rw [c4 193 (by omega) (by omega) (by omega), hV, u2_ri (by omega), w6]
    by_cases p : P.1 = -1
    · obtain ⟨y5, y6⟩ := y4 p
      have hcF : RC F' (σ 194) m R hs sn := hc.op ok (hc.1.at (fun a z1 z2 => Fo a (by omega)) ok.1.b.1 ok.1.b.2) (Fo 0 (by omega)) (fun a z1 z2 => Fo a (by omega))
      obtain ⟨σk, k1, k2, k3⟩ := hcF.keep ok
      have ok2 := ok.keep hc.2.1
      obtain ⟨U, u1, u2', u3⟩ := c_copy (c := 1) (d := 28) (by omega) (y6.at (fun a z1 z2 => k3 a (by omega)) okP.b.1 okP.b.2) okP.1
      have Uo : ∀ a, 191 ≤ a → U a = F' a := fun a ha => by rw [u3 a (by omega), k3 a (by omega)]
      obtain ⟨y, hy⟩ : ∃ y, y = nI (s_all (σ 200) n 40 0).2.2.length := ⟨_, rfl⟩
      rw [← hy] at y5
      have hL : f_L_carryOut σ = some (0, u2 U 202 0 y) := by
        unfold f_L_carryOut f_X4_carryOut
        rw [x1, b2_some, if_pos rfl, y1, b2_some, if_pos p, k1, b1_some, u1, b1_some, Uo 191 (by omega), y5]
        rfl
      obtain ⟨τ, hτ⟩ : ∃ τ, τ = u2 U 202 0 y := ⟨_, rfl⟩
      have to : ∀ a, 192 ≤ a → a ≠ 202 → τ a = σ a := fun a z1 z2 => by rw [hτ, u2_cell z2, Uo a (by omega), Fo a (by omega)]
      obtain ⟨V, X, w1, c1, c2, c3, c4, c5, c6, c7⟩ := second τ to
      have hrX : RM X m R hs sn := hr.at (by rw [c4 195 (by omega) (by omega) (by omega) (by omega) (by omega), to 195 (by omega) (by omega)]) (by rw [c4 196 (by omega) (by omega) (by omega) (by omega) (by omega), to 196 (by omega) (by omega)]) (c5 2 (by omega) (by omega) (by omega)) (c5 4 (by omega) (by omega) (by omega))
      obtain ⟨Z, z1, z2, z3, z4⟩ := M_keep (d1 := 198) hrX hc.2.1 (by omega) (by omega)
      have z2' := z2.kR_ext c3
      have hX : f_X5_carryOut τ = some (y, Z) := by
        unfold f_X5_carryOut
        rw [w1, b2_some, if_neg (by decide), st_eq, u2_rs, if_pos le00, c1, b2_some, if_pos p, z1, b1_some, z4 13 (by omega), c7, hy]
      have Zs : ∀ a, a < 191 → Z a = U a := fun a ha => by rw [z3 a (by omega) (by omega), c4 a (by omega) (by omega) (by omega) (by omega) (by omega), hτ, u2_cell (by omega)]
      rw [← hτ] at hL
      refine g_thr (X := fun τ => f_X5_carryOut τ) (k := 0) hL hX ?_ (fun _ => ?_) ?_
      · rw [z4 10 (by omega), c6]
      · rw [z3 202 (by omega) (by omega), c4 202 (by omega) (by omega) (by omega) (by omega) (by omega), hτ, u2_rs]
      · have o2 : OKA P.2.1 (kp m) (kR m R (σ 194)) hs sn := ⟨okP, ok2.2⟩
        have c8 : RC U P.2.1 (kp m) (kR m R (σ 194)) hs sn := k2.op ok2 u2' (u3 0 (by omega)) (fun a z1 z2 => u3 a (by omega))
        refine IV.of (f := P.2.1) (ht.at ?_ ?_ ?_ ?_) (c8.op o2 (u2'.at (fun a z1 z2 => Zs a (by omega)) okP.b.1 okP.b.2) (Zs 0 (by omega)) (fun a z1 z2 => Zs a (by omega))) z2' o2 (fun i hi => by rw [z3 194 (by omega) (by omega), c2])
        · rw [z3 191 (by omega) (by omega), c4 191 (by omega) (by omega) (by omega) (by omega) (by omega), hτ, u2_cell (by omega), Uo 191 (by omega), y2, t2]
        · rw [z3 192 (by omega) (by omega), c4 192 (by omega) (by omega) (by omega) (by omega) (by omega), to 192 (by omega) (by omega)]
        · rw [z4 9 (by omega), c5 9 (by omega) (by omega) (by omega)]
        · rw [z3 200 (by omega) (by omega), c4 200 (by omega) (by omega) (by omega) (by omega) (by omega), to 200 (by omega) (by omega)]
    · have hL : f_L_carryOut σ = some (1, F') := by
        unfold f_L_carryOut f_X4_carryOut
        rw [x1, b2_some, if_pos rfl, y1, b2_some, if_neg p]
        rfl
      obtain ⟨V, X, w1, c1, c2, c3, c4, c5, c6, c7⟩ := second F' (fun a z1 z2 => Fo a (by omega))
      obtain ⟨Z, hZ⟩ : ∃ Z, Z = u2 (wr X 194 (s_lay (X 198) (X 194) 0 0)) 193 10 1 := ⟨_, rfl⟩
      have hX : f_X5_carryOut F' = some (0, Z) := by
        unfold f_X5_carryOut f_X5_refuses
        rw [w1, b2_some, if_neg (by decide), st_eq, u2_rs, if_pos le00, c1, b2_some, if_neg p, m_bef, b1_some, st_eq, b2_some, ← hZ]
      have Zo : ∀ a, a ≠ 193 → a ≠ 194 → a ≠ 198 → a ≠ 199 → a ≠ 201 → Z a = F' a := fun a z1 z2 z3 z4 z5 => by rw [hZ, u2_cell z1, wr_n z2, c4 a z1 z2 z3 z4 z5]
      have Z93 : ∀ j, j ≠ 10 → j ≠ 11 → j ≠ 13 → Z 193 j = σ 193 j := fun j z1 z2 z3 => by rw [hZ, u2_ri z1, wr_n (by omega), c5 j z1 z2 z3]
      refine g_thr (X := fun τ => f_X5_carryOut τ) (k := 1) hL hX (by rw [hZ, u2_rs]) (fun z => absurd z (by decide)) (hI.same ⟨fun a ha => ?_, fun i hi => ?_, ?_, ?_, ?_, ?_⟩)
      · rw [Zo a (by omega) (by omega) (by omega) (by omega) (by omega), Fo a (by omega)]
      · rw [hZ, u2_cell (by omega), wr_s, s_lay0 hi, c3 i hi]
      · rw [Zo 191 (by omega) (by omega) (by omega) (by omega) (by omega), y2, t2]
      · exact Z93 2 (by omega) (by omega) (by omega)
      · exact Z93 4 (by omega) (by omega) (by omega)
      · exact Z93 9 (by omega) (by omega) (by omega)
  · rw [if_neg q] at x1
    have le := s_all_le (tx := σ 200) (n := n) 40 0 (by omega)
    have hL : f_L_carryOut σ = some (1, wr σ 191 G) := by
      unfold f_L_carryOut f_X4_carryOut
      rw [x1, b2_some, if_neg (nI_neg1 (by omega))]
      rfl
    have A0 : wr σ 191 G 200 = σ 200 := wr_n (by omega)
    obtain ⟨W, w1, w2, w3, w4, -⟩ := M_all (τ := wr σ 191 G) t1 (by rw [wr_n (by omega)]; exact t3) (by rw [A0]; exact hcB)
    rw [A0, if_neg q] at w1
    have hX : f_X5_carryOut (wr σ 191 G) = some (0, u2 W 193 10 1) := by
      unfold f_X5_carryOut
      rw [w1, b2_some, if_pos rfl, st_eq, u2_rs, if_neg nle10]
    refine g_thr (X := fun τ => f_X5_carryOut τ) (k := 1) hL hX u2_rs (fun z => absurd z (by decide)) (hI.same ⟨fun a ha => ?_, fun i hi => ?_, ?_, ?_, ?_, ?_⟩)
    · rw [u2_cell (by omega), w2 a (by omega) (by omega), wr_n (by omega)]
    · rw [u2_cell (by omega), w2 194 (by omega) (by omega), wr_n (by omega)]
    · rw [u2_cell (by omega), w2 191 (by omega) (by omega), wr_s, x2, t2]
    · rw [u2_ri (by omega), w3 2 (by omega) (by omega), wr_n (by omega)]
    · rw [u2_ri (by omega), w3 4 (by omega) (by omega), wr_n (by omega)]
    · rw [u2_ri (by omega), w3 9 (by omega) (by omega), wr_n (by omega)]
