/-! forecasts: what the day will bring -/
def PK (f : Nat → Int32) (n : Nat) : Prop := WB f ∧ Mo f ∧ vp_in (f 7) 40 ∧ QB f (200 * tm f) ∧ tm f + n ≤ 400000
theorem PK.m {τ : Sg} {n e : Nat} (h : PK (τ 194) n) (hn : e ≤ n) (h40 : e ≤ 40) : f_X5_passes τ (nI e) = some ((s_pass e (τ 194) (τ 199)).1 5 - τ 194 5, w49 τ (s_pass e (τ 194) (τ 199)).1 (s_pass e (τ 194) (τ 199)).2) := by
  obtain ⟨h1, h2, h3, h4, h5⟩ := h
  unfold f_X5_passes
  rw [lc_5]
  exact m_pass (show e < 5000 by omega) e 0 10000 (200 * tm (τ 194)) τ h1 h2 h3 h4 (by omega) (by omega) (by omega) (by omega)
theorem PK.c {c n e : Nat} {σ : Sg} {f : Nat → Int32} (b : Nat → Int32) (hcc : c = 1 ∨ c = 28 ∨ c = 55) (hR : FR c σ f) (h : PK f n) (hn : e ≤ n) (h40 : e ≤ 40) : ∃ σ', f_X1_letPass c σ (nI e) = some σ' ∧ FR c σ' (s_pass e f b).1 ∧ ∀ a, a < c ∨ c + 27 ≤ a → σ' a = σ a := by
  obtain ⟨h1, h2, h3, h4, h5⟩ := h
  exact c_pass hcc (show e < 5000 by omega) e 0 10000 (200 * tm f) σ f b σ hR (fun _ _ => rfl) h1 h2 h3 h4 (by omega) (by omega) (by omega) (by omega)
theorem PK.w {n e : Nat} {f b : Nat → Int32} (h : PK f n) (hn : e ≤ n) (h40 : e ≤ 40) : PK (s_pass e f b).1 (n - e) ∧ (∃ j, j ≤ 200 * e ∧ (s_pass e f b).1 5 = f 5 + nI j) ∧ nS (s_pass e f b).1 = nS f ∧ nC f ≤ nC (s_pass e f b).1 ∧ QB (s_pass e f b).1 80010000 := by
  obtain ⟨h1, h2, h3, h4, h5⟩ := h
  obtain ⟨w1, w2, w3, w4, w5, w6, w7, w8⟩ := W_pass e f b (200 * tm f) h1 h2 h3 h4 (by omega) (by omega)
  refine ⟨⟨w1, w2, w3, ?_, by omega⟩, w7, w5, w6, w4.mono (by omega)⟩
  rw [w8, show 200 * (tm f + e) = 200 * tm f + 200 * e by omega]
  exact w4
theorem OKf.pk {f : Nat → Int32} (h : OKf f) : ∃ r, r < 40 ∧ f 7 = nI r ∧ 40 - f 7 = nI (40 - r) ∧ PK f (40 - r) := by
  obtain ⟨h1, h2, h3, h4, h5, h6⟩ := h
  obtain ⟨r, hr, e⟩ := vp_ex h3 (by omega)
  refine ⟨r, hr, e, by rw [e, show (40 : Int32) = nI 40 from rfl, pk_sub (by omega)], h1, h2, h3, h4, ?_⟩
  have e7 : (f 7).toNatClampNeg = r := by rw [e]; exact cl_nI (by omega)
  unfold tm at h5 ⊢
  omega
theorem nn_nI {j : Nat} (h : j < 100000) : (0 : Int32) ≤ nI j := by
  rw [show (0 : Int32) = nI 0 from rfl, nI_leI (by omega) (by omega)]
  omega
/-- the reference's row laid aside, the day tried, the row laid back -/
theorem m_aside {τ : Sg} : f_X5_lays 194 1785 197 1785 τ 0 0 = some (wr τ 197 (s_lay (τ 194) (τ 197) 0 0)) := m_lays (by omega) rfl rfl (by omega) (by omega) (by omega) (by omega)
theorem m_back {τ : Sg} : f_X5_lays 197 1785 194 1785 τ 0 0 = some (wr τ 194 (s_lay (τ 197) (τ 194) 0 0)) := m_lays (by omega) rfl rfl (by omega) (by omega) (by omega) (by omega)
theorem kk_54 {σ : Sg} {a1 a2 a3 a4 : Int32} (hI : IV σ) : ∃ σ', g_54 σ a1 a2 a3 a4 = some σ' ∧ IV σ' := by
  obtain ⟨m, R, hs, sn, hc, hr, ok⟩ := hI.parts
  have hw := ok.1.1
  obtain ⟨r, hr40, er, e40, hpk⟩ := ok.1.pk
  obtain ⟨S, x1, x2, x3⟩ := c_copy (c := 28) (d := 1) (by omega) hc.1 hw
  obtain ⟨U, y1, y2, y3⟩ := PK.c (e := 40 - r) (σ 199) (Or.inr (Or.inl rfl)) x2 hpk (by omega) (by omega)
  obtain ⟨G, hG⟩ : ∃ G, G = s_pass (40 - r) (σ 194) (σ 199) := ⟨_, rfl⟩
  rw [← hG] at y2
  have Uo : ∀ a, a < 28 ∨ 55 ≤ a → U a = σ a := fun a ha => by rw [y3 a (by omega), x3 a (by omega)]
  have hC : f_X4_takingsToday σ = some (G.1 4 - σ 194 4, U) := by
    unfold f_X4_takingsToday
    rw [x1, b1_some, x3 1 (by omega), hc.1.r7, e40, y1, b1_some, y2.r4, Uo 1 (by omega), hc.1.r4]
  obtain ⟨T, hT⟩ : ∃ T, T = wr (u2 U 193 10 0) 197 (s_lay (u2 U 193 10 0 194) (u2 U 193 10 0 197) 0 0) := ⟨_, rfl⟩
  have T94 : T 194 = σ 194 := by rw [hT, wr_n (by omega), u2_cell (by omega), Uo 194 (by omega)]
  have T99 : T 199 = σ 199 := by rw [hT, wr_n (by omega), u2_cell (by omega), Uo 199 (by omega)]
  have T97 : ∀ i, i < 1785 → T 197 i = σ 194 i := fun i hi => by rw [hT, wr_s, s_lay0 hi, u2_cell (by omega), Uo 194 (by omega)]
  have hm := PK.m (τ := T) (e := 40 - r) (by rw [T94]; exact hpk) (by omega) (by omega)
  obtain ⟨j, hj, ej⟩ := (PK.w (e := 40 - r) (b := σ 199) hpk (by omega) (by omega)).2.1
  rw [T94, T99, ej, sub_nI, ← hG] at hm
  obtain ⟨V, hV⟩ : ∃ V, V = w49 T G.1 G.2 := ⟨_, rfl⟩
  have V94 : V 194 = G.1 := by rw [hV]; rfl
  have Vo : ∀ a, a ≠ 194 → a ≠ 199 → V a = T a := fun a h1 h2 => by
    rw [hV]
    show (if a = 194 then _ else if a = 199 then _ else _) = _
    rw [if_neg h1, if_neg h2]
  rw [← hV] at hm
  obtain ⟨W, hW⟩ : ∃ W, W = wr V 194 (s_lay (V 197) (V 194) 0 0) := ⟨_, rfl⟩
  have hX : f_X5_takingsToday U = some (G.1 4 - σ 194 4, W) := by
    unfold f_X5_takingsToday
    rw [st_eq, m_aside, b1_some, ← hT, T94, lc_7, e40, hm, b2_some, m_back, b1_some, ← hW, if_pos (nn_nI (by omega)), lc_4, V94]
  refine ⟨W, ?_, hI.same ⟨fun a ha => ?_, fun i hi => ?_, ?_, ?_, ?_, ?_⟩⟩
  · unfold g_54
    rw [hC, b2_some, hX, b2_some, if_pos rfl]
  · rw [hW, wr_n (by omega), Vo a (by omega) (by omega), hT, wr_n (by omega), u2_cell (by omega), Uo a (by omega)]
  · rw [hW, wr_s, s_lay0 hi, Vo 197 (by omega) (by omega), T97 i hi]
  · rw [hW, wr_n (by omega), Vo 191 (by omega) (by omega), hT, wr_n (by omega), u2_cell (by omega), Uo 191 (by omega)]
  · rw [hW, wr_n (by omega), Vo 193 (by omega) (by omega), hT, wr_n (by omega), u2_ri (by omega), Uo 193 (by omega)]
  · rw [hW, wr_n (by omega), Vo 193 (by omega) (by omega), hT, wr_n (by omega), u2_ri (by omega), Uo 193 (by omega)]
  · rw [hW, wr_n (by omega), Vo 193 (by omega) (by omega), hT, wr_n (by omega), u2_ri (by omega), Uo 193 (by omega)]
theorem s_pass1 {f b : Nat → Int32} : s_pass 1 f b = s_round f b := by
  obtain ⟨p, hp⟩ : ∃ p, p = s_round f b := ⟨_, rfl⟩
  rw [show (1 : Nat) = 0 + 1 from rfl, s_pass, s_pass, ← hp]
/-! in how many rounds a child is at home -/
def s_hm (k : Nat) : Nat → (Nat → Int32) → (Nat → Int32) → Nat
  | 0, _, _ => 0
  | e + 1, f, b => if f (185 + 8 * k + 4) = -1 then 0 else s_hm k e (s_round f b).1 (s_round f b).2 + 1
/-- e rounds are left to the day, or none is and the child has gone -/
def HM (k e : Nat) (f : Nat → Int32) : Prop := PK f e ∧ k < nC f ∧ ((e = 0 ∧ f (185 + 8 * k + 4) = -1) ∨ (1 ≤ e ∧ e ≤ 40 ∧ f 7 = nI (40 - e)))
theorem HM.next {k e : Nat} {f b : Nat → Int32} (h : HM k (e + 1) f) : HM k e (s_round f b).1 := by
  obtain ⟨hp, hk, h3⟩ := h
  obtain ⟨e1, e2, e7⟩ : 1 ≤ e + 1 ∧ e + 1 ≤ 40 ∧ f 7 = nI (40 - (e + 1)) := by
    rcases h3 with h | h
    · omega
    · exact h
  obtain ⟨p1, p2, p3, p4, p5⟩ := id hp
  obtain ⟨w1, w2, w3, w4, w5⟩ := PK.w (e := 1) (b := b) hp (by omega) (by omega)
  have es : s_pass 1 f b = s_round f b := s_pass1
  rw [es] at w1 w2 w3 w4 w5
  obtain ⟨t1, t2⟩ := W_round_tm (b := b) p1 p2 p3 p4 (by omega) (by omega)
  obtain ⟨-, -, -, -, -, -, -, hx⟩ := W_round (b := b) p1 p2 p3 p4 (by omega) t2
  refine ⟨w1, by omega, ?_⟩
  have ec : (f 7).toNatClampNeg = 40 - (e + 1) := by rw [e7]; exact cl_nI (by omega)
  rcases hx with ⟨a1, a2, -⟩ | ⟨a1, -, -, a4⟩
  · right
    refine ⟨by omega, by omega, ?_⟩
    rw [a2, e7, nI_1, show 40 - (e + 1) + 1 = 40 - e by omega]
  · left
    exact ⟨by omega, a4 k (by omega)⟩
theorem m_hm {k : Nat} : ∀ (e x n : Nat) (τ : Sg), HM k e (τ 194) → x + e ≤ 1000 → e < n → ∃ F, l_X5_home_15 n τ (nI k) (nI x) = some (nI (x + s_hm k e (τ 194) (τ 199)), F) ∧ (∀ a, a ≠ 194 → a ≠ 199 → F a = τ a) ∧ ∀ i, i < 1785 → F 194 i = τ 197 i := by
  have stop : ∀ (x n : Nat) (τ : Sg), k < 200 → τ 194 (185 + 8 * k + 4) = -1 → ∃ F, l_X5_home_15 (n + 1) τ (nI k) (nI x) = some (nI x, F) ∧ (∀ a, a ≠ 194 → a ≠ 199 → F a = τ a) ∧ ∀ i, i < 1785 → F 194 i = τ 197 i := by
    intro x n τ hk h
    rw [l_X5_home_15.eq_2, m_isHere hk, b1_some, if_pos h, if_pos rfl, m_back, b1_some]
    refine ⟨_, rfl, fun a h1 h2 => wr_n h1, fun i hi => ?_⟩
    rw [wr_s, s_lay0 hi]
  intro e
  induction e with
  | zero =>
    intro x n τ h hx hn
    obtain ⟨m, rfl⟩ : ∃ m, n = m + 1 := ⟨n - 1, by omega⟩
    have hc := h.1.1.c200
    have hk := h.2.1
    refine stop x m τ (by omega) ?_
    rcases h.2.2 with q | q
    · exact q.2
    · omega
  | succ e ih =>
    intro x n τ h hx hn
    obtain ⟨m, rfl⟩ : ∃ m, n = m + 1 := ⟨n - 1, by omega⟩
    have hc := h.1.1.c200
    have hk := h.2.1
    rw [s_hm]
    by_cases h0 : τ 194 (185 + 8 * k + 4) = -1
    · rw [if_pos h0]
      exact stop x m τ (by omega) h0
    · rw [if_neg h0, l_X5_home_15.eq_2, m_isHere (by omega), b1_some, if_neg h0, if_neg (by decide)]
      have hm := PK.m (τ := τ) (e := 1) h.1 (by omega) (by omega)
      obtain ⟨j, hj, ej⟩ := (PK.w (e := 1) (b := τ 199) h.1 (by omega) (by omega)).2.1
      rw [ej, sub_nI] at hm
      have es : s_pass 1 (τ 194) (τ 199) = s_round (τ 194) (τ 199) := s_pass1
      rw [es] at hm
      rw [show (1 : Int32) = nI 1 from rfl, hm, b2_some, if_pos (nn_nI (by omega)), nI_add]
      obtain ⟨F, f1, f2, f3⟩ := ih (x + 1) m (w49 τ (s_round (τ 194) (τ 199)).1 (s_round (τ 194) (τ 199)).2) h.next (by omega) (by omega)
      rw [w49_1, w49_2, show x + 1 + s_hm k e (s_round (τ 194) (τ 199)).1 (s_round (τ 194) (τ 199)).2 = x + (s_hm k e (s_round (τ 194) (τ 199)).1 (s_round (τ 194) (τ 199)).2 + 1) by omega] at f1
      refine ⟨F, f1, fun a h1 h2 => ?_, fun i hi => ?_⟩
      · rw [f2 a h1 h2]
        show (if a = 194 then _ else if a = 199 then _ else _) = _
        rw [if_neg h1, if_neg h2]
      · rw [f3 i hi]
        rfl
theorem c_hm {k : Nat} : ∀ (e x n : Nat) (σ : Sg) (f b : Nat → Int32), FR 28 σ f → HM k e f → x + e ≤ 40 → e < n → ∃ F, l_X4_homeIn_18 n σ (nI k) (nI x) = some (.inr (nI (x + s_hm k e f b), F)) ∧ ∀ a, a < 28 ∨ 55 ≤ a → F a = σ a := by
  intro e
  induction e with
  | zero =>
    intro x n σ f b hR h hx hn
    obtain ⟨m, rfl⟩ : ∃ m, n = m + 1 := ⟨n - 1, by omega⟩
    have hc := h.1.1.c200
    have hk := h.2.1
    have h0 : f (185 + 8 * k + 4) = -1 := by
      rcases h.2.2 with q | q
      · exact q.2
      · omega
    rw [l_X4_homeIn_18.eq_2]
    by_cases q : (40 : Int32) ≤ nI x
    · rw [if_pos q]
      exact ⟨σ, rfl, fun _ _ => rfl⟩
    · rw [if_neg q, gd_ok rfl (show k < 200 by omega) (by omega), cl_nI (by omega), hR.c4 hk, if_pos h0]
      exact ⟨σ, rfl, fun _ _ => rfl⟩
  | succ e ih =>
    intro x n σ f b hR h hx hn
    obtain ⟨m, rfl⟩ : ∃ m, n = m + 1 := ⟨n - 1, by omega⟩
    have hc := h.1.1.c200
    have hk := h.2.1
    rw [s_hm, l_X4_homeIn_18.eq_2, if_neg (show ¬ (40 : Int32) ≤ nI x from nI_ge (a := x) (b := 40) (by omega) (by omega)), gd_ok rfl (show k < 200 by omega) (by omega), cl_nI (by omega), hR.c4 hk]
    by_cases h0 : f (185 + 8 * k + 4) = -1
    · rw [if_pos h0, if_pos h0]
      exact ⟨σ, rfl, fun _ _ => rfl⟩
    · rw [if_neg h0, if_neg h0]
      obtain ⟨σ1, x1, x2, x3⟩ := PK.c (e := 1) b (Or.inr (Or.inl rfl)) hR h.1 (by omega) (by omega)
      have es : s_pass 1 f b = s_round f b := s_pass1
      rw [es] at x2
      obtain ⟨F, f1, f2⟩ := ih (x + 1) m σ1 (s_round f b).1 (s_round f b).2 x2 h.next (by omega) (by omega)
      rw [show (1 : Int32) = nI 1 from rfl, x1, b1_some, nI_add, f1]
      refine ⟨F, ?_, fun a ha => by rw [f2 a ha, x3 a (by omega)]⟩
      rw [show x + 1 + s_hm k e (s_round f b).1 (s_round f b).2 = x + (s_hm k e (s_round f b).1 (s_round f b).2 + 1) by omega]
theorem kk_55 {σ : Sg} {a1 a2 a3 a4 : Int32} (hI : IV σ) : ∃ σ', g_55 σ a1 a2 a3 a4 = some σ' ∧ IV σ' := by
  obtain ⟨m, R, hs, sn, hc, hr, ok⟩ := hI.parts
  have hw := ok.1.1
  have h9 := hw.c200
  unfold g_55 f_L_homeIn
  by_cases h1 : vp_in a1 (nC (σ 194))
  · obtain ⟨k, hk, rfl⟩ := vp_s h1 (by omega)
    obtain ⟨r, hr40, er, e40, hpk⟩ := ok.1.pk
    have hH : HM k (40 - r) (σ 194) := ⟨hpk, hk, Or.inr ⟨by omega, by omega, by rw [er, show 40 - (40 - r) = r by omega]⟩⟩
    obtain ⟨S, x1, x2, x3⟩ := c_copy (c := 28) (d := 1) (by omega) hc.1 hw
    obtain ⟨U, y1, y2⟩ := c_hm (40 - r) 0 10000 S (σ 194) (σ 199) x2 hH (by omega) (by omega)
    have Uo : ∀ a, a < 28 ∨ 55 ≤ a → U a = σ a := fun a ha => by rw [y2 a (by omega), x3 a (by omega)]
    rw [Nat.zero_add] at y1
    obtain ⟨y, hy⟩ : ∃ y, y = nI (s_hm k (40 - r) (σ 194) (σ 199)) := ⟨_, rfl⟩
    rw [← hy] at y1
    have hC : f_X4_homeIn σ (nI k) = some (.inr (y, U)) := by
      unfold f_X4_homeIn
      rw [c_nch1 hc.1 hw.nc h1, bt_inr, x1, b1_some]
      exact y1
    obtain ⟨T, hT⟩ : ∃ T, T = wr (u2 (u2 U 202 0 y) 193 10 0) 197 (s_lay (u2 (u2 U 202 0 y) 193 10 0 194) (u2 (u2 U 202 0 y) 193 10 0 197) 0 0) := ⟨_, rfl⟩
    have To : ∀ a, a ≠ 193 → a ≠ 197 → a ≠ 202 → T a = U a := fun a h1 h2 h3 => by rw [hT, wr_n h2, u2_cell h1, u2_cell h3]
    have T3 : ∀ i, i ≠ 10 → T 193 i = σ 193 i := fun i hi => by rw [hT, wr_n (by omega), u2_ri hi, u2_cell (by omega), Uo 193 (by omega)]
    have T10 : T 193 10 = 0 := by rw [hT, wr_n (by omega), u2_rs]
    have T94 : T 194 = σ 194 := by rw [To 194 (by omega) (by omega) (by omega), Uo 194 (by omega)]
    have T99 : T 199 = σ 199 := by rw [To 199 (by omega) (by omega) (by omega), Uo 199 (by omega)]
    have T02 : T 202 0 = y := by rw [hT, wr_n (by omega), u2_cell (by omega), u2_rs]
    have T97 : ∀ i, i < 1785 → T 197 i = σ 194 i := fun i hi => by rw [hT, wr_s, s_lay0 hi, u2_cell (by omega), u2_cell (by omega), Uo 194 (by omega)]
    obtain ⟨F, f1, f2, f3⟩ := m_hm (40 - r) 0 10000 T (by rw [T94]; exact hH) (by omega) (by omega)
    rw [Nat.zero_add, T94, T99, ← hy] at f1
    have hX : f_X5_homeIn (u2 U 202 0 y) (nI k) = some (y, F) := by
      unfold f_X5_homeIn f_X5_home
      rw [m_child1 (by rw [u2_cell (by omega), Uo 194 (by omega)]; exact hw.nc) (by rw [u2_cell (by omega), Uo 194 (by omega)]; exact h1), b1_some, if_neg (by decide), st_eq, u2_rs, if_pos le00, m_aside, b1_some, ← hT]
      rw [show l_X5_home_15 10000 T (nI k) 0 = _ from f1, b2_some]
    refine g_thr (X := fun τ => f_X5_homeIn τ (nI k)) (k := 0) (σ1 := u2 U 202 0 y) (by rw [hC]; rfl) hX ?_ (fun _ => ?_) (hI.same ⟨fun a ha => ?_, fun i hi => ?_, ?_, ?_, ?_, ?_⟩)
    · rw [f2 193 (by omega) (by omega), T10]
    · rw [f2 202 (by omega) (by omega), T02]
    · rw [f2 a (by omega) (by omega), To a (by omega) (by omega) (by omega), Uo a (by omega)]
    · rw [f3 i hi, T97 i hi]
    · rw [f2 191 (by omega) (by omega), To 191 (by omega) (by omega) (by omega), Uo 191 (by omega)]
    · rw [f2 193 (by omega) (by omega), T3 2 (by omega)]
    · rw [f2 193 (by omega) (by omega), T3 4 (by omega)]
    · rw [f2 193 (by omega) (by omega), T3 9 (by omega)]
  · refine mu_no hI (e := 1) (k := 1) (X := fun τ => f_X5_homeIn τ a1) ?_ rfl (by decide) ?_
    · unfold f_X4_homeIn
      rw [c_nch0 hc.1 hw.nc h1, bt_inl]
    · show ∃ y', f_X5_homeIn σ a1 = _
      unfold f_X5_homeIn
      rw [m_child0 hw.nc h1, b1_some, if_pos rfl, st_eq, u2_rs, if_neg nle10]
      exact ⟨_, rfl⟩
