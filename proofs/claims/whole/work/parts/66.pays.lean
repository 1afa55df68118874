/-! a stall paid for, on both sides; rain set -/
theorem m_pays {τ : Sg} {p kd pr rf : Int32} (h8 : vp_in (τ 194 8) 7) : f_X5_paysBuilding τ p kd pr rf = some (nI (nS (τ 194)), w4 τ (s_pays (τ 194) p kd pr rf)) := by
  have hb := m_builds (τ := w4 τ (s_paid (τ 194) (cst rf))) (p := p) (kd := kd) (pr := pr) (rf := rf) (by
    rw [w4_194]
    unfold s_paid
    rw [upd_n (by omega), upd_n (by omega)]
    exact h8)
  rw [w4_194, w4_w4, nS_paid] at hb
  unfold f_X5_paysBuilding s_pays
  by_cases h : rf = 0
  · have ec : cst rf = 30 := by unfold cst; rw [if_pos h]
    rw [ec] at hb ⊢
    rw [if_pos h, lc_0, st_eq, u2_w4, lc_2, st_eq, u2_w4, w4_194, w4_w4, upd_n (show 2 ≠ 0 by omega)]
    change b2 (f_X5_builds (w4 τ (s_paid (τ 194) 30)) p kd pr rf) _ = _
    rw [hb, b2_some]
  · have ec : cst rf = 50 := by unfold cst; rw [if_neg h]
    rw [ec] at hb ⊢
    rw [if_neg h, lc_0, st_eq, u2_w4, lc_2, st_eq, u2_w4, w4_194, w4_w4, upd_n (show 2 ≠ 0 by omega)]
    change b2 (f_X5_builds (w4 τ (s_paid (τ 194) 50)) p kd pr rf) _ = _
    rw [hb, b2_some]
theorem c_cst {σ : Sg} {rf : Int32} : f_X4_costOfStall σ rf = some (cst rf) := by
  unfold f_X4_costOfStall cst
  split <;> rfl
theorem c_pays {c : Nat} {σ0 : Sg} {f : Nat → Int32} {σ : Sg} {p kd pr rf : Int32} (h : FR c σ f) (hs : ∀ a, a < c ∨ c + 27 ≤ a → σ a = σ0 a) (hw : WB f) (h7 : nS f < 7) (hrf : vp_in rf 2) : ∃ σ', f_X1_buildStall c σ p kd pr rf = some (nI (nS f), σ') ∧ FR c σ' (s_pays f p kd pr rf) ∧ ∀ a, a < c ∨ c + 27 ≤ a → σ' a = σ0 a := by
  have h0 : GR c σ0 f (fun s => σ (c + 13 + 2 * s) 9) σ := ⟨h, fun _ _ => rfl, hs⟩
  have h1 := (h0.F (i := 0) (v := f 0 - cst rf) (by omega)).F (i := 2) (v := f 2 + cst rf) (by omega)
  have n8 : nS (s_paid f (cst rf)) = nS f := nS_paid
  have n9 : nC (s_paid f (cst rf)) = nC f := by unfold s_paid; rw [nC_upd (by omega), nC_upd (by omega)]
  unfold f_X1_buildStall s_pays
  rw [c_cst, b1_some, h.r0, st_eq, u2_ri (by omega), h.r2, st_eq, rfI_id hrf]
  obtain ⟨σ', x, y, z⟩ := c_addStall (f := s_paid f (cst rf)) (p := p) (kd := kd) (pr := pr) (rf := rf) h1.1 h1.2.2 (by
    unfold s_paid
    rw [upd_n (by omega), upd_n (by omega)]
    exact hw.ns) (by omega) (by have := hw.c200; omega) hrf
  rw [x, b2_some, n8]
  exact ⟨σ', rfl, y, z⟩
theorem m_rains {τ : Sg} {i : Nat} {r : Int32} (hi : i < 10) : f_X5_rains τ (nI i) r = some (τ 194 (14 + i), w4 τ (upd (τ 194) (14 + i) r)) := by
  unfold f_X5_rains
  rw [show (14 : Int32) = nI 14 from rfl, nI_add, gd_ok rfl (show 14 + i < 1785 by omega) (by omega), cl_nI (by omega), st_eq, u2_w4]
/-! rows laid, states saved, in the reference -/
def s_lay (g h : Nat → Int32) (x1 x3 : Nat) : Nat → Int32 := fun j => if x3 ≤ j ∧ j < x3 + 1785 then g (x1 + (j - x3)) else h j
theorem s_lay_in {g h : Nat → Int32} {x1 x3 i : Nat} (hi : i < 1785) : s_lay g h x1 x3 (x3 + i) = g (x1 + i) := by
  unfold s_lay
  rw [if_pos (by omega), show x3 + i - x3 = i by omega]
theorem s_lay_out {g h : Nat → Int32} {x1 x3 j : Nat} (hj : j < x3 ∨ x3 + 1785 ≤ j) : s_lay g h x1 x3 j = h j := by
  unfold s_lay
  rw [if_neg (by omega)]
theorem m_laysA {d0 n0 d2 n2 x1 x3 : Nat} (hd : d0 ≠ d2) (h1 : x1 + 1785 ≤ n0) (h3 : x3 + 1785 ≤ n2) (hb0 : n0 ≤ 100000) (hb2 : n2 ≤ 100000) : ∀ (e k n : Nat) (τ : Sg), k + e = 1785 → e < n → l_X5_lays_3 d0 n0 d2 n2 n τ (nI x1) (nI x3) (nI k) = some (wr τ d2 (fun j => if x3 + k ≤ j ∧ j < x3 + 1785 then τ d0 (x1 + (j - x3)) else τ d2 j)) := by
  intro e
  induction e with
  | zero =>
    intro k n τ hk hn
    obtain ⟨m, rfl⟩ : ∃ m, n = m + 1 := ⟨n - 1, by omega⟩
    rw [l_X5_lays_3.eq_2, if_pos (show (1785 : Int32) ≤ nI k from nI_le (a := 1785) (b := k) (by omega) (by omega))]
    congr 1
    funext a
    unfold wr
    split
    · rename_i h
      funext j
      rw [if_neg (by omega), h]
    · rfl
  | succ e ih =>
    intro k n τ hk hn
    obtain ⟨m, rfl⟩ : ∃ m, n = m + 1 := ⟨n - 1, by omega⟩
    rw [l_X5_lays_3.eq_2, if_neg (show ¬ (1785 : Int32) ≤ nI k from nI_ge (a := k) (b := 1785) (by omega) (by omega)), nI_add, nI_add, gd_ok rfl (show x1 + k < n0 by omega) (by omega), gd_ok rfl (show x3 + k < n2 by omega) (by omega), cl_nI (by omega), cl_nI (by omega), st_eq, nI_1, ih (k + 1) m _ (by omega) (by omega)]
    congr 1
    funext a
    unfold wr
    split
    · funext j
      rw [u2_cell hd, u2_app, if_pos rfl]
      by_cases q : j = x3 + k
      · rw [if_neg (by omega), if_pos q, if_pos (by omega), q, show x3 + k - x3 = k by omega]
      · rw [if_neg q]
        by_cases q2 : x3 + (k + 1) ≤ j ∧ j < x3 + 1785
        · rw [if_pos q2, if_pos (by omega)]
        · rw [if_neg q2, if_neg (by omega)]
    · rename_i h
      rw [u2_cell h]
theorem m_lays {d0 n0 d2 n2 x1 x3 : Nat} {p1 p3 : Int32} {τ : Sg} (hd : d0 ≠ d2) (e1 : p1 = nI x1) (e3 : p3 = nI x3) (h1 : x1 + 1785 ≤ n0) (h3 : x3 + 1785 ≤ n2) (hb0 : n0 ≤ 100000) (hb2 : n2 ≤ 100000) : f_X5_lays d0 n0 d2 n2 τ p1 p3 = some (wr τ d2 (s_lay (τ d0) (τ d2) x1 x3)) := by
  subst e1
  subst e3
  exact m_laysA hd h1 h3 hb0 hb2 1785 0 10000 τ (by omega) (by omega)
theorem m_savesA {d1 : Nat} (h93 : d1 ≠ 193) (h95 : d1 ≠ 195) : ∀ (e k n : Nat) (τ : Sg), k + e = 5355 → e < n → τ 193 2 = nI 4 → ∃ τ', l_X5_saves_10 d1 1785 n τ (nI k) = some τ' ∧ (∀ i, τ' 193 i = if i = 2 then nI 4 else τ 193 i) ∧ (∀ a, a ≠ 193 → a ≠ 195 → τ' a = τ a) ∧ (∀ i, k ≤ i → i < 5355 → τ' 195 i = τ 195 (i + 1785)) ∧ (∀ i, i < k → τ' 195 i = τ 195 i) ∧ ∀ i, i < 1785 → τ' 195 (5355 + i) = τ d1 i := by
  intro e
  induction e with
  | zero =>
    intro k n τ hk hn h2
    obtain ⟨m, rfl⟩ : ∃ m, n = m + 1 := ⟨n - 1, by omega⟩
    obtain ⟨T, hT⟩ : ∃ T, T = u2 τ 193 2 (nI 3) := ⟨_, rfl⟩
    have T2 : T 193 2 = nI 3 := by rw [hT, u2_rs]
    have To : ∀ a, a ≠ 193 → T a = τ a := fun a ha => by rw [hT, u2_cell ha]
    have Ti : ∀ i, i ≠ 2 → T 193 i = τ 193 i := fun i hi => by rw [hT, u2_ri hi]
    rw [l_X5_saves_10.eq_2, if_pos (show (5355 : Int32) ≤ nI k from nI_le (a := 5355) (b := k) (by omega) (by omega)), h2, show (1 : Int32) = nI 1 from rfl, pk_sub (by omega), st_eq, show 4 - 1 = 3 from rfl, ← hT, T2, show (1785 : Int32) = nI 1785 from rfl, pk_mul, m_lays (n0 := 1785) (n2 := 7140) (p1 := 0) (p3 := nI (1785 * 3)) (x1 := 0) (x3 := 5355) h95 rfl rfl (by omega) (by omega) (by omega) (by omega), b1_some, wr_n (show 193 ≠ 195 by omega), T2, nI_add, st_eq]
    refine ⟨_, rfl, fun i => ?_, fun a h1 h3 => ?_, fun i h1 h3 => by omega, fun i hi => ?_, fun i hi => ?_⟩
    · by_cases q : i = 2
      · subst q; rw [u2_rs, if_pos rfl]
      · rw [u2_ri q, wr_n (by omega), Ti i q, if_neg q]
    · rw [u2_cell h1, wr_n h3, To a h1]
    · rw [u2_cell (by omega), wr_s, s_lay_out (by omega), To _ (by omega)]
    · rw [u2_cell (by omega), wr_s, s_lay_in hi, Nat.zero_add, To _ h93]
  | succ e ih =>
    intro k n τ hk hn h2
    obtain ⟨m, rfl⟩ : ∃ m, n = m + 1 := ⟨n - 1, by omega⟩
    rw [l_X5_saves_10.eq_2, if_neg (show ¬ (5355 : Int32) ≤ nI k from nI_ge (a := k) (b := 5355) (by omega) (by omega)), show (1785 : Int32) = nI 1785 from rfl, nI_add, gd_ok rfl (show k + 1785 < 7140 by omega) (by omega), gd_ok rfl (show k < 7140 by omega) (by omega), cl_nI (by omega), cl_nI (by omega), st_eq, nI_1]
    obtain ⟨τ', x, y1, y2, y3, y4, y5⟩ := ih (k + 1) m (u2 τ 195 k (τ 195 (k + 1785))) (by omega) (by omega) (by rw [u2_rc (by omega)]; exact h2)
    refine ⟨τ', x, fun i => ?_, fun a h1 h3 => ?_, fun i h1 h3 => ?_, fun i hi => ?_, fun i hi => ?_⟩
    · rw [y1, u2_cell (by omega)]
    · rw [y2 a h1 h3, u2_cell h3]
    · by_cases q : i = k
      · subst q
        rw [y4 i (by omega), u2_rs]
      · rw [y3 i (by omega) h3, u2_ri (by omega)]
    · rw [y4 i (by omega), u2_ri (by omega)]
    · rw [y5 i hi, u2_cell h95]
def kp (m : Nat) : Nat := if m < 4 then m + 1 else 4
def kR (m : Nat) (R : Nat → Nat → Int32) (g : Nat → Int32) : Nat → Nat → Int32 := fun j => if j + 1 = kp m then g else if m < 4 then R j else R (j + 1)
/-- the reference's rows of the recorded states and of the snapshot -/
def RM (τ : Sg) (m : Nat) (R : Nat → Nat → Int32) (hs : Int32) (sn : Nat → Int32) : Prop := (∀ j, j < m → ∀ i, i < 1785 → τ 195 (1785 * j + i) = R j i) ∧ τ 193 2 = nI m ∧ τ 193 4 = hs ∧ (hs = 1 → ∀ i, i < 1785 → τ 196 i = sn i)
theorem M_keep {τ : Sg} {m d1 : Nat} {R : Nat → Nat → Int32} {hs : Int32} {sn : Nat → Int32} (h : RM τ m R hs sn) (hm : m ≤ 4) (h93 : d1 ≠ 193) (h95 : d1 ≠ 195) : ∃ τ', f_X5_saves d1 1785 τ = some τ' ∧ RM τ' (kp m) (kR m R (τ d1)) hs sn ∧ (∀ a, a ≠ 193 → a ≠ 195 → τ' a = τ a) ∧ ∀ i, i ≠ 2 → τ' 193 i = τ 193 i := by
  obtain ⟨r1, r2, r3, r4⟩ := h
  unfold f_X5_saves kp kR
  by_cases h4 : m < 4
  · rw [r2, if_neg (show ¬ nI m = 4 by rw [show (4 : Int32) = nI 4 from rfl, nI_eq (by omega) (by omega)]; omega), show (1785 : Int32) = nI 1785 from rfl, pk_mul, m_lays (n0 := 1785) (n2 := 7140) (p1 := 0) (p3 := nI (1785 * m)) (x1 := 0) (x3 := 1785 * m) h95 rfl rfl (by omega) (by omega) (by omega) (by omega), b1_some, wr_n (show 193 ≠ 195 by omega), r2, nI_1, st_eq, if_pos h4]
    refine ⟨_, rfl, ⟨fun j hj i hi => ?_, u2_rs, ?_, fun e i hi => ?_⟩, fun a h1 h3 => ?_, fun i hi => ?_⟩
    · rw [u2_cell (by omega), wr_s]
      dsimp only
      by_cases q : j = m
      · subst q
        rw [s_lay_in hi, Nat.zero_add, if_pos (by unfold kp; rw [if_pos h4])]
      · rw [s_lay_out (by omega), if_neg (by unfold kp; rw [if_pos h4]; omega), if_pos h4]
        exact r1 j (by omega) i hi
    · rw [u2_ri (by omega), wr_n (by omega)]; exact r3
    · rw [u2_cell (by omega), wr_n (by omega)]; exact r4 e i hi
    · rw [u2_cell h1, wr_n h3]
    · rw [u2_ri hi, wr_n (by omega)]
  · have : m = 4 := by omega
    subst this
    obtain ⟨τ', x, y1, y2, y3, y4, y5⟩ := m_savesA h93 h95 5355 0 10000 τ (by omega) (by omega) r2
    have x' : l_X5_saves_10 d1 1785 10000 τ 0 = some τ' := x
    rw [r2, if_pos (show nI 4 = 4 from rfl), x', if_neg h4]
    refine ⟨_, rfl, ⟨fun j hj i hi => ?_, by rw [y1, if_pos rfl], ?_, fun e i hi => ?_⟩, y2, fun i hi => by rw [y1, if_neg hi]⟩
    · dsimp only
      by_cases q : j = 3
      · subst q
        rw [if_pos (by unfold kp; rw [if_neg h4]), show 1785 * 3 + i = 5355 + i by omega, y5 i hi]
      · rw [if_neg (by unfold kp; rw [if_neg h4]; omega), if_neg h4, y3 _ (by omega) (by omega), show 1785 * j + i + 1785 = 1785 * (j + 1) + i by omega]
        exact r1 (j + 1) (by omega) i hi
    · rw [y1, if_neg (by omega)]; exact r3
    · rw [y2 196 (by omega) (by omega)]; exact r4 e i hi
