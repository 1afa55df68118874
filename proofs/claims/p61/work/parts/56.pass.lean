/-! n rounds -/
def s_pass : Nat → (Nat → Int32) → (Nat → Int32) → (Nat → Int32) × (Nat → Int32)
  | 0, f, b => (f, b)
  | n + 1, f, b => s_pass n (s_round f b).1 (s_round f b).2
/-- the rounds since the first -/
def tm (f : Nat → Int32) : Nat := 40 * (f 6).toNatClampNeg + (f 7).toNatClampNeg
theorem W_round_tm {f b : Nat → Int32} {N : Nat} (hw : WB f) (hm : Mo f) (hr : vp_in (f 7) 40) (hq : QB f N) (hN : N + 200 < 100000000) (hd : tm f < 400000) : tm (s_round f b).1 = tm f + 1 ∧ (f 6).toInt < 10000 := by
  have h6 := tc_vp hw.day
  have e6 := tc_eq hw.day (by omega)
  have e7 := tc_eq hr (by omega)
  have h7 := tc_vp hr
  have hd6 : (f 6).toNatClampNeg < 10000 := by unfold tm at hd; omega
  have hdi : (f 6).toInt < 10000 := by
    have := tc_int (tI_vp hw.day).1
    omega
  refine ⟨?_, hdi⟩
  obtain ⟨-, -, -, -, -, -, -, hx⟩ := W_round (b := b) hw hm hr hq hN hdi
  unfold tm
  rcases hx with ⟨a1, a2, a3⟩ | ⟨a1, a2, a3, -⟩
  · rw [a2, a3, e7, nI_1, cl_nI (by omega), cl_nI (by omega)]
    omega
  · rw [a2, a3, e6, nI_1, cl_nI (by omega), cl_nI (by omega), a1, lc_0]
    omega
theorem W_pass : ∀ (n : Nat) (f b : Nat → Int32) (N : Nat), WB f → Mo f → vp_in (f 7) 40 → QB f N → N + 200 * n < 100000000 → tm f + n ≤ 400000 → WB (s_pass n f b).1 ∧ Mo (s_pass n f b).1 ∧ vp_in ((s_pass n f b).1 7) 40 ∧ QB (s_pass n f b).1 (N + 200 * n) ∧ nS (s_pass n f b).1 = nS f ∧ nC f ≤ nC (s_pass n f b).1 ∧ (∃ j, j ≤ 200 * n ∧ (s_pass n f b).1 5 = f 5 + nI j) ∧ tm (s_pass n f b).1 = tm f + n := by
  intro n
  induction n with
  | zero =>
    intro f b N hw hm hr hq hN ht
    exact ⟨hw, hm, hr, hq, rfl, Nat.le_refl _, ⟨0, by omega, add_nI0⟩, rfl⟩
  | succ n ih =>
    intro f b N hw hm hr hq hN ht
    obtain ⟨t1, t2⟩ := W_round_tm (b := b) hw hm hr hq (by omega) (by omega)
    obtain ⟨w1, w2, w3, w4, w5, w6, ⟨i, hi, ei⟩, -⟩ := W_round (b := b) hw hm hr hq (by omega) t2
    obtain ⟨v1, v2, v3, v4, v5, v6, ⟨j, hj, ej⟩, v8⟩ := ih (s_round f b).1 (s_round f b).2 (N + 200) w1 w2 w3 w4 (by omega) (by omega)
    rw [s_pass]
    exact ⟨v1, v2, v3, v4.mono (by omega), v5.trans w5, Nat.le_trans w6 v6, ⟨i + j, by omega, by rw [ej, ei, Int32.add_assoc, nI_add]⟩, by omega⟩
theorem c_pass {c n0 : Nat} (hcc : c = 1 ∨ c = 28 ∨ c = 55) (h0 : n0 < 5000) : ∀ (d i k N : Nat) (σ0 : Sg) (f b : Nat → Int32) (σ : Sg), FR c σ f → (∀ a, a < c ∨ c + 27 ≤ a → σ a = σ0 a) → WB f → Mo f → vp_in (f 7) 40 → QB f N → N + 200 * d < 100000000 → tm f + d ≤ 400000 → i + d = n0 → d < k → ∃ σ', l_X1_letPass_2 c k σ (nI n0) (nI i) = some σ' ∧ FR c σ' (s_pass d f b).1 ∧ ∀ a, a < c ∨ c + 27 ≤ a → σ' a = σ0 a := by
  intro d
  induction d with
  | zero =>
    intro i k N σ0 f b σ h hs hw hm hr hq hN ht hi hk
    obtain ⟨m, rfl⟩ : ∃ m, k = m + 1 := ⟨k - 1, by omega⟩
    rw [l_X1_letPass_2.eq_2, if_pos (nI_le (by omega) (by omega))]
    exact ⟨σ, rfl, h, hs⟩
  | succ d ih =>
    intro i k N σ0 f b σ h hs hw hm hr hq hN ht hi hk
    obtain ⟨m, rfl⟩ : ∃ m, k = m + 1 := ⟨k - 1, by omega⟩
    obtain ⟨t1, t2⟩ := W_round_tm (b := b) hw hm hr hq (by omega) (by omega)
    obtain ⟨w1, w2, w3, w4, -⟩ := W_round (b := b) hw hm hr hq (by omega) t2
    obtain ⟨σ1, y1, g1, g2⟩ := c_round (n := m) (x1 := nI n0) (x2 := nI i) (b := b) hcc h hs hw hm hr hq (by omega) (nI_ge (by omega) (by omega))
    rw [y1, nI_1, s_pass]
    exact ih (i + 1) m (N + 200) σ0 _ _ σ1 g1 g2 w1 w2 w3 w4 (by omega) (by omega) (by omega) (by omega)
