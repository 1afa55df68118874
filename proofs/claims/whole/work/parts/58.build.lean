/-! a stall built -/
def s_stall (f : Nat → Int32) (s : Nat) (p kd pr rf : Int32) : Nat → Int32 := fun i =>
  if i = 24 + 23 * s + 0 then p else if i = 24 + 23 * s + 1 then kd else if i = 24 + 23 * s + 2 then pr else if i = 24 + 23 * s + 3 then rf else if i = 24 + 23 * s + 6 then 1
  else if 24 + 23 * s ≤ i ∧ i < 24 + 23 * s + 23 then 0 else f i
def s_builds (f : Nat → Int32) (p kd pr rf : Int32) : Nat → Int32 := upd (s_stall f (nS f) p kd pr rf) 8 (f 8 + 1)
def s_zS (s : Nat) : Nat → Nat → (Nat → Int32) → Nat → Int32
  | 0, _, f => f
  | d + 1, i, f => s_zS s d (i + 1) (upd f (24 + 23 * s + i) 0)
theorem s_zS_v {s : Nat} : ∀ (d i : Nat) (f : Nat → Int32) (j : Nat), s_zS s d i f j = if 24 + 23 * s + i ≤ j ∧ j < 24 + 23 * s + i + d then 0 else f j := by
  intro d
  induction d with
  | zero =>
    intro i f j
    rw [s_zS, if_neg (by omega)]
  | succ d ih =>
    intro i f j
    rw [s_zS, ih, upd_app]
    by_cases h1 : 24 + 23 * s + (i + 1) ≤ j ∧ j < 24 + 23 * s + (i + 1) + d
    · rw [if_pos h1, if_pos (by omega)]
    · rw [if_neg h1]
      by_cases h2 : j = 24 + 23 * s + i
      · rw [if_pos h2, if_pos (by omega)]
      · rw [if_neg h2, if_neg (by omega)]
def rfI (r : Int32) : Int32 := if r = 0 then 0 else 1
theorem m_buildsA {p kd pr rf : Int32} {s : Nat} (hs : s < 7) : ∀ (d i n : Nat) (τ : Sg), i + d = 23 → d < n → l_X5_builds_12 n τ p kd pr rf (nI s) (nI i) = some (nI s, w4 τ (upd (upd (upd (upd (upd (upd (s_zS s d i (τ 194)) (24 + 23 * s + 0) p) (24 + 23 * s + 1) kd) (24 + 23 * s + 2) pr) (24 + 23 * s + 3) (rfI rf)) (24 + 23 * s + 6) 1) 8 (τ 194 8 + 1))) := by
  intro d
  induction d with
  | zero =>
    intro i n τ hi hn
    obtain ⟨m, rfl⟩ : ∃ m, n = m + 1 := ⟨n - 1, by omega⟩
    rw [l_X5_builds_12.eq_2, if_pos (show (23 : Int32) ≤ nI i from nI_le (a := 23) (b := i) (by omega) (by omega))]
    simp only [m_st0 hs, m_st1 hs, m_st2 hs, m_st3 hs, m_st6 hs, b1_some, w4_194, w4_w4, lc_8, st_eq, u2_w4]
    unfold rfI
    split
    · rw [s_zS, upd_n (show 8 ≠ 24 + 23 * s + 6 by omega), upd_n (show 8 ≠ 24 + 23 * s + 3 by omega), upd_n (show 8 ≠ 24 + 23 * s + 2 by omega), upd_n (show 8 ≠ 24 + 23 * s + 1 by omega), upd_n (show 8 ≠ 24 + 23 * s + 0 by omega)]
    · rw [s_zS, upd_n (show 8 ≠ 24 + 23 * s + 6 by omega), upd_n (show 8 ≠ 24 + 23 * s + 3 by omega), upd_n (show 8 ≠ 24 + 23 * s + 2 by omega), upd_n (show 8 ≠ 24 + 23 * s + 1 by omega), upd_n (show 8 ≠ 24 + 23 * s + 0 by omega)]
  | succ d ih =>
    intro i n τ hi hn
    obtain ⟨m, rfl⟩ : ∃ m, n = m + 1 := ⟨n - 1, by omega⟩
    rw [l_X5_builds_12.eq_2, if_neg (show ¬ (23 : Int32) ≤ nI i from nI_ge (a := i) (b := 23) (by omega) (by omega)), m_set i 0 (by omega), b1_some, nI_1, ih (i + 1) m _ (by omega) (by omega), w4_194, w4_w4, s_zS, upd_n (show 8 ≠ 24 + 23 * s + i by omega)]
theorem m_builds {τ : Sg} {p kd pr rf : Int32} (h8 : vp_in (τ 194 8) 7) : f_X5_builds τ p kd pr rf = some (nI (nS (τ 194)), w4 τ (s_builds (τ 194) p kd pr (rfI rf))) := by
  have hs : nS (τ 194) < 7 := tc_vp h8
  unfold f_X5_builds
  rw [lc_8, ns_eq h8 (by omega)]
  refine (m_buildsA (s := nS (τ 194)) hs 23 0 10000 τ (by omega) (by omega)).trans ?_
  have e : upd (upd (upd (upd (upd (upd (s_zS (nS (τ 194)) 23 0 (τ 194)) (24 + 23 * nS (τ 194) + 0) p) (24 + 23 * nS (τ 194) + 1) kd) (24 + 23 * nS (τ 194) + 2) pr) (24 + 23 * nS (τ 194) + 3) (rfI rf)) (24 + 23 * nS (τ 194) + 6) 1) 8 (τ 194 8 + 1) = s_builds (τ 194) p kd pr (rfI rf) := by
    funext i
    unfold s_builds s_stall
    simp only [upd_app, s_zS_v]
    grind (splits := 40)
  rw [e]
