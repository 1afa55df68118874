theorem fl_st_ext {c s : Nat} {σ σ' : Sg} (h : ∀ a, c ≤ a → a < c + 27 → a ≠ c + 13 + 2 * s → a ≠ c + 13 + 2 * s + 1 → σ' a = σ a) (hs : s < 7) (i : Nat) (hi : i < 1785) (ho : i < 24 + 23 * s ∨ 24 + 23 * s + 23 ≤ i) : fl c σ' i = fl c σ i := by
  simp only [fl, sw]
  grind
/-- one row replaced -/
def wr (τ : Sg) (k : Nat) (g : Nat → Int32) : Sg := fun a => if a = k then g else τ a
theorem wr_s {τ : Sg} {k : Nat} {g : Nat → Int32} : wr τ k g k = g := if_pos rfl
theorem wr_n {τ : Sg} {k a : Nat} {g : Nat → Int32} (h : a ≠ k) : wr τ k g a = τ a := if_neg h
theorem c_shelf0 {q : Nat} : ∀ (d i n : Nat) (τ : Sg), i + d = 16 → d < n → l_X3_setUp_55 q n τ (nI i) = some (wr τ (q + 1) (fun j => if i ≤ j ∧ j < 16 then 0 else τ (q + 1) j)) := by
  intro d
  induction d with
  | zero =>
    intro i n τ hi hn
    obtain ⟨m, rfl⟩ : ∃ m, n = m + 1 := ⟨n - 1, by omega⟩
    rw [l_X3_setUp_55.eq_2, if_pos (show (16 : Int32) ≤ nI i from nI_le (a := 16) (b := i) (by omega) (by omega))]
    congr 1
    funext a
    unfold wr
    split
    · rename_i h
      funext j
      rw [if_neg (by omega), h]
    · rfl
  | succ d ih =>
    intro i n τ hi hn
    obtain ⟨m, rfl⟩ : ∃ m, n = m + 1 := ⟨n - 1, by omega⟩
    rw [l_X3_setUp_55.eq_2, if_neg (show ¬ (16 : Int32) ≤ nI i from nI_ge (a := i) (b := 16) (by omega) (by omega)), gd_ok rfl (show i < 16 by omega) (by omega), cl_nI (by omega), st_eq, nI_1, ih (i + 1) m _ (by omega) (by omega)]
    congr 1
    funext a
    unfold wr
    split
    · funext j
      rw [u2_app, if_pos rfl]
      grind
    · rename_i h
      rw [u2_cell h]
theorem c_evr {τ : Sg} {k : Int32} : f_X4_winningPlay τ k = some (evr k) := by
  unfold f_X4_winningPlay evr
  repeat' split
  all_goals rfl
theorem c_grt {τ : Sg} {k : Int32} : f_X4_greatestLevelOf τ k = some (grt k) := by
  unfold f_X4_greatestLevelOf grt
  repeat' split
  all_goals rfl
/-- the class's stall object after setUp: what its slots hold -/
theorem c_setUp {q : Nat} {σ : Sg} {p kd pr rf : Int32} (hrf : vp_in rf 2) : ∃ σ', f_X3_setUp q σ p kd pr rf = some σ' ∧ (∀ a, a ≠ q → a ≠ q + 1 → σ' a = σ a) ∧ σ' q 0 = p ∧ σ' q 1 = kd ∧ σ' q 2 = pr ∧ σ' q 3 = rf ∧ σ' q 4 = 1 ∧ σ' q 5 = 0 ∧ σ' q 6 = 0 ∧ σ' q 7 = evr kd ∧ σ' q 8 = grt kd ∧ ∀ i, i < 16 → σ' (q + 1) i = 0 := by
  unfold f_X3_setUp
  simp only [st_eq, gd_in hrf, c_evr, c_grt, b1_some]
  obtain ⟨T, hT⟩ : ∃ T, T = u2 (u2 (u2 (u2 (u2 (u2 (u2 (u2 (u2 σ q 0 p) q 1 kd) q 2 pr) q 3 rf) q 4 1) q 5 0) q 6 0) q 7 (evr kd)) q 8 (grt kd) := ⟨_, rfl⟩
  rw [← hT]
  have := c_shelf0 (q := q) 16 0 10000 T (by omega) (by omega)
  refine ⟨_, this, ?_⟩
  subst hT
  refine ⟨fun a h1 h2 => ?_, ?_, ?_, ?_, ?_, ?_, ?_, ?_, ?_, ?_, fun i hi => ?_⟩
  · rw [wr_n h2, u2_cell h1, u2_cell h1, u2_cell h1, u2_cell h1, u2_cell h1, u2_cell h1, u2_cell h1, u2_cell h1, u2_cell h1]
  all_goals first
    | (rw [wr_n (by omega)]; simp [u2_app])
    | skip
  rw [wr_s, if_pos (by omega)]
