theorem fl_st_ext {c s : Nat} {σ σ' : Sg} (h : ∀ a, c ≤ a → a < c + 27 → a ≠ c + 13 + 2 * s → a ≠ c + 13 + 2 * s + 1 → σ' a = σ a) (hs : s < 7) (i : Nat) (hi : i < 1785) (ho : i < 24 + 23 * s ∨ 24 + 23 * s + 23 ≤ i) : fl c σ' i = fl c σ i := by
  simp only [fl, sw]
  grind
/-- one row replaced -/
def wr (τ : Sg) (k : Nat) (g : Nat → Int32) : Sg := fun a => if a = k then g else τ a
theorem wr_s {τ : Sg} {k : Nat} {g : Nat → Int32} : wr τ k g k = g := if_pos rfl
theorem wr_n {τ : Sg} {k a : Nat} {g : Nat → Int32} (h : a ≠ k) : wr τ k g a = τ a := if_neg h
theorem c_shelf0 {q : Nat} : ∀ (d i n : Nat) (τ : Sg), i + d = 16 → d < n → l_X3_setUp_55 q n τ (nI i) = some (wr τ (q + 1) (fun j => if i ≤ j ∧ j < 16 then 0 else τ (q + 1) j)) := by
  intro d
  induction d with
  | zero =>
    intro i n τ hi hn
    obtain ⟨m, rfl⟩ : ∃ m, n = m + 1 := ⟨n - 1, by omega⟩
    rw [l_X3_setUp_55.eq_2, if_pos (show (16 : Int32) ≤ nI i from nI_le (a := 16) (b := i) (by omega) (by omega))]
    congr 1
    funext a
    unfold wr
    split
    · rename_i h
      funext j
      rw [if_neg (by omega), h]
    · rfl
  | succ d ih =>
    intro i n τ hi hn
    obtain ⟨m, rfl⟩ : ∃ m, n = m + 1 := ⟨n - 1, by omega⟩
    rw [l_X3_setUp_55.eq_2, if_neg (show ¬ (16 : Int32) ≤ nI i from nI_ge (a := i) (b := 16) (by omega) (by omega)), gd_ok rfl (show i < 16 by omega) (by omega), cl_nI (by omega), st_eq, nI_1, ih (i + 1) m _ (by omega) (by omega)]
    congr 1
    funext a
    unfold wr
    split
    · funext j
      rw [u2_app, if_pos rfl]
      grind
    · rename_i h
      rw [u2_cell h]
theorem c_evr {τ : Sg} {k : Int32} : f_X4_winningPlay τ k = some (evr k) := by
  unfold f_X4_winningPlay evr
  repeat' split
  all_goals rfl
theorem c_grt {τ : Sg} {k : Int32} : f_X4_greatestLevelOf τ k = some (grt k) := by
  unfold f_X4_greatestLevelOf grt
  repeat' split
  all_goals rfl
theorem c_shelfT {q : Nat} {τ : Sg} : l_X3_setUp_55 q 10000 τ 0 = some (wr τ (q + 1) (fun j => if 0 ≤ j ∧ j < 16 then 0 else τ (q + 1) j)) := c_shelf0 16 0 10000 τ (by omega) (by omega)
/-- the class's stall object before its shelf is emptied -/
def s_obj (σ : Sg) (q : Nat) (p kd pr rf : Int32) : Sg := u2 (u2 (u2 (u2 (u2 (u2 (u2 (u2 (u2 σ q 0 p) q 1 kd) q 2 pr) q 3 rf) q 4 1) q 5 0) q 6 0) q 7 (evr kd)) q 8 (grt kd)
theorem c_setUpA {q : Nat} {σ : Sg} {p kd pr rf : Int32} (hrf : vp_in rf 2) : f_X3_setUp q σ p kd pr rf = l_X3_setUp_55 q 10000 (s_obj σ q p kd pr rf) 0 := by
  unfold f_X3_setUp s_obj
  rw [st_eq, st_eq, st_eq, gd_in hrf, st_eq, st_eq, st_eq, st_eq, c_evr, b1_some, st_eq, c_grt, b1_some, st_eq]
theorem s_obj_v {q i : Nat} {σ : Sg} {p kd pr rf : Int32} : s_obj σ q p kd pr rf q i = if i = 8 then grt kd else if i = 7 then evr kd else if i = 6 then 0 else if i = 5 then 0 else if i = 4 then 1 else if i = 3 then rf else if i = 2 then pr else if i = 1 then kd else if i = 0 then p else σ q i := by
  unfold s_obj
  simp only [u2_app, if_true]
theorem s_obj_o {q a : Nat} {σ : Sg} {p kd pr rf : Int32} (h : a ≠ q) : s_obj σ q p kd pr rf a = σ a := by
  unfold s_obj
  rw [u2_cell h, u2_cell h, u2_cell h, u2_cell h, u2_cell h, u2_cell h, u2_cell h, u2_cell h, u2_cell h]
/-- the class's stall object after setUp -/
theorem c_setUp {q : Nat} {σ : Sg} {p kd pr rf : Int32} (hrf : vp_in rf 2) : f_X3_setUp q σ p kd pr rf = some (wr (s_obj σ q p kd pr rf) (q + 1) (fun j => if 0 ≤ j ∧ j < 16 then 0 else s_obj σ q p kd pr rf (q + 1) j)) := (c_setUpA hrf).trans c_shelfT
