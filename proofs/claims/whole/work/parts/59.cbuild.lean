theorem fl_st_ext {c s : Nat} {σ σ' : Sg} (h : ∀ a, c ≤ a → a < c + 27 → a ≠ c + 13 + 2 * s → a ≠ c + 13 + 2 * s + 1 → σ' a = σ a) (hs : s < 7) (i : Nat) (hi : i < 1785) (ho : i < 24 + 23 * s ∨ 24 + 23 * s + 23 ≤ i) : fl c σ' i = fl c σ i := by
  simp only [fl, sw]
  grind
/-- one row replaced -/
def wr (τ : Sg) (k : Nat) (g : Nat → Int32) : Sg := fun a => if a = k then g else τ a
theorem wr_s {τ : Sg} {k : Nat} {g : Nat → Int32} : wr τ k g k = g := if_pos rfl
theorem wr_n {τ : Sg} {k a : Nat} {g : Nat → Int32} (h : a ≠ k) : wr τ k g a = τ a := if_neg h
theorem c_shelf0 {q : Nat} : ∀ (d i n : Nat) (τ : Sg), i + d = 16 → d < n → l_X3_setUp_55 q n τ (nI i) = some (wr τ (q + 1) (fun j => if i ≤ j ∧ j < 16 then 0 else τ (q + 1) j)) := by
  intro d
  induction d with
  | zero =>
    intro i n τ hi hn
    obtain ⟨m, rfl⟩ : ∃ m, n = m + 1 := ⟨n - 1, by omega⟩
    rw [l_X3_setUp_55.eq_2, if_pos (show (16 : Int32) ≤ nI i from nI_le (a := 16) (b := i) (by omega) (by omega))]
    congr 1
    funext a
    unfold wr
    split
    · rename_i h
      funext j
      rw [if_neg (by omega), h]
    · rfl
  | succ d ih =>
    intro i n τ hi hn
    obtain ⟨m, rfl⟩ : ∃ m, n = m + 1 := ⟨n - 1, by omega⟩
    rw [l_X3_setUp_55.eq_2, if_neg (show ¬ (16 : Int32) ≤ nI i from nI_ge (a := i) (b := 16) (by omega) (by omega)), gd_ok rfl (show i < 16 by omega) (by omega), cl_nI (by omega), st_eq, nI_1, ih (i + 1) m _ (by omega) (by omega)]
    congr 1
    funext a
    unfold wr
    split
    · funext j
      rw [u2_app, if_pos rfl]
      grind
    · rename_i h
      rw [u2_cell h]
