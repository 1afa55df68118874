/-! the readers of children -/
/-- why a child would not play -/
def s_rsn (f : Nat → Int32) (k : Nat) : Int32 := if f (185 + 8 * k + 4) = -1 then 1 else match s_openOn f (f (185 + 8 * k + 4)) with
  | none => 2
  | some s => s_why f k s
/-! counts -/
def s_onPA (f : Nat → Int32) (p : Int32) : Nat → Nat → Int32 → Int32
  | 0, _, a => a
  | d + 1, k, a => if f (185 + 8 * k + 4) = p then s_onPA f p d (k + 1) (a + 1) else s_onPA f p d (k + 1) a
theorem s_onPA_skip {f : Nat → Int32} {p a : Int32} (hp : ¬ p = -1) : ∀ (e d k : Nat), (∀ j, k ≤ j → j < k + e → f (185 + 8 * j + 4) = -1) → s_onPA f p (e + d) k a = s_onPA f p d (k + e) a := by
  intro e
  induction e with
  | zero => intro d k _; rw [Nat.zero_add]; rfl
  | succ e ih =>
    intro d k h
    rw [show e + 1 + d = e + d + 1 by omega, s_onPA, if_neg (by rw [h k (by omega) (by omega)]; exact fun q => hp q.symm), ih d (k + 1) (fun j h1 h2 => h j (by omega) (by omega)), show k + 1 + e = k + (e + 1) by omega]
theorem c_onP {c : Nat} {σ : Sg} {f : Nat → Int32} {p : Int32} (hR : FR c σ f) (h9 : vp_in (f 9) 201) : ∀ (d k n : Nat) (a : Int32), k + d = nC f → d < n → l_X0_countOn_7 (c + 4) n σ p a (nI k) = some (s_onPA f p d k a) := by
  have h7 : nC f < 201 := tc_vp h9
  intro d
  induction d with
  | zero =>
    intro k n a hk hn
    obtain ⟨m, rfl⟩ : ∃ m, n = m + 1 := ⟨n - 1, by omega⟩
    rw [l_X0_countOn_7.eq_2, hR.r9, nc_eq h9 (by omega), if_pos (nI_le (by omega) (by omega))]
    rfl
  | succ d ih =>
    intro k n a hk hn
    obtain ⟨m, rfl⟩ : ∃ m, n = m + 1 := ⟨n - 1, by omega⟩
    rw [l_X0_countOn_7.eq_2, hR.r9, nc_eq h9 (by omega), if_neg (nI_ge (by omega) (by omega)), gd_ok rfl (show k < 200 by omega) (by omega), cl_nI (by omega), hR.c4 (by omega), s_onPA, nI_1, ih _ _ _ (by omega) (by omega), ih _ _ _ (by omega) (by omega)]
    split <;> rfl
