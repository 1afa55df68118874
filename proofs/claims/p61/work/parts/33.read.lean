/-! the reference's state: row 194 replaced -/
def w4 (τ : Sg) (g : Nat → Int32) : Sg := fun a => if a = 194 then g else τ a
theorem w4_194 {τ : Sg} {g : Nat → Int32} : w4 τ g 194 = g := if_pos rfl
theorem w4_o {τ : Sg} {g : Nat → Int32} {a : Nat} (h : a ≠ 194) : w4 τ g a = τ a := if_neg h
theorem w4_w4 {τ : Sg} {g h : Nat → Int32} : w4 (w4 τ g) h = w4 τ h := by
  funext a
  unfold w4
  split <;> rfl
theorem w4_self {τ : Sg} : w4 τ (τ 194) = τ := by
  funext a
  unfold w4
  split
  · rename_i h; rw [h]
  · rfl
theorem u2_w4 {τ : Sg} {i : Nat} {v : Int32} : u2 τ 194 i v = w4 τ (upd (τ 194) i v) := by
  funext a
  unfold u2 w4
  by_cases h : a = 194
  · subst h; simp
  · simp [h]
theorem ix_7 (l j : Nat) : ((7 : Int32) + 4 * nI l) + nI j = nI (7 + 4 * l + j) := by
  rw [show (7 : Int32) = nI 7 from rfl, show (4 : Int32) = nI 4 from rfl, pk_mul, nI_add, nI_add]
theorem ix_4 (l j : Nat) : nI l * 4 + nI j = nI (4 * l + j) := by
  rw [show (4 : Int32) = nI 4 from rfl, pk_mul, nI_add, Nat.mul_comm]
/-! the open stall on a pitch -/
def s_openOn (f : Nat → Int32) (p : Int32) : Option Nat := match s_on f p with
  | none => none
  | some s => if f (24 + 23 * s + 6) = 1 then some s else none
theorem s_openOn_lt {f : Nat → Int32} {p : Int32} {s : Nat} (h : s_openOn f p = some s) : s < nS f ∧ f (24 + 23 * s + 0) = p ∧ f (24 + 23 * s + 6) = 1 := by
  unfold s_openOn at h
  cases h1 : s_on f p with
  | none => rw [h1] at h; cases h
  | some t =>
    rw [h1] at h
    dsimp only at h
    split at h
    · rename_i h2
      cases h
      have := s_on_lt h1
      exact ⟨this.1, this.2, h2⟩
    · cases h
theorem c_openOn {c : Nat} {σ : Sg} {f : Nat → Int32} {p : Int32} (hR : FR c σ f) (h8 : vp_in (f 8) 8) (ho : ∀ s, s < nS f → vp_in (f (24 + 23 * s + 6)) 2) : f_X1_openStallOn c σ p = some (match s_openOn f p with | none => 0 | some s => c + 13 + 2 * s) := by
  unfold f_X1_openStallOn s_openOn
  rw [c_on hR h8, b1_some]
  cases h1 : s_on f p with
  | none => rw [oI_none, if_pos rfl]
  | some s =>
    have h2 := (s_on_lt h1).1
    have h7 : nS f < 8 := tc_vp h8
    dsimp only
    rw [oI_some, if_neg (nI_neg1 (by omega)), gd_ok rfl (show s < 7 by omega) (by omega), sk_nI (by omega), hR.s6 (by omega) (by omega)]
    obtain ⟨j, hj, e⟩ := vp_ex (ho s h2) (by omega)
    rw [e]
    have : j = 0 ∨ j = 1 := by omega
    rcases this with rfl | rfl
    · rw [if_pos (show nI 0 = 0 from rfl), if_neg (show ¬ nI 0 = 1 by decide)]
    · rw [if_neg (show ¬ nI 1 = 0 by decide), if_pos (show nI 1 = 1 from rfl)]
/-! a shelf's sum -/
def s_shA (f : Nat → Int32) (s : Nat) : Nat → Nat → Int32 → Int32
  | 0, _, a => a
  | d + 1, i, a => s_shA f s d (i + 1) (a + f (24 + 23 * s + 7 + i))
def s_onShelf (f : Nat → Int32) (s : Nat) : Int32 := s_shA f s 16 0 0
theorem c_onShA {c s : Nat} {σ : Sg} {f : Nat → Int32} (hR : FR c σ f) (hs : s < nS f) (h7 : nS f ≤ 7) : ∀ (d i n : Nat) (a : Int32), i + d = 16 → d < n → l_X3_prizesOnShelf_4 (c + 13 + 2 * s) n σ a (nI i) = some (s_shA f s d i a) := by
  intro d
  induction d with
  | zero =>
    intro i n a hk hn
    obtain ⟨m, rfl⟩ : ∃ m, n = m + 1 := ⟨n - 1, by omega⟩
    rw [l_X3_prizesOnShelf_4.eq_2, if_pos (show (16 : Int32) ≤ nI i from nI_le (a := 16) (b := i) (by omega) (by omega))]
    rfl
  | succ d ih =>
    intro i n a hk hn
    obtain ⟨m, rfl⟩ : ∃ m, n = m + 1 := ⟨n - 1, by omega⟩
    rw [l_X3_prizesOnShelf_4.eq_2, if_neg (show ¬ (16 : Int32) ≤ nI i from nI_ge (a := i) (b := 16) (by omega) (by omega)), gd_ok rfl (show i < 16 by omega) (by omega), cl_nI (by omega), hR.sh hs h7 (by omega), nI_1, ih _ _ _ (by omega) (by omega), s_shA]
theorem c_onShelf {c s : Nat} {σ : Sg} {f : Nat → Int32} (hR : FR c σ f) (hs : s < nS f) (h7 : nS f ≤ 7) : f_X3_prizesOnShelf (c + 13 + 2 * s) σ = some (s_onShelf f s) := c_onShA hR hs h7 _ 0 10000 0 (by omega) (by omega)
/-! the best level on offer -/
def grn (k : Int32) : Nat := if k = 0 then 3 else if k = 1 then 2 else if k = 2 then 4 else if k = 3 then 1 else 0
theorem grn_lt {k : Int32} : grn k < 5 := by
  unfold grn
  repeat' split
  all_goals omega
theorem grt_eq {k : Int32} : grt k = nI (grn k) + (-1) := by
  unfold grn grt
  repeat' split
  all_goals decide
def s_lvl (f : Nat → Int32) (s : Nat) : Nat → Option Nat
  | 0 => none
  | l + 1 => if f (24 + 23 * s + (7 + 4 * l + 0)) + f (24 + 23 * s + (7 + 4 * l + 1)) + f (24 + 23 * s + (7 + 4 * l + 2)) + f (24 + 23 * s + (7 + 4 * l + 3)) = 0 then s_lvl f s l else some l
def s_best (f : Nat → Int32) (s : Nat) : Option Nat := s_lvl f s (grn (f (24 + 23 * s + 1)))
theorem nI_nlt0 {l : Nat} (h : l < 100000) : ¬ nI l < 0 := by
  rw [tI_lt, nI_toInt (by omega)]
  exact Int.not_lt.mpr (Int.natCast_nonneg _)
