/-! the reference's state: row 194 replaced -/
def w4 (τ : Sg) (g : Nat → Int32) : Sg := fun a => if a = 194 then g else τ a
theorem w4_194 {τ : Sg} {g : Nat → Int32} : w4 τ g 194 = g := if_pos rfl
theorem w4_o {τ : Sg} {g : Nat → Int32} {a : Nat} (h : a ≠ 194) : w4 τ g a = τ a := if_neg h
theorem w4_w4 {τ : Sg} {g h : Nat → Int32} : w4 (w4 τ g) h = w4 τ h := by
  funext a
  unfold w4
  split <;> rfl
theorem w4_self {τ : Sg} : w4 τ (τ 194) = τ := by
  funext a
  unfold w4
  split
  · rename_i h; rw [h]
  · rfl
theorem u2_w4 {τ : Sg} {i : Nat} {v : Int32} : u2 τ 194 i v = w4 τ (upd (τ 194) i v) := by
  funext a
  unfold u2 w4
  by_cases h : a = 194
  · subst h; simp
  · simp [h]
theorem m_it {τ : Sg} {s : Nat} (w : Nat) (h : 24 + 23 * s + w < 1785) : f_X5_its τ (nI s) (nI w) = some (τ 194 (24 + 23 * s + w)) := m_its rfl rfl h
theorem m_of' {τ : Sg} {k : Nat} (w : Nat) (h : 185 + 8 * k + w < 1785) : f_X5_of τ (nI k) (nI w) = some (τ 194 (185 + 8 * k + w)) := m_of rfl rfl h
theorem m_set {τ : Sg} {s : Nat} (w : Nat) (v : Int32) (h : 24 + 23 * s + w < 1785) : f_X5_sets τ (nI s) (nI w) v = some (w4 τ (upd (τ 194) (24 + 23 * s + w) v)) := by
  rw [m_sets rfl rfl h, u2_w4]
theorem m_lay' {τ : Sg} {k : Nat} (w : Nat) (v : Int32) (h : 185 + 8 * k + w < 1785) : f_X5_lay τ (nI k) (nI w) v = some (w4 τ (upd (τ 194) (185 + 8 * k + w) v)) := by
  rw [m_lay rfl rfl h, u2_w4]
theorem m_it0 {τ : Sg} {s : Nat} (h : s < 7) : f_X5_its τ (nI s) 0 = some (τ 194 (24 + 23 * s + 0)) := m_it 0 (by omega)
theorem m_it1 {τ : Sg} {s : Nat} (h : s < 7) : f_X5_its τ (nI s) 1 = some (τ 194 (24 + 23 * s + 1)) := m_it 1 (by omega)
theorem m_it2 {τ : Sg} {s : Nat} (h : s < 7) : f_X5_its τ (nI s) 2 = some (τ 194 (24 + 23 * s + 2)) := m_it 2 (by omega)
theorem m_it3 {τ : Sg} {s : Nat} (h : s < 7) : f_X5_its τ (nI s) 3 = some (τ 194 (24 + 23 * s + 3)) := m_it 3 (by omega)
theorem m_it4 {τ : Sg} {s : Nat} (h : s < 7) : f_X5_its τ (nI s) 4 = some (τ 194 (24 + 23 * s + 4)) := m_it 4 (by omega)
theorem m_it5 {τ : Sg} {s : Nat} (h : s < 7) : f_X5_its τ (nI s) 5 = some (τ 194 (24 + 23 * s + 5)) := m_it 5 (by omega)
theorem m_it6 {τ : Sg} {s : Nat} (h : s < 7) : f_X5_its τ (nI s) 6 = some (τ 194 (24 + 23 * s + 6)) := m_it 6 (by omega)
theorem m_st0 {τ : Sg} {s : Nat} {v : Int32} (h : s < 7) : f_X5_sets τ (nI s) 0 v = some (w4 τ (upd (τ 194) (24 + 23 * s + 0) v)) := m_set 0 v (by omega)
theorem m_st1 {τ : Sg} {s : Nat} {v : Int32} (h : s < 7) : f_X5_sets τ (nI s) 1 v = some (w4 τ (upd (τ 194) (24 + 23 * s + 1) v)) := m_set 1 v (by omega)
theorem m_st2 {τ : Sg} {s : Nat} {v : Int32} (h : s < 7) : f_X5_sets τ (nI s) 2 v = some (w4 τ (upd (τ 194) (24 + 23 * s + 2) v)) := m_set 2 v (by omega)
theorem m_st3 {τ : Sg} {s : Nat} {v : Int32} (h : s < 7) : f_X5_sets τ (nI s) 3 v = some (w4 τ (upd (τ 194) (24 + 23 * s + 3) v)) := m_set 3 v (by omega)
theorem m_st4 {τ : Sg} {s : Nat} {v : Int32} (h : s < 7) : f_X5_sets τ (nI s) 4 v = some (w4 τ (upd (τ 194) (24 + 23 * s + 4) v)) := m_set 4 v (by omega)
theorem m_st5 {τ : Sg} {s : Nat} {v : Int32} (h : s < 7) : f_X5_sets τ (nI s) 5 v = some (w4 τ (upd (τ 194) (24 + 23 * s + 5) v)) := m_set 5 v (by omega)
theorem m_st6 {τ : Sg} {s : Nat} {v : Int32} (h : s < 7) : f_X5_sets τ (nI s) 6 v = some (w4 τ (upd (τ 194) (24 + 23 * s + 6) v)) := m_set 6 v (by omega)
theorem m_of0 {τ : Sg} {k : Nat} (h : k < 200) : f_X5_of τ (nI k) 0 = some (τ 194 (185 + 8 * k + 0)) := m_of' 0 (by omega)
theorem m_of1 {τ : Sg} {k : Nat} (h : k < 200) : f_X5_of τ (nI k) 1 = some (τ 194 (185 + 8 * k + 1)) := m_of' 1 (by omega)
theorem m_of2 {τ : Sg} {k : Nat} (h : k < 200) : f_X5_of τ (nI k) 2 = some (τ 194 (185 + 8 * k + 2)) := m_of' 2 (by omega)
theorem m_of3 {τ : Sg} {k : Nat} (h : k < 200) : f_X5_of τ (nI k) 3 = some (τ 194 (185 + 8 * k + 3)) := m_of' 3 (by omega)
theorem m_of4 {τ : Sg} {k : Nat} (h : k < 200) : f_X5_of τ (nI k) 4 = some (τ 194 (185 + 8 * k + 4)) := m_of' 4 (by omega)
theorem m_of5 {τ : Sg} {k : Nat} (h : k < 200) : f_X5_of τ (nI k) 5 = some (τ 194 (185 + 8 * k + 5)) := m_of' 5 (by omega)
theorem m_of6 {τ : Sg} {k : Nat} (h : k < 200) : f_X5_of τ (nI k) 6 = some (τ 194 (185 + 8 * k + 6)) := m_of' 6 (by omega)
theorem m_of7 {τ : Sg} {k : Nat} (h : k < 200) : f_X5_of τ (nI k) 7 = some (τ 194 (185 + 8 * k + 7)) := m_of' 7 (by omega)
theorem m_ly0 {τ : Sg} {k : Nat} {v : Int32} (h : k < 200) : f_X5_lay τ (nI k) 0 v = some (w4 τ (upd (τ 194) (185 + 8 * k + 0) v)) := m_lay' 0 v (by omega)
theorem m_ly1 {τ : Sg} {k : Nat} {v : Int32} (h : k < 200) : f_X5_lay τ (nI k) 1 v = some (w4 τ (upd (τ 194) (185 + 8 * k + 1) v)) := m_lay' 1 v (by omega)
theorem m_ly2 {τ : Sg} {k : Nat} {v : Int32} (h : k < 200) : f_X5_lay τ (nI k) 2 v = some (w4 τ (upd (τ 194) (185 + 8 * k + 2) v)) := m_lay' 2 v (by omega)
theorem m_ly3 {τ : Sg} {k : Nat} {v : Int32} (h : k < 200) : f_X5_lay τ (nI k) 3 v = some (w4 τ (upd (τ 194) (185 + 8 * k + 3) v)) := m_lay' 3 v (by omega)
theorem m_ly4 {τ : Sg} {k : Nat} {v : Int32} (h : k < 200) : f_X5_lay τ (nI k) 4 v = some (w4 τ (upd (τ 194) (185 + 8 * k + 4) v)) := m_lay' 4 v (by omega)
theorem m_ly5 {τ : Sg} {k : Nat} {v : Int32} (h : k < 200) : f_X5_lay τ (nI k) 5 v = some (w4 τ (upd (τ 194) (185 + 8 * k + 5) v)) := m_lay' 5 v (by omega)
theorem m_ly6 {τ : Sg} {k : Nat} {v : Int32} (h : k < 200) : f_X5_lay τ (nI k) 6 v = some (w4 τ (upd (τ 194) (185 + 8 * k + 6) v)) := m_lay' 6 v (by omega)
theorem m_ly7 {τ : Sg} {k : Nat} {v : Int32} (h : k < 200) : f_X5_lay τ (nI k) 7 v = some (w4 τ (upd (τ 194) (185 + 8 * k + 7) v)) := m_lay' 7 v (by omega)
theorem ix_7 (l j : Nat) : ((7 : Int32) + 4 * nI l) + nI j = nI (7 + 4 * l + j) := by
  rw [show (7 : Int32) = nI 7 from rfl, show (4 : Int32) = nI 4 from rfl, pk_mul, nI_add, nI_add]
theorem ix_4 (l j : Nat) : nI l * 4 + nI j = nI (4 * l + j) := by
  rw [show (4 : Int32) = nI 4 from rfl, pk_mul, nI_add, Nat.mul_comm]
theorem m_prizes {τ : Sg} {s l j : Nat} (h : s < 7) (hl : l < 4) (hj : j < 4) : f_X5_prizes τ (nI s) (nI l) (nI j) = some (τ 194 (24 + 23 * s + (7 + 4 * l + j))) := by
  unfold f_X5_prizes
  rw [ix_7, m_it _ (by omega)]
  rfl
/-! the open stall on a pitch -/
def s_openOn (f : Nat → Int32) (p : Int32) : Option Nat := match s_on f p with
  | none => none
  | some s => if f (24 + 23 * s + 6) = 1 then some s else none
theorem s_openOn_lt {f : Nat → Int32} {p : Int32} {s : Nat} (h : s_openOn f p = some s) : s < nS f ∧ f (24 + 23 * s + 0) = p ∧ f (24 + 23 * s + 6) = 1 := by
  unfold s_openOn at h
  cases h1 : s_on f p with
  | none => rw [h1] at h; cases h
  | some t =>
    rw [h1] at h
    dsimp only at h
    split at h
    · rename_i h2
      cases h
      have := s_on_lt h1
      exact ⟨this.1, this.2, h2⟩
    · cases h
theorem m_openOn {τ : Sg} {p : Int32} (h8 : vp_in (τ 194 8) 8) : f_X5_openOn τ p = some (oI (s_openOn (τ 194) p)) := by
  unfold f_X5_openOn s_openOn
  rw [m_on h8, b1_some]
  cases h1 : s_on (τ 194) p with
  | none => rw [oI_none, if_pos rfl]
  | some s =>
    have h2 := (s_on_lt h1).1
    have h7 : nS (τ 194) < 8 := tc_vp h8
    dsimp only
    rw [oI_some, if_neg (nI_neg1 (by omega)), m_it6 (by omega), b1_some]
    split <;> rfl

theorem c_openOn {c : Nat} {σ : Sg} {f : Nat → Int32} {p : Int32} (hR : FR c σ f) (h8 : vp_in (f 8) 8) (ho : ∀ s, s < nS f → vp_in (f (24 + 23 * s + 6)) 2) : f_X1_openStallOn c σ p = some (match s_openOn f p with | none => 0 | some s => c + 13 + 2 * s) := by
  unfold f_X1_openStallOn s_openOn
  rw [c_on hR h8, b1_some]
  cases h1 : s_on f p with
  | none => rw [oI_none, if_pos rfl]
  | some s =>
    have h2 := (s_on_lt h1).1
    have h7 : nS f < 8 := tc_vp h8
    dsimp only
    rw [oI_some, if_neg (nI_neg1 (by omega)), gd_ok rfl (show s < 7 by omega) (by omega), sk_nI (by omega), hR.s6 (by omega) (by omega)]
    obtain ⟨j, hj, e⟩ := vp_ex (ho s h2) (by omega)
    rw [e]
    have : j = 0 ∨ j = 1 := by omega
    rcases this with rfl | rfl
    · rw [if_pos (show nI 0 = 0 from rfl), if_neg (show ¬ nI 0 = 1 by decide)]
    · rw [if_neg (show ¬ nI 1 = 0 by decide), if_pos (show nI 1 = 1 from rfl)]
/-! a shelf's sum -/
def s_shA (f : Nat → Int32) (s : Nat) : Nat → Nat → Int32 → Int32
  | 0, _, a => a
  | d + 1, i, a => s_shA f s d (i + 1) (a + f (24 + 23 * s + 7 + i))
def s_onShelf (f : Nat → Int32) (s : Nat) : Int32 := s_shA f s 16 0 0
theorem m_onShA {τ : Sg} {s : Nat} (hs : s < 7) : ∀ (d i n : Nat) (a : Int32), i + d = 16 → d < n → l_X5_onShelf_4 n τ (nI s) a (nI i) = some (s_shA (τ 194) s d i a) := by
  intro d
  induction d with
  | zero =>
    intro i n a hk hn
    obtain ⟨m, rfl⟩ : ∃ m, n = m + 1 := ⟨n - 1, by omega⟩
    rw [l_X5_onShelf_4.eq_2, if_pos (show (16 : Int32) ≤ nI i from nI_le (a := 16) (b := i) (by omega) (by omega))]
    rfl
  | succ d ih =>
    intro i n a hk hn
    obtain ⟨m, rfl⟩ : ∃ m, n = m + 1 := ⟨n - 1, by omega⟩
    rw [l_X5_onShelf_4.eq_2, if_neg (show ¬ (16 : Int32) ≤ nI i from nI_ge (a := i) (b := 16) (by omega) (by omega)), show (7 : Int32) = nI 7 from rfl, nI_add, m_it _ (by omega), b1_some, nI_1, ih _ _ _ (by omega) (by omega), s_shA]
    rw [show 24 + 23 * s + (7 + i) = 24 + 23 * s + 7 + i by omega]
theorem m_onShelf {τ : Sg} {s : Nat} (hs : s < 7) : f_X5_onShelf τ (nI s) = some (s_onShelf (τ 194) s) := m_onShA hs _ 0 10000 0 (by omega) (by omega)
theorem c_onShA {c s : Nat} {σ : Sg} {f : Nat → Int32} (hR : FR c σ f) (hs : s < nS f) (h7 : nS f ≤ 7) : ∀ (d i n : Nat) (a : Int32), i + d = 16 → d < n → l_X3_prizesOnShelf_4 (c + 13 + 2 * s) n σ a (nI i) = some (s_shA f s d i a) := by
  intro d
  induction d with
  | zero =>
    intro i n a hk hn
    obtain ⟨m, rfl⟩ : ∃ m, n = m + 1 := ⟨n - 1, by omega⟩
    rw [l_X3_prizesOnShelf_4.eq_2, if_pos (show (16 : Int32) ≤ nI i from nI_le (a := 16) (b := i) (by omega) (by omega))]
    rfl
  | succ d ih =>
    intro i n a hk hn
    obtain ⟨m, rfl⟩ : ∃ m, n = m + 1 := ⟨n - 1, by omega⟩
    rw [l_X3_prizesOnShelf_4.eq_2, if_neg (show ¬ (16 : Int32) ≤ nI i from nI_ge (a := i) (b := 16) (by omega) (by omega)), gd_ok rfl (show i < 16 by omega) (by omega), cl_nI (by omega), hR.sh hs h7 (by omega), nI_1, ih _ _ _ (by omega) (by omega), s_shA]
theorem c_onShelf {c s : Nat} {σ : Sg} {f : Nat → Int32} (hR : FR c σ f) (hs : s < nS f) (h7 : nS f ≤ 7) : f_X3_prizesOnShelf (c + 13 + 2 * s) σ = some (s_onShelf f s) := c_onShA hR hs h7 _ 0 10000 0 (by omega) (by omega)
/-! the best level on offer -/
def grn (k : Int32) : Nat := if k = 0 then 3 else if k = 1 then 2 else if k = 2 then 4 else if k = 3 then 1 else 0
theorem grn_lt {k : Int32} : grn k < 5 := by
  unfold grn
  repeat' split
  all_goals omega
theorem grt_eq {k : Int32} : grt k = nI (grn k) + (-1) := by
  unfold grn grt
  repeat' split
  all_goals decide
def s_lvl (f : Nat → Int32) (s : Nat) : Nat → Option Nat
  | 0 => none
  | l + 1 => if f (24 + 23 * s + (7 + 4 * l + 0)) + f (24 + 23 * s + (7 + 4 * l + 1)) + f (24 + 23 * s + (7 + 4 * l + 2)) + f (24 + 23 * s + (7 + 4 * l + 3)) = 0 then s_lvl f s l else some l
def s_best (f : Nat → Int32) (s : Nat) : Option Nat := s_lvl f s (grn (f (24 + 23 * s + 1)))
theorem m_greatest {τ : Sg} {k : Int32} : f_X5_greatest τ k = some (grt k) := by
  unfold f_X5_greatest grt
  repeat' split
  all_goals rfl
theorem m_every {τ : Sg} {k : Int32} : f_X5_every τ k = some (evr k) := by
  unfold f_X5_every evr
  repeat' split
  all_goals rfl
theorem m_ofLevel {τ : Sg} {s l : Nat} (hs : s < 7) (hl : l < 4) : f_X5_ofLevel τ (nI s) (nI l) = some (τ 194 (24 + 23 * s + (7 + 4 * l + 0)) + τ 194 (24 + 23 * s + (7 + 4 * l + 1)) + τ 194 (24 + 23 * s + (7 + 4 * l + 2)) + τ 194 (24 + 23 * s + (7 + 4 * l + 3))) := by
  unfold f_X5_ofLevel
  rw [show (0 : Int32) = nI 0 from rfl, show (1 : Int32) = nI 1 from rfl, show (2 : Int32) = nI 2 from rfl, show (3 : Int32) = nI 3 from rfl, m_prizes hs hl (by omega), m_prizes hs hl (by omega), m_prizes hs hl (by omega), m_prizes hs hl (by omega)]
  rfl
theorem nI_nlt0 {l : Nat} (h : l < 100000) : ¬ nI l < 0 := by
  rw [tI_lt, nI_toInt (by omega)]
  exact Int.not_lt.mpr (Int.natCast_nonneg _)
theorem m_lvl {τ : Sg} {s : Nat} (hs : s < 7) : ∀ (l n : Nat), l ≤ 4 → l < n → l_X5_bestLevel_10 n τ (nI s) (nI l + (-1)) = some (oI (s_lvl (τ 194) s l)) := by
  intro l
  induction l with
  | zero =>
    intro n hl hn
    obtain ⟨m, rfl⟩ : ∃ m, n = m + 1 := ⟨n - 1, by omega⟩
    rw [l_X5_bestLevel_10.eq_2, if_pos (by decide)]
    rfl
  | succ l ih =>
    intro n hl hn
    obtain ⟨m, rfl⟩ : ∃ m, n = m + 1 := ⟨n - 1, by omega⟩
    rw [l_X5_bestLevel_10.eq_2, pk_m1, if_neg (nI_nlt0 (by omega)), m_ofLevel hs (by omega), b1_some, s_lvl]
    split
    · exact ih m (by omega) (by omega)
    · rfl
theorem m_best {τ : Sg} {s : Nat} (hs : s < 7) : f_X5_bestLevel τ (nI s) = some (oI (s_best (τ 194) s)) := by
  unfold f_X5_bestLevel
  rw [m_it1 hs, b1_some, m_greatest, b1_some, grt_eq]
  exact m_lvl hs _ _ (by have := @grn_lt (τ 194 (24 + 23 * s + 1)); omega) (by have := @grn_lt (τ 194 (24 + 23 * s + 1)); omega)
