/-! one child's turn -/
def s_home (f : Nat → Int32) (k : Nat) : Nat → Int32 := upd (upd f (185 + 8 * k + 4) (-1)) (185 + 8 * k + 5) 1
theorem m_home {τ : Sg} {k : Nat} (hk : k < 200) : f_X5_goesHome τ (nI k) = some (w4 τ (s_home (τ 194) k)) := by
  unfold f_X5_goesHome
  rw [m_ly4 hk, b1_some, m_ly5 hk, b1_some, w4_194, w4_w4]
  rfl
def s_mood (m v : Int32) : Int32 := if 0 ≤ m + v then (if m + v ≤ 100 then m + v else 100) else 0
def s_feels (f : Nat → Int32) (k : Nat) (v : Int32) : Nat → Int32 := upd f (185 + 8 * k + 1) (s_mood (f (185 + 8 * k + 1)) v)
theorem m_feels {τ : Sg} {k : Nat} {v : Int32} (hk : k < 200) : f_X5_feels τ (nI k) v = some (w4 τ (s_feels (τ 194) k v)) := by
  unfold f_X5_feels s_feels s_mood
  simp only [m_of1 hk, m_ly1 hk, b1_some]
  repeat' split
  all_goals rfl
def s_likes (f : Nat → Int32) (k s : Nat) : Int32 := if f (24 + 23 * s + 1) = f (185 + 8 * k + 2) ∨ 50 ≤ f (185 + 8 * k + 1) ∨ f (24 + 23 * s + 1) = 4 then 1 else 0
theorem m_likes {τ : Sg} {k s : Nat} (hk : k < 200) (hs : s < 7) : f_X5_likes τ (nI k) (nI s) = some (s_likes (τ 194) k s) := by
  unfold f_X5_likes s_likes
  simp only [m_it1 hs, m_of2 hk, m_of1 hk, b1_some]
  grind
def s_wants (f : Nat → Int32) (k s : Nat) : Int32 := if ¬ f (185 + 8 * k + 0) < f (24 + 23 * s + 2) ∧ ¬ 2 ≤ f (185 + 8 * k + 6) ∧ ¬ s_likes f k s = 0 then 1 else 0
theorem m_wants {τ : Sg} {k s : Nat} (hk : k < 200) (hs : s < 7) : f_X5_wants τ (nI k) (nI s) = some (s_wants (τ 194) k s) := by
  unfold f_X5_wants s_wants
  simp only [m_it2 hs, m_of0 hk, m_of6 hk, m_likes hk hs, b1_some]
  grind
def s_give (f : Nat → Int32) (k s l j : Nat) (v : Int32) : Nat → Int32 :=
  let g := upd f (24 + 23 * s + (7 + 4 * l + j)) (f (24 + 23 * s + (7 + 4 * l + j)) - 1)
  let h := upd g (185 + 8 * k + 7) (g (185 + 8 * k + 7) + 1)
  s_feels (upd h (10 + l) (h (10 + l) + 1)) k v
def s_cq (f : Nat → Int32) (k : Nat) : Nat := (f (185 + 8 * k + 3)).toNatClampNeg
def s_wins (f : Nat → Int32) (k s l : Nat) : Nat → Int32 := s_give f k s l (s_col f s l (s_cq f k)) (if f (24 + 23 * s + (7 + 4 * l + s_cq f k)) ≤ 0 then 20 else 30)
theorem m_give {τ : Sg} {k s l j : Nat} (hk : k < 200) (hs : s < 7) (hl : l < 4) (hj : j < 4) {R : Option Sg} {v : Int32} (h : R = b1 (f_X5_prizes τ (nI s) (nI l) (nI j)) fun y10 => b1 (f_X5_sets τ (nI s) ((7 + (4 * nI l)) + nI j) (y10 - 1)) fun σ14 => b1 (f_X5_of σ14 (nI k) 7) fun y15 => b1 (f_X5_lay σ14 (nI k) 7 (y15 + 1)) fun σ19 => gd (10 + nI l) 1785 (st (u2 σ19 194 ((10 + nI l)).toNatClampNeg ((σ19 194 ((10 + nI l)).toNatClampNeg) + 1)) fun σ21 => b1 (f_X5_feels σ21 (nI k) v) fun σ26 => some σ26)) : R = some (w4 τ (s_give (τ 194) k s l j v)) := by
  rw [h, m_prizes hs hl hj, b1_some, ix_7, m_set _ _ (by omega), b1_some]
  simp only [m_of7 hk, m_ly7 hk, b1_some, w4_194, w4_w4]
  rw [show (10 : Int32) = nI 10 from rfl, nI_add, gd_ok rfl (show 10 + l < 1785 by omega) (by omega), cl_nI (by omega), st_eq, u2_w4, m_feels hk, b1_some]
  simp only [w4_194, w4_w4]
  rfl
theorem m_winsA {τ : Sg} {k s l : Nat} (hk : k < 200) (hs : s < 7) (hl : l < 4) : ∀ (d j n : Nat), j + d = 3 → d + 1 < n → (∃ i, j ≤ i ∧ i ≤ j + d ∧ τ 194 (24 + 23 * s + (7 + 4 * l + i)) ≠ 0) → l_X5_wins_34 n τ (nI k) (nI s) (nI l) (nI j) 0 = some (w4 τ (s_give (τ 194) k s l (s_colA (τ 194) s l d j) 20)) := by
  intro d
  induction d with
  | zero =>
    intro j n hj hn ⟨i, h1, h2, h3⟩
    obtain ⟨m, rfl⟩ : ∃ m, n = m + 1 := ⟨n - 1, by omega⟩
    have e : i = j := by omega
    subst e
    rw [l_X5_wins_34.eq_2, m_prizes hs hl (by omega), b1_some, if_neg h3, s_colA]
    exact m_give hk hs hl (by omega) (by rw [m_prizes hs hl (by omega)]; simp)
  | succ d ih =>
    intro j n hj hn ⟨i, h1, h2, h3⟩
    obtain ⟨m, rfl⟩ : ∃ m, n = m + 1 := ⟨n - 1, by omega⟩
    rw [l_X5_wins_34.eq_2, m_prizes hs hl (by omega), b1_some, s_colA]
    split
    · rename_i hz
      rw [nI_1]
      refine ih (j + 1) m (by omega) (by omega) ⟨i, ?_, by omega, h3⟩
      rcases Nat.lt_or_eq_of_le h1 with h | h
      · omega
      · subst h; exact absurd hz h3
    · exact m_give hk hs hl (by omega) (by rw [m_prizes hs hl (by omega)]; simp)
theorem m_wins {τ : Sg} {k s l : Nat} (hk : k < 200) (hs : s < 7) (hw : SW (τ 194) s) (hc : CW (τ 194) k) (hb : s_best (τ 194) s = some l) : f_X5_wins τ (nI k) (nI s) (nI l) = some (w4 τ (s_wins (τ 194) k s l)) := by
  have hl := (s_best_lt hb).1
  have hq : s_cq (τ 194) k < 4 := tc_vp hc.colour
  have hq2 : τ 194 (185 + 8 * k + 3) = nI (s_cq (τ 194) k) := tc_eq hc.colour (by omega)
  unfold f_X5_wins s_wins s_col
  rw [m_of3 hk, b1_some, hq2, m_prizes hs hl hq, b1_some]
  split
  · exact m_winsA hk hs hl 3 0 10000 (by omega) (by omega) (s_best_ex hw hb)
  · exact m_give hk hs hl hq (by rw [m_prizes hs hl hq])
def s_pay (f : Nat → Int32) (k s : Nat) : Nat → Int32 :=
  let p := f (24 + 23 * s + 2)
  let a := upd f (185 + 8 * k + 0) (f (185 + 8 * k + 0) - p)
  let b := upd a (24 + 23 * s + 4) (a (24 + 23 * s + 4) + p)
  let c := upd b (24 + 23 * s + 5) (b (24 + 23 * s + 5) + 1)
  let d := upd c (185 + 8 * k + 6) (c (185 + 8 * k + 6) + 1)
  let e := upd d 4 (d 4 + p)
  upd e 5 (e 5 + 1)
def s_playsAt (f : Nat → Int32) (k s : Nat) : Nat → Int32 :=
  let g := s_pay f k s
  if g (24 + 23 * s + 1) = 4 then s_feels g k 15
  else if g (24 + 23 * s + 5) - g (24 + 23 * s + 5) / evr (g (24 + 23 * s + 1)) * evr (g (24 + 23 * s + 1)) = 0 then (match s_best g s with
    | none => s_feels g k (-8)
    | some l => s_wins g k s l)
  else s_feels g k (-8)
/-- the state with the row and the busy marks replaced -/
def w49 (τ : Sg) (g b : Nat → Int32) : Sg := fun a => if a = 194 then g else if a = 199 then b else τ a
theorem w49_1 {τ : Sg} {g b : Nat → Int32} : w49 τ g b 194 = g := rfl
theorem w49_2 {τ : Sg} {g b : Nat → Int32} : w49 τ g b 199 = b := rfl
theorem w49_4 {τ : Sg} {g b h : Nat → Int32} : w4 (w49 τ g b) h = w49 τ h b := by
  funext a
  unfold w4 w49
  split <;> rfl
theorem w49_u {τ : Sg} {g b : Nat → Int32} {i : Nat} {v : Int32} : u2 (w49 τ g b) 199 i v = w49 τ g (upd b i v) := by
  funext a
  unfold u2 w49
  by_cases h : a = 199
  · subst h; rfl
  · rw [if_neg h, if_neg h]
    simp [h]
theorem w49_w {τ : Sg} {g : Nat → Int32} : w4 τ g = w49 τ g (τ 199) := by
  funext a
  unfold w4 w49
  split
  · rfl
  · split
    · rename_i h; rw [h]
    · rfl
theorem w49_self {τ : Sg} : w49 τ (τ 194) (τ 199) = τ := by rw [← w49_w, w4_self]
theorem evr_ne {k : Int32} (h : vp_in k 5) (h4 : k ≠ 4) : evr k ≠ 0 := by
  obtain ⟨j, hj, rfl⟩ := vp_ex h (by omega)
  have : j = 0 ∨ j = 1 ∨ j = 2 ∨ j = 3 ∨ j = 4 := by omega
  rcases this with rfl | rfl | rfl | rfl | rfl
  · decide
  · decide
  · decide
  · decide
  · exact absurd rfl h4
theorem nz_ok {α : Type} {i : Int32} {k : Option α} (h : i ≠ 0) : nz i k = k := if_neg h
/-- a payment leaves the bounds of the stall's kind and shelf -/
theorem s_pay_o {f : Nat → Int32} {k s i : Nat} (h1 : i ≠ 185 + 8 * k + 0) (h2 : i ≠ 24 + 23 * s + 4) (h3 : i ≠ 24 + 23 * s + 5) (h4 : i ≠ 185 + 8 * k + 6) (h5 : i ≠ 4) (h6 : i ≠ 5) : s_pay f k s i = f i := by
  simp only [s_pay, upd_app, h1, h2, h3, h4, h5, h6, if_false]
theorem SW.pay {f : Nat → Int32} {k s t : Nat} (hs : s < 7) (ht : t < 7) (h : SW f t) : SW (s_pay f k s) t := by
  obtain ⟨a1, a2, a3, a4, a5, a6, a7⟩ := h
  refine ⟨?_, ?_, ?_, ?_, ?_, ?_, fun i hi => ?_⟩
  · rw [s_pay_o (by omega) (by omega) (by omega) (by omega) (by omega) (by omega)]; exact a1
  · rw [s_pay_o (by omega) (by omega) (by omega) (by omega) (by omega) (by omega)]; exact a2
  · rw [s_pay_o (by omega) (by omega) (by omega) (by omega) (by omega) (by omega)]; exact a3
  · rw [s_pay_o (by omega) (by omega) (by omega) (by omega) (by omega) (by omega)]; exact a4
  · rw [s_pay_o (by omega) (by omega) (by omega) (by omega) (by omega) (by omega)]; exact a5
  · rw [s_pay_o (by omega) (by omega) (by omega) (by omega) (by omega) (by omega)]; exact a6
  · rw [s_pay_o (by omega) (by omega) (by omega) (by omega) (by omega) (by omega)]; exact a7 i hi
/-- here: from 0 or 1, so one more is at most 2 -/
theorem CW.pay {f : Nat → Int32} {k s q : Nat} (hs : s < 7) (h : CW f q) (h2 : q = k → ¬ 2 ≤ f (185 + 8 * k + 6)) : CW (s_pay f k s) q := by
  obtain ⟨a1, a2, a3, a4, a5, a6⟩ := h
  refine ⟨?_, ?_, ?_, ?_, ?_, ?_⟩
  · rw [s_pay_o (by omega) (by omega) (by omega) (by omega) (by omega) (by omega)]; exact a1
  · rw [s_pay_o (by omega) (by omega) (by omega) (by omega) (by omega) (by omega)]; exact a2
  · rw [s_pay_o (by omega) (by omega) (by omega) (by omega) (by omega) (by omega)]; exact a3
  · rw [s_pay_o (by omega) (by omega) (by omega) (by omega) (by omega) (by omega), s_pay_o (by omega) (by omega) (by omega) (by omega) (by omega) (by omega)]; exact a4
  · rw [s_pay_o (by omega) (by omega) (by omega) (by omega) (by omega) (by omega)]; exact a5
  · by_cases hq : q = k
    · subst hq
      have e : s_pay f q s (185 + 8 * q + 6) = f (185 + 8 * q + 6) + 1 := by
        simp only [s_pay, upd_app]
        grind
      rw [e]
      obtain ⟨j, hj, ej⟩ := vp_ex a6 (by omega)
      have := h2 rfl
      rw [ej, show (2 : Int32) = nI 2 from rfl, nI_leI (by omega) (by omega)] at this
      rw [ej, nI_1]
      exact vp_in_nI (by omega) (by omega)
    · rw [s_pay_o (by omega) (by omega) (by omega) (by omega) (by omega) (by omega)]; exact a6
theorem m_playsAt {τ : Sg} {k s : Nat} (hk : k < 200) (hs : s < 7) (hw : SW (τ 194) s) (hc : CW (τ 194) k) (h2 : ¬ 2 ≤ τ 194 (185 + 8 * k + 6)) : f_X5_playsAt τ (nI k) (nI s) = some (w49 τ (s_playsAt (τ 194) k s) (upd (τ 199) s 1)) := by
  have hw2 := SW.pay (k := k) hs hs hw
  have hc2 := CW.pay (k := k) hs hc (fun _ => h2)
  have hp : w49 τ (s_pay (τ 194) k s) (upd (τ 199) s 1) 194 = s_pay (τ 194) k s := rfl
  unfold f_X5_playsAt
  simp only [m_it2 hs, m_of0 hk, m_ly0 hk, m_it4 hs, m_st4 hs, m_it5 hs, m_st5 hs, m_of6 hk, m_ly6 hk, b1_some, w4_194, w4_w4, lc_4, lc_5, st_eq, u2_w4]
  rw [gd_ok rfl hs (by omega), cl_nI (by omega), w49_w, w49_u]
  obtain ⟨G, hG⟩ : ∃ G, G = s_pay (τ 194) k s := ⟨_, rfl⟩
  have hG' := hG
  unfold s_pay at hG'
  dsimp only at hG'
  rw [← hG']
  simp only [m_it1 hs, m_it5 hs, b1_some, m_every, m_feels hk, m_best hs, w49_1, w49_4]
  unfold s_playsAt
  rw [← hG] at hw2 hc2 ⊢
  dsimp only
  split
  · rfl
  · rename_i h4
    rw [nz_ok (evr_ne hw2.kind h4)]
    split
    · cases hb : s_best G s with
      | none => rw [oI_none, if_pos rfl]
      | some l =>
        have hl := (s_best_lt hb).1
        rw [oI_some, if_neg (nI_neg1 (by omega)), m_wins (τ := w49 τ G (upd (τ 199) s 1)) hk hs hw2 hc2 hb, b1_some, w49_1, w49_4]
    · rfl
