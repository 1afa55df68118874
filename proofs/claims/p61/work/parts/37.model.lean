/-! one child's turn -/
def s_home (f : Nat → Int32) (k : Nat) : Nat → Int32 := upd (upd f (185 + 8 * k + 4) (-1)) (185 + 8 * k + 5) 1
def s_mood (m v : Int32) : Int32 := if 0 ≤ m + v then (if m + v ≤ 100 then m + v else 100) else 0
def s_feels (f : Nat → Int32) (k : Nat) (v : Int32) : Nat → Int32 := upd f (185 + 8 * k + 1) (s_mood (f (185 + 8 * k + 1)) v)
def s_likes (f : Nat → Int32) (k s : Nat) : Int32 := if f (24 + 23 * s + 1) = f (185 + 8 * k + 2) ∨ 50 ≤ f (185 + 8 * k + 1) ∨ f (24 + 23 * s + 1) = 4 then 1 else 0
def s_wants (f : Nat → Int32) (k s : Nat) : Int32 := if ¬ f (185 + 8 * k + 0) < f (24 + 23 * s + 2) ∧ ¬ 2 ≤ f (185 + 8 * k + 6) ∧ ¬ s_likes f k s = 0 then 1 else 0
def s_give (f : Nat → Int32) (k s l j : Nat) (v : Int32) : Nat → Int32 :=
  let g := upd f (24 + 23 * s + (7 + 4 * l + j)) (f (24 + 23 * s + (7 + 4 * l + j)) - 1)
  let h := upd g (185 + 8 * k + 7) (g (185 + 8 * k + 7) + 1)
  s_feels (upd h (10 + l) (h (10 + l) + 1)) k v
def s_cq (f : Nat → Int32) (k : Nat) : Nat := (f (185 + 8 * k + 3)).toNatClampNeg
def s_wins (f : Nat → Int32) (k s l : Nat) : Nat → Int32 := s_give f k s l (s_col f s l (s_cq f k)) (if f (24 + 23 * s + (7 + 4 * l + s_cq f k)) ≤ 0 then 20 else 30)
def s_pay (f : Nat → Int32) (k s : Nat) : Nat → Int32 :=
  let p := f (24 + 23 * s + 2)
  let a := upd f (185 + 8 * k + 0) (f (185 + 8 * k + 0) - p)
  let b := upd a (24 + 23 * s + 4) (a (24 + 23 * s + 4) + p)
  let c := upd b (24 + 23 * s + 5) (b (24 + 23 * s + 5) + 1)
  let d := upd c (185 + 8 * k + 6) (c (185 + 8 * k + 6) + 1)
  let e := upd d 4 (d 4 + p)
  upd e 5 (e 5 + 1)
def s_playsAt (f : Nat → Int32) (k s : Nat) : Nat → Int32 :=
  let g := s_pay f k s
  if g (24 + 23 * s + 1) = 4 then s_feels g k 15
  else if g (24 + 23 * s + 5) - g (24 + 23 * s + 5) / evr (g (24 + 23 * s + 1)) * evr (g (24 + 23 * s + 1)) = 0 then (match s_best g s with
    | none => s_feels g k (-8)
    | some l => s_wins g k s l)
  else s_feels g k (-8)
/-- the state with the row and the busy marks replaced -/
def w49 (τ : Sg) (g b : Nat → Int32) : Sg := fun a => if a = 194 then g else if a = 199 then b else τ a
theorem w49_1 {τ : Sg} {g b : Nat → Int32} : w49 τ g b 194 = g := rfl
theorem w49_2 {τ : Sg} {g b : Nat → Int32} : w49 τ g b 199 = b := rfl
theorem w49_4 {τ : Sg} {g b h : Nat → Int32} : w4 (w49 τ g b) h = w49 τ h b := by
  funext a
  unfold w4 w49
  split <;> rfl
theorem w49_u {τ : Sg} {g b : Nat → Int32} {i : Nat} {v : Int32} : u2 (w49 τ g b) 199 i v = w49 τ g (upd b i v) := by
  funext a
  unfold u2 w49
  by_cases h : a = 199
  · subst h; rfl
  · rw [if_neg h, if_neg h]
    simp [h]
theorem w49_w {τ : Sg} {g : Nat → Int32} : w4 τ g = w49 τ g (τ 199) := by
  funext a
  unfold w4 w49
  split
  · rfl
  · split
    · rename_i h; rw [h]
    · rfl
theorem w49_self {τ : Sg} : w49 τ (τ 194) (τ 199) = τ := by rw [← w49_w, w4_self]
theorem evr_ne {k : Int32} (h : vp_in k 5) (h4 : k ≠ 4) : evr k ≠ 0 := by
  obtain ⟨j, hj, rfl⟩ := vp_ex h (by omega)
  have : j = 0 ∨ j = 1 ∨ j = 2 ∨ j = 3 ∨ j = 4 := by omega
  rcases this with rfl | rfl | rfl | rfl | rfl
  · decide
  · decide
  · decide
  · decide
  · exact absurd rfl h4
theorem nz_ok {α : Type} {i : Int32} {k : Option α} (h : i ≠ 0) : nz i k = k := if_neg h
/-- a payment leaves the bounds of the stall's kind and shelf -/
theorem s_pay_o {f : Nat → Int32} {k s i : Nat} (h1 : i ≠ 185 + 8 * k + 0) (h2 : i ≠ 24 + 23 * s + 4) (h3 : i ≠ 24 + 23 * s + 5) (h4 : i ≠ 185 + 8 * k + 6) (h5 : i ≠ 4) (h6 : i ≠ 5) : s_pay f k s i = f i := by
  simp only [s_pay, upd_app, h1, h2, h3, h4, h5, h6, if_false]
theorem SW.pay {f : Nat → Int32} {k s t : Nat} (hs : s < 7) (ht : t < 7) (h : SW f t) : SW (s_pay f k s) t := by
  obtain ⟨a1, a2, a3, a4, a5, a6, a7⟩ := h
  refine ⟨?_, ?_, ?_, ?_, ?_, ?_, fun i hi => ?_⟩
  · rw [s_pay_o (by omega) (by omega) (by omega) (by omega) (by omega) (by omega)]; exact a1
  · rw [s_pay_o (by omega) (by omega) (by omega) (by omega) (by omega) (by omega)]; exact a2
  · rw [s_pay_o (by omega) (by omega) (by omega) (by omega) (by omega) (by omega)]; exact a3
  · rw [s_pay_o (by omega) (by omega) (by omega) (by omega) (by omega) (by omega)]; exact a4
  · rw [s_pay_o (by omega) (by omega) (by omega) (by omega) (by omega) (by omega)]; exact a5
  · rw [s_pay_o (by omega) (by omega) (by omega) (by omega) (by omega) (by omega)]; exact a6
  · rw [s_pay_o (by omega) (by omega) (by omega) (by omega) (by omega) (by omega)]; exact a7 i hi
/-- here: from 0 or 1, so one more is at most 2 -/
theorem CW.pay {f : Nat → Int32} {k s q : Nat} (hs : s < 7) (h : CW f q) (h2 : q = k → ¬ 2 ≤ f (185 + 8 * k + 6)) : CW (s_pay f k s) q := by
  obtain ⟨a1, a2, a3, a4, a5, a6⟩ := h
  refine ⟨?_, ?_, ?_, ?_, ?_, ?_⟩
  · rw [s_pay_o (by omega) (by omega) (by omega) (by omega) (by omega) (by omega)]; exact a1
  · rw [s_pay_o (by omega) (by omega) (by omega) (by omega) (by omega) (by omega)]; exact a2
  · rw [s_pay_o (by omega) (by omega) (by omega) (by omega) (by omega) (by omega)]; exact a3
  · rw [s_pay_o (by omega) (by omega) (by omega) (by omega) (by omega) (by omega), s_pay_o (by omega) (by omega) (by omega) (by omega) (by omega) (by omega)]; exact a4
  · rw [s_pay_o (by omega) (by omega) (by omega) (by omega) (by omega) (by omega)]; exact a5
  · by_cases hq : q = k
    · subst hq
      have e : s_pay f q s (185 + 8 * q + 6) = f (185 + 8 * q + 6) + 1 := by
        simp only [s_pay, upd_app]
        grind
      rw [e]
      obtain ⟨j, hj, ej⟩ := vp_ex a6 (by omega)
      have := h2 rfl
      rw [ej, show (2 : Int32) = nI 2 from rfl, nI_leI (by omega) (by omega)] at this
      rw [ej, nI_1]
      exact vp_in_nI (by omega) (by omega)
    · rw [s_pay_o (by omega) (by omega) (by omega) (by omega) (by omega) (by omega)]; exact a6
