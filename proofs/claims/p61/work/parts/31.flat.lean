/-! THE FLAT VIEW of a fair of the class at cell c: the reference's own numbering of its row -/
def sw (w : Nat) : Nat := if w < 4 then w else if w = 6 then 4 else w + 1
def hw (x : Int32) : Int32 := if x = 1 then 0 else 1
def fl (c : Nat) (σ : Sg) : Nat → Int32 := fun i =>
  if i < 8 then σ c i
  else if i = 8 then σ c 10
  else if i = 9 then σ (c + 4) 0
  else if i < 14 then σ (c + 2) (i - 10)
  else if i < 24 then σ (c + 1) (i - 14)
  else if i < 185 then (if (i - 24) % 23 < 7 then σ (c + 13 + 2 * ((i - 24) / 23)) (sw ((i - 24) % 23)) else σ (c + 13 + 2 * ((i - 24) / 23) + 1) ((i - 24) % 23 - 7))
  else (if (i - 185) % 8 = 5 then hw (σ (c + 4 + 6) ((i - 185) / 8)) else σ (c + 4 + (1 + (i - 185) % 8)) ((i - 185) / 8))
theorem upd_app {f : Nat → Int32} {i j : Nat} {x : Int32} : upd f i x j = if j = i then x else f j := rfl
theorem u2_app {σ : Sg} {k i a j : Nat} {x : Int32} : u2 σ k i x a j = if a = k then (if j = i then x else σ a j) else σ a j := by
  unfold u2
  by_cases h : a = k
  · rw [if_pos h, if_pos h]; rfl
  · rw [if_neg h, if_neg h]
theorem fl_F {c i : Nat} {σ : Sg} {v : Int32} (h : i < 8) : fl c (u2 σ c i v) = upd (fl c σ) i v := by
  funext j
  simp only [fl, upd_app, u2_app, sw]
  grind
theorem fl_8 {c : Nat} {σ : Sg} {v : Int32} : fl c (u2 σ c 10 v) = upd (fl c σ) 8 v := by
  funext j
  simp only [fl, upd_app, u2_app, sw]
  grind
theorem fl_9 {c : Nat} {σ : Sg} {v : Int32} : fl c (u2 σ (c + 4) 0 v) = upd (fl c σ) 9 v := by
  funext j
  simp only [fl, upd_app, u2_app, sw]
  grind
theorem fl_won {c i : Nat} {σ : Sg} {v : Int32} (h : i < 4) : fl c (u2 σ (c + 2) i v) = upd (fl c σ) (10 + i) v := by
  funext j
  simp only [fl, upd_app, u2_app, sw]
  grind
theorem fl_rain {c i : Nat} {σ : Sg} {v : Int32} (h : i < 10) : fl c (u2 σ (c + 1) i v) = upd (fl c σ) (14 + i) v := by
  funext j
  simp only [fl, upd_app, u2_app, sw]
  grind
theorem fl_s0 {c s : Nat} {σ : Sg} {v : Int32} (h : s < 7) : fl c (u2 σ (c + 13 + 2 * s) 0 v) = upd (fl c σ) (24 + 23 * s + 0) v := by
  funext j
  simp only [fl, upd_app, u2_app, sw]
  grind
theorem fl_s1 {c s : Nat} {σ : Sg} {v : Int32} (h : s < 7) : fl c (u2 σ (c + 13 + 2 * s) 1 v) = upd (fl c σ) (24 + 23 * s + 1) v := by
  funext j
  simp only [fl, upd_app, u2_app, sw]
  grind
theorem fl_s2 {c s : Nat} {σ : Sg} {v : Int32} (h : s < 7) : fl c (u2 σ (c + 13 + 2 * s) 2 v) = upd (fl c σ) (24 + 23 * s + 2) v := by
  funext j
  simp only [fl, upd_app, u2_app, sw]
  grind
theorem fl_s3 {c s : Nat} {σ : Sg} {v : Int32} (h : s < 7) : fl c (u2 σ (c + 13 + 2 * s) 3 v) = upd (fl c σ) (24 + 23 * s + 3) v := by
  funext j
  simp only [fl, upd_app, u2_app, sw]
  grind
theorem fl_s4 {c s : Nat} {σ : Sg} {v : Int32} (h : s < 7) : fl c (u2 σ (c + 13 + 2 * s) 5 v) = upd (fl c σ) (24 + 23 * s + 4) v := by
  funext j
  simp only [fl, upd_app, u2_app, sw]
  grind
theorem fl_s5 {c s : Nat} {σ : Sg} {v : Int32} (h : s < 7) : fl c (u2 σ (c + 13 + 2 * s) 6 v) = upd (fl c σ) (24 + 23 * s + 5) v := by
  funext j
  simp only [fl, upd_app, u2_app, sw]
  grind
theorem fl_s6 {c s : Nat} {σ : Sg} {v : Int32} (h : s < 7) : fl c (u2 σ (c + 13 + 2 * s) 4 v) = upd (fl c σ) (24 + 23 * s + 6) v := by
  funext j
  simp only [fl, upd_app, u2_app, sw]
  grind
theorem fl_sx7 {c s : Nat} {σ : Sg} {v : Int32} : fl c (u2 σ (c + 13 + 2 * s) 7 v) = fl c σ := by
  funext j
  simp only [fl, upd_app, u2_app, sw]
  grind
theorem fl_sx8 {c s : Nat} {σ : Sg} {v : Int32} : fl c (u2 σ (c + 13 + 2 * s) 8 v) = fl c σ := by
  funext j
  simp only [fl, upd_app, u2_app, sw]
  grind
theorem fl_sx9 {c s : Nat} {σ : Sg} {v : Int32} : fl c (u2 σ (c + 13 + 2 * s) 9 v) = fl c σ := by
  funext j
  simp only [fl, upd_app, u2_app, sw]
  grind
theorem fl_sh {c s i : Nat} {σ : Sg} {v : Int32} (h : s < 7) (hi : i < 16) : fl c (u2 σ (c + 13 + 2 * s + 1) i v) = upd (fl c σ) (24 + 23 * s + 7 + i) v := by
  funext j
  simp only [fl, upd_app, u2_app, sw]
  grind
theorem fl_c0 {c k : Nat} {σ : Sg} {v : Int32} : fl c (u2 σ (c + 4 + 1) k v) = upd (fl c σ) (185 + 8 * k + 0) v := by
  funext j
  simp only [fl, upd_app, u2_app, sw]
  grind
theorem fl_c1 {c k : Nat} {σ : Sg} {v : Int32} : fl c (u2 σ (c + 4 + 2) k v) = upd (fl c σ) (185 + 8 * k + 1) v := by
  funext j
  simp only [fl, upd_app, u2_app, sw]
  grind
theorem fl_c2 {c k : Nat} {σ : Sg} {v : Int32} : fl c (u2 σ (c + 4 + 3) k v) = upd (fl c σ) (185 + 8 * k + 2) v := by
  funext j
  simp only [fl, upd_app, u2_app, sw]
  grind
theorem fl_c3 {c k : Nat} {σ : Sg} {v : Int32} : fl c (u2 σ (c + 4 + 4) k v) = upd (fl c σ) (185 + 8 * k + 3) v := by
  funext j
  simp only [fl, upd_app, u2_app, sw]
  grind
theorem fl_c4 {c k : Nat} {σ : Sg} {v : Int32} : fl c (u2 σ (c + 4 + 5) k v) = upd (fl c σ) (185 + 8 * k + 4) v := by
  funext j
  simp only [fl, upd_app, u2_app, sw]
  grind
theorem fl_c6 {c k : Nat} {σ : Sg} {v : Int32} : fl c (u2 σ (c + 4 + 7) k v) = upd (fl c σ) (185 + 8 * k + 6) v := by
  funext j
  simp only [fl, upd_app, u2_app, sw]
  grind
theorem fl_c7 {c k : Nat} {σ : Sg} {v : Int32} : fl c (u2 σ (c + 4 + 8) k v) = upd (fl c σ) (185 + 8 * k + 7) v := by
  funext j
  simp only [fl, upd_app, u2_app, sw]
  grind
theorem fl_c5 {c k : Nat} {σ : Sg} {v : Int32} : fl c (u2 σ (c + 4 + 6) k v) = upd (fl c σ) (185 + 8 * k + 5) (hw v) := by
  funext j
  simp only [fl, upd_app, u2_app, sw]
  grind
theorem fl_ft {c : Nat} {σ : Sg} {v : Int32} : fl c (u2 σ (c + 4) 1 v) = fl c σ := by
  funext j
  simp only [fl, upd_app, u2_app, sw]
  grind
theorem fl_ext {c : Nat} {σ σ' : Sg} (h : ∀ a, c ≤ a → a < c + 27 → σ' a = σ a) (i : Nat) (hi : i < 1785) : fl c σ' i = fl c σ i := by
  simp only [fl, sw]
  grind
theorem fr_0 {c : Nat} {σ : Sg} : fl c σ 0 = σ c 0 := by simp [fl]
theorem fr_1 {c : Nat} {σ : Sg} : fl c σ 1 = σ c 1 := by simp [fl]
theorem fr_2 {c : Nat} {σ : Sg} : fl c σ 2 = σ c 2 := by simp [fl]
theorem fr_3 {c : Nat} {σ : Sg} : fl c σ 3 = σ c 3 := by simp [fl]
theorem fr_4 {c : Nat} {σ : Sg} : fl c σ 4 = σ c 4 := by simp [fl]
theorem fr_5 {c : Nat} {σ : Sg} : fl c σ 5 = σ c 5 := by simp [fl]
theorem fr_6 {c : Nat} {σ : Sg} : fl c σ 6 = σ c 6 := by simp [fl]
theorem fr_7 {c : Nat} {σ : Sg} : fl c σ 7 = σ c 7 := by simp [fl]
theorem fr_8 {c : Nat} {σ : Sg} : fl c σ 8 = σ c 10 := by simp [fl]
theorem fr_9 {c : Nat} {σ : Sg} : fl c σ 9 = σ (c + 4) 0 := by simp [fl]
theorem fr_won {c i : Nat} {σ : Sg} (h : i < 4) : fl c σ (10 + i) = σ (c + 2) i := by
  simp only [fl]
  grind
theorem fr_rain {c i : Nat} {σ : Sg} (h : i < 10) : fl c σ (14 + i) = σ (c + 1) i := by
  simp only [fl]
  grind
theorem fr_s0 {c s : Nat} {σ : Sg} (h : s < 7) : fl c σ (24 + 23 * s + 0) = σ (c + 13 + 2 * s) 0 := by
  simp only [fl, sw]
  grind
theorem fr_s1 {c s : Nat} {σ : Sg} (h : s < 7) : fl c σ (24 + 23 * s + 1) = σ (c + 13 + 2 * s) 1 := by
  simp only [fl, sw]
  grind
theorem fr_s2 {c s : Nat} {σ : Sg} (h : s < 7) : fl c σ (24 + 23 * s + 2) = σ (c + 13 + 2 * s) 2 := by
  simp only [fl, sw]
  grind
theorem fr_s3 {c s : Nat} {σ : Sg} (h : s < 7) : fl c σ (24 + 23 * s + 3) = σ (c + 13 + 2 * s) 3 := by
  simp only [fl, sw]
  grind
theorem fr_s4 {c s : Nat} {σ : Sg} (h : s < 7) : fl c σ (24 + 23 * s + 4) = σ (c + 13 + 2 * s) 5 := by
  simp only [fl, sw]
  grind
theorem fr_s5 {c s : Nat} {σ : Sg} (h : s < 7) : fl c σ (24 + 23 * s + 5) = σ (c + 13 + 2 * s) 6 := by
  simp only [fl, sw]
  grind
theorem fr_s6 {c s : Nat} {σ : Sg} (h : s < 7) : fl c σ (24 + 23 * s + 6) = σ (c + 13 + 2 * s) 4 := by
  simp only [fl, sw]
  grind
theorem fr_sh {c s i : Nat} {σ : Sg} (h : s < 7) (hi : i < 16) : fl c σ (24 + 23 * s + 7 + i) = σ (c + 13 + 2 * s + 1) i := by
  simp only [fl, sw]
  grind
theorem fr_c0 {c k : Nat} {σ : Sg} : fl c σ (185 + 8 * k + 0) = σ (c + 4 + 1) k := by
  simp only [fl, sw]
  grind
theorem fr_c1 {c k : Nat} {σ : Sg} : fl c σ (185 + 8 * k + 1) = σ (c + 4 + 2) k := by
  simp only [fl, sw]
  grind
theorem fr_c2 {c k : Nat} {σ : Sg} : fl c σ (185 + 8 * k + 2) = σ (c + 4 + 3) k := by
  simp only [fl, sw]
  grind
theorem fr_c3 {c k : Nat} {σ : Sg} : fl c σ (185 + 8 * k + 3) = σ (c + 4 + 4) k := by
  simp only [fl, sw]
  grind
theorem fr_c4 {c k : Nat} {σ : Sg} : fl c σ (185 + 8 * k + 4) = σ (c + 4 + 5) k := by
  simp only [fl, sw]
  grind
theorem fr_c6 {c k : Nat} {σ : Sg} : fl c σ (185 + 8 * k + 6) = σ (c + 4 + 7) k := by
  simp only [fl, sw]
  grind
theorem fr_c7 {c k : Nat} {σ : Sg} : fl c σ (185 + 8 * k + 7) = σ (c + 4 + 8) k := by
  simp only [fl, sw]
  grind
theorem fr_c5 {c k : Nat} {σ : Sg} : fl c σ (185 + 8 * k + 5) = hw (σ (c + 4 + 6) k) := by
  simp only [fl, sw]
  grind
