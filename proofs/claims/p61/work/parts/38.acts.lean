def s_moves (f : Nat → Int32) (k : Nat) : Nat → Int32 :=
  let g := upd f (185 + 8 * k + 6) 0
  if g (185 + 8 * k + 5) = 0 then
    (if f (185 + 8 * k + 4) = 11 then upd (upd g (185 + 8 * k + 5) 1) (185 + 8 * k + 4) (f (185 + 8 * k + 4) - 1) else upd (upd g (185 + 8 * k + 5) 0) (185 + 8 * k + 4) (f (185 + 8 * k + 4) + 1))
  else if f (185 + 8 * k + 4) = 0 then s_home g k else upd g (185 + 8 * k + 4) (f (185 + 8 * k + 4) - 1)
/-- the mood's step at the turn's begin -/
def s_actS (f : Nat → Int32) (r : Int32) (k : Nat) : Nat → Int32 := match s_openOn f (f (185 + 8 * k + 4)) with
  | none => s_feels f k (-(r / 2))
  | some s => if f (24 + 23 * s + 3) = 0 then s_feels f k (-(r / 2)) else f
/-- where the child plays, if it does -/
def s_actP (f b : Nat → Int32) (r : Int32) (k : Nat) : Option Nat := match s_openOn f (f (185 + 8 * k + 4)) with
  | none => none
  | some s => if s_actS f r k (185 + 8 * k + 1) = 0 then none else if s_wants (s_actS f r k) k s = 0 then none else if b s = 0 then some s else none
def s_act (f b : Nat → Int32) (r : Int32) (k : Nat) : Nat → Int32 :=
  if s_actS f r k (185 + 8 * k + 1) = 0 then s_home (s_actS f r k) k
  else match s_actP f b r k with
    | none => s_moves (s_actS f r k) k
    | some s => s_playsAt (s_actS f r k) k s
def s_actB (f b : Nat → Int32) (r : Int32) (k : Nat) : Nat → Int32 := match s_actP f b r k with
  | none => b
  | some s => upd b s 1
theorem s_wants_2 {f : Nat → Int32} {k s : Nat} (h : ¬ s_wants f k s = 0) : ¬ f (185 + 8 * k + 0) < f (24 + 23 * s + 2) ∧ ¬ 2 ≤ f (185 + 8 * k + 6) ∧ ¬ s_likes f k s = 0 := by
  unfold s_wants at h
  split at h
  · assumption
  · exact absurd rfl h
theorem s_mood_in {m v : Int32} : vp_in (s_mood m v) 101 := by
  unfold s_mood
  split
  · rename_i h1
    split
    · rename_i h2
      rw [tI_le] at h1 h2
      rw [show (0 : Int32).toInt = 0 from by decide] at h1
      rw [show (100 : Int32).toInt = 100 from by decide] at h2
      exact vp_tI h1 (by omega)
    · exact vp_lit (by decide)
  · exact vp_lit (by decide)
theorem s_feels_o {f : Nat → Int32} {k i : Nat} {v : Int32} (h : i ≠ 185 + 8 * k + 1) : s_feels f k v i = f i := upd_n h
theorem SW.feels {f : Nat → Int32} {k t : Nat} {v : Int32} (ht : t < 7) (h : SW f t) : SW (s_feels f k v) t := by
  obtain ⟨a1, a2, a3, a4, a5, a6, a7⟩ := h
  refine ⟨?_, ?_, ?_, ?_, ?_, ?_, fun i hi => ?_⟩
  all_goals rw [s_feels_o (by omega)]
  all_goals first
    | assumption
    | exact a7 i hi
theorem CW.feels {f : Nat → Int32} {k q : Nat} {v : Int32} (h : CW f q) : CW (s_feels f k v) q := by
  obtain ⟨a1, a2, a3, a4, a5, a6⟩ := h
  refine ⟨?_, ?_, ?_, ?_, ?_, ?_⟩
  · by_cases hq : q = k
    · subst hq
      rw [s_feels, upd_s]
      exact s_mood_in
    · rw [s_feels_o (by omega)]; exact a1
  · rw [s_feels_o (by omega)]; exact a2
  · rw [s_feels_o (by omega)]; exact a3
  · rw [s_feels_o (by omega), s_feels_o (by omega)]; exact a4
  · rw [s_feels_o (by omega)]; exact a5
  · rw [s_feels_o (by omega)]; exact a6
theorem w49_w4 {τ : Sg} {g h b : Nat → Int32} : w49 (w4 τ g) h b = w49 τ h b := by
  funext a
  unfold w4 w49
  split
  · rfl
  · rename_i hq
    simp only [if_neg hq]
theorem w49_w49 {τ : Sg} {g b h d : Nat → Int32} : w49 (w49 τ g b) h d = w49 τ h d := by
  funext a
  unfold w49
  repeat' split
  all_goals rfl
