def s_moves (f : Nat → Int32) (k : Nat) : Nat → Int32 :=
  let g := upd f (185 + 8 * k + 6) 0
  if g (185 + 8 * k + 5) = 0 then
    (if f (185 + 8 * k + 4) = 11 then upd (upd g (185 + 8 * k + 5) 1) (185 + 8 * k + 4) (f (185 + 8 * k + 4) - 1) else upd (upd g (185 + 8 * k + 5) 0) (185 + 8 * k + 4) (f (185 + 8 * k + 4) + 1))
  else if f (185 + 8 * k + 4) = 0 then s_home g k else upd g (185 + 8 * k + 4) (f (185 + 8 * k + 4) - 1)
theorem m_moves {τ : Sg} {k : Nat} (hk : k < 200) : f_X5_moves τ (nI k) = some (w4 τ (s_moves (τ 194) k)) := by
  unfold f_X5_moves s_moves
  simp only [m_of4 hk, m_ly6 hk, m_of5 hk, m_ly5 hk, m_ly4 hk, m_home hk, b1_some, w4_194, w4_w4]
  repeat' split
  all_goals rfl
/-- the mood's step at the turn's begin -/
def s_actS (f : Nat → Int32) (r : Int32) (k : Nat) : Nat → Int32 := match s_openOn f (f (185 + 8 * k + 4)) with
  | none => s_feels f k (-(r / 2))
  | some s => if f (24 + 23 * s + 3) = 0 then s_feels f k (-(r / 2)) else f
/-- where the child plays, if it does -/
def s_actP (f b : Nat → Int32) (r : Int32) (k : Nat) : Option Nat := match s_openOn f (f (185 + 8 * k + 4)) with
  | none => none
  | some s => if s_actS f r k (185 + 8 * k + 1) = 0 then none else if s_wants (s_actS f r k) k s = 0 then none else if b s = 0 then some s else none
def s_act (f b : Nat → Int32) (r : Int32) (k : Nat) : Nat → Int32 :=
  if s_actS f r k (185 + 8 * k + 1) = 0 then s_home (s_actS f r k) k
  else match s_actP f b r k with
    | none => s_moves (s_actS f r k) k
    | some s => s_playsAt (s_actS f r k) k s
def s_actB (f b : Nat → Int32) (r : Int32) (k : Nat) : Nat → Int32 := match s_actP f b r k with
  | none => b
  | some s => upd b s 1
theorem s_wants_2 {f : Nat → Int32} {k s : Nat} (h : ¬ s_wants f k s = 0) : ¬ f (185 + 8 * k + 0) < f (24 + 23 * s + 2) ∧ ¬ 2 ≤ f (185 + 8 * k + 6) ∧ ¬ s_likes f k s = 0 := by
  unfold s_wants at h
  split at h
  · assumption
  · exact absurd rfl h
theorem s_mood_in {m v : Int32} : vp_in (s_mood m v) 101 := by
  unfold s_mood
  split
  · rename_i h1
    split
    · rename_i h2
      rw [tI_le] at h1 h2
      rw [show (0 : Int32).toInt = 0 from by decide] at h1
      rw [show (100 : Int32).toInt = 100 from by decide] at h2
      exact vp_tI h1 (by omega)
    · exact vp_lit (by decide)
  · exact vp_lit (by decide)
theorem s_feels_o {f : Nat → Int32} {k i : Nat} {v : Int32} (h : i ≠ 185 + 8 * k + 1) : s_feels f k v i = f i := upd_n h
theorem SW.feels {f : Nat → Int32} {k t : Nat} {v : Int32} (ht : t < 7) (h : SW f t) : SW (s_feels f k v) t := by
  obtain ⟨a1, a2, a3, a4, a5, a6, a7⟩ := h
  refine ⟨?_, ?_, ?_, ?_, ?_, ?_, fun i hi => ?_⟩
  all_goals rw [s_feels_o (by omega)]
  all_goals first
    | assumption
    | exact a7 i hi
theorem CW.feels {f : Nat → Int32} {k q : Nat} {v : Int32} (h : CW f q) : CW (s_feels f k v) q := by
  obtain ⟨a1, a2, a3, a4, a5, a6⟩ := h
  refine ⟨?_, ?_, ?_, ?_, ?_, ?_⟩
  · by_cases hq : q = k
    · subst hq
      rw [s_feels, upd_s]
      exact s_mood_in
    · rw [s_feels_o (by omega)]; exact a1
  · rw [s_feels_o (by omega)]; exact a2
  · rw [s_feels_o (by omega)]; exact a3
  · rw [s_feels_o (by omega), s_feels_o (by omega)]; exact a4
  · rw [s_feels_o (by omega)]; exact a5
  · rw [s_feels_o (by omega)]; exact a6
theorem w49_w4 {τ : Sg} {g h b : Nat → Int32} : w49 (w4 τ g) h b = w49 τ h b := by
  funext a
  unfold w4 w49
  split
  · rfl
  · rename_i hq
    simp only [if_neg hq]
theorem w49_w49 {τ : Sg} {g b h d : Nat → Int32} : w49 (w49 τ g b) h d = w49 τ h d := by
  funext a
  unfold w49
  repeat' split
  all_goals rfl
theorem m_actT {T : Sg} {k s : Nat} (hk : k < 200) (hs : s < 7) (hw : SW (T 194) s) (hc : CW (T 194) k) : (if T 194 (185 + 8 * k + 1) = 0 then some (w4 T (s_home (T 194) k)) else if s_wants (T 194) k s = 0 then some (w4 T (s_moves (T 194) k)) else gd (nI s) 7 (if T 199 (nI s).toNatClampNeg = 0 then b1 (f_X5_playsAt T (nI k) (nI s)) fun σ31 => some σ31 else some (w4 T (s_moves (T 194) k)))) = some (w49 T (if T 194 (185 + 8 * k + 1) = 0 then s_home (T 194) k else match (if T 194 (185 + 8 * k + 1) = 0 then none else if s_wants (T 194) k s = 0 then none else if T 199 s = 0 then some s else none : Option Nat) with
    | none => s_moves (T 194) k
    | some s => s_playsAt (T 194) k s) (match (if T 194 (185 + 8 * k + 1) = 0 then none else if s_wants (T 194) k s = 0 then none else if T 199 s = 0 then some s else none : Option Nat) with
    | none => T 199
    | some s => upd (T 199) s 1)) := by
  by_cases h0 : T 194 (185 + 8 * k + 1) = 0
  · simp only [if_pos h0]
    rw [w49_w]
  · simp only [if_neg h0]
    by_cases h1 : s_wants (T 194) k s = 0
    · simp only [if_pos h1]
      rw [w49_w]
    · simp only [if_neg h1]
      rw [gd_ok rfl hs (by omega), cl_nI (by omega)]
      by_cases h2 : T 199 s = 0
      · simp only [if_pos h2]
        rw [m_playsAt hk hs hw hc (s_wants_2 h1).2.1]
        rfl
      · simp only [if_neg h2]
        rw [w49_w]
theorem m_acts {τ : Sg} {r : Int32} {k : Nat} (hw : WB (τ 194)) (hk : k < nC (τ 194)) : f_X5_acts τ (nI k) r = some (w49 τ (s_act (τ 194) (τ 199) r k) (s_actB (τ 194) (τ 199) r k)) := by
  have hc := hw.c200
  have h7 := hw.s7
  have hk2 : k < 200 := by omega
  have hCk := hw.ch k hk
  unfold f_X5_acts s_act s_actB s_actP s_actS f_X5_half
  rw [m_of4 hk2, b1_some, m_openOn hw.ns, b1_some]
  cases ho : s_openOn (τ 194) (τ 194 (185 + 8 * k + 4)) with
  | none =>
    rw [oI_none, if_pos rfl]
    simp only [b1_some, m_feels hk2, m_of1 hk2, m_home hk2, m_moves hk2, if_true, w4_194, w4_w4]
    split
    · rw [w49_w]
    · rw [w49_w]
  | some s =>
    obtain ⟨h1, h2, h3⟩ := s_openOn_lt ho
    have hs : s < 7 := by omega
    have hSs := hw.st s h1
    rw [oI_some, if_neg (nI_neg1 (by omega))]
    simp only [m_it3 hs, b1_some, m_feels hk2, m_of1 hk2, m_home hk2, m_moves hk2, m_wants hk2 hs, if_neg (nI_neg1 (show s < 1000000 by omega)), w4_194, w4_w4]
    by_cases hr : τ 194 (24 + 23 * s + 3) = 0
    · simp only [if_pos hr]
      have := m_actT (T := w4 τ (s_feels (τ 194) k (-(r / 2)))) hk2 hs (SW.feels hs hSs) (CW.feels hCk)
      simp only [w4_194, w4_w4, w49_w4, w4_o (show 199 ≠ 194 by decide)] at this
      exact this
    · simp only [if_neg hr]
      exact m_actT hk2 hs hSs hCk
