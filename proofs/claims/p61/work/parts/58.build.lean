/-! a stall built -/
def s_stall (f : Nat → Int32) (s : Nat) (p kd pr rf : Int32) : Nat → Int32 := fun i =>
  if i = 24 + 23 * s + 0 then p else if i = 24 + 23 * s + 1 then kd else if i = 24 + 23 * s + 2 then pr else if i = 24 + 23 * s + 3 then rf else if i = 24 + 23 * s + 6 then 1
  else if 24 + 23 * s ≤ i ∧ i < 24 + 23 * s + 23 then 0 else f i
def s_builds (f : Nat → Int32) (p kd pr rf : Int32) : Nat → Int32 := upd (s_stall f (nS f) p kd pr rf) 8 (f 8 + 1)
def s_zS (s : Nat) : Nat → Nat → (Nat → Int32) → Nat → Int32
  | 0, _, f => f
  | d + 1, i, f => s_zS s d (i + 1) (upd f (24 + 23 * s + i) 0)
theorem s_zS_v {s : Nat} : ∀ (d i : Nat) (f : Nat → Int32) (j : Nat), s_zS s d i f j = if 24 + 23 * s + i ≤ j ∧ j < 24 + 23 * s + i + d then 0 else f j := by
  intro d
  induction d with
  | zero =>
    intro i f j
    rw [s_zS, if_neg (by omega)]
  | succ d ih =>
    intro i f j
    rw [s_zS, ih, upd_app]
    by_cases h1 : 24 + 23 * s + (i + 1) ≤ j ∧ j < 24 + 23 * s + (i + 1) + d
    · rw [if_pos h1, if_pos (by omega)]
    · rw [if_neg h1]
      by_cases h2 : j = 24 + 23 * s + i
      · rw [if_pos h2, if_pos (by omega)]
      · rw [if_neg h2, if_neg (by omega)]
def rfI (r : Int32) : Int32 := if r = 0 then 0 else 1
