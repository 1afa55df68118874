/-! a stall paid for, on both sides; rain set -/
theorem c_cst {σ : Sg} {rf : Int32} : f_X4_costOfStall σ rf = some (cst rf) := by
  unfold f_X4_costOfStall cst
  split <;> rfl
theorem c_pays {c : Nat} {σ0 : Sg} {f : Nat → Int32} {σ : Sg} {p kd pr rf : Int32} (h : FR c σ f) (hs : ∀ a, a < c ∨ c + 27 ≤ a → σ a = σ0 a) (hw : WB f) (h7 : nS f < 7) (hrf : vp_in rf 2) : ∃ σ', f_X1_buildStall c σ p kd pr rf = some (nI (nS f), σ') ∧ FR c σ' (s_pays f p kd pr rf) ∧ ∀ a, a < c ∨ c + 27 ≤ a → σ' a = σ0 a := by
  have h0 : GR c σ0 f (fun s => σ (c + 13 + 2 * s) 9) σ := ⟨h, fun _ _ => rfl, hs⟩
  have h1 := (h0.F (i := 0) (v := f 0 - cst rf) (by omega)).F (i := 2) (v := f 2 + cst rf) (by omega)
  have n8 : nS (s_paid f (cst rf)) = nS f := nS_paid
  have n9 : nC (s_paid f (cst rf)) = nC f := by unfold s_paid; rw [nC_upd (by omega), nC_upd (by omega)]
  unfold f_X1_buildStall s_pays
  rw [c_cst, b1_some, h.r0, st_eq, u2_ri (by omega), h.r2, st_eq, rfI_id hrf]
  obtain ⟨σ', x, y, z⟩ := c_addStall (f := s_paid f (cst rf)) (p := p) (kd := kd) (pr := pr) (rf := rf) h1.1 h1.2.2 (by
    unfold s_paid
    rw [upd_n (by omega), upd_n (by omega)]
    exact hw.ns) (by omega) (by have := hw.c200; omega) hrf
  rw [x, b2_some, n8]
  exact ⟨σ', rfl, y, z⟩
/-! rows laid, states saved, in the reference -/
def s_lay (g h : Nat → Int32) (x1 x3 : Nat) : Nat → Int32 := fun j => if x3 ≤ j ∧ j < x3 + 1785 then g (x1 + (j - x3)) else h j
theorem s_lay_in {g h : Nat → Int32} {x1 x3 i : Nat} (hi : i < 1785) : s_lay g h x1 x3 (x3 + i) = g (x1 + i) := by
  unfold s_lay
  rw [if_pos (by omega), show x3 + i - x3 = i by omega]
theorem s_lay_out {g h : Nat → Int32} {x1 x3 j : Nat} (hj : j < x3 ∨ x3 + 1785 ≤ j) : s_lay g h x1 x3 j = h j := by
  unfold s_lay
  rw [if_neg (by omega)]
def kp (m : Nat) : Nat := if m < 4 then m + 1 else 4
def kR (m : Nat) (R : Nat → Nat → Int32) (g : Nat → Int32) : Nat → Nat → Int32 := fun j => if j + 1 = kp m then g else if m < 4 then R j else R (j + 1)
/-- the reference's rows of the recorded states and of the snapshot -/
def RM (τ : Sg) (m : Nat) (R : Nat → Nat → Int32) (hs : Int32) (sn : Nat → Int32) : Prop := (∀ j, j < m → ∀ i, i < 1785 → τ 195 (1785 * j + i) = R j i) ∧ τ 193 2 = nI m ∧ τ 193 4 = hs ∧ (hs = 1 → ∀ i, i < 1785 → τ 196 i = sn i)
