/-! one call that changes something: a record is kept first, on both sides -/
theorem w4_49 {τ : Sg} {g : Nat → Int32} : ∃ b, w4 τ g = w49 τ g b := ⟨_, w49_w⟩
/-- the class's now through an order on it -/
theorem gr_of {c : Nat} {σ : Sg} {f : Nat → Int32} (h : FR c σ f) : GR c σ f (fun s => σ (c + 13 + 2 * s) 9) σ := ⟨h, fun _ _ => rfl, fun _ _ => rfl⟩
theorem nle30 : ¬ (3 : Int32) ≤ 0 := by decide
theorem nle20 : ¬ (2 : Int32) ≤ 0 := by decide
