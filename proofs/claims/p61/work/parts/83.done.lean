/-! an order done by the second side -/
theorem w4_w49 {τ : Sg} {g : Nat → Int32} : w4 τ g = w49 τ g (τ 199) := w49_w
