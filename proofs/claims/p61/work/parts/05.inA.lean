theorem inA0 : ∀ w ∈ u_ws RX0 TX0 10, w ∈ ALL := by decide +kernel
theorem inA1 : ∀ w ∈ u_ws RX1 TX1 13, w ∈ ALL := by decide +kernel
theorem inA2 : ∀ w ∈ u_ws RX2 TX2 11, w ∈ ALL := by decide +kernel
theorem inA3 : ∀ w ∈ u_ws RX3 TX3 11, w ∈ ALL := by decide +kernel
theorem inA4 : ∀ w ∈ u_ws RX4 TX4 8, w ∈ ALL := by decide +kernel
