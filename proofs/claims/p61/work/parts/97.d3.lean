theorem k_limE_ok : k_limE LC 4 0 0 = true := by decide +kernel
