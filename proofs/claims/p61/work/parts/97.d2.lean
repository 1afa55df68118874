theorem k_limC_ok : k_lim 80 80 (k_at LC) LA 4 0 0 = true := by decide +kernel
