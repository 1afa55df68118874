theorem k_limF_ok : k_last k_end LE 4 0 0 = true := by decide +kernel
