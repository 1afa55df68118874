theorem k_limA_ok : k_limA 9223372036854775808000 0 0 0 = true := by decide +kernel
