theorem fit_3 : Bundle.fit (exn 3) = true := by decide +kernel
theorem thA_3 : Cond.classLink RX4 58 (exn 3) ∈ ALL := by decide +kernel
theorem thB_3 : Cond.initialized (exn 3) ∈ ALL := by decide +kernel
theorem thC_3 : ∀ w ∈ (vx_atS RX4 62 (exn 3) ["java/lang/RuntimeException", "java/lang/Exception"]).filter goodWord, w ∈ ALL := by decide +kernel
theorem thD_3 : ∀ w ∈ (vx_atS RX4 62 (exn 3) ["java/lang/RuntimeException", "java/lang/Exception"]).filter (fun w => !goodWord w), w ∈ NG := by decide +kernel
theorem thE_3 : ∀ w ∈ Cond.classLink RX4 58 (exn 3) :: Cond.initialized (exn 3) :: vx_atS RX4 62 (exn 3) ["java/lang/RuntimeException", "java/lang/Exception"], vx_ot w = true := by decide +kernel
theorem fit_2 : Bundle.fit (exn 2) = true := by decide +kernel
theorem thA_2 : Cond.classLink RX4 100 (exn 2) ∈ ALL := by decide +kernel
theorem thB_2 : Cond.initialized (exn 2) ∈ ALL := by decide +kernel
theorem thC_2 : ∀ w ∈ (vx_atS RX4 104 (exn 2) ["java/lang/RuntimeException", "java/lang/Exception"]).filter goodWord, w ∈ ALL := by decide +kernel
theorem thD_2 : ∀ w ∈ (vx_atS RX4 104 (exn 2) ["java/lang/RuntimeException", "java/lang/Exception"]).filter (fun w => !goodWord w), w ∈ NG := by decide +kernel
theorem thE_2 : ∀ w ∈ Cond.classLink RX4 100 (exn 2) :: Cond.initialized (exn 2) :: vx_atS RX4 104 (exn 2) ["java/lang/RuntimeException", "java/lang/Exception"], vx_ot w = true := by decide +kernel
theorem fit_1 : Bundle.fit (exn 1) = true := by decide +kernel
theorem thA_1 : Cond.classLink RX4 305 (exn 1) ∈ ALL := by decide +kernel
theorem thB_1 : Cond.initialized (exn 1) ∈ ALL := by decide +kernel
theorem thC_1 : ∀ w ∈ (vx_atS RX4 309 (exn 1) ["java/lang/RuntimeException", "java/lang/Exception"]).filter goodWord, w ∈ ALL := by decide +kernel
theorem thD_1 : ∀ w ∈ (vx_atS RX4 309 (exn 1) ["java/lang/RuntimeException", "java/lang/Exception"]).filter (fun w => !goodWord w), w ∈ NG := by decide +kernel
theorem thE_1 : ∀ w ∈ Cond.classLink RX4 305 (exn 1) :: Cond.initialized (exn 1) :: vx_atS RX4 309 (exn 1) ["java/lang/RuntimeException", "java/lang/Exception"], vx_ot w = true := by decide +kernel
