theorem tt1 : (vx_at0 RX7 84 "java/lang/IllegalArgumentException" ["java/lang/RuntimeException", "java/lang/Exception"]).all (fun w => zok w && vx_ot w) = true := by decide +kernel
theorem tt3 : (vx_at0 RX7 140 "java/util/NoSuchElementException" ["java/lang/RuntimeException", "java/lang/Exception"]).all (fun w => zok w && vx_ot w) = true := by decide +kernel
theorem tt4 : (vx_at0 RX7 140 "java/util/NoSuchElementException" ["java/lang/RuntimeException", "java/lang/Exception"]).all (fun w => decide (w ∈ lw_tbl)) = true := by decide +kernel
