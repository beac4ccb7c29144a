theorem tst_sync : goodWord (.codeSync Bundle.tFill Fill.code 1 (some (.object Bundle.tN))) = true := by decide +kernel
theorem tst_a : (Bundle.throwableAtoms.filter vx_no).all goodWord = true := by decide +kernel
theorem tst_b : (Bundle.throwableSAtoms.filter vx_no).all goodWord = true := by decide +kernel
theorem tst_c : ((Bundle.chainSAtoms "java/lang/IllegalArgumentException" ["java/lang/RuntimeException", "java/lang/Exception"]).filter vx_no).all goodWord = true := by decide +kernel
theorem tst_n : ((vx_atS RX6 63 "java/lang/IllegalArgumentException" ["java/lang/RuntimeException", "java/lang/Exception"]).filter (fun w => !goodWord w)).length = 1 := by decide +kernel
theorem tst_n2 : ((vx_atS RX6 63 "java/lang/IllegalArgumentException" ["java/lang/RuntimeException", "java/lang/Exception"]).filter (fun w => !goodWord w)).length = 2 := by decide +kernel
theorem tst_e : ((vx_atS RX6 63 "java/lang/IllegalArgumentException" ["java/lang/RuntimeException", "java/lang/Exception"]).filter (fun w => !goodWord w)).all (fun w => decide (w = .castable "java/lang/IllegalArgumentException" "java/lang/IllegalArgumentException")) = true := by decide +kernel
