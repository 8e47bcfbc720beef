theorem dl_10 : okDec code (((rowsT 177).drop 460).take 46) = true := by decide +kernel
theorem dl_11 : okDec code (((rowsT 177).drop 506).take 46) = true := by decide +kernel
theorem dl_12 : okDec code (((rowsT 177).drop 552).take 46) = true := by decide +kernel
theorem dl_13 : okDec code (((rowsT 177).drop 598).take 46) = true := by decide +kernel
theorem dl_14 : okDec code (((rowsT 177).drop 644).take 46) = true := by decide +kernel
