theorem dl_0 : okDec code (((rowsT 177).drop 0).take 46) = true := by decide +kernel
theorem dl_1 : okDec code (((rowsT 177).drop 46).take 46) = true := by decide +kernel
theorem dl_2 : okDec code (((rowsT 177).drop 92).take 46) = true := by decide +kernel
theorem dl_3 : okDec code (((rowsT 177).drop 138).take 46) = true := by decide +kernel
theorem dl_4 : okDec code (((rowsT 177).drop 184).take 46) = true := by decide +kernel
