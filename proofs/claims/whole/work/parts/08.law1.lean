theorem dl_5 : okDec code (((rowsT 177).drop 230).take 46) = true := by decide +kernel
theorem dl_6 : okDec code (((rowsT 177).drop 276).take 46) = true := by decide +kernel
theorem dl_7 : okDec code (((rowsT 177).drop 322).take 46) = true := by decide +kernel
theorem dl_8 : okDec code (((rowsT 177).drop 368).take 46) = true := by decide +kernel
theorem dl_9 : okDec code (((rowsT 177).drop 414).take 46) = true := by decide +kernel
