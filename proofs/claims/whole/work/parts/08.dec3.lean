theorem dk_177 : okDec (mB 177) (rowsT 177) = true := by decide +kernel
