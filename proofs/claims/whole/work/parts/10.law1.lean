set_option maxRecDepth 100000 in
theorem okl_505 : okB 213 505 518 B_213_505 = true := by decide +kernel
set_option maxRecDepth 100000 in
theorem okl_518 : okB 213 518 541 B_213_518 = true := by decide +kernel
set_option maxRecDepth 100000 in
theorem okl_541 : okB 213 541 554 B_213_541 = true := by decide +kernel
set_option maxRecDepth 100000 in
theorem okl_554 : okB 213 554 587 B_213_554 = true := by decide +kernel
set_option maxRecDepth 100000 in
theorem okl_587 : okB 213 587 620 B_213_587 = true := by decide +kernel
set_option maxRecDepth 100000 in
theorem okl_620 : okB 213 620 663 B_213_620 = true := by decide +kernel
set_option maxRecDepth 100000 in
theorem okl_663 : okB 213 663 696 B_213_663 = true := by decide +kernel
set_option maxRecDepth 100000 in
theorem okl_696 : okB 213 696 739 B_213_696 = true := by decide +kernel
set_option maxRecDepth 100000 in
theorem okl_739 : okB 213 739 782 B_213_739 = true := by decide +kernel
set_option maxRecDepth 100000 in
theorem okl_782 : okB 213 782 815 B_213_782 = true := by decide +kernel
