set_option maxRecDepth 100000 in
theorem okl_1165 : okB 213 1165 1188 B_213_1165 = true := by decide +kernel
set_option maxRecDepth 100000 in
theorem okl_1188 : okB 213 1188 1232 B_213_1188 = true := by decide +kernel
set_option maxRecDepth 100000 in
theorem okl_1232 : okB 213 1232 1275 B_213_1232 = true := by decide +kernel
set_option maxRecDepth 100000 in
theorem okl_1275 : okB 213 1275 1298 B_213_1275 = true := by decide +kernel
set_option maxRecDepth 100000 in
theorem okl_1298 : okB 213 1298 1321 B_213_1298 = true := by decide +kernel
set_option maxRecDepth 100000 in
theorem okl_1321 : okB 213 1321 1344 B_213_1321 = true := by decide +kernel
set_option maxRecDepth 100000 in
theorem okl_1344 : okB 213 1344 1350 B_213_1344 = true := by decide +kernel
set_option maxRecDepth 100000 in
theorem okl_1350 : okB 213 1350 1352 B_213_1350 = true := by decide +kernel
