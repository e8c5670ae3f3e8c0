set_option maxRecDepth 100000 in
theorem okl_18 : okB 213 18 188 B_213_18 = true := by decide +kernel
set_option maxRecDepth 100000 in
theorem okl_188 : okB 213 188 211 B_213_188 = true := by decide +kernel
set_option maxRecDepth 100000 in
theorem okl_211 : okB 213 211 264 B_213_211 = true := by decide +kernel
set_option maxRecDepth 100000 in
theorem okl_264 : okB 213 264 307 B_213_264 = true := by decide +kernel
set_option maxRecDepth 100000 in
theorem okl_307 : okB 213 307 350 B_213_307 = true := by decide +kernel
set_option maxRecDepth 100000 in
theorem okl_350 : okB 213 350 413 B_213_350 = true := by decide +kernel
set_option maxRecDepth 100000 in
theorem okl_413 : okB 213 413 436 B_213_413 = true := by decide +kernel
set_option maxRecDepth 100000 in
theorem okl_436 : okB 213 436 469 B_213_436 = true := by decide +kernel
set_option maxRecDepth 100000 in
theorem okl_469 : okB 213 469 492 B_213_469 = true := by decide +kernel
set_option maxRecDepth 100000 in
theorem okl_492 : okB 213 492 505 B_213_492 = true := by decide +kernel
