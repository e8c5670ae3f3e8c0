set_option maxRecDepth 100000 in
theorem okl_815 : okB 213 815 858 B_213_815 = true := by decide +kernel
set_option maxRecDepth 100000 in
theorem okl_858 : okB 213 858 911 B_213_858 = true := by decide +kernel
set_option maxRecDepth 100000 in
theorem okl_911 : okB 213 911 954 B_213_911 = true := by decide +kernel
set_option maxRecDepth 100000 in
theorem okl_954 : okB 213 954 1007 B_213_954 = true := by decide +kernel
set_option maxRecDepth 100000 in
theorem okl_1007 : okB 213 1007 1030 B_213_1007 = true := by decide +kernel
set_option maxRecDepth 100000 in
theorem okl_1030 : okB 213 1030 1053 B_213_1030 = true := by decide +kernel
set_option maxRecDepth 100000 in
theorem okl_1053 : okB 213 1053 1096 B_213_1053 = true := by decide +kernel
set_option maxRecDepth 100000 in
theorem okl_1096 : okB 213 1096 1129 B_213_1096 = true := by decide +kernel
set_option maxRecDepth 100000 in
theorem okl_1129 : okB 213 1129 1142 B_213_1129 = true := by decide +kernel
set_option maxRecDepth 100000 in
theorem okl_1142 : okB 213 1142 1165 B_213_1142 = true := by decide +kernel
