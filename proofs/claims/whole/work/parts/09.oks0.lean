set_option maxRecDepth 100000 in
theorem ok_0 : okKs [0, 1, 2, 3, 4, 5, 6, 7] = true := by decide +kernel
set_option maxRecDepth 100000 in
theorem ok_8 : okKs [8, 9, 10, 11, 12, 13, 14, 15] = true := by decide +kernel
set_option maxRecDepth 100000 in
theorem ok_16 : okKs [16, 17, 18, 19, 20, 21, 22, 23] = true := by decide +kernel
set_option maxRecDepth 100000 in
theorem ok_24 : okKs [24, 25, 26, 27, 28, 29, 30, 31] = true := by decide +kernel
set_option maxRecDepth 100000 in
theorem ok_32 : okKs [32, 33, 34, 35, 36, 37, 38, 39] = true := by decide +kernel
set_option maxRecDepth 100000 in
theorem ok_40 : okKs [40, 41, 42, 43, 44, 45, 46, 47] = true := by decide +kernel
set_option maxRecDepth 100000 in
theorem ok_48 : okKs [48, 49, 50, 51, 52, 53, 54, 55] = true := by decide +kernel
set_option maxRecDepth 100000 in
theorem ok_56 : okKs [56, 57, 58, 59, 60, 61, 62, 63] = true := by decide +kernel
set_option maxRecDepth 100000 in
theorem ok_64 : okKs [64, 65, 66, 67, 68, 69, 70, 71] = true := by decide +kernel
