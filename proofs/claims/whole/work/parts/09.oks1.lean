set_option maxRecDepth 100000 in
theorem ok_72 : okKs [72, 73, 74, 75, 76, 77, 78, 79] = true := by decide +kernel
set_option maxRecDepth 100000 in
theorem ok_80 : okKs [80, 81, 82, 83, 84, 85, 86, 87] = true := by decide +kernel
set_option maxRecDepth 100000 in
theorem ok_88 : okKs [88, 89, 90, 91, 92, 93, 94, 95] = true := by decide +kernel
set_option maxRecDepth 100000 in
theorem ok_96 : okKs [96, 97, 98, 99, 100, 101, 102, 103] = true := by decide +kernel
set_option maxRecDepth 100000 in
theorem ok_104 : okKs [104, 105, 106, 107, 108, 109, 110, 111] = true := by decide +kernel
set_option maxRecDepth 100000 in
theorem ok_112 : okKs [112, 113, 114, 115, 116, 117, 118, 119] = true := by decide +kernel
set_option maxRecDepth 100000 in
theorem ok_120 : okKs [120, 121, 122, 123, 124, 125, 126, 127] = true := by decide +kernel
set_option maxRecDepth 100000 in
theorem ok_128 : okKs [128, 129, 130, 131, 132, 133, 134, 135] = true := by decide +kernel
set_option maxRecDepth 100000 in
theorem ok_136 : okKs [136, 137, 138, 139, 140, 141, 142, 143] = true := by decide +kernel
