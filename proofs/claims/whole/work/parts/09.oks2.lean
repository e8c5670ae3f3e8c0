set_option maxRecDepth 100000 in
theorem ok_144 : okKs [144, 145, 146, 147, 148, 149, 150, 151] = true := by decide +kernel
set_option maxRecDepth 100000 in
theorem ok_152 : okKs [152, 153, 154, 155, 156, 157, 158, 159] = true := by decide +kernel
set_option maxRecDepth 100000 in
theorem ok_160 : okKs [160, 161, 162, 163, 164, 165, 166, 167] = true := by decide +kernel
set_option maxRecDepth 100000 in
theorem ok_168 : okKs [168, 169, 170, 171, 172, 173, 174, 175] = true := by decide +kernel
set_option maxRecDepth 100000 in
theorem ok_176 : okKs [176, 177, 178, 179, 180, 181, 182, 183] = true := by decide +kernel
set_option maxRecDepth 100000 in
theorem ok_184 : okKs [184, 185, 186, 187, 188, 189, 190, 191] = true := by decide +kernel
set_option maxRecDepth 100000 in
theorem ok_192 : okKs [192, 193, 194, 195, 196, 197, 198, 199] = true := by decide +kernel
set_option maxRecDepth 100000 in
theorem ok_200 : okKs [200, 201, 202, 203, 204, 205, 206, 207] = true := by decide +kernel
set_option maxRecDepth 100000 in
theorem ok_208 : okKs [208, 209, 210, 211, 212] = true := by decide +kernel
theorem ok_mem {ks : List Nat} (h : okKs ks = true) {k : Nat} (hk : k ∈ ks) : ∀ b ∈ blkT.getD k [], okB k b.1 b.2.1 b.2.2 = true := fun b hb => List.all_eq_true.mp (List.all_eq_true.mp h k hk) b hb
theorem ok_all {k : Nat} (hk : k < 213) : ∀ b ∈ blkT.getD k [], okB k b.1 b.2.1 b.2.2 = true := by
  rcases Nat.lt_or_ge k 8 with h0 | h0
  · exact ok_mem ok_0 (k := k) (by simp only [List.mem_cons, List.not_mem_nil, or_false]; omega)
  rcases Nat.lt_or_ge k 16 with h8 | h8
  · exact ok_mem ok_8 (k := k) (by simp only [List.mem_cons, List.not_mem_nil, or_false]; omega)
  rcases Nat.lt_or_ge k 24 with h16 | h16
  · exact ok_mem ok_16 (k := k) (by simp only [List.mem_cons, List.not_mem_nil, or_false]; omega)
  rcases Nat.lt_or_ge k 32 with h24 | h24
  · exact ok_mem ok_24 (k := k) (by simp only [List.mem_cons, List.not_mem_nil, or_false]; omega)
  rcases Nat.lt_or_ge k 40 with h32 | h32
  · exact ok_mem ok_32 (k := k) (by simp only [List.mem_cons, List.not_mem_nil, or_false]; omega)
  rcases Nat.lt_or_ge k 48 with h40 | h40
  · exact ok_mem ok_40 (k := k) (by simp only [List.mem_cons, List.not_mem_nil, or_false]; omega)
  rcases Nat.lt_or_ge k 56 with h48 | h48
  · exact ok_mem ok_48 (k := k) (by simp only [List.mem_cons, List.not_mem_nil, or_false]; omega)
  rcases Nat.lt_or_ge k 64 with h56 | h56
  · exact ok_mem ok_56 (k := k) (by simp only [List.mem_cons, List.not_mem_nil, or_false]; omega)
  rcases Nat.lt_or_ge k 72 with h64 | h64
  · exact ok_mem ok_64 (k := k) (by simp only [List.mem_cons, List.not_mem_nil, or_false]; omega)
  rcases Nat.lt_or_ge k 80 with h72 | h72
  · exact ok_mem ok_72 (k := k) (by simp only [List.mem_cons, List.not_mem_nil, or_false]; omega)
  rcases Nat.lt_or_ge k 88 with h80 | h80
  · exact ok_mem ok_80 (k := k) (by simp only [List.mem_cons, List.not_mem_nil, or_false]; omega)
  rcases Nat.lt_or_ge k 96 with h88 | h88
  · exact ok_mem ok_88 (k := k) (by simp only [List.mem_cons, List.not_mem_nil, or_false]; omega)
  rcases Nat.lt_or_ge k 104 with h96 | h96
  · exact ok_mem ok_96 (k := k) (by simp only [List.mem_cons, List.not_mem_nil, or_false]; omega)
  rcases Nat.lt_or_ge k 112 with h104 | h104
  · exact ok_mem ok_104 (k := k) (by simp only [List.mem_cons, List.not_mem_nil, or_false]; omega)
  rcases Nat.lt_or_ge k 120 with h112 | h112
  · exact ok_mem ok_112 (k := k) (by simp only [List.mem_cons, List.not_mem_nil, or_false]; omega)
  rcases Nat.lt_or_ge k 128 with h120 | h120
  · exact ok_mem ok_120 (k := k) (by simp only [List.mem_cons, List.not_mem_nil, or_false]; omega)
  rcases Nat.lt_or_ge k 136 with h128 | h128
  · exact ok_mem ok_128 (k := k) (by simp only [List.mem_cons, List.not_mem_nil, or_false]; omega)
  rcases Nat.lt_or_ge k 144 with h136 | h136
  · exact ok_mem ok_136 (k := k) (by simp only [List.mem_cons, List.not_mem_nil, or_false]; omega)
  rcases Nat.lt_or_ge k 152 with h144 | h144
  · exact ok_mem ok_144 (k := k) (by simp only [List.mem_cons, List.not_mem_nil, or_false]; omega)
  rcases Nat.lt_or_ge k 160 with h152 | h152
  · exact ok_mem ok_152 (k := k) (by simp only [List.mem_cons, List.not_mem_nil, or_false]; omega)
  rcases Nat.lt_or_ge k 168 with h160 | h160
  · exact ok_mem ok_160 (k := k) (by simp only [List.mem_cons, List.not_mem_nil, or_false]; omega)
  rcases Nat.lt_or_ge k 176 with h168 | h168
  · exact ok_mem ok_168 (k := k) (by simp only [List.mem_cons, List.not_mem_nil, or_false]; omega)
  rcases Nat.lt_or_ge k 184 with h176 | h176
  · exact ok_mem ok_176 (k := k) (by simp only [List.mem_cons, List.not_mem_nil, or_false]; omega)
  rcases Nat.lt_or_ge k 192 with h184 | h184
  · exact ok_mem ok_184 (k := k) (by simp only [List.mem_cons, List.not_mem_nil, or_false]; omega)
  rcases Nat.lt_or_ge k 200 with h192 | h192
  · exact ok_mem ok_192 (k := k) (by simp only [List.mem_cons, List.not_mem_nil, or_false]; omega)
  rcases Nat.lt_or_ge k 208 with h200 | h200
  · exact ok_mem ok_200 (k := k) (by simp only [List.mem_cons, List.not_mem_nil, or_false]; omega)
  rcases Nat.lt_or_ge k 213 with h208 | h208
  · exact ok_mem ok_208 (k := k) (by simp only [List.mem_cons, List.not_mem_nil, or_false]; omega)
  omega
