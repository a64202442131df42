/-! decode rows (by program) -/
theorem tkDa_knownTool : ∀ q ∈ tbDa_knownTool, decode prog_1_method_21_code q.1 = .ok (q.2, xlen q.2) := by decide +kernel
theorem tkJIo_init : ∀ q ∈ tbJIo_init, decode prog_16_method_2_code q.1 = .ok (q.2, xlen q.2) := by decide +kernel
theorem tkLa_slot : ∀ q ∈ tbLa_slot, decode method_5_code q.1 = .ok (q.2, xlen q.2) := by decide +kernel
theorem tkDa_slot : ∀ q ∈ tbDa_slot, decode prog_1_method_4_code q.1 = .ok (q.2, xlen q.2) := by decide +kernel
theorem tkLa_write : ∀ q ∈ tbLa_write, decode method_6_code q.1 = .ok (q.2, xlen q.2) := by decide +kernel
theorem tkDa_write : ∀ q ∈ tbDa_write, decode prog_1_method_5_code q.1 = .ok (q.2, xlen q.2) := by decide +kernel
theorem tkLa_at : ∀ q ∈ tbLa_at, decode method_7_code q.1 = .ok (q.2, xlen q.2) := by decide +kernel
theorem tkDa_at : ∀ q ∈ tbDa_at, decode prog_1_method_8_code q.1 = .ok (q.2, xlen q.2) := by decide +kernel
theorem tkHi_part : ∀ q ∈ tbHi_part, decode prog_4_method_4_code q.1 = .ok (q.2, xlen q.2) := by decide +kernel
theorem tsHi_part_1 : decode prog_4_method_4_code 1 = .ok (.tableswitch 85 0 6 #[43, 49, 55, 61, 67, 73, 79], 43) := by decide +kernel
theorem tkLa_order : ∀ q ∈ tbLa_order, decode method_8_code q.1 = .ok (q.2, xlen q.2) := by decide +kernel
theorem tkDa_order : ∀ q ∈ tbDa_order, decode prog_1_method_9_code q.1 = .ok (q.2, xlen q.2) := by decide +kernel
theorem tkLa_travel : ∀ q ∈ tbLa_travel, decode method_9_code q.1 = .ok (q.2, xlen q.2) := by decide +kernel
theorem tkDa_travel : ∀ q ∈ tbDa_travel, decode prog_1_method_10_code q.1 = .ok (q.2, xlen q.2) := by decide +kernel
theorem tkLa_proved : ∀ q ∈ tbLa_proved, decode method_10_code q.1 = .ok (q.2, xlen q.2) := by decide +kernel
theorem tkDa_proved : ∀ q ∈ tbDa_proved, decode prog_1_method_11_code q.1 = .ok (q.2, xlen q.2) := by decide +kernel
theorem tkLa_file : ∀ q ∈ tbLa_file, decode method_11_code q.1 = .ok (q.2, xlen q.2) := by decide +kernel
theorem tkDa_file : ∀ q ∈ tbDa_file, decode prog_1_method_12_code q.1 = .ok (q.2, xlen q.2) := by decide +kernel
theorem tkLa_byteOf : ∀ q ∈ tbLa_byteOf, decode method_12_code q.1 = .ok (q.2, xlen q.2) := by decide +kernel
theorem tkDa_byteOf : ∀ q ∈ tbDa_byteOf, decode prog_1_method_13_code q.1 = .ok (q.2, xlen q.2) := by decide +kernel
theorem tkDa_knownFile : ∀ q ∈ tbDa_knownFile, decode prog_1_method_22_code q.1 = .ok (q.2, xlen q.2) := by decide +kernel
theorem tkLa_archive : ∀ q ∈ tbLa_archive, decode method_13_code q.1 = .ok (q.2, xlen q.2) := by decide +kernel
theorem tkDa_archive : ∀ q ∈ tbDa_archive, decode prog_1_method_14_code q.1 = .ok (q.2, xlen q.2) := by decide +kernel
theorem tkFs_joined : ∀ q ∈ tbFs_joined, decode prog_3_method_5_code q.1 = .ok (q.2, xlen q.2) := by decide +kernel
theorem tkSf_joinedSize : ∀ q ∈ tbSf_joinedSize, decode prog_7_method_3_code q.1 = .ok (q.2, xlen q.2) := by decide +kernel
theorem tkSf_joined : ∀ q ∈ tbSf_joined, decode prog_7_method_4_code q.1 = .ok (q.2, xlen q.2) := by decide +kernel
theorem tsSf_joined_9 : decode prog_7_method_4_code 9 = .ok (.tableswitch 44 0 2 #[27, 32, 38], 27) := by decide +kernel
theorem tkLa_sum : ∀ q ∈ tbLa_sum, decode method_14_code q.1 = .ok (q.2, xlen q.2) := by decide +kernel
theorem tkDa_sum : ∀ q ∈ tbDa_sum, decode prog_1_method_19_code q.1 = .ok (q.2, xlen q.2) := by decide +kernel
theorem tkMo_init : ∀ q ∈ tbMo_init, decode prog_12_method_1_code q.1 = .ok (q.2, xlen q.2) := by decide +kernel
theorem tkMo_thrown : ∀ q ∈ tbMo_thrown, decode prog_12_method_2_code q.1 = .ok (q.2, xlen q.2) := by decide +kernel
theorem tkMo_clear : ∀ q ∈ tbMo_clear, decode prog_12_method_3_code q.1 = .ok (q.2, xlen q.2) := by decide +kernel
theorem tkMo_tool : ∀ q ∈ tbMo_tool, decode prog_12_method_9_code q.1 = .ok (q.2, xlen q.2) := by decide +kernel
theorem tkMo_isDiameter : ∀ q ∈ tbMo_isDiameter, decode prog_12_method_7_code q.1 = .ok (q.2, xlen q.2) := by decide +kernel
theorem tkMo_addTool : ∀ q ∈ tbMo_addTool, decode prog_12_method_8_code q.1 = .ok (q.2, xlen q.2) := by decide +kernel
theorem tkMo_hole : ∀ q ∈ tbMo_hole, decode prog_12_method_11_code q.1 = .ok (q.2, xlen q.2) := by decide +kernel
