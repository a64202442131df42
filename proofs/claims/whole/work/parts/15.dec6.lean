/-! decode rows (by program) -/
theorem tkMo_readTool : ∀ q ∈ tbMo_readTool, decode prog_12_method_40_code q.1 = .ok (q.2, xlen q.2) := by decide +kernel
theorem tkMo_readSecond : ∀ q ∈ tbMo_readSecond, decode prog_12_method_43_code q.1 = .ok (q.2, xlen q.2) := by decide +kernel
theorem tkMo_readHit : ∀ q ∈ tbMo_readHit, decode prog_12_method_42_code q.1 = .ok (q.2, xlen q.2) := by decide +kernel
theorem tkMo_number : ∀ q ∈ tbMo_number, decode prog_12_method_35_code q.1 = .ok (q.2, xlen q.2) := by decide +kernel
theorem tkMo_file : ∀ q ∈ tbMo_file, decode prog_12_method_47_code q.1 = .ok (q.2, xlen q.2) := by decide +kernel
theorem tkMo_fileWith : ∀ q ∈ tbMo_fileWith, decode prog_12_method_46_code q.1 = .ok (q.2, xlen q.2) := by decide +kernel
theorem tkMo_byteOf : ∀ q ∈ tbMo_byteOf, decode prog_12_method_50_code q.1 = .ok (q.2, xlen q.2) := by decide +kernel
theorem tkMo_isFile : ∀ q ∈ tbMo_isFile, decode prog_12_method_48_code q.1 = .ok (q.2, xlen q.2) := by decide +kernel
theorem tkMo_isByte : ∀ q ∈ tbMo_isByte, decode prog_12_method_49_code q.1 = .ok (q.2, xlen q.2) := by decide +kernel
theorem tkMo_sum : ∀ q ∈ tbMo_sum, decode prog_12_method_52_code q.1 = .ok (q.2, xlen q.2) := by decide +kernel
theorem tkMo_sumOf : ∀ q ∈ tbMo_sumOf, decode prog_12_method_51_code q.1 = .ok (q.2, xlen q.2) := by decide +kernel
theorem tkMo_archive : ∀ q ∈ tbMo_archive, decode prog_12_method_54_code q.1 = .ok (q.2, xlen q.2) := by decide +kernel
theorem tkMo_put : ∀ q ∈ tbMo_put, decode prog_12_method_53_code q.1 = .ok (q.2, xlen q.2) := by decide +kernel
theorem tkMo_feed : ∀ q ∈ tbMo_feed, decode prog_12_method_55_code q.1 = .ok (q.2, xlen q.2) := by decide +kernel
theorem tkMo_open : ∀ q ∈ tbMo_open, decode prog_12_method_57_code q.1 = .ok (q.2, xlen q.2) := by decide +kernel
theorem tkMo_walk : ∀ q ∈ tbMo_walk, decode prog_12_method_56_code q.1 = .ok (q.2, xlen q.2) := by decide +kernel
