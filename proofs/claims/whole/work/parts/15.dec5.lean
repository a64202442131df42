/-! decode rows (by program) -/
theorem tkMo_write : ∀ q ∈ tbMo_write, decode prog_12_method_30_code q.1 = .ok (q.2, xlen q.2) := by decide +kernel
theorem tkMo_layText : ∀ q ∈ tbMo_layText, decode prog_12_method_29_code q.1 = .ok (q.2, xlen q.2) := by decide +kernel
theorem tkMo_say : ∀ q ∈ tbMo_say, decode prog_12_method_24_code q.1 = .ok (q.2, xlen q.2) := by decide +kernel
theorem tkMo_sayNumber : ∀ q ∈ tbMo_sayNumber, decode prog_12_method_25_code q.1 = .ok (q.2, xlen q.2) := by decide +kernel
theorem tkMo_sayTool : ∀ q ∈ tbMo_sayTool, decode prog_12_method_28_code q.1 = .ok (q.2, xlen q.2) := by decide +kernel
theorem tkMo_sayHit : ∀ q ∈ tbMo_sayHit, decode prog_12_method_27_code q.1 = .ok (q.2, xlen q.2) := by decide +kernel
theorem tkMo_sayPlace : ∀ q ∈ tbMo_sayPlace, decode prog_12_method_26_code q.1 = .ok (q.2, xlen q.2) := by decide +kernel
theorem tkMo_unit : ∀ q ∈ tbMo_unit, decode prog_12_method_31_code q.1 = .ok (q.2, xlen q.2) := by decide +kernel
theorem tkMo_read : ∀ q ∈ tbMo_read, decode prog_12_method_45_code q.1 = .ok (q.2, xlen q.2) := by decide +kernel
theorem tkMo_readLine : ∀ q ∈ tbMo_readLine, decode prog_12_method_44_code q.1 = .ok (q.2, xlen q.2) := by decide +kernel
theorem tkMo_expect : ∀ q ∈ tbMo_expect, decode prog_12_method_33_code q.1 = .ok (q.2, xlen q.2) := by decide +kernel
theorem tkMo_now : ∀ q ∈ tbMo_now, decode prog_12_method_32_code q.1 = .ok (q.2, xlen q.2) := by decide +kernel
theorem tkMo_endLine : ∀ q ∈ tbMo_endLine, decode prog_12_method_37_code q.1 = .ok (q.2, xlen q.2) := by decide +kernel
theorem tkMo_readFirst : ∀ q ∈ tbMo_readFirst, decode prog_12_method_41_code q.1 = .ok (q.2, xlen q.2) := by decide +kernel
theorem tkMo_readLayers : ∀ q ∈ tbMo_readLayers, decode prog_12_method_39_code q.1 = .ok (q.2, xlen q.2) := by decide +kernel
theorem tkMo_whole : ∀ q ∈ tbMo_whole, decode prog_12_method_36_code q.1 = .ok (q.2, xlen q.2) := by decide +kernel
