/-! decode rows (by program) -/
theorem tkMo_agrees : ∀ q ∈ tbMo_agrees, decode prog_12_method_59_code q.1 = .ok (q.2, xlen q.2) := by decide +kernel
theorem tkMo_isText : ∀ q ∈ tbMo_isText, decode prog_12_method_58_code q.1 = .ok (q.2, xlen q.2) := by decide +kernel
theorem tkMo_told : ∀ q ∈ tbMo_told, decode prog_12_method_60_code q.1 = .ok (q.2, xlen q.2) := by decide +kernel
