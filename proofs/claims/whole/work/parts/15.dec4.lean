/-! decode rows (by program) -/
theorem tkMo_isTool : ∀ q ∈ tbMo_isTool, decode prog_12_method_6_code q.1 = .ok (q.2, xlen q.2) := by decide +kernel
theorem tkMo_isLayer : ∀ q ∈ tbMo_isLayer, decode prog_12_method_5_code q.1 = .ok (q.2, xlen q.2) := by decide +kernel
theorem tkMo_isPlace : ∀ q ∈ tbMo_isPlace, decode prog_12_method_4_code q.1 = .ok (q.2, xlen q.2) := by decide +kernel
theorem tkMo_addHit : ∀ q ∈ tbMo_addHit, decode prog_12_method_10_code q.1 = .ok (q.2, xlen q.2) := by decide +kernel
theorem tkMo_slot : ∀ q ∈ tbMo_slot, decode prog_12_method_12_code q.1 = .ok (q.2, xlen q.2) := by decide +kernel
theorem tkMo_at : ∀ q ∈ tbMo_at, decode prog_12_method_13_code q.1 = .ok (q.2, xlen q.2) := by decide +kernel
theorem tsMo_at_43 : decode prog_12_method_13_code 43 = .ok (.tableswitch 93 0 6 #[41, 49, 56, 63, 70, 77, 85], 41) := by decide +kernel
theorem tkMo_order : ∀ q ∈ tbMo_order, decode prog_12_method_21_code q.1 = .ok (q.2, xlen q.2) := by decide +kernel
theorem tkMo_findOrder : ∀ q ∈ tbMo_findOrder, decode prog_12_method_20_code q.1 = .ok (q.2, xlen q.2) := by decide +kernel
theorem tkMo_collect : ∀ q ∈ tbMo_collect, decode prog_12_method_17_code q.1 = .ok (q.2, xlen q.2) := by decide +kernel
theorem tkMo_orderNearest : ∀ q ∈ tbMo_orderNearest, decode prog_12_method_19_code q.1 = .ok (q.2, xlen q.2) := by decide +kernel
theorem tkMo_way : ∀ q ∈ tbMo_way, decode prog_12_method_16_code q.1 = .ok (q.2, xlen q.2) := by decide +kernel
theorem tkMo_wayOf : ∀ q ∈ tbMo_wayOf, decode prog_12_method_15_code q.1 = .ok (q.2, xlen q.2) := by decide +kernel
theorem tkMo_size : ∀ q ∈ tbMo_size, decode prog_12_method_14_code q.1 = .ok (q.2, xlen q.2) := by decide +kernel
theorem tkMo_orderExactly : ∀ q ∈ tbMo_orderExactly, decode prog_12_method_18_code q.1 = .ok (q.2, xlen q.2) := by decide +kernel
theorem tkMo_travel : ∀ q ∈ tbMo_travel, decode prog_12_method_22_code q.1 = .ok (q.2, xlen q.2) := by decide +kernel
theorem tkMo_proved : ∀ q ∈ tbMo_proved, decode prog_12_method_23_code q.1 = .ok (q.2, xlen q.2) := by decide +kernel
