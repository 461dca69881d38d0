/-! the signs of texts -/
theorem tb_sg0 : ∀ c, c < 256 → F0_indexOf_0f7a4 0 (nI c) = some (if c = 59 then 0 else -1) := by decide +kernel
theorem tb_sg3 : ∀ c, c < 256 → F0_indexOf_0f7a4 3 (nI c) = some (if c = 105 then 0 else if c = 119 then 1 else -1) := by decide +kernel
theorem tb_sg5 : ∀ c, c < 256 → F0_indexOf_0f7a4 5 (nI c) = some (if c = 103 then 0 else if c = 99 then 1 else if c = 115 then 2 else -1) := by decide +kernel
theorem tb_sg6 : ∀ c, c < 256 → F0_indexOf_0f7a4 6 (nI c) = some (if 48 ≤ c ∧ c ≤ 57 then nI (c - 48) else -1) := by decide +kernel
theorem tb_sg2 : ∀ c, c < 256 → F0_indexOf_0f7a4 2 (nI c) = some (if 48 ≤ c ∧ c ≤ 55 then nI (c - 48) else -1) := by decide +kernel
theorem tb_sg4 : ∀ c, c < 256 → F0_indexOf_0f7a4 4 (nI c) = some (if 97 ≤ c ∧ c ≤ 104 then nI (c - 97) else -1) := by decide +kernel
theorem tb_sg1 : ∀ c, c < 256 → F0_indexOf_0f7a4 1 (nI c) = some (if 97 ≤ c ∧ c ≤ 120 then nI (c - 97) else -1) := by decide +kernel
