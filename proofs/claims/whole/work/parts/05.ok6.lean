theorem xok_148 : xall 148 xc_148 = true := by decide +kernel
