theorem xok_148_20 : xc_148_20.all (fun e => xchk 148 e.1 e.2) = true := by decide +kernel
theorem xok_148_21 : xc_148_21.all (fun e => xchk 148 e.1 e.2) = true := by decide +kernel
theorem xok_148_22 : xc_148_22.all (fun e => xchk 148 e.1 e.2) = true := by decide +kernel
theorem xok_148_23 : xc_148_23.all (fun e => xchk 148 e.1 e.2) = true := by decide +kernel
theorem xok_148_24 : xc_148_24.all (fun e => xchk 148 e.1 e.2) = true := by decide +kernel
