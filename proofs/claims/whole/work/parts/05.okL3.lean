theorem xok_148_15 : xc_148_15.all (fun e => xchk 148 e.1 e.2) = true := by decide +kernel
theorem xok_148_16 : xc_148_16.all (fun e => xchk 148 e.1 e.2) = true := by decide +kernel
theorem xok_148_17 : xc_148_17.all (fun e => xchk 148 e.1 e.2) = true := by decide +kernel
theorem xok_148_18 : xc_148_18.all (fun e => xchk 148 e.1 e.2) = true := by decide +kernel
theorem xok_148_19 : xc_148_19.all (fun e => xchk 148 e.1 e.2) = true := by decide +kernel
