theorem xok_148_10 : xc_148_10.all (fun e => xchk 148 e.1 e.2) = true := by decide +kernel
theorem xok_148_11 : xc_148_11.all (fun e => xchk 148 e.1 e.2) = true := by decide +kernel
theorem xok_148_12 : xc_148_12.all (fun e => xchk 148 e.1 e.2) = true := by decide +kernel
theorem xok_148_13 : xc_148_13.all (fun e => xchk 148 e.1 e.2) = true := by decide +kernel
theorem xok_148_14 : xc_148_14.all (fun e => xchk 148 e.1 e.2) = true := by decide +kernel
