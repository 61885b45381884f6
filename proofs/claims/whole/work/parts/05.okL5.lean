theorem xok_148_25 : xc_148_25.all (fun e => xchk 148 e.1 e.2) = true := by decide +kernel
theorem xok_148_26 : xc_148_26.all (fun e => xchk 148 e.1 e.2) = true := by decide +kernel
theorem xok_148_27 : xc_148_27.all (fun e => xchk 148 e.1 e.2) = true := by decide +kernel
theorem xok_148_28 : xc_148_28.all (fun e => xchk 148 e.1 e.2) = true := by decide +kernel
theorem xok_148_29 : xc_148_29.all (fun e => xchk 148 e.1 e.2) = true := by decide +kernel
