theorem xok_148_5 : xc_148_5.all (fun e => xchk 148 e.1 e.2) = true := by decide +kernel
theorem xok_148_6 : xc_148_6.all (fun e => xchk 148 e.1 e.2) = true := by decide +kernel
theorem xok_148_7 : xc_148_7.all (fun e => xchk 148 e.1 e.2) = true := by decide +kernel
theorem xok_148_8 : xc_148_8.all (fun e => xchk 148 e.1 e.2) = true := by decide +kernel
theorem xok_148_9 : xc_148_9.all (fun e => xchk 148 e.1 e.2) = true := by decide +kernel
