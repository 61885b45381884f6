theorem xok_148_0 : xc_148_0.all (fun e => xchk 148 e.1 e.2) = true := by decide +kernel
theorem xok_148_1 : xc_148_1.all (fun e => xchk 148 e.1 e.2) = true := by decide +kernel
theorem xok_148_2 : xc_148_2.all (fun e => xchk 148 e.1 e.2) = true := by decide +kernel
theorem xok_148_3 : xc_148_3.all (fun e => xchk 148 e.1 e.2) = true := by decide +kernel
theorem xok_148_4 : xc_148_4.all (fun e => xchk 148 e.1 e.2) = true := by decide +kernel
