theorem z_ck3 : (List.range' 48 16).all z_chkM = true := by decide +kernel
theorem z_ck4 : (List.range' 64 16).all z_chkM = true := by decide +kernel
theorem z_ck5 : (List.range' 80 16).all z_chkM = true := by decide +kernel
