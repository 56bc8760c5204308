theorem z_ck0 : (List.range' 0 16).all z_chkM = true := by decide +kernel
theorem z_ck1 : (List.range' 16 16).all z_chkM = true := by decide +kernel
theorem z_ck2 : (List.range' 32 16).all z_chkM = true := by decide +kernel
