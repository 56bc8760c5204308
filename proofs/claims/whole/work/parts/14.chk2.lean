theorem z_ck6 : (List.range' 96 16).all z_chkM = true := by decide +kernel
theorem z_ck7 : (List.range' 112 16).all z_chkM = true := by decide +kernel
theorem z_ck8 : (List.range' 128 16).all z_chkM = true := by decide +kernel
