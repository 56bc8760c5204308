theorem z_ck9 : (List.range' 144 11).all z_chkM = true := by decide +kernel
