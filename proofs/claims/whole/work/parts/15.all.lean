theorem z_lenM : z_my.length = 155 := by decide +kernel
theorem z_allM (M : Nat) (r : Nat × MethodName × ByteArray × Nat × Option FieldType) (hr : z_my[M]? = some r) : z_chkM M = true := by
  have hM : M < 155 := by rw [← z_lenM]; exact (List.getElem?_eq_some_iff.mp hr).1
  by_cases h0 : M < 16
  · exact List.all_eq_true.mp z_ck0 M (List.mem_range'_1.mpr (by omega))
  by_cases h1 : M < 32
  · exact List.all_eq_true.mp z_ck1 M (List.mem_range'_1.mpr (by omega))
  by_cases h2 : M < 48
  · exact List.all_eq_true.mp z_ck2 M (List.mem_range'_1.mpr (by omega))
  by_cases h3 : M < 64
  · exact List.all_eq_true.mp z_ck3 M (List.mem_range'_1.mpr (by omega))
  by_cases h4 : M < 80
  · exact List.all_eq_true.mp z_ck4 M (List.mem_range'_1.mpr (by omega))
  by_cases h5 : M < 96
  · exact List.all_eq_true.mp z_ck5 M (List.mem_range'_1.mpr (by omega))
  by_cases h6 : M < 112
  · exact List.all_eq_true.mp z_ck6 M (List.mem_range'_1.mpr (by omega))
  by_cases h7 : M < 128
  · exact List.all_eq_true.mp z_ck7 M (List.mem_range'_1.mpr (by omega))
  by_cases h8 : M < 144
  · exact List.all_eq_true.mp z_ck8 M (List.mem_range'_1.mpr (by omega))
  by_cases h9 : M < 155
  · exact List.all_eq_true.mp z_ck9 M (List.mem_range'_1.mpr (by omega))
  omega
