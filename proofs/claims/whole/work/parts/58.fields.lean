theorem ixX0 : ∀ k : Fin 6, lw_tbl[([123, 125, 127, 129, 131, 133] : List Nat).getD k.1 0]? = some (u_lay RX0 TX0 k.1) := by decide +kernel
theorem iuX0 : ∀ w ∈ u_ws RX0 TX0 6, w ∈ lw_tbl := fun w hw => by
  obtain ⟨k, hk, rfl⟩ := List.mem_map.mp hw
  exact List.mem_of_getElem? (ixX0 ⟨k, List.mem_range.mp hk⟩)
theorem inX0 : Cond.instantiable RX0 6 ∈ lw_tbl := List.mem_of_getElem? (i := 112) (by decide +kernel)
theorem ixX1 : ∀ k : Fin 7, lw_tbl[([342, 344, 346, 348, 350, 352, 354] : List Nat).getD k.1 0]? = some (u_lay RX1 TX1 k.1) := by decide +kernel
theorem iuX1 : ∀ w ∈ u_ws RX1 TX1 7, w ∈ lw_tbl := fun w hw => by
  obtain ⟨k, hk, rfl⟩ := List.mem_map.mp hw
  exact List.mem_of_getElem? (ixX1 ⟨k, List.mem_range.mp hk⟩)
theorem inX1 : Cond.instantiable RX1 7 ∈ lw_tbl := List.mem_of_getElem? (i := 316) (by decide +kernel)
theorem ixX3 : ∀ k : Fin 7, lw_tbl[([456, 457, 458, 459, 460, 461, 462] : List Nat).getD k.1 0]? = some (u_lay RX3 TX3 k.1) := by decide +kernel
theorem iuX3 : ∀ w ∈ u_ws RX3 TX3 7, w ∈ lw_tbl := fun w hw => by
  obtain ⟨k, hk, rfl⟩ := List.mem_map.mp hw
  exact List.mem_of_getElem? (ixX3 ⟨k, List.mem_range.mp hk⟩)
theorem inX3 : Cond.instantiable RX3 7 ∈ lw_tbl := List.mem_of_getElem? (i := 451) (by decide +kernel)
theorem ixX4 : ∀ k : Fin 6, lw_tbl[([174, 176, 178, 180, 182, 184] : List Nat).getD k.1 0]? = some (u_lay RX4 TX4 k.1) := by decide +kernel
theorem iuX4 : ∀ w ∈ u_ws RX4 TX4 6, w ∈ lw_tbl := fun w hw => by
  obtain ⟨k, hk, rfl⟩ := List.mem_map.mp hw
  exact List.mem_of_getElem? (ixX4 ⟨k, List.mem_range.mp hk⟩)
theorem inX4 : Cond.instantiable RX4 6 ∈ lw_tbl := List.mem_of_getElem? (i := 163) (by decide +kernel)
theorem ixX5 : ∀ k : Fin 7, lw_tbl[([438, 439, 440, 441, 442, 443, 444] : List Nat).getD k.1 0]? = some (u_lay RX5 TX5 k.1) := by decide +kernel
theorem iuX5 : ∀ w ∈ u_ws RX5 TX5 7, w ∈ lw_tbl := fun w hw => by
  obtain ⟨k, hk, rfl⟩ := List.mem_map.mp hw
  exact List.mem_of_getElem? (ixX5 ⟨k, List.mem_range.mp hk⟩)
theorem inX5 : Cond.instantiable RX5 7 ∈ lw_tbl := List.mem_of_getElem? (i := 436) (by decide +kernel)
theorem ixX6 : ∀ k : Fin 7, lw_tbl[([418, 419, 420, 421, 422, 423, 424] : List Nat).getD k.1 0]? = some (u_lay RX6 TX6 k.1) := by decide +kernel
theorem iuX6 : ∀ w ∈ u_ws RX6 TX6 7, w ∈ lw_tbl := fun w hw => by
  obtain ⟨k, hk, rfl⟩ := List.mem_map.mp hw
  exact List.mem_of_getElem? (ixX6 ⟨k, List.mem_range.mp hk⟩)
theorem inX6 : Cond.instantiable RX6 7 ∈ lw_tbl := List.mem_of_getElem? (i := 413) (by decide +kernel)
theorem ixX7 : ∀ k : Fin 3, lw_tbl[([103, 105, 107] : List Nat).getD k.1 0]? = some (u_lay RX7 TX7 k.1) := by decide +kernel
theorem iuX7 : ∀ w ∈ u_ws RX7 TX7 3, w ∈ lw_tbl := fun w hw => by
  obtain ⟨k, hk, rfl⟩ := List.mem_map.mp hw
  exact List.mem_of_getElem? (ixX7 ⟨k, List.mem_range.mp hk⟩)
theorem inX7 : Cond.instantiable RX7 3 ∈ lw_tbl := List.mem_of_getElem? (i := 93) (by decide +kernel)
theorem ixX8 : ∀ k : Fin 7, lw_tbl[([396, 397, 398, 399, 400, 401, 402] : List Nat).getD k.1 0]? = some (u_lay RX8 TX8 k.1) := by decide +kernel
theorem iuX8 : ∀ w ∈ u_ws RX8 TX8 7, w ∈ lw_tbl := fun w hw => by
  obtain ⟨k, hk, rfl⟩ := List.mem_map.mp hw
  exact List.mem_of_getElem? (ixX8 ⟨k, List.mem_range.mp hk⟩)
theorem inX8 : Cond.instantiable RX8 7 ∈ lw_tbl := List.mem_of_getElem? (i := 391) (by decide +kernel)
theorem ixX9 : ∀ k : Fin 7, lw_tbl[([474, 475, 476, 477, 478, 479, 480] : List Nat).getD k.1 0]? = some (u_lay RX9 TX9 k.1) := by decide +kernel
theorem iuX9 : ∀ w ∈ u_ws RX9 TX9 7, w ∈ lw_tbl := fun w hw => by
  obtain ⟨k, hk, rfl⟩ := List.mem_map.mp hw
  exact List.mem_of_getElem? (ixX9 ⟨k, List.mem_range.mp hk⟩)
theorem inX9 : Cond.instantiable RX9 7 ∈ lw_tbl := List.mem_of_getElem? (i := 469) (by decide +kernel)
theorem ixX10 : ∀ k : Fin 5, lw_tbl[([152, 154, 156, 158, 160] : List Nat).getD k.1 0]? = some (u_lay RX10 TX10 k.1) := by decide +kernel
theorem iuX10 : ∀ w ∈ u_ws RX10 TX10 5, w ∈ lw_tbl := fun w hw => by
  obtain ⟨k, hk, rfl⟩ := List.mem_map.mp hw
  exact List.mem_of_getElem? (ixX10 ⟨k, List.mem_range.mp hk⟩)
theorem inX10 : Cond.instantiable RX10 5 ∈ lw_tbl := List.mem_of_getElem? (i := 136) (by decide +kernel)
theorem ixX11 : ∀ k : Fin 20, lw_tbl[([207, 209, 211, 213, 215, 217, 219, 221, 223, 225, 227, 229, 231, 233, 235, 237, 239, 241, 243, 245] : List Nat).getD k.1 0]? = some (u_lay RX11 TX11 k.1) := by decide +kernel
theorem iuX11 : ∀ w ∈ u_ws RX11 TX11 20, w ∈ lw_tbl := fun w hw => by
  obtain ⟨k, hk, rfl⟩ := List.mem_map.mp hw
  exact List.mem_of_getElem? (ixX11 ⟨k, List.mem_range.mp hk⟩)
theorem inX11 : Cond.instantiable RX11 20 ∈ lw_tbl := List.mem_of_getElem? (i := 79) (by decide +kernel)
theorem ixX12 : ∀ k : Fin 61, lw_tbl[([905, 907, 909, 911, 913, 915, 917, 919, 921, 923, 925, 927, 929, 931, 933, 935, 937, 939, 941, 943, 945, 947, 949, 951, 953, 955, 957, 959, 961, 963, 965, 967, 969, 971, 973, 975, 977, 979, 981, 983, 985, 987, 989, 991, 993, 995, 997, 999, 1001, 1003, 1005, 1007, 1009, 1011, 1013, 1015, 1017, 1019, 1021, 1023, 1025] : List Nat).getD k.1 0]? = some (u_lay RX12 TX12 k.1) := by decide +kernel
theorem iuX12 : ∀ w ∈ u_ws RX12 TX12 61, w ∈ lw_tbl := fun w hw => by
  obtain ⟨k, hk, rfl⟩ := List.mem_map.mp hw
  exact List.mem_of_getElem? (ixX12 ⟨k, List.mem_range.mp hk⟩)
theorem inX12 : Cond.instantiable RX12 61 ∈ lw_tbl := List.mem_of_getElem? (i := 840) (by decide +kernel)
theorem am_int : Cond.arrayClass .int ∈ lw_tbl := List.mem_of_getElem? (i := 110) (by decide +kernel)
theorem am_boolean : Cond.arrayClass .boolean ∈ lw_tbl := List.mem_of_getElem? (i := 1028) (by decide +kernel)
theorem ao_X10 : Cond.arrayOver (.object RX10) ∈ lw_tbl := List.mem_of_getElem? (i := 87) (by decide +kernel)
theorem ao_X4 : Cond.arrayOver (.object RX4) ∈ lw_tbl := List.mem_of_getElem? (i := 89) (by decide +kernel)
theorem ao_X2 : Cond.arrayOver (.object RX2) ∈ lw_tbl := List.mem_of_getElem? (i := 91) (by decide +kernel)
theorem iy_all : ∀ k : Fin 9, lw_tbl[([1348, 1349, 1350, 1351, 1355, 1354, 1353, 1352, 1356] : List Nat).getD k.1 0]? = (mm_yc[k.1]?).map (fun q => Cond.castable q.1 q.2) := by decide +kernel
theorem mn_RX4_43 : Cond.methodLinkNest RX4 43 yX11_isLetterByte RX11 ∈ lw_tbl := List.mem_of_getElem? (i := 282) (by decide +kernel)
theorem mn_RX4_78 : Cond.methodLinkNest RX4 78 yX11_isVowel RX11 ∈ lw_tbl := List.mem_of_getElem? (i := 383) (by decide +kernel)
theorem mn_RX7_37 : Cond.methodLinkNest RX7 37 yX11_isVowel RX11 ∈ lw_tbl := List.mem_of_getElem? (i := 555) (by decide +kernel)
theorem de_kn : Cond.declares ⟨RX2, "kindNumber", "()I"⟩ ∈ lw_tbl := List.mem_of_getElem? (i := 510) (by decide +kernel)
theorem nc_all : ∀ k : Fin 27, ((mm_nc[k.1]?).map (fun q => decide (Cond.not (.castable q.1 q.2) ∈ flatC (Jvm.Cond.and given_1 narrow_1)))) = some true := by decide +kernel
