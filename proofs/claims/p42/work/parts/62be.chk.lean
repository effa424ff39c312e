/-! specs checked (written by wip/p41/gen4.py) -/
set_option maxRecDepth 1000000
theorem ck_249 : f_chkA (GGX [(145, [244, 245]), (161, [191]), (162, [246])]) 249 3000 sp_249 = true := by decide +kernel
theorem ck_250 : f_chkA (GGX [(89, [249]), (145, [244, 245]), (161, [191]), (162, [246]), (167, [248])]) 250 3000 sp_250 = true := by decide +kernel
theorem ck_251 : f_chkA (GGX [(91, [143, 144]), (118, [151])]) 251 3000 sp_251 = true := by decide +kernel
