/-! specs checked (written by wip/p41/gen4.py) -/
set_option maxRecDepth 1000000
theorem ck_233 : f_chkA (GGX [(145, [228, 229]), (161, [183]), (162, [230])]) 233 3000 sp_233 = true := by decide +kernel
theorem ck_234 : f_chkA (GGX [(89, [233]), (145, [228, 229]), (161, [183]), (162, [230]), (167, [232])]) 234 3000 sp_234 = true := by decide +kernel
theorem ck_235 : f_chkA (GGX [(91, [135, 136]), (118, [143])]) 235 3000 sp_235 = true := by decide +kernel
