/-! specs checked (written by wip/p41/gen4.py) -/
set_option maxRecDepth 1000000
theorem ck_232 : f_chkA (GGX [(115, [184, 185, 186, 187, 188, 189, 190, 191]), (134, [192]), (148, [231]), (161, [183])]) 232 3000 sp_232 = true := by decide +kernel
