/-! specs checked (written by wip/p41/gen4.py) -/
set_option maxRecDepth 1000000
theorem ck_243 : f_chkA (GGX [(115, [231, 232, 233, 234, 235, 236, 237, 238]), (134, [239]), (161, [230])] 243) 243 3000 sp_243 = true := by decide +kernel
theorem ck_244 : f_chkA (GGX [(115, [231, 232, 233, 234, 235, 236, 237, 238]), (134, [239]), (161, [230])] 244) 244 3000 sp_244 = true := by decide +kernel
