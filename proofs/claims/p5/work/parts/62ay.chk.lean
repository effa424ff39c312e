/-! specs checked (written by wip/p41/gen4.py) -/
set_option maxRecDepth 1000000
theorem ck_271 : f_chkA (GGX [(115, [231, 232, 233, 234, 235, 236, 237, 238]), (134, [239]), (161, [230])] 271) 271 3000 sp_271 = true := by decide +kernel
