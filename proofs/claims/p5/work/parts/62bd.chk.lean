/-! specs checked (written by wip/p41/gen4.py) -/
set_option maxRecDepth 1000000
theorem ck_288 : f_chkA (GGX [(115, [231, 232, 233, 234, 235, 236, 237, 238]), (134, [239]), (148, [287]), (161, [230])] 288) 288 3000 sp_288 = true := by decide +kernel
