/-! specs checked (written by wip/p41/gen4.py) -/
set_option maxRecDepth 1000000
theorem ck_287 : f_chkA (GGX [(115, [231, 232, 233, 234, 235, 236, 237, 238]), (134, [239]), (148, [286]), (161, [230])]) 287 3000 sp_287 = true := by decide +kernel
