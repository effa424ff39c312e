/-! specs checked (written by wip/p41/gen4.py) -/
set_option maxRecDepth 1000000
theorem ck_272 : f_chkA (GGX [(115, [231, 232, 233, 234, 235, 236, 237, 238]), (134, [239]), (161, [230]), (198, [271])] 272) 272 3000 sp_272 = true := by decide +kernel
