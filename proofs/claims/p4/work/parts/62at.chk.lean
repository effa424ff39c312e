/-! specs checked (written by wip/p41/gen4.py) -/
set_option maxRecDepth 1000000
theorem ck_202 : f_chkA (GGX [(161, [183])]) 202 3000 sp_202 = true := by decide +kernel
