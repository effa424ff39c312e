/-! specs checked (written by wip/p41/gen4.py) -/
set_option maxRecDepth 1000000
theorem ck_200 : f_chkA (GGX [(161, [181])]) 200 3000 sp_200 = true := by decide +kernel
