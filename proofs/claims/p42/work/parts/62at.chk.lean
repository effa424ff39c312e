/-! specs checked (written by wip/p41/gen4.py) -/
set_option maxRecDepth 1000000
theorem ck_210 : f_chkA (GGX [(161, [191])]) 210 3000 sp_210 = true := by decide +kernel
