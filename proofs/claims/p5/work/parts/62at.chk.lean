/-! specs checked (written by wip/p41/gen4.py) -/
set_option maxRecDepth 1000000
theorem ck_249 : f_chkA (GGX [(161, [230])] 249) 249 3000 sp_249 = true := by decide +kernel
