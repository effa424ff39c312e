/-! specs checked (written by wip/p41/gen4.py) -/
set_option maxRecDepth 1000000
theorem ck_191_8 : chkCn (GGX []) 191 3000 sp_191 8 = true := by decide +kernel
