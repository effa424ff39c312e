/-! specs checked (written by wip/p41/gen4.py) -/
set_option maxRecDepth 1000000
theorem ck_230_1 : chkCn (GGX [] 230) 230 3000 sp_230 1 = true := by decide +kernel
theorem ck_230_2 : chkCn (GGX [] 230) 230 3000 sp_230 2 = true := by decide +kernel
