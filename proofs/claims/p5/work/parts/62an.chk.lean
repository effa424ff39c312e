/-! specs checked (written by wip/p41/gen4.py) -/
set_option maxRecDepth 1000000
theorem ck_230_7 : chkCn (GGX [] 230) 230 3000 sp_230 7 = true := by decide +kernel
