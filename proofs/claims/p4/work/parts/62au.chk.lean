/-! specs checked (written by wip/p41/gen4.py) -/
set_option maxRecDepth 1000000
theorem ck_203 : f_chkA (GGX [(166, [199, 200, 201, 202]), (177, [193, 194]), (178, [196]), (179, [195]), (180, [197, 198])]) 203 3000 sp_203 = true := by decide +kernel
