/-! specs checked (written by wip/p41/gen4.py) -/
set_option maxRecDepth 1000000
theorem ck_201 : f_chkA (GGX [(166, [197, 198, 199, 200]), (177, [191, 192]), (178, [194]), (179, [193]), (180, [195, 196])]) 201 3000 sp_201 = true := by decide +kernel
