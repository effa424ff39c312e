/-! specs checked (written by wip/p41/gen4.py) -/
set_option maxRecDepth 1000000
theorem ck_211 : f_chkA (GGX [(166, [207, 208, 209, 210]), (177, [201, 202]), (178, [204]), (179, [203]), (180, [205, 206])]) 211 3000 sp_211 = true := by decide +kernel
