/-! specs checked (written by wip/p41/gen4.py) -/
set_option maxRecDepth 1000000
theorem ck_250 : f_chkA (GGX [(166, [246, 247, 248, 249]), (177, [240, 241]), (178, [243]), (179, [242]), (180, [244, 245])] 250) 250 3000 sp_250 = true := by decide +kernel
