/-! specs checked (written by wip/p41/gen4.py) -/
set_option maxRecDepth 1000000
theorem ck_267 : f_chkA (GGX [(97, [188]), (116, [181, 182])] 267) 267 3000 sp_267 = true := by decide +kernel
theorem ck_268 : f_chkA (GGX [(105, [194]), (109, [267])] 268) 268 3000 sp_268 = true := by decide +kernel
theorem ck_269 : f_chkA (GGX [(111, [268]), (146, [196])] 269) 269 3000 sp_269 = true := by decide +kernel
theorem ck_270 : f_chkA (GGX [(87, [199]), (111, [268]), (203, [198])] 270) 270 3000 sp_270 = true := by decide +kernel
