/-! specs checked (written by wip/p41/gen4.py) -/
set_option maxRecDepth 1000000
theorem ck_215 : f_chkA (GGX [(115, [182, 183, 184, 185, 186, 187, 188, 189]), (134, [190]), (161, [181]), (198, [214])]) 215 3000 sp_215 = true := by decide +kernel
