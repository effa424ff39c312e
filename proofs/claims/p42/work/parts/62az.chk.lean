/-! specs checked (written by wip/p41/gen4.py) -/
set_option maxRecDepth 1000000
theorem ck_233 : f_chkA (GGX [(115, [192, 193, 194, 195, 196, 197, 198, 199]), (134, [200]), (161, [191]), (198, [232])]) 233 3000 sp_233 = true := by decide +kernel
