/-! specs checked (written by wip/p41/gen4.py) -/
set_option maxRecDepth 1000000
theorem ck_248 : f_chkA (GGX [(115, [192, 193, 194, 195, 196, 197, 198, 199]), (134, [200]), (148, [247]), (161, [191])]) 248 3000 sp_248 = true := by decide +kernel
