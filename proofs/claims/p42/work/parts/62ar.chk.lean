/-! specs checked (written by wip/p41/gen4.py) -/
set_option maxRecDepth 1000000
theorem ck_204 : f_chkA (GGX [(115, [192, 193, 194, 195, 196, 197, 198, 199]), (134, [200]), (161, [191])]) 204 3000 sp_204 = true := by decide +kernel
theorem ck_205 : f_chkA (GGX [(115, [192, 193, 194, 195, 196, 197, 198, 199]), (134, [200]), (161, [191])]) 205 3000 sp_205 = true := by decide +kernel
