/-! specs checked (written by wip/p41/gen4.py) -/
set_option maxRecDepth 1000000
theorem ck_229 : f_chkA (GGX [(145, [224, 225]), (161, [181]), (162, [226])]) 229 3000 sp_229 = true := by decide +kernel
theorem ck_230 : f_chkA (GGX [(89, [229]), (145, [224, 225]), (161, [181]), (162, [226]), (167, [228])]) 230 3000 sp_230 = true := by decide +kernel
theorem ck_231 : f_chkA (GGX [(91, [133, 134]), (118, [141])]) 231 3000 sp_231 = true := by decide +kernel
