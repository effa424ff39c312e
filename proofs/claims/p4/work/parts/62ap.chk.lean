/-! specs checked (written by wip/p41/gen4.py) -/
set_option maxRecDepth 1000000
theorem ck_183_9 : chkCn (GGX []) 183 3000 sp_183 9 = true := by decide +kernel
theorem ck_183 : f_chkA (GGX []) 183 3000 sp_183 = true := chk_of ck_183_e (by decide +kernel) (fun n hn => by
  have h : n < 10 := hn
  rcases (show n = 0 ∨ n = 1 ∨ n = 2 ∨ n = 3 ∨ n = 4 ∨ n = 5 ∨ n = 6 ∨ n = 7 ∨ n = 8 ∨ n = 9 by omega) with rfl | rfl | rfl | rfl | rfl | rfl | rfl | rfl | rfl | rfl
  · exact ck_183_0
  · exact ck_183_1
  · exact ck_183_2
  · exact ck_183_3
  · exact ck_183_4
  · exact ck_183_5
  · exact ck_183_6
  · exact ck_183_7
  · exact ck_183_8
  · exact ck_183_9)
