/-! specs checked (written by wip/p41/gen4.py) -/
set_option maxRecDepth 1000000
theorem ck_230_9 : chkCn (GGX [] 230) 230 3000 sp_230 9 = true := by decide +kernel
theorem ck_230 : f_chkA (GGX [] 230) 230 3000 sp_230 = true := chk_of ck_230_e (by decide +kernel) (fun n hn => by
  have h : n < 10 := hn
  rcases (show n = 0 ∨ n = 1 ∨ n = 2 ∨ n = 3 ∨ n = 4 ∨ n = 5 ∨ n = 6 ∨ n = 7 ∨ n = 8 ∨ n = 9 by omega) with rfl | rfl | rfl | rfl | rfl | rfl | rfl | rfl | rfl | rfl
  · exact ck_230_0
  · exact ck_230_1
  · exact ck_230_2
  · exact ck_230_3
  · exact ck_230_4
  · exact ck_230_5
  · exact ck_230_6
  · exact ck_230_7
  · exact ck_230_8
  · exact ck_230_9)
