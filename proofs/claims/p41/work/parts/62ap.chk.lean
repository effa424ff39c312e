/-! specs checked (written by wip/p41/gen4.py) -/
set_option maxRecDepth 1000000
theorem ck_181_9 : chkCn (GGX []) 181 3000 sp_181 9 = true := by decide +kernel
theorem ck_181 : f_chkA (GGX []) 181 3000 sp_181 = true := chk_of ck_181_e (by decide +kernel) (fun n hn => by
  have h : n < 10 := hn
  rcases (show n = 0 ∨ n = 1 ∨ n = 2 ∨ n = 3 ∨ n = 4 ∨ n = 5 ∨ n = 6 ∨ n = 7 ∨ n = 8 ∨ n = 9 by omega) with rfl | rfl | rfl | rfl | rfl | rfl | rfl | rfl | rfl | rfl
  · exact ck_181_0
  · exact ck_181_1
  · exact ck_181_2
  · exact ck_181_3
  · exact ck_181_4
  · exact ck_181_5
  · exact ck_181_6
  · exact ck_181_7
  · exact ck_181_8
  · exact ck_181_9)
