/-! specs checked (written by wip/p41/gen4.py) -/
set_option maxRecDepth 1000000
theorem ck_191_9 : chkCn (GGX []) 191 3000 sp_191 9 = true := by decide +kernel
theorem ck_191 : f_chkA (GGX []) 191 3000 sp_191 = true := chk_of ck_191_e (by decide +kernel) (fun n hn => by
  have h : n < 10 := hn
  rcases (show n = 0 ∨ n = 1 ∨ n = 2 ∨ n = 3 ∨ n = 4 ∨ n = 5 ∨ n = 6 ∨ n = 7 ∨ n = 8 ∨ n = 9 by omega) with rfl | rfl | rfl | rfl | rfl | rfl | rfl | rfl | rfl | rfl
  · exact ck_191_0
  · exact ck_191_1
  · exact ck_191_2
  · exact ck_191_3
  · exact ck_191_4
  · exact ck_191_5
  · exact ck_191_6
  · exact ck_191_7
  · exact ck_191_8
  · exact ck_191_9)
