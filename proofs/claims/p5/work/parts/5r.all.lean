/-! all hooks by their numbers, all steps outside (written by wip/p41/gen3.py) -/
def HKF (id : Nat) : HKt := match id with
  | 1 => hk_sumle
  | 2 => hk_tight
  | 3 => hk_contra
  | 10 => hk_book0
  | 11 => hk_book1
  | 12 => hk_row
  | 13 => hk_cases
  | 14 => hk_two 3 9 0 0 1 4
  | 20 => hk_o7 2 3
  | 21 => hk_o7e 3 1 1 (-1)
  | 22 => hk_o7a 2 3 4
  | 23 => hk_peek T2 [(1, 1)]
  | 30 => hk_spc 25 23
  | 31 => hk_peek T2 [(25, 23)]
  | 41 => hk_spv 1
  | 50 => hk_slip
  | 51 => hk_spv 7
  | 52 => hk_pl T2
  | 53 => hk_cb
  | 54 => hk_peek T2 [(27, 3)]
  | 60 => hk_add fs_rd0
  | 61 => hk_rd1 25 40
  | 63 => hk_mulnew 3
  | 64 => hk_peek T2 [(25, 11)]
  | 65 => hk_spc 25 11
  | 66 => hk_mul
  | 67 => hk_mul1 25 40
  | 68 => hk_rdi 3
  | 70 => hk_o7 26 5
  | 71 => hk_o7e 5 25 3 0
  | 72 => hk_o7a 26 5 3
  | 80 => hk_lin
  | 81 => hk_codeadd 25 44
  | 82 => hk_pop 25 46
  | 83 => hk_push 25 46
  | 84 => hk_linup 25 44 46 45 48
  | 85 => hk_notbin 25 46
  | 90 => hk_add fs_s0
  | 91 => hk_add fs_cp0
  | 92 => hk_cp1 2
  | 93 => hk_cpe 2 25 44
  | 95 => hk_add fs_rpn0
  | 96 => hk_rpn 3 2 4
  | 97 => hk_peek T2 [(27, 88)]
  | 100 => hk_ly0 45
  | 101 => hk_ly1
  | 102 => hk_all 45 42
  | 103 => hk_cb1
  | 104 => hk_all 47 44
  | 105 => hk_ft0
  | 106 => hk_ft1
  | 107 => hk_ft2
  | 108 => hk_peek T2 [(27, 2)]
  | 109 => hk_ly0 47
  | 110 => hk_b0
  | 111 => hk_b1
  | 112 => hk_fo
  | 120 => hk_add fs_36
  | 121 => hk_clr
  | 122 => hk_clre
  | 123 => hk_33
  | 124 => hk_add fs_37
  | 125 => hk_cty
  | 126 => hk_ctye
  | 127 => hk_add fs_38
  | 128 => hk_im1
  | 129 => hk_ime
  | 130 => hk_res
  | 140 => hk_peek T2 [(25, 2)]
  | 141 => hk_eqp
  | 142 => hk_eqs
  | 143 => hk_four
  | 144 => hk_kp 0
  | 145 => hk_kp 1
  | 146 => hk_ks 0
  | 147 => hk_ks 1
  | 149 => hk_peek T2 [(7, 1), (7, 2)]
  | 150 => hk_name
  | 151 => hk_op 91
  | 152 => hk_op 92
  | 153 => hk_op90
  | 154 => hk_split
  | 155 => hk_take
  | 156 => hk_fill
  | 157 => hk_cl91
  | 158 => hk_cl92
  | 159 => hk_cl93
  | 160 => hk_cl90
  | 161 => hk_isplit 0
  | 162 => hk_isplit 1
  | 163 => hk_iname 0
  | 164 => hk_iname 1
  | 165 => hk_isame 0
  | 166 => hk_isame 1
  | 168 => hk_gim 0
  | 169 => hk_gim 1
  | 170 => hk_gre 0
  | 171 => hk_gre 1
  | 167 => hk_none
  | 172 => hk_38e
  | 173 => hk_cnt
  | 174 => hk_add fs_104
  | 175 => hk_28
  | 176 => hk_flt
  | 177 => hk_stop
  | 178 => hk_fe
  | _ => fun _ => none
theorem rpn_seg : ∀ z, 89 ≤ z → z < 269 → ∃ lo hi, k_seg [(1, .inl (0, 4)), (1, .inl (0, 10)), (1, .inl (0, 8)), (1, .inl (0, 6)), (4, .inl (0, 20)), (8, .inl (0, 3)), (8, .inl (0, 1023)), (6, .inl (0, 3)), (6, .inl (0, 99)), (1, .inl (0, 63)), (6, .inl (0, 1023)), (3, .inl (-2147483648, 2147483647)), (8, .inl (0, 3)), (8, .inl (0, 6)), (8, .inl (-2147483648, 2147483647)), (6, .inl (0, 3)), (6, .inl (-2147483648, 2147483647)), (6, .inl (0, 1023)), (1, .inl (0, 40)), (180, .inl (-2147483648, 2147483647))] z = some (.inl (lo, hi)) := by
  intro z h1 h2
  have h3 : ∀ y : Fin 269, 89 ≤ y.val → k_seg [(1, .inl (0, 4)), (1, .inl (0, 10)), (1, .inl (0, 8)), (1, .inl (0, 6)), (4, .inl (0, 20)), (8, .inl (0, 3)), (8, .inl (0, 1023)), (6, .inl (0, 3)), (6, .inl (0, 99)), (1, .inl (0, 63)), (6, .inl (0, 1023)), (3, .inl (-2147483648, 2147483647)), (8, .inl (0, 3)), (8, .inl (0, 6)), (8, .inl (-2147483648, 2147483647)), (6, .inl (0, 3)), (6, .inl (-2147483648, 2147483647)), (6, .inl (0, 1023)), (1, .inl (0, 40)), (180, .inl (-2147483648, 2147483647))] y.val = some (.inl (-2147483648, 2147483647)) := by decide +kernel
  exact ⟨_, _, h3 ⟨z, h2⟩ h1⟩
theorem hkok {cy : Nat → ClassId} : HKOK T2 FPX cy HKF := by
  intro h S L
  unfold HKF
  split
  · exact hk_sumle_ok FPX0 FPXn S L
  · exact hk_tight_ok FPX0 S L
  · exact hk_contra_ok FPX0 S L
  · exact hk_book0_ok S L
  · exact hk_book1_ok S L
  · exact hk_row_ok S L
  · exact hk_cases_ok (T := T2) (by decide) rfl rfl rfl S L
  · exact hk_two_ok S L
  · exact hk_o7_ok (Or.inl ⟨rfl, rfl⟩) S L
  · exact hk_o7e_ok (κ := 2) (Or.inl ⟨rfl, rfl⟩) S L
  · exact hk_o7a_ok (T := T2) (Or.inl ⟨rfl, rfl⟩) (by decide) rfl S L
  · exact hk_peek_ok S L
  · exact hk_spc_ok S L
  · exact hk_peek_ok S L
  · exact hk_spv_ok S L
  · exact hk_slip_ok S L
  · exact hk_spv_ok S L
  · exact hk_pl_ok S L
  · exact hk_cb_ok S L
  · exact hk_peek_ok S L
  · exact hk_add_ok fs_rd0_ok S L
  · exact hk_rd1_ok S L
  · exact hk_mulnew_ok S L
  · exact hk_peek_ok S L
  · exact hk_spc_ok S L
  · exact hk_mul_ok S L
  · exact hk_mul1_ok S L
  · exact hk_rdi_ok (T := T2) (by decide) rfl S L
  · exact hk_o7_ok (Or.inr ⟨rfl, rfl⟩) S L
  · exact hk_o7e_ok (κ := 26) (Or.inr ⟨rfl, rfl⟩) S L
  · exact hk_o7a_ok (T := T2) (Or.inr ⟨rfl, rfl⟩) (by decide) rfl S L
  · exact hk_lin_ok S L
  · exact hk_codeadd_ok S L
  · exact hk_pop_ok S L
  · exact hk_push_ok S L
  · exact hk_linup_ok S L
  · exact hk_notbin_ok S L
  · exact hk_add_ok fs_s0_ok S L
  · exact hk_add_ok fs_cp0_ok S L
  · exact hk_cp1_ok S L
  · exact hk_cpe_ok S L
  · exact hk_add_ok fs_rpn0_ok S L
  · exact hk_rpn_ok (T := T2) (by decide) rfl rpn_seg S L
  · exact hk_peek_ok S L
  · exact hk_ly0_ok (Or.inl rfl) S L
  · exact hk_ly1_ok S L
  · exact hk_all_ok (Or.inl ⟨rfl, rfl⟩) S L
  · exact hk_cb1_ok S L
  · exact hk_all_ok (Or.inr ⟨rfl, rfl⟩) S L
  · exact hk_ft0_ok S L
  · exact hk_ft1_ok S L
  · exact hk_ft2_ok S L
  · exact hk_peek_ok S L
  · exact hk_ly0_ok (Or.inr rfl) S L
  · exact hk_b0_ok S L
  · exact hk_b1_ok S L
  · exact hk_fo_ok S L
  · exact hk_add_ok fs_36_ok S L
  · exact hk_clr_ok S L
  · exact hk_clre_ok S L
  · exact hk_33_ok S L
  · exact hk_add_ok fs_37_ok S L
  · exact hk_cty_ok S L
  · exact hk_ctye_ok S L
  · exact hk_add_ok fs_38_ok S L
  · exact hk_im1_ok S L
  · exact hk_ime_ok S L
  · exact hk_res_ok S L
  · exact hk_peek_ok S L
  · exact hk_eqp_ok S L
  · exact hk_eqs_ok S L
  · exact hk_four_ok S L
  · exact hk_kp_ok (by decide) S L
  · exact hk_kp_ok (by decide) S L
  · exact hk_ks_ok (by decide) S L
  · exact hk_ks_ok (by decide) S L
  · exact hk_peek_ok S L
  · exact hk_name_ok S L
  · exact hk_op_ok (Or.inl rfl) S L
  · exact hk_op_ok (Or.inr rfl) S L
  · exact hk_op90_ok S L
  · exact hk_split_ok S L
  · exact hk_take_ok S L
  · exact hk_fill_ok S L
  · exact hk_cl91_ok S L
  · exact hk_cl92_ok S L
  · exact hk_cl93_ok S L
  · exact hk_cl90_ok S L
  · exact hk_isplit_ok (by decide) S L
  · exact hk_isplit_ok (by decide) S L
  · exact hk_iname_ok (by decide) S L
  · exact hk_iname_ok (by decide) S L
  · exact hk_isame_ok (by decide) S L
  · exact hk_isame_ok (by decide) S L
  · exact hk_gim_ok (by decide) S L
  · exact hk_gim_ok (by decide) S L
  · exact hk_gre_ok (by decide) S L
  · exact hk_gre_ok (by decide) S L
  · exact hk_none_ok S L
  · exact hk_38e_ok S L
  · exact hk_cnt_ok S L
  · exact hk_add_ok fs_104_ok S L
  · exact hk_28_ok S L
  · exact hk_flt_ok S L
  · exact (hk_stop_ok (fun _ _ => Iff.rfl)) S L
  · exact hk_fe_ok S L
  · intro h; cases h
def OXF (M : MT) (wr : WR) (rm : RMt) (S : SB) (ins : Instr) (len : Nat) : Option (List SB) := match ins with
  | .iadd => ox_num S ins len
  | .isub => ox_num S ins len
  | .iand => ox_num S ins len
  | .ixor => ox_num S ins len
  | .imul => ox_num S ins len
  | .ishl => ox_num S ins len
  | .ishr => ox_num S ins len
  | .ior => ox_ior S ins len
  | .if_icmp _ _ => ox_ne S ins len
  | .iload _ => ox_ild M S ins len
  | .iastore => ox_cpy T2 RB2 M wr S ins len
  | .invokestatic _ => ox_acp T2 RB2 M wr rm S ins len
  | .getstatic _ => ox_gst M S ins len
  | .iaload => ox_rld S ins len
  | .ldc _ => ox_ldt M S ins len
  | .invokevirtual _ => ox_str M rm S ins len
  | .new _ => ox_new T2 RB2 M rm S ins len
  | .invokespecial _ => ox_mk M rm S ins len
  | _ => none
theorem oxok {IX : IN → Prop} {xs : Nat → Int32} {D : va_G} {cy : Nat → ClassId} {l : Launch} : OXOK IX T2 FPX OW2 (EWX xs) D cy l OXF := by
  intro M wr rm S ins len x h I0 ks0 wp0 own p e R s m args below meth c A Q cb sb _ X hd k
  unfold OXF at h
  split at h
  · exact s_num FPXn X h hd k
  · exact s_num FPXn X h hd k
  · exact s_num FPXn X h hd k
  · exact s_num FPXn X h hd k
  · exact s_num FPXn X h hd k
  · exact s_num FPXn X h hd k
  · exact s_num FPXn X h hd k
  · exact s_ior FPX0 FPXn X h hd k
  · exact s_ne FPX0 X h hd k
  · exact s_ild X h hd k
  · exact s_cpy fpok2 suok2 pok2 X h hd k
  · exact s_acp fpok2 suok2 pok2 X h hd k
  · exact s_gst X h hd k
  · exact s_rld X h hd k
  · exact s_ldt X h hd k
  · exact s_str X h hd k
  · exact s_new fpok2 suok2 pok2 X h hd k
  · exact s_mk fpok2 X h hd k
  · cases h
