/-! the tables are right: by program, each decided by the kernel -/
def w_at (pos : Nat) (w : Cond) : Bool := decide (lw_tbl[pos]? = some w)
def h_at (pos : Nat) (w : Cond) : Bool := w_at pos w && goodWord w
theorem h_at_ok {pos : Nat} {w : Cond} (h : h_at pos w = true) : w ∈ BIG := by
  simp only [h_at, w_at, Bool.and_eq_true, decide_eq_true_eq] at h
  exact List.mem_filter.mpr ⟨List.mem_of_getElem? h.1, h.2⟩
def n_at (pos : Nat) (w : Cond) : Bool := w_at pos w && isNest w
theorem n_at_ok {pos : Nat} {w : Cond} (h : n_at pos w = true) : w ∈ NST := by
  simp only [n_at, w_at, Bool.and_eq_true, decide_eq_true_eq] at h
  exact List.mem_filter.mpr ⟨List.mem_of_getElem? h.1, h.2⟩
abbrev d_chk (M : MT) : Bool := d_chkL (mC M) (mT M)
theorem d_chk_ok {M : MT} (h : d_chk M = true) : ∀ q ∈ mT M, decode (mC M) q.1 = .ok (q.2.2.1, q.2.2.2) := by
  intro q hq
  have h1 := List.all_eq_true.mp h q hq
  split at h1
  · rename_i r hr
    have h1 := of_decide_eq_true h1
    rw [hr, h1]
  · cases h1

def i_chk (M : MT) : Bool := !(Nat.beq (mK M) 2) || (match vwCl[mCi M]? with | some r => (List.range r.2.2).all (fun k => decide (OWN[mO M]? = some (r.2.1 k).1)) | none => true)
theorem i_chk_ok {M : MT} (h : i_chk M = true) : mK M = 2 → ∀ r : vw_C, vwCl[mCi M]? = some r → ∀ k, k < r.2.2 → OWN[mO M]? = some (r.2.1 k).1 := by
  intro h2 r hr k hk
  unfold i_chk at h
  rw [h2, hr] at h
  simp only [Nat.beq, Bool.not_true, Bool.false_or] at h
  exact of_decide_eq_true (List.all_eq_true.mp h k (List.mem_range.mpr hk))
def m_chk (M : MT) (ps : Nat × Nat × Nat × Nat) : Bool := plainFor (mY M) && (h_at ps.1 (.code (mY M) (mC M) (mL M) (mR M)) && (h_at ps.2.1 (.initialized (mY M).cls) && (decide ((mY M).cls ≠ "java/lang/invoke/MethodHandle") && (decide ((mY M).cls ≠ "java/lang/invoke/VarHandle") && (decide ((parseMethodDescriptor (mY M).desc).map (fun d => d.parameters.length) = some (mA M)) &&
  ((match mK M with
  | 0 => h_at ps.2.2.1 (.static (mY M))
  | 1 => h_at ps.2.2.1 (.instanceMethod (mY M)) && (h_at ps.2.2.2 (.selects (mY M).cls (mY M) (mY M)) && (match vwCl[mCi M]? with | some r => decide (r.1 = (mY M).cls) | none => false))
  | 2 => decide ((mY M).name = "<init>") && (h_at ps.2.2.1 (.instanceMethod (mY M)) && decide (mR M = none))
  | _ => false) && (decide (mR M = none ∨ mR M = some .int ∨ mR M = some .boolean ∨ mR M = some .long) && (decide (OWN[mO M]? = some (mY M).cls) && i_chk M))))))))
theorem m_chk_ok {M : MT} {ps : Nat × Nat × Nat × Nat} (h : m_chk M ps = true) (hd : d_chk M = true) : MOK M ∧ TOK OWN M ∧ OWN[mO M]? = some (mY M).cls := by
  simp only [m_chk, Bool.and_eq_true, decide_eq_true_eq] at h
  obtain ⟨h1, h2, h3, h4, h5, h6, h7, h8, h9, h10⟩ := h
  refine ⟨⟨h1, h_at_ok h2, h_at_ok h3, ⟨h4, h5⟩, h6, fun hk => ?_, fun hk => ?_, fun hk => ?_, h8⟩, ⟨d_chk_ok hd, i_chk_ok h10⟩, h9⟩
  · rw [hk] at h7
    exact h_at_ok h7
  · rw [hk] at h7
    simp only [Bool.and_eq_true] at h7
    obtain ⟨a1, a2, a3⟩ := h7
    refine ⟨h_at_ok a1, h_at_ok a2, ?_⟩
    split at a3
    · rename_i r hr
      exact ⟨r, hr, of_decide_eq_true a3⟩
    · cases a3
  · rw [hk] at h7
    simp only [Bool.and_eq_true, decide_eq_true_eq] at h7
    exact ⟨h7.1, h_at_ok h7.2.1, h7.2.2⟩
def r_chk (own : String) (x : Nat × RES) (ps : List Nat) (host : String) : Bool := match x, ps with
  | (i, (0, ci, k, _)), [a] => (match vwCl[ci]? with | some q => decide (k < q.2.2) && h_at a (.fieldLink own i (q.2.1 k).1 (q.2.1 k).2.1 (q.2.1 k).2.2.1) | none => false)
  | (i, (1, ci, k, _)), [a] => (match vwCl[ci]? with | some q => decide (k < q.2.2) && n_at a (.fieldLinkNest own i (q.2.1 k).1 (q.2.1 k).2.1 (q.2.1 k).2.2.1 host) | none => false)
  | (i, (2, ci, n, _)), [a, a2, a3] => (match vwCl[ci]? with | some q => decide (q.2.2 = n) && (h_at a (.classLink own i q.1) && (h_at a2 (.instantiable q.1 n) && h_at a3 (.initialized q.1))) | none => false)
  | (i, (3, t, _, _)), [a] => (match vwCl[e_acls t]? with | some q => decide (100000 ≤ i) && (h_at a (.classLink own (i - 100000) q.1) && decide (q.1 = "NounFast$Scene" ∨ q.1 = "NounFast$Sentence")) | none => false)
  | (i, (4, j, _, _)), [a] => (match PRG[j]? with | some M => h_at a (.methodLink own i (mY M)) | none => false)
  | (i, (5, j, _, _)), [a] => (match PRG[j]? with | some M => n_at a (.methodLinkNest own i (mY M) host) | none => false)
  | (i, (6, _, _, _)), [a] => h_at a (.methodLink own i Lib.objectInit)
  | (i, (7, _, _, _)), [a] => h_at a (.methodLink own i arraycopyName)
  | (i, (9, _, _, v)), [a] => h_at a (.constantLong own i (Int64.ofInt v)) && (decide (-9223372036854775808 ≤ v) && decide (v < 9223372036854775808))
  | (_, (10, _, _, _)), _ => true
  | _, _ => false
theorem r_chk_ok {own : String} {x : Nat × RES} {ps : List Nat} {host : String} (h : r_chk own x ps host = true) : ROK PRG own x.1 x.2 := by
  unfold r_chk at h
  split at h
  · split at h
    · rename_i hq
      simp only [Bool.and_eq_true, decide_eq_true_eq] at h
      exact ⟨_, hq, h.1, h_at_ok h.2⟩
    · cases h
  · split at h
    · rename_i hq
      simp only [Bool.and_eq_true, decide_eq_true_eq] at h
      exact ⟨_, host, hq, h.1, n_at_ok h.2⟩
    · cases h
  · split at h
    · rename_i hq
      simp only [Bool.and_eq_true, decide_eq_true_eq] at h
      exact ⟨_, hq, h.1, h_at_ok h.2.1, h_at_ok h.2.2.1, h_at_ok h.2.2.2⟩
    · cases h
  · split at h
    · rename_i hq
      simp only [Bool.and_eq_true, decide_eq_true_eq] at h
      exact ⟨_, _, hq, (Nat.sub_add_cancel h.1).symm, h_at_ok h.2.1, h.2.2⟩
    · cases h
  · split at h
    · rename_i hq
      exact ⟨_, hq, h_at_ok h⟩
    · cases h
  · split at h
    · rename_i hq
      exact ⟨_, host, hq, n_at_ok h⟩
    · cases h
  · exact h_at_ok h
  · exact h_at_ok h
  · simp only [Bool.and_eq_true, decide_eq_true_eq] at h
    exact ⟨h_at_ok h.1, h.2.1, h.2.2⟩
  · trivial
  · cases h
def r_all (own : String) : List (Nat × RES) → List (List Nat × String) → Bool
  | [], _ => true
  | x :: r, p :: q => r_chk own x p.1 p.2 && r_all own r q
  | _ :: _, [] => false
theorem r_all_ok {own : String} : ∀ {x : List (Nat × RES)} {ps : List (List Nat × String)}, r_all own x ps = true → ∀ q ∈ x, ROK PRG own q.1 q.2 := by
  intro x
  induction x with
  | nil => intro ps _ q hq; cases hq
  | cons a r ih =>
    intro ps h q hq
    cases ps with
    | nil => cases h
    | cons p t =>
      simp only [r_all, Bool.and_eq_true] at h
      rcases List.mem_cons.mp hq with rfl | hq
      · exact r_chk_ok h.1
      · exact ih h.2 q hq
theorem all_0 {Z : MT → Prop} : ∀ M ∈ ([] : List MT), Z M := fun _ h => by cases h
theorem all_c {Z : MT → Prop} {M : MT} {r : List MT} (h : Z M) (hr : ∀ M ∈ r, Z M) : ∀ M' ∈ M :: r, Z M' := fun M' h' => (List.mem_cons.mp h').elim (fun e => e ▸ h) (hr M')

theorem td_J9_floorMod_7cf53 : d_chk mt_J9_floorMod_7cf53 = true := by decide +kernel
theorem tm_J9_floorMod_7cf53 : m_chk mt_J9_floorMod_7cf53 (688, 128, 687, 0) = true := by decide +kernel
theorem td_J9_min_7cf53 : d_chk mt_J9_min_7cf53 = true := by decide +kernel
theorem tm_J9_min_7cf53 : m_chk mt_J9_min_7cf53 (493, 128, 492, 0) = true := by decide +kernel
theorem td_X0_init : d_chk mt_X0_init = true := by decide +kernel
theorem tm_X0_init : m_chk mt_X0_init (342, 123, 341, 0) = true := by decide +kernel
theorem td_X0_judge : d_chk mt_X0_judge = true := by decide +kernel
theorem tm_X0_judge : m_chk mt_X0_judge (1071, 123, 1069, 1070) = true := by decide +kernel
theorem td_X0_read : d_chk mt_X0_read = true := by decide +kernel
theorem tm_X0_read : m_chk mt_X0_read (1046, 123, 1044, 1045) = true := by decide +kernel
theorem td_X0_tell : d_chk mt_X0_tell = true := by decide +kernel
theorem tm_X0_tell : m_chk mt_X0_tell (1098, 123, 1096, 1097) = true := by decide +kernel
theorem td_X10_behindBlanks : d_chk mt_X10_behindBlanks = true := by decide +kernel
theorem tm_X10_behindBlanks : m_chk mt_X10_behindBlanks (486, 119, 485, 0) = true := by decide +kernel
theorem td_X10_fail : d_chk mt_X10_fail = true := by decide +kernel
theorem tm_X10_fail : m_chk mt_X10_fail (596, 119, 594, 595) = true := by decide +kernel
theorem td_X10_init : d_chk mt_X10_init = true := by decide +kernel
theorem tm_X10_init : m_chk mt_X10_init (170, 119, 169, 0) = true := by decide +kernel
theorem td_X10_isWord : d_chk mt_X10_isWord = true := by decide +kernel
theorem tm_X10_isWord : m_chk mt_X10_isWord (618, 119, 616, 617) = true := by decide +kernel
theorem td_X10_open_0 : d_chkL cX10_open tc_X10_open_0 = true := by decide +kernel
theorem td_X10_open_1 : d_chkL cX10_open tc_X10_open_1 = true := by decide +kernel
theorem td_X10_open_2 : d_chkL cX10_open tc_X10_open_2 = true := by decide +kernel
theorem td_X10_open : d_chk mt_X10_open = true := d_app td_X10_open_0 (d_app td_X10_open_1 (td_X10_open_2))
theorem tm_X10_open : m_chk mt_X10_open (482, 119, 480, 481) = true := by decide +kernel
theorem td_X10_plainWord : d_chk mt_X10_plainWord = true := by decide +kernel
theorem tm_X10_plainWord : m_chk mt_X10_plainWord (586, 119, 584, 585) = true := by decide +kernel
theorem td_X10_step : d_chk mt_X10_step = true := by decide +kernel
theorem tm_X10_step : m_chk mt_X10_step (574, 119, 572, 573) = true := by decide +kernel
theorem td_X10_takeEnd : d_chk mt_X10_takeEnd = true := by decide +kernel
theorem tm_X10_takeEnd : m_chk mt_X10_takeEnd (1162, 119, 1160, 1161) = true := by decide +kernel
theorem td_X11_ask : d_chk mt_X11_ask = true := by decide +kernel
theorem tm_X11_ask : m_chk mt_X11_ask (722, 117, 720, 721) = true := by decide +kernel
theorem td_X11_book : d_chk mt_X11_book = true := by decide +kernel
theorem tm_X11_book : m_chk mt_X11_book (1042, 117, 1040, 1041) = true := by decide +kernel
theorem td_X11_byteAt : d_chk mt_X11_byteAt = true := by decide +kernel
theorem tm_X11_byteAt : m_chk mt_X11_byteAt (998, 117, 996, 997) = true := by decide +kernel
theorem td_X11_cant : d_chk mt_X11_cant = true := by decide +kernel
theorem tm_X11_cant : m_chk mt_X11_cant (920, 117, 918, 919) = true := by decide +kernel
theorem td_X11_canting : d_chk mt_X11_canting = true := by decide +kernel
theorem tm_X11_canting : m_chk mt_X11_canting (927, 117, 925, 926) = true := by decide +kernel
theorem td_X11_city : d_chk mt_X11_city = true := by decide +kernel
theorem tm_X11_city : m_chk mt_X11_city (478, 117, 476, 477) = true := by decide +kernel
theorem td_X11_closeText : d_chk mt_X11_closeText = true := by decide +kernel
theorem tm_X11_closeText : m_chk mt_X11_closeText (638, 117, 637, 12) = true := by decide +kernel
theorem td_X11_count : d_chk mt_X11_count = true := by decide +kernel
theorem tm_X11_count : m_chk mt_X11_count (1201, 117, 1199, 1200) = true := by decide +kernel
theorem td_X11_cover : d_chk mt_X11_cover = true := by decide +kernel
theorem tm_X11_cover : m_chk mt_X11_cover (869, 117, 867, 868) = true := by decide +kernel
theorem td_X11_covering : d_chk mt_X11_covering = true := by decide +kernel
theorem tm_X11_covering : m_chk mt_X11_covering (880, 117, 878, 879) = true := by decide +kernel
theorem td_X11_days : d_chk mt_X11_days = true := by decide +kernel
theorem tm_X11_days : m_chk mt_X11_days (804, 117, 802, 803) = true := by decide +kernel
theorem td_X11_drawn : d_chk mt_X11_drawn = true := by decide +kernel
theorem tm_X11_drawn : m_chk mt_X11_drawn (1002, 117, 1000, 1001) = true := by decide +kernel
theorem td_X11_end : d_chk mt_X11_end = true := by decide +kernel
theorem tm_X11_end : m_chk mt_X11_end (474, 117, 472, 473) = true := by decide +kernel
theorem td_X11_fault : d_chk mt_X11_fault = true := by decide +kernel
theorem tm_X11_fault : m_chk mt_X11_fault (653, 117, 651, 652) = true := by decide +kernel
theorem td_X11_feed : d_chk mt_X11_feed = true := by decide +kernel
theorem tm_X11_feed : m_chk mt_X11_feed (466, 117, 464, 465) = true := by decide +kernel
theorem td_X11_fits : d_chk mt_X11_fits = true := by decide +kernel
theorem tm_X11_fits : m_chk mt_X11_fits (829, 117, 827, 828) = true := by decide +kernel
theorem td_X11_go : d_chk mt_X11_go = true := by decide +kernel
theorem tm_X11_go : m_chk mt_X11_go (692, 117, 690, 691) = true := by decide +kernel
theorem td_X11_image : d_chk mt_X11_image = true := by decide +kernel
theorem tm_X11_image : m_chk mt_X11_image (1193, 117, 1191, 1192) = true := by decide +kernel
theorem td_X11_init_0 : d_chkL cX11_init tc_X11_init_0 = true := by decide +kernel
theorem td_X11_init_1 : d_chkL cX11_init tc_X11_init_1 = true := by decide +kernel
theorem td_X11_init_2 : d_chkL cX11_init tc_X11_init_2 = true := by decide +kernel
theorem td_X11_init_3 : d_chkL cX11_init tc_X11_init_3 = true := by decide +kernel
theorem td_X11_init : d_chk mt_X11_init = true := d_app td_X11_init_0 (d_app td_X11_init_1 (d_app td_X11_init_2 (td_X11_init_3)))
theorem tm_X11_init : m_chk mt_X11_init (145, 117, 144, 0) = true := by decide +kernel
theorem td_X11_keptDays : d_chk mt_X11_keptDays = true := by decide +kernel
theorem tm_X11_keptDays : m_chk mt_X11_keptDays (817, 117, 816, 17) = true := by decide +kernel
theorem td_X11_learn : d_chk mt_X11_learn = true := by decide +kernel
theorem tm_X11_learn : m_chk mt_X11_learn (793, 117, 791, 792) = true := by decide +kernel
theorem td_X11_lies : d_chk mt_X11_lies = true := by decide +kernel
theorem tm_X11_lies : m_chk mt_X11_lies (657, 117, 655, 656) = true := by decide +kernel
theorem td_X11_name : d_chk mt_X11_name = true := by decide +kernel
theorem tm_X11_name : m_chk mt_X11_name (760, 117, 758, 759) = true := by decide +kernel
theorem td_X11_news : d_chk mt_X11_news = true := by decide +kernel
theorem tm_X11_news : m_chk mt_X11_news (964, 117, 962, 963) = true := by decide +kernel
theorem td_X11_now : d_chk mt_X11_now = true := by decide +kernel
theorem tm_X11_now : m_chk mt_X11_now (673, 117, 671, 672) = true := by decide +kernel
theorem td_X11_odds : d_chk mt_X11_odds = true := by decide +kernel
theorem tm_X11_odds : m_chk mt_X11_odds (1037, 117, 1035, 1036) = true := by decide +kernel
theorem td_X11_phrase : d_chk mt_X11_phrase = true := by decide +kernel
theorem tm_X11_phrase : m_chk mt_X11_phrase (977, 117, 975, 976) = true := by decide +kernel
theorem td_X11_point : d_chk mt_X11_point = true := by decide +kernel
theorem tm_X11_point : m_chk mt_X11_point (777, 117, 775, 776) = true := by decide +kernel
theorem td_X11_put : d_chk mt_X11_put = true := by decide +kernel
theorem tm_X11_put : m_chk mt_X11_put (785, 117, 783, 784) = true := by decide +kernel
theorem td_X11_rest : d_chk mt_X11_rest = true := by decide +kernel
theorem tm_X11_rest : m_chk mt_X11_rest (931, 117, 929, 930) = true := by decide +kernel
theorem td_X11_rested : d_chk mt_X11_rested = true := by decide +kernel
theorem tm_X11_rested : m_chk mt_X11_rested (960, 117, 958, 959) = true := by decide +kernel
theorem td_X11_restore : d_chk mt_X11_restore = true := by decide +kernel
theorem tm_X11_restore : m_chk mt_X11_restore (1197, 117, 1195, 1196) = true := by decide +kernel
theorem td_X11_said : d_chk mt_X11_said = true := by decide +kernel
theorem tm_X11_said : m_chk mt_X11_said (1166, 117, 1164, 1165) = true := by decide +kernel
theorem td_X11_say : d_chk mt_X11_say = true := by decide +kernel
theorem tm_X11_say : m_chk mt_X11_say (834, 117, 832, 833) = true := by decide +kernel
theorem td_X11_saying : d_chk mt_X11_saying = true := by decide +kernel
theorem tm_X11_saying : m_chk mt_X11_saying (856, 117, 854, 855) = true := by decide +kernel
theorem td_X11_sentence : d_chk mt_X11_sentence = true := by decide +kernel
theorem tm_X11_sentence : m_chk mt_X11_sentence (1102, 117, 1100, 1101) = true := by decide +kernel
theorem td_X11_show : d_chk mt_X11_show = true := by decide +kernel
theorem tm_X11_show : m_chk mt_X11_show (916, 117, 914, 915) = true := by decide +kernel
theorem td_X11_spoken : d_chk mt_X11_spoken = true := by decide +kernel
theorem tm_X11_spoken : m_chk mt_X11_spoken (884, 117, 882, 883) = true := by decide +kernel
theorem td_X11_surely : d_chk mt_X11_surely = true := by decide +kernel
theorem tm_X11_surely : m_chk mt_X11_surely (912, 117, 910, 911) = true := by decide +kernel
theorem td_X11_told : d_chk mt_X11_told = true := by decide +kernel
theorem tm_X11_told : m_chk mt_X11_told (1094, 117, 1092, 1093) = true := by decide +kernel
theorem td_X11_twin : d_chk mt_X11_twin = true := by decide +kernel
theorem tm_X11_twin : m_chk mt_X11_twin (860, 117, 858, 859) = true := by decide +kernel
theorem td_X11_undo : d_chk mt_X11_undo = true := by decide +kernel
theorem tm_X11_undo : m_chk mt_X11_undo (821, 117, 819, 820) = true := by decide +kernel
theorem td_X12_ask : d_chk mt_X12_ask = true := by decide +kernel
theorem tm_X12_ask : m_chk mt_X12_ask (1686, 127, 1684, 1685) = true := by decide +kernel
theorem td_X12_back : d_chk mt_X12_back = true := by decide +kernel
theorem tm_X12_back : m_chk mt_X12_back (1935, 127, 1934, 104) = true := by decide +kernel
theorem td_X12_bad : d_chk mt_X12_bad = true := by decide +kernel
theorem tm_X12_bad : m_chk mt_X12_bad (1556, 127, 1555, 47) = true := by decide +kernel
theorem td_X12_book_0 : d_chkL cX12_book tc_X12_book_0 = true := by decide +kernel
theorem td_X12_book_1 : d_chkL cX12_book tc_X12_book_1 = true := by decide +kernel
theorem td_X12_book_2 : d_chkL cX12_book tc_X12_book_2 = true := by decide +kernel
theorem td_X12_book_3 : d_chkL cX12_book tc_X12_book_3 = true := by decide +kernel
theorem td_X12_book : d_chk mt_X12_book = true := d_app td_X12_book_0 (d_app td_X12_book_1 (d_app td_X12_book_2 (td_X12_book_3)))
theorem tm_X12_book : m_chk mt_X12_book (1939, 127, 1937, 1938) = true := by decide +kernel
theorem td_X12_byteAt : d_chk mt_X12_byteAt = true := by decide +kernel
theorem tm_X12_byteAt : m_chk mt_X12_byteAt (1906, 127, 1904, 1905) = true := by decide +kernel
theorem td_X12_cant : d_chk mt_X12_cant = true := by decide +kernel
theorem tm_X12_cant : m_chk mt_X12_cant (1855, 127, 1853, 1854) = true := by decide +kernel
theorem td_X12_canting : d_chk mt_X12_canting = true := by decide +kernel
theorem tm_X12_canting : m_chk mt_X12_canting (1859, 127, 1857, 1858) = true := by decide +kernel
theorem td_X12_carriedSet : d_chk mt_X12_carriedSet = true := by decide +kernel
theorem tm_X12_carriedSet : m_chk mt_X12_carriedSet (1674, 127, 1673, 70) = true := by decide +kernel
theorem td_X12_city_0 : d_chkL cX12_city tc_X12_city_0 = true := by decide +kernel
theorem td_X12_city_1 : d_chkL cX12_city tc_X12_city_1 = true := by decide +kernel
theorem td_X12_city_2 : d_chkL cX12_city tc_X12_city_2 = true := by decide +kernel
theorem td_X12_city_3 : d_chkL cX12_city tc_X12_city_3 = true := by decide +kernel
theorem td_X12_city_4 : d_chkL cX12_city tc_X12_city_4 = true := by decide +kernel
theorem td_X12_city_5 : d_chkL cX12_city tc_X12_city_5 = true := by decide +kernel
theorem td_X12_city : d_chk mt_X12_city = true := d_app td_X12_city_0 (d_app td_X12_city_1 (d_app td_X12_city_2 (d_app td_X12_city_3 (d_app td_X12_city_4 (td_X12_city_5)))))
theorem tm_X12_city : m_chk mt_X12_city (1522, 127, 1520, 1521) = true := by decide +kernel
theorem td_X12_clears : d_chk mt_X12_clears = true := by decide +kernel
theorem tm_X12_clears : m_chk mt_X12_clears (1357, 127, 1356, 40) = true := by decide +kernel
theorem td_X12_count : d_chk mt_X12_count = true := by decide +kernel
theorem tm_X12_count : m_chk mt_X12_count (2007, 127, 2005, 2006) = true := by decide +kernel
theorem td_X12_cover : d_chk mt_X12_cover = true := by decide +kernel
theorem tm_X12_cover : m_chk mt_X12_cover (1815, 127, 1813, 1814) = true := by decide +kernel
theorem td_X12_covering : d_chk mt_X12_covering = true := by decide +kernel
theorem tm_X12_covering : m_chk mt_X12_covering (1823, 127, 1821, 1822) = true := by decide +kernel
theorem td_X12_day : d_chk mt_X12_day = true := by decide +kernel
theorem tm_X12_day : m_chk mt_X12_day (1780, 127, 1779, 88) = true := by decide +kernel
theorem td_X12_days : d_chk mt_X12_days = true := by decide +kernel
theorem tm_X12_days : m_chk mt_X12_days (1772, 127, 1770, 1771) = true := by decide +kernel
theorem td_X12_drawn : d_chk mt_X12_drawn = true := by decide +kernel
theorem tm_X12_drawn : m_chk mt_X12_drawn (1910, 127, 1908, 1909) = true := by decide +kernel
theorem td_X12_end : d_chk mt_X12_end = true := by decide +kernel
theorem tm_X12_end : m_chk mt_X12_end (1319, 127, 1317, 1318) = true := by decide +kernel
theorem td_X12_fault : d_chk mt_X12_fault = true := by decide +kernel
theorem tm_X12_fault : m_chk mt_X12_fault (1618, 127, 1616, 1617) = true := by decide +kernel
theorem td_X12_feed : d_chk mt_X12_feed = true := by decide +kernel
theorem tm_X12_feed : m_chk mt_X12_feed (1310, 127, 1308, 1309) = true := by decide +kernel
theorem td_X12_fits : d_chk mt_X12_fits = true := by decide +kernel
theorem tm_X12_fits : m_chk mt_X12_fits (1791, 127, 1789, 1790) = true := by decide +kernel
theorem td_X12_four : d_chk mt_X12_four = true := by decide +kernel
theorem tm_X12_four : m_chk mt_X12_four (1315, 127, 1313, 39) = true := by decide +kernel
theorem td_X12_go : d_chk mt_X12_go = true := by decide +kernel
theorem tm_X12_go : m_chk mt_X12_go (1678, 127, 1676, 1677) = true := by decide +kernel
theorem td_X12_goesOn : d_chk mt_X12_goesOn = true := by decide +kernel
theorem tm_X12_goesOn : m_chk mt_X12_goesOn (1776, 127, 1775, 87) = true := by decide +kernel
theorem td_X12_image : d_chk mt_X12_image = true := by decide +kernel
theorem tm_X12_image : m_chk mt_X12_image (1999, 127, 1997, 1998) = true := by decide +kernel
theorem td_X12_init_0 : d_chkL cX12_init tc_X12_init_0 = true := by decide +kernel
theorem td_X12_init_1 : d_chkL cX12_init tc_X12_init_1 = true := by decide +kernel
theorem td_X12_init_2 : d_chkL cX12_init tc_X12_init_2 = true := by decide +kernel
theorem td_X12_init_3 : d_chkL cX12_init tc_X12_init_3 = true := by decide +kernel
theorem td_X12_init_4 : d_chkL cX12_init tc_X12_init_4 = true := by decide +kernel
theorem td_X12_init_5 : d_chkL cX12_init tc_X12_init_5 = true := by decide +kernel
theorem td_X12_init_6 : d_chkL cX12_init tc_X12_init_6 = true := by decide +kernel
theorem td_X12_init_7 : d_chkL cX12_init tc_X12_init_7 = true := by decide +kernel
theorem td_X12_init_8 : d_chkL cX12_init tc_X12_init_8 = true := by decide +kernel
theorem td_X12_init_9 : d_chkL cX12_init tc_X12_init_9 = true := by decide +kernel
theorem td_X12_init : d_chk mt_X12_init = true := d_app td_X12_init_0 (d_app td_X12_init_1 (d_app td_X12_init_2 (d_app td_X12_init_3 (d_app td_X12_init_4 (d_app td_X12_init_5 (d_app td_X12_init_6 (d_app td_X12_init_7 (d_app td_X12_init_8 (td_X12_init_9)))))))))
theorem tm_X12_init : m_chk mt_X12_init (1323, 127, 1322, 0) = true := by decide +kernel
theorem td_X12_isFast : d_chk mt_X12_isFast = true := by decide +kernel
theorem tm_X12_isFast : m_chk mt_X12_isFast (1670, 127, 1669, 69) = true := by decide +kernel
theorem td_X12_isIn : d_chk mt_X12_isIn = true := by decide +kernel
theorem tm_X12_isIn : m_chk mt_X12_isIn (1602, 127, 1601, 0) = true := by decide +kernel
theorem td_X12_isPerson : d_chk mt_X12_isPerson = true := by decide +kernel
theorem tm_X12_isPerson : m_chk mt_X12_isPerson (1646, 127, 1645, 65) = true := by decide +kernel
theorem td_X12_isPlace : d_chk mt_X12_isPlace = true := by decide +kernel
theorem tm_X12_isPlace : m_chk mt_X12_isPlace (1658, 127, 1657, 67) = true := by decide +kernel
theorem td_X12_isSign : d_chk mt_X12_isSign = true := by decide +kernel
theorem tm_X12_isSign : m_chk mt_X12_isSign (1614, 127, 1613, 60) = true := by decide +kernel
theorem td_X12_isThing : d_chk mt_X12_isThing = true := by decide +kernel
theorem tm_X12_isThing : m_chk mt_X12_isThing (1626, 127, 1625, 61) = true := by decide +kernel
theorem td_X12_isWord : d_chk mt_X12_isWord = true := by decide +kernel
theorem tm_X12_isWord : m_chk mt_X12_isWord (1548, 127, 1547, 45) = true := by decide +kernel
theorem td_X12_keep : d_chk mt_X12_keep = true := by decide +kernel
theorem tm_X12_keep : m_chk mt_X12_keep (1682, 127, 1681, 71) = true := by decide +kernel
theorem td_X12_leafOf : d_chk mt_X12_leafOf = true := by decide +kernel
theorem tm_X12_leafOf : m_chk mt_X12_leafOf (1983, 127, 1982, 113) = true := by decide +kernel
theorem td_X12_learn : d_chk mt_X12_learn = true := by decide +kernel
theorem tm_X12_learn : m_chk mt_X12_learn (1760, 127, 1758, 1759) = true := by decide +kernel
theorem td_X12_lies : d_chk mt_X12_lies = true := by decide +kernel
theorem tm_X12_lies : m_chk mt_X12_lies (1654, 127, 1652, 1653) = true := by decide +kernel
theorem td_X12_name : d_chk mt_X12_name = true := by decide +kernel
theorem tm_X12_name : m_chk mt_X12_name (1720, 127, 1718, 1719) = true := by decide +kernel
theorem td_X12_news : d_chk mt_X12_news = true := by decide +kernel
theorem tm_X12_news : m_chk mt_X12_news (1883, 127, 1881, 1882) = true := by decide +kernel
theorem td_X12_next : d_chk mt_X12_next = true := by decide +kernel
theorem tm_X12_next : m_chk mt_X12_next (1530, 127, 1529, 42) = true := by decide +kernel
theorem td_X12_now : d_chk mt_X12_now = true := by decide +kernel
theorem tm_X12_now : m_chk mt_X12_now (1666, 127, 1664, 1665) = true := by decide +kernel
theorem td_X12_odds : d_chk mt_X12_odds = true := by decide +kernel
theorem tm_X12_odds : m_chk mt_X12_odds (1927, 127, 1925, 1926) = true := by decide +kernel
theorem td_X12_operand : d_chk mt_X12_operand = true := by decide +kernel
theorem tm_X12_operand : m_chk mt_X12_operand (1979, 127, 1978, 112) = true := by decide +kernel
theorem td_X12_peek : d_chk mt_X12_peek = true := by decide +kernel
theorem tm_X12_peek : m_chk mt_X12_peek (1534, 127, 1533, 43) = true := by decide +kernel
theorem td_X12_person : d_chk mt_X12_person = true := by decide +kernel
theorem tm_X12_person : m_chk mt_X12_person (1642, 127, 1640, 1641) = true := by decide +kernel
theorem td_X12_phrase : d_chk mt_X12_phrase = true := by decide +kernel
theorem tm_X12_phrase : m_chk mt_X12_phrase (1887, 127, 1885, 1886) = true := by decide +kernel
theorem td_X12_point : d_chk mt_X12_point = true := by decide +kernel
theorem tm_X12_point : m_chk mt_X12_point (1740, 127, 1738, 1739) = true := by decide +kernel
theorem td_X12_put : d_chk mt_X12_put = true := by decide +kernel
theorem tm_X12_put : m_chk mt_X12_put (1752, 127, 1750, 1751) = true := by decide +kernel
theorem td_X12_rest : d_chk mt_X12_rest = true := by decide +kernel
theorem tm_X12_rest : m_chk mt_X12_rest (1863, 127, 1861, 1862) = true := by decide +kernel
theorem td_X12_rested : d_chk mt_X12_rested = true := by decide +kernel
theorem tm_X12_rested : m_chk mt_X12_rested (1879, 127, 1877, 1878) = true := by decide +kernel
theorem td_X12_restore : d_chk mt_X12_restore = true := by decide +kernel
theorem tm_X12_restore : m_chk mt_X12_restore (2003, 127, 2001, 2002) = true := by decide +kernel
theorem td_X12_said : d_chk mt_X12_said = true := by decide +kernel
theorem tm_X12_said : m_chk mt_X12_said (1987, 127, 1985, 1986) = true := by decide +kernel
theorem td_X12_say : d_chk mt_X12_say = true := by decide +kernel
theorem tm_X12_say : m_chk mt_X12_say (1795, 127, 1793, 1794) = true := by decide +kernel
theorem td_X12_saying : d_chk mt_X12_saying = true := by decide +kernel
theorem tm_X12_saying : m_chk mt_X12_saying (1799, 127, 1797, 1798) = true := by decide +kernel
theorem td_X12_sentence : d_chk mt_X12_sentence = true := by decide +kernel
theorem tm_X12_sentence : m_chk mt_X12_sentence (1959, 127, 1957, 1958) = true := by decide +kernel
theorem td_X12_show : d_chk mt_X12_show = true := by decide +kernel
theorem tm_X12_show : m_chk mt_X12_show (1851, 127, 1849, 1850) = true := by decide +kernel
theorem td_X12_slip : d_chk mt_X12_slip = true := by decide +kernel
theorem tm_X12_slip : m_chk mt_X12_slip (1811, 127, 1809, 1810) = true := by decide +kernel
theorem td_X12_spoken : d_chk mt_X12_spoken = true := by decide +kernel
theorem tm_X12_spoken : m_chk mt_X12_spoken (1827, 127, 1825, 1826) = true := by decide +kernel
theorem td_X12_surely : d_chk mt_X12_surely = true := by decide +kernel
theorem tm_X12_surely : m_chk mt_X12_surely (1847, 127, 1845, 1846) = true := by decide +kernel
theorem td_X12_taken : d_chk mt_X12_taken = true := by decide +kernel
theorem tm_X12_taken : m_chk mt_X12_taken (1526, 127, 1525, 41) = true := by decide +kernel
theorem td_X12_thing : d_chk mt_X12_thing = true := by decide +kernel
theorem tm_X12_thing : m_chk mt_X12_thing (1622, 127, 1620, 1621) = true := by decide +kernel
theorem td_X12_thrown : d_chk mt_X12_thrown = true := by decide +kernel
theorem tm_X12_thrown : m_chk mt_X12_thrown (1306, 127, 1304, 1305) = true := by decide +kernel
theorem td_X12_throwsIf : d_chk mt_X12_throwsIf = true := by decide +kernel
theorem tm_X12_throwsIf : m_chk mt_X12_throwsIf (1630, 127, 1629, 62) = true := by decide +kernel
theorem td_X12_told : d_chk mt_X12_told = true := by decide +kernel
theorem tm_X12_told : m_chk mt_X12_told (1955, 127, 1953, 1954) = true := by decide +kernel
theorem td_X12_tries : d_chk mt_X12_tries = true := by decide +kernel
theorem tm_X12_tries : m_chk mt_X12_tries (1931, 127, 1930, 103) = true := by decide +kernel
theorem td_X12_twin : d_chk mt_X12_twin = true := by decide +kernel
theorem tm_X12_twin : m_chk mt_X12_twin (1803, 127, 1801, 1802) = true := by decide +kernel
theorem td_X12_undo : d_chk mt_X12_undo = true := by decide +kernel
theorem tm_X12_undo : m_chk mt_X12_undo (1787, 127, 1785, 1786) = true := by decide +kernel
theorem td_X1_has : d_chk mt_X1_has = true := by decide +kernel
theorem tm_X1_has : m_chk mt_X1_has (665, 121, 663, 664) = true := by decide +kernel
theorem td_X1_init_0 : d_chkL cX1_init tc_X1_init_0 = true := by decide +kernel
theorem td_X1_init_1 : d_chkL cX1_init tc_X1_init_1 = true := by decide +kernel
theorem td_X1_init_2 : d_chkL cX1_init tc_X1_init_2 = true := by decide +kernel
theorem td_X1_init : d_chk mt_X1_init = true := d_app td_X1_init_0 (d_app td_X1_init_1 (td_X1_init_2))
theorem tm_X1_init : m_chk mt_X1_init (220, 121, 219, 0) = true := by decide +kernel
theorem td_X1_read : d_chk mt_X1_read = true := by decide +kernel
theorem tm_X1_read : m_chk mt_X1_read (578, 121, 576, 577) = true := by decide +kernel
theorem td_X2_hear : d_chk mt_X2_hear = true := by decide +kernel
theorem tm_X2_hear : m_chk mt_X2_hear (888, 125, 886, 887) = true := by decide +kernel
theorem td_X2_init : d_chk mt_X2_init = true := by decide +kernel
theorem tm_X2_init : m_chk mt_X2_init (381, 125, 380, 0) = true := by decide +kernel
theorem td_X2_isTold : d_chk mt_X2_isTold = true := by decide +kernel
theorem tm_X2_isTold : m_chk mt_X2_isTold (891, 125, 890, 0) = true := by decide +kernel
theorem td_X3_init : d_chk mt_X3_init = true := by decide +kernel
theorem tm_X3_init : m_chk mt_X3_init (399, 126, 398, 0) = true := by decide +kernel
theorem td_X4_clear : d_chk mt_X4_clear = true := by decide +kernel
theorem tm_X4_clear : m_chk mt_X4_clear (649, 122, 647, 648) = true := by decide +kernel
theorem td_X4_init : d_chk mt_X4_init = true := by decide +kernel
theorem tm_X4_init : m_chk mt_X4_init (324, 122, 323, 0) = true := by decide +kernel
theorem td_X4_keep : d_chk mt_X4_keep = true := by decide +kernel
theorem tm_X4_keep : m_chk mt_X4_keep (718, 122, 716, 717) = true := by decide +kernel
theorem td_X4_prepare : d_chk mt_X4_prepare = true := by decide +kernel
theorem tm_X4_prepare : m_chk mt_X4_prepare (696, 122, 694, 695) = true := by decide +kernel
theorem td_X4_slot : d_chk mt_X4_slot = true := by decide +kernel
theorem tm_X4_slot : m_chk mt_X4_slot (700, 122, 699, 13) = true := by decide +kernel
theorem td_X4_takeBack : d_chk mt_X4_takeBack = true := by decide +kernel
theorem tm_X4_takeBack : m_chk mt_X4_takeBack (825, 122, 823, 824) = true := by decide +kernel
theorem td_X6_init : d_chk mt_X6_init = true := by decide +kernel
theorem tm_X6_init : m_chk mt_X6_init (367, 124, 366, 0) = true := by decide +kernel
theorem td_X7_allCarried : d_chk mt_X7_allCarried = true := by decide +kernel
theorem tm_X7_allCarried : m_chk mt_X7_allCarried (685, 120, 683, 684) = true := by decide +kernel
theorem td_X7_allCoins : d_chk mt_X7_allCoins = true := by decide +kernel
theorem tm_X7_allCoins : m_chk mt_X7_allCoins (681, 120, 679, 680) = true := by decide +kernel
theorem td_X7_begin_0 : d_chkL cX7_begin tc_X7_begin_0 = true := by decide +kernel
theorem td_X7_begin_1 : d_chkL cX7_begin tc_X7_begin_1 = true := by decide +kernel
theorem td_X7_begin_2 : d_chkL cX7_begin tc_X7_begin_2 = true := by decide +kernel
theorem td_X7_begin : d_chk mt_X7_begin = true := d_app td_X7_begin_0 (d_app td_X7_begin_1 (td_X7_begin_2))
theorem tm_X7_begin : m_chk mt_X7_begin (642, 120, 640, 641) = true := by decide +kernel
theorem td_X7_copyFrom_0 : d_chkL cX7_copyFrom tc_X7_copyFrom_0 = true := by decide +kernel
theorem td_X7_copyFrom_1 : d_chkL cX7_copyFrom tc_X7_copyFrom_1 = true := by decide +kernel
theorem td_X7_copyFrom_2 : d_chkL cX7_copyFrom tc_X7_copyFrom_2 = true := by decide +kernel
theorem td_X7_copyFrom : d_chk mt_X7_copyFrom = true := d_app td_X7_copyFrom_0 (d_app td_X7_copyFrom_1 (td_X7_copyFrom_2))
theorem tm_X7_copyFrom : m_chk mt_X7_copyFrom (706, 120, 704, 705) = true := by decide +kernel
theorem td_X7_has : d_chk mt_X7_has = true := by decide +kernel
theorem tm_X7_has : m_chk mt_X7_has (661, 120, 659, 660) = true := by decide +kernel
theorem td_X7_init : d_chk mt_X7_init = true := by decide +kernel
theorem tm_X7_init : m_chk mt_X7_init (267, 120, 266, 0) = true := by decide +kernel
theorem td_X7_isFast : d_chk mt_X7_isFast = true := by decide +kernel
theorem tm_X7_isFast : m_chk mt_X7_isFast (677, 120, 675, 676) = true := by decide +kernel
theorem td_X7_passDay : d_chk mt_X7_passDay = true := by decide +kernel
theorem tm_X7_passDay : m_chk mt_X7_passDay (812, 120, 810, 811) = true := by decide +kernel
theorem td_X7_passDays : d_chk mt_X7_passDays = true := by decide +kernel
theorem tm_X7_passDays : m_chk mt_X7_passDays (808, 120, 806, 807) = true := by decide +kernel
theorem td_X8_init : d_chk mt_X8_init = true := by decide +kernel
theorem tm_X8_init : m_chk mt_X8_init (1106, 140, 1105, 0) = true := by decide +kernel
theorem td_X8_readAll : d_chk mt_X8_readAll = true := by decide +kernel
theorem tm_X8_readAll : m_chk mt_X8_readAll (1135, 140, 1134, 32) = true := by decide +kernel
theorem td_X8_readCondition : d_chk mt_X8_readCondition = true := by decide +kernel
theorem tm_X8_readCondition : m_chk mt_X8_readCondition (1131, 140, 1129, 1130) = true := by decide +kernel
theorem td_X8_readOne : d_chk mt_X8_readOne = true := by decide +kernel
theorem tm_X8_readOne : m_chk mt_X8_readOne (1139, 140, 1138, 33) = true := by decide +kernel
theorem td_X9_append : d_chk mt_X9_append = true := by decide +kernel
theorem tm_X9_append : m_chk mt_X9_append (470, 118, 468, 469) = true := by decide +kernel
theorem td_X9_init : d_chk mt_X9_init = true := by decide +kernel
theorem tm_X9_init : m_chk mt_X9_init (153, 118, 152, 0) = true := by decide +kernel
abbrev mZ (M : MT) : Prop := MOK M ∧ TOK OWN M ∧ OWN[mO M]? = some (mY M).cls
theorem tp_0 : ∀ M ∈ [mt_J9_floorMod_7cf53, mt_J9_min_7cf53, mt_X0_init, mt_X0_judge, mt_X0_read, mt_X0_tell, mt_X10_behindBlanks, mt_X10_fail, mt_X10_init, mt_X10_isWord, mt_X10_open, mt_X10_plainWord, mt_X10_step, mt_X10_takeEnd, mt_X11_ask, mt_X11_book, mt_X11_byteAt, mt_X11_cant, mt_X11_canting, mt_X11_city, mt_X11_closeText, mt_X11_count, mt_X11_cover, mt_X11_covering, mt_X11_days], mZ M := all_c (m_chk_ok tm_J9_floorMod_7cf53 td_J9_floorMod_7cf53) (all_c (m_chk_ok tm_J9_min_7cf53 td_J9_min_7cf53) (all_c (m_chk_ok tm_X0_init td_X0_init) (all_c (m_chk_ok tm_X0_judge td_X0_judge) (all_c (m_chk_ok tm_X0_read td_X0_read) (all_c (m_chk_ok tm_X0_tell td_X0_tell) (all_c (m_chk_ok tm_X10_behindBlanks td_X10_behindBlanks) (all_c (m_chk_ok tm_X10_fail td_X10_fail) (all_c (m_chk_ok tm_X10_init td_X10_init) (all_c (m_chk_ok tm_X10_isWord td_X10_isWord) (all_c (m_chk_ok tm_X10_open td_X10_open) (all_c (m_chk_ok tm_X10_plainWord td_X10_plainWord) (all_c (m_chk_ok tm_X10_step td_X10_step) (all_c (m_chk_ok tm_X10_takeEnd td_X10_takeEnd) (all_c (m_chk_ok tm_X11_ask td_X11_ask) (all_c (m_chk_ok tm_X11_book td_X11_book) (all_c (m_chk_ok tm_X11_byteAt td_X11_byteAt) (all_c (m_chk_ok tm_X11_cant td_X11_cant) (all_c (m_chk_ok tm_X11_canting td_X11_canting) (all_c (m_chk_ok tm_X11_city td_X11_city) (all_c (m_chk_ok tm_X11_closeText td_X11_closeText) (all_c (m_chk_ok tm_X11_count td_X11_count) (all_c (m_chk_ok tm_X11_cover td_X11_cover) (all_c (m_chk_ok tm_X11_covering td_X11_covering) (all_c (m_chk_ok tm_X11_days td_X11_days) (all_0)))))))))))))))))))))))))
theorem tp_1 : ∀ M ∈ [mt_X11_drawn, mt_X11_end, mt_X11_fault, mt_X11_feed, mt_X11_fits, mt_X11_go, mt_X11_image, mt_X11_init, mt_X11_keptDays, mt_X11_learn, mt_X11_lies, mt_X11_name, mt_X11_news, mt_X11_now, mt_X11_odds, mt_X11_phrase, mt_X11_point, mt_X11_put, mt_X11_rest, mt_X11_rested, mt_X11_restore, mt_X11_said, mt_X11_say, mt_X11_saying, mt_X11_sentence], mZ M := all_c (m_chk_ok tm_X11_drawn td_X11_drawn) (all_c (m_chk_ok tm_X11_end td_X11_end) (all_c (m_chk_ok tm_X11_fault td_X11_fault) (all_c (m_chk_ok tm_X11_feed td_X11_feed) (all_c (m_chk_ok tm_X11_fits td_X11_fits) (all_c (m_chk_ok tm_X11_go td_X11_go) (all_c (m_chk_ok tm_X11_image td_X11_image) (all_c (m_chk_ok tm_X11_init td_X11_init) (all_c (m_chk_ok tm_X11_keptDays td_X11_keptDays) (all_c (m_chk_ok tm_X11_learn td_X11_learn) (all_c (m_chk_ok tm_X11_lies td_X11_lies) (all_c (m_chk_ok tm_X11_name td_X11_name) (all_c (m_chk_ok tm_X11_news td_X11_news) (all_c (m_chk_ok tm_X11_now td_X11_now) (all_c (m_chk_ok tm_X11_odds td_X11_odds) (all_c (m_chk_ok tm_X11_phrase td_X11_phrase) (all_c (m_chk_ok tm_X11_point td_X11_point) (all_c (m_chk_ok tm_X11_put td_X11_put) (all_c (m_chk_ok tm_X11_rest td_X11_rest) (all_c (m_chk_ok tm_X11_rested td_X11_rested) (all_c (m_chk_ok tm_X11_restore td_X11_restore) (all_c (m_chk_ok tm_X11_said td_X11_said) (all_c (m_chk_ok tm_X11_say td_X11_say) (all_c (m_chk_ok tm_X11_saying td_X11_saying) (all_c (m_chk_ok tm_X11_sentence td_X11_sentence) (all_0)))))))))))))))))))))))))
theorem tp_2 : ∀ M ∈ [mt_X11_show, mt_X11_spoken, mt_X11_surely, mt_X11_told, mt_X11_twin, mt_X11_undo, mt_X12_ask, mt_X12_back, mt_X12_bad, mt_X12_book, mt_X12_byteAt, mt_X12_cant, mt_X12_canting, mt_X12_carriedSet, mt_X12_city, mt_X12_clears, mt_X12_count, mt_X12_cover, mt_X12_covering, mt_X12_day, mt_X12_days, mt_X12_drawn, mt_X12_end, mt_X12_fault, mt_X12_feed], mZ M := all_c (m_chk_ok tm_X11_show td_X11_show) (all_c (m_chk_ok tm_X11_spoken td_X11_spoken) (all_c (m_chk_ok tm_X11_surely td_X11_surely) (all_c (m_chk_ok tm_X11_told td_X11_told) (all_c (m_chk_ok tm_X11_twin td_X11_twin) (all_c (m_chk_ok tm_X11_undo td_X11_undo) (all_c (m_chk_ok tm_X12_ask td_X12_ask) (all_c (m_chk_ok tm_X12_back td_X12_back) (all_c (m_chk_ok tm_X12_bad td_X12_bad) (all_c (m_chk_ok tm_X12_book td_X12_book) (all_c (m_chk_ok tm_X12_byteAt td_X12_byteAt) (all_c (m_chk_ok tm_X12_cant td_X12_cant) (all_c (m_chk_ok tm_X12_canting td_X12_canting) (all_c (m_chk_ok tm_X12_carriedSet td_X12_carriedSet) (all_c (m_chk_ok tm_X12_city td_X12_city) (all_c (m_chk_ok tm_X12_clears td_X12_clears) (all_c (m_chk_ok tm_X12_count td_X12_count) (all_c (m_chk_ok tm_X12_cover td_X12_cover) (all_c (m_chk_ok tm_X12_covering td_X12_covering) (all_c (m_chk_ok tm_X12_day td_X12_day) (all_c (m_chk_ok tm_X12_days td_X12_days) (all_c (m_chk_ok tm_X12_drawn td_X12_drawn) (all_c (m_chk_ok tm_X12_end td_X12_end) (all_c (m_chk_ok tm_X12_fault td_X12_fault) (all_c (m_chk_ok tm_X12_feed td_X12_feed) (all_0)))))))))))))))))))))))))
theorem tp_3 : ∀ M ∈ [mt_X12_fits, mt_X12_four, mt_X12_go, mt_X12_goesOn, mt_X12_image, mt_X12_init, mt_X12_isFast, mt_X12_isIn, mt_X12_isPerson, mt_X12_isPlace, mt_X12_isSign, mt_X12_isThing, mt_X12_isWord, mt_X12_keep, mt_X12_leafOf, mt_X12_learn, mt_X12_lies, mt_X12_name, mt_X12_news, mt_X12_next, mt_X12_now, mt_X12_odds, mt_X12_operand, mt_X12_peek, mt_X12_person], mZ M := all_c (m_chk_ok tm_X12_fits td_X12_fits) (all_c (m_chk_ok tm_X12_four td_X12_four) (all_c (m_chk_ok tm_X12_go td_X12_go) (all_c (m_chk_ok tm_X12_goesOn td_X12_goesOn) (all_c (m_chk_ok tm_X12_image td_X12_image) (all_c (m_chk_ok tm_X12_init td_X12_init) (all_c (m_chk_ok tm_X12_isFast td_X12_isFast) (all_c (m_chk_ok tm_X12_isIn td_X12_isIn) (all_c (m_chk_ok tm_X12_isPerson td_X12_isPerson) (all_c (m_chk_ok tm_X12_isPlace td_X12_isPlace) (all_c (m_chk_ok tm_X12_isSign td_X12_isSign) (all_c (m_chk_ok tm_X12_isThing td_X12_isThing) (all_c (m_chk_ok tm_X12_isWord td_X12_isWord) (all_c (m_chk_ok tm_X12_keep td_X12_keep) (all_c (m_chk_ok tm_X12_leafOf td_X12_leafOf) (all_c (m_chk_ok tm_X12_learn td_X12_learn) (all_c (m_chk_ok tm_X12_lies td_X12_lies) (all_c (m_chk_ok tm_X12_name td_X12_name) (all_c (m_chk_ok tm_X12_news td_X12_news) (all_c (m_chk_ok tm_X12_next td_X12_next) (all_c (m_chk_ok tm_X12_now td_X12_now) (all_c (m_chk_ok tm_X12_odds td_X12_odds) (all_c (m_chk_ok tm_X12_operand td_X12_operand) (all_c (m_chk_ok tm_X12_peek td_X12_peek) (all_c (m_chk_ok tm_X12_person td_X12_person) (all_0)))))))))))))))))))))))))
theorem tp_4 : ∀ M ∈ [mt_X12_phrase, mt_X12_point, mt_X12_put, mt_X12_rest, mt_X12_rested, mt_X12_restore, mt_X12_said, mt_X12_say, mt_X12_saying, mt_X12_sentence, mt_X12_show, mt_X12_slip, mt_X12_spoken, mt_X12_surely, mt_X12_taken, mt_X12_thing, mt_X12_thrown, mt_X12_throwsIf, mt_X12_told, mt_X12_tries, mt_X12_twin, mt_X12_undo, mt_X1_has, mt_X1_init, mt_X1_read], mZ M := all_c (m_chk_ok tm_X12_phrase td_X12_phrase) (all_c (m_chk_ok tm_X12_point td_X12_point) (all_c (m_chk_ok tm_X12_put td_X12_put) (all_c (m_chk_ok tm_X12_rest td_X12_rest) (all_c (m_chk_ok tm_X12_rested td_X12_rested) (all_c (m_chk_ok tm_X12_restore td_X12_restore) (all_c (m_chk_ok tm_X12_said td_X12_said) (all_c (m_chk_ok tm_X12_say td_X12_say) (all_c (m_chk_ok tm_X12_saying td_X12_saying) (all_c (m_chk_ok tm_X12_sentence td_X12_sentence) (all_c (m_chk_ok tm_X12_show td_X12_show) (all_c (m_chk_ok tm_X12_slip td_X12_slip) (all_c (m_chk_ok tm_X12_spoken td_X12_spoken) (all_c (m_chk_ok tm_X12_surely td_X12_surely) (all_c (m_chk_ok tm_X12_taken td_X12_taken) (all_c (m_chk_ok tm_X12_thing td_X12_thing) (all_c (m_chk_ok tm_X12_thrown td_X12_thrown) (all_c (m_chk_ok tm_X12_throwsIf td_X12_throwsIf) (all_c (m_chk_ok tm_X12_told td_X12_told) (all_c (m_chk_ok tm_X12_tries td_X12_tries) (all_c (m_chk_ok tm_X12_twin td_X12_twin) (all_c (m_chk_ok tm_X12_undo td_X12_undo) (all_c (m_chk_ok tm_X1_has td_X1_has) (all_c (m_chk_ok tm_X1_init td_X1_init) (all_c (m_chk_ok tm_X1_read td_X1_read) (all_0)))))))))))))))))))))))))
theorem tp_5 : ∀ M ∈ [mt_X2_hear, mt_X2_init, mt_X2_isTold, mt_X3_init, mt_X4_clear, mt_X4_init, mt_X4_keep, mt_X4_prepare, mt_X4_slot, mt_X4_takeBack, mt_X6_init, mt_X7_allCarried, mt_X7_allCoins, mt_X7_begin, mt_X7_copyFrom, mt_X7_has, mt_X7_init, mt_X7_isFast, mt_X7_passDay, mt_X7_passDays, mt_X8_init, mt_X8_readAll, mt_X8_readCondition, mt_X8_readOne, mt_X9_append], mZ M := all_c (m_chk_ok tm_X2_hear td_X2_hear) (all_c (m_chk_ok tm_X2_init td_X2_init) (all_c (m_chk_ok tm_X2_isTold td_X2_isTold) (all_c (m_chk_ok tm_X3_init td_X3_init) (all_c (m_chk_ok tm_X4_clear td_X4_clear) (all_c (m_chk_ok tm_X4_init td_X4_init) (all_c (m_chk_ok tm_X4_keep td_X4_keep) (all_c (m_chk_ok tm_X4_prepare td_X4_prepare) (all_c (m_chk_ok tm_X4_slot td_X4_slot) (all_c (m_chk_ok tm_X4_takeBack td_X4_takeBack) (all_c (m_chk_ok tm_X6_init td_X6_init) (all_c (m_chk_ok tm_X7_allCarried td_X7_allCarried) (all_c (m_chk_ok tm_X7_allCoins td_X7_allCoins) (all_c (m_chk_ok tm_X7_begin td_X7_begin) (all_c (m_chk_ok tm_X7_copyFrom td_X7_copyFrom) (all_c (m_chk_ok tm_X7_has td_X7_has) (all_c (m_chk_ok tm_X7_init td_X7_init) (all_c (m_chk_ok tm_X7_isFast td_X7_isFast) (all_c (m_chk_ok tm_X7_passDay td_X7_passDay) (all_c (m_chk_ok tm_X7_passDays td_X7_passDays) (all_c (m_chk_ok tm_X8_init td_X8_init) (all_c (m_chk_ok tm_X8_readAll td_X8_readAll) (all_c (m_chk_ok tm_X8_readCondition td_X8_readCondition) (all_c (m_chk_ok tm_X8_readOne td_X8_readOne) (all_c (m_chk_ok tm_X9_append td_X9_append) (all_0)))))))))))))))))))))))))
theorem tp_6 : ∀ M ∈ [mt_X9_init], mZ M := all_c (m_chk_ok tm_X9_init td_X9_init) (all_0)
theorem prg_ok : ∀ M ∈ PRG, mZ M := by
  intro M h
  have h : M ∈ ([mt_J9_floorMod_7cf53, mt_J9_min_7cf53, mt_X0_init, mt_X0_judge, mt_X0_read, mt_X0_tell, mt_X10_behindBlanks, mt_X10_fail, mt_X10_init, mt_X10_isWord, mt_X10_open, mt_X10_plainWord, mt_X10_step, mt_X10_takeEnd, mt_X11_ask, mt_X11_book, mt_X11_byteAt, mt_X11_cant, mt_X11_canting, mt_X11_city, mt_X11_closeText, mt_X11_count, mt_X11_cover, mt_X11_covering, mt_X11_days] ++ [mt_X11_drawn, mt_X11_end, mt_X11_fault, mt_X11_feed, mt_X11_fits, mt_X11_go, mt_X11_image, mt_X11_init, mt_X11_keptDays, mt_X11_learn, mt_X11_lies, mt_X11_name, mt_X11_news, mt_X11_now, mt_X11_odds, mt_X11_phrase, mt_X11_point, mt_X11_put, mt_X11_rest, mt_X11_rested, mt_X11_restore, mt_X11_said, mt_X11_say, mt_X11_saying, mt_X11_sentence] ++ [mt_X11_show, mt_X11_spoken, mt_X11_surely, mt_X11_told, mt_X11_twin, mt_X11_undo, mt_X12_ask, mt_X12_back, mt_X12_bad, mt_X12_book, mt_X12_byteAt, mt_X12_cant, mt_X12_canting, mt_X12_carriedSet, mt_X12_city, mt_X12_clears, mt_X12_count, mt_X12_cover, mt_X12_covering, mt_X12_day, mt_X12_days, mt_X12_drawn, mt_X12_end, mt_X12_fault, mt_X12_feed] ++ [mt_X12_fits, mt_X12_four, mt_X12_go, mt_X12_goesOn, mt_X12_image, mt_X12_init, mt_X12_isFast, mt_X12_isIn, mt_X12_isPerson, mt_X12_isPlace, mt_X12_isSign, mt_X12_isThing, mt_X12_isWord, mt_X12_keep, mt_X12_leafOf, mt_X12_learn, mt_X12_lies, mt_X12_name, mt_X12_news, mt_X12_next, mt_X12_now, mt_X12_odds, mt_X12_operand, mt_X12_peek, mt_X12_person] ++ [mt_X12_phrase, mt_X12_point, mt_X12_put, mt_X12_rest, mt_X12_rested, mt_X12_restore, mt_X12_said, mt_X12_say, mt_X12_saying, mt_X12_sentence, mt_X12_show, mt_X12_slip, mt_X12_spoken, mt_X12_surely, mt_X12_taken, mt_X12_thing, mt_X12_thrown, mt_X12_throwsIf, mt_X12_told, mt_X12_tries, mt_X12_twin, mt_X12_undo, mt_X1_has, mt_X1_init, mt_X1_read] ++ [mt_X2_hear, mt_X2_init, mt_X2_isTold, mt_X3_init, mt_X4_clear, mt_X4_init, mt_X4_keep, mt_X4_prepare, mt_X4_slot, mt_X4_takeBack, mt_X6_init, mt_X7_allCarried, mt_X7_allCoins, mt_X7_begin, mt_X7_copyFrom, mt_X7_has, mt_X7_init, mt_X7_isFast, mt_X7_passDay, mt_X7_passDays, mt_X8_init, mt_X8_readAll, mt_X8_readCondition, mt_X8_readOne, mt_X9_append] ++ [mt_X9_init]) := h
  simp only [List.mem_append] at h
  rcases h with ((((((h | h) | h) | h) | h) | h) | h)
  · exact tp_0 M h
  · exact tp_1 M h
  · exact tp_2 M h
  · exact tp_3 M h
  · exact tp_4 M h
  · exact tp_5 M h
  · exact tp_6 M h
theorem tr_0 : r_all "NounFast" rt_0 [([146], ""), ([149, 150, 118], ""), ([151], "NounFast"), ([408], ""), ([166, 167, 119], ""), ([168], ""), ([409], ""), ([214, 215, 120], ""), ([216, 217, 121], ""), ([218], "NounFast"), ([265], ""), ([410], ""), ([269], ""), ([411], ""), ([320, 321, 122], ""), ([322], "NounFast"), ([412], ""), ([338, 339, 123], ""), ([340], "NounFast"), ([413], ""), ([363, 364, 124], ""), ([365], "NounFast"), ([414], ""), ([377, 378, 125], ""), ([379], "NounFast"), ([415], ""), ([395, 396, 126], ""), ([397], "NounFast"), ([416], ""), ([417], ""), ([406, 1103, 140], ""), ([418], ""), ([419], ""), ([420], ""), ([421], ""), ([422], ""), ([423], ""), ([424], ""), ([425], ""), ([157], ""), ([467], ""), ([479], ""), ([575], ""), ([635], ""), ([186], ""), ([188], ""), ([639], ""), ([646], ""), ([658], ""), ([294], ""), ([674], ""), ([678], ""), ([682], ""), ([296], ""), ([298], ""), ([228], ""), ([686], ""), ([693], ""), ([805], ""), ([814], ""), ([822], ""), ([885], ""), ([385], ""), ([387], ""), ([370], ""), ([1038], ""), ([1043], ""), ([1068], ""), ([715], ""), ([1095], ""), ([1104], "NounFast"), ([1128], ""), ([1159], ""), ([214], ""), ([406], "")] = true := by decide +kernel
theorem tr_1 : r_all "NounFast$Book" rt_1 [([343], ""), ([344], ""), ([345], ""), ([346], ""), ([347], ""), ([348], ""), ([349], ""), ([179], ""), ([293], ""), ([1090], "")] = true := by decide +kernel
theorem tr_2 : r_all "NounFast$City" rt_2 [([221], ""), ([222], ""), ([229], ""), ([230], ""), ([236], ""), ([238], ""), ([240], ""), ([242], ""), ([244], ""), ([245], ""), ([181], "")] = true := by decide +kernel
theorem tr_3 : r_all "NounFast$Clue" rt_3 [([382], ""), ([383], ""), ([384], ""), ([386], ""), ([889], ""), ([159], "")] = true := by decide +kernel
theorem tr_4 : r_all "NounFast$Dice" rt_4 [([400], ""), ([401], "")] = true := by decide +kernel
theorem tr_5 : r_all "NounFast$History" rt_5 [([325], ""), ([326, 215, 120], ""), ([328], ""), ([329], ""), ([330], ""), ([701], ""), ([697], ""), ([275], ""), ([702], ""), ([703], ""), ([326], "")] = true := by decide +kernel
theorem tr_6 : r_all "NounFast$Minds" rt_6 [] = true := by decide +kernel
theorem tr_7 : r_all "NounFast$Rest" rt_7 [([368], ""), ([369], ""), ([371], "")] = true := by decide +kernel
theorem tr_8 : r_all "NounFast$Scene" rt_8 [([268], ""), ([277], ""), ([278], ""), ([281], ""), ([284], ""), ([286], ""), ([288], ""), ([292], ""), ([295], ""), ([297], ""), ([270], ""), ([237], ""), ([643], ""), ([239], ""), ([241], ""), ([243], ""), ([662], ""), ([225], ""), ([769], ""), ([809], "")] = true := by decide +kernel
theorem tr_9 : r_all "NounFast$Sentence" rt_9 [([1107], ""), ([1108], ""), ([1109], ""), ([1110], ""), ([1111], ""), ([1112], ""), ([1113], ""), ([1132], ""), ([1158], ""), ([1136], ""), ([1140], ""), ([180], ""), ([1141], "")] = true := by decide +kernel
theorem tr_10 : r_all "NounFast$Tape" rt_10 [([154], ""), ([155], ""), ([156], "")] = true := by decide +kernel
theorem tr_11 : r_all "NounFast$Text" rt_11 [([171], ""), ([173], ""), ([174], ""), ([175], ""), ([176], ""), ([177], ""), ([178], ""), ([182], ""), ([183], ""), ([185], ""), ([187], ""), ([172], ""), ([483], ""), ([158], ""), ([491], ""), ([571], "")] = true := by decide +kernel
theorem tr_12 : r_all "NounFastLaw" rt_12 [([141, 142, 117], ""), ([143], ""), ([1320, 1314, 127], ""), ([1321], ""), ([463], ""), ([1307], ""), ([471], ""), ([1316], ""), ([475], ""), ([1519], ""), ([650], ""), ([1615], ""), ([1619], ""), ([1303], ""), ([1639], ""), ([654], ""), ([1651], ""), ([670], ""), ([1663], ""), ([689], ""), ([1675], ""), ([719], ""), ([1683], ""), ([757], ""), ([1717], ""), ([774], ""), ([1737], ""), ([782], ""), ([1749], ""), ([790], ""), ([1757], ""), ([801], ""), ([1769], ""), ([818], ""), ([1784], ""), ([826], ""), ([1788], ""), ([831], ""), ([1792], ""), ([853], ""), ([1796], ""), ([857], ""), ([1800], ""), ([1808], ""), ([866], ""), ([1812], ""), ([877], ""), ([1820], ""), ([881], ""), ([1824], ""), ([909], ""), ([1844], ""), ([913], ""), ([1848], ""), ([917], ""), ([1852], ""), ([924], ""), ([1856], ""), ([928], ""), ([1860], ""), ([957], ""), ([1876], ""), ([961], ""), ([1880], ""), ([974], ""), ([1884], ""), ([995], ""), ([1903], ""), ([999], ""), ([1907], ""), ([1034], ""), ([1924], ""), ([1039], ""), ([1936], ""), ([1091], ""), ([1952], ""), ([1099], ""), ([1956], ""), ([1163], ""), ([1984], ""), ([1190], ""), ([1996], ""), ([1194], ""), ([2000], ""), ([1198], ""), ([2004], "")] = true := by decide +kernel
theorem tr_13 : r_all "NounFastModel" rt_13 [([1358], ""), ([1360], ""), ([1311], ""), ([1359], ""), ([1361], ""), ([1362], ""), ([1363], ""), ([1324], ""), ([1364], ""), ([1365], ""), ([1366], ""), ([1367], ""), ([1368], ""), ([1379], ""), ([1380], ""), ([1391], ""), ([1392], ""), ([1393], ""), ([1395], ""), ([1399], ""), ([1401], ""), ([1407], ""), ([1408], ""), ([1409], ""), ([1410], ""), ([1325], ""), ([1326], ""), ([1327], ""), ([1328], ""), ([1329], ""), ([1330], ""), ([1331], ""), ([1332], ""), ([1333], ""), ([1334], ""), ([1335], ""), ([1336], ""), ([1337], ""), ([1338], ""), ([1339], ""), ([1340], ""), ([1341], ""), ([1342], ""), ([1343], ""), ([1344], ""), ([1345], ""), ([1346], ""), ([1347], ""), ([1348], ""), ([1349], ""), ([1350], ""), ([1351], ""), ([1352], ""), ([1353], ""), ([1354], ""), ([1531], ""), ([1370], ""), ([1371], ""), ([1369], ""), ([1373], ""), ([1374], ""), ([1611], ""), ([1553], ""), ([1527], ""), ([1600], ""), ([1378], ""), ([1545], ""), ([1523], ""), ([1377], ""), ([1381], ""), ([1623], ""), ([1627], ""), ([1643], ""), ([1655], ""), ([1667], ""), ([1671], ""), ([1777], ""), ([1679], ""), ([1773], ""), ([1385], ""), ([1386], ""), ([1390], ""), ([1387], ""), ([1394], ""), ([1396], ""), ([1928], ""), ([1932], ""), ([1398], ""), ([1400], ""), ([1402], ""), ([1404], ""), ([1405], ""), ([1980], ""), ([1403], ""), ([1406], ""), ([1976], "")] = true := by decide +kernel
theorem tr_14 : r_all "java/io/Serializable" rt_14 [] = true := by decide +kernel
theorem tr_15 : r_all "java/lang/CharSequence" rt_15 [] = true := by decide +kernel
theorem tr_16 : r_all "java/lang/Comparable" rt_16 [] = true := by decide +kernel
theorem tr_17 : r_all "java/lang/Integer" rt_17 [] = true := by decide +kernel
theorem tr_18 : r_all "java/lang/Math" rt_18 [] = true := by decide +kernel
theorem tr_19 : r_all "java/lang/String" rt_19 [] = true := by decide +kernel
theorem tr_20 : r_all "java/lang/StringLatin1" rt_20 [] = true := by decide +kernel
theorem tr_21 : r_all "java/lang/StringUTF16" rt_21 [] = true := by decide +kernel
theorem tr_22 : r_all "java/lang/System" rt_22 [] = true := by decide +kernel
theorem tr_23 : r_all "java/lang/constant/Constable" rt_23 [] = true := by decide +kernel
theorem tr_24 : r_all "java/lang/constant/ConstantDesc" rt_24 [] = true := by decide +kernel
theorem tr_25 : r_all "jdk/internal/util/Preconditions" rt_25 [] = true := by decide +kernel
theorem pok : POK PRG RTB OWN := by
  refine ⟨fun j M h => prg_ok M (List.mem_of_getElem? h), fun o own L h1 h2 => ?_, ?_⟩
  · match o, h1, h2 with
    | 0, h1, h2 => cases h1; cases h2; exact r_all_ok tr_0
    | 1, h1, h2 => cases h1; cases h2; exact r_all_ok tr_1
    | 2, h1, h2 => cases h1; cases h2; exact r_all_ok tr_2
    | 3, h1, h2 => cases h1; cases h2; exact r_all_ok tr_3
    | 4, h1, h2 => cases h1; cases h2; exact r_all_ok tr_4
    | 5, h1, h2 => cases h1; cases h2; exact r_all_ok tr_5
    | 6, h1, h2 => cases h1; cases h2; exact r_all_ok tr_6
    | 7, h1, h2 => cases h1; cases h2; exact r_all_ok tr_7
    | 8, h1, h2 => cases h1; cases h2; exact r_all_ok tr_8
    | 9, h1, h2 => cases h1; cases h2; exact r_all_ok tr_9
    | 10, h1, h2 => cases h1; cases h2; exact r_all_ok tr_10
    | 11, h1, h2 => cases h1; cases h2; exact r_all_ok tr_11
    | 12, h1, h2 => cases h1; cases h2; exact r_all_ok tr_12
    | 13, h1, h2 => cases h1; cases h2; exact r_all_ok tr_13
    | 14, h1, h2 => cases h1; cases h2; exact r_all_ok tr_14
    | 15, h1, h2 => cases h1; cases h2; exact r_all_ok tr_15
    | 16, h1, h2 => cases h1; cases h2; exact r_all_ok tr_16
    | 17, h1, h2 => cases h1; cases h2; exact r_all_ok tr_17
    | 18, h1, h2 => cases h1; cases h2; exact r_all_ok tr_18
    | 19, h1, h2 => cases h1; cases h2; exact r_all_ok tr_19
    | 20, h1, h2 => cases h1; cases h2; exact r_all_ok tr_20
    | 21, h1, h2 => cases h1; cases h2; exact r_all_ok tr_21
    | 22, h1, h2 => cases h1; cases h2; exact r_all_ok tr_22
    | 23, h1, h2 => cases h1; cases h2; exact r_all_ok tr_23
    | 24, h1, h2 => cases h1; cases h2; exact r_all_ok tr_24
    | 25, h1, h2 => cases h1; cases h2; exact r_all_ok tr_25
    | n + 26, h1, h2 => simp [OWN] at h1
  · refine ⟨h_at_ok (pos := 147) (by decide +kernel), h_at_ok (pos := 148) (by decide +kernel), h_at_ok (pos := 645) (by decide +kernel), h_at_ok (pos := 644) (by decide +kernel), h_at_ok (pos := 133) (by decide +kernel), fun a t h => ?_⟩
    cases a <;> simp [e_atype] at h
    · exact h_at_ok (pos := 1518) (by decide +kernel)
    · exact h_at_ok (pos := 165) (by decide +kernel)
    · exact h_at_ok (pos := 212) (by decide +kernel)
    · exact h_at_ok (pos := 213) (by decide +kernel)
