/-! the tables are right -/
def w_at (pos : Nat) (w : Cond) : Bool := decide (lw_tbl[pos]? = some w)
def h_at (pos : Nat) (w : Cond) : Bool := w_at pos w && goodWord w
theorem h_at_ok {pos : Nat} {w : Cond} (h : h_at pos w = true) : w ∈ BIG := by
  simp only [h_at, w_at, Bool.and_eq_true, decide_eq_true_eq] at h
  exact List.mem_filter.mpr ⟨List.mem_of_getElem? h.1, h.2⟩
def n_at (pos : Nat) (w : Cond) : Bool := w_at pos w && isNest w
theorem n_at_ok {pos : Nat} {w : Cond} (h : n_at pos w = true) : w ∈ NST := by
  simp only [n_at, w_at, Bool.and_eq_true, decide_eq_true_eq] at h
  exact List.mem_filter.mpr ⟨List.mem_of_getElem? h.1, h.2⟩
theorem td_of {M : MT} {r : List INR} (h1 : i_raw (mT M) = r) (h2 : d_chkR (mC M) r = true) : ∀ q ∈ mT M, decode (mC M) q.1 = .ok (q.2.2.1, q.2.2.2) := by
  intro q hq
  have h3 := d_chkR_ok h2 (q.1, q.2.2) (by rw [← h1]; exact List.mem_map.mpr ⟨q, hq, rfl⟩)
  exact h3
def m_chk (M : MT) (ps : Nat × Nat × Nat × Nat) : Bool := plainFor (mY M) && (h_at ps.1 (.code (mY M) (mC M) (mL M) (mR M)) && (h_at ps.2.1 (.initialized (mY M).cls) && (decide ((mY M).cls ≠ "java/lang/invoke/MethodHandle") && (decide ((mY M).cls ≠ "java/lang/invoke/VarHandle") && (decide ((parseMethodDescriptor (mY M).desc).map (fun d => d.parameters.length) = some (mA M)) &&
  ((match mK M with
  | 0 => h_at ps.2.2.1 (.static (mY M))
  | 1 => h_at ps.2.2.1 (.instanceMethod (mY M)) && (h_at ps.2.2.2 (.selects (mY M).cls (mY M) (mY M)) && (match vwCl[mCi M]? with | some r => decide (r.1 = (mY M).cls) | none => false))
  | _ => false) && (decide (mR M = none ∨ mR M = some .int ∨ mR M = some .boolean ∨ mR M = some .long) && (decide (OW2[mO M]? = some (mY M).cls) && Nat.ble (mK M) 1))))))))
abbrev mZ2 (M : MT) : Prop := MOK M ∧ TOK OW2 M ∧ OW2[mO M]? = some (mY M).cls
theorem m_chk_ok {M : MT} {r : List INR} {ps : Nat × Nat × Nat × Nat} (h : m_chk M ps = true) (h1 : i_raw (mT M) = r) (h2 : d_chkR (mC M) r = true) : mZ2 M := by
  simp only [m_chk, Bool.and_eq_true, decide_eq_true_eq] at h
  obtain ⟨k1, k2, k3, k4, k5, k6, k7, k8, k9, k10⟩ := h
  have k10 := Nat.le_of_ble_eq_true k10
  refine ⟨⟨k1, h_at_ok k2, h_at_ok k3, ⟨k4, k5⟩, k6, fun hk => ?_, fun hk => ?_, fun hk => by omega, k8⟩, ⟨td_of h1 h2, fun hk => by omega⟩, k9⟩
  · rw [hk] at k7
    exact h_at_ok k7
  · rw [hk] at k7
    simp only [Bool.and_eq_true] at k7
    obtain ⟨a1, a2, a3⟩ := k7
    refine ⟨h_at_ok a1, h_at_ok a2, ?_⟩
    split at a3
    · rename_i r hr
      exact ⟨r, hr, of_decide_eq_true a3⟩
    · cases a3
def r_chk (own : String) (x : Nat × RES) (ps : List Nat) (host : String) : Bool := match x, ps with
  | (i, (0, ci, k, _)), [a] => (match vwCl[ci]? with | some q => decide (k < q.2.2) && h_at a (.fieldLink own i (q.2.1 k).1 (q.2.1 k).2.1 (q.2.1 k).2.2.1) | none => false)
  | (i, (1, ci, k, _)), [a] => (match vwCl[ci]? with | some q => decide (k < q.2.2) && n_at a (.fieldLinkNest own i (q.2.1 k).1 (q.2.1 k).2.1 (q.2.1 k).2.2.1 host) | none => false)
  | (i, (2, ci, n, _)), [a, a2, a3] => (match vwCl[ci]? with | some q => decide (q.2.2 = n) && (h_at a (.classLink own i q.1) && (h_at a2 (.instantiable q.1 n) && h_at a3 (.initialized q.1))) | none => false)
  | (i, (4, j, _, _)), [a] => (match PR2[j]? with | some M => h_at a (.methodLink own i (mY M)) | none => false)
  | (i, (5, j, _, _)), [a] => (match PR2[j]? with | some M => n_at a (.methodLinkNest own i (mY M) host) | none => false)
  | (i, (7, _, _, _)), [a] => h_at a (.methodLink own i arraycopyName)
  | (i, (9, _, _, v)), [a] => h_at a (.constantLong own i (Int64.ofInt v)) && (decide (-9223372036854775808 ≤ v) && decide (v < 9223372036854775808))
  | (i, (11, _, _, v)), [a] => h_at a (.constant own i (Int32.ofInt v)) && (decide (-2147483648 ≤ v) && decide (v < 2147483648))
  | _, _ => false
theorem r_chk_ok {own : String} {x : Nat × RES} {ps : List Nat} {host : String} (h : r_chk own x ps host = true) : ROK2 PR2 own x.1 x.2 := by
  unfold r_chk at h
  split at h
  · split at h
    · rename_i hq
      simp only [Bool.and_eq_true, decide_eq_true_eq] at h
      exact ⟨⟨_, hq, h.1, h_at_ok h.2⟩, fun h => by cases h⟩
    · cases h
  · split at h
    · rename_i hq
      simp only [Bool.and_eq_true, decide_eq_true_eq] at h
      exact ⟨⟨_, host, hq, h.1, n_at_ok h.2⟩, fun h => by cases h⟩
    · cases h
  · split at h
    · rename_i hq
      simp only [Bool.and_eq_true, decide_eq_true_eq] at h
      exact ⟨⟨_, hq, h.1, h_at_ok h.2.1, h_at_ok h.2.2.1, h_at_ok h.2.2.2⟩, fun h => by cases h⟩
    · cases h
  · split at h
    · rename_i hq
      exact ⟨⟨_, hq, h_at_ok h⟩, fun h => by cases h⟩
    · cases h
  · split at h
    · rename_i hq
      exact ⟨⟨_, host, hq, n_at_ok h⟩, fun h => by cases h⟩
    · cases h
  · exact ⟨h_at_ok h, fun h => by cases h⟩
  · simp only [Bool.and_eq_true, decide_eq_true_eq] at h
    exact ⟨⟨h_at_ok h.1, h.2.1, h.2.2⟩, fun h => by cases h⟩
  · simp only [Bool.and_eq_true, decide_eq_true_eq] at h
    exact ⟨trivial, fun _ => ⟨h_at_ok h.1, h.2.1, h.2.2⟩⟩
  · cases h
def r_all (own : String) : List (Nat × RES) → List (List Nat × String) → Bool
  | [], _ => true
  | x :: r, p :: q => r_chk own x p.1 p.2 && r_all own r q
  | _ :: _, [] => false
theorem r_all_ok {own : String} : ∀ {x : List (Nat × RES)} {ps : List (List Nat × String)}, r_all own x ps = true → ∀ q ∈ x, ROK2 PR2 own q.1 q.2 := by
  intro x
  induction x with
  | nil => intro ps _ q hq; cases hq
  | cons a r ih =>
    intro ps h q hq
    cases ps with
    | nil => cases h
    | cons p t =>
      simp only [r_all, Bool.and_eq_true] at h
      rcases List.mem_cons.mp hq with rfl | hq
      · exact r_chk_ok h.1
      · exact ih h.2 q hq
theorem all_0 {Z : MT → Prop} : ∀ M ∈ ([] : List MT), Z M := fun _ h => by cases h
theorem all_c {Z : MT → Prop} {M : MT} {r : List MT} (h : Z M) (hr : ∀ M ∈ r, Z M) : ∀ M' ∈ M :: r, Z M' := fun M' h' => (List.mem_cons.mp h').elim (fun e => e ▸ h) (hr M')
theorem ti_J3_checkIndex_8e157 : i_raw tb2_J3_checkIndex_8e157 = ir_J3_checkIndex_8e157 := rfl
theorem tm_J3_checkIndex_8e157 : m_chk mt2_J3_checkIndex_8e157 (549, 131, 548, 0) = true := by decide +kernel
theorem ti_J6_bitCount_0f7a4 : i_raw tb2_J6_bitCount_0f7a4 = ir_J6_bitCount_0f7a4 := rfl
theorem tm_J6_bitCount_0f7a4 : m_chk mt2_J6_bitCount_0f7a4 (753, 138, 752, 0) = true := by decide +kernel
theorem ti_J6_lowestOneBit_0f7a4 : i_raw tb2_J6_lowestOneBit_0f7a4 = ir_J6_lowestOneBit_0f7a4 := rfl
theorem tm_J6_lowestOneBit_0f7a4 : m_chk mt2_J6_lowestOneBit_0f7a4 (800, 138, 799, 0) = true := by decide +kernel
theorem ti_J6_numberOfTrailingZeros_0f7a4 : i_raw tb2_J6_numberOfTrailingZeros_0f7a4 = ir_J6_numberOfTrailingZeros_0f7a4 := rfl
theorem tm_J6_numberOfTrailingZeros_0f7a4 : m_chk mt2_J6_numberOfTrailingZeros_0f7a4 (749, 138, 748, 0) = true := by decide +kernel
theorem ti_J9_floorMod_7cf53 : i_raw tb2_J9_floorMod_7cf53 = ir_J9_floorMod_7cf53 := rfl
theorem tm_J9_floorMod_7cf53 : m_chk mt2_J9_floorMod_7cf53 (688, 128, 687, 0) = true := by decide +kernel
theorem ti_J9_max_7cf53 : i_raw tb2_J9_max_7cf53 = ir_J9_max_7cf53 := rfl
theorem tm_J9_max_7cf53 : m_chk mt2_J9_max_7cf53 (908, 128, 907, 0) = true := by decide +kernel
theorem ti_J9_min_7cf53 : i_raw tb2_J9_min_7cf53 = ir_J9_min_7cf53 := rfl
theorem tm_J9_min_7cf53 : m_chk mt2_J9_min_7cf53 (493, 128, 492, 0) = true := by decide +kernel
theorem ti_X0_because : i_raw tb2_X0_because = ir_X0_because := rfl
theorem tm_X0_because : m_chk mt2_X0_because (1080, 123, 1079, 0) = true := by decide +kernel
theorem ti_X0_judge : i_raw tb2_X0_judge = ir_X0_judge := rfl
theorem tm_X0_judge : m_chk mt2_X0_judge (1071, 123, 1069, 1070) = true := by decide +kernel
theorem ti_X0_liveDays : i_raw tb2_X0_liveDays = ir_X0_liveDays := rfl
theorem tm_X0_liveDays : m_chk mt2_X0_liveDays (1087, 123, 1086, 0) = true := by decide +kernel
theorem ti_X0_liveLine : i_raw tb2_X0_liveLine = ir_X0_liveLine := rfl
theorem tm_X0_liveLine : m_chk mt2_X0_liveLine (1075, 123, 1074, 31) = true := by decide +kernel
theorem ti_X0_read : i_raw tb2_X0_read = ir_X0_read := rfl
theorem tm_X0_read : m_chk mt2_X0_read (1046, 123, 1044, 1045) = true := by decide +kernel
theorem ti_X0_readAct : i_raw tb2_X0_readAct = ir_X0_readAct := rfl
theorem tm_X0_readAct : m_chk mt2_X0_readAct (1059, 123, 1058, 30) = true := by decide +kernel
theorem ti_X0_readLine : i_raw tb2_X0_readLine = ir_X0_readLine := rfl
theorem tm_X0_readLine : m_chk mt2_X0_readLine (1050, 123, 1049, 29) = true := by decide +kernel
theorem ti_X0_readSaying : i_raw tb2_X0_readSaying = ir_X0_readSaying := rfl
theorem tm_X0_readSaying : m_chk mt2_X0_readSaying (1066, 123, 1065, 0) = true := by decide +kernel
theorem ti_X0_sortBehind : i_raw tb2_X0_sortBehind = ir_X0_sortBehind := rfl
theorem tm_X0_sortBehind : m_chk mt2_X0_sortBehind (1063, 123, 1062, 0) = true := by decide +kernel
theorem ti_X0_tell : i_raw tb2_X0_tell = ir_X0_tell := rfl
theorem tm_X0_tell : m_chk mt2_X0_tell (1098, 123, 1096, 1097) = true := by decide +kernel
theorem ti_X10_behindBlanks : i_raw tb2_X10_behindBlanks = ir_X10_behindBlanks := rfl
theorem tm_X10_behindBlanks : m_chk mt2_X10_behindBlanks (486, 119, 485, 0) = true := by decide +kernel
theorem ti_X10_fail : i_raw tb2_X10_fail = ir_X10_fail := rfl
theorem tm_X10_fail : m_chk mt2_X10_fail (596, 119, 594, 595) = true := by decide +kernel
theorem ti_X10_isDigit : i_raw tb2_X10_isDigit = ir_X10_isDigit := rfl
theorem tm_X10_isDigit : m_chk mt2_X10_isDigit (503, 119, 502, 0) = true := by decide +kernel
theorem ti_X10_isLetter : i_raw tb2_X10_isLetter = ir_X10_isLetter := rfl
theorem tm_X10_isLetter : m_chk mt2_X10_isLetter (500, 119, 499, 0) = true := by decide +kernel
theorem ti_X10_isSpelled : i_raw tb2_X10_isSpelled = ir_X10_isSpelled := rfl
theorem tm_X10_isSpelled : m_chk mt2_X10_isSpelled (530, 119, 529, 5) = true := by decide +kernel
theorem ti_X10_isWord : i_raw tb2_X10_isWord = ir_X10_isWord := rfl
theorem tm_X10_isWord : m_chk mt2_X10_isWord (618, 119, 616, 617) = true := by decide +kernel
theorem ti_X10_open : i_raw tb2_X10_open = ir_X10_open := rfl
theorem tm_X10_open : m_chk mt2_X10_open (482, 119, 480, 481) = true := by decide +kernel
theorem ti_X10_plainWord : i_raw tb2_X10_plainWord = ir_X10_plainWord := rfl
theorem tm_X10_plainWord : m_chk mt2_X10_plainWord (586, 119, 584, 585) = true := by decide +kernel
theorem ti_X10_readRun : i_raw tb2_X10_readRun = ir_X10_readRun := rfl
theorem tm_X10_readRun : m_chk mt2_X10_readRun (507, 119, 506, 2) = true := by decide +kernel
theorem ti_X10_readToken : i_raw tb2_X10_readToken = ir_X10_readToken := rfl
theorem tm_X10_readToken : m_chk mt2_X10_readToken (497, 119, 496, 1) = true := by decide +kernel
theorem ti_X10_step : i_raw tb2_X10_step = ir_X10_step := rfl
theorem tm_X10_step : m_chk mt2_X10_step (574, 119, 572, 573) = true := by decide +kernel
theorem ti_X10_takeEnd : i_raw tb2_X10_takeEnd = ir_X10_takeEnd := rfl
theorem tm_X10_takeEnd : m_chk mt2_X10_takeEnd (1162, 119, 1160, 1161) = true := by decide +kernel
theorem ti_X10_takeNumber : i_raw tb2_X10_takeNumber = ir_X10_takeNumber := rfl
theorem tm_X10_takeNumber : m_chk mt2_X10_takeNumber (613, 119, 611, 612) = true := by decide +kernel
theorem ti_X10_takeSign : i_raw tb2_X10_takeSign = ir_X10_takeSign := rfl
theorem tm_X10_takeSign : m_chk mt2_X10_takeSign (634, 119, 632, 633) = true := by decide +kernel
theorem ti_X10_wordIn : i_raw tb2_X10_wordIn = ir_X10_wordIn := rfl
theorem tm_X10_wordIn : m_chk mt2_X10_wordIn (516, 119, 515, 4) = true := by decide +kernel
theorem ti_X10_wordNumber : i_raw tb2_X10_wordNumber = ir_X10_wordNumber := rfl
theorem tm_X10_wordNumber : m_chk mt2_X10_wordNumber (511, 119, 510, 3) = true := by decide +kernel
theorem ti_X11_ask : i_raw tb2_X11_ask = ir_X11_ask := rfl
theorem tm_X11_ask : m_chk mt2_X11_ask (722, 117, 720, 721) = true := by decide +kernel
theorem ti_X11_bitAt : i_raw tb2_X11_bitAt = ir_X11_bitAt := rfl
theorem tm_X11_bitAt : m_chk mt2_X11_bitAt (1189, 117, 1188, 0) = true := by decide +kernel
theorem ti_X11_book : i_raw tb2_X11_book = ir_X11_book := rfl
theorem tm_X11_book : m_chk mt2_X11_book (1042, 117, 1040, 1041) = true := by decide +kernel
theorem ti_X11_byteAt : i_raw tb2_X11_byteAt = ir_X11_byteAt := rfl
theorem tm_X11_byteAt : m_chk mt2_X11_byteAt (998, 117, 996, 997) = true := by decide +kernel
theorem ti_X11_cant : i_raw tb2_X11_cant = ir_X11_cant := rfl
theorem tm_X11_cant : m_chk mt2_X11_cant (920, 117, 918, 919) = true := by decide +kernel
theorem ti_X11_canting : i_raw tb2_X11_canting = ir_X11_canting := rfl
theorem tm_X11_canting : m_chk mt2_X11_canting (927, 117, 925, 926) = true := by decide +kernel
theorem ti_X11_city : i_raw tb2_X11_city = ir_X11_city := rfl
theorem tm_X11_city : m_chk mt2_X11_city (478, 117, 476, 477) = true := by decide +kernel
theorem ti_X11_closeText : i_raw tb2_X11_closeText = ir_X11_closeText := rfl
theorem tm_X11_closeText : m_chk mt2_X11_closeText (638, 117, 637, 12) = true := by decide +kernel
theorem ti_X11_count : i_raw tb2_X11_count = ir_X11_count := rfl
theorem tm_X11_count : m_chk mt2_X11_count (1201, 117, 1199, 1200) = true := by decide +kernel
theorem ti_X11_cover : i_raw tb2_X11_cover = ir_X11_cover := rfl
theorem tm_X11_cover : m_chk mt2_X11_cover (869, 117, 867, 868) = true := by decide +kernel
theorem ti_X11_covering : i_raw tb2_X11_covering = ir_X11_covering := rfl
theorem tm_X11_covering : m_chk mt2_X11_covering (880, 117, 878, 879) = true := by decide +kernel
theorem ti_X11_days : i_raw tb2_X11_days = ir_X11_days := rfl
theorem tm_X11_days : m_chk mt2_X11_days (804, 117, 802, 803) = true := by decide +kernel
theorem ti_X11_drawn : i_raw tb2_X11_drawn = ir_X11_drawn := rfl
theorem tm_X11_drawn : m_chk mt2_X11_drawn (1002, 117, 1000, 1001) = true := by decide +kernel
theorem ti_X11_end : i_raw tb2_X11_end = ir_X11_end := rfl
theorem tm_X11_end : m_chk mt2_X11_end (474, 117, 472, 473) = true := by decide +kernel
theorem ti_X11_fault : i_raw tb2_X11_fault = ir_X11_fault := rfl
theorem tm_X11_fault : m_chk mt2_X11_fault (653, 117, 651, 652) = true := by decide +kernel
theorem ti_X11_feed : i_raw tb2_X11_feed = ir_X11_feed := rfl
theorem tm_X11_feed : m_chk mt2_X11_feed (466, 117, 464, 465) = true := by decide +kernel
theorem ti_X11_firstBit : i_raw tb2_X11_firstBit = ir_X11_firstBit := rfl
theorem tm_X11_firstBit : m_chk mt2_X11_firstBit (746, 117, 745, 0) = true := by decide +kernel
theorem ti_X11_fits : i_raw tb2_X11_fits = ir_X11_fits := rfl
theorem tm_X11_fits : m_chk mt2_X11_fits (829, 117, 827, 828) = true := by decide +kernel
theorem ti_X11_go : i_raw tb2_X11_go = ir_X11_go := rfl
theorem tm_X11_go : m_chk mt2_X11_go (692, 117, 690, 691) = true := by decide +kernel
theorem ti_X11_greatestShared : i_raw tb2_X11_greatestShared = ir_X11_greatestShared := rfl
theorem tm_X11_greatestShared : m_chk mt2_X11_greatestShared (1302, 117, 1301, 0) = true := by decide +kernel
theorem ti_X11_image : i_raw tb2_X11_image = ir_X11_image := rfl
theorem tm_X11_image : m_chk mt2_X11_image (1193, 117, 1191, 1192) = true := by decide +kernel
theorem ti_X11_kept : i_raw tb2_X11_kept = ir_X11_kept := rfl
theorem tm_X11_kept : m_chk mt2_X11_kept (714, 117, 713, 14) = true := by decide +kernel
theorem ti_X11_keptDays : i_raw tb2_X11_keptDays = ir_X11_keptDays := rfl
theorem tm_X11_keptDays : m_chk mt2_X11_keptDays (817, 117, 816, 17) = true := by decide +kernel
theorem ti_X11_learn : i_raw tb2_X11_learn = ir_X11_learn := rfl
theorem tm_X11_learn : m_chk mt2_X11_learn (793, 117, 791, 792) = true := by decide +kernel
theorem ti_X11_lies : i_raw tb2_X11_lies = ir_X11_lies := rfl
theorem tm_X11_lies : m_chk mt2_X11_lies (657, 117, 655, 656) = true := by decide +kernel
theorem ti_X11_name : i_raw tb2_X11_name = ir_X11_name := rfl
theorem tm_X11_name : m_chk mt2_X11_name (760, 117, 758, 759) = true := by decide +kernel
theorem ti_X11_news : i_raw tb2_X11_news = ir_X11_news := rfl
theorem tm_X11_news : m_chk mt2_X11_news (964, 117, 962, 963) = true := by decide +kernel
theorem ti_X11_now : i_raw tb2_X11_now = ir_X11_now := rfl
theorem tm_X11_now : m_chk mt2_X11_now (673, 117, 671, 672) = true := by decide +kernel
theorem ti_X11_odds : i_raw tb2_X11_odds = ir_X11_odds := rfl
theorem tm_X11_odds : m_chk mt2_X11_odds (1037, 117, 1035, 1036) = true := by decide +kernel
theorem ti_X11_person : i_raw tb2_X11_person = ir_X11_person := rfl
theorem tm_X11_person : m_chk mt2_X11_person (1282, 117, 1280, 1281) = true := by decide +kernel
theorem ti_X11_phrase : i_raw tb2_X11_phrase = ir_X11_phrase := rfl
theorem tm_X11_phrase : m_chk mt2_X11_phrase (977, 117, 975, 976) = true := by decide +kernel
theorem ti_X11_point : i_raw tb2_X11_point = ir_X11_point := rfl
theorem tm_X11_point : m_chk mt2_X11_point (777, 117, 775, 776) = true := by decide +kernel
theorem ti_X11_put : i_raw tb2_X11_put = ir_X11_put := rfl
theorem tm_X11_put : m_chk mt2_X11_put (785, 117, 783, 784) = true := by decide +kernel
theorem ti_X11_rest : i_raw tb2_X11_rest = ir_X11_rest := rfl
theorem tm_X11_rest : m_chk mt2_X11_rest (931, 117, 929, 930) = true := by decide +kernel
theorem ti_X11_rested : i_raw tb2_X11_rested = ir_X11_rested := rfl
theorem tm_X11_rested : m_chk mt2_X11_rested (960, 117, 958, 959) = true := by decide +kernel
theorem ti_X11_restore : i_raw tb2_X11_restore = ir_X11_restore := rfl
theorem tm_X11_restore : m_chk mt2_X11_restore (1197, 117, 1195, 1196) = true := by decide +kernel
theorem ti_X11_said : i_raw tb2_X11_said = ir_X11_said := rfl
theorem tm_X11_said : m_chk mt2_X11_said (1166, 117, 1164, 1165) = true := by decide +kernel
theorem ti_X11_say : i_raw tb2_X11_say = ir_X11_say := rfl
theorem tm_X11_say : m_chk mt2_X11_say (834, 117, 832, 833) = true := by decide +kernel
theorem ti_X11_saying : i_raw tb2_X11_saying = ir_X11_saying := rfl
theorem tm_X11_saying : m_chk mt2_X11_saying (856, 117, 854, 855) = true := by decide +kernel
theorem ti_X11_sentence : i_raw tb2_X11_sentence = ir_X11_sentence := rfl
theorem tm_X11_sentence : m_chk mt2_X11_sentence (1102, 117, 1100, 1101) = true := by decide +kernel
theorem ti_X11_show : i_raw tb2_X11_show = ir_X11_show := rfl
theorem tm_X11_show : m_chk mt2_X11_show (916, 117, 914, 915) = true := by decide +kernel
theorem ti_X11_slip : i_raw tb2_X11_slip = ir_X11_slip := rfl
theorem tm_X11_slip : m_chk mt2_X11_slip (1293, 117, 1291, 1292) = true := by decide +kernel
theorem ti_X11_spellByte : i_raw tb2_X11_spellByte = ir_X11_spellByte := rfl
theorem tm_X11_spellByte : m_chk mt2_X11_spellByte (985, 117, 984, 25) = true := by decide +kernel
theorem ti_X11_spellName : i_raw tb2_X11_spellName = ir_X11_spellName := rfl
theorem tm_X11_spellName : m_chk mt2_X11_spellName (994, 117, 993, 26) = true := by decide +kernel
theorem ti_X11_spellRoundabout : i_raw tb2_X11_spellRoundabout = ir_X11_spellRoundabout := rfl
theorem tm_X11_spellRoundabout : m_chk mt2_X11_spellRoundabout (981, 117, 980, 24) = true := by decide +kernel
theorem ti_X11_spoken : i_raw tb2_X11_spoken = ir_X11_spoken := rfl
theorem tm_X11_spoken : m_chk mt2_X11_spoken (884, 117, 882, 883) = true := by decide +kernel
theorem ti_X11_surely : i_raw tb2_X11_surely = ir_X11_surely := rfl
theorem tm_X11_surely : m_chk mt2_X11_surely (912, 117, 910, 911) = true := by decide +kernel
theorem ti_X11_thing : i_raw tb2_X11_thing = ir_X11_thing := rfl
theorem tm_X11_thing : m_chk mt2_X11_thing (1209, 117, 1207, 1208) = true := by decide +kernel
theorem ti_X11_told : i_raw tb2_X11_told = ir_X11_told := rfl
theorem tm_X11_told : m_chk mt2_X11_told (1094, 117, 1092, 1093) = true := by decide +kernel
theorem ti_X11_twin : i_raw tb2_X11_twin = ir_X11_twin := rfl
theorem tm_X11_twin : m_chk mt2_X11_twin (860, 117, 858, 859) = true := by decide +kernel
theorem ti_X11_undo : i_raw tb2_X11_undo = ir_X11_undo := rfl
theorem tm_X11_undo : m_chk mt2_X11_undo (821, 117, 819, 820) = true := by decide +kernel
theorem ti_X12_areApart : i_raw tb2_X12_areApart = ir_X12_areApart := rfl
theorem tm_X12_areApart : m_chk mt2_X12_areApart (1694, 127, 1693, 74) = true := by decide +kernel
theorem ti_X12_ask : i_raw tb2_X12_ask = ir_X12_ask := rfl
theorem tm_X12_ask : m_chk mt2_X12_ask (1682, 127, 1680, 1681) = true := by decide +kernel
theorem ti_X12_asks : i_raw tb2_X12_asks = ir_X12_asks := rfl
theorem tm_X12_asks : m_chk mt2_X12_asks (1706, 127, 1705, 77) = true := by decide +kernel
theorem ti_X12_back : i_raw tb2_X12_back = ir_X12_back := rfl
theorem tm_X12_back : m_chk mt2_X12_back (1931, 127, 1930, 104) = true := by decide +kernel
theorem ti_X12_bad : i_raw tb2_X12_bad = ir_X12_bad := rfl
theorem tm_X12_bad : m_chk mt2_X12_bad (1552, 127, 1551, 47) = true := by decide +kernel
theorem ti_X12_behind : i_raw tb2_X12_behind = ir_X12_behind := rfl
theorem tm_X12_behind : m_chk mt2_X12_behind (1971, 127, 1970, 111) = true := by decide +kernel
theorem ti_X12_bitOf : i_raw tb2_X12_bitOf = ir_X12_bitOf := rfl
theorem tm_X12_bitOf : m_chk mt2_X12_bitOf (1583, 127, 1582, 0) = true := by decide +kernel
theorem ti_X12_bits : i_raw tb2_X12_bits = ir_X12_bits := rfl
theorem tm_X12_bits : m_chk mt2_X12_bits (1712, 127, 1711, 0) = true := by decide +kernel
theorem ti_X12_book : i_raw tb2_X12_book = ir_X12_book := rfl
theorem tm_X12_book : m_chk mt2_X12_book (1935, 127, 1933, 1934) = true := by decide +kernel
theorem ti_X12_bookLine : i_raw tb2_X12_bookLine = ir_X12_bookLine := rfl
theorem tm_X12_bookLine : m_chk mt2_X12_bookLine (1939, 127, 1938, 105) = true := by decide +kernel
theorem ti_X12_byteAt : i_raw tb2_X12_byteAt = ir_X12_byteAt := rfl
theorem tm_X12_byteAt : m_chk mt2_X12_byteAt (1902, 127, 1900, 1901) = true := by decide +kernel
theorem ti_X12_cant : i_raw tb2_X12_cant = ir_X12_cant := rfl
theorem tm_X12_cant : m_chk mt2_X12_cant (1851, 127, 1849, 1850) = true := by decide +kernel
theorem ti_X12_canting : i_raw tb2_X12_canting = ir_X12_canting := rfl
theorem tm_X12_canting : m_chk mt2_X12_canting (1855, 127, 1853, 1854) = true := by decide +kernel
theorem ti_X12_carriedBy : i_raw tb2_X12_carriedBy = ir_X12_carriedBy := rfl
theorem tm_X12_carriedBy : m_chk mt2_X12_carriedBy (1646, 127, 1645, 66) = true := by decide +kernel
theorem ti_X12_carriedSet : i_raw tb2_X12_carriedSet = ir_X12_carriedSet := rfl
theorem tm_X12_carriedSet : m_chk mt2_X12_carriedSet (1670, 127, 1669, 70) = true := by decide +kernel
theorem ti_X12_city : i_raw tb2_X12_city = ir_X12_city := rfl
theorem tm_X12_city : m_chk mt2_X12_city (1518, 127, 1516, 1517) = true := by decide +kernel
theorem ti_X12_clears : i_raw tb2_X12_clears = ir_X12_clears := rfl
theorem tm_X12_clears : m_chk mt2_X12_clears (1353, 127, 1352, 40) = true := by decide +kernel
theorem ti_X12_code : i_raw tb2_X12_code = ir_X12_code := rfl
theorem tm_X12_code : m_chk mt2_X12_code (1963, 127, 1962, 109) = true := by decide +kernel
theorem ti_X12_count : i_raw tb2_X12_count = ir_X12_count := rfl
theorem tm_X12_count : m_chk mt2_X12_count (2003, 127, 2001, 2002) = true := by decide +kernel
theorem ti_X12_cover : i_raw tb2_X12_cover = ir_X12_cover := rfl
theorem tm_X12_cover : m_chk mt2_X12_cover (1811, 127, 1809, 1810) = true := by decide +kernel
theorem ti_X12_covering : i_raw tb2_X12_covering = ir_X12_covering := rfl
theorem tm_X12_covering : m_chk mt2_X12_covering (1819, 127, 1817, 1818) = true := by decide +kernel
theorem ti_X12_day : i_raw tb2_X12_day = ir_X12_day := rfl
theorem tm_X12_day : m_chk mt2_X12_day (1776, 127, 1775, 88) = true := by decide +kernel
theorem ti_X12_days : i_raw tb2_X12_days = ir_X12_days := rfl
theorem tm_X12_days : m_chk mt2_X12_days (1768, 127, 1766, 1767) = true := by decide +kernel
theorem ti_X12_does : i_raw tb2_X12_does = ir_X12_does := rfl
theorem tm_X12_does : m_chk mt2_X12_does (1947, 127, 1946, 107) = true := by decide +kernel
theorem ti_X12_draw : i_raw tb2_X12_draw = ir_X12_draw := rfl
theorem tm_X12_draw : m_chk mt2_X12_draw (1918, 127, 1917, 102) = true := by decide +kernel
theorem ti_X12_drawPerson : i_raw tb2_X12_drawPerson = ir_X12_drawPerson := rfl
theorem tm_X12_drawPerson : m_chk mt2_X12_drawPerson (1914, 127, 1913, 101) = true := by decide +kernel
theorem ti_X12_drawn : i_raw tb2_X12_drawn = ir_X12_drawn := rfl
theorem tm_X12_drawn : m_chk mt2_X12_drawn (1906, 127, 1904, 1905) = true := by decide +kernel
theorem ti_X12_draws : i_raw tb2_X12_draws = ir_X12_draws := rfl
theorem tm_X12_draws : m_chk mt2_X12_draws (1910, 127, 1909, 100) = true := by decide +kernel
theorem ti_X12_end : i_raw tb2_X12_end = ir_X12_end := rfl
theorem tm_X12_end : m_chk mt2_X12_end (1315, 127, 1313, 1314) = true := by decide +kernel
theorem ti_X12_fault : i_raw tb2_X12_fault = ir_X12_fault := rfl
theorem tm_X12_fault : m_chk mt2_X12_fault (1614, 127, 1612, 1613) = true := by decide +kernel
theorem ti_X12_feed : i_raw tb2_X12_feed = ir_X12_feed := rfl
theorem tm_X12_feed : m_chk mt2_X12_feed (1306, 127, 1304, 1305) = true := by decide +kernel
theorem ti_X12_find : i_raw tb2_X12_find = ir_X12_find := rfl
theorem tm_X12_find : m_chk mt2_X12_find (1564, 127, 1563, 50) = true := by decide +kernel
theorem ti_X12_firstOf : i_raw tb2_X12_firstOf = ir_X12_firstOf := rfl
theorem tm_X12_firstOf : m_chk mt2_X12_firstOf (1709, 127, 1708, 0) = true := by decide +kernel
theorem ti_X12_fits : i_raw tb2_X12_fits = ir_X12_fits := rfl
theorem tm_X12_fits : m_chk mt2_X12_fits (1787, 127, 1785, 1786) = true := by decide +kernel
theorem ti_X12_fitting : i_raw tb2_X12_fitting = ir_X12_fitting := rfl
theorem tm_X12_fitting : m_chk mt2_X12_fitting (1698, 127, 1697, 75) = true := by decide +kernel
theorem ti_X12_four : i_raw tb2_X12_four = ir_X12_four := rfl
theorem tm_X12_four : m_chk mt2_X12_four (1311, 127, 1309, 39) = true := by decide +kernel
theorem ti_X12_fresh : i_raw tb2_X12_fresh = ir_X12_fresh := rfl
theorem tm_X12_fresh : m_chk mt2_X12_fresh (1556, 127, 1555, 48) = true := by decide +kernel
theorem ti_X12_go : i_raw tb2_X12_go = ir_X12_go := rfl
theorem tm_X12_go : m_chk mt2_X12_go (1674, 127, 1672, 1673) = true := by decide +kernel
theorem ti_X12_goesOn : i_raw tb2_X12_goesOn = ir_X12_goesOn := rfl
theorem tm_X12_goesOn : m_chk mt2_X12_goesOn (1772, 127, 1771, 87) = true := by decide +kernel
theorem ti_X12_greater : i_raw tb2_X12_greater = ir_X12_greater := rfl
theorem tm_X12_greater : m_chk mt2_X12_greater (1839, 127, 1838, 0) = true := by decide +kernel
theorem ti_X12_hasAll : i_raw tb2_X12_hasAll = ir_X12_hasAll := rfl
theorem tm_X12_hasAll : m_chk mt2_X12_hasAll (1702, 127, 1701, 76) = true := by decide +kernel
theorem ti_X12_image : i_raw tb2_X12_image = ir_X12_image := rfl
theorem tm_X12_image : m_chk mt2_X12_image (1995, 127, 1993, 1994) = true := by decide +kernel
theorem ti_X12_isCarried : i_raw tb2_X12_isCarried = ir_X12_isCarried := rfl
theorem tm_X12_isCarried : m_chk mt2_X12_isCarried (1634, 127, 1633, 64) = true := by decide +kernel
theorem ti_X12_isCover : i_raw tb2_X12_isCover = ir_X12_isCover := rfl
theorem tm_X12_isCover : m_chk mt2_X12_isCover (1815, 127, 1814, 90) = true := by decide +kernel
theorem ti_X12_isDigit : i_raw tb2_X12_isDigit = ir_X12_isDigit := rfl
theorem tm_X12_isDigit : m_chk mt2_X12_isDigit (1536, 127, 1535, 0) = true := by decide +kernel
theorem ti_X12_isFast : i_raw tb2_X12_isFast = ir_X12_isFast := rfl
theorem tm_X12_isFast : m_chk mt2_X12_isFast (1666, 127, 1665, 69) = true := by decide +kernel
theorem ti_X12_isFined : i_raw tb2_X12_isFined = ir_X12_isFined := rfl
theorem tm_X12_isFined : m_chk mt2_X12_isFined (1728, 127, 1727, 80) = true := by decide +kernel
theorem ti_X12_isFit : i_raw tb2_X12_isFit = ir_X12_isFit := rfl
theorem tm_X12_isFit : m_chk mt2_X12_isFit (1835, 127, 1834, 93) = true := by decide +kernel
theorem ti_X12_isIn : i_raw tb2_X12_isIn = ir_X12_isIn := rfl
theorem tm_X12_isIn : m_chk mt2_X12_isIn (1598, 127, 1597, 0) = true := by decide +kernel
theorem ti_X12_isLeaf : i_raw tb2_X12_isLeaf = ir_X12_isLeaf := rfl
theorem tm_X12_isLeaf : m_chk mt2_X12_isLeaf (1991, 127, 1990, 115) = true := by decide +kernel
theorem ti_X12_isName : i_raw tb2_X12_isName = ir_X12_isName := rfl
theorem tm_X12_isName : m_chk mt2_X12_isName (1560, 127, 1559, 49) = true := by decide +kernel
theorem ti_X12_isNear : i_raw tb2_X12_isNear = ir_X12_isNear := rfl
theorem tm_X12_isNear : m_chk mt2_X12_isNear (1724, 127, 1723, 79) = true := by decide +kernel
theorem ti_X12_isPerson : i_raw tb2_X12_isPerson = ir_X12_isPerson := rfl
theorem tm_X12_isPerson : m_chk mt2_X12_isPerson (1642, 127, 1641, 65) = true := by decide +kernel
theorem ti_X12_isPlace : i_raw tb2_X12_isPlace = ir_X12_isPlace := rfl
theorem tm_X12_isPlace : m_chk mt2_X12_isPlace (1654, 127, 1653, 67) = true := by decide +kernel
theorem ti_X12_isSaid : i_raw tb2_X12_isSaid = ir_X12_isSaid := rfl
theorem tm_X12_isSaid : m_chk mt2_X12_isSaid (1987, 127, 1986, 114) = true := by decide +kernel
theorem ti_X12_isSaying : i_raw tb2_X12_isSaying = ir_X12_isSaying := rfl
theorem tm_X12_isSaying : m_chk mt2_X12_isSaying (1686, 127, 1685, 72) = true := by decide +kernel
theorem ti_X12_isSign : i_raw tb2_X12_isSign = ir_X12_isSign := rfl
theorem tm_X12_isSign : m_chk mt2_X12_isSign (1610, 127, 1609, 60) = true := by decide +kernel
theorem ti_X12_isSmall : i_raw tb2_X12_isSmall = ir_X12_isSmall := rfl
theorem tm_X12_isSmall : m_chk mt2_X12_isSmall (1533, 127, 1532, 0) = true := by decide +kernel
theorem ti_X12_isSpoken : i_raw tb2_X12_isSpoken = ir_X12_isSpoken := rfl
theorem tm_X12_isSpoken : m_chk mt2_X12_isSpoken (1831, 127, 1830, 92) = true := by decide +kernel
theorem ti_X12_isThing : i_raw tb2_X12_isThing = ir_X12_isThing := rfl
theorem tm_X12_isThing : m_chk mt2_X12_isThing (1622, 127, 1621, 61) = true := by decide +kernel
theorem ti_X12_isWord : i_raw tb2_X12_isWord = ir_X12_isWord := rfl
theorem tm_X12_isWord : m_chk mt2_X12_isWord (1544, 127, 1543, 45) = true := by decide +kernel
theorem ti_X12_joins : i_raw tb2_X12_joins = ir_X12_joins := rfl
theorem tm_X12_joins : m_chk mt2_X12_joins (1967, 127, 1966, 110) = true := by decide +kernel
theorem ti_X12_keep : i_raw tb2_X12_keep = ir_X12_keep := rfl
theorem tm_X12_keep : m_chk mt2_X12_keep (1678, 127, 1677, 71) = true := by decide +kernel
theorem ti_X12_lays : i_raw tb2_X12_lays = ir_X12_lays := rfl
theorem tm_X12_lays : m_chk mt2_X12_lays (1892, 127, 1891, 98) = true := by decide +kernel
theorem ti_X12_leafOf : i_raw tb2_X12_leafOf = ir_X12_leafOf := rfl
theorem tm_X12_leafOf : m_chk mt2_X12_leafOf (1979, 127, 1978, 113) = true := by decide +kernel
theorem ti_X12_learn : i_raw tb2_X12_learn = ir_X12_learn := rfl
theorem tm_X12_learn : m_chk mt2_X12_learn (1756, 127, 1754, 1755) = true := by decide +kernel
theorem ti_X12_learnsOne : i_raw tb2_X12_learnsOne = ir_X12_learnsOne := rfl
theorem tm_X12_learnsOne : m_chk mt2_X12_learnsOne (1764, 127, 1763, 86) = true := by decide +kernel
theorem ti_X12_lesser : i_raw tb2_X12_lesser = ir_X12_lesser := rfl
theorem tm_X12_lesser : m_chk mt2_X12_lesser (1779, 127, 1778, 0) = true := by decide +kernel
theorem ti_X12_lies : i_raw tb2_X12_lies = ir_X12_lies := rfl
theorem tm_X12_lies : m_chk mt2_X12_lies (1650, 127, 1648, 1649) = true := by decide +kernel
theorem ti_X12_line : i_raw tb2_X12_line = ir_X12_line := rfl
theorem tm_X12_line : m_chk mt2_X12_line (1540, 127, 1539, 44) = true := by decide +kernel
theorem ti_X12_looksAt : i_raw tb2_X12_looksAt = ir_X12_looksAt := rfl
theorem tm_X12_looksAt : m_chk mt2_X12_looksAt (1576, 127, 1575, 53) = true := by decide +kernel
theorem ti_X12_lyingAt : i_raw tb2_X12_lyingAt = ir_X12_lyingAt := rfl
theorem tm_X12_lyingAt : m_chk mt2_X12_lyingAt (1658, 127, 1657, 68) = true := by decide +kernel
theorem ti_X12_meansAnew : i_raw tb2_X12_meansAnew = ir_X12_meansAnew := rfl
theorem tm_X12_meansAnew : m_chk mt2_X12_meansAnew (1867, 127, 1866, 95) = true := by decide +kernel
theorem ti_X12_meantBy : i_raw tb2_X12_meantBy = ir_X12_meantBy := rfl
theorem tm_X12_meantBy : m_chk mt2_X12_meantBy (1871, 127, 1870, 96) = true := by decide +kernel
theorem ti_X12_name : i_raw tb2_X12_name = ir_X12_name := rfl
theorem tm_X12_name : m_chk mt2_X12_name (1716, 127, 1714, 1715) = true := by decide +kernel
theorem ti_X12_namesOne : i_raw tb2_X12_namesOne = ir_X12_namesOne := rfl
theorem tm_X12_namesOne : m_chk mt2_X12_namesOne (1732, 127, 1731, 81) = true := by decide +kernel
theorem ti_X12_news : i_raw tb2_X12_news = ir_X12_news := rfl
theorem tm_X12_news : m_chk mt2_X12_news (1879, 127, 1877, 1878) = true := by decide +kernel
theorem ti_X12_next : i_raw tb2_X12_next = ir_X12_next := rfl
theorem tm_X12_next : m_chk mt2_X12_next (1526, 127, 1525, 42) = true := by decide +kernel
theorem ti_X12_nots : i_raw tb2_X12_nots = ir_X12_nots := rfl
theorem tm_X12_nots : m_chk mt2_X12_nots (1959, 127, 1958, 108) = true := by decide +kernel
theorem ti_X12_now : i_raw tb2_X12_now = ir_X12_now := rfl
theorem tm_X12_now : m_chk mt2_X12_now (1662, 127, 1660, 1661) = true := by decide +kernel
theorem ti_X12_octet : i_raw tb2_X12_octet = ir_X12_octet := rfl
theorem tm_X12_octet : m_chk mt2_X12_octet (1827, 127, 1826, 91) = true := by decide +kernel
theorem ti_X12_odds : i_raw tb2_X12_odds = ir_X12_odds := rfl
theorem tm_X12_odds : m_chk mt2_X12_odds (1923, 127, 1921, 1922) = true := by decide +kernel
theorem ti_X12_once : i_raw tb2_X12_once = ir_X12_once := rfl
theorem tm_X12_once : m_chk mt2_X12_once (1602, 127, 1601, 58) = true := by decide +kernel
theorem ti_X12_operand : i_raw tb2_X12_operand = ir_X12_operand := rfl
theorem tm_X12_operand : m_chk mt2_X12_operand (1975, 127, 1974, 112) = true := by decide +kernel
theorem ti_X12_peek : i_raw tb2_X12_peek = ir_X12_peek := rfl
theorem tm_X12_peek : m_chk mt2_X12_peek (1530, 127, 1529, 43) = true := by decide +kernel
theorem ti_X12_person : i_raw tb2_X12_person = ir_X12_person := rfl
theorem tm_X12_person : m_chk mt2_X12_person (1638, 127, 1636, 1637) = true := by decide +kernel
theorem ti_X12_phrase : i_raw tb2_X12_phrase = ir_X12_phrase := rfl
theorem tm_X12_phrase : m_chk mt2_X12_phrase (1883, 127, 1881, 1882) = true := by decide +kernel
theorem ti_X12_placeOf : i_raw tb2_X12_placeOf = ir_X12_placeOf := rfl
theorem tm_X12_placeOf : m_chk mt2_X12_placeOf (1630, 127, 1629, 63) = true := by decide +kernel
theorem ti_X12_point : i_raw tb2_X12_point = ir_X12_point := rfl
theorem tm_X12_point : m_chk mt2_X12_point (1736, 127, 1734, 1735) = true := by decide +kernel
theorem ti_X12_pointsAt : i_raw tb2_X12_pointsAt = ir_X12_pointsAt := rfl
theorem tm_X12_pointsAt : m_chk mt2_X12_pointsAt (1744, 127, 1743, 83) = true := by decide +kernel
theorem ti_X12_put : i_raw tb2_X12_put = ir_X12_put := rfl
theorem tm_X12_put : m_chk mt2_X12_put (1748, 127, 1746, 1747) = true := by decide +kernel
theorem ti_X12_puts : i_raw tb2_X12_puts = ir_X12_puts := rfl
theorem tm_X12_puts : m_chk mt2_X12_puts (1591, 127, 1590, 56) = true := by decide +kernel
theorem ti_X12_putsDown : i_raw tb2_X12_putsDown = ir_X12_putsDown := rfl
theorem tm_X12_putsDown : m_chk mt2_X12_putsDown (1752, 127, 1751, 84) = true := by decide +kernel
theorem ti_X12_readNew : i_raw tb2_X12_readNew = ir_X12_readNew := rfl
theorem tm_X12_readNew : m_chk mt2_X12_readNew (1548, 127, 1547, 46) = true := by decide +kernel
theorem ti_X12_readPerson : i_raw tb2_X12_readPerson = ir_X12_readPerson := rfl
theorem tm_X12_readPerson : m_chk mt2_X12_readPerson (1587, 127, 1586, 55) = true := by decide +kernel
theorem ti_X12_readThing : i_raw tb2_X12_readThing = ir_X12_readThing := rfl
theorem tm_X12_readThing : m_chk mt2_X12_readThing (1568, 127, 1567, 51) = true := by decide +kernel
theorem ti_X12_readTie : i_raw tb2_X12_readTie = ir_X12_readTie := rfl
theorem tm_X12_readTie : m_chk mt2_X12_readTie (1580, 127, 1579, 54) = true := by decide +kernel
theorem ti_X12_rest : i_raw tb2_X12_rest = ir_X12_rest := rfl
theorem tm_X12_rest : m_chk mt2_X12_rest (1859, 127, 1857, 1858) = true := by decide +kernel
theorem ti_X12_rested : i_raw tb2_X12_rested = ir_X12_rested := rfl
theorem tm_X12_rested : m_chk mt2_X12_rested (1875, 127, 1873, 1874) = true := by decide +kernel
theorem ti_X12_restore : i_raw tb2_X12_restore = ir_X12_restore := rfl
theorem tm_X12_restore : m_chk mt2_X12_restore (1999, 127, 1997, 1998) = true := by decide +kernel
theorem ti_X12_said : i_raw tb2_X12_said = ir_X12_said := rfl
theorem tm_X12_said : m_chk mt2_X12_said (1983, 127, 1981, 1982) = true := by decide +kernel
theorem ti_X12_say : i_raw tb2_X12_say = ir_X12_say := rfl
theorem tm_X12_say : m_chk mt2_X12_say (1791, 127, 1789, 1790) = true := by decide +kernel
theorem ti_X12_saying : i_raw tb2_X12_saying = ir_X12_saying := rfl
theorem tm_X12_saying : m_chk mt2_X12_saying (1795, 127, 1793, 1794) = true := by decide +kernel
theorem ti_X12_says : i_raw tb2_X12_says = ir_X12_says := rfl
theorem tm_X12_says : m_chk mt2_X12_says (1897, 127, 1896, 99) = true := by decide +kernel
theorem ti_X12_saysAnew : i_raw tb2_X12_saysAnew = ir_X12_saysAnew := rfl
theorem tm_X12_saysAnew : m_chk mt2_X12_saysAnew (1863, 127, 1862, 94) = true := by decide +kernel
theorem ti_X12_sentence : i_raw tb2_X12_sentence = ir_X12_sentence := rfl
theorem tm_X12_sentence : m_chk mt2_X12_sentence (1955, 127, 1953, 1954) = true := by decide +kernel
theorem ti_X12_show : i_raw tb2_X12_show = ir_X12_show := rfl
theorem tm_X12_show : m_chk mt2_X12_show (1847, 127, 1845, 1846) = true := by decide +kernel
theorem ti_X12_sign : i_raw tb2_X12_sign = ir_X12_sign := rfl
theorem tm_X12_sign : m_chk mt2_X12_sign (1606, 127, 1605, 59) = true := by decide +kernel
theorem ti_X12_slip : i_raw tb2_X12_slip = ir_X12_slip := rfl
theorem tm_X12_slip : m_chk mt2_X12_slip (1807, 127, 1805, 1806) = true := by decide +kernel
theorem ti_X12_spells : i_raw tb2_X12_spells = ir_X12_spells := rfl
theorem tm_X12_spells : m_chk mt2_X12_spells (1887, 127, 1886, 97) = true := by decide +kernel
theorem ti_X12_spoken : i_raw tb2_X12_spoken = ir_X12_spoken := rfl
theorem tm_X12_spoken : m_chk mt2_X12_spoken (1823, 127, 1821, 1822) = true := by decide +kernel
theorem ti_X12_surely : i_raw tb2_X12_surely = ir_X12_surely := rfl
theorem tm_X12_surely : m_chk mt2_X12_surely (1843, 127, 1841, 1842) = true := by decide +kernel
theorem ti_X12_taken : i_raw tb2_X12_taken = ir_X12_taken := rfl
theorem tm_X12_taken : m_chk mt2_X12_taken (1522, 127, 1521, 41) = true := by decide +kernel
theorem ti_X12_takes : i_raw tb2_X12_takes = ir_X12_takes := rfl
theorem tm_X12_takes : m_chk mt2_X12_takes (1595, 127, 1594, 57) = true := by decide +kernel
theorem ti_X12_takesMarks : i_raw tb2_X12_takesMarks = ir_X12_takesMarks := rfl
theorem tm_X12_takesMarks : m_chk mt2_X12_takesMarks (1943, 127, 1942, 106) = true := by decide +kernel
theorem ti_X12_takesName : i_raw tb2_X12_takesName = ir_X12_takesName := rfl
theorem tm_X12_takesName : m_chk mt2_X12_takesName (1572, 127, 1571, 52) = true := by decide +kernel
theorem ti_X12_thing : i_raw tb2_X12_thing = ir_X12_thing := rfl
theorem tm_X12_thing : m_chk mt2_X12_thing (1618, 127, 1616, 1617) = true := by decide +kernel
theorem ti_X12_throwsIf : i_raw tb2_X12_throwsIf = ir_X12_throwsIf := rfl
theorem tm_X12_throwsIf : m_chk mt2_X12_throwsIf (1626, 127, 1625, 62) = true := by decide +kernel
theorem ti_X12_told : i_raw tb2_X12_told = ir_X12_told := rfl
theorem tm_X12_told : m_chk mt2_X12_told (1951, 127, 1949, 1950) = true := by decide +kernel
theorem ti_X12_tries : i_raw tb2_X12_tries = ir_X12_tries := rfl
theorem tm_X12_tries : m_chk mt2_X12_tries (1927, 127, 1926, 103) = true := by decide +kernel
theorem ti_X12_twin : i_raw tb2_X12_twin = ir_X12_twin := rfl
theorem tm_X12_twin : m_chk mt2_X12_twin (1799, 127, 1797, 1798) = true := by decide +kernel
theorem ti_X12_twinsOf : i_raw tb2_X12_twinsOf = ir_X12_twinsOf := rfl
theorem tm_X12_twinsOf : m_chk mt2_X12_twinsOf (1803, 127, 1802, 89) = true := by decide +kernel
theorem ti_X12_undo : i_raw tb2_X12_undo = ir_X12_undo := rfl
theorem tm_X12_undo : m_chk mt2_X12_undo (1783, 127, 1781, 1782) = true := by decide +kernel
theorem ti_X12_whyAsk : i_raw tb2_X12_whyAsk = ir_X12_whyAsk := rfl
theorem tm_X12_whyAsk : m_chk mt2_X12_whyAsk (1690, 127, 1689, 73) = true := by decide +kernel
theorem ti_X12_whyLearn : i_raw tb2_X12_whyLearn = ir_X12_whyLearn := rfl
theorem tm_X12_whyLearn : m_chk mt2_X12_whyLearn (1760, 127, 1759, 85) = true := by decide +kernel
theorem ti_X12_whyName : i_raw tb2_X12_whyName = ir_X12_whyName := rfl
theorem tm_X12_whyName : m_chk mt2_X12_whyName (1720, 127, 1719, 78) = true := by decide +kernel
theorem ti_X12_whyPoint : i_raw tb2_X12_whyPoint = ir_X12_whyPoint := rfl
theorem tm_X12_whyPoint : m_chk mt2_X12_whyPoint (1740, 127, 1739, 82) = true := by decide +kernel
theorem ti_X1_find : i_raw tb2_X1_find = ir_X1_find := rfl
theorem tm_X1_find : m_chk mt2_X1_find (601, 121, 600, 8) = true := by decide +kernel
theorem ti_X1_has : i_raw tb2_X1_has = ir_X1_has := rfl
theorem tm_X1_has : m_chk mt2_X1_has (665, 121, 663, 664) = true := by decide +kernel
theorem ti_X1_hasMarks : i_raw tb2_X1_hasMarks = ir_X1_hasMarks := rfl
theorem tm_X1_hasMarks : m_chk mt2_X1_hasMarks (726, 121, 724, 725) = true := by decide +kernel
theorem ti_X1_isForeign : i_raw tb2_X1_isForeign = ir_X1_isForeign := rfl
theorem tm_X1_isForeign : m_chk mt2_X1_isForeign (773, 121, 771, 772) = true := by decide +kernel
theorem ti_X1_nameOf : i_raw tb2_X1_nameOf = ir_X1_nameOf := rfl
theorem tm_X1_nameOf : m_chk mt2_X1_nameOf (989, 121, 987, 988) = true := by decide +kernel
theorem ti_X1_read : i_raw tb2_X1_read = ir_X1_read := rfl
theorem tm_X1_read : m_chk mt2_X1_read (578, 121, 576, 577) = true := by decide +kernel
theorem ti_X1_readLine : i_raw tb2_X1_readLine = ir_X1_readLine := rfl
theorem tm_X1_readLine : m_chk mt2_X1_readLine (582, 121, 581, 6) = true := by decide +kernel
theorem ti_X1_readNew : i_raw tb2_X1_readNew = ir_X1_readNew := rfl
theorem tm_X1_readNew : m_chk mt2_X1_readNew (590, 121, 589, 7) = true := by decide +kernel
theorem ti_X1_readPair : i_raw tb2_X1_readPair = ir_X1_readPair := rfl
theorem tm_X1_readPair : m_chk mt2_X1_readPair (622, 121, 621, 10) = true := by decide +kernel
theorem ti_X1_readPerson : i_raw tb2_X1_readPerson = ir_X1_readPerson := rfl
theorem tm_X1_readPerson : m_chk mt2_X1_readPerson (609, 121, 608, 9) = true := by decide +kernel
theorem ti_X1_readSetting : i_raw tb2_X1_readSetting = ir_X1_readSetting := rfl
theorem tm_X1_readSetting : m_chk mt2_X1_readSetting (626, 121, 625, 11) = true := by decide +kernel
theorem ti_X1_toldHere : i_raw tb2_X1_toldHere = ir_X1_toldHere := rfl
theorem tm_X1_toldHere : m_chk mt2_X1_toldHere (605, 121, 603, 604) = true := by decide +kernel
theorem ti_X2_countFitting : i_raw tb2_X2_countFitting = ir_X2_countFitting := rfl
theorem tm_X2_countFitting : m_chk mt2_X2_countFitting (901, 125, 900, 18) = true := by decide +kernel
theorem ti_X2_hear : i_raw tb2_X2_hear = ir_X2_hear := rfl
theorem tm_X2_hear : m_chk mt2_X2_hear (888, 125, 886, 887) = true := by decide +kernel
theorem ti_X2_isJustSo : i_raw tb2_X2_isJustSo = ir_X2_isJustSo := rfl
theorem tm_X2_isJustSo : m_chk mt2_X2_isJustSo (896, 125, 895, 0) = true := by decide +kernel
theorem ti_X2_isTold : i_raw tb2_X2_isTold = ir_X2_isTold := rfl
theorem tm_X2_isTold : m_chk mt2_X2_isTold (891, 125, 890, 0) = true := by decide +kernel
theorem ti_X2_mostTelling : i_raw tb2_X2_mostTelling = ir_X2_mostTelling := rfl
theorem tm_X2_mostTelling : m_chk mt2_X2_mostTelling (905, 125, 904, 19) = true := by decide +kernel
theorem ti_X3_draw : i_raw tb2_X3_draw = ir_X3_draw := rfl
theorem tm_X3_draw : m_chk mt2_X3_draw (1018, 126, 1017, 28) = true := by decide +kernel
theorem ti_X3_dropFirst : i_raw tb2_X3_dropFirst = ir_X3_dropFirst := rfl
theorem tm_X3_dropFirst : m_chk mt2_X3_dropFirst (1025, 126, 1024, 0) = true := by decide +kernel
theorem ti_X3_live : i_raw tb2_X3_live = ir_X3_live := rfl
theorem tm_X3_live : m_chk mt2_X3_live (1006, 126, 1004, 1005) = true := by decide +kernel
theorem ti_X3_takeTurn : i_raw tb2_X3_takeTurn = ir_X3_takeTurn := rfl
theorem tm_X3_takeTurn : m_chk mt2_X3_takeTurn (1014, 126, 1013, 27) = true := by decide +kernel
theorem ti_X4_clear : i_raw tb2_X4_clear = ir_X4_clear := rfl
theorem tm_X4_clear : m_chk mt2_X4_clear (649, 122, 647, 648) = true := by decide +kernel
theorem ti_X4_keep : i_raw tb2_X4_keep = ir_X4_keep := rfl
theorem tm_X4_keep : m_chk mt2_X4_keep (718, 122, 716, 717) = true := by decide +kernel
theorem ti_X4_prepare : i_raw tb2_X4_prepare = ir_X4_prepare := rfl
theorem tm_X4_prepare : m_chk mt2_X4_prepare (696, 122, 694, 695) = true := by decide +kernel
theorem ti_X4_slot : i_raw tb2_X4_slot = ir_X4_slot := rfl
theorem tm_X4_slot : m_chk mt2_X4_slot (700, 122, 699, 13) = true := by decide +kernel
theorem ti_X4_takeBack : i_raw tb2_X4_takeBack = ir_X4_takeBack := rfl
theorem tm_X4_takeBack : m_chk mt2_X4_takeBack (825, 122, 823, 824) = true := by decide +kernel
theorem ti_X5_hasTwins : i_raw tb2_X5_hasTwins = ir_X5_hasTwins := rfl
theorem tm_X5_hasTwins : m_chk mt2_X5_hasTwins (875, 139, 874, 0) = true := by decide +kernel
theorem ti_X5_hearersOf : i_raw tb2_X5_hearersOf = ir_X5_hearersOf := rfl
theorem tm_X5_hearersOf : m_chk mt2_X5_hearersOf (973, 139, 972, 0) = true := by decide +kernel
theorem ti_X5_hoursOfNews : i_raw tb2_X5_hoursOfNews = ir_X5_hoursOfNews := rfl
theorem tm_X5_hoursOfNews : m_chk mt2_X5_hoursOfNews (967, 139, 966, 0) = true := by decide +kernel
theorem ti_X5_isShorter : i_raw tb2_X5_isShorter = ir_X5_isShorter := rfl
theorem tm_X5_isShorter : m_chk mt2_X5_isShorter (849, 139, 848, 0) = true := by decide +kernel
theorem ti_X5_leastCant : i_raw tb2_X5_leastCant = ir_X5_leastCant := rfl
theorem tm_X5_leastCant : m_chk mt2_X5_leastCant (923, 139, 922, 0) = true := by decide +kernel
theorem ti_X5_leastCover : i_raw tb2_X5_leastCover = ir_X5_leastCover := rfl
theorem tm_X5_leastCover : m_chk mt2_X5_leastCover (872, 139, 871, 0) = true := by decide +kernel
theorem ti_X5_leastSaying : i_raw tb2_X5_leastSaying = ir_X5_leastSaying := rfl
theorem tm_X5_leastSaying : m_chk mt2_X5_leastSaying (841, 139, 840, 0) = true := by decide +kernel
theorem ti_X5_slips : i_raw tb2_X5_slips = ir_X5_slips := rfl
theorem tm_X5_slips : m_chk mt2_X5_slips (1299, 139, 1298, 0) = true := by decide +kernel
theorem ti_X5_toldBy : i_raw tb2_X5_toldBy = ir_X5_toldBy := rfl
theorem tm_X5_toldBy : m_chk mt2_X5_toldBy (970, 139, 969, 0) = true := by decide +kernel
theorem ti_X5_twinOf : i_raw tb2_X5_twinOf = ir_X5_twinOf := rfl
theorem tm_X5_twinOf : m_chk mt2_X5_twinOf (864, 139, 863, 0) = true := by decide +kernel
theorem ti_X6_firstSaid : i_raw tb2_X6_firstSaid = ir_X6_firstSaid := rfl
theorem tm_X6_firstSaid : m_chk mt2_X6_firstSaid (956, 124, 955, 23) = true := by decide +kernel
theorem ti_X6_giveMarks : i_raw tb2_X6_giveMarks = ir_X6_giveMarks := rfl
theorem tm_X6_giveMarks : m_chk mt2_X6_giveMarks (952, 124, 951, 22) = true := by decide +kernel
theorem ti_X6_havingMark : i_raw tb2_X6_havingMark = ir_X6_havingMark := rfl
theorem tm_X6_havingMark : m_chk mt2_X6_havingMark (939, 124, 938, 0) = true := by decide +kernel
theorem ti_X6_leastOwning : i_raw tb2_X6_leastOwning = ir_X6_leastOwning := rfl
theorem tm_X6_leastOwning : m_chk mt2_X6_leastOwning (948, 124, 947, 21) = true := by decide +kernel
theorem ti_X6_sayThings : i_raw tb2_X6_sayThings = ir_X6_sayThings := rfl
theorem tm_X6_sayThings : m_chk mt2_X6_sayThings (944, 124, 943, 20) = true := by decide +kernel
theorem ti_X6_settle : i_raw tb2_X6_settle = ir_X6_settle := rfl
theorem tm_X6_settle : m_chk mt2_X6_settle (935, 124, 933, 934) = true := by decide +kernel
theorem ti_X7_allCarried : i_raw tb2_X7_allCarried = ir_X7_allCarried := rfl
theorem tm_X7_allCarried : m_chk mt2_X7_allCarried (685, 120, 683, 684) = true := by decide +kernel
theorem ti_X7_allCoins : i_raw tb2_X7_allCoins = ir_X7_allCoins := rfl
theorem tm_X7_allCoins : m_chk mt2_X7_allCoins (681, 120, 679, 680) = true := by decide +kernel
theorem ti_X7_areTogether : i_raw tb2_X7_areTogether = ir_X7_areTogether := rfl
theorem tm_X7_areTogether : m_chk mt2_X7_areTogether (734, 120, 733, 15) = true := by decide +kernel
theorem ti_X7_begin : i_raw tb2_X7_begin = ir_X7_begin := rfl
theorem tm_X7_begin : m_chk mt2_X7_begin (642, 120, 640, 641) = true := by decide +kernel
theorem ti_X7_callByName : i_raw tb2_X7_callByName = ir_X7_callByName := rfl
theorem tm_X7_callByName : m_chk mt2_X7_callByName (764, 120, 762, 763) = true := by decide +kernel
theorem ti_X7_carriedBy : i_raw tb2_X7_carriedBy = ir_X7_carriedBy := rfl
theorem tm_X7_carriedBy : m_chk mt2_X7_carriedBy (1029, 120, 1027, 1028) = true := by decide +kernel
theorem ti_X7_copyFrom : i_raw tb2_X7_copyFrom = ir_X7_copyFrom := rfl
theorem tm_X7_copyFrom : m_chk mt2_X7_copyFrom (706, 120, 704, 705) = true := by decide +kernel
theorem ti_X7_daysLeft : i_raw tb2_X7_daysLeft = ir_X7_daysLeft := rfl
theorem tm_X7_daysLeft : m_chk mt2_X7_daysLeft (1010, 120, 1008, 1009) = true := by decide +kernel
theorem ti_X7_drop : i_raw tb2_X7_drop = ir_X7_drop := rfl
theorem tm_X7_drop : m_chk mt2_X7_drop (789, 120, 787, 788) = true := by decide +kernel
theorem ti_X7_fitting : i_raw tb2_X7_fitting = ir_X7_fitting := rfl
theorem tm_X7_fitting : m_chk mt2_X7_fitting (739, 120, 737, 738) = true := by decide +kernel
theorem ti_X7_has : i_raw tb2_X7_has = ir_X7_has := rfl
theorem tm_X7_has : m_chk mt2_X7_has (661, 120, 659, 660) = true := by decide +kernel
theorem ti_X7_isFast : i_raw tb2_X7_isFast = ir_X7_isFast := rfl
theorem tm_X7_isFast : m_chk mt2_X7_isFast (677, 120, 675, 676) = true := by decide +kernel
theorem ti_X7_isFitting : i_raw tb2_X7_isFitting = ir_X7_isFitting := rfl
theorem tm_X7_isFitting : m_chk mt2_X7_isFitting (743, 120, 741, 742) = true := by decide +kernel
theorem ti_X7_isLying : i_raw tb2_X7_isLying = ir_X7_isLying := rfl
theorem tm_X7_isLying : m_chk mt2_X7_isLying (838, 120, 836, 837) = true := by decide +kernel
theorem ti_X7_liesBefore : i_raw tb2_X7_liesBefore = ir_X7_liesBefore := rfl
theorem tm_X7_liesBefore : m_chk mt2_X7_liesBefore (768, 120, 767, 16) = true := by decide +kernel
theorem ti_X7_lyingAt : i_raw tb2_X7_lyingAt = ir_X7_lyingAt := rfl
theorem tm_X7_lyingAt : m_chk mt2_X7_lyingAt (669, 120, 667, 668) = true := by decide +kernel
theorem ti_X7_passDay : i_raw tb2_X7_passDay = ir_X7_passDay := rfl
theorem tm_X7_passDay : m_chk mt2_X7_passDay (812, 120, 810, 811) = true := by decide +kernel
theorem ti_X7_passDays : i_raw tb2_X7_passDays = ir_X7_passDays := rfl
theorem tm_X7_passDays : m_chk mt2_X7_passDays (808, 120, 806, 807) = true := by decide +kernel
theorem ti_X7_placeOf : i_raw tb2_X7_placeOf = ir_X7_placeOf := rfl
theorem tm_X7_placeOf : m_chk mt2_X7_placeOf (845, 120, 843, 844) = true := by decide +kernel
theorem ti_X7_pointAt : i_raw tb2_X7_pointAt = ir_X7_pointAt := rfl
theorem tm_X7_pointAt : m_chk mt2_X7_pointAt (781, 120, 779, 780) = true := by decide +kernel
theorem ti_X7_request : i_raw tb2_X7_request = ir_X7_request := rfl
theorem tm_X7_request : m_chk mt2_X7_request (730, 120, 728, 729) = true := by decide +kernel
theorem ti_X7_study : i_raw tb2_X7_study = ir_X7_study := rfl
theorem tm_X7_study : m_chk mt2_X7_study (797, 120, 795, 796) = true := by decide +kernel
theorem ti_X7_walk : i_raw tb2_X7_walk = ir_X7_walk := rfl
theorem tm_X7_walk : m_chk mt2_X7_walk (710, 120, 708, 709) = true := by decide +kernel
theorem ti_X8_add : i_raw tb2_X8_add = ir_X8_add := rfl
theorem tm_X8_add : m_chk mt2_X8_add (1148, 140, 1147, 34) = true := by decide +kernel
theorem ti_X8_holds : i_raw tb2_X8_holds = ir_X8_holds := rfl
theorem tm_X8_holds : m_chk mt2_X8_holds (1178, 140, 1177, 37) = true := by decide +kernel
theorem ti_X8_isSo : i_raw tb2_X8_isSo = ir_X8_isSo := rfl
theorem tm_X8_isSo : m_chk mt2_X8_isSo (1186, 140, 1185, 0) = true := by decide +kernel
theorem ti_X8_readAll : i_raw tb2_X8_readAll = ir_X8_readAll := rfl
theorem tm_X8_readAll : m_chk mt2_X8_readAll (1135, 140, 1134, 32) = true := by decide +kernel
theorem ti_X8_readCondition : i_raw tb2_X8_readCondition = ir_X8_readCondition := rfl
theorem tm_X8_readCondition : m_chk mt2_X8_readCondition (1131, 140, 1129, 1130) = true := by decide +kernel
theorem ti_X8_readOne : i_raw tb2_X8_readOne = ir_X8_readOne := rfl
theorem tm_X8_readOne : m_chk mt2_X8_readOne (1139, 140, 1138, 33) = true := by decide +kernel
theorem ti_X8_readPlain : i_raw tb2_X8_readPlain = ir_X8_readPlain := rfl
theorem tm_X8_readPlain : m_chk mt2_X8_readPlain (1152, 140, 1151, 35) = true := by decide +kernel
theorem ti_X8_sortBehind : i_raw tb2_X8_sortBehind = ir_X8_sortBehind := rfl
theorem tm_X8_sortBehind : m_chk mt2_X8_sortBehind (1155, 140, 1154, 0) = true := by decide +kernel
theorem ti_X8_thingsIn : i_raw tb2_X8_thingsIn = ir_X8_thingsIn := rfl
theorem tm_X8_thingsIn : m_chk mt2_X8_thingsIn (1170, 140, 1168, 1169) = true := by decide +kernel
theorem ti_X8_thingsOfPart : i_raw tb2_X8_thingsOfPart = ir_X8_thingsOfPart := rfl
theorem tm_X8_thingsOfPart : m_chk mt2_X8_thingsOfPart (1174, 140, 1173, 36) = true := by decide +kernel
theorem ti_X9_append : i_raw tb2_X9_append = ir_X9_append := rfl
theorem tm_X9_append : m_chk mt2_X9_append (470, 118, 468, 469) = true := by decide +kernel
theorem ti_X9_at : i_raw tb2_X9_at = ir_X9_at := rfl
theorem tm_X9_at : m_chk mt2_X9_at (490, 118, 488, 489) = true := by decide +kernel
theorem tp_0 : ∀ M ∈ [mt2_J3_checkIndex_8e157, mt2_J6_bitCount_0f7a4, mt2_J6_lowestOneBit_0f7a4, mt2_J6_numberOfTrailingZeros_0f7a4, mt2_J9_floorMod_7cf53, mt2_J9_max_7cf53, mt2_J9_min_7cf53, mt2_X0_because, mt2_X0_judge, mt2_X0_liveDays, mt2_X0_liveLine, mt2_X0_read, mt2_X0_readAct, mt2_X0_readLine, mt2_X0_readSaying, mt2_X0_sortBehind, mt2_X0_tell, mt2_X10_behindBlanks, mt2_X10_fail, mt2_X10_isDigit, mt2_X10_isLetter, mt2_X10_isSpelled, mt2_X10_isWord, mt2_X10_open, mt2_X10_plainWord], mZ2 M := all_c (m_chk_ok tm_J3_checkIndex_8e157 ti_J3_checkIndex_8e157 id_J3_checkIndex_8e157) (all_c (m_chk_ok tm_J6_bitCount_0f7a4 ti_J6_bitCount_0f7a4 id_J6_bitCount_0f7a4) (all_c (m_chk_ok tm_J6_lowestOneBit_0f7a4 ti_J6_lowestOneBit_0f7a4 id_J6_lowestOneBit_0f7a4) (all_c (m_chk_ok tm_J6_numberOfTrailingZeros_0f7a4 ti_J6_numberOfTrailingZeros_0f7a4 id_J6_numberOfTrailingZeros_0f7a4) (all_c (m_chk_ok tm_J9_floorMod_7cf53 ti_J9_floorMod_7cf53 id_J9_floorMod_7cf53) (all_c (m_chk_ok tm_J9_max_7cf53 ti_J9_max_7cf53 id_J9_max_7cf53) (all_c (m_chk_ok tm_J9_min_7cf53 ti_J9_min_7cf53 id_J9_min_7cf53) (all_c (m_chk_ok tm_X0_because ti_X0_because id_X0_because) (all_c (m_chk_ok tm_X0_judge ti_X0_judge id_X0_judge) (all_c (m_chk_ok tm_X0_liveDays ti_X0_liveDays id_X0_liveDays) (all_c (m_chk_ok tm_X0_liveLine ti_X0_liveLine id_X0_liveLine) (all_c (m_chk_ok tm_X0_read ti_X0_read id_X0_read) (all_c (m_chk_ok tm_X0_readAct ti_X0_readAct id_X0_readAct) (all_c (m_chk_ok tm_X0_readLine ti_X0_readLine id_X0_readLine) (all_c (m_chk_ok tm_X0_readSaying ti_X0_readSaying id_X0_readSaying) (all_c (m_chk_ok tm_X0_sortBehind ti_X0_sortBehind id_X0_sortBehind) (all_c (m_chk_ok tm_X0_tell ti_X0_tell id_X0_tell) (all_c (m_chk_ok tm_X10_behindBlanks ti_X10_behindBlanks id_X10_behindBlanks) (all_c (m_chk_ok tm_X10_fail ti_X10_fail id_X10_fail) (all_c (m_chk_ok tm_X10_isDigit ti_X10_isDigit id_X10_isDigit) (all_c (m_chk_ok tm_X10_isLetter ti_X10_isLetter id_X10_isLetter) (all_c (m_chk_ok tm_X10_isSpelled ti_X10_isSpelled id_X10_isSpelled) (all_c (m_chk_ok tm_X10_isWord ti_X10_isWord id_X10_isWord) (all_c (m_chk_ok tm_X10_open ti_X10_open id_X10_open) (all_c (m_chk_ok tm_X10_plainWord ti_X10_plainWord id_X10_plainWord) (all_0)))))))))))))))))))))))))
theorem tp_1 : ∀ M ∈ [mt2_X10_readRun, mt2_X10_readToken, mt2_X10_step, mt2_X10_takeEnd, mt2_X10_takeNumber, mt2_X10_takeSign, mt2_X10_wordIn, mt2_X10_wordNumber, mt2_X11_ask, mt2_X11_bitAt, mt2_X11_book, mt2_X11_byteAt, mt2_X11_cant, mt2_X11_canting, mt2_X11_city, mt2_X11_closeText, mt2_X11_count, mt2_X11_cover, mt2_X11_covering, mt2_X11_days, mt2_X11_drawn, mt2_X11_end, mt2_X11_fault, mt2_X11_feed, mt2_X11_firstBit], mZ2 M := all_c (m_chk_ok tm_X10_readRun ti_X10_readRun id_X10_readRun) (all_c (m_chk_ok tm_X10_readToken ti_X10_readToken id_X10_readToken) (all_c (m_chk_ok tm_X10_step ti_X10_step id_X10_step) (all_c (m_chk_ok tm_X10_takeEnd ti_X10_takeEnd id_X10_takeEnd) (all_c (m_chk_ok tm_X10_takeNumber ti_X10_takeNumber id_X10_takeNumber) (all_c (m_chk_ok tm_X10_takeSign ti_X10_takeSign id_X10_takeSign) (all_c (m_chk_ok tm_X10_wordIn ti_X10_wordIn id_X10_wordIn) (all_c (m_chk_ok tm_X10_wordNumber ti_X10_wordNumber id_X10_wordNumber) (all_c (m_chk_ok tm_X11_ask ti_X11_ask id_X11_ask) (all_c (m_chk_ok tm_X11_bitAt ti_X11_bitAt id_X11_bitAt) (all_c (m_chk_ok tm_X11_book ti_X11_book id_X11_book) (all_c (m_chk_ok tm_X11_byteAt ti_X11_byteAt id_X11_byteAt) (all_c (m_chk_ok tm_X11_cant ti_X11_cant id_X11_cant) (all_c (m_chk_ok tm_X11_canting ti_X11_canting id_X11_canting) (all_c (m_chk_ok tm_X11_city ti_X11_city id_X11_city) (all_c (m_chk_ok tm_X11_closeText ti_X11_closeText id_X11_closeText) (all_c (m_chk_ok tm_X11_count ti_X11_count id_X11_count) (all_c (m_chk_ok tm_X11_cover ti_X11_cover id_X11_cover) (all_c (m_chk_ok tm_X11_covering ti_X11_covering id_X11_covering) (all_c (m_chk_ok tm_X11_days ti_X11_days id_X11_days) (all_c (m_chk_ok tm_X11_drawn ti_X11_drawn id_X11_drawn) (all_c (m_chk_ok tm_X11_end ti_X11_end id_X11_end) (all_c (m_chk_ok tm_X11_fault ti_X11_fault id_X11_fault) (all_c (m_chk_ok tm_X11_feed ti_X11_feed id_X11_feed) (all_c (m_chk_ok tm_X11_firstBit ti_X11_firstBit id_X11_firstBit) (all_0)))))))))))))))))))))))))
theorem tp_2 : ∀ M ∈ [mt2_X11_fits, mt2_X11_go, mt2_X11_greatestShared, mt2_X11_image, mt2_X11_kept, mt2_X11_keptDays, mt2_X11_learn, mt2_X11_lies, mt2_X11_name, mt2_X11_news, mt2_X11_now, mt2_X11_odds, mt2_X11_person, mt2_X11_phrase, mt2_X11_point, mt2_X11_put, mt2_X11_rest, mt2_X11_rested, mt2_X11_restore, mt2_X11_said, mt2_X11_say, mt2_X11_saying, mt2_X11_sentence, mt2_X11_show, mt2_X11_slip], mZ2 M := all_c (m_chk_ok tm_X11_fits ti_X11_fits id_X11_fits) (all_c (m_chk_ok tm_X11_go ti_X11_go id_X11_go) (all_c (m_chk_ok tm_X11_greatestShared ti_X11_greatestShared id_X11_greatestShared) (all_c (m_chk_ok tm_X11_image ti_X11_image id_X11_image) (all_c (m_chk_ok tm_X11_kept ti_X11_kept id_X11_kept) (all_c (m_chk_ok tm_X11_keptDays ti_X11_keptDays id_X11_keptDays) (all_c (m_chk_ok tm_X11_learn ti_X11_learn id_X11_learn) (all_c (m_chk_ok tm_X11_lies ti_X11_lies id_X11_lies) (all_c (m_chk_ok tm_X11_name ti_X11_name id_X11_name) (all_c (m_chk_ok tm_X11_news ti_X11_news id_X11_news) (all_c (m_chk_ok tm_X11_now ti_X11_now id_X11_now) (all_c (m_chk_ok tm_X11_odds ti_X11_odds id_X11_odds) (all_c (m_chk_ok tm_X11_person ti_X11_person id_X11_person) (all_c (m_chk_ok tm_X11_phrase ti_X11_phrase id_X11_phrase) (all_c (m_chk_ok tm_X11_point ti_X11_point id_X11_point) (all_c (m_chk_ok tm_X11_put ti_X11_put id_X11_put) (all_c (m_chk_ok tm_X11_rest ti_X11_rest id_X11_rest) (all_c (m_chk_ok tm_X11_rested ti_X11_rested id_X11_rested) (all_c (m_chk_ok tm_X11_restore ti_X11_restore id_X11_restore) (all_c (m_chk_ok tm_X11_said ti_X11_said id_X11_said) (all_c (m_chk_ok tm_X11_say ti_X11_say id_X11_say) (all_c (m_chk_ok tm_X11_saying ti_X11_saying id_X11_saying) (all_c (m_chk_ok tm_X11_sentence ti_X11_sentence id_X11_sentence) (all_c (m_chk_ok tm_X11_show ti_X11_show id_X11_show) (all_c (m_chk_ok tm_X11_slip ti_X11_slip id_X11_slip) (all_0)))))))))))))))))))))))))
theorem tp_3 : ∀ M ∈ [mt2_X11_spellByte, mt2_X11_spellName, mt2_X11_spellRoundabout, mt2_X11_spoken, mt2_X11_surely, mt2_X11_thing, mt2_X11_told, mt2_X11_twin, mt2_X11_undo, mt2_X12_areApart, mt2_X12_ask, mt2_X12_asks, mt2_X12_back, mt2_X12_bad, mt2_X12_behind, mt2_X12_bitOf, mt2_X12_bits, mt2_X12_book, mt2_X12_bookLine, mt2_X12_byteAt, mt2_X12_cant, mt2_X12_canting, mt2_X12_carriedBy, mt2_X12_carriedSet, mt2_X12_city], mZ2 M := all_c (m_chk_ok tm_X11_spellByte ti_X11_spellByte id_X11_spellByte) (all_c (m_chk_ok tm_X11_spellName ti_X11_spellName id_X11_spellName) (all_c (m_chk_ok tm_X11_spellRoundabout ti_X11_spellRoundabout id_X11_spellRoundabout) (all_c (m_chk_ok tm_X11_spoken ti_X11_spoken id_X11_spoken) (all_c (m_chk_ok tm_X11_surely ti_X11_surely id_X11_surely) (all_c (m_chk_ok tm_X11_thing ti_X11_thing id_X11_thing) (all_c (m_chk_ok tm_X11_told ti_X11_told id_X11_told) (all_c (m_chk_ok tm_X11_twin ti_X11_twin id_X11_twin) (all_c (m_chk_ok tm_X11_undo ti_X11_undo id_X11_undo) (all_c (m_chk_ok tm_X12_areApart ti_X12_areApart id_X12_areApart) (all_c (m_chk_ok tm_X12_ask ti_X12_ask id_X12_ask) (all_c (m_chk_ok tm_X12_asks ti_X12_asks id_X12_asks) (all_c (m_chk_ok tm_X12_back ti_X12_back id_X12_back) (all_c (m_chk_ok tm_X12_bad ti_X12_bad id_X12_bad) (all_c (m_chk_ok tm_X12_behind ti_X12_behind id_X12_behind) (all_c (m_chk_ok tm_X12_bitOf ti_X12_bitOf id_X12_bitOf) (all_c (m_chk_ok tm_X12_bits ti_X12_bits id_X12_bits) (all_c (m_chk_ok tm_X12_book ti_X12_book id_X12_book) (all_c (m_chk_ok tm_X12_bookLine ti_X12_bookLine id_X12_bookLine) (all_c (m_chk_ok tm_X12_byteAt ti_X12_byteAt id_X12_byteAt) (all_c (m_chk_ok tm_X12_cant ti_X12_cant id_X12_cant) (all_c (m_chk_ok tm_X12_canting ti_X12_canting id_X12_canting) (all_c (m_chk_ok tm_X12_carriedBy ti_X12_carriedBy id_X12_carriedBy) (all_c (m_chk_ok tm_X12_carriedSet ti_X12_carriedSet id_X12_carriedSet) (all_c (m_chk_ok tm_X12_city ti_X12_city id_X12_city) (all_0)))))))))))))))))))))))))
theorem tp_4 : ∀ M ∈ [mt2_X12_clears, mt2_X12_code, mt2_X12_count, mt2_X12_cover, mt2_X12_covering, mt2_X12_day, mt2_X12_days, mt2_X12_does, mt2_X12_draw, mt2_X12_drawPerson, mt2_X12_drawn, mt2_X12_draws, mt2_X12_end, mt2_X12_fault, mt2_X12_feed, mt2_X12_find, mt2_X12_firstOf, mt2_X12_fits, mt2_X12_fitting, mt2_X12_four, mt2_X12_fresh, mt2_X12_go, mt2_X12_goesOn, mt2_X12_greater, mt2_X12_hasAll], mZ2 M := all_c (m_chk_ok tm_X12_clears ti_X12_clears id_X12_clears) (all_c (m_chk_ok tm_X12_code ti_X12_code id_X12_code) (all_c (m_chk_ok tm_X12_count ti_X12_count id_X12_count) (all_c (m_chk_ok tm_X12_cover ti_X12_cover id_X12_cover) (all_c (m_chk_ok tm_X12_covering ti_X12_covering id_X12_covering) (all_c (m_chk_ok tm_X12_day ti_X12_day id_X12_day) (all_c (m_chk_ok tm_X12_days ti_X12_days id_X12_days) (all_c (m_chk_ok tm_X12_does ti_X12_does id_X12_does) (all_c (m_chk_ok tm_X12_draw ti_X12_draw id_X12_draw) (all_c (m_chk_ok tm_X12_drawPerson ti_X12_drawPerson id_X12_drawPerson) (all_c (m_chk_ok tm_X12_drawn ti_X12_drawn id_X12_drawn) (all_c (m_chk_ok tm_X12_draws ti_X12_draws id_X12_draws) (all_c (m_chk_ok tm_X12_end ti_X12_end id_X12_end) (all_c (m_chk_ok tm_X12_fault ti_X12_fault id_X12_fault) (all_c (m_chk_ok tm_X12_feed ti_X12_feed id_X12_feed) (all_c (m_chk_ok tm_X12_find ti_X12_find id_X12_find) (all_c (m_chk_ok tm_X12_firstOf ti_X12_firstOf id_X12_firstOf) (all_c (m_chk_ok tm_X12_fits ti_X12_fits id_X12_fits) (all_c (m_chk_ok tm_X12_fitting ti_X12_fitting id_X12_fitting) (all_c (m_chk_ok tm_X12_four ti_X12_four id_X12_four) (all_c (m_chk_ok tm_X12_fresh ti_X12_fresh id_X12_fresh) (all_c (m_chk_ok tm_X12_go ti_X12_go id_X12_go) (all_c (m_chk_ok tm_X12_goesOn ti_X12_goesOn id_X12_goesOn) (all_c (m_chk_ok tm_X12_greater ti_X12_greater id_X12_greater) (all_c (m_chk_ok tm_X12_hasAll ti_X12_hasAll id_X12_hasAll) (all_0)))))))))))))))))))))))))
theorem tp_5 : ∀ M ∈ [mt2_X12_image, mt2_X12_isCarried, mt2_X12_isCover, mt2_X12_isDigit, mt2_X12_isFast, mt2_X12_isFined, mt2_X12_isFit, mt2_X12_isIn, mt2_X12_isLeaf, mt2_X12_isName, mt2_X12_isNear, mt2_X12_isPerson, mt2_X12_isPlace, mt2_X12_isSaid, mt2_X12_isSaying, mt2_X12_isSign, mt2_X12_isSmall, mt2_X12_isSpoken, mt2_X12_isThing, mt2_X12_isWord, mt2_X12_joins, mt2_X12_keep, mt2_X12_lays, mt2_X12_leafOf, mt2_X12_learn], mZ2 M := all_c (m_chk_ok tm_X12_image ti_X12_image id_X12_image) (all_c (m_chk_ok tm_X12_isCarried ti_X12_isCarried id_X12_isCarried) (all_c (m_chk_ok tm_X12_isCover ti_X12_isCover id_X12_isCover) (all_c (m_chk_ok tm_X12_isDigit ti_X12_isDigit id_X12_isDigit) (all_c (m_chk_ok tm_X12_isFast ti_X12_isFast id_X12_isFast) (all_c (m_chk_ok tm_X12_isFined ti_X12_isFined id_X12_isFined) (all_c (m_chk_ok tm_X12_isFit ti_X12_isFit id_X12_isFit) (all_c (m_chk_ok tm_X12_isIn ti_X12_isIn id_X12_isIn) (all_c (m_chk_ok tm_X12_isLeaf ti_X12_isLeaf id_X12_isLeaf) (all_c (m_chk_ok tm_X12_isName ti_X12_isName id_X12_isName) (all_c (m_chk_ok tm_X12_isNear ti_X12_isNear id_X12_isNear) (all_c (m_chk_ok tm_X12_isPerson ti_X12_isPerson id_X12_isPerson) (all_c (m_chk_ok tm_X12_isPlace ti_X12_isPlace id_X12_isPlace) (all_c (m_chk_ok tm_X12_isSaid ti_X12_isSaid id_X12_isSaid) (all_c (m_chk_ok tm_X12_isSaying ti_X12_isSaying id_X12_isSaying) (all_c (m_chk_ok tm_X12_isSign ti_X12_isSign id_X12_isSign) (all_c (m_chk_ok tm_X12_isSmall ti_X12_isSmall id_X12_isSmall) (all_c (m_chk_ok tm_X12_isSpoken ti_X12_isSpoken id_X12_isSpoken) (all_c (m_chk_ok tm_X12_isThing ti_X12_isThing id_X12_isThing) (all_c (m_chk_ok tm_X12_isWord ti_X12_isWord id_X12_isWord) (all_c (m_chk_ok tm_X12_joins ti_X12_joins id_X12_joins) (all_c (m_chk_ok tm_X12_keep ti_X12_keep id_X12_keep) (all_c (m_chk_ok tm_X12_lays ti_X12_lays id_X12_lays) (all_c (m_chk_ok tm_X12_leafOf ti_X12_leafOf id_X12_leafOf) (all_c (m_chk_ok tm_X12_learn ti_X12_learn id_X12_learn) (all_0)))))))))))))))))))))))))
theorem tp_6 : ∀ M ∈ [mt2_X12_learnsOne, mt2_X12_lesser, mt2_X12_lies, mt2_X12_line, mt2_X12_looksAt, mt2_X12_lyingAt, mt2_X12_meansAnew, mt2_X12_meantBy, mt2_X12_name, mt2_X12_namesOne, mt2_X12_news, mt2_X12_next, mt2_X12_nots, mt2_X12_now, mt2_X12_octet, mt2_X12_odds, mt2_X12_once, mt2_X12_operand, mt2_X12_peek, mt2_X12_person, mt2_X12_phrase, mt2_X12_placeOf, mt2_X12_point, mt2_X12_pointsAt, mt2_X12_put], mZ2 M := all_c (m_chk_ok tm_X12_learnsOne ti_X12_learnsOne id_X12_learnsOne) (all_c (m_chk_ok tm_X12_lesser ti_X12_lesser id_X12_lesser) (all_c (m_chk_ok tm_X12_lies ti_X12_lies id_X12_lies) (all_c (m_chk_ok tm_X12_line ti_X12_line id_X12_line) (all_c (m_chk_ok tm_X12_looksAt ti_X12_looksAt id_X12_looksAt) (all_c (m_chk_ok tm_X12_lyingAt ti_X12_lyingAt id_X12_lyingAt) (all_c (m_chk_ok tm_X12_meansAnew ti_X12_meansAnew id_X12_meansAnew) (all_c (m_chk_ok tm_X12_meantBy ti_X12_meantBy id_X12_meantBy) (all_c (m_chk_ok tm_X12_name ti_X12_name id_X12_name) (all_c (m_chk_ok tm_X12_namesOne ti_X12_namesOne id_X12_namesOne) (all_c (m_chk_ok tm_X12_news ti_X12_news id_X12_news) (all_c (m_chk_ok tm_X12_next ti_X12_next id_X12_next) (all_c (m_chk_ok tm_X12_nots ti_X12_nots id_X12_nots) (all_c (m_chk_ok tm_X12_now ti_X12_now id_X12_now) (all_c (m_chk_ok tm_X12_octet ti_X12_octet id_X12_octet) (all_c (m_chk_ok tm_X12_odds ti_X12_odds id_X12_odds) (all_c (m_chk_ok tm_X12_once ti_X12_once id_X12_once) (all_c (m_chk_ok tm_X12_operand ti_X12_operand id_X12_operand) (all_c (m_chk_ok tm_X12_peek ti_X12_peek id_X12_peek) (all_c (m_chk_ok tm_X12_person ti_X12_person id_X12_person) (all_c (m_chk_ok tm_X12_phrase ti_X12_phrase id_X12_phrase) (all_c (m_chk_ok tm_X12_placeOf ti_X12_placeOf id_X12_placeOf) (all_c (m_chk_ok tm_X12_point ti_X12_point id_X12_point) (all_c (m_chk_ok tm_X12_pointsAt ti_X12_pointsAt id_X12_pointsAt) (all_c (m_chk_ok tm_X12_put ti_X12_put id_X12_put) (all_0)))))))))))))))))))))))))
theorem tp_7 : ∀ M ∈ [mt2_X12_puts, mt2_X12_putsDown, mt2_X12_readNew, mt2_X12_readPerson, mt2_X12_readThing, mt2_X12_readTie, mt2_X12_rest, mt2_X12_rested, mt2_X12_restore, mt2_X12_said, mt2_X12_say, mt2_X12_saying, mt2_X12_says, mt2_X12_saysAnew, mt2_X12_sentence, mt2_X12_show, mt2_X12_sign, mt2_X12_slip, mt2_X12_spells, mt2_X12_spoken, mt2_X12_surely, mt2_X12_taken, mt2_X12_takes, mt2_X12_takesMarks, mt2_X12_takesName], mZ2 M := all_c (m_chk_ok tm_X12_puts ti_X12_puts id_X12_puts) (all_c (m_chk_ok tm_X12_putsDown ti_X12_putsDown id_X12_putsDown) (all_c (m_chk_ok tm_X12_readNew ti_X12_readNew id_X12_readNew) (all_c (m_chk_ok tm_X12_readPerson ti_X12_readPerson id_X12_readPerson) (all_c (m_chk_ok tm_X12_readThing ti_X12_readThing id_X12_readThing) (all_c (m_chk_ok tm_X12_readTie ti_X12_readTie id_X12_readTie) (all_c (m_chk_ok tm_X12_rest ti_X12_rest id_X12_rest) (all_c (m_chk_ok tm_X12_rested ti_X12_rested id_X12_rested) (all_c (m_chk_ok tm_X12_restore ti_X12_restore id_X12_restore) (all_c (m_chk_ok tm_X12_said ti_X12_said id_X12_said) (all_c (m_chk_ok tm_X12_say ti_X12_say id_X12_say) (all_c (m_chk_ok tm_X12_saying ti_X12_saying id_X12_saying) (all_c (m_chk_ok tm_X12_says ti_X12_says id_X12_says) (all_c (m_chk_ok tm_X12_saysAnew ti_X12_saysAnew id_X12_saysAnew) (all_c (m_chk_ok tm_X12_sentence ti_X12_sentence id_X12_sentence) (all_c (m_chk_ok tm_X12_show ti_X12_show id_X12_show) (all_c (m_chk_ok tm_X12_sign ti_X12_sign id_X12_sign) (all_c (m_chk_ok tm_X12_slip ti_X12_slip id_X12_slip) (all_c (m_chk_ok tm_X12_spells ti_X12_spells id_X12_spells) (all_c (m_chk_ok tm_X12_spoken ti_X12_spoken id_X12_spoken) (all_c (m_chk_ok tm_X12_surely ti_X12_surely id_X12_surely) (all_c (m_chk_ok tm_X12_taken ti_X12_taken id_X12_taken) (all_c (m_chk_ok tm_X12_takes ti_X12_takes id_X12_takes) (all_c (m_chk_ok tm_X12_takesMarks ti_X12_takesMarks id_X12_takesMarks) (all_c (m_chk_ok tm_X12_takesName ti_X12_takesName id_X12_takesName) (all_0)))))))))))))))))))))))))
theorem tp_8 : ∀ M ∈ [mt2_X12_thing, mt2_X12_throwsIf, mt2_X12_told, mt2_X12_tries, mt2_X12_twin, mt2_X12_twinsOf, mt2_X12_undo, mt2_X12_whyAsk, mt2_X12_whyLearn, mt2_X12_whyName, mt2_X12_whyPoint, mt2_X1_find, mt2_X1_has, mt2_X1_hasMarks, mt2_X1_isForeign, mt2_X1_nameOf, mt2_X1_read, mt2_X1_readLine, mt2_X1_readNew, mt2_X1_readPair, mt2_X1_readPerson, mt2_X1_readSetting, mt2_X1_toldHere, mt2_X2_countFitting, mt2_X2_hear], mZ2 M := all_c (m_chk_ok tm_X12_thing ti_X12_thing id_X12_thing) (all_c (m_chk_ok tm_X12_throwsIf ti_X12_throwsIf id_X12_throwsIf) (all_c (m_chk_ok tm_X12_told ti_X12_told id_X12_told) (all_c (m_chk_ok tm_X12_tries ti_X12_tries id_X12_tries) (all_c (m_chk_ok tm_X12_twin ti_X12_twin id_X12_twin) (all_c (m_chk_ok tm_X12_twinsOf ti_X12_twinsOf id_X12_twinsOf) (all_c (m_chk_ok tm_X12_undo ti_X12_undo id_X12_undo) (all_c (m_chk_ok tm_X12_whyAsk ti_X12_whyAsk id_X12_whyAsk) (all_c (m_chk_ok tm_X12_whyLearn ti_X12_whyLearn id_X12_whyLearn) (all_c (m_chk_ok tm_X12_whyName ti_X12_whyName id_X12_whyName) (all_c (m_chk_ok tm_X12_whyPoint ti_X12_whyPoint id_X12_whyPoint) (all_c (m_chk_ok tm_X1_find ti_X1_find id_X1_find) (all_c (m_chk_ok tm_X1_has ti_X1_has id_X1_has) (all_c (m_chk_ok tm_X1_hasMarks ti_X1_hasMarks id_X1_hasMarks) (all_c (m_chk_ok tm_X1_isForeign ti_X1_isForeign id_X1_isForeign) (all_c (m_chk_ok tm_X1_nameOf ti_X1_nameOf id_X1_nameOf) (all_c (m_chk_ok tm_X1_read ti_X1_read id_X1_read) (all_c (m_chk_ok tm_X1_readLine ti_X1_readLine id_X1_readLine) (all_c (m_chk_ok tm_X1_readNew ti_X1_readNew id_X1_readNew) (all_c (m_chk_ok tm_X1_readPair ti_X1_readPair id_X1_readPair) (all_c (m_chk_ok tm_X1_readPerson ti_X1_readPerson id_X1_readPerson) (all_c (m_chk_ok tm_X1_readSetting ti_X1_readSetting id_X1_readSetting) (all_c (m_chk_ok tm_X1_toldHere ti_X1_toldHere id_X1_toldHere) (all_c (m_chk_ok tm_X2_countFitting ti_X2_countFitting id_X2_countFitting) (all_c (m_chk_ok tm_X2_hear ti_X2_hear id_X2_hear) (all_0)))))))))))))))))))))))))
theorem tp_9 : ∀ M ∈ [mt2_X2_isJustSo, mt2_X2_isTold, mt2_X2_mostTelling, mt2_X3_draw, mt2_X3_dropFirst, mt2_X3_live, mt2_X3_takeTurn, mt2_X4_clear, mt2_X4_keep, mt2_X4_prepare, mt2_X4_slot, mt2_X4_takeBack, mt2_X5_hasTwins, mt2_X5_hearersOf, mt2_X5_hoursOfNews, mt2_X5_isShorter, mt2_X5_leastCant, mt2_X5_leastCover, mt2_X5_leastSaying, mt2_X5_slips, mt2_X5_toldBy, mt2_X5_twinOf, mt2_X6_firstSaid, mt2_X6_giveMarks, mt2_X6_havingMark], mZ2 M := all_c (m_chk_ok tm_X2_isJustSo ti_X2_isJustSo id_X2_isJustSo) (all_c (m_chk_ok tm_X2_isTold ti_X2_isTold id_X2_isTold) (all_c (m_chk_ok tm_X2_mostTelling ti_X2_mostTelling id_X2_mostTelling) (all_c (m_chk_ok tm_X3_draw ti_X3_draw id_X3_draw) (all_c (m_chk_ok tm_X3_dropFirst ti_X3_dropFirst id_X3_dropFirst) (all_c (m_chk_ok tm_X3_live ti_X3_live id_X3_live) (all_c (m_chk_ok tm_X3_takeTurn ti_X3_takeTurn id_X3_takeTurn) (all_c (m_chk_ok tm_X4_clear ti_X4_clear id_X4_clear) (all_c (m_chk_ok tm_X4_keep ti_X4_keep id_X4_keep) (all_c (m_chk_ok tm_X4_prepare ti_X4_prepare id_X4_prepare) (all_c (m_chk_ok tm_X4_slot ti_X4_slot id_X4_slot) (all_c (m_chk_ok tm_X4_takeBack ti_X4_takeBack id_X4_takeBack) (all_c (m_chk_ok tm_X5_hasTwins ti_X5_hasTwins id_X5_hasTwins) (all_c (m_chk_ok tm_X5_hearersOf ti_X5_hearersOf id_X5_hearersOf) (all_c (m_chk_ok tm_X5_hoursOfNews ti_X5_hoursOfNews id_X5_hoursOfNews) (all_c (m_chk_ok tm_X5_isShorter ti_X5_isShorter id_X5_isShorter) (all_c (m_chk_ok tm_X5_leastCant ti_X5_leastCant id_X5_leastCant) (all_c (m_chk_ok tm_X5_leastCover ti_X5_leastCover id_X5_leastCover) (all_c (m_chk_ok tm_X5_leastSaying ti_X5_leastSaying id_X5_leastSaying) (all_c (m_chk_ok tm_X5_slips ti_X5_slips id_X5_slips) (all_c (m_chk_ok tm_X5_toldBy ti_X5_toldBy id_X5_toldBy) (all_c (m_chk_ok tm_X5_twinOf ti_X5_twinOf id_X5_twinOf) (all_c (m_chk_ok tm_X6_firstSaid ti_X6_firstSaid id_X6_firstSaid) (all_c (m_chk_ok tm_X6_giveMarks ti_X6_giveMarks id_X6_giveMarks) (all_c (m_chk_ok tm_X6_havingMark ti_X6_havingMark id_X6_havingMark) (all_0)))))))))))))))))))))))))
theorem tp_10 : ∀ M ∈ [mt2_X6_leastOwning, mt2_X6_sayThings, mt2_X6_settle, mt2_X7_allCarried, mt2_X7_allCoins, mt2_X7_areTogether, mt2_X7_begin, mt2_X7_callByName, mt2_X7_carriedBy, mt2_X7_copyFrom, mt2_X7_daysLeft, mt2_X7_drop, mt2_X7_fitting, mt2_X7_has, mt2_X7_isFast, mt2_X7_isFitting, mt2_X7_isLying, mt2_X7_liesBefore, mt2_X7_lyingAt, mt2_X7_passDay, mt2_X7_passDays, mt2_X7_placeOf, mt2_X7_pointAt, mt2_X7_request, mt2_X7_study], mZ2 M := all_c (m_chk_ok tm_X6_leastOwning ti_X6_leastOwning id_X6_leastOwning) (all_c (m_chk_ok tm_X6_sayThings ti_X6_sayThings id_X6_sayThings) (all_c (m_chk_ok tm_X6_settle ti_X6_settle id_X6_settle) (all_c (m_chk_ok tm_X7_allCarried ti_X7_allCarried id_X7_allCarried) (all_c (m_chk_ok tm_X7_allCoins ti_X7_allCoins id_X7_allCoins) (all_c (m_chk_ok tm_X7_areTogether ti_X7_areTogether id_X7_areTogether) (all_c (m_chk_ok tm_X7_begin ti_X7_begin id_X7_begin) (all_c (m_chk_ok tm_X7_callByName ti_X7_callByName id_X7_callByName) (all_c (m_chk_ok tm_X7_carriedBy ti_X7_carriedBy id_X7_carriedBy) (all_c (m_chk_ok tm_X7_copyFrom ti_X7_copyFrom id_X7_copyFrom) (all_c (m_chk_ok tm_X7_daysLeft ti_X7_daysLeft id_X7_daysLeft) (all_c (m_chk_ok tm_X7_drop ti_X7_drop id_X7_drop) (all_c (m_chk_ok tm_X7_fitting ti_X7_fitting id_X7_fitting) (all_c (m_chk_ok tm_X7_has ti_X7_has id_X7_has) (all_c (m_chk_ok tm_X7_isFast ti_X7_isFast id_X7_isFast) (all_c (m_chk_ok tm_X7_isFitting ti_X7_isFitting id_X7_isFitting) (all_c (m_chk_ok tm_X7_isLying ti_X7_isLying id_X7_isLying) (all_c (m_chk_ok tm_X7_liesBefore ti_X7_liesBefore id_X7_liesBefore) (all_c (m_chk_ok tm_X7_lyingAt ti_X7_lyingAt id_X7_lyingAt) (all_c (m_chk_ok tm_X7_passDay ti_X7_passDay id_X7_passDay) (all_c (m_chk_ok tm_X7_passDays ti_X7_passDays id_X7_passDays) (all_c (m_chk_ok tm_X7_placeOf ti_X7_placeOf id_X7_placeOf) (all_c (m_chk_ok tm_X7_pointAt ti_X7_pointAt id_X7_pointAt) (all_c (m_chk_ok tm_X7_request ti_X7_request id_X7_request) (all_c (m_chk_ok tm_X7_study ti_X7_study id_X7_study) (all_0)))))))))))))))))))))))))
theorem tp_11 : ∀ M ∈ [mt2_X7_walk, mt2_X8_add, mt2_X8_holds, mt2_X8_isSo, mt2_X8_readAll, mt2_X8_readCondition, mt2_X8_readOne, mt2_X8_readPlain, mt2_X8_sortBehind, mt2_X8_thingsIn, mt2_X8_thingsOfPart, mt2_X9_append, mt2_X9_at], mZ2 M := all_c (m_chk_ok tm_X7_walk ti_X7_walk id_X7_walk) (all_c (m_chk_ok tm_X8_add ti_X8_add id_X8_add) (all_c (m_chk_ok tm_X8_holds ti_X8_holds id_X8_holds) (all_c (m_chk_ok tm_X8_isSo ti_X8_isSo id_X8_isSo) (all_c (m_chk_ok tm_X8_readAll ti_X8_readAll id_X8_readAll) (all_c (m_chk_ok tm_X8_readCondition ti_X8_readCondition id_X8_readCondition) (all_c (m_chk_ok tm_X8_readOne ti_X8_readOne id_X8_readOne) (all_c (m_chk_ok tm_X8_readPlain ti_X8_readPlain id_X8_readPlain) (all_c (m_chk_ok tm_X8_sortBehind ti_X8_sortBehind id_X8_sortBehind) (all_c (m_chk_ok tm_X8_thingsIn ti_X8_thingsIn id_X8_thingsIn) (all_c (m_chk_ok tm_X8_thingsOfPart ti_X8_thingsOfPart id_X8_thingsOfPart) (all_c (m_chk_ok tm_X9_append ti_X9_append id_X9_append) (all_c (m_chk_ok tm_X9_at ti_X9_at id_X9_at) (all_0)))))))))))))
theorem prg_ok : ∀ M ∈ PR2, mZ2 M := by
  intro M h
  have h : M ∈ ([mt2_J3_checkIndex_8e157, mt2_J6_bitCount_0f7a4, mt2_J6_lowestOneBit_0f7a4, mt2_J6_numberOfTrailingZeros_0f7a4, mt2_J9_floorMod_7cf53, mt2_J9_max_7cf53, mt2_J9_min_7cf53, mt2_X0_because, mt2_X0_judge, mt2_X0_liveDays, mt2_X0_liveLine, mt2_X0_read, mt2_X0_readAct, mt2_X0_readLine, mt2_X0_readSaying, mt2_X0_sortBehind, mt2_X0_tell, mt2_X10_behindBlanks, mt2_X10_fail, mt2_X10_isDigit, mt2_X10_isLetter, mt2_X10_isSpelled, mt2_X10_isWord, mt2_X10_open, mt2_X10_plainWord] ++ [mt2_X10_readRun, mt2_X10_readToken, mt2_X10_step, mt2_X10_takeEnd, mt2_X10_takeNumber, mt2_X10_takeSign, mt2_X10_wordIn, mt2_X10_wordNumber, mt2_X11_ask, mt2_X11_bitAt, mt2_X11_book, mt2_X11_byteAt, mt2_X11_cant, mt2_X11_canting, mt2_X11_city, mt2_X11_closeText, mt2_X11_count, mt2_X11_cover, mt2_X11_covering, mt2_X11_days, mt2_X11_drawn, mt2_X11_end, mt2_X11_fault, mt2_X11_feed, mt2_X11_firstBit] ++ [mt2_X11_fits, mt2_X11_go, mt2_X11_greatestShared, mt2_X11_image, mt2_X11_kept, mt2_X11_keptDays, mt2_X11_learn, mt2_X11_lies, mt2_X11_name, mt2_X11_news, mt2_X11_now, mt2_X11_odds, mt2_X11_person, mt2_X11_phrase, mt2_X11_point, mt2_X11_put, mt2_X11_rest, mt2_X11_rested, mt2_X11_restore, mt2_X11_said, mt2_X11_say, mt2_X11_saying, mt2_X11_sentence, mt2_X11_show, mt2_X11_slip] ++ [mt2_X11_spellByte, mt2_X11_spellName, mt2_X11_spellRoundabout, mt2_X11_spoken, mt2_X11_surely, mt2_X11_thing, mt2_X11_told, mt2_X11_twin, mt2_X11_undo, mt2_X12_areApart, mt2_X12_ask, mt2_X12_asks, mt2_X12_back, mt2_X12_bad, mt2_X12_behind, mt2_X12_bitOf, mt2_X12_bits, mt2_X12_book, mt2_X12_bookLine, mt2_X12_byteAt, mt2_X12_cant, mt2_X12_canting, mt2_X12_carriedBy, mt2_X12_carriedSet, mt2_X12_city] ++ [mt2_X12_clears, mt2_X12_code, mt2_X12_count, mt2_X12_cover, mt2_X12_covering, mt2_X12_day, mt2_X12_days, mt2_X12_does, mt2_X12_draw, mt2_X12_drawPerson, mt2_X12_drawn, mt2_X12_draws, mt2_X12_end, mt2_X12_fault, mt2_X12_feed, mt2_X12_find, mt2_X12_firstOf, mt2_X12_fits, mt2_X12_fitting, mt2_X12_four, mt2_X12_fresh, mt2_X12_go, mt2_X12_goesOn, mt2_X12_greater, mt2_X12_hasAll] ++ [mt2_X12_image, mt2_X12_isCarried, mt2_X12_isCover, mt2_X12_isDigit, mt2_X12_isFast, mt2_X12_isFined, mt2_X12_isFit, mt2_X12_isIn, mt2_X12_isLeaf, mt2_X12_isName, mt2_X12_isNear, mt2_X12_isPerson, mt2_X12_isPlace, mt2_X12_isSaid, mt2_X12_isSaying, mt2_X12_isSign, mt2_X12_isSmall, mt2_X12_isSpoken, mt2_X12_isThing, mt2_X12_isWord, mt2_X12_joins, mt2_X12_keep, mt2_X12_lays, mt2_X12_leafOf, mt2_X12_learn] ++ [mt2_X12_learnsOne, mt2_X12_lesser, mt2_X12_lies, mt2_X12_line, mt2_X12_looksAt, mt2_X12_lyingAt, mt2_X12_meansAnew, mt2_X12_meantBy, mt2_X12_name, mt2_X12_namesOne, mt2_X12_news, mt2_X12_next, mt2_X12_nots, mt2_X12_now, mt2_X12_octet, mt2_X12_odds, mt2_X12_once, mt2_X12_operand, mt2_X12_peek, mt2_X12_person, mt2_X12_phrase, mt2_X12_placeOf, mt2_X12_point, mt2_X12_pointsAt, mt2_X12_put] ++ [mt2_X12_puts, mt2_X12_putsDown, mt2_X12_readNew, mt2_X12_readPerson, mt2_X12_readThing, mt2_X12_readTie, mt2_X12_rest, mt2_X12_rested, mt2_X12_restore, mt2_X12_said, mt2_X12_say, mt2_X12_saying, mt2_X12_says, mt2_X12_saysAnew, mt2_X12_sentence, mt2_X12_show, mt2_X12_sign, mt2_X12_slip, mt2_X12_spells, mt2_X12_spoken, mt2_X12_surely, mt2_X12_taken, mt2_X12_takes, mt2_X12_takesMarks, mt2_X12_takesName] ++ [mt2_X12_thing, mt2_X12_throwsIf, mt2_X12_told, mt2_X12_tries, mt2_X12_twin, mt2_X12_twinsOf, mt2_X12_undo, mt2_X12_whyAsk, mt2_X12_whyLearn, mt2_X12_whyName, mt2_X12_whyPoint, mt2_X1_find, mt2_X1_has, mt2_X1_hasMarks, mt2_X1_isForeign, mt2_X1_nameOf, mt2_X1_read, mt2_X1_readLine, mt2_X1_readNew, mt2_X1_readPair, mt2_X1_readPerson, mt2_X1_readSetting, mt2_X1_toldHere, mt2_X2_countFitting, mt2_X2_hear] ++ [mt2_X2_isJustSo, mt2_X2_isTold, mt2_X2_mostTelling, mt2_X3_draw, mt2_X3_dropFirst, mt2_X3_live, mt2_X3_takeTurn, mt2_X4_clear, mt2_X4_keep, mt2_X4_prepare, mt2_X4_slot, mt2_X4_takeBack, mt2_X5_hasTwins, mt2_X5_hearersOf, mt2_X5_hoursOfNews, mt2_X5_isShorter, mt2_X5_leastCant, mt2_X5_leastCover, mt2_X5_leastSaying, mt2_X5_slips, mt2_X5_toldBy, mt2_X5_twinOf, mt2_X6_firstSaid, mt2_X6_giveMarks, mt2_X6_havingMark] ++ [mt2_X6_leastOwning, mt2_X6_sayThings, mt2_X6_settle, mt2_X7_allCarried, mt2_X7_allCoins, mt2_X7_areTogether, mt2_X7_begin, mt2_X7_callByName, mt2_X7_carriedBy, mt2_X7_copyFrom, mt2_X7_daysLeft, mt2_X7_drop, mt2_X7_fitting, mt2_X7_has, mt2_X7_isFast, mt2_X7_isFitting, mt2_X7_isLying, mt2_X7_liesBefore, mt2_X7_lyingAt, mt2_X7_passDay, mt2_X7_passDays, mt2_X7_placeOf, mt2_X7_pointAt, mt2_X7_request, mt2_X7_study] ++ [mt2_X7_walk, mt2_X8_add, mt2_X8_holds, mt2_X8_isSo, mt2_X8_readAll, mt2_X8_readCondition, mt2_X8_readOne, mt2_X8_readPlain, mt2_X8_sortBehind, mt2_X8_thingsIn, mt2_X8_thingsOfPart, mt2_X9_append, mt2_X9_at]) := h
  simp only [List.mem_append] at h
  rcases h with (((((((((((h | h) | h) | h) | h) | h) | h) | h) | h) | h) | h) | h)
  · exact tp_0 M h
  · exact tp_1 M h
  · exact tp_2 M h
  · exact tp_3 M h
  · exact tp_4 M h
  · exact tp_5 M h
  · exact tp_6 M h
  · exact tp_7 M h
  · exact tp_8 M h
  · exact tp_9 M h
  · exact tp_10 M h
  · exact tp_11 M h
theorem tr_0 : r_all "NounFast" rt2_0 [([408], ""), ([409], ""), ([214, 215, 120], ""), ([216, 217, 121], ""), ([410], ""), ([269], ""), ([411], ""), ([412], ""), ([413], ""), ([414], ""), ([415], ""), ([416], ""), ([417], ""), ([406, 1103, 140], ""), ([418], ""), ([419], ""), ([420], ""), ([421], ""), ([422], ""), ([423], ""), ([424], ""), ([425], ""), ([157], ""), ([467], ""), ([479], ""), ([575], ""), ([635], ""), ([186], ""), ([188], ""), ([639], ""), ([646], ""), ([658], ""), ([861], ""), ([279], ""), ([233], ""), ([282], ""), ([285], ""), ([287], ""), ([291], ""), ([1284], ""), ([1285], ""), ([666], ""), ([294], ""), ([674], ""), ([678], ""), ([682], ""), ([296], ""), ([298], ""), ([228], ""), ([686], ""), ([693], ""), ([707], ""), ([711], ""), ([723], ""), ([727], ""), ([761], ""), ([778], ""), ([786], ""), ([794], ""), ([805], ""), ([814], ""), ([822], ""), ([830], ""), ([835], ""), ([839], ""), ([852], ""), ([862], ""), ([1297], ""), ([1300], ""), ([870], ""), ([885], ""), ([385], ""), ([387], ""), ([921], ""), ([932], ""), ([370], ""), ([965], ""), ([978], ""), ([986], ""), ([991], ""), ([402], ""), ([1003], ""), ([1038], ""), ([1043], ""), ([1068], ""), ([715], ""), ([1095], ""), ([1128], ""), ([1159], ""), ([1114], ""), ([1167], ""), ([1187], ""), ([982], ""), ([747], "")] = true := by decide +kernel
theorem tr_1 : r_all "NounFast$Book" rt2_1 [([344], ""), ([345], ""), ([346], ""), ([347], ""), ([348], ""), ([349], ""), ([179], ""), ([1047], ""), ([1067], ""), ([1051], ""), ([1052], ""), ([1053], ""), ([1054], ""), ([1055], ""), ([1056], ""), ([1060], ""), ([1061], ""), ([1064], ""), ([1072], ""), ([293], ""), ([1090], ""), ([1076], ""), ([1077], ""), ([1078], ""), ([1081], ""), ([1082], ""), ([1083], ""), ([1084], ""), ([1085], ""), ([1088], ""), ([1089], "")] = true := by decide +kernel
theorem tr_2 : r_all "NounFast$City" rt2_2 [([222], ""), ([229], ""), ([230], ""), ([236], ""), ([238], ""), ([240], ""), ([242], ""), ([244], ""), ([245], ""), ([990], ""), ([181], ""), ([593], ""), ([184], ""), ([598], ""), ([579], ""), ([631], ""), ([583], ""), ([587], ""), ([597], ""), ([619], ""), ([623], ""), ([602], ""), ([606], ""), ([610], ""), ([615], "")] = true := by decide +kernel
theorem tr_3 : r_all "NounFast$Clue" rt2_3 [([383], ""), ([384], ""), ([386], ""), ([889], ""), ([290], ""), ([892], ""), ([272], ""), ([223], ""), ([894], ""), ([898], ""), ([902], ""), ([159], ""), ([893], ""), ([897], ""), ([906], "")] = true := by decide +kernel
theorem tr_4 : r_all "NounFast$Dice" rt2_4 [([401], ""), ([1019], ""), ([1007], ""), ([274], ""), ([224], ""), ([1011], ""), ([1033], ""), ([1015], ""), ([1020], ""), ([1021], ""), ([1022], ""), ([1023], ""), ([1032], ""), ([1026], ""), ([1030], "NounFast"), ([1031], "")] = true := by decide +kernel
theorem tr_5 : r_all "NounFast$History" rt2_5 [([326, 215, 120], ""), ([328], ""), ([329], ""), ([330], ""), ([701], ""), ([697], ""), ([275], ""), ([703], "")] = true := by decide +kernel
theorem tr_6 : r_all "NounFast$Minds" rt2_6 [([289], ""), ([271], ""), ([231], ""), ([842], ""), ([846], ""), ([847], ""), ([851], ""), ([850], ""), ([865], "NounFast"), ([226], ""), ([873], ""), ([876], ""), ([968], ""), ([971], "")] = true := by decide +kernel
theorem tr_7 : r_all "NounFast$Rest" rt2_7 [([369], ""), ([371], ""), ([936], ""), ([937], ""), ([940], "NounFast"), ([941], ""), ([949], ""), ([273], ""), ([232], ""), ([945], ""), ([953], "")] = true := by decide +kernel
theorem tr_8 : r_all "NounFast$Scene" rt2_8 [([277], ""), ([278], ""), ([281], ""), ([284], ""), ([286], ""), ([288], ""), ([292], ""), ([295], ""), ([297], ""), ([270], ""), ([237], ""), ([643], ""), ([239], ""), ([241], ""), ([243], ""), ([662], ""), ([225], ""), ([235], ""), ([740], ""), ([731], ""), ([735], ""), ([736], ""), ([744], "NounFast"), ([751], ""), ([765], ""), ([769], ""), ([770], ""), ([798], ""), ([809], ""), ([813], "")] = true := by decide +kernel
theorem tr_9 : r_all "NounFast$Sentence" rt2_9 [([1108], ""), ([1109], ""), ([1110], ""), ([1111], ""), ([1112], ""), ([1113], ""), ([1132], ""), ([1158], ""), ([1142], ""), ([1145], ""), ([1136], ""), ([1140], ""), ([180], ""), ([1141], ""), ([1143], ""), ([1144], ""), ([1149], ""), ([1153], ""), ([1156], ""), ([1157], ""), ([276], ""), ([227], ""), ([1171], ""), ([1175], ""), ([1179], ""), ([1180], ""), ([1181], ""), ([1182], ""), ([234], ""), ([280], ""), ([1183], ""), ([1184], ""), ([283], "")] = true := by decide +kernel
theorem tr_10 : r_all "NounFast$Tape" rt2_10 [([155], ""), ([156], "")] = true := by decide +kernel
theorem tr_11 : r_all "NounFast$Text" rt2_11 [([173], ""), ([174], ""), ([175], ""), ([176], ""), ([177], ""), ([178], ""), ([182], ""), ([183], ""), ([185], ""), ([187], ""), ([172], ""), ([483], ""), ([158], ""), ([491], ""), ([494], ""), ([571], ""), ([487], ""), ([498], ""), ([501], ""), ([504], ""), ([508], ""), ([513], ""), ([527], ""), ([614], "")] = true := by decide +kernel
theorem tr_12 : r_all "NounFastLaw" rt2_12 [] = true := by decide +kernel
theorem tr_13 : r_all "NounFastModel" rt2_13 [([1354], ""), ([1356], ""), ([1307], ""), ([1355], ""), ([1357], ""), ([1358], ""), ([1359], ""), ([1581], ""), ([1360], ""), ([1361], ""), ([1362], ""), ([1363], ""), ([1364], ""), ([1375], ""), ([1376], ""), ([1387], ""), ([1388], ""), ([1389], ""), ([1391], ""), ([1395], ""), ([1397], ""), ([1403], ""), ([1404], ""), ([1405], ""), ([1406], ""), ([1321], ""), ([1322], ""), ([1323], ""), ([1324], ""), ([1325], ""), ([1326], ""), ([1327], ""), ([1328], ""), ([1329], ""), ([1330], ""), ([1331], ""), ([1332], ""), ([1333], ""), ([1334], ""), ([1335], ""), ([1336], ""), ([1337], ""), ([1338], ""), ([1339], ""), ([1340], ""), ([1341], ""), ([1342], ""), ([1343], ""), ([1344], ""), ([1345], ""), ([1346], ""), ([1347], ""), ([1348], ""), ([1349], ""), ([1350], ""), ([1527], ""), ([1366], ""), ([1367], ""), ([1365], ""), ([1531], ""), ([1534], ""), ([1368], ""), ([1371], ""), ([1369], ""), ([1370], ""), ([1607], ""), ([1549], ""), ([1523], ""), ([1596], ""), ([1372], ""), ([1592], ""), ([1557], ""), ([1561], ""), ([1573], ""), ([1374], ""), ([1588], ""), ([1541], ""), ([1545], ""), ([1565], ""), ([1577], ""), ([1584], ""), ([1599], ""), ([1553], ""), ([1569], ""), ([1519], ""), ([1373], ""), ([1537], ""), ([1603], ""), ([1377], ""), ([1631], ""), ([1655], ""), ([1699], ""), ([1619], ""), ([1623], ""), ([1627], ""), ([1639], ""), ([1643], ""), ([1651], ""), ([1663], ""), ([1667], ""), ([1691], ""), ([1695], ""), ([1707], ""), ([1710], ""), ([1721], ""), ([1725], ""), ([1777], ""), ([1773], ""), ([1675], ""), ([1683], ""), ([1687], ""), ([1703], ""), ([1717], ""), ([1729], ""), ([1737], ""), ([1741], ""), ([1749], ""), ([1757], ""), ([1761], ""), ([1769], ""), ([1381], ""), ([1378], ""), ([1800], ""), ([1812], ""), ([1382], ""), ([1379], ""), ([1824], ""), ([1832], ""), ([1828], ""), ([1386], ""), ([1384], ""), ([1836], ""), ([1837], ""), ([1385], ""), ([1383], ""), ([1380], ""), ([1868], ""), ([1860], ""), ([1864], ""), ([1390], ""), ([1392], ""), ([1888], ""), ([1889], ""), ([1884], ""), ([1893], ""), ([1894], ""), ([1898], ""), ([1393], ""), ([1919], ""), ([1915], ""), ([1911], ""), ([1907], ""), ([1924], ""), ([1928], ""), ([1394], ""), ([1940], ""), ([1936], ""), ([1944], ""), ([1396], ""), ([1398], ""), ([1400], ""), ([1960], ""), ([1401], ""), ([1976], ""), ([1399], ""), ([1402], ""), ([1956], ""), ([1964], ""), ([1968], ""), ([1972], ""), ([1988], ""), ([1984], "")] = true := by decide +kernel
theorem tr_14 : r_all "java/io/Serializable" rt2_14 [] = true := by decide +kernel
theorem tr_15 : r_all "java/lang/CharSequence" rt2_15 [] = true := by decide +kernel
theorem tr_16 : r_all "java/lang/Comparable" rt2_16 [] = true := by decide +kernel
theorem tr_17 : r_all "java/lang/Integer" rt2_17 [([750], ""), ([754], ""), ([755], ""), ([756], "")] = true := by decide +kernel
theorem tr_18 : r_all "java/lang/Math" rt2_18 [] = true := by decide +kernel
theorem tr_19 : r_all "java/lang/String" rt2_19 [] = true := by decide +kernel
theorem tr_20 : r_all "java/lang/StringLatin1" rt2_20 [] = true := by decide +kernel
theorem tr_21 : r_all "java/lang/StringUTF16" rt2_21 [] = true := by decide +kernel
theorem tr_22 : r_all "java/lang/System" rt2_22 [] = true := by decide +kernel
theorem tr_23 : r_all "java/lang/constant/Constable" rt2_23 [] = true := by decide +kernel
theorem tr_24 : r_all "java/lang/constant/ConstantDesc" rt2_24 [] = true := by decide +kernel
theorem tr_25 : r_all "jdk/internal/util/Preconditions" rt2_25 [] = true := by decide +kernel
theorem pok2 : POK2 PR2 RB2 OW2 := by
  refine ⟨fun j M h => prg_ok M (List.mem_of_getElem? h), fun o own L h1 h2 => ?_, ?_⟩
  · match o, h1, h2 with
    | 0, h1, h2 => cases h1; cases h2; exact r_all_ok tr_0
    | 1, h1, h2 => cases h1; cases h2; exact r_all_ok tr_1
    | 2, h1, h2 => cases h1; cases h2; exact r_all_ok tr_2
    | 3, h1, h2 => cases h1; cases h2; exact r_all_ok tr_3
    | 4, h1, h2 => cases h1; cases h2; exact r_all_ok tr_4
    | 5, h1, h2 => cases h1; cases h2; exact r_all_ok tr_5
    | 6, h1, h2 => cases h1; cases h2; exact r_all_ok tr_6
    | 7, h1, h2 => cases h1; cases h2; exact r_all_ok tr_7
    | 8, h1, h2 => cases h1; cases h2; exact r_all_ok tr_8
    | 9, h1, h2 => cases h1; cases h2; exact r_all_ok tr_9
    | 10, h1, h2 => cases h1; cases h2; exact r_all_ok tr_10
    | 11, h1, h2 => cases h1; cases h2; exact r_all_ok tr_11
    | 12, h1, h2 => cases h1; cases h2; exact r_all_ok tr_12
    | 13, h1, h2 => cases h1; cases h2; exact r_all_ok tr_13
    | 14, h1, h2 => cases h1; cases h2; exact r_all_ok tr_14
    | 15, h1, h2 => cases h1; cases h2; exact r_all_ok tr_15
    | 16, h1, h2 => cases h1; cases h2; exact r_all_ok tr_16
    | 17, h1, h2 => cases h1; cases h2; exact r_all_ok tr_17
    | 18, h1, h2 => cases h1; cases h2; exact r_all_ok tr_18
    | 19, h1, h2 => cases h1; cases h2; exact r_all_ok tr_19
    | 20, h1, h2 => cases h1; cases h2; exact r_all_ok tr_20
    | 21, h1, h2 => cases h1; cases h2; exact r_all_ok tr_21
    | 22, h1, h2 => cases h1; cases h2; exact r_all_ok tr_22
    | 23, h1, h2 => cases h1; cases h2; exact r_all_ok tr_23
    | 24, h1, h2 => cases h1; cases h2; exact r_all_ok tr_24
    | 25, h1, h2 => cases h1; cases h2; exact r_all_ok tr_25
    | n + 26, h1, h2 => simp [OW2] at h1
  · exact ⟨h_at_ok (pos := 645) (by decide +kernel), h_at_ok (pos := 644) (by decide +kernel), h_at_ok (pos := 133) (by decide +kernel)⟩
