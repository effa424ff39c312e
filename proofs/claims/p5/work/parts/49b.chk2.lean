/-! the program -/
theorem td_of {M : MT} {r : List INR} (h1 : i_raw (mT M) = r) (h2 : d_chkR (mC M) r = true) : ∀ q ∈ mT M, decode (mC M) q.1 = .ok (q.2.2.1, q.2.2.2) := by
  intro q hq
  have h3 := d_chkR_ok h2 (q.1, q.2.2) (by rw [← h1]; exact List.mem_map.mpr ⟨q, hq, rfl⟩)
  exact h3
theorem rok_h {P P' : List MT} {own : String} {i : Nat} {r : RES} (hP : ∀ (j : Nat) (M : MT), P[j]? = some M → ∃ M', P'[j]? = some M' ∧ mY M' = mY M) (h : ROK2 P own i r) : ROK2 P' own i r := by
  obtain ⟨h1, h2⟩ := h
  refine ⟨?_, h2⟩
  obtain ⟨kd, ci, k, v⟩ := r
  rcases kd with _ | _ | _ | _ | _ | _ | _ | _ | _ | _ | kd
  · exact h1
  · exact h1
  · exact h1
  · exact h1
  · obtain ⟨M, e1, e2⟩ := h1
    obtain ⟨M', e3, e4⟩ := hP _ M e1
    exact ⟨M', e3, by rw [e4]; exact e2⟩
  · obtain ⟨M, host, e1, e2⟩ := h1
    obtain ⟨M', e3, e4⟩ := hP _ M e1
    exact ⟨M', host, e3, by rw [e4]; exact e2⟩
  · exact h1
  · exact h1
  · trivial
  · exact h1
  · trivial
abbrev mZ2 (M : MT) : Prop := MOK M ∧ TOK OW2 M ∧ OW2[mO M]? = some (mY M).cls
theorem mz_of {M M0 : MT} {r : List INR} (h : mZ1 M0) (e : (mY M, mC M, mL M, mR M, M.2.2.2.2.1) = (mY M0, mC M0, mL M0, mR M0, M0.2.2.2.2.1)) (h1 : i_raw (mT M) = r) (h2 : d_chkR (mC M) r = true) : mZ2 M := by
  obtain ⟨y, c, l, rr, q, rm, t⟩ := M
  obtain ⟨y0, c0, l0, rr0, q0, rm0, t0⟩ := M0
  simp only [Prod.mk.injEq] at e
  obtain ⟨rfl, rfl, rfl, rfl, rfl⟩ := e
  exact ⟨h.1, ⟨td_of h1 h2, fun hk => by have h3 : q.2.1 ≤ 1 := h.2.1; have h4 : q.2.1 = 2 := hk; omega⟩, h.2.2⟩
theorem all_0 {Z : MT → Prop} : ∀ M ∈ ([] : List MT), Z M := fun _ h => by cases h
theorem all_c {Z : MT → Prop} {M : MT} {r : List MT} (h : Z M) (hr : ∀ M ∈ r, Z M) : ∀ M' ∈ M :: r, Z M' := fun M' h' => (List.mem_cons.mp h').elim (fun e => e ▸ h) (hr M')
theorem ti_J3_checkIndex_8e157 : i_raw tb2_J3_checkIndex_8e157 = ir_J3_checkIndex_8e157 := by decide +kernel
theorem tz_J3_checkIndex_8e157 : mZ2 mt2_J3_checkIndex_8e157 := mz_of (m_chk_ok tm_J3_checkIndex_8e157) rfl ti_J3_checkIndex_8e157 id_J3_checkIndex_8e157
theorem ti_J6_bitCount_0f7a4 : i_raw tb2_J6_bitCount_0f7a4 = ir_J6_bitCount_0f7a4 := by decide +kernel
theorem tz_J6_bitCount_0f7a4 : mZ2 mt2_J6_bitCount_0f7a4 := mz_of (m_chk_ok tm_J6_bitCount_0f7a4) rfl ti_J6_bitCount_0f7a4 id_J6_bitCount_0f7a4
theorem ti_J6_lowestOneBit_0f7a4 : i_raw tb2_J6_lowestOneBit_0f7a4 = ir_J6_lowestOneBit_0f7a4 := by decide +kernel
theorem tz_J6_lowestOneBit_0f7a4 : mZ2 mt2_J6_lowestOneBit_0f7a4 := mz_of (m_chk_ok tm_J6_lowestOneBit_0f7a4) rfl ti_J6_lowestOneBit_0f7a4 id_J6_lowestOneBit_0f7a4
theorem ti_J6_numberOfTrailingZeros_0f7a4 : i_raw tb2_J6_numberOfTrailingZeros_0f7a4 = ir_J6_numberOfTrailingZeros_0f7a4 := by decide +kernel
theorem tz_J6_numberOfTrailingZeros_0f7a4 : mZ2 mt2_J6_numberOfTrailingZeros_0f7a4 := mz_of (m_chk_ok tm_J6_numberOfTrailingZeros_0f7a4) rfl ti_J6_numberOfTrailingZeros_0f7a4 id_J6_numberOfTrailingZeros_0f7a4
theorem ti_J9_floorMod_7cf53 : i_raw tb2_J9_floorMod_7cf53 = ir_J9_floorMod_7cf53 := by decide +kernel
theorem tz_J9_floorMod_7cf53 : mZ2 mt2_J9_floorMod_7cf53 := mz_of (m_chk_ok tm_J9_floorMod_7cf53) rfl ti_J9_floorMod_7cf53 id_J9_floorMod_7cf53
theorem ti_J9_max_7cf53 : i_raw tb2_J9_max_7cf53 = ir_J9_max_7cf53 := by decide +kernel
theorem tz_J9_max_7cf53 : mZ2 mt2_J9_max_7cf53 := mz_of (m_chk_ok tm_J9_max_7cf53) rfl ti_J9_max_7cf53 id_J9_max_7cf53
theorem ti_J9_min_7cf53 : i_raw tb2_J9_min_7cf53 = ir_J9_min_7cf53 := by decide +kernel
theorem tz_J9_min_7cf53 : mZ2 mt2_J9_min_7cf53 := mz_of (m_chk_ok tm_J9_min_7cf53) rfl ti_J9_min_7cf53 id_J9_min_7cf53
theorem ti_X0_because : i_raw tb2_X0_because = ir_X0_because := by decide +kernel
theorem tz_X0_because : mZ2 mt2_X0_because := mz_of (m_chk_ok tm_X0_because) rfl ti_X0_because id_X0_because
theorem ti_X0_judge : i_raw tb2_X0_judge = ir_X0_judge := by decide +kernel
theorem tz_X0_judge : mZ2 mt2_X0_judge := mz_of (m_chk_ok tm_X0_judge) rfl ti_X0_judge id_X0_judge
theorem ti_X0_liveDays : i_raw tb2_X0_liveDays = ir_X0_liveDays := by decide +kernel
theorem tz_X0_liveDays : mZ2 mt2_X0_liveDays := mz_of (m_chk_ok tm_X0_liveDays) rfl ti_X0_liveDays id_X0_liveDays
theorem ti_X0_liveLine : i_raw tb2_X0_liveLine = ir_X0_liveLine := by decide +kernel
theorem tz_X0_liveLine : mZ2 mt2_X0_liveLine := mz_of (m_chk_ok tm_X0_liveLine) rfl ti_X0_liveLine id_X0_liveLine
theorem ti_X0_read : i_raw tb2_X0_read = ir_X0_read := by decide +kernel
theorem tz_X0_read : mZ2 mt2_X0_read := mz_of (m_chk_ok tm_X0_read) rfl ti_X0_read id_X0_read
theorem ti_X0_readAct : i_raw tb2_X0_readAct = ir_X0_readAct := by decide +kernel
theorem tz_X0_readAct : mZ2 mt2_X0_readAct := mz_of (m_chk_ok tm_X0_readAct) rfl ti_X0_readAct id_X0_readAct
theorem ti_X0_readLine : i_raw tb2_X0_readLine = ir_X0_readLine := by decide +kernel
theorem tz_X0_readLine : mZ2 mt2_X0_readLine := mz_of (m_chk_ok tm_X0_readLine) rfl ti_X0_readLine id_X0_readLine
theorem ti_X0_readSaying : i_raw tb2_X0_readSaying = ir_X0_readSaying := by decide +kernel
theorem tz_X0_readSaying : mZ2 mt2_X0_readSaying := mz_of (m_chk_ok tm_X0_readSaying) rfl ti_X0_readSaying id_X0_readSaying
theorem ti_X0_sortBehind : i_raw tb2_X0_sortBehind = ir_X0_sortBehind := by decide +kernel
theorem tz_X0_sortBehind : mZ2 mt2_X0_sortBehind := mz_of (m_chk_ok tm_X0_sortBehind) rfl ti_X0_sortBehind id_X0_sortBehind
theorem ti_X0_tell : i_raw tb2_X0_tell = ir_X0_tell := by decide +kernel
theorem tz_X0_tell : mZ2 mt2_X0_tell := mz_of (m_chk_ok tm_X0_tell) rfl ti_X0_tell id_X0_tell
theorem ti_X10_behindBlanks : i_raw tb2_X10_behindBlanks = ir_X10_behindBlanks := by decide +kernel
theorem tz_X10_behindBlanks : mZ2 mt2_X10_behindBlanks := mz_of (m_chk_ok tm_X10_behindBlanks) rfl ti_X10_behindBlanks id_X10_behindBlanks
theorem ti_X10_fail : i_raw tb2_X10_fail = ir_X10_fail := by decide +kernel
theorem tz_X10_fail : mZ2 mt2_X10_fail := mz_of (m_chk_ok tm_X10_fail) rfl ti_X10_fail id_X10_fail
theorem ti_X10_isDigit : i_raw tb2_X10_isDigit = ir_X10_isDigit := by decide +kernel
theorem tz_X10_isDigit : mZ2 mt2_X10_isDigit := mz_of (m_chk_ok tm_X10_isDigit) rfl ti_X10_isDigit id_X10_isDigit
theorem ti_X10_isLetter : i_raw tb2_X10_isLetter = ir_X10_isLetter := by decide +kernel
theorem tz_X10_isLetter : mZ2 mt2_X10_isLetter := mz_of (m_chk_ok tm_X10_isLetter) rfl ti_X10_isLetter id_X10_isLetter
theorem ti_X10_isSpelled : i_raw tb2_X10_isSpelled = ir_X10_isSpelled := by decide +kernel
theorem tz_X10_isSpelled : mZ2 mt2_X10_isSpelled := mz_of (m_chk_ok tm_X10_isSpelled) rfl ti_X10_isSpelled id_X10_isSpelled
theorem ti_X10_isWord : i_raw tb2_X10_isWord = ir_X10_isWord := by decide +kernel
theorem tz_X10_isWord : mZ2 mt2_X10_isWord := mz_of (m_chk_ok tm_X10_isWord) rfl ti_X10_isWord id_X10_isWord
theorem ti_X10_open : i_raw tb2_X10_open = ir_X10_open := by decide +kernel
theorem tz_X10_open : mZ2 mt2_X10_open := mz_of (m_chk_ok tm_X10_open) rfl ti_X10_open id_X10_open
theorem ti_X10_plainWord : i_raw tb2_X10_plainWord = ir_X10_plainWord := by decide +kernel
theorem tz_X10_plainWord : mZ2 mt2_X10_plainWord := mz_of (m_chk_ok tm_X10_plainWord) rfl ti_X10_plainWord id_X10_plainWord
theorem ti_X10_readRun : i_raw tb2_X10_readRun = ir_X10_readRun := by decide +kernel
theorem tz_X10_readRun : mZ2 mt2_X10_readRun := mz_of (m_chk_ok tm_X10_readRun) rfl ti_X10_readRun id_X10_readRun
theorem ti_X10_readToken : i_raw tb2_X10_readToken = ir_X10_readToken := by decide +kernel
theorem tz_X10_readToken : mZ2 mt2_X10_readToken := mz_of (m_chk_ok tm_X10_readToken) rfl ti_X10_readToken id_X10_readToken
theorem ti_X10_step : i_raw tb2_X10_step = ir_X10_step := by decide +kernel
theorem tz_X10_step : mZ2 mt2_X10_step := mz_of (m_chk_ok tm_X10_step) rfl ti_X10_step id_X10_step
theorem ti_X10_takeEnd : i_raw tb2_X10_takeEnd = ir_X10_takeEnd := by decide +kernel
theorem tz_X10_takeEnd : mZ2 mt2_X10_takeEnd := mz_of (m_chk_ok tm_X10_takeEnd) rfl ti_X10_takeEnd id_X10_takeEnd
theorem ti_X10_takeNumber : i_raw tb2_X10_takeNumber = ir_X10_takeNumber := by decide +kernel
theorem tz_X10_takeNumber : mZ2 mt2_X10_takeNumber := mz_of (m_chk_ok tm_X10_takeNumber) rfl ti_X10_takeNumber id_X10_takeNumber
theorem ti_X10_takeSign : i_raw tb2_X10_takeSign = ir_X10_takeSign := by decide +kernel
theorem tz_X10_takeSign : mZ2 mt2_X10_takeSign := mz_of (m_chk_ok tm_X10_takeSign) rfl ti_X10_takeSign id_X10_takeSign
theorem ti_X10_wordIn : i_raw tb2_X10_wordIn = ir_X10_wordIn := by decide +kernel
theorem tz_X10_wordIn : mZ2 mt2_X10_wordIn := mz_of (m_chk_ok tm_X10_wordIn) rfl ti_X10_wordIn id_X10_wordIn
theorem ti_X10_wordNumber : i_raw tb2_X10_wordNumber = ir_X10_wordNumber := by decide +kernel
theorem tz_X10_wordNumber : mZ2 mt2_X10_wordNumber := mz_of (m_chk_ok tm_X10_wordNumber) rfl ti_X10_wordNumber id_X10_wordNumber
theorem ti_X11_ask : i_raw tb2_X11_ask = ir_X11_ask := by decide +kernel
theorem tz_X11_ask : mZ2 mt2_X11_ask := mz_of (m_chk_ok tm_X11_ask) rfl ti_X11_ask id_X11_ask
theorem ti_X11_bitAt : i_raw tb2_X11_bitAt = ir_X11_bitAt := by decide +kernel
theorem tz_X11_bitAt : mZ2 mt2_X11_bitAt := mz_of (m_chk_ok tm_X11_bitAt) rfl ti_X11_bitAt id_X11_bitAt
theorem ti_X11_book : i_raw tb2_X11_book = ir_X11_book := by decide +kernel
theorem tz_X11_book : mZ2 mt2_X11_book := mz_of (m_chk_ok tm_X11_book) rfl ti_X11_book id_X11_book
theorem ti_X11_byteAt : i_raw tb2_X11_byteAt = ir_X11_byteAt := by decide +kernel
theorem tz_X11_byteAt : mZ2 mt2_X11_byteAt := mz_of (m_chk_ok tm_X11_byteAt) rfl ti_X11_byteAt id_X11_byteAt
theorem ti_X11_cant : i_raw tb2_X11_cant = ir_X11_cant := by decide +kernel
theorem tz_X11_cant : mZ2 mt2_X11_cant := mz_of (m_chk_ok tm_X11_cant) rfl ti_X11_cant id_X11_cant
theorem ti_X11_canting : i_raw tb2_X11_canting = ir_X11_canting := by decide +kernel
theorem tz_X11_canting : mZ2 mt2_X11_canting := mz_of (m_chk_ok tm_X11_canting) rfl ti_X11_canting id_X11_canting
theorem ti_X11_city : i_raw tb2_X11_city = ir_X11_city := by decide +kernel
theorem tz_X11_city : mZ2 mt2_X11_city := mz_of (m_chk_ok tm_X11_city) rfl ti_X11_city id_X11_city
theorem ti_X11_closeText : i_raw tb2_X11_closeText = ir_X11_closeText := by decide +kernel
theorem tz_X11_closeText : mZ2 mt2_X11_closeText := mz_of (m_chk_ok tm_X11_closeText) rfl ti_X11_closeText id_X11_closeText
theorem ti_X11_count : i_raw tb2_X11_count = ir_X11_count := by decide +kernel
theorem tz_X11_count : mZ2 mt2_X11_count := mz_of (m_chk_ok tm_X11_count) rfl ti_X11_count id_X11_count
theorem ti_X11_cover : i_raw tb2_X11_cover = ir_X11_cover := by decide +kernel
theorem tz_X11_cover : mZ2 mt2_X11_cover := mz_of (m_chk_ok tm_X11_cover) rfl ti_X11_cover id_X11_cover
theorem ti_X11_covering : i_raw tb2_X11_covering = ir_X11_covering := by decide +kernel
theorem tz_X11_covering : mZ2 mt2_X11_covering := mz_of (m_chk_ok tm_X11_covering) rfl ti_X11_covering id_X11_covering
theorem ti_X11_days : i_raw tb2_X11_days = ir_X11_days := by decide +kernel
theorem tz_X11_days : mZ2 mt2_X11_days := mz_of (m_chk_ok tm_X11_days) rfl ti_X11_days id_X11_days
theorem ti_X11_drawn : i_raw tb2_X11_drawn = ir_X11_drawn := by decide +kernel
theorem tz_X11_drawn : mZ2 mt2_X11_drawn := mz_of (m_chk_ok tm_X11_drawn) rfl ti_X11_drawn id_X11_drawn
theorem ti_X11_end : i_raw tb2_X11_end = ir_X11_end := by decide +kernel
theorem tz_X11_end : mZ2 mt2_X11_end := mz_of (m_chk_ok tm_X11_end) rfl ti_X11_end id_X11_end
theorem ti_X11_fault : i_raw tb2_X11_fault = ir_X11_fault := by decide +kernel
theorem tz_X11_fault : mZ2 mt2_X11_fault := mz_of (m_chk_ok tm_X11_fault) rfl ti_X11_fault id_X11_fault
theorem ti_X11_feed : i_raw tb2_X11_feed = ir_X11_feed := by decide +kernel
theorem tz_X11_feed : mZ2 mt2_X11_feed := mz_of (m_chk_ok tm_X11_feed) rfl ti_X11_feed id_X11_feed
theorem ti_X11_firstBit : i_raw tb2_X11_firstBit = ir_X11_firstBit := by decide +kernel
theorem tz_X11_firstBit : mZ2 mt2_X11_firstBit := mz_of (m_chk_ok tm_X11_firstBit) rfl ti_X11_firstBit id_X11_firstBit
theorem ti_X11_fits : i_raw tb2_X11_fits = ir_X11_fits := by decide +kernel
theorem tz_X11_fits : mZ2 mt2_X11_fits := mz_of (m_chk_ok tm_X11_fits) rfl ti_X11_fits id_X11_fits
theorem ti_X11_go : i_raw tb2_X11_go = ir_X11_go := by decide +kernel
theorem tz_X11_go : mZ2 mt2_X11_go := mz_of (m_chk_ok tm_X11_go) rfl ti_X11_go id_X11_go
theorem ti_X11_greatestShared : i_raw tb2_X11_greatestShared = ir_X11_greatestShared := by decide +kernel
theorem tz_X11_greatestShared : mZ2 mt2_X11_greatestShared := mz_of (m_chk_ok tm_X11_greatestShared) rfl ti_X11_greatestShared id_X11_greatestShared
theorem ti_X11_image : i_raw tb2_X11_image = ir_X11_image := by decide +kernel
theorem tz_X11_image : mZ2 mt2_X11_image := mz_of (m_chk_ok tm_X11_image) rfl ti_X11_image id_X11_image
theorem ti_X11_kept : i_raw tb2_X11_kept = ir_X11_kept := by decide +kernel
theorem tz_X11_kept : mZ2 mt2_X11_kept := mz_of (m_chk_ok tm_X11_kept) rfl ti_X11_kept id_X11_kept
theorem ti_X11_keptDays : i_raw tb2_X11_keptDays = ir_X11_keptDays := by decide +kernel
theorem tz_X11_keptDays : mZ2 mt2_X11_keptDays := mz_of (m_chk_ok tm_X11_keptDays) rfl ti_X11_keptDays id_X11_keptDays
theorem ti_X11_learn : i_raw tb2_X11_learn = ir_X11_learn := by decide +kernel
theorem tz_X11_learn : mZ2 mt2_X11_learn := mz_of (m_chk_ok tm_X11_learn) rfl ti_X11_learn id_X11_learn
theorem ti_X11_lies : i_raw tb2_X11_lies = ir_X11_lies := by decide +kernel
theorem tz_X11_lies : mZ2 mt2_X11_lies := mz_of (m_chk_ok tm_X11_lies) rfl ti_X11_lies id_X11_lies
theorem ti_X11_name : i_raw tb2_X11_name = ir_X11_name := by decide +kernel
theorem tz_X11_name : mZ2 mt2_X11_name := mz_of (m_chk_ok tm_X11_name) rfl ti_X11_name id_X11_name
theorem ti_X11_news : i_raw tb2_X11_news = ir_X11_news := by decide +kernel
theorem tz_X11_news : mZ2 mt2_X11_news := mz_of (m_chk_ok tm_X11_news) rfl ti_X11_news id_X11_news
theorem ti_X11_now : i_raw tb2_X11_now = ir_X11_now := by decide +kernel
theorem tz_X11_now : mZ2 mt2_X11_now := mz_of (m_chk_ok tm_X11_now) rfl ti_X11_now id_X11_now
theorem ti_X11_odds : i_raw tb2_X11_odds = ir_X11_odds := by decide +kernel
theorem tz_X11_odds : mZ2 mt2_X11_odds := mz_of (m_chk_ok tm_X11_odds) rfl ti_X11_odds id_X11_odds
theorem ti_X11_person : i_raw tb2_X11_person = ir_X11_person := by decide +kernel
theorem tz_X11_person : mZ2 mt2_X11_person := mz_of (m_chk_ok tm_X11_person) rfl ti_X11_person id_X11_person
theorem ti_X11_phrase : i_raw tb2_X11_phrase = ir_X11_phrase := by decide +kernel
theorem tz_X11_phrase : mZ2 mt2_X11_phrase := mz_of (m_chk_ok tm_X11_phrase) rfl ti_X11_phrase id_X11_phrase
theorem ti_X11_point : i_raw tb2_X11_point = ir_X11_point := by decide +kernel
theorem tz_X11_point : mZ2 mt2_X11_point := mz_of (m_chk_ok tm_X11_point) rfl ti_X11_point id_X11_point
theorem ti_X11_put : i_raw tb2_X11_put = ir_X11_put := by decide +kernel
theorem tz_X11_put : mZ2 mt2_X11_put := mz_of (m_chk_ok tm_X11_put) rfl ti_X11_put id_X11_put
theorem ti_X11_rest : i_raw tb2_X11_rest = ir_X11_rest := by decide +kernel
theorem tz_X11_rest : mZ2 mt2_X11_rest := mz_of (m_chk_ok tm_X11_rest) rfl ti_X11_rest id_X11_rest
theorem ti_X11_rested : i_raw tb2_X11_rested = ir_X11_rested := by decide +kernel
theorem tz_X11_rested : mZ2 mt2_X11_rested := mz_of (m_chk_ok tm_X11_rested) rfl ti_X11_rested id_X11_rested
theorem ti_X11_restore : i_raw tb2_X11_restore = ir_X11_restore := by decide +kernel
theorem tz_X11_restore : mZ2 mt2_X11_restore := mz_of (m_chk_ok tm_X11_restore) rfl ti_X11_restore id_X11_restore
theorem ti_X11_said : i_raw tb2_X11_said = ir_X11_said := by decide +kernel
theorem tz_X11_said : mZ2 mt2_X11_said := mz_of (m_chk_ok tm_X11_said) rfl ti_X11_said id_X11_said
theorem ti_X11_say : i_raw tb2_X11_say = ir_X11_say := by decide +kernel
theorem tz_X11_say : mZ2 mt2_X11_say := mz_of (m_chk_ok tm_X11_say) rfl ti_X11_say id_X11_say
theorem ti_X11_saying : i_raw tb2_X11_saying = ir_X11_saying := by decide +kernel
theorem tz_X11_saying : mZ2 mt2_X11_saying := mz_of (m_chk_ok tm_X11_saying) rfl ti_X11_saying id_X11_saying
theorem ti_X11_sentence : i_raw tb2_X11_sentence = ir_X11_sentence := by decide +kernel
theorem tz_X11_sentence : mZ2 mt2_X11_sentence := mz_of (m_chk_ok tm_X11_sentence) rfl ti_X11_sentence id_X11_sentence
theorem ti_X11_show : i_raw tb2_X11_show = ir_X11_show := by decide +kernel
theorem tz_X11_show : mZ2 mt2_X11_show := mz_of (m_chk_ok tm_X11_show) rfl ti_X11_show id_X11_show
theorem ti_X11_slip : i_raw tb2_X11_slip = ir_X11_slip := by decide +kernel
theorem tz_X11_slip : mZ2 mt2_X11_slip := mz_of (m_chk_ok tm_X11_slip) rfl ti_X11_slip id_X11_slip
theorem ti_X11_spellByte : i_raw tb2_X11_spellByte = ir_X11_spellByte := by decide +kernel
theorem tz_X11_spellByte : mZ2 mt2_X11_spellByte := mz_of (m_chk_ok tm_X11_spellByte) rfl ti_X11_spellByte id_X11_spellByte
theorem ti_X11_spellName : i_raw tb2_X11_spellName = ir_X11_spellName := by decide +kernel
theorem tz_X11_spellName : mZ2 mt2_X11_spellName := mz_of (m_chk_ok tm_X11_spellName) rfl ti_X11_spellName id_X11_spellName
theorem ti_X11_spellRoundabout : i_raw tb2_X11_spellRoundabout = ir_X11_spellRoundabout := by decide +kernel
theorem tz_X11_spellRoundabout : mZ2 mt2_X11_spellRoundabout := mz_of (m_chk_ok tm_X11_spellRoundabout) rfl ti_X11_spellRoundabout id_X11_spellRoundabout
theorem ti_X11_spoken : i_raw tb2_X11_spoken = ir_X11_spoken := by decide +kernel
theorem tz_X11_spoken : mZ2 mt2_X11_spoken := mz_of (m_chk_ok tm_X11_spoken) rfl ti_X11_spoken id_X11_spoken
theorem ti_X11_surely : i_raw tb2_X11_surely = ir_X11_surely := by decide +kernel
theorem tz_X11_surely : mZ2 mt2_X11_surely := mz_of (m_chk_ok tm_X11_surely) rfl ti_X11_surely id_X11_surely
theorem ti_X11_thing : i_raw tb2_X11_thing = ir_X11_thing := by decide +kernel
theorem tz_X11_thing : mZ2 mt2_X11_thing := mz_of (m_chk_ok tm_X11_thing) rfl ti_X11_thing id_X11_thing
theorem ti_X11_told : i_raw tb2_X11_told = ir_X11_told := by decide +kernel
theorem tz_X11_told : mZ2 mt2_X11_told := mz_of (m_chk_ok tm_X11_told) rfl ti_X11_told id_X11_told
theorem ti_X11_twin : i_raw tb2_X11_twin = ir_X11_twin := by decide +kernel
theorem tz_X11_twin : mZ2 mt2_X11_twin := mz_of (m_chk_ok tm_X11_twin) rfl ti_X11_twin id_X11_twin
theorem ti_X11_undo : i_raw tb2_X11_undo = ir_X11_undo := by decide +kernel
theorem tz_X11_undo : mZ2 mt2_X11_undo := mz_of (m_chk_ok tm_X11_undo) rfl ti_X11_undo id_X11_undo
theorem ti_X12_areApart : i_raw tb2_X12_areApart = ir_X12_areApart := by decide +kernel
theorem tz_X12_areApart : mZ2 mt2_X12_areApart := mz_of (m_chk_ok tm_X12_areApart) rfl ti_X12_areApart id_X12_areApart
theorem ti_X12_ask : i_raw tb2_X12_ask = ir_X12_ask := by decide +kernel
theorem tz_X12_ask : mZ2 mt2_X12_ask := mz_of (m_chk_ok tm_X12_ask) rfl ti_X12_ask id_X12_ask
theorem ti_X12_asks : i_raw tb2_X12_asks = ir_X12_asks := by decide +kernel
theorem tz_X12_asks : mZ2 mt2_X12_asks := mz_of (m_chk_ok tm_X12_asks) rfl ti_X12_asks id_X12_asks
theorem ti_X12_back : i_raw tb2_X12_back = ir_X12_back := by decide +kernel
theorem tz_X12_back : mZ2 mt2_X12_back := mz_of (m_chk_ok tm_X12_back) rfl ti_X12_back id_X12_back
theorem ti_X12_bad : i_raw tb2_X12_bad = ir_X12_bad := by decide +kernel
theorem tz_X12_bad : mZ2 mt2_X12_bad := mz_of (m_chk_ok tm_X12_bad) rfl ti_X12_bad id_X12_bad
theorem ti_X12_behind : i_raw tb2_X12_behind = ir_X12_behind := by decide +kernel
theorem tz_X12_behind : mZ2 mt2_X12_behind := mz_of (m_chk_ok tm_X12_behind) rfl ti_X12_behind id_X12_behind
theorem ti_X12_bitOf : i_raw tb2_X12_bitOf = ir_X12_bitOf := by decide +kernel
theorem tz_X12_bitOf : mZ2 mt2_X12_bitOf := mz_of (m_chk_ok tm_X12_bitOf) rfl ti_X12_bitOf id_X12_bitOf
theorem ti_X12_bits : i_raw tb2_X12_bits = ir_X12_bits := by decide +kernel
theorem tz_X12_bits : mZ2 mt2_X12_bits := mz_of (m_chk_ok tm_X12_bits) rfl ti_X12_bits id_X12_bits
theorem ti_X12_book : i_raw tb2_X12_book = ir_X12_book := by decide +kernel
theorem tz_X12_book : mZ2 mt2_X12_book := mz_of (m_chk_ok tm_X12_book) rfl ti_X12_book id_X12_book
theorem ti_X12_bookLine : i_raw tb2_X12_bookLine = ir_X12_bookLine := by decide +kernel
theorem tz_X12_bookLine : mZ2 mt2_X12_bookLine := mz_of (m_chk_ok tm_X12_bookLine) rfl ti_X12_bookLine id_X12_bookLine
theorem ti_X12_byteAt : i_raw tb2_X12_byteAt = ir_X12_byteAt := by decide +kernel
theorem tz_X12_byteAt : mZ2 mt2_X12_byteAt := mz_of (m_chk_ok tm_X12_byteAt) rfl ti_X12_byteAt id_X12_byteAt
theorem ti_X12_cant : i_raw tb2_X12_cant = ir_X12_cant := by decide +kernel
theorem tz_X12_cant : mZ2 mt2_X12_cant := mz_of (m_chk_ok tm_X12_cant) rfl ti_X12_cant id_X12_cant
theorem ti_X12_canting : i_raw tb2_X12_canting = ir_X12_canting := by decide +kernel
theorem tz_X12_canting : mZ2 mt2_X12_canting := mz_of (m_chk_ok tm_X12_canting) rfl ti_X12_canting id_X12_canting
theorem ti_X12_carriedBy : i_raw tb2_X12_carriedBy = ir_X12_carriedBy := by decide +kernel
theorem tz_X12_carriedBy : mZ2 mt2_X12_carriedBy := mz_of (m_chk_ok tm_X12_carriedBy) rfl ti_X12_carriedBy id_X12_carriedBy
theorem ti_X12_carriedSet : i_raw tb2_X12_carriedSet = ir_X12_carriedSet := by decide +kernel
theorem tz_X12_carriedSet : mZ2 mt2_X12_carriedSet := mz_of (m_chk_ok tm_X12_carriedSet) rfl ti_X12_carriedSet id_X12_carriedSet
theorem ti_X12_city : i_raw tb2_X12_city = ir_X12_city := by decide +kernel
theorem tz_X12_city : mZ2 mt2_X12_city := mz_of (m_chk_ok tm_X12_city) rfl ti_X12_city id_X12_city
theorem ti_X12_clears : i_raw tb2_X12_clears = ir_X12_clears := by decide +kernel
theorem tz_X12_clears : mZ2 mt2_X12_clears := mz_of (m_chk_ok tm_X12_clears) rfl ti_X12_clears id_X12_clears
theorem ti_X12_code : i_raw tb2_X12_code = ir_X12_code := by decide +kernel
theorem tz_X12_code : mZ2 mt2_X12_code := mz_of (m_chk_ok tm_X12_code) rfl ti_X12_code id_X12_code
theorem ti_X12_count : i_raw tb2_X12_count = ir_X12_count := by decide +kernel
theorem tz_X12_count : mZ2 mt2_X12_count := mz_of (m_chk_ok tm_X12_count) rfl ti_X12_count id_X12_count
theorem ti_X12_cover : i_raw tb2_X12_cover = ir_X12_cover := by decide +kernel
theorem tz_X12_cover : mZ2 mt2_X12_cover := mz_of (m_chk_ok tm_X12_cover) rfl ti_X12_cover id_X12_cover
theorem ti_X12_covering : i_raw tb2_X12_covering = ir_X12_covering := by decide +kernel
theorem tz_X12_covering : mZ2 mt2_X12_covering := mz_of (m_chk_ok tm_X12_covering) rfl ti_X12_covering id_X12_covering
theorem ti_X12_day : i_raw tb2_X12_day = ir_X12_day := by decide +kernel
theorem tz_X12_day : mZ2 mt2_X12_day := mz_of (m_chk_ok tm_X12_day) rfl ti_X12_day id_X12_day
theorem ti_X12_days : i_raw tb2_X12_days = ir_X12_days := by decide +kernel
theorem tz_X12_days : mZ2 mt2_X12_days := mz_of (m_chk_ok tm_X12_days) rfl ti_X12_days id_X12_days
theorem ti_X12_does : i_raw tb2_X12_does = ir_X12_does := by decide +kernel
theorem tz_X12_does : mZ2 mt2_X12_does := mz_of (m_chk_ok tm_X12_does) rfl ti_X12_does id_X12_does
theorem ti_X12_draw : i_raw tb2_X12_draw = ir_X12_draw := by decide +kernel
theorem tz_X12_draw : mZ2 mt2_X12_draw := mz_of (m_chk_ok tm_X12_draw) rfl ti_X12_draw id_X12_draw
theorem ti_X12_drawPerson : i_raw tb2_X12_drawPerson = ir_X12_drawPerson := by decide +kernel
theorem tz_X12_drawPerson : mZ2 mt2_X12_drawPerson := mz_of (m_chk_ok tm_X12_drawPerson) rfl ti_X12_drawPerson id_X12_drawPerson
theorem ti_X12_drawn : i_raw tb2_X12_drawn = ir_X12_drawn := by decide +kernel
theorem tz_X12_drawn : mZ2 mt2_X12_drawn := mz_of (m_chk_ok tm_X12_drawn) rfl ti_X12_drawn id_X12_drawn
theorem ti_X12_draws : i_raw tb2_X12_draws = ir_X12_draws := by decide +kernel
theorem tz_X12_draws : mZ2 mt2_X12_draws := mz_of (m_chk_ok tm_X12_draws) rfl ti_X12_draws id_X12_draws
theorem ti_X12_end : i_raw tb2_X12_end = ir_X12_end := by decide +kernel
theorem tz_X12_end : mZ2 mt2_X12_end := mz_of (m_chk_ok tm_X12_end) rfl ti_X12_end id_X12_end
theorem ti_X12_fault : i_raw tb2_X12_fault = ir_X12_fault := by decide +kernel
theorem tz_X12_fault : mZ2 mt2_X12_fault := mz_of (m_chk_ok tm_X12_fault) rfl ti_X12_fault id_X12_fault
theorem ti_X12_feed : i_raw tb2_X12_feed = ir_X12_feed := by decide +kernel
theorem tz_X12_feed : mZ2 mt2_X12_feed := mz_of (m_chk_ok tm_X12_feed) rfl ti_X12_feed id_X12_feed
theorem ti_X12_find : i_raw tb2_X12_find = ir_X12_find := by decide +kernel
theorem tz_X12_find : mZ2 mt2_X12_find := mz_of (m_chk_ok tm_X12_find) rfl ti_X12_find id_X12_find
theorem ti_X12_firstOf : i_raw tb2_X12_firstOf = ir_X12_firstOf := by decide +kernel
theorem tz_X12_firstOf : mZ2 mt2_X12_firstOf := mz_of (m_chk_ok tm_X12_firstOf) rfl ti_X12_firstOf id_X12_firstOf
theorem ti_X12_fits : i_raw tb2_X12_fits = ir_X12_fits := by decide +kernel
theorem tz_X12_fits : mZ2 mt2_X12_fits := mz_of (m_chk_ok tm_X12_fits) rfl ti_X12_fits id_X12_fits
theorem ti_X12_fitting : i_raw tb2_X12_fitting = ir_X12_fitting := by decide +kernel
theorem tz_X12_fitting : mZ2 mt2_X12_fitting := mz_of (m_chk_ok tm_X12_fitting) rfl ti_X12_fitting id_X12_fitting
theorem ti_X12_four : i_raw tb2_X12_four = ir_X12_four := by decide +kernel
theorem tz_X12_four : mZ2 mt2_X12_four := mz_of (m_chk_ok tm_X12_four) rfl ti_X12_four id_X12_four
theorem ti_X12_fresh : i_raw tb2_X12_fresh = ir_X12_fresh := by decide +kernel
theorem tz_X12_fresh : mZ2 mt2_X12_fresh := mz_of (m_chk_ok tm_X12_fresh) rfl ti_X12_fresh id_X12_fresh
theorem ti_X12_go : i_raw tb2_X12_go = ir_X12_go := by decide +kernel
theorem tz_X12_go : mZ2 mt2_X12_go := mz_of (m_chk_ok tm_X12_go) rfl ti_X12_go id_X12_go
theorem ti_X12_goesOn : i_raw tb2_X12_goesOn = ir_X12_goesOn := by decide +kernel
theorem tz_X12_goesOn : mZ2 mt2_X12_goesOn := mz_of (m_chk_ok tm_X12_goesOn) rfl ti_X12_goesOn id_X12_goesOn
theorem ti_X12_greater : i_raw tb2_X12_greater = ir_X12_greater := by decide +kernel
theorem tz_X12_greater : mZ2 mt2_X12_greater := mz_of (m_chk_ok tm_X12_greater) rfl ti_X12_greater id_X12_greater
theorem ti_X12_hasAll : i_raw tb2_X12_hasAll = ir_X12_hasAll := by decide +kernel
theorem tz_X12_hasAll : mZ2 mt2_X12_hasAll := mz_of (m_chk_ok tm_X12_hasAll) rfl ti_X12_hasAll id_X12_hasAll
theorem ti_X12_image : i_raw tb2_X12_image = ir_X12_image := by decide +kernel
theorem tz_X12_image : mZ2 mt2_X12_image := mz_of (m_chk_ok tm_X12_image) rfl ti_X12_image id_X12_image
theorem ti_X12_isCarried : i_raw tb2_X12_isCarried = ir_X12_isCarried := by decide +kernel
theorem tz_X12_isCarried : mZ2 mt2_X12_isCarried := mz_of (m_chk_ok tm_X12_isCarried) rfl ti_X12_isCarried id_X12_isCarried
theorem ti_X12_isCover : i_raw tb2_X12_isCover = ir_X12_isCover := by decide +kernel
theorem tz_X12_isCover : mZ2 mt2_X12_isCover := mz_of (m_chk_ok tm_X12_isCover) rfl ti_X12_isCover id_X12_isCover
theorem ti_X12_isDigit : i_raw tb2_X12_isDigit = ir_X12_isDigit := by decide +kernel
theorem tz_X12_isDigit : mZ2 mt2_X12_isDigit := mz_of (m_chk_ok tm_X12_isDigit) rfl ti_X12_isDigit id_X12_isDigit
theorem ti_X12_isFast : i_raw tb2_X12_isFast = ir_X12_isFast := by decide +kernel
theorem tz_X12_isFast : mZ2 mt2_X12_isFast := mz_of (m_chk_ok tm_X12_isFast) rfl ti_X12_isFast id_X12_isFast
theorem ti_X12_isFined : i_raw tb2_X12_isFined = ir_X12_isFined := by decide +kernel
theorem tz_X12_isFined : mZ2 mt2_X12_isFined := mz_of (m_chk_ok tm_X12_isFined) rfl ti_X12_isFined id_X12_isFined
theorem ti_X12_isFit : i_raw tb2_X12_isFit = ir_X12_isFit := by decide +kernel
theorem tz_X12_isFit : mZ2 mt2_X12_isFit := mz_of (m_chk_ok tm_X12_isFit) rfl ti_X12_isFit id_X12_isFit
theorem ti_X12_isIn : i_raw tb2_X12_isIn = ir_X12_isIn := by decide +kernel
theorem tz_X12_isIn : mZ2 mt2_X12_isIn := mz_of (m_chk_ok tm_X12_isIn) rfl ti_X12_isIn id_X12_isIn
theorem ti_X12_isLeaf : i_raw tb2_X12_isLeaf = ir_X12_isLeaf := by decide +kernel
theorem tz_X12_isLeaf : mZ2 mt2_X12_isLeaf := mz_of (m_chk_ok tm_X12_isLeaf) rfl ti_X12_isLeaf id_X12_isLeaf
theorem ti_X12_isName : i_raw tb2_X12_isName = ir_X12_isName := by decide +kernel
theorem tz_X12_isName : mZ2 mt2_X12_isName := mz_of (m_chk_ok tm_X12_isName) rfl ti_X12_isName id_X12_isName
theorem ti_X12_isNear : i_raw tb2_X12_isNear = ir_X12_isNear := by decide +kernel
theorem tz_X12_isNear : mZ2 mt2_X12_isNear := mz_of (m_chk_ok tm_X12_isNear) rfl ti_X12_isNear id_X12_isNear
theorem ti_X12_isPerson : i_raw tb2_X12_isPerson = ir_X12_isPerson := by decide +kernel
theorem tz_X12_isPerson : mZ2 mt2_X12_isPerson := mz_of (m_chk_ok tm_X12_isPerson) rfl ti_X12_isPerson id_X12_isPerson
theorem ti_X12_isPlace : i_raw tb2_X12_isPlace = ir_X12_isPlace := by decide +kernel
theorem tz_X12_isPlace : mZ2 mt2_X12_isPlace := mz_of (m_chk_ok tm_X12_isPlace) rfl ti_X12_isPlace id_X12_isPlace
theorem ti_X12_isSaid : i_raw tb2_X12_isSaid = ir_X12_isSaid := by decide +kernel
theorem tz_X12_isSaid : mZ2 mt2_X12_isSaid := mz_of (m_chk_ok tm_X12_isSaid) rfl ti_X12_isSaid id_X12_isSaid
theorem ti_X12_isSaying : i_raw tb2_X12_isSaying = ir_X12_isSaying := by decide +kernel
theorem tz_X12_isSaying : mZ2 mt2_X12_isSaying := mz_of (m_chk_ok tm_X12_isSaying) rfl ti_X12_isSaying id_X12_isSaying
theorem ti_X12_isSign : i_raw tb2_X12_isSign = ir_X12_isSign := by decide +kernel
theorem tz_X12_isSign : mZ2 mt2_X12_isSign := mz_of (m_chk_ok tm_X12_isSign) rfl ti_X12_isSign id_X12_isSign
theorem ti_X12_isSmall : i_raw tb2_X12_isSmall = ir_X12_isSmall := by decide +kernel
theorem tz_X12_isSmall : mZ2 mt2_X12_isSmall := mz_of (m_chk_ok tm_X12_isSmall) rfl ti_X12_isSmall id_X12_isSmall
theorem ti_X12_isSpoken : i_raw tb2_X12_isSpoken = ir_X12_isSpoken := by decide +kernel
theorem tz_X12_isSpoken : mZ2 mt2_X12_isSpoken := mz_of (m_chk_ok tm_X12_isSpoken) rfl ti_X12_isSpoken id_X12_isSpoken
theorem ti_X12_isThing : i_raw tb2_X12_isThing = ir_X12_isThing := by decide +kernel
theorem tz_X12_isThing : mZ2 mt2_X12_isThing := mz_of (m_chk_ok tm_X12_isThing) rfl ti_X12_isThing id_X12_isThing
theorem ti_X12_isWord : i_raw tb2_X12_isWord = ir_X12_isWord := by decide +kernel
theorem tz_X12_isWord : mZ2 mt2_X12_isWord := mz_of (m_chk_ok tm_X12_isWord) rfl ti_X12_isWord id_X12_isWord
theorem ti_X12_joins : i_raw tb2_X12_joins = ir_X12_joins := by decide +kernel
theorem tz_X12_joins : mZ2 mt2_X12_joins := mz_of (m_chk_ok tm_X12_joins) rfl ti_X12_joins id_X12_joins
theorem ti_X12_keep : i_raw tb2_X12_keep = ir_X12_keep := by decide +kernel
theorem tz_X12_keep : mZ2 mt2_X12_keep := mz_of (m_chk_ok tm_X12_keep) rfl ti_X12_keep id_X12_keep
theorem ti_X12_lays : i_raw tb2_X12_lays = ir_X12_lays := by decide +kernel
theorem tz_X12_lays : mZ2 mt2_X12_lays := mz_of (m_chk_ok tm_X12_lays) rfl ti_X12_lays id_X12_lays
theorem ti_X12_leafOf : i_raw tb2_X12_leafOf = ir_X12_leafOf := by decide +kernel
theorem tz_X12_leafOf : mZ2 mt2_X12_leafOf := mz_of (m_chk_ok tm_X12_leafOf) rfl ti_X12_leafOf id_X12_leafOf
theorem ti_X12_learn : i_raw tb2_X12_learn = ir_X12_learn := by decide +kernel
theorem tz_X12_learn : mZ2 mt2_X12_learn := mz_of (m_chk_ok tm_X12_learn) rfl ti_X12_learn id_X12_learn
theorem ti_X12_learnsOne : i_raw tb2_X12_learnsOne = ir_X12_learnsOne := by decide +kernel
theorem tz_X12_learnsOne : mZ2 mt2_X12_learnsOne := mz_of (m_chk_ok tm_X12_learnsOne) rfl ti_X12_learnsOne id_X12_learnsOne
theorem ti_X12_lesser : i_raw tb2_X12_lesser = ir_X12_lesser := by decide +kernel
theorem tz_X12_lesser : mZ2 mt2_X12_lesser := mz_of (m_chk_ok tm_X12_lesser) rfl ti_X12_lesser id_X12_lesser
theorem ti_X12_lies : i_raw tb2_X12_lies = ir_X12_lies := by decide +kernel
theorem tz_X12_lies : mZ2 mt2_X12_lies := mz_of (m_chk_ok tm_X12_lies) rfl ti_X12_lies id_X12_lies
theorem ti_X12_line : i_raw tb2_X12_line = ir_X12_line := by decide +kernel
theorem tz_X12_line : mZ2 mt2_X12_line := mz_of (m_chk_ok tm_X12_line) rfl ti_X12_line id_X12_line
theorem ti_X12_looksAt : i_raw tb2_X12_looksAt = ir_X12_looksAt := by decide +kernel
theorem tz_X12_looksAt : mZ2 mt2_X12_looksAt := mz_of (m_chk_ok tm_X12_looksAt) rfl ti_X12_looksAt id_X12_looksAt
theorem ti_X12_lyingAt : i_raw tb2_X12_lyingAt = ir_X12_lyingAt := by decide +kernel
theorem tz_X12_lyingAt : mZ2 mt2_X12_lyingAt := mz_of (m_chk_ok tm_X12_lyingAt) rfl ti_X12_lyingAt id_X12_lyingAt
theorem ti_X12_meansAnew : i_raw tb2_X12_meansAnew = ir_X12_meansAnew := by decide +kernel
theorem tz_X12_meansAnew : mZ2 mt2_X12_meansAnew := mz_of (m_chk_ok tm_X12_meansAnew) rfl ti_X12_meansAnew id_X12_meansAnew
theorem ti_X12_meantBy : i_raw tb2_X12_meantBy = ir_X12_meantBy := by decide +kernel
theorem tz_X12_meantBy : mZ2 mt2_X12_meantBy := mz_of (m_chk_ok tm_X12_meantBy) rfl ti_X12_meantBy id_X12_meantBy
theorem ti_X12_name : i_raw tb2_X12_name = ir_X12_name := by decide +kernel
theorem tz_X12_name : mZ2 mt2_X12_name := mz_of (m_chk_ok tm_X12_name) rfl ti_X12_name id_X12_name
theorem ti_X12_namesOne : i_raw tb2_X12_namesOne = ir_X12_namesOne := by decide +kernel
theorem tz_X12_namesOne : mZ2 mt2_X12_namesOne := mz_of (m_chk_ok tm_X12_namesOne) rfl ti_X12_namesOne id_X12_namesOne
theorem ti_X12_news : i_raw tb2_X12_news = ir_X12_news := by decide +kernel
theorem tz_X12_news : mZ2 mt2_X12_news := mz_of (m_chk_ok tm_X12_news) rfl ti_X12_news id_X12_news
theorem ti_X12_next : i_raw tb2_X12_next = ir_X12_next := by decide +kernel
theorem tz_X12_next : mZ2 mt2_X12_next := mz_of (m_chk_ok tm_X12_next) rfl ti_X12_next id_X12_next
theorem ti_X12_nots : i_raw tb2_X12_nots = ir_X12_nots := by decide +kernel
theorem tz_X12_nots : mZ2 mt2_X12_nots := mz_of (m_chk_ok tm_X12_nots) rfl ti_X12_nots id_X12_nots
theorem ti_X12_now : i_raw tb2_X12_now = ir_X12_now := by decide +kernel
theorem tz_X12_now : mZ2 mt2_X12_now := mz_of (m_chk_ok tm_X12_now) rfl ti_X12_now id_X12_now
theorem ti_X12_octet : i_raw tb2_X12_octet = ir_X12_octet := by decide +kernel
theorem tz_X12_octet : mZ2 mt2_X12_octet := mz_of (m_chk_ok tm_X12_octet) rfl ti_X12_octet id_X12_octet
theorem ti_X12_odds : i_raw tb2_X12_odds = ir_X12_odds := by decide +kernel
theorem tz_X12_odds : mZ2 mt2_X12_odds := mz_of (m_chk_ok tm_X12_odds) rfl ti_X12_odds id_X12_odds
theorem ti_X12_once : i_raw tb2_X12_once = ir_X12_once := by decide +kernel
theorem tz_X12_once : mZ2 mt2_X12_once := mz_of (m_chk_ok tm_X12_once) rfl ti_X12_once id_X12_once
theorem ti_X12_operand : i_raw tb2_X12_operand = ir_X12_operand := by decide +kernel
theorem tz_X12_operand : mZ2 mt2_X12_operand := mz_of (m_chk_ok tm_X12_operand) rfl ti_X12_operand id_X12_operand
theorem ti_X12_peek : i_raw tb2_X12_peek = ir_X12_peek := by decide +kernel
theorem tz_X12_peek : mZ2 mt2_X12_peek := mz_of (m_chk_ok tm_X12_peek) rfl ti_X12_peek id_X12_peek
theorem ti_X12_person : i_raw tb2_X12_person = ir_X12_person := by decide +kernel
theorem tz_X12_person : mZ2 mt2_X12_person := mz_of (m_chk_ok tm_X12_person) rfl ti_X12_person id_X12_person
theorem ti_X12_phrase : i_raw tb2_X12_phrase = ir_X12_phrase := by decide +kernel
theorem tz_X12_phrase : mZ2 mt2_X12_phrase := mz_of (m_chk_ok tm_X12_phrase) rfl ti_X12_phrase id_X12_phrase
theorem ti_X12_placeOf : i_raw tb2_X12_placeOf = ir_X12_placeOf := by decide +kernel
theorem tz_X12_placeOf : mZ2 mt2_X12_placeOf := mz_of (m_chk_ok tm_X12_placeOf) rfl ti_X12_placeOf id_X12_placeOf
theorem ti_X12_point : i_raw tb2_X12_point = ir_X12_point := by decide +kernel
theorem tz_X12_point : mZ2 mt2_X12_point := mz_of (m_chk_ok tm_X12_point) rfl ti_X12_point id_X12_point
theorem ti_X12_pointsAt : i_raw tb2_X12_pointsAt = ir_X12_pointsAt := by decide +kernel
theorem tz_X12_pointsAt : mZ2 mt2_X12_pointsAt := mz_of (m_chk_ok tm_X12_pointsAt) rfl ti_X12_pointsAt id_X12_pointsAt
theorem ti_X12_put : i_raw tb2_X12_put = ir_X12_put := by decide +kernel
theorem tz_X12_put : mZ2 mt2_X12_put := mz_of (m_chk_ok tm_X12_put) rfl ti_X12_put id_X12_put
theorem ti_X12_puts : i_raw tb2_X12_puts = ir_X12_puts := by decide +kernel
theorem tz_X12_puts : mZ2 mt2_X12_puts := mz_of (m_chk_ok tm_X12_puts) rfl ti_X12_puts id_X12_puts
theorem ti_X12_putsDown : i_raw tb2_X12_putsDown = ir_X12_putsDown := by decide +kernel
theorem tz_X12_putsDown : mZ2 mt2_X12_putsDown := mz_of (m_chk_ok tm_X12_putsDown) rfl ti_X12_putsDown id_X12_putsDown
theorem ti_X12_readNew : i_raw tb2_X12_readNew = ir_X12_readNew := by decide +kernel
theorem tz_X12_readNew : mZ2 mt2_X12_readNew := mz_of (m_chk_ok tm_X12_readNew) rfl ti_X12_readNew id_X12_readNew
theorem ti_X12_readPerson : i_raw tb2_X12_readPerson = ir_X12_readPerson := by decide +kernel
theorem tz_X12_readPerson : mZ2 mt2_X12_readPerson := mz_of (m_chk_ok tm_X12_readPerson) rfl ti_X12_readPerson id_X12_readPerson
theorem ti_X12_readThing : i_raw tb2_X12_readThing = ir_X12_readThing := by decide +kernel
theorem tz_X12_readThing : mZ2 mt2_X12_readThing := mz_of (m_chk_ok tm_X12_readThing) rfl ti_X12_readThing id_X12_readThing
theorem ti_X12_readTie : i_raw tb2_X12_readTie = ir_X12_readTie := by decide +kernel
theorem tz_X12_readTie : mZ2 mt2_X12_readTie := mz_of (m_chk_ok tm_X12_readTie) rfl ti_X12_readTie id_X12_readTie
theorem ti_X12_rest : i_raw tb2_X12_rest = ir_X12_rest := by decide +kernel
theorem tz_X12_rest : mZ2 mt2_X12_rest := mz_of (m_chk_ok tm_X12_rest) rfl ti_X12_rest id_X12_rest
theorem ti_X12_rested : i_raw tb2_X12_rested = ir_X12_rested := by decide +kernel
theorem tz_X12_rested : mZ2 mt2_X12_rested := mz_of (m_chk_ok tm_X12_rested) rfl ti_X12_rested id_X12_rested
theorem ti_X12_restore : i_raw tb2_X12_restore = ir_X12_restore := by decide +kernel
theorem tz_X12_restore : mZ2 mt2_X12_restore := mz_of (m_chk_ok tm_X12_restore) rfl ti_X12_restore id_X12_restore
theorem ti_X12_said : i_raw tb2_X12_said = ir_X12_said := by decide +kernel
theorem tz_X12_said : mZ2 mt2_X12_said := mz_of (m_chk_ok tm_X12_said) rfl ti_X12_said id_X12_said
theorem ti_X12_say : i_raw tb2_X12_say = ir_X12_say := by decide +kernel
theorem tz_X12_say : mZ2 mt2_X12_say := mz_of (m_chk_ok tm_X12_say) rfl ti_X12_say id_X12_say
theorem ti_X12_saying : i_raw tb2_X12_saying = ir_X12_saying := by decide +kernel
theorem tz_X12_saying : mZ2 mt2_X12_saying := mz_of (m_chk_ok tm_X12_saying) rfl ti_X12_saying id_X12_saying
theorem ti_X12_says : i_raw tb2_X12_says = ir_X12_says := by decide +kernel
theorem tz_X12_says : mZ2 mt2_X12_says := mz_of (m_chk_ok tm_X12_says) rfl ti_X12_says id_X12_says
theorem ti_X12_saysAnew : i_raw tb2_X12_saysAnew = ir_X12_saysAnew := by decide +kernel
theorem tz_X12_saysAnew : mZ2 mt2_X12_saysAnew := mz_of (m_chk_ok tm_X12_saysAnew) rfl ti_X12_saysAnew id_X12_saysAnew
theorem ti_X12_sentence : i_raw tb2_X12_sentence = ir_X12_sentence := by decide +kernel
theorem tz_X12_sentence : mZ2 mt2_X12_sentence := mz_of (m_chk_ok tm_X12_sentence) rfl ti_X12_sentence id_X12_sentence
theorem ti_X12_show : i_raw tb2_X12_show = ir_X12_show := by decide +kernel
theorem tz_X12_show : mZ2 mt2_X12_show := mz_of (m_chk_ok tm_X12_show) rfl ti_X12_show id_X12_show
theorem ti_X12_sign : i_raw tb2_X12_sign = ir_X12_sign := by decide +kernel
theorem tz_X12_sign : mZ2 mt2_X12_sign := mz_of (m_chk_ok tm_X12_sign) rfl ti_X12_sign id_X12_sign
theorem ti_X12_slip : i_raw tb2_X12_slip = ir_X12_slip := by decide +kernel
theorem tz_X12_slip : mZ2 mt2_X12_slip := mz_of (m_chk_ok tm_X12_slip) rfl ti_X12_slip id_X12_slip
theorem ti_X12_spells : i_raw tb2_X12_spells = ir_X12_spells := by decide +kernel
theorem tz_X12_spells : mZ2 mt2_X12_spells := mz_of (m_chk_ok tm_X12_spells) rfl ti_X12_spells id_X12_spells
theorem ti_X12_spoken : i_raw tb2_X12_spoken = ir_X12_spoken := by decide +kernel
theorem tz_X12_spoken : mZ2 mt2_X12_spoken := mz_of (m_chk_ok tm_X12_spoken) rfl ti_X12_spoken id_X12_spoken
theorem ti_X12_surely : i_raw tb2_X12_surely = ir_X12_surely := by decide +kernel
theorem tz_X12_surely : mZ2 mt2_X12_surely := mz_of (m_chk_ok tm_X12_surely) rfl ti_X12_surely id_X12_surely
theorem ti_X12_taken : i_raw tb2_X12_taken = ir_X12_taken := by decide +kernel
theorem tz_X12_taken : mZ2 mt2_X12_taken := mz_of (m_chk_ok tm_X12_taken) rfl ti_X12_taken id_X12_taken
theorem ti_X12_takes : i_raw tb2_X12_takes = ir_X12_takes := by decide +kernel
theorem tz_X12_takes : mZ2 mt2_X12_takes := mz_of (m_chk_ok tm_X12_takes) rfl ti_X12_takes id_X12_takes
theorem ti_X12_takesMarks : i_raw tb2_X12_takesMarks = ir_X12_takesMarks := by decide +kernel
theorem tz_X12_takesMarks : mZ2 mt2_X12_takesMarks := mz_of (m_chk_ok tm_X12_takesMarks) rfl ti_X12_takesMarks id_X12_takesMarks
theorem ti_X12_takesName : i_raw tb2_X12_takesName = ir_X12_takesName := by decide +kernel
theorem tz_X12_takesName : mZ2 mt2_X12_takesName := mz_of (m_chk_ok tm_X12_takesName) rfl ti_X12_takesName id_X12_takesName
theorem ti_X12_thing : i_raw tb2_X12_thing = ir_X12_thing := by decide +kernel
theorem tz_X12_thing : mZ2 mt2_X12_thing := mz_of (m_chk_ok tm_X12_thing) rfl ti_X12_thing id_X12_thing
theorem ti_X12_throwsIf : i_raw tb2_X12_throwsIf = ir_X12_throwsIf := by decide +kernel
theorem tz_X12_throwsIf : mZ2 mt2_X12_throwsIf := mz_of (m_chk_ok tm_X12_throwsIf) rfl ti_X12_throwsIf id_X12_throwsIf
theorem ti_X12_told : i_raw tb2_X12_told = ir_X12_told := by decide +kernel
theorem tz_X12_told : mZ2 mt2_X12_told := mz_of (m_chk_ok tm_X12_told) rfl ti_X12_told id_X12_told
theorem ti_X12_tries : i_raw tb2_X12_tries = ir_X12_tries := by decide +kernel
theorem tz_X12_tries : mZ2 mt2_X12_tries := mz_of (m_chk_ok tm_X12_tries) rfl ti_X12_tries id_X12_tries
theorem ti_X12_twin : i_raw tb2_X12_twin = ir_X12_twin := by decide +kernel
theorem tz_X12_twin : mZ2 mt2_X12_twin := mz_of (m_chk_ok tm_X12_twin) rfl ti_X12_twin id_X12_twin
theorem ti_X12_twinsOf : i_raw tb2_X12_twinsOf = ir_X12_twinsOf := by decide +kernel
theorem tz_X12_twinsOf : mZ2 mt2_X12_twinsOf := mz_of (m_chk_ok tm_X12_twinsOf) rfl ti_X12_twinsOf id_X12_twinsOf
theorem ti_X12_undo : i_raw tb2_X12_undo = ir_X12_undo := by decide +kernel
theorem tz_X12_undo : mZ2 mt2_X12_undo := mz_of (m_chk_ok tm_X12_undo) rfl ti_X12_undo id_X12_undo
theorem ti_X12_whyAsk : i_raw tb2_X12_whyAsk = ir_X12_whyAsk := by decide +kernel
theorem tz_X12_whyAsk : mZ2 mt2_X12_whyAsk := mz_of (m_chk_ok tm_X12_whyAsk) rfl ti_X12_whyAsk id_X12_whyAsk
theorem ti_X12_whyLearn : i_raw tb2_X12_whyLearn = ir_X12_whyLearn := by decide +kernel
theorem tz_X12_whyLearn : mZ2 mt2_X12_whyLearn := mz_of (m_chk_ok tm_X12_whyLearn) rfl ti_X12_whyLearn id_X12_whyLearn
theorem ti_X12_whyName : i_raw tb2_X12_whyName = ir_X12_whyName := by decide +kernel
theorem tz_X12_whyName : mZ2 mt2_X12_whyName := mz_of (m_chk_ok tm_X12_whyName) rfl ti_X12_whyName id_X12_whyName
theorem ti_X12_whyPoint : i_raw tb2_X12_whyPoint = ir_X12_whyPoint := by decide +kernel
theorem tz_X12_whyPoint : mZ2 mt2_X12_whyPoint := mz_of (m_chk_ok tm_X12_whyPoint) rfl ti_X12_whyPoint id_X12_whyPoint
theorem ti_X1_find : i_raw tb2_X1_find = ir_X1_find := by decide +kernel
theorem tz_X1_find : mZ2 mt2_X1_find := mz_of (m_chk_ok tm_X1_find) rfl ti_X1_find id_X1_find
theorem ti_X1_has : i_raw tb2_X1_has = ir_X1_has := by decide +kernel
theorem tz_X1_has : mZ2 mt2_X1_has := mz_of (m_chk_ok tm_X1_has) rfl ti_X1_has id_X1_has
theorem ti_X1_hasMarks : i_raw tb2_X1_hasMarks = ir_X1_hasMarks := by decide +kernel
theorem tz_X1_hasMarks : mZ2 mt2_X1_hasMarks := mz_of (m_chk_ok tm_X1_hasMarks) rfl ti_X1_hasMarks id_X1_hasMarks
theorem ti_X1_isForeign : i_raw tb2_X1_isForeign = ir_X1_isForeign := by decide +kernel
theorem tz_X1_isForeign : mZ2 mt2_X1_isForeign := mz_of (m_chk_ok tm_X1_isForeign) rfl ti_X1_isForeign id_X1_isForeign
theorem ti_X1_nameOf : i_raw tb2_X1_nameOf = ir_X1_nameOf := by decide +kernel
theorem tz_X1_nameOf : mZ2 mt2_X1_nameOf := mz_of (m_chk_ok tm_X1_nameOf) rfl ti_X1_nameOf id_X1_nameOf
theorem ti_X1_read : i_raw tb2_X1_read = ir_X1_read := by decide +kernel
theorem tz_X1_read : mZ2 mt2_X1_read := mz_of (m_chk_ok tm_X1_read) rfl ti_X1_read id_X1_read
theorem ti_X1_readLine : i_raw tb2_X1_readLine = ir_X1_readLine := by decide +kernel
theorem tz_X1_readLine : mZ2 mt2_X1_readLine := mz_of (m_chk_ok tm_X1_readLine) rfl ti_X1_readLine id_X1_readLine
theorem ti_X1_readNew : i_raw tb2_X1_readNew = ir_X1_readNew := by decide +kernel
theorem tz_X1_readNew : mZ2 mt2_X1_readNew := mz_of (m_chk_ok tm_X1_readNew) rfl ti_X1_readNew id_X1_readNew
theorem ti_X1_readPair : i_raw tb2_X1_readPair = ir_X1_readPair := by decide +kernel
theorem tz_X1_readPair : mZ2 mt2_X1_readPair := mz_of (m_chk_ok tm_X1_readPair) rfl ti_X1_readPair id_X1_readPair
theorem ti_X1_readPerson : i_raw tb2_X1_readPerson = ir_X1_readPerson := by decide +kernel
theorem tz_X1_readPerson : mZ2 mt2_X1_readPerson := mz_of (m_chk_ok tm_X1_readPerson) rfl ti_X1_readPerson id_X1_readPerson
theorem ti_X1_readSetting : i_raw tb2_X1_readSetting = ir_X1_readSetting := by decide +kernel
theorem tz_X1_readSetting : mZ2 mt2_X1_readSetting := mz_of (m_chk_ok tm_X1_readSetting) rfl ti_X1_readSetting id_X1_readSetting
theorem ti_X1_toldHere : i_raw tb2_X1_toldHere = ir_X1_toldHere := by decide +kernel
theorem tz_X1_toldHere : mZ2 mt2_X1_toldHere := mz_of (m_chk_ok tm_X1_toldHere) rfl ti_X1_toldHere id_X1_toldHere
theorem ti_X2_countFitting : i_raw tb2_X2_countFitting = ir_X2_countFitting := by decide +kernel
theorem tz_X2_countFitting : mZ2 mt2_X2_countFitting := mz_of (m_chk_ok tm_X2_countFitting) rfl ti_X2_countFitting id_X2_countFitting
theorem ti_X2_hear : i_raw tb2_X2_hear = ir_X2_hear := by decide +kernel
theorem tz_X2_hear : mZ2 mt2_X2_hear := mz_of (m_chk_ok tm_X2_hear) rfl ti_X2_hear id_X2_hear
theorem ti_X2_isJustSo : i_raw tb2_X2_isJustSo = ir_X2_isJustSo := by decide +kernel
theorem tz_X2_isJustSo : mZ2 mt2_X2_isJustSo := mz_of (m_chk_ok tm_X2_isJustSo) rfl ti_X2_isJustSo id_X2_isJustSo
theorem ti_X2_isTold : i_raw tb2_X2_isTold = ir_X2_isTold := by decide +kernel
theorem tz_X2_isTold : mZ2 mt2_X2_isTold := mz_of (m_chk_ok tm_X2_isTold) rfl ti_X2_isTold id_X2_isTold
theorem ti_X2_mostTelling : i_raw tb2_X2_mostTelling = ir_X2_mostTelling := by decide +kernel
theorem tz_X2_mostTelling : mZ2 mt2_X2_mostTelling := mz_of (m_chk_ok tm_X2_mostTelling) rfl ti_X2_mostTelling id_X2_mostTelling
theorem ti_X3_draw : i_raw tb2_X3_draw = ir_X3_draw := by decide +kernel
theorem tz_X3_draw : mZ2 mt2_X3_draw := mz_of (m_chk_ok tm_X3_draw) rfl ti_X3_draw id_X3_draw
theorem ti_X3_dropFirst : i_raw tb2_X3_dropFirst = ir_X3_dropFirst := by decide +kernel
theorem tz_X3_dropFirst : mZ2 mt2_X3_dropFirst := mz_of (m_chk_ok tm_X3_dropFirst) rfl ti_X3_dropFirst id_X3_dropFirst
theorem ti_X3_live : i_raw tb2_X3_live = ir_X3_live := by decide +kernel
theorem tz_X3_live : mZ2 mt2_X3_live := mz_of (m_chk_ok tm_X3_live) rfl ti_X3_live id_X3_live
theorem ti_X3_takeTurn : i_raw tb2_X3_takeTurn = ir_X3_takeTurn := by decide +kernel
theorem tz_X3_takeTurn : mZ2 mt2_X3_takeTurn := mz_of (m_chk_ok tm_X3_takeTurn) rfl ti_X3_takeTurn id_X3_takeTurn
theorem ti_X4_clear : i_raw tb2_X4_clear = ir_X4_clear := by decide +kernel
theorem tz_X4_clear : mZ2 mt2_X4_clear := mz_of (m_chk_ok tm_X4_clear) rfl ti_X4_clear id_X4_clear
theorem ti_X4_keep : i_raw tb2_X4_keep = ir_X4_keep := by decide +kernel
theorem tz_X4_keep : mZ2 mt2_X4_keep := mz_of (m_chk_ok tm_X4_keep) rfl ti_X4_keep id_X4_keep
theorem ti_X4_prepare : i_raw tb2_X4_prepare = ir_X4_prepare := by decide +kernel
theorem tz_X4_prepare : mZ2 mt2_X4_prepare := mz_of (m_chk_ok tm_X4_prepare) rfl ti_X4_prepare id_X4_prepare
theorem ti_X4_slot : i_raw tb2_X4_slot = ir_X4_slot := by decide +kernel
theorem tz_X4_slot : mZ2 mt2_X4_slot := mz_of (m_chk_ok tm_X4_slot) rfl ti_X4_slot id_X4_slot
theorem ti_X4_takeBack : i_raw tb2_X4_takeBack = ir_X4_takeBack := by decide +kernel
theorem tz_X4_takeBack : mZ2 mt2_X4_takeBack := mz_of (m_chk_ok tm_X4_takeBack) rfl ti_X4_takeBack id_X4_takeBack
theorem ti_X5_hasTwins : i_raw tb2_X5_hasTwins = ir_X5_hasTwins := by decide +kernel
theorem tz_X5_hasTwins : mZ2 mt2_X5_hasTwins := mz_of (m_chk_ok tm_X5_hasTwins) rfl ti_X5_hasTwins id_X5_hasTwins
theorem ti_X5_hearersOf : i_raw tb2_X5_hearersOf = ir_X5_hearersOf := by decide +kernel
theorem tz_X5_hearersOf : mZ2 mt2_X5_hearersOf := mz_of (m_chk_ok tm_X5_hearersOf) rfl ti_X5_hearersOf id_X5_hearersOf
theorem ti_X5_hoursOfNews : i_raw tb2_X5_hoursOfNews = ir_X5_hoursOfNews := by decide +kernel
theorem tz_X5_hoursOfNews : mZ2 mt2_X5_hoursOfNews := mz_of (m_chk_ok tm_X5_hoursOfNews) rfl ti_X5_hoursOfNews id_X5_hoursOfNews
theorem ti_X5_isShorter : i_raw tb2_X5_isShorter = ir_X5_isShorter := by decide +kernel
theorem tz_X5_isShorter : mZ2 mt2_X5_isShorter := mz_of (m_chk_ok tm_X5_isShorter) rfl ti_X5_isShorter id_X5_isShorter
theorem ti_X5_leastCant : i_raw tb2_X5_leastCant = ir_X5_leastCant := by decide +kernel
theorem tz_X5_leastCant : mZ2 mt2_X5_leastCant := mz_of (m_chk_ok tm_X5_leastCant) rfl ti_X5_leastCant id_X5_leastCant
theorem ti_X5_leastCover : i_raw tb2_X5_leastCover = ir_X5_leastCover := by decide +kernel
theorem tz_X5_leastCover : mZ2 mt2_X5_leastCover := mz_of (m_chk_ok tm_X5_leastCover) rfl ti_X5_leastCover id_X5_leastCover
theorem ti_X5_leastSaying : i_raw tb2_X5_leastSaying = ir_X5_leastSaying := by decide +kernel
theorem tz_X5_leastSaying : mZ2 mt2_X5_leastSaying := mz_of (m_chk_ok tm_X5_leastSaying) rfl ti_X5_leastSaying id_X5_leastSaying
theorem ti_X5_slips : i_raw tb2_X5_slips = ir_X5_slips := by decide +kernel
theorem tz_X5_slips : mZ2 mt2_X5_slips := mz_of (m_chk_ok tm_X5_slips) rfl ti_X5_slips id_X5_slips
theorem ti_X5_toldBy : i_raw tb2_X5_toldBy = ir_X5_toldBy := by decide +kernel
theorem tz_X5_toldBy : mZ2 mt2_X5_toldBy := mz_of (m_chk_ok tm_X5_toldBy) rfl ti_X5_toldBy id_X5_toldBy
theorem ti_X5_twinOf : i_raw tb2_X5_twinOf = ir_X5_twinOf := by decide +kernel
theorem tz_X5_twinOf : mZ2 mt2_X5_twinOf := mz_of (m_chk_ok tm_X5_twinOf) rfl ti_X5_twinOf id_X5_twinOf
theorem ti_X6_firstSaid : i_raw tb2_X6_firstSaid = ir_X6_firstSaid := by decide +kernel
theorem tz_X6_firstSaid : mZ2 mt2_X6_firstSaid := mz_of (m_chk_ok tm_X6_firstSaid) rfl ti_X6_firstSaid id_X6_firstSaid
theorem ti_X6_giveMarks : i_raw tb2_X6_giveMarks = ir_X6_giveMarks := by decide +kernel
theorem tz_X6_giveMarks : mZ2 mt2_X6_giveMarks := mz_of (m_chk_ok tm_X6_giveMarks) rfl ti_X6_giveMarks id_X6_giveMarks
theorem ti_X6_havingMark : i_raw tb2_X6_havingMark = ir_X6_havingMark := by decide +kernel
theorem tz_X6_havingMark : mZ2 mt2_X6_havingMark := mz_of (m_chk_ok tm_X6_havingMark) rfl ti_X6_havingMark id_X6_havingMark
theorem ti_X6_leastOwning : i_raw tb2_X6_leastOwning = ir_X6_leastOwning := by decide +kernel
theorem tz_X6_leastOwning : mZ2 mt2_X6_leastOwning := mz_of (m_chk_ok tm_X6_leastOwning) rfl ti_X6_leastOwning id_X6_leastOwning
theorem ti_X6_sayThings : i_raw tb2_X6_sayThings = ir_X6_sayThings := by decide +kernel
theorem tz_X6_sayThings : mZ2 mt2_X6_sayThings := mz_of (m_chk_ok tm_X6_sayThings) rfl ti_X6_sayThings id_X6_sayThings
theorem ti_X6_settle : i_raw tb2_X6_settle = ir_X6_settle := by decide +kernel
theorem tz_X6_settle : mZ2 mt2_X6_settle := mz_of (m_chk_ok tm_X6_settle) rfl ti_X6_settle id_X6_settle
theorem ti_X7_allCarried : i_raw tb2_X7_allCarried = ir_X7_allCarried := by decide +kernel
theorem tz_X7_allCarried : mZ2 mt2_X7_allCarried := mz_of (m_chk_ok tm_X7_allCarried) rfl ti_X7_allCarried id_X7_allCarried
theorem ti_X7_allCoins : i_raw tb2_X7_allCoins = ir_X7_allCoins := by decide +kernel
theorem tz_X7_allCoins : mZ2 mt2_X7_allCoins := mz_of (m_chk_ok tm_X7_allCoins) rfl ti_X7_allCoins id_X7_allCoins
theorem ti_X7_areTogether : i_raw tb2_X7_areTogether = ir_X7_areTogether := by decide +kernel
theorem tz_X7_areTogether : mZ2 mt2_X7_areTogether := mz_of (m_chk_ok tm_X7_areTogether) rfl ti_X7_areTogether id_X7_areTogether
theorem ti_X7_begin : i_raw tb2_X7_begin = ir_X7_begin := by decide +kernel
theorem tz_X7_begin : mZ2 mt2_X7_begin := mz_of (m_chk_ok tm_X7_begin) rfl ti_X7_begin id_X7_begin
theorem ti_X7_callByName : i_raw tb2_X7_callByName = ir_X7_callByName := by decide +kernel
theorem tz_X7_callByName : mZ2 mt2_X7_callByName := mz_of (m_chk_ok tm_X7_callByName) rfl ti_X7_callByName id_X7_callByName
theorem ti_X7_carriedBy : i_raw tb2_X7_carriedBy = ir_X7_carriedBy := by decide +kernel
theorem tz_X7_carriedBy : mZ2 mt2_X7_carriedBy := mz_of (m_chk_ok tm_X7_carriedBy) rfl ti_X7_carriedBy id_X7_carriedBy
theorem ti_X7_copyFrom : i_raw tb2_X7_copyFrom = ir_X7_copyFrom := by decide +kernel
theorem tz_X7_copyFrom : mZ2 mt2_X7_copyFrom := mz_of (m_chk_ok tm_X7_copyFrom) rfl ti_X7_copyFrom id_X7_copyFrom
theorem ti_X7_daysLeft : i_raw tb2_X7_daysLeft = ir_X7_daysLeft := by decide +kernel
theorem tz_X7_daysLeft : mZ2 mt2_X7_daysLeft := mz_of (m_chk_ok tm_X7_daysLeft) rfl ti_X7_daysLeft id_X7_daysLeft
theorem ti_X7_drop : i_raw tb2_X7_drop = ir_X7_drop := by decide +kernel
theorem tz_X7_drop : mZ2 mt2_X7_drop := mz_of (m_chk_ok tm_X7_drop) rfl ti_X7_drop id_X7_drop
theorem ti_X7_fitting : i_raw tb2_X7_fitting = ir_X7_fitting := by decide +kernel
theorem tz_X7_fitting : mZ2 mt2_X7_fitting := mz_of (m_chk_ok tm_X7_fitting) rfl ti_X7_fitting id_X7_fitting
theorem ti_X7_has : i_raw tb2_X7_has = ir_X7_has := by decide +kernel
theorem tz_X7_has : mZ2 mt2_X7_has := mz_of (m_chk_ok tm_X7_has) rfl ti_X7_has id_X7_has
theorem ti_X7_isFast : i_raw tb2_X7_isFast = ir_X7_isFast := by decide +kernel
theorem tz_X7_isFast : mZ2 mt2_X7_isFast := mz_of (m_chk_ok tm_X7_isFast) rfl ti_X7_isFast id_X7_isFast
theorem ti_X7_isFitting : i_raw tb2_X7_isFitting = ir_X7_isFitting := by decide +kernel
theorem tz_X7_isFitting : mZ2 mt2_X7_isFitting := mz_of (m_chk_ok tm_X7_isFitting) rfl ti_X7_isFitting id_X7_isFitting
theorem ti_X7_isLying : i_raw tb2_X7_isLying = ir_X7_isLying := by decide +kernel
theorem tz_X7_isLying : mZ2 mt2_X7_isLying := mz_of (m_chk_ok tm_X7_isLying) rfl ti_X7_isLying id_X7_isLying
theorem ti_X7_liesBefore : i_raw tb2_X7_liesBefore = ir_X7_liesBefore := by decide +kernel
theorem tz_X7_liesBefore : mZ2 mt2_X7_liesBefore := mz_of (m_chk_ok tm_X7_liesBefore) rfl ti_X7_liesBefore id_X7_liesBefore
theorem ti_X7_lyingAt : i_raw tb2_X7_lyingAt = ir_X7_lyingAt := by decide +kernel
theorem tz_X7_lyingAt : mZ2 mt2_X7_lyingAt := mz_of (m_chk_ok tm_X7_lyingAt) rfl ti_X7_lyingAt id_X7_lyingAt
theorem ti_X7_passDay : i_raw tb2_X7_passDay = ir_X7_passDay := by decide +kernel
theorem tz_X7_passDay : mZ2 mt2_X7_passDay := mz_of (m_chk_ok tm_X7_passDay) rfl ti_X7_passDay id_X7_passDay
theorem ti_X7_passDays : i_raw tb2_X7_passDays = ir_X7_passDays := by decide +kernel
theorem tz_X7_passDays : mZ2 mt2_X7_passDays := mz_of (m_chk_ok tm_X7_passDays) rfl ti_X7_passDays id_X7_passDays
theorem ti_X7_placeOf : i_raw tb2_X7_placeOf = ir_X7_placeOf := by decide +kernel
theorem tz_X7_placeOf : mZ2 mt2_X7_placeOf := mz_of (m_chk_ok tm_X7_placeOf) rfl ti_X7_placeOf id_X7_placeOf
theorem ti_X7_pointAt : i_raw tb2_X7_pointAt = ir_X7_pointAt := by decide +kernel
theorem tz_X7_pointAt : mZ2 mt2_X7_pointAt := mz_of (m_chk_ok tm_X7_pointAt) rfl ti_X7_pointAt id_X7_pointAt
theorem ti_X7_request : i_raw tb2_X7_request = ir_X7_request := by decide +kernel
theorem tz_X7_request : mZ2 mt2_X7_request := mz_of (m_chk_ok tm_X7_request) rfl ti_X7_request id_X7_request
theorem ti_X7_study : i_raw tb2_X7_study = ir_X7_study := by decide +kernel
theorem tz_X7_study : mZ2 mt2_X7_study := mz_of (m_chk_ok tm_X7_study) rfl ti_X7_study id_X7_study
theorem ti_X7_walk : i_raw tb2_X7_walk = ir_X7_walk := by decide +kernel
theorem tz_X7_walk : mZ2 mt2_X7_walk := mz_of (m_chk_ok tm_X7_walk) rfl ti_X7_walk id_X7_walk
theorem ti_X8_add : i_raw tb2_X8_add = ir_X8_add := by decide +kernel
theorem tz_X8_add : mZ2 mt2_X8_add := mz_of (m_chk_ok tm_X8_add) rfl ti_X8_add id_X8_add
theorem ti_X8_holds : i_raw tb2_X8_holds = ir_X8_holds := by decide +kernel
theorem tz_X8_holds : mZ2 mt2_X8_holds := mz_of (m_chk_ok tm_X8_holds) rfl ti_X8_holds id_X8_holds
theorem ti_X8_isSo : i_raw tb2_X8_isSo = ir_X8_isSo := by decide +kernel
theorem tz_X8_isSo : mZ2 mt2_X8_isSo := mz_of (m_chk_ok tm_X8_isSo) rfl ti_X8_isSo id_X8_isSo
theorem ti_X8_readAll : i_raw tb2_X8_readAll = ir_X8_readAll := by decide +kernel
theorem tz_X8_readAll : mZ2 mt2_X8_readAll := mz_of (m_chk_ok tm_X8_readAll) rfl ti_X8_readAll id_X8_readAll
theorem ti_X8_readCondition : i_raw tb2_X8_readCondition = ir_X8_readCondition := by decide +kernel
theorem tz_X8_readCondition : mZ2 mt2_X8_readCondition := mz_of (m_chk_ok tm_X8_readCondition) rfl ti_X8_readCondition id_X8_readCondition
theorem ti_X8_readOne : i_raw tb2_X8_readOne = ir_X8_readOne := by decide +kernel
theorem tz_X8_readOne : mZ2 mt2_X8_readOne := mz_of (m_chk_ok tm_X8_readOne) rfl ti_X8_readOne id_X8_readOne
theorem ti_X8_readPlain : i_raw tb2_X8_readPlain = ir_X8_readPlain := by decide +kernel
theorem tz_X8_readPlain : mZ2 mt2_X8_readPlain := mz_of (m_chk_ok tm_X8_readPlain) rfl ti_X8_readPlain id_X8_readPlain
theorem ti_X8_sortBehind : i_raw tb2_X8_sortBehind = ir_X8_sortBehind := by decide +kernel
theorem tz_X8_sortBehind : mZ2 mt2_X8_sortBehind := mz_of (m_chk_ok tm_X8_sortBehind) rfl ti_X8_sortBehind id_X8_sortBehind
theorem ti_X8_thingsIn : i_raw tb2_X8_thingsIn = ir_X8_thingsIn := by decide +kernel
theorem tz_X8_thingsIn : mZ2 mt2_X8_thingsIn := mz_of (m_chk_ok tm_X8_thingsIn) rfl ti_X8_thingsIn id_X8_thingsIn
theorem ti_X8_thingsOfPart : i_raw tb2_X8_thingsOfPart = ir_X8_thingsOfPart := by decide +kernel
theorem tz_X8_thingsOfPart : mZ2 mt2_X8_thingsOfPart := mz_of (m_chk_ok tm_X8_thingsOfPart) rfl ti_X8_thingsOfPart id_X8_thingsOfPart
theorem ti_X9_append : i_raw tb2_X9_append = ir_X9_append := by decide +kernel
theorem tz_X9_append : mZ2 mt2_X9_append := mz_of (m_chk_ok tm_X9_append) rfl ti_X9_append id_X9_append
theorem ti_X9_at : i_raw tb2_X9_at = ir_X9_at := by decide +kernel
theorem tz_X9_at : mZ2 mt2_X9_at := mz_of (m_chk_ok tm_X9_at) rfl ti_X9_at id_X9_at
theorem tp_0 : ∀ M ∈ [mt2_J3_checkIndex_8e157, mt2_J6_bitCount_0f7a4, mt2_J6_lowestOneBit_0f7a4, mt2_J6_numberOfTrailingZeros_0f7a4, mt2_J9_floorMod_7cf53, mt2_J9_max_7cf53, mt2_J9_min_7cf53, mt2_X0_because, mt2_X0_judge, mt2_X0_liveDays, mt2_X0_liveLine, mt2_X0_read, mt2_X0_readAct, mt2_X0_readLine, mt2_X0_readSaying, mt2_X0_sortBehind, mt2_X0_tell, mt2_X10_behindBlanks, mt2_X10_fail, mt2_X10_isDigit, mt2_X10_isLetter, mt2_X10_isSpelled, mt2_X10_isWord, mt2_X10_open, mt2_X10_plainWord], mZ2 M := all_c tz_J3_checkIndex_8e157 (all_c tz_J6_bitCount_0f7a4 (all_c tz_J6_lowestOneBit_0f7a4 (all_c tz_J6_numberOfTrailingZeros_0f7a4 (all_c tz_J9_floorMod_7cf53 (all_c tz_J9_max_7cf53 (all_c tz_J9_min_7cf53 (all_c tz_X0_because (all_c tz_X0_judge (all_c tz_X0_liveDays (all_c tz_X0_liveLine (all_c tz_X0_read (all_c tz_X0_readAct (all_c tz_X0_readLine (all_c tz_X0_readSaying (all_c tz_X0_sortBehind (all_c tz_X0_tell (all_c tz_X10_behindBlanks (all_c tz_X10_fail (all_c tz_X10_isDigit (all_c tz_X10_isLetter (all_c tz_X10_isSpelled (all_c tz_X10_isWord (all_c tz_X10_open (all_c tz_X10_plainWord (all_0)))))))))))))))))))))))))
theorem tp_1 : ∀ M ∈ [mt2_X10_readRun, mt2_X10_readToken, mt2_X10_step, mt2_X10_takeEnd, mt2_X10_takeNumber, mt2_X10_takeSign, mt2_X10_wordIn, mt2_X10_wordNumber, mt2_X11_ask, mt2_X11_bitAt, mt2_X11_book, mt2_X11_byteAt, mt2_X11_cant, mt2_X11_canting, mt2_X11_city, mt2_X11_closeText, mt2_X11_count, mt2_X11_cover, mt2_X11_covering, mt2_X11_days, mt2_X11_drawn, mt2_X11_end, mt2_X11_fault, mt2_X11_feed, mt2_X11_firstBit], mZ2 M := all_c tz_X10_readRun (all_c tz_X10_readToken (all_c tz_X10_step (all_c tz_X10_takeEnd (all_c tz_X10_takeNumber (all_c tz_X10_takeSign (all_c tz_X10_wordIn (all_c tz_X10_wordNumber (all_c tz_X11_ask (all_c tz_X11_bitAt (all_c tz_X11_book (all_c tz_X11_byteAt (all_c tz_X11_cant (all_c tz_X11_canting (all_c tz_X11_city (all_c tz_X11_closeText (all_c tz_X11_count (all_c tz_X11_cover (all_c tz_X11_covering (all_c tz_X11_days (all_c tz_X11_drawn (all_c tz_X11_end (all_c tz_X11_fault (all_c tz_X11_feed (all_c tz_X11_firstBit (all_0)))))))))))))))))))))))))
theorem tp_2 : ∀ M ∈ [mt2_X11_fits, mt2_X11_go, mt2_X11_greatestShared, mt2_X11_image, mt2_X11_kept, mt2_X11_keptDays, mt2_X11_learn, mt2_X11_lies, mt2_X11_name, mt2_X11_news, mt2_X11_now, mt2_X11_odds, mt2_X11_person, mt2_X11_phrase, mt2_X11_point, mt2_X11_put, mt2_X11_rest, mt2_X11_rested, mt2_X11_restore, mt2_X11_said, mt2_X11_say, mt2_X11_saying, mt2_X11_sentence, mt2_X11_show, mt2_X11_slip], mZ2 M := all_c tz_X11_fits (all_c tz_X11_go (all_c tz_X11_greatestShared (all_c tz_X11_image (all_c tz_X11_kept (all_c tz_X11_keptDays (all_c tz_X11_learn (all_c tz_X11_lies (all_c tz_X11_name (all_c tz_X11_news (all_c tz_X11_now (all_c tz_X11_odds (all_c tz_X11_person (all_c tz_X11_phrase (all_c tz_X11_point (all_c tz_X11_put (all_c tz_X11_rest (all_c tz_X11_rested (all_c tz_X11_restore (all_c tz_X11_said (all_c tz_X11_say (all_c tz_X11_saying (all_c tz_X11_sentence (all_c tz_X11_show (all_c tz_X11_slip (all_0)))))))))))))))))))))))))
theorem tp_3 : ∀ M ∈ [mt2_X11_spellByte, mt2_X11_spellName, mt2_X11_spellRoundabout, mt2_X11_spoken, mt2_X11_surely, mt2_X11_thing, mt2_X11_told, mt2_X11_twin, mt2_X11_undo, mt2_X12_areApart, mt2_X12_ask, mt2_X12_asks, mt2_X12_back, mt2_X12_bad, mt2_X12_behind, mt2_X12_bitOf, mt2_X12_bits, mt2_X12_book, mt2_X12_bookLine, mt2_X12_byteAt, mt2_X12_cant, mt2_X12_canting, mt2_X12_carriedBy, mt2_X12_carriedSet, mt2_X12_city], mZ2 M := all_c tz_X11_spellByte (all_c tz_X11_spellName (all_c tz_X11_spellRoundabout (all_c tz_X11_spoken (all_c tz_X11_surely (all_c tz_X11_thing (all_c tz_X11_told (all_c tz_X11_twin (all_c tz_X11_undo (all_c tz_X12_areApart (all_c tz_X12_ask (all_c tz_X12_asks (all_c tz_X12_back (all_c tz_X12_bad (all_c tz_X12_behind (all_c tz_X12_bitOf (all_c tz_X12_bits (all_c tz_X12_book (all_c tz_X12_bookLine (all_c tz_X12_byteAt (all_c tz_X12_cant (all_c tz_X12_canting (all_c tz_X12_carriedBy (all_c tz_X12_carriedSet (all_c tz_X12_city (all_0)))))))))))))))))))))))))
theorem tp_4 : ∀ M ∈ [mt2_X12_clears, mt2_X12_code, mt2_X12_count, mt2_X12_cover, mt2_X12_covering, mt2_X12_day, mt2_X12_days, mt2_X12_does, mt2_X12_draw, mt2_X12_drawPerson, mt2_X12_drawn, mt2_X12_draws, mt2_X12_end, mt2_X12_fault, mt2_X12_feed, mt2_X12_find, mt2_X12_firstOf, mt2_X12_fits, mt2_X12_fitting, mt2_X12_four, mt2_X12_fresh, mt2_X12_go, mt2_X12_goesOn, mt2_X12_greater, mt2_X12_hasAll], mZ2 M := all_c tz_X12_clears (all_c tz_X12_code (all_c tz_X12_count (all_c tz_X12_cover (all_c tz_X12_covering (all_c tz_X12_day (all_c tz_X12_days (all_c tz_X12_does (all_c tz_X12_draw (all_c tz_X12_drawPerson (all_c tz_X12_drawn (all_c tz_X12_draws (all_c tz_X12_end (all_c tz_X12_fault (all_c tz_X12_feed (all_c tz_X12_find (all_c tz_X12_firstOf (all_c tz_X12_fits (all_c tz_X12_fitting (all_c tz_X12_four (all_c tz_X12_fresh (all_c tz_X12_go (all_c tz_X12_goesOn (all_c tz_X12_greater (all_c tz_X12_hasAll (all_0)))))))))))))))))))))))))
theorem tp_5 : ∀ M ∈ [mt2_X12_image, mt2_X12_isCarried, mt2_X12_isCover, mt2_X12_isDigit, mt2_X12_isFast, mt2_X12_isFined, mt2_X12_isFit, mt2_X12_isIn, mt2_X12_isLeaf, mt2_X12_isName, mt2_X12_isNear, mt2_X12_isPerson, mt2_X12_isPlace, mt2_X12_isSaid, mt2_X12_isSaying, mt2_X12_isSign, mt2_X12_isSmall, mt2_X12_isSpoken, mt2_X12_isThing, mt2_X12_isWord, mt2_X12_joins, mt2_X12_keep, mt2_X12_lays, mt2_X12_leafOf, mt2_X12_learn], mZ2 M := all_c tz_X12_image (all_c tz_X12_isCarried (all_c tz_X12_isCover (all_c tz_X12_isDigit (all_c tz_X12_isFast (all_c tz_X12_isFined (all_c tz_X12_isFit (all_c tz_X12_isIn (all_c tz_X12_isLeaf (all_c tz_X12_isName (all_c tz_X12_isNear (all_c tz_X12_isPerson (all_c tz_X12_isPlace (all_c tz_X12_isSaid (all_c tz_X12_isSaying (all_c tz_X12_isSign (all_c tz_X12_isSmall (all_c tz_X12_isSpoken (all_c tz_X12_isThing (all_c tz_X12_isWord (all_c tz_X12_joins (all_c tz_X12_keep (all_c tz_X12_lays (all_c tz_X12_leafOf (all_c tz_X12_learn (all_0)))))))))))))))))))))))))
theorem tp_6 : ∀ M ∈ [mt2_X12_learnsOne, mt2_X12_lesser, mt2_X12_lies, mt2_X12_line, mt2_X12_looksAt, mt2_X12_lyingAt, mt2_X12_meansAnew, mt2_X12_meantBy, mt2_X12_name, mt2_X12_namesOne, mt2_X12_news, mt2_X12_next, mt2_X12_nots, mt2_X12_now, mt2_X12_octet, mt2_X12_odds, mt2_X12_once, mt2_X12_operand, mt2_X12_peek, mt2_X12_person, mt2_X12_phrase, mt2_X12_placeOf, mt2_X12_point, mt2_X12_pointsAt, mt2_X12_put], mZ2 M := all_c tz_X12_learnsOne (all_c tz_X12_lesser (all_c tz_X12_lies (all_c tz_X12_line (all_c tz_X12_looksAt (all_c tz_X12_lyingAt (all_c tz_X12_meansAnew (all_c tz_X12_meantBy (all_c tz_X12_name (all_c tz_X12_namesOne (all_c tz_X12_news (all_c tz_X12_next (all_c tz_X12_nots (all_c tz_X12_now (all_c tz_X12_octet (all_c tz_X12_odds (all_c tz_X12_once (all_c tz_X12_operand (all_c tz_X12_peek (all_c tz_X12_person (all_c tz_X12_phrase (all_c tz_X12_placeOf (all_c tz_X12_point (all_c tz_X12_pointsAt (all_c tz_X12_put (all_0)))))))))))))))))))))))))
theorem tp_7 : ∀ M ∈ [mt2_X12_puts, mt2_X12_putsDown, mt2_X12_readNew, mt2_X12_readPerson, mt2_X12_readThing, mt2_X12_readTie, mt2_X12_rest, mt2_X12_rested, mt2_X12_restore, mt2_X12_said, mt2_X12_say, mt2_X12_saying, mt2_X12_says, mt2_X12_saysAnew, mt2_X12_sentence, mt2_X12_show, mt2_X12_sign, mt2_X12_slip, mt2_X12_spells, mt2_X12_spoken, mt2_X12_surely, mt2_X12_taken, mt2_X12_takes, mt2_X12_takesMarks, mt2_X12_takesName], mZ2 M := all_c tz_X12_puts (all_c tz_X12_putsDown (all_c tz_X12_readNew (all_c tz_X12_readPerson (all_c tz_X12_readThing (all_c tz_X12_readTie (all_c tz_X12_rest (all_c tz_X12_rested (all_c tz_X12_restore (all_c tz_X12_said (all_c tz_X12_say (all_c tz_X12_saying (all_c tz_X12_says (all_c tz_X12_saysAnew (all_c tz_X12_sentence (all_c tz_X12_show (all_c tz_X12_sign (all_c tz_X12_slip (all_c tz_X12_spells (all_c tz_X12_spoken (all_c tz_X12_surely (all_c tz_X12_taken (all_c tz_X12_takes (all_c tz_X12_takesMarks (all_c tz_X12_takesName (all_0)))))))))))))))))))))))))
theorem tp_8 : ∀ M ∈ [mt2_X12_thing, mt2_X12_throwsIf, mt2_X12_told, mt2_X12_tries, mt2_X12_twin, mt2_X12_twinsOf, mt2_X12_undo, mt2_X12_whyAsk, mt2_X12_whyLearn, mt2_X12_whyName, mt2_X12_whyPoint, mt2_X1_find, mt2_X1_has, mt2_X1_hasMarks, mt2_X1_isForeign, mt2_X1_nameOf, mt2_X1_read, mt2_X1_readLine, mt2_X1_readNew, mt2_X1_readPair, mt2_X1_readPerson, mt2_X1_readSetting, mt2_X1_toldHere, mt2_X2_countFitting, mt2_X2_hear], mZ2 M := all_c tz_X12_thing (all_c tz_X12_throwsIf (all_c tz_X12_told (all_c tz_X12_tries (all_c tz_X12_twin (all_c tz_X12_twinsOf (all_c tz_X12_undo (all_c tz_X12_whyAsk (all_c tz_X12_whyLearn (all_c tz_X12_whyName (all_c tz_X12_whyPoint (all_c tz_X1_find (all_c tz_X1_has (all_c tz_X1_hasMarks (all_c tz_X1_isForeign (all_c tz_X1_nameOf (all_c tz_X1_read (all_c tz_X1_readLine (all_c tz_X1_readNew (all_c tz_X1_readPair (all_c tz_X1_readPerson (all_c tz_X1_readSetting (all_c tz_X1_toldHere (all_c tz_X2_countFitting (all_c tz_X2_hear (all_0)))))))))))))))))))))))))
theorem tp_9 : ∀ M ∈ [mt2_X2_isJustSo, mt2_X2_isTold, mt2_X2_mostTelling, mt2_X3_draw, mt2_X3_dropFirst, mt2_X3_live, mt2_X3_takeTurn, mt2_X4_clear, mt2_X4_keep, mt2_X4_prepare, mt2_X4_slot, mt2_X4_takeBack, mt2_X5_hasTwins, mt2_X5_hearersOf, mt2_X5_hoursOfNews, mt2_X5_isShorter, mt2_X5_leastCant, mt2_X5_leastCover, mt2_X5_leastSaying, mt2_X5_slips, mt2_X5_toldBy, mt2_X5_twinOf, mt2_X6_firstSaid, mt2_X6_giveMarks, mt2_X6_havingMark], mZ2 M := all_c tz_X2_isJustSo (all_c tz_X2_isTold (all_c tz_X2_mostTelling (all_c tz_X3_draw (all_c tz_X3_dropFirst (all_c tz_X3_live (all_c tz_X3_takeTurn (all_c tz_X4_clear (all_c tz_X4_keep (all_c tz_X4_prepare (all_c tz_X4_slot (all_c tz_X4_takeBack (all_c tz_X5_hasTwins (all_c tz_X5_hearersOf (all_c tz_X5_hoursOfNews (all_c tz_X5_isShorter (all_c tz_X5_leastCant (all_c tz_X5_leastCover (all_c tz_X5_leastSaying (all_c tz_X5_slips (all_c tz_X5_toldBy (all_c tz_X5_twinOf (all_c tz_X6_firstSaid (all_c tz_X6_giveMarks (all_c tz_X6_havingMark (all_0)))))))))))))))))))))))))
theorem tp_10 : ∀ M ∈ [mt2_X6_leastOwning, mt2_X6_sayThings, mt2_X6_settle, mt2_X7_allCarried, mt2_X7_allCoins, mt2_X7_areTogether, mt2_X7_begin, mt2_X7_callByName, mt2_X7_carriedBy, mt2_X7_copyFrom, mt2_X7_daysLeft, mt2_X7_drop, mt2_X7_fitting, mt2_X7_has, mt2_X7_isFast, mt2_X7_isFitting, mt2_X7_isLying, mt2_X7_liesBefore, mt2_X7_lyingAt, mt2_X7_passDay, mt2_X7_passDays, mt2_X7_placeOf, mt2_X7_pointAt, mt2_X7_request, mt2_X7_study], mZ2 M := all_c tz_X6_leastOwning (all_c tz_X6_sayThings (all_c tz_X6_settle (all_c tz_X7_allCarried (all_c tz_X7_allCoins (all_c tz_X7_areTogether (all_c tz_X7_begin (all_c tz_X7_callByName (all_c tz_X7_carriedBy (all_c tz_X7_copyFrom (all_c tz_X7_daysLeft (all_c tz_X7_drop (all_c tz_X7_fitting (all_c tz_X7_has (all_c tz_X7_isFast (all_c tz_X7_isFitting (all_c tz_X7_isLying (all_c tz_X7_liesBefore (all_c tz_X7_lyingAt (all_c tz_X7_passDay (all_c tz_X7_passDays (all_c tz_X7_placeOf (all_c tz_X7_pointAt (all_c tz_X7_request (all_c tz_X7_study (all_0)))))))))))))))))))))))))
theorem tp_11 : ∀ M ∈ [mt2_X7_walk, mt2_X8_add, mt2_X8_holds, mt2_X8_isSo, mt2_X8_readAll, mt2_X8_readCondition, mt2_X8_readOne, mt2_X8_readPlain, mt2_X8_sortBehind, mt2_X8_thingsIn, mt2_X8_thingsOfPart, mt2_X9_append, mt2_X9_at], mZ2 M := all_c tz_X7_walk (all_c tz_X8_add (all_c tz_X8_holds (all_c tz_X8_isSo (all_c tz_X8_readAll (all_c tz_X8_readCondition (all_c tz_X8_readOne (all_c tz_X8_readPlain (all_c tz_X8_sortBehind (all_c tz_X8_thingsIn (all_c tz_X8_thingsOfPart (all_c tz_X9_append (all_c tz_X9_at (all_0)))))))))))))
set_option maxRecDepth 100000 in
theorem prg_ok : ∀ M ∈ PR2, mZ2 M := by
  intro M h
  have h : M ∈ ([mt2_J3_checkIndex_8e157, mt2_J6_bitCount_0f7a4, mt2_J6_lowestOneBit_0f7a4, mt2_J6_numberOfTrailingZeros_0f7a4, mt2_J9_floorMod_7cf53, mt2_J9_max_7cf53, mt2_J9_min_7cf53, mt2_X0_because, mt2_X0_judge, mt2_X0_liveDays, mt2_X0_liveLine, mt2_X0_read, mt2_X0_readAct, mt2_X0_readLine, mt2_X0_readSaying, mt2_X0_sortBehind, mt2_X0_tell, mt2_X10_behindBlanks, mt2_X10_fail, mt2_X10_isDigit, mt2_X10_isLetter, mt2_X10_isSpelled, mt2_X10_isWord, mt2_X10_open, mt2_X10_plainWord] ++ [mt2_X10_readRun, mt2_X10_readToken, mt2_X10_step, mt2_X10_takeEnd, mt2_X10_takeNumber, mt2_X10_takeSign, mt2_X10_wordIn, mt2_X10_wordNumber, mt2_X11_ask, mt2_X11_bitAt, mt2_X11_book, mt2_X11_byteAt, mt2_X11_cant, mt2_X11_canting, mt2_X11_city, mt2_X11_closeText, mt2_X11_count, mt2_X11_cover, mt2_X11_covering, mt2_X11_days, mt2_X11_drawn, mt2_X11_end, mt2_X11_fault, mt2_X11_feed, mt2_X11_firstBit] ++ [mt2_X11_fits, mt2_X11_go, mt2_X11_greatestShared, mt2_X11_image, mt2_X11_kept, mt2_X11_keptDays, mt2_X11_learn, mt2_X11_lies, mt2_X11_name, mt2_X11_news, mt2_X11_now, mt2_X11_odds, mt2_X11_person, mt2_X11_phrase, mt2_X11_point, mt2_X11_put, mt2_X11_rest, mt2_X11_rested, mt2_X11_restore, mt2_X11_said, mt2_X11_say, mt2_X11_saying, mt2_X11_sentence, mt2_X11_show, mt2_X11_slip] ++ [mt2_X11_spellByte, mt2_X11_spellName, mt2_X11_spellRoundabout, mt2_X11_spoken, mt2_X11_surely, mt2_X11_thing, mt2_X11_told, mt2_X11_twin, mt2_X11_undo, mt2_X12_areApart, mt2_X12_ask, mt2_X12_asks, mt2_X12_back, mt2_X12_bad, mt2_X12_behind, mt2_X12_bitOf, mt2_X12_bits, mt2_X12_book, mt2_X12_bookLine, mt2_X12_byteAt, mt2_X12_cant, mt2_X12_canting, mt2_X12_carriedBy, mt2_X12_carriedSet, mt2_X12_city] ++ [mt2_X12_clears, mt2_X12_code, mt2_X12_count, mt2_X12_cover, mt2_X12_covering, mt2_X12_day, mt2_X12_days, mt2_X12_does, mt2_X12_draw, mt2_X12_drawPerson, mt2_X12_drawn, mt2_X12_draws, mt2_X12_end, mt2_X12_fault, mt2_X12_feed, mt2_X12_find, mt2_X12_firstOf, mt2_X12_fits, mt2_X12_fitting, mt2_X12_four, mt2_X12_fresh, mt2_X12_go, mt2_X12_goesOn, mt2_X12_greater, mt2_X12_hasAll] ++ [mt2_X12_image, mt2_X12_isCarried, mt2_X12_isCover, mt2_X12_isDigit, mt2_X12_isFast, mt2_X12_isFined, mt2_X12_isFit, mt2_X12_isIn, mt2_X12_isLeaf, mt2_X12_isName, mt2_X12_isNear, mt2_X12_isPerson, mt2_X12_isPlace, mt2_X12_isSaid, mt2_X12_isSaying, mt2_X12_isSign, mt2_X12_isSmall, mt2_X12_isSpoken, mt2_X12_isThing, mt2_X12_isWord, mt2_X12_joins, mt2_X12_keep, mt2_X12_lays, mt2_X12_leafOf, mt2_X12_learn] ++ [mt2_X12_learnsOne, mt2_X12_lesser, mt2_X12_lies, mt2_X12_line, mt2_X12_looksAt, mt2_X12_lyingAt, mt2_X12_meansAnew, mt2_X12_meantBy, mt2_X12_name, mt2_X12_namesOne, mt2_X12_news, mt2_X12_next, mt2_X12_nots, mt2_X12_now, mt2_X12_octet, mt2_X12_odds, mt2_X12_once, mt2_X12_operand, mt2_X12_peek, mt2_X12_person, mt2_X12_phrase, mt2_X12_placeOf, mt2_X12_point, mt2_X12_pointsAt, mt2_X12_put] ++ [mt2_X12_puts, mt2_X12_putsDown, mt2_X12_readNew, mt2_X12_readPerson, mt2_X12_readThing, mt2_X12_readTie, mt2_X12_rest, mt2_X12_rested, mt2_X12_restore, mt2_X12_said, mt2_X12_say, mt2_X12_saying, mt2_X12_says, mt2_X12_saysAnew, mt2_X12_sentence, mt2_X12_show, mt2_X12_sign, mt2_X12_slip, mt2_X12_spells, mt2_X12_spoken, mt2_X12_surely, mt2_X12_taken, mt2_X12_takes, mt2_X12_takesMarks, mt2_X12_takesName] ++ [mt2_X12_thing, mt2_X12_throwsIf, mt2_X12_told, mt2_X12_tries, mt2_X12_twin, mt2_X12_twinsOf, mt2_X12_undo, mt2_X12_whyAsk, mt2_X12_whyLearn, mt2_X12_whyName, mt2_X12_whyPoint, mt2_X1_find, mt2_X1_has, mt2_X1_hasMarks, mt2_X1_isForeign, mt2_X1_nameOf, mt2_X1_read, mt2_X1_readLine, mt2_X1_readNew, mt2_X1_readPair, mt2_X1_readPerson, mt2_X1_readSetting, mt2_X1_toldHere, mt2_X2_countFitting, mt2_X2_hear] ++ [mt2_X2_isJustSo, mt2_X2_isTold, mt2_X2_mostTelling, mt2_X3_draw, mt2_X3_dropFirst, mt2_X3_live, mt2_X3_takeTurn, mt2_X4_clear, mt2_X4_keep, mt2_X4_prepare, mt2_X4_slot, mt2_X4_takeBack, mt2_X5_hasTwins, mt2_X5_hearersOf, mt2_X5_hoursOfNews, mt2_X5_isShorter, mt2_X5_leastCant, mt2_X5_leastCover, mt2_X5_leastSaying, mt2_X5_slips, mt2_X5_toldBy, mt2_X5_twinOf, mt2_X6_firstSaid, mt2_X6_giveMarks, mt2_X6_havingMark] ++ [mt2_X6_leastOwning, mt2_X6_sayThings, mt2_X6_settle, mt2_X7_allCarried, mt2_X7_allCoins, mt2_X7_areTogether, mt2_X7_begin, mt2_X7_callByName, mt2_X7_carriedBy, mt2_X7_copyFrom, mt2_X7_daysLeft, mt2_X7_drop, mt2_X7_fitting, mt2_X7_has, mt2_X7_isFast, mt2_X7_isFitting, mt2_X7_isLying, mt2_X7_liesBefore, mt2_X7_lyingAt, mt2_X7_passDay, mt2_X7_passDays, mt2_X7_placeOf, mt2_X7_pointAt, mt2_X7_request, mt2_X7_study] ++ [mt2_X7_walk, mt2_X8_add, mt2_X8_holds, mt2_X8_isSo, mt2_X8_readAll, mt2_X8_readCondition, mt2_X8_readOne, mt2_X8_readPlain, mt2_X8_sortBehind, mt2_X8_thingsIn, mt2_X8_thingsOfPart, mt2_X9_append, mt2_X9_at]) := h
  simp only [List.mem_append] at h
  rcases h with (((((((((((h | h) | h) | h) | h) | h) | h) | h) | h) | h) | h) | h)
  · exact tp_0 M h
  · exact tp_1 M h
  · exact tp_2 M h
  · exact tp_3 M h
  · exact tp_4 M h
  · exact tp_5 M h
  · exact tp_6 M h
  · exact tp_7 M h
  · exact tp_8 M h
  · exact tp_9 M h
  · exact tp_10 M h
  · exact tp_11 M h
theorem ph2_map : PH2.map (fun M => mY M) = PR2.map (fun M => mY M) := by decide +kernel
theorem ph2_at : ∀ (j : Nat) (M : MT), PH2[j]? = some M → ∃ M', PR2[j]? = some M' ∧ mY M' = mY M := by
  intro j M h
  have h1 : (PH2.map (fun M => mY M))[j]? = some (mY M) := by rw [List.getElem?_map, h]; rfl
  rw [ph2_map, List.getElem?_map] at h1
  cases h2 : PR2[j]? with
  | none => rw [h2] at h1; cases h1
  | some M' =>
    rw [h2] at h1
    exact ⟨M', rfl, Option.some.inj h1⟩
theorem pok2 : POK2 PR2 RB2 OW2 := by
  refine ⟨fun j M h => prg_ok M (List.mem_of_getElem? h), fun o own L h1 h2 => ?_, ?_⟩
  · match o, h1, h2 with
    | 0, h1, h2 => cases h1; cases h2; exact fun q hq => rok_h ph2_at (r_all_ok tr_0 q hq)
    | 1, h1, h2 => cases h1; cases h2; exact fun q hq => rok_h ph2_at (r_all_ok tr_1 q hq)
    | 2, h1, h2 => cases h1; cases h2; exact fun q hq => rok_h ph2_at (r_all_ok tr_2 q hq)
    | 3, h1, h2 => cases h1; cases h2; exact fun q hq => rok_h ph2_at (r_all_ok tr_3 q hq)
    | 4, h1, h2 => cases h1; cases h2; exact fun q hq => rok_h ph2_at (r_all_ok tr_4 q hq)
    | 5, h1, h2 => cases h1; cases h2; exact fun q hq => rok_h ph2_at (r_all_ok tr_5 q hq)
    | 6, h1, h2 => cases h1; cases h2; exact fun q hq => rok_h ph2_at (r_all_ok tr_6 q hq)
    | 7, h1, h2 => cases h1; cases h2; exact fun q hq => rok_h ph2_at (r_all_ok tr_7 q hq)
    | 8, h1, h2 => cases h1; cases h2; exact fun q hq => rok_h ph2_at (r_all_ok tr_8 q hq)
    | 9, h1, h2 => cases h1; cases h2; exact fun q hq => rok_h ph2_at (r_all_ok tr_9 q hq)
    | 10, h1, h2 => cases h1; cases h2; exact fun q hq => rok_h ph2_at (r_all_ok tr_10 q hq)
    | 11, h1, h2 => cases h1; cases h2; exact fun q hq => rok_h ph2_at (r_all_ok tr_11 q hq)
    | 12, h1, h2 => cases h1; cases h2; exact fun q hq => rok_h ph2_at (r_all_ok tr_12 q hq)
    | 13, h1, h2 => cases h1; cases h2; exact fun q hq => rok_h ph2_at (r_all_ok tr_13 q hq)
    | 14, h1, h2 => cases h1; cases h2; exact fun q hq => rok_h ph2_at (r_all_ok tr_14 q hq)
    | 15, h1, h2 => cases h1; cases h2; exact fun q hq => rok_h ph2_at (r_all_ok tr_15 q hq)
    | 16, h1, h2 => cases h1; cases h2; exact fun q hq => rok_h ph2_at (r_all_ok tr_16 q hq)
    | 17, h1, h2 => cases h1; cases h2; exact fun q hq => rok_h ph2_at (r_all_ok tr_17 q hq)
    | 18, h1, h2 => cases h1; cases h2; exact fun q hq => rok_h ph2_at (r_all_ok tr_18 q hq)
    | 19, h1, h2 => cases h1; cases h2; exact fun q hq => rok_h ph2_at (r_all_ok tr_19 q hq)
    | 20, h1, h2 => cases h1; cases h2; exact fun q hq => rok_h ph2_at (r_all_ok tr_20 q hq)
    | 21, h1, h2 => cases h1; cases h2; exact fun q hq => rok_h ph2_at (r_all_ok tr_21 q hq)
    | 22, h1, h2 => cases h1; cases h2; exact fun q hq => rok_h ph2_at (r_all_ok tr_22 q hq)
    | 23, h1, h2 => cases h1; cases h2; exact fun q hq => rok_h ph2_at (r_all_ok tr_23 q hq)
    | 24, h1, h2 => cases h1; cases h2; exact fun q hq => rok_h ph2_at (r_all_ok tr_24 q hq)
    | 25, h1, h2 => cases h1; cases h2; exact fun q hq => rok_h ph2_at (r_all_ok tr_25 q hq)
    | n + 26, h1, h2 => simp [OW2] at h1
  · exact ⟨h_at_ok (pos := 645) (by decide +kernel), h_at_ok (pos := 644) (by decide +kernel), h_at_ok (pos := 133) (by decide +kernel)⟩
