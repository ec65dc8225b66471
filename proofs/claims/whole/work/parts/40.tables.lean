/-! what the tables say (printed by wip/whole/tabs.py) -/
def tb_nm : List String := [RX0, RX1, RX2, RX3, RX4, RX5, RX6, RX7, RX8, RX9, RX10, RX11, RX12, RL, RJ9, RJ6]
def tb_nmf : Nat → String := fun k => tb_nm.getD k ""
def tb_yl : List MethodName := [yX0_init, yX0_forget, yX0_keep, yX0_takeBack, yX1_init, yX1_go, yX1_dreadIn, yX1_weightAt, yX1_firstLike, yX1_goTogether, yX1_heaviestOfBoth, yX1_follows, yX2_init, yX2_clear, yX2_count, yX2_isThere, yX2_isFull, yX2_placeOf, yX2_letterAt, yX2_giveName, yX2_findName, yX2_brave, yX2_fear, yX2_lead, yX2_hasSum, yX2_markSum, yX2_braveryOf, yX2_dreadOf, yX2_lay, yX2_counts, yX2_heaviest, yX2_isHome, yX2_becomes, yX2_canEnter, yX2_enter, yX2_meetByDay, yX3_init, yX3_read, yX3_readStatement, yX3_isOneTooMany, yX3_readDreamer, yX3_readFears, yX3_readGuide, yX3_readSum, yX3_readNewName, yX3_readKnownName, yX4_init, yX4_canBeHome, yX4_escapes, yX4_bears, yX4_thousandths, yX4_shareHome, yX5_init, yX5_read, yX5_readTest, yX5_readBoth, yX5_readFact, yX5_answer, yX5_valueIn, yX6_init, yX6_clear, yX6_add, yX6_see, yX6_know, yX6_value, yX6_push, yX6_pop, yX6_fact, yX6_weightOf, yX6_join, yX7_init, yX7_copy, yX7_at, yX7_put, yX7_total, yX7_greatest, yX7_countHeavy, yX7_laugh, yX7_isLike, yX7_writeTo, yX8_init, yX8_write, yX8_emit, yX8_mayOpen, yX8_readSum, yX8_readProduct, yX8_readPart, yX8_readWord, yX8_readPair, yX9_init, yX9_add, yX9_wipe, yX9_byteAt, yX9_pairAt, yX9_start, yX9_failed, yX9_blame, yX9_blameHere, yX9_look, yX9_sees, yX9_step, yX9_demand, yX9_demandEnd, yX9_isDigit, yX9_seesDigit, yX9_wordSize, yX9_wordIn, yX9_skipWord, yX9_takeWord, yX9_demandWord, yX9_takeName, yX9_takeNumber, yX10_init, yX10_findSoonest, yX10_findLeast, yX10_turn, yX10_isBetter, yX10_seek, yX10_goOn, yX10_findGuide, yX10_findDays, yX10_metByDay, yX10_setOrder, yX10_lowestBit, yX10_isEndKnown, yX11_init, yX11_feed, yX11_end, yX11_dream, yX11_fault, yX11_has, yX11_letter, yX11_dreamer, yX11_weigh, yX11_guide, yX11_room, yX11_later, yX11_till, yX11_again, yX11_soonest, yX11_least, yX11_along, yX11_days, yX11_hand, yX11_against, yX11_chance, yX11_meet, yX11_day, yX11_take, yX11_set, yX11_night, yX11_undo, yX11_seed, yX11_told, yX11_fits, yX11_ask, yX11_image, yX11_octet, yX11_on, yX11_status, yX11_refuse, yX11_isDreamer, yX11_isDread, yX11_countHome, yX11_draw, yX11_paint, yX11_isPicture, yX11_newSleepers, yX12_init, yX12_isIn, yX12_feed, yX12_end, yX12_fail, yX12_isLetter, yX12_isDigit, yX12_look, yX12_isHere, yX12_takes, yX12_asks, yX12_takesSign, yX12_asksSign, yX12_number, yX12_isOwnHere, yX12_name, yX12_isFull, yX12_nameOf, yX12_newName, yX12_oneOf, yX12_dreadTold, yX12_dreamerTold, yX12_fearsTold, yX12_guideTold, yX12_sumIsTold, yX12_statementTold, yX12_dream, yX12_stands, yX12_code, yX12_opens, yX12_isOn, yX12_drops, yX12_isMark, yX12_waitsLast, yX12_dropsToMark, yX12_onePart, yX12_goesOn, yX12_sumsTold, yX12_fault, yX12_clip, yX12_floor, yX12_puts, yX12_joins, yX12_dreadMany, yX12_dreamerMany, yX12_guideMany, yX12_isDread, yX12_isDreamer, yX12_settingOf, yX12_weightOf, yX12_laysNow, yX12_laysRow, yX12_isNow, yX12_sumAt, yX12_greatestAt, yX12_manyAt, yX12_isHomeAt, yX12_counts, yX12_worstAt, yX12_made, yX12_roomGoes, yX12_laughs, yX12_guideOf, yX12_atHome, yX12_has, yX12_letter, yX12_dreamer, yX12_weigh, yX12_guide, yX12_goesAhead, yX12_room, yX12_later, yX12_till, yX12_areAlike, yX12_comesAgain, yX12_again, yX12_isWay, yX12_seeksSoonest, yX12_wayTold, yX12_soonest, yX12_least, yX12_along, yX12_bits, yX12_isOrder, yX12_days, yX12_worstOfTwo, yX12_hand, yX12_isSafe, yX12_canGo, yX12_answers, yX12_isSafeByOne, yX12_isSafeByTwo, yX12_isSafeByThree, yX12_against, yX12_likely, yX12_chance, yX12_keeps, yX12_undo, yX12_refuses, yX12_meet, yX12_day, yX12_take, yX12_set, yX12_seed, yX12_drawOf, yX12_night, yX12_told, yX12_isFitting, yX12_fits, yX12_qCode, yX12_qOpens, yX12_qIsOn, yX12_qDrops, yX12_qIsBracket, yX12_qBracket, yX12_qDropsToBracket, yX12_qWordHere, yX12_qWordOf, yX12_qAsksWord, yX12_qEndsPart, yX12_qPartTold, yX12_qGoesOn, yX12_qSums, yX12_qFact, yX12_qHasSquare, yX12_qDropsNots, yX12_qTest, yX12_qGoesOnTest, yX12_qClip, yX12_qFloor, yX12_qPuts, yX12_qJoins, yX12_qPartOf, yX12_qOf, yX12_qTold, yX12_qKind, yX12_qTakes, yX12_ask, yX12_worstOf, yX12_checked, yX12_writes, yX12_image, yX12_octet, yX12_isTold, yX12_on, yX12_status, yJ6_bitCount_0f7a4, yJ9_floorDiv_7cf53, yJ9_max_7cf53, yJ9_max_f86c9, yJ9_min_7cf53, yJ9_min_f86c9]
def tb_ym : Nat → MethodName := fun k => tb_yl.getD k x
def tb_bl : List ByteArray := [cX0_init, cX0_forget, cX0_keep, cX0_takeBack, cX1_init, cX1_go, cX1_dreadIn, cX1_weightAt, cX1_firstLike, cX1_goTogether, cX1_heaviestOfBoth, cX1_follows, cX2_init, cX2_clear, cX2_count, cX2_isThere, cX2_isFull, cX2_placeOf, cX2_letterAt, cX2_giveName, cX2_findName, cX2_brave, cX2_fear, cX2_lead, cX2_hasSum, cX2_markSum, cX2_braveryOf, cX2_dreadOf, cX2_lay, cX2_counts, cX2_heaviest, cX2_isHome, cX2_becomes, cX2_canEnter, cX2_enter, cX2_meetByDay, cX3_init, cX3_read, cX3_readStatement, cX3_isOneTooMany, cX3_readDreamer, cX3_readFears, cX3_readGuide, cX3_readSum, cX3_readNewName, cX3_readKnownName, cX4_init, cX4_canBeHome, cX4_escapes, cX4_bears, cX4_thousandths, cX4_shareHome, cX5_init, cX5_read, cX5_readTest, cX5_readBoth, cX5_readFact, cX5_answer, cX5_valueIn, cX6_init, cX6_clear, cX6_add, cX6_see, cX6_know, cX6_value, cX6_push, cX6_pop, cX6_fact, cX6_weightOf, cX6_join, cX7_init, cX7_copy, cX7_at, cX7_put, cX7_total, cX7_greatest, cX7_countHeavy, cX7_laugh, cX7_isLike, cX7_writeTo, cX8_init, cX8_write, cX8_emit, cX8_mayOpen, cX8_readSum, cX8_readProduct, cX8_readPart, cX8_readWord, cX8_readPair, cX9_init, cX9_add, cX9_wipe, cX9_byteAt, cX9_pairAt, cX9_start, cX9_failed, cX9_blame, cX9_blameHere, cX9_look, cX9_sees, cX9_step, cX9_demand, cX9_demandEnd, cX9_isDigit, cX9_seesDigit, cX9_wordSize, cX9_wordIn, cX9_skipWord, cX9_takeWord, cX9_demandWord, cX9_takeName, cX9_takeNumber, cX10_init, cX10_findSoonest, cX10_findLeast, cX10_turn, cX10_isBetter, cX10_seek, cX10_goOn, cX10_findGuide, cX10_findDays, cX10_metByDay, cX10_setOrder, cX10_lowestBit, cX10_isEndKnown, cX11_init, cX11_feed, cX11_end, cX11_dream, cX11_fault, cX11_has, cX11_letter, cX11_dreamer, cX11_weigh, cX11_guide, cX11_room, cX11_later, cX11_till, cX11_again, cX11_soonest, cX11_least, cX11_along, cX11_days, cX11_hand, cX11_against, cX11_chance, cX11_meet, cX11_day, cX11_take, cX11_set, cX11_night, cX11_undo, cX11_seed, cX11_told, cX11_fits, cX11_ask, cX11_image, cX11_octet, cX11_on, cX11_status, cX11_refuse, cX11_isDreamer, cX11_isDread, cX11_countHome, cX11_draw, cX11_paint, cX11_isPicture, cX11_newSleepers, cX12_init, cX12_isIn, cX12_feed, cX12_end, cX12_fail, cX12_isLetter, cX12_isDigit, cX12_look, cX12_isHere, cX12_takes, cX12_asks, cX12_takesSign, cX12_asksSign, cX12_number, cX12_isOwnHere, cX12_name, cX12_isFull, cX12_nameOf, cX12_newName, cX12_oneOf, cX12_dreadTold, cX12_dreamerTold, cX12_fearsTold, cX12_guideTold, cX12_sumIsTold, cX12_statementTold, cX12_dream, cX12_stands, cX12_code, cX12_opens, cX12_isOn, cX12_drops, cX12_isMark, cX12_waitsLast, cX12_dropsToMark, cX12_onePart, cX12_goesOn, cX12_sumsTold, cX12_fault, cX12_clip, cX12_floor, cX12_puts, cX12_joins, cX12_dreadMany, cX12_dreamerMany, cX12_guideMany, cX12_isDread, cX12_isDreamer, cX12_settingOf, cX12_weightOf, cX12_laysNow, cX12_laysRow, cX12_isNow, cX12_sumAt, cX12_greatestAt, cX12_manyAt, cX12_isHomeAt, cX12_counts, cX12_worstAt, cX12_made, cX12_roomGoes, cX12_laughs, cX12_guideOf, cX12_atHome, cX12_has, cX12_letter, cX12_dreamer, cX12_weigh, cX12_guide, cX12_goesAhead, cX12_room, cX12_later, cX12_till, cX12_areAlike, cX12_comesAgain, cX12_again, cX12_isWay, cX12_seeksSoonest, cX12_wayTold, cX12_soonest, cX12_least, cX12_along, cX12_bits, cX12_isOrder, cX12_days, cX12_worstOfTwo, cX12_hand, cX12_isSafe, cX12_canGo, cX12_answers, cX12_isSafeByOne, cX12_isSafeByTwo, cX12_isSafeByThree, cX12_against, cX12_likely, cX12_chance, cX12_keeps, cX12_undo, cX12_refuses, cX12_meet, cX12_day, cX12_take, cX12_set, cX12_seed, cX12_drawOf, cX12_night, cX12_told, cX12_isFitting, cX12_fits, cX12_qCode, cX12_qOpens, cX12_qIsOn, cX12_qDrops, cX12_qIsBracket, cX12_qBracket, cX12_qDropsToBracket, cX12_qWordHere, cX12_qWordOf, cX12_qAsksWord, cX12_qEndsPart, cX12_qPartTold, cX12_qGoesOn, cX12_qSums, cX12_qFact, cX12_qHasSquare, cX12_qDropsNots, cX12_qTest, cX12_qGoesOnTest, cX12_qClip, cX12_qFloor, cX12_qPuts, cX12_qJoins, cX12_qPartOf, cX12_qOf, cX12_qTold, cX12_qKind, cX12_qTakes, cX12_ask, cX12_worstOf, cX12_checked, cX12_writes, cX12_image, cX12_octet, cX12_isTold, cX12_on, cX12_status, cJ6_bitCount_0f7a4, cJ9_floorDiv_7cf53, cJ9_max_7cf53, cJ9_max_f86c9, cJ9_min_7cf53, cJ9_min_f86c9]
def tb_bm : Nat → ByteArray := fun k => tb_bl.getD k ⟨#[]⟩
def tb_rl : List (Option FieldType) := [none, none, none, none, none, none, (some .int), (some .int), (some .int), (some .int), (some .int), (some .boolean), none, none, (some .int), (some .boolean), (some .boolean), (some .int), (some .int), (some .int), (some .int), none, none, none, (some .boolean), none, (some .int), (some .int), none, (some .int), (some .int), (some .boolean), (some .int), (some .boolean), (some .int), none, none, (some .int), none, (some .boolean), none, none, none, none, (some .int), (some .int), none, (some .boolean), (some .boolean), (some .boolean), (some .int), (some .long), none, (some .boolean), none, none, none, (some .long), (some .int), none, none, none, none, none, (some .int), none, (some .int), (some .int), (some .int), (some .int), none, none, (some .int), none, (some .int), (some .int), (some .int), none, (some .boolean), none, none, none, none, (some .boolean), none, none, none, none, none, none, none, none, (some .int), (some .int), none, (some .boolean), none, none, (some .int), (some .boolean), none, none, none, (some .boolean), (some .boolean), (some .int), (some .int), none, (some .boolean), none, (some .boolean), (some .int), none, (some .int), (some .int), (some .int), (some .boolean), none, none, (some .int), (some .int), (some .int), (some .int), (some .int), (some .boolean), none, (some .int), (some .boolean), (some .int), (some .int), (some .int), (some .int), (some .int), (some .int), (some .int), (some .int), (some .int), (some .int), (some .int), (some .int), (some .int), (some .int), (some .int), (some .int), (some .int), (some .int), (some .int), (some .int), (some .boolean), (some .int), (some .int), (some .boolean), (some .boolean), (some .int), (some .int), (some .long), (some .int), (some .int), (some .boolean), (some .int), (some .int), (some .boolean), (some .boolean), (some .int), (some .int), none, (some .boolean), (some (.array (.object "NightDoors$Sleeper"))), none, (some .boolean), (some .int), (some .boolean), none, (some .boolean), (some .boolean), (some .int), (some .boolean), (some .boolean), none, (some .boolean), none, (some .int), (some .boolean), (some .long), (some .boolean), (some .int), (some .long), (some .int), none, none, none, none, none, none, (some .int), none, none, none, (some .boolean), none, (some .boolean), (some .int), none, none, (some .boolean), none, (some .int), (some .long), (some .long), none, none, (some .int), (some .int), (some .int), (some .boolean), (some .boolean), (some .int), (some .int), none, none, none, (some .int), (some .int), (some .int), (some .boolean), (some .int), (some .int), (some .int), (some .int), none, (some .int), (some .int), (some .int), (some .int), (some .int), (some .int), (some .int), none, (some .int), (some .int), (some .int), (some .boolean), (some .int), (some .int), (some .boolean), none, (some .int), (some .int), (some .int), (some .int), (some .int), (some .boolean), (some .int), (some .int), (some .int), (some .boolean), (some .boolean), none, (some .boolean), (some .boolean), (some .boolean), (some .int), (some .long), (some .int), none, (some .boolean), (some .int), (some .int), (some .int), (some .boolean), (some .int), (some .boolean), (some .int), (some .int), (some .int), (some .boolean), (some .int), none, none, (some .boolean), none, (some .boolean), (some .int), none, (some .int), (some .int), none, none, none, (some .boolean), none, none, (some .boolean), none, none, (some .boolean), (some .long), (some .long), none, none, (some .long), (some .long), (some .long), (some .int), none, (some .long), (some .long), (some .int), none, (some .int), (some .int), (some .boolean), (some .boolean), (some .int), (some .int), (some .int), (some .int), (some .long), (some .int), (some .long)]
def tb_rt : Nat → Option FieldType := fun k => tb_rl.getD k none
def tb_cl : List vw_C := [(RX0, TX0, 3), (RX1, TX1, 6), (RX2, TX2, 11), (RX3, TX3, 2), (RX4, TX4, 3), (RX5, TX5, 4), (RX6, TX6, 6), (RX7, TX7, 3), (RX8, TX8, 3), (RX9, TX9, 8), (RX10, TX10, 13), (RX11, TX11, 18), (RX12, TX12, 94)]
def tb_TT : List Cond := lw_tbl.filter goodWord
def tb_isN : Cond → Bool
  | .fieldLinkNest .. => true
  | .methodLinkNest .. => true
  | _ => false
def tb_nw : List Cond := lw_tbl.filter tb_isN
def tb_P (off : Nat → Int → Option Int) (ln : Int → Option Nat) (fx : Bool) : am_P := (pg_pool, fun k => pg_ms[k]?, pg_tag, pg_nf, ln, pg_str, off, fx)
theorem tg {w : Cond} (h : w ∈ lw_tbl) (g : goodWord w = true) : w ∈ tb_TT := List.mem_filter.mpr ⟨h, g⟩
theorem tn {w : Cond} (h : w ∈ lw_tbl) (g : tb_isN w = true) : w ∈ tb_nw := List.mem_filter.mpr ⟨h, g⟩
theorem tw {w : Cond} (h : w ∈ tables_1) : w ∈ lw_tbl := List.mem_append_right _ h
theorem tp {q : MethodName × Nat} (h : q ∈ lw_privs) : Cond.selects q.1.cls q.1 q.1 ∈ lw_tbl := List.mem_append_left _ (List.mem_map.mpr ⟨q, h, rfl⟩)
def tb_each {α : Type} (f : Nat → α → Prop) : Nat → List α → Prop
  | _, [] => True
  | i, x :: l => f i x ∧ tb_each f (i + 1) l
theorem tb_each_get {α : Type} {f : Nat → α → Prop} : ∀ {l : List α} {i k : Nat} {x : α}, tb_each f i l → l[k]? = some x → f (i + k) x
  | [], _, _, _, _, h => by simp at h
  | y :: l, i, 0, x, h, h2 => by simp at h2; subst h2; exact h.1
  | y :: l, i, k + 1, x, h, h2 => by
    rw [List.getElem?_cons_succ] at h2
    have := tb_each_get h.2 h2
    rwa [show i + 1 + k = i + (k + 1) by omega] at this
theorem tb_lookup : ∀ {l : List (Nat × Nat × Nat × Int)} {ix : Nat} {e : Nat × Nat × Int}, l.lookup ix = some e → (ix, e) ∈ l
  | [], _, _, h => by cases h
  | (k, y) :: l, ix, e, h => by
    rw [List.lookup_cons] at h
    by_cases q : ix = k
    · subst q
      simp at h
      subst h
      exact List.mem_cons_self
    · have : (ix == k) = false := by simp [q]
      rw [this] at h
      exact List.mem_cons_of_mem _ (tb_lookup h)
def tb_tyb (tag : Nat) (ty : FieldType) : Bool := match tag, ty with
  | 0, .int => true
  | 1, .long => true
  | 2, .object _ => true
  | 2, .array _ => true
  | 5, .boolean => true
  | _, _ => false
theorem tb_tyb_ok {tag : Nat} {ty : FieldType} (h : tb_tyb tag ty = true) : am_ty tag ty := by
  unfold tb_tyb at h
  split at h
  · rfl
  · rfl
  · exact Or.inl ⟨_, rfl⟩
  · exact Or.inr ⟨_, rfl⟩
  · rfl
  · cases h

theorem tk_0 {j : Nat} {w : Cond} (h : tables_1_1[j]? = some w) : w ∈ lw_tbl := tw (List.mem_append_left _ (List.mem_of_getElem? h))
theorem tk_1 {j : Nat} {w : Cond} (h : tables_1_2[j]? = some w) : w ∈ lw_tbl := tw (List.mem_append_right _ (List.mem_append_left _ (List.mem_of_getElem? h)))
theorem tk_2 {j : Nat} {w : Cond} (h : tables_1_3[j]? = some w) : w ∈ lw_tbl := tw (List.mem_append_right _ (List.mem_append_right _ (List.mem_append_left _ (List.mem_of_getElem? h))))
theorem tk_3 {j : Nat} {w : Cond} (h : tables_1_4[j]? = some w) : w ∈ lw_tbl := tw (List.mem_append_right _ (List.mem_append_right _ (List.mem_append_right _ (List.mem_append_left _ (List.mem_of_getElem? h)))))
theorem tk_4 {j : Nat} {w : Cond} (h : tables_1_5[j]? = some w) : w ∈ lw_tbl := tw (List.mem_append_right _ (List.mem_append_right _ (List.mem_append_right _ (List.mem_append_right _ (List.mem_append_left _ (List.mem_of_getElem? h))))))
theorem tk_5 {j : Nat} {w : Cond} (h : tables_1_6[j]? = some w) : w ∈ lw_tbl := tw (List.mem_append_right _ (List.mem_append_right _ (List.mem_append_right _ (List.mem_append_right _ (List.mem_append_right _ (List.mem_append_left _ (List.mem_of_getElem? h)))))))
theorem tk_6 {j : Nat} {w : Cond} (h : tables_1_7[j]? = some w) : w ∈ lw_tbl := tw (List.mem_append_right _ (List.mem_append_right _ (List.mem_append_right _ (List.mem_append_right _ (List.mem_append_right _ (List.mem_append_right _ (List.mem_append_left _ (List.mem_of_getElem? h))))))))
theorem tk_7 {j : Nat} {w : Cond} (h : tables_1_8[j]? = some w) : w ∈ lw_tbl := tw (List.mem_append_right _ (List.mem_append_right _ (List.mem_append_right _ (List.mem_append_right _ (List.mem_append_right _ (List.mem_append_right _ (List.mem_append_right _ (List.mem_append_left _ (List.mem_of_getElem? h)))))))))
theorem tk_8 {j : Nat} {w : Cond} (h : tables_1_9[j]? = some w) : w ∈ lw_tbl := tw (List.mem_append_right _ (List.mem_append_right _ (List.mem_append_right _ (List.mem_append_right _ (List.mem_append_right _ (List.mem_append_right _ (List.mem_append_right _ (List.mem_append_right _ (List.mem_of_getElem? h)))))))))
theorem tw_0 : (Jvm.Cond.initialized "NightDoorsLaw") ∈ lw_tbl := tk_0 (j := 0) rfl
theorem tw_1 : (Jvm.Cond.initialized "NightDoors") ∈ lw_tbl := tk_0 (j := 1) rfl
theorem tw_2 : (Jvm.Cond.initialized "NightDoors$Text") ∈ lw_tbl := tk_0 (j := 2) rfl
theorem tw_3 : (Jvm.Cond.initialized "NightDoors$SumReader") ∈ lw_tbl := tk_0 (j := 3) rfl
theorem tw_4 : (Jvm.Cond.initialized "NightDoors$DreamReader") ∈ lw_tbl := tk_0 (j := 4) rfl
theorem tw_5 : (Jvm.Cond.initialized "NightDoors$Question") ∈ lw_tbl := tk_0 (j := 5) rfl
theorem tw_6 : (Jvm.Cond.initialized "NightDoors$Reckoner") ∈ lw_tbl := tk_0 (j := 6) rfl
theorem tw_7 : (Jvm.Cond.initialized "NightDoors$Dream") ∈ lw_tbl := tk_0 (j := 7) rfl
theorem tw_8 : (Jvm.Cond.initialized "NightDoors$Sleeper") ∈ lw_tbl := tk_0 (j := 8) rfl
theorem tw_9 : (Jvm.Cond.initialized "NightDoors$Acts") ∈ lw_tbl := tk_0 (j := 9) rfl
theorem tw_10 : (Jvm.Cond.initialized "NightDoors$Ahead") ∈ lw_tbl := tk_0 (j := 10) rfl
theorem tw_11 : (Jvm.Cond.initialized "NightDoors$Ways") ∈ lw_tbl := tk_0 (j := 11) rfl
theorem tw_12 : (Jvm.Cond.initialized "NightDoors$Fates") ∈ lw_tbl := tk_0 (j := 12) rfl
theorem tw_13 : (Jvm.Cond.initialized "NightDoorsModel") ∈ lw_tbl := tk_0 (j := 13) rfl
theorem tw_14 : (Jvm.Cond.initialized "java/lang/String") ∈ lw_tbl := tk_0 (j := 14) rfl
theorem tw_15 : (Jvm.Cond.initialized "java/lang/StringLatin1") ∈ lw_tbl := tk_0 (j := 15) rfl
theorem tw_16 : (Jvm.Cond.initialized "jdk/internal/util/Preconditions") ∈ lw_tbl := tk_0 (j := 16) rfl
theorem tw_17 : (Jvm.Cond.initialized "java/lang/StringUTF16") ∈ lw_tbl := tk_0 (j := 17) rfl
theorem tw_18 : (Jvm.Cond.initialized "java/lang/Math") ∈ lw_tbl := tk_0 (j := 18) rfl
theorem tw_19 : (Jvm.Cond.initialized "java/lang/System") ∈ lw_tbl := tk_0 (j := 19) rfl
theorem tw_20 : (Jvm.Cond.initialized "java/lang/Integer") ∈ lw_tbl := tk_0 (j := 20) rfl
theorem tw_21 : (Jvm.Cond.classLink "NightDoorsLaw" (7 : Nat) "NightDoors") ∈ lw_tbl := tk_0 (j := 21) rfl
theorem tw_22 : (Jvm.Cond.instantiable "NightDoors" (18 : Nat)) ∈ lw_tbl := tk_0 (j := 22) rfl
theorem tw_23 : (Jvm.Cond.methodLink "NightDoorsLaw" (9 : Nat) ({ cls := "NightDoors", name := "<init>", desc := "()V" } : Jvm.MethodName)) ∈ lw_tbl := tk_0 (j := 23) rfl
theorem tw_24 : (Jvm.Cond.instanceMethod ({ cls := "NightDoors", name := "<init>", desc := "()V" } : Jvm.MethodName)) ∈ lw_tbl := tk_0 (j := 24) rfl
theorem tw_25 : (Jvm.Cond.code ({ cls := "NightDoors", name := "<init>", desc := "()V" } : Jvm.MethodName) prog_1_method_1_code (1 : Nat) (Option.none : Option Jvm.ClassFile.FieldType)) ∈ lw_tbl := tk_0 (j := 25) rfl
theorem tw_26 : (Jvm.Cond.methodLink "NightDoors" (1 : Nat) ({ cls := "java/lang/Object", name := "<init>", desc := "()V" } : Jvm.MethodName)) ∈ lw_tbl := tk_0 (j := 26) rfl
theorem tw_27 : (Jvm.Cond.instanceMethod ({ cls := "java/lang/Object", name := "<init>", desc := "()V" } : Jvm.MethodName)) ∈ lw_tbl := tk_0 (j := 27) rfl
theorem tw_28 : (Jvm.Cond.code ({ cls := "java/lang/Object", name := "<init>", desc := "()V" } : Jvm.MethodName) object_method_1_code (1 : Nat) (Option.none : Option Jvm.ClassFile.FieldType)) ∈ lw_tbl := tk_0 (j := 28) rfl
theorem tw_29 : (Jvm.Cond.classLink "NightDoors" (7 : Nat) "NightDoors$Text") ∈ lw_tbl := tk_0 (j := 29) rfl
theorem tw_30 : (Jvm.Cond.instantiable "NightDoors$Text" (8 : Nat)) ∈ lw_tbl := tk_0 (j := 30) rfl
theorem tw_31 : (Jvm.Cond.methodLinkNest "NightDoors" (9 : Nat) ({ cls := "NightDoors$Text", name := "<init>", desc := "()V" } : Jvm.MethodName) "NightDoors") ∈ lw_tbl := tk_0 (j := 31) rfl
theorem tw_32 : (Jvm.Cond.instanceMethod ({ cls := "NightDoors$Text", name := "<init>", desc := "()V" } : Jvm.MethodName)) ∈ lw_tbl := tk_0 (j := 32) rfl
theorem tw_33 : (Jvm.Cond.code ({ cls := "NightDoors$Text", name := "<init>", desc := "()V" } : Jvm.MethodName) prog_11_method_1_code (1 : Nat) (Option.none : Option Jvm.ClassFile.FieldType)) ∈ lw_tbl := tk_0 (j := 33) rfl
theorem tw_34 : (Jvm.Cond.methodLink "NightDoors$Text" (3 : Nat) ({ cls := "java/lang/Object", name := "<init>", desc := "()V" } : Jvm.MethodName)) ∈ lw_tbl := tk_0 (j := 34) rfl
theorem tw_35 : (Jvm.Cond.fieldLink "NightDoors$Text" (9 : Nat) "NightDoors$Text" "bytes" "[I") ∈ lw_tbl := tk_0 (j := 35) rfl
theorem tw_36 : (Jvm.Cond.fieldLink "NightDoors$Text" (15 : Nat) "NightDoors$Text" "size" "I") ∈ lw_tbl := tk_0 (j := 36) rfl
theorem tw_37 : (Jvm.Cond.fieldLinkNest "NightDoors" (110 : Nat) "NightDoors$Text" "size" "I" "NightDoors") ∈ lw_tbl := tk_0 (j := 37) rfl
theorem tw_38 : (Jvm.Cond.fieldLink "NightDoors$Text" (19 : Nat) "NightDoors$Text" "at" "I") ∈ lw_tbl := tk_0 (j := 38) rfl
theorem tw_39 : (Jvm.Cond.fieldLink "NightDoors$Text" (22 : Nat) "NightDoors$Text" "fault" "I") ∈ lw_tbl := tk_0 (j := 39) rfl
theorem tw_40 : (Jvm.Cond.fieldLinkNest "NightDoors" (135 : Nat) "NightDoors$Text" "fault" "I" "NightDoors") ∈ lw_tbl := tk_0 (j := 40) rfl
theorem tw_41 : (Jvm.Cond.fieldLink "NightDoors$Text" (25 : Nat) "NightDoors$Text" "place" "I") ∈ lw_tbl := tk_0 (j := 41) rfl
theorem tw_42 : (Jvm.Cond.fieldLinkNest "NightDoors" (138 : Nat) "NightDoors$Text" "place" "I" "NightDoors") ∈ lw_tbl := tk_0 (j := 42) rfl
theorem tw_43 : (Jvm.Cond.fieldLink "NightDoors$Text" (28 : Nat) "NightDoors$Text" "tokenEnd" "I") ∈ lw_tbl := tk_0 (j := 43) rfl
theorem tw_44 : (Jvm.Cond.fieldLink "NightDoors$Text" (31 : Nat) "NightDoors$Text" "nameFrom" "I") ∈ lw_tbl := tk_0 (j := 44) rfl
theorem tw_45 : (Jvm.Cond.fieldLinkNest "NightDoors$Dream" (73 : Nat) "NightDoors$Text" "nameFrom" "I" "NightDoors") ∈ lw_tbl := tk_0 (j := 45) rfl
theorem tw_46 : (Jvm.Cond.fieldLinkNest "NightDoors$DreamReader" (148 : Nat) "NightDoors$Text" "nameFrom" "I" "NightDoors") ∈ lw_tbl := tk_0 (j := 46) rfl
theorem tw_47 : (Jvm.Cond.fieldLink "NightDoors$Text" (34 : Nat) "NightDoors$Text" "nameSize" "I") ∈ lw_tbl := tk_0 (j := 47) rfl
theorem tw_48 : (Jvm.Cond.fieldLinkNest "NightDoors$Dream" (68 : Nat) "NightDoors$Text" "nameSize" "I" "NightDoors") ∈ lw_tbl := tk_0 (j := 48) rfl
theorem tw_49 : (Jvm.Cond.laysFinal "NightDoors$Text" "NightDoors$Text" "bytes" "[I") ∈ lw_tbl := tk_0 (j := 49) rfl
theorem tw_51 : (Jvm.Cond.lays "NightDoors$Text" "NightDoors$Text" "size" "I") ∈ lw_tbl := tk_0 (j := 51) rfl
theorem tw_53 : (Jvm.Cond.lays "NightDoors$Text" "NightDoors$Text" "at" "I") ∈ lw_tbl := tk_0 (j := 53) rfl
theorem tw_55 : (Jvm.Cond.lays "NightDoors$Text" "NightDoors$Text" "fault" "I") ∈ lw_tbl := tk_0 (j := 55) rfl
theorem tw_57 : (Jvm.Cond.lays "NightDoors$Text" "NightDoors$Text" "place" "I") ∈ lw_tbl := tk_0 (j := 57) rfl
theorem tw_59 : (Jvm.Cond.lays "NightDoors$Text" "NightDoors$Text" "tokenEnd" "I") ∈ lw_tbl := tk_0 (j := 59) rfl
theorem tw_61 : (Jvm.Cond.lays "NightDoors$Text" "NightDoors$Text" "nameFrom" "I") ∈ lw_tbl := tk_0 (j := 61) rfl
theorem tw_63 : (Jvm.Cond.lays "NightDoors$Text" "NightDoors$Text" "nameSize" "I") ∈ lw_tbl := tk_0 (j := 63) rfl
theorem tw_66 : (Jvm.Cond.arrayClass Jvm.ClassFile.FieldType.int) ∈ lw_tbl := tk_0 (j := 66) rfl
theorem tw_67 : (Jvm.Cond.classLink "NightDoors" (16 : Nat) "NightDoors$SumReader") ∈ lw_tbl := tk_0 (j := 67) rfl
theorem tw_68 : (Jvm.Cond.instantiable "NightDoors$SumReader" (3 : Nat)) ∈ lw_tbl := tk_0 (j := 68) rfl
theorem tw_69 : (Jvm.Cond.methodLink "NightDoors" (18 : Nat) ({ cls := "NightDoors$SumReader", name := "<init>", desc := "(LNightDoors$Text;)V" } : Jvm.MethodName)) ∈ lw_tbl := tk_0 (j := 69) rfl
theorem tw_70 : (Jvm.Cond.instanceMethod ({ cls := "NightDoors$SumReader", name := "<init>", desc := "(LNightDoors$Text;)V" } : Jvm.MethodName)) ∈ lw_tbl := tk_0 (j := 70) rfl
theorem tw_71 : (Jvm.Cond.code ({ cls := "NightDoors$SumReader", name := "<init>", desc := "(LNightDoors$Text;)V" } : Jvm.MethodName) prog_10_method_1_code (2 : Nat) (Option.none : Option Jvm.ClassFile.FieldType)) ∈ lw_tbl := tk_0 (j := 71) rfl
theorem tw_72 : (Jvm.Cond.methodLink "NightDoors$SumReader" (3 : Nat) ({ cls := "java/lang/Object", name := "<init>", desc := "()V" } : Jvm.MethodName)) ∈ lw_tbl := tk_0 (j := 72) rfl
theorem tw_73 : (Jvm.Cond.fieldLink "NightDoors$SumReader" (19 : Nat) "NightDoors$SumReader" "text" "LNightDoors$Text;") ∈ lw_tbl := tk_0 (j := 73) rfl
theorem tw_74 : (Jvm.Cond.fieldLink "NightDoors$SumReader" (9 : Nat) "NightDoors$SumReader" "target" "LNightDoors$Reckoner;") ∈ lw_tbl := tk_0 (j := 74) rfl
theorem tw_75 : (Jvm.Cond.fieldLink "NightDoors$SumReader" (15 : Nat) "NightDoors$SumReader" "questions" "Z") ∈ lw_tbl := tk_0 (j := 75) rfl
theorem tw_76 : (Jvm.Cond.laysFinal "NightDoors$SumReader" "NightDoors$SumReader" "text" "LNightDoors$Text;") ∈ lw_tbl := tk_0 (j := 76) rfl
theorem tw_78 : (Jvm.Cond.lays "NightDoors$SumReader" "NightDoors$SumReader" "target" "LNightDoors$Reckoner;") ∈ lw_tbl := tk_0 (j := 78) rfl
theorem tw_80 : (Jvm.Cond.lays "NightDoors$SumReader" "NightDoors$SumReader" "questions" "Z") ∈ lw_tbl := tk_0 (j := 80) rfl
theorem tw_83 : (Jvm.Cond.classLink "NightDoors" (25 : Nat) "NightDoors$DreamReader") ∈ lw_tbl := tk_0 (j := 83) rfl
theorem tw_84 : (Jvm.Cond.instantiable "NightDoors$DreamReader" (2 : Nat)) ∈ lw_tbl := tk_0 (j := 84) rfl
theorem tw_85 : (Jvm.Cond.methodLink "NightDoors" (27 : Nat) ({ cls := "NightDoors$DreamReader", name := "<init>", desc := "(LNightDoors$Text;LNightDoors$SumReader;)V" } : Jvm.MethodName)) ∈ lw_tbl := tk_0 (j := 85) rfl
theorem tw_86 : (Jvm.Cond.instanceMethod ({ cls := "NightDoors$DreamReader", name := "<init>", desc := "(LNightDoors$Text;LNightDoors$SumReader;)V" } : Jvm.MethodName)) ∈ lw_tbl := tk_0 (j := 86) rfl
theorem tw_87 : (Jvm.Cond.code ({ cls := "NightDoors$DreamReader", name := "<init>", desc := "(LNightDoors$Text;LNightDoors$SumReader;)V" } : Jvm.MethodName) prog_5_method_1_code (3 : Nat) (Option.none : Option Jvm.ClassFile.FieldType)) ∈ lw_tbl := tk_0 (j := 87) rfl
theorem tw_88 : (Jvm.Cond.methodLink "NightDoors$DreamReader" (3 : Nat) ({ cls := "java/lang/Object", name := "<init>", desc := "()V" } : Jvm.MethodName)) ∈ lw_tbl := tk_0 (j := 88) rfl
theorem tw_89 : (Jvm.Cond.fieldLink "NightDoors$DreamReader" (9 : Nat) "NightDoors$DreamReader" "text" "LNightDoors$Text;") ∈ lw_tbl := tk_0 (j := 89) rfl
theorem tw_90 : (Jvm.Cond.fieldLink "NightDoors$DreamReader" (15 : Nat) "NightDoors$DreamReader" "sums" "LNightDoors$SumReader;") ∈ lw_tbl := tk_0 (j := 90) rfl
theorem tw_91 : (Jvm.Cond.laysFinal "NightDoors$DreamReader" "NightDoors$DreamReader" "text" "LNightDoors$Text;") ∈ lw_tbl := tk_0 (j := 91) rfl
theorem tw_93 : (Jvm.Cond.laysFinal "NightDoors$DreamReader" "NightDoors$DreamReader" "sums" "LNightDoors$SumReader;") ∈ lw_tbl := tk_0 (j := 93) rfl
theorem tw_96 : (Jvm.Cond.classLink "NightDoors" (34 : Nat) "NightDoors$Question") ∈ lw_tbl := tk_0 (j := 96) rfl
theorem tw_97 : (Jvm.Cond.instantiable "NightDoors$Question" (4 : Nat)) ∈ lw_tbl := tk_0 (j := 97) rfl
theorem tw_98 : (Jvm.Cond.methodLink "NightDoors" (36 : Nat) ({ cls := "NightDoors$Question", name := "<init>", desc := "(LNightDoors$Text;LNightDoors$SumReader;)V" } : Jvm.MethodName)) ∈ lw_tbl := tk_0 (j := 98) rfl
theorem tw_99 : (Jvm.Cond.instanceMethod ({ cls := "NightDoors$Question", name := "<init>", desc := "(LNightDoors$Text;LNightDoors$SumReader;)V" } : Jvm.MethodName)) ∈ lw_tbl := tk_0 (j := 99) rfl
theorem tw_100 : (Jvm.Cond.code ({ cls := "NightDoors$Question", name := "<init>", desc := "(LNightDoors$Text;LNightDoors$SumReader;)V" } : Jvm.MethodName) prog_7_method_1_code (3 : Nat) (Option.none : Option Jvm.ClassFile.FieldType)) ∈ lw_tbl := tk_0 (j := 100) rfl
theorem tw_101 : (Jvm.Cond.methodLink "NightDoors$Question" (3 : Nat) ({ cls := "java/lang/Object", name := "<init>", desc := "()V" } : Jvm.MethodName)) ∈ lw_tbl := tk_0 (j := 101) rfl
theorem tw_102 : (Jvm.Cond.classLink "NightDoors$Question" (9 : Nat) "NightDoors$Reckoner") ∈ lw_tbl := tk_0 (j := 102) rfl
theorem tw_103 : (Jvm.Cond.instantiable "NightDoors$Reckoner" (6 : Nat)) ∈ lw_tbl := tk_0 (j := 103) rfl
theorem tw_104 : (Jvm.Cond.methodLinkNest "NightDoors$Question" (11 : Nat) ({ cls := "NightDoors$Reckoner", name := "<init>", desc := "()V" } : Jvm.MethodName) "NightDoors") ∈ lw_tbl := tk_0 (j := 104) rfl
theorem tw_105 : (Jvm.Cond.instanceMethod ({ cls := "NightDoors$Reckoner", name := "<init>", desc := "()V" } : Jvm.MethodName)) ∈ lw_tbl := tk_0 (j := 105) rfl
theorem tw_106 : (Jvm.Cond.code ({ cls := "NightDoors$Reckoner", name := "<init>", desc := "()V" } : Jvm.MethodName) prog_8_method_1_code (1 : Nat) (Option.none : Option Jvm.ClassFile.FieldType)) ∈ lw_tbl := tk_0 (j := 106) rfl
theorem tw_107 : (Jvm.Cond.methodLink "NightDoors$Reckoner" (3 : Nat) ({ cls := "java/lang/Object", name := "<init>", desc := "()V" } : Jvm.MethodName)) ∈ lw_tbl := tk_0 (j := 107) rfl
theorem tw_108 : (Jvm.Cond.fieldLink "NightDoors$Reckoner" (9 : Nat) "NightDoors$Reckoner" "steps" "[I") ∈ lw_tbl := tk_0 (j := 108) rfl
theorem tw_109 : (Jvm.Cond.fieldLink "NightDoors$Reckoner" (15 : Nat) "NightDoors$Reckoner" "size" "I") ∈ lw_tbl := tk_0 (j := 109) rfl
theorem tw_110 : (Jvm.Cond.fieldLinkNest "NightDoors$Question" (140 : Nat) "NightDoors$Reckoner" "size" "I" "NightDoors") ∈ lw_tbl := tk_0 (j := 110) rfl
theorem tw_111 : (Jvm.Cond.fieldLinkNest "NightDoors$DreamReader" (131 : Nat) "NightDoors$Reckoner" "size" "I" "NightDoors") ∈ lw_tbl := tk_0 (j := 111) rfl
theorem tw_112 : (Jvm.Cond.fieldLinkNest "NightDoors$Dream" (82 : Nat) "NightDoors$Reckoner" "size" "I" "NightDoors") ∈ lw_tbl := tk_0 (j := 112) rfl
theorem tw_113 : (Jvm.Cond.fieldLink "NightDoors$Reckoner" (19 : Nat) "NightDoors$Reckoner" "stack" "[I") ∈ lw_tbl := tk_0 (j := 113) rfl
theorem tw_114 : (Jvm.Cond.fieldLink "NightDoors$Reckoner" (22 : Nat) "NightDoors$Reckoner" "top" "I") ∈ lw_tbl := tk_0 (j := 114) rfl
theorem tw_115 : (Jvm.Cond.fieldLink "NightDoors$Reckoner" (25 : Nat) "NightDoors$Reckoner" "known" "[I") ∈ lw_tbl := tk_0 (j := 115) rfl
theorem tw_116 : (Jvm.Cond.fieldLink "NightDoors$Reckoner" (28 : Nat) "NightDoors$Reckoner" "weights" "[I") ∈ lw_tbl := tk_0 (j := 116) rfl
theorem tw_117 : (Jvm.Cond.laysFinal "NightDoors$Reckoner" "NightDoors$Reckoner" "steps" "[I") ∈ lw_tbl := tk_0 (j := 117) rfl
theorem tw_119 : (Jvm.Cond.lays "NightDoors$Reckoner" "NightDoors$Reckoner" "size" "I") ∈ lw_tbl := tk_0 (j := 119) rfl
theorem tw_121 : (Jvm.Cond.laysFinal "NightDoors$Reckoner" "NightDoors$Reckoner" "stack" "[I") ∈ lw_tbl := tk_0 (j := 121) rfl
theorem tw_123 : (Jvm.Cond.lays "NightDoors$Reckoner" "NightDoors$Reckoner" "top" "I") ∈ lw_tbl := tk_0 (j := 123) rfl
theorem tw_125 : (Jvm.Cond.laysFinal "NightDoors$Reckoner" "NightDoors$Reckoner" "known" "[I") ∈ lw_tbl := tk_0 (j := 125) rfl
theorem tw_127 : (Jvm.Cond.laysFinal "NightDoors$Reckoner" "NightDoors$Reckoner" "weights" "[I") ∈ lw_tbl := tk_0 (j := 127) rfl
theorem tw_130 : (Jvm.Cond.fieldLink "NightDoors$Question" (22 : Nat) "NightDoors$Question" "text" "LNightDoors$Text;") ∈ lw_tbl := tk_0 (j := 130) rfl
theorem tw_131 : (Jvm.Cond.fieldLink "NightDoors$Question" (26 : Nat) "NightDoors$Question" "sums" "LNightDoors$SumReader;") ∈ lw_tbl := tk_0 (j := 131) rfl
theorem tw_132 : (Jvm.Cond.fieldLink "NightDoors$Question" (12 : Nat) "NightDoors$Question" "reckoner" "LNightDoors$Reckoner;") ∈ lw_tbl := tk_0 (j := 132) rfl
theorem tw_133 : (Jvm.Cond.fieldLink "NightDoors$Question" (18 : Nat) "NightDoors$Question" "head" "I") ∈ lw_tbl := tk_0 (j := 133) rfl
theorem tw_134 : (Jvm.Cond.laysFinal "NightDoors$Question" "NightDoors$Question" "text" "LNightDoors$Text;") ∈ lw_tbl := tk_0 (j := 134) rfl
theorem tw_136 : (Jvm.Cond.laysFinal "NightDoors$Question" "NightDoors$Question" "sums" "LNightDoors$SumReader;") ∈ lw_tbl := tk_0 (j := 136) rfl
theorem tw_138 : (Jvm.Cond.laysFinal "NightDoors$Question" "NightDoors$Question" "reckoner" "LNightDoors$Reckoner;") ∈ lw_tbl := tk_0 (j := 138) rfl
theorem tw_140 : (Jvm.Cond.lays "NightDoors$Question" "NightDoors$Question" "head" "I") ∈ lw_tbl := tk_0 (j := 140) rfl
theorem tw_143 : (Jvm.Cond.classLink "NightDoors" (41 : Nat) "NightDoors$Dream") ∈ lw_tbl := tk_0 (j := 143) rfl
theorem tw_144 : (Jvm.Cond.instantiable "NightDoors$Dream" (11 : Nat)) ∈ lw_tbl := tk_0 (j := 144) rfl
theorem tw_145 : (Jvm.Cond.methodLinkNest "NightDoors" (43 : Nat) ({ cls := "NightDoors$Dream", name := "<init>", desc := "()V" } : Jvm.MethodName) "NightDoors") ∈ lw_tbl := tk_0 (j := 145) rfl
theorem tw_146 : (Jvm.Cond.instanceMethod ({ cls := "NightDoors$Dream", name := "<init>", desc := "()V" } : Jvm.MethodName)) ∈ lw_tbl := tk_0 (j := 146) rfl
theorem tw_147 : (Jvm.Cond.code ({ cls := "NightDoors$Dream", name := "<init>", desc := "()V" } : Jvm.MethodName) prog_4_method_1_code (1 : Nat) (Option.none : Option Jvm.ClassFile.FieldType)) ∈ lw_tbl := tk_0 (j := 147) rfl
theorem tw_148 : (Jvm.Cond.methodLink "NightDoors$Dream" (3 : Nat) ({ cls := "java/lang/Object", name := "<init>", desc := "()V" } : Jvm.MethodName)) ∈ lw_tbl := tk_0 (j := 148) rfl
theorem tw_149 : (Jvm.Cond.classLink "NightDoors$Dream" (37 : Nat) "NightDoors$Reckoner") ∈ lw_tbl := tk_0 (j := 149) rfl
theorem tw_150 : (Jvm.Cond.methodLinkNest "NightDoors$Dream" (39 : Nat) ({ cls := "NightDoors$Reckoner", name := "<init>", desc := "()V" } : Jvm.MethodName) "NightDoors") ∈ lw_tbl := tk_0 (j := 150) rfl
theorem tw_151 : (Jvm.Cond.fieldLink "NightDoors$Dream" (9 : Nat) "NightDoors$Dream" "letters" "[I") ∈ lw_tbl := tk_0 (j := 151) rfl
theorem tw_152 : (Jvm.Cond.fieldLink "NightDoors$Dream" (15 : Nat) "NightDoors$Dream" "counted" "[I") ∈ lw_tbl := tk_0 (j := 152) rfl
theorem tw_153 : (Jvm.Cond.fieldLink "NightDoors$Dream" (18 : Nat) "NightDoors$Dream" "braveries" "[I") ∈ lw_tbl := tk_0 (j := 153) rfl
theorem tw_154 : (Jvm.Cond.fieldLink "NightDoors$Dream" (21 : Nat) "NightDoors$Dream" "fears" "[I") ∈ lw_tbl := tk_0 (j := 154) rfl
theorem tw_155 : (Jvm.Cond.fieldLink "NightDoors$Dream" (24 : Nat) "NightDoors$Dream" "afraid" "[I") ∈ lw_tbl := tk_0 (j := 155) rfl
theorem tw_156 : (Jvm.Cond.fieldLink "NightDoors$Dream" (27 : Nat) "NightDoors$Dream" "home" "I") ∈ lw_tbl := tk_0 (j := 156) rfl
theorem tw_157 : (Jvm.Cond.fieldLinkNest "NightDoors$DreamReader" (93 : Nat) "NightDoors$Dream" "home" "I" "NightDoors") ∈ lw_tbl := tk_0 (j := 157) rfl
theorem tw_158 : (Jvm.Cond.fieldLinkNest "NightDoors" (144 : Nat) "NightDoors$Dream" "home" "I" "NightDoors") ∈ lw_tbl := tk_0 (j := 158) rfl
theorem tw_159 : (Jvm.Cond.fieldLink "NightDoors$Dream" (31 : Nat) "NightDoors$Dream" "laugh" "I") ∈ lw_tbl := tk_0 (j := 159) rfl
theorem tw_160 : (Jvm.Cond.fieldLinkNest "NightDoors$DreamReader" (97 : Nat) "NightDoors$Dream" "laugh" "I" "NightDoors") ∈ lw_tbl := tk_0 (j := 160) rfl
theorem tw_161 : (Jvm.Cond.fieldLinkNest "NightDoors$Fates" (83 : Nat) "NightDoors$Dream" "laugh" "I" "NightDoors") ∈ lw_tbl := tk_0 (j := 161) rfl
theorem tw_162 : (Jvm.Cond.fieldLinkNest "NightDoors" (147 : Nat) "NightDoors$Dream" "laugh" "I" "NightDoors") ∈ lw_tbl := tk_0 (j := 162) rfl
theorem tw_163 : (Jvm.Cond.fieldLink "NightDoors$Dream" (34 : Nat) "NightDoors$Dream" "spite" "I") ∈ lw_tbl := tk_0 (j := 163) rfl
theorem tw_164 : (Jvm.Cond.fieldLinkNest "NightDoors$DreamReader" (100 : Nat) "NightDoors$Dream" "spite" "I" "NightDoors") ∈ lw_tbl := tk_0 (j := 164) rfl
theorem tw_165 : (Jvm.Cond.fieldLinkNest "NightDoors$Fates" (58 : Nat) "NightDoors$Dream" "spite" "I" "NightDoors") ∈ lw_tbl := tk_0 (j := 165) rfl
theorem tw_166 : (Jvm.Cond.fieldLinkNest "NightDoors" (150 : Nat) "NightDoors$Dream" "spite" "I" "NightDoors") ∈ lw_tbl := tk_0 (j := 166) rfl
theorem tw_167 : (Jvm.Cond.fieldLink "NightDoors$Dream" (40 : Nat) "NightDoors$Dream" "reckoner" "LNightDoors$Reckoner;") ∈ lw_tbl := tk_0 (j := 167) rfl
theorem tw_168 : (Jvm.Cond.fieldLinkNest "NightDoors$DreamReader" (24 : Nat) "NightDoors$Dream" "reckoner" "LNightDoors$Reckoner;" "NightDoors") ∈ lw_tbl := tk_0 (j := 168) rfl
theorem tw_169 : (Jvm.Cond.fieldLink "NightDoors$Dream" (44 : Nat) "NightDoors$Dream" "from" "[I") ∈ lw_tbl := tk_0 (j := 169) rfl
theorem tw_170 : (Jvm.Cond.fieldLink "NightDoors$Dream" (47 : Nat) "NightDoors$Dream" "to" "[I") ∈ lw_tbl := tk_0 (j := 170) rfl
theorem tw_171 : (Jvm.Cond.laysFinal "NightDoors$Dream" "NightDoors$Dream" "letters" "[I") ∈ lw_tbl := tk_0 (j := 171) rfl
theorem tw_173 : (Jvm.Cond.laysFinal "NightDoors$Dream" "NightDoors$Dream" "counted" "[I") ∈ lw_tbl := tk_0 (j := 173) rfl
theorem tw_175 : (Jvm.Cond.laysFinal "NightDoors$Dream" "NightDoors$Dream" "braveries" "[I") ∈ lw_tbl := tk_0 (j := 175) rfl
theorem tw_177 : (Jvm.Cond.laysFinal "NightDoors$Dream" "NightDoors$Dream" "fears" "[I") ∈ lw_tbl := tk_0 (j := 177) rfl
theorem tw_179 : (Jvm.Cond.laysFinal "NightDoors$Dream" "NightDoors$Dream" "afraid" "[I") ∈ lw_tbl := tk_0 (j := 179) rfl
theorem tw_181 : (Jvm.Cond.lays "NightDoors$Dream" "NightDoors$Dream" "home" "I") ∈ lw_tbl := tk_0 (j := 181) rfl
theorem tw_183 : (Jvm.Cond.lays "NightDoors$Dream" "NightDoors$Dream" "laugh" "I") ∈ lw_tbl := tk_0 (j := 183) rfl
theorem tw_185 : (Jvm.Cond.lays "NightDoors$Dream" "NightDoors$Dream" "spite" "I") ∈ lw_tbl := tk_0 (j := 185) rfl
theorem tw_187 : (Jvm.Cond.laysFinal "NightDoors$Dream" "NightDoors$Dream" "reckoner" "LNightDoors$Reckoner;") ∈ lw_tbl := tk_0 (j := 187) rfl
theorem tw_189 : (Jvm.Cond.laysFinal "NightDoors$Dream" "NightDoors$Dream" "from" "[I") ∈ lw_tbl := tk_0 (j := 189) rfl
theorem tw_191 : (Jvm.Cond.laysFinal "NightDoors$Dream" "NightDoors$Dream" "to" "[I") ∈ lw_tbl := tk_0 (j := 191) rfl
theorem tw_194 : (Jvm.Cond.methodLink "NightDoors" (51 : Nat) ({ cls := "NightDoors", name := "newSleepers", desc := "(I)[LNightDoors$Sleeper;" } : Jvm.MethodName)) ∈ lw_tbl := tk_0 (j := 194) rfl
theorem tw_195 : (Jvm.Cond.static ({ cls := "NightDoors", name := "newSleepers", desc := "(I)[LNightDoors$Sleeper;" } : Jvm.MethodName)) ∈ lw_tbl := tk_0 (j := 195) rfl
theorem tw_196 : (Jvm.Cond.code ({ cls := "NightDoors", name := "newSleepers", desc := "(I)[LNightDoors$Sleeper;" } : Jvm.MethodName) prog_1_method_43_code (3 : Nat) (Option.some (Jvm.ClassFile.FieldType.array (Jvm.ClassFile.FieldType.object "NightDoors$Sleeper")))) ∈ lw_tbl := tk_0 (j := 196) rfl
theorem tw_197 : (Jvm.Cond.classLink "NightDoors" (178 : Nat) "NightDoors$Sleeper") ∈ lw_tbl := tk_0 (j := 197) rfl
theorem tw_198 : (Jvm.Cond.arrayOver (Jvm.ClassFile.FieldType.object "NightDoors$Sleeper")) ∈ lw_tbl := tk_0 (j := 198) rfl
theorem tw_199 : (Jvm.Cond.instantiable "NightDoors$Sleeper" (3 : Nat)) ∈ lw_tbl := tk_0 (j := 199) rfl
theorem tw_200 : (Jvm.Cond.methodLinkNest "NightDoors" (338 : Nat) ({ cls := "NightDoors$Sleeper", name := "<init>", desc := "()V" } : Jvm.MethodName) "NightDoors") ∈ lw_tbl := tk_0 (j := 200) rfl
theorem tw_201 : (Jvm.Cond.instanceMethod ({ cls := "NightDoors$Sleeper", name := "<init>", desc := "()V" } : Jvm.MethodName)) ∈ lw_tbl := tk_0 (j := 201) rfl
theorem tw_202 : (Jvm.Cond.code ({ cls := "NightDoors$Sleeper", name := "<init>", desc := "()V" } : Jvm.MethodName) prog_9_method_1_code (1 : Nat) (Option.none : Option Jvm.ClassFile.FieldType)) ∈ lw_tbl := tk_0 (j := 202) rfl
theorem tw_203 : (Jvm.Cond.methodLink "NightDoors$Sleeper" (3 : Nat) ({ cls := "java/lang/Object", name := "<init>", desc := "()V" } : Jvm.MethodName)) ∈ lw_tbl := tk_0 (j := 203) rfl
theorem tw_204 : (Jvm.Cond.fieldLink "NightDoors$Sleeper" (9 : Nat) "NightDoors$Sleeper" "weights" "[I") ∈ lw_tbl := tk_0 (j := 204) rfl
theorem tw_205 : (Jvm.Cond.fieldLinkNest "NightDoors$Dream" (114 : Nat) "NightDoors$Sleeper" "weights" "[I" "NightDoors") ∈ lw_tbl := tk_0 (j := 205) rfl
theorem tw_206 : (Jvm.Cond.fieldLink "NightDoors$Sleeper" (15 : Nat) "NightDoors$Sleeper" "number" "I") ∈ lw_tbl := tk_0 (j := 206) rfl
theorem tw_207 : (Jvm.Cond.fieldLinkNest "NightDoors$Acts" (41 : Nat) "NightDoors$Sleeper" "number" "I" "NightDoors") ∈ lw_tbl := tk_0 (j := 207) rfl
theorem tw_208 : (Jvm.Cond.fieldLinkNest "NightDoors$Dream" (85 : Nat) "NightDoors$Sleeper" "number" "I" "NightDoors") ∈ lw_tbl := tk_0 (j := 208) rfl
theorem tw_209 : (Jvm.Cond.fieldLink "NightDoors$Sleeper" (19 : Nat) "NightDoors$Sleeper" "guide" "I") ∈ lw_tbl := tk_0 (j := 209) rfl
theorem tw_210 : (Jvm.Cond.fieldLinkNest "NightDoors$Ways" (102 : Nat) "NightDoors$Sleeper" "guide" "I" "NightDoors") ∈ lw_tbl := tk_0 (j := 210) rfl
theorem tw_211 : (Jvm.Cond.fieldLinkNest "NightDoors" (177 : Nat) "NightDoors$Sleeper" "guide" "I" "NightDoors") ∈ lw_tbl := tk_0 (j := 211) rfl
theorem tw_212 : (Jvm.Cond.fieldLinkNest "NightDoors$Dream" (90 : Nat) "NightDoors$Sleeper" "guide" "I" "NightDoors") ∈ lw_tbl := tk_0 (j := 212) rfl
theorem tw_213 : (Jvm.Cond.laysFinal "NightDoors$Sleeper" "NightDoors$Sleeper" "weights" "[I") ∈ lw_tbl := tk_0 (j := 213) rfl
theorem tw_215 : (Jvm.Cond.lays "NightDoors$Sleeper" "NightDoors$Sleeper" "number" "I") ∈ lw_tbl := tk_0 (j := 215) rfl
theorem tw_217 : (Jvm.Cond.lays "NightDoors$Sleeper" "NightDoors$Sleeper" "guide" "I") ∈ lw_tbl := tk_0 (j := 217) rfl
theorem tw_220 : (Jvm.Cond.classLink "NightDoors" (59 : Nat) "NightDoors$Acts") ∈ lw_tbl := tk_0 (j := 220) rfl
theorem tw_221 : (Jvm.Cond.instantiable "NightDoors$Acts" (3 : Nat)) ∈ lw_tbl := tk_0 (j := 221) rfl
theorem tw_222 : (Jvm.Cond.methodLinkNest "NightDoors" (61 : Nat) ({ cls := "NightDoors$Acts", name := "<init>", desc := "()V" } : Jvm.MethodName) "NightDoors") ∈ lw_tbl := tk_0 (j := 222) rfl
theorem tw_223 : (Jvm.Cond.instanceMethod ({ cls := "NightDoors$Acts", name := "<init>", desc := "()V" } : Jvm.MethodName)) ∈ lw_tbl := tk_0 (j := 223) rfl
theorem tw_224 : (Jvm.Cond.code ({ cls := "NightDoors$Acts", name := "<init>", desc := "()V" } : Jvm.MethodName) prog_2_method_1_code (1 : Nat) (Option.none : Option Jvm.ClassFile.FieldType)) ∈ lw_tbl := tk_0 (j := 224) rfl
theorem tw_225 : (Jvm.Cond.methodLink "NightDoors$Acts" (3 : Nat) ({ cls := "java/lang/Object", name := "<init>", desc := "()V" } : Jvm.MethodName)) ∈ lw_tbl := tk_0 (j := 225) rfl
theorem tw_226 : (Jvm.Cond.methodLinkNest "NightDoors$Acts" (9 : Nat) ({ cls := "NightDoors", name := "newSleepers", desc := "(I)[LNightDoors$Sleeper;" } : Jvm.MethodName) "NightDoors") ∈ lw_tbl := tk_0 (j := 226) rfl
theorem tw_227 : (Jvm.Cond.fieldLink "NightDoors$Acts" (13 : Nat) "NightDoors$Acts" "kept" "[LNightDoors$Sleeper;") ∈ lw_tbl := tk_0 (j := 227) rfl
theorem tw_228 : (Jvm.Cond.fieldLink "NightDoors$Acts" (19 : Nat) "NightDoors$Acts" "next" "I") ∈ lw_tbl := tk_0 (j := 228) rfl
theorem tw_229 : (Jvm.Cond.fieldLink "NightDoors$Acts" (23 : Nat) "NightDoors$Acts" "count" "I") ∈ lw_tbl := tk_0 (j := 229) rfl
theorem tw_230 : (Jvm.Cond.fieldLinkNest "NightDoors" (157 : Nat) "NightDoors$Acts" "count" "I" "NightDoors") ∈ lw_tbl := tk_0 (j := 230) rfl
theorem tw_231 : (Jvm.Cond.laysFinal "NightDoors$Acts" "NightDoors$Acts" "kept" "[LNightDoors$Sleeper;") ∈ lw_tbl := tk_0 (j := 231) rfl
theorem tw_233 : (Jvm.Cond.lays "NightDoors$Acts" "NightDoors$Acts" "next" "I") ∈ lw_tbl := tk_0 (j := 233) rfl
theorem tw_235 : (Jvm.Cond.lays "NightDoors$Acts" "NightDoors$Acts" "count" "I") ∈ lw_tbl := tk_0 (j := 235) rfl
theorem tw_238 : (Jvm.Cond.classLink "NightDoors" (66 : Nat) "NightDoors$Ahead") ∈ lw_tbl := tk_0 (j := 238) rfl
theorem tw_239 : (Jvm.Cond.instantiable "NightDoors$Ahead" (6 : Nat)) ∈ lw_tbl := tk_0 (j := 239) rfl
theorem tw_240 : (Jvm.Cond.methodLinkNest "NightDoors" (68 : Nat) ({ cls := "NightDoors$Ahead", name := "<init>", desc := "()V" } : Jvm.MethodName) "NightDoors") ∈ lw_tbl := tk_1 (j := 0) rfl
theorem tw_241 : (Jvm.Cond.instanceMethod ({ cls := "NightDoors$Ahead", name := "<init>", desc := "()V" } : Jvm.MethodName)) ∈ lw_tbl := tk_1 (j := 1) rfl
theorem tw_242 : (Jvm.Cond.code ({ cls := "NightDoors$Ahead", name := "<init>", desc := "()V" } : Jvm.MethodName) prog_3_method_1_code (1 : Nat) (Option.none : Option Jvm.ClassFile.FieldType)) ∈ lw_tbl := tk_1 (j := 2) rfl
theorem tw_243 : (Jvm.Cond.methodLink "NightDoors$Ahead" (3 : Nat) ({ cls := "java/lang/Object", name := "<init>", desc := "()V" } : Jvm.MethodName)) ∈ lw_tbl := tk_1 (j := 3) rfl
theorem tw_244 : (Jvm.Cond.classLink "NightDoors$Ahead" (26 : Nat) "NightDoors$Sleeper") ∈ lw_tbl := tk_1 (j := 4) rfl
theorem tw_245 : (Jvm.Cond.methodLinkNest "NightDoors$Ahead" (28 : Nat) ({ cls := "NightDoors$Sleeper", name := "<init>", desc := "()V" } : Jvm.MethodName) "NightDoors") ∈ lw_tbl := tk_1 (j := 5) rfl
theorem tw_246 : (Jvm.Cond.fieldLink "NightDoors$Ahead" (9 : Nat) "NightDoors$Ahead" "rows" "[I") ∈ lw_tbl := tk_1 (j := 6) rfl
theorem tw_247 : (Jvm.Cond.fieldLinkNest "NightDoors$Question" (124 : Nat) "NightDoors$Ahead" "rows" "[I" "NightDoors") ∈ lw_tbl := tk_1 (j := 7) rfl
theorem tw_248 : (Jvm.Cond.fieldLink "NightDoors$Ahead" (15 : Nat) "NightDoors$Ahead" "dreads" "[I") ∈ lw_tbl := tk_1 (j := 8) rfl
theorem tw_249 : (Jvm.Cond.fieldLink "NightDoors$Ahead" (18 : Nat) "NightDoors$Ahead" "count" "I") ∈ lw_tbl := tk_1 (j := 9) rfl
theorem tw_250 : (Jvm.Cond.fieldLinkNest "NightDoors$Question" (106 : Nat) "NightDoors$Ahead" "count" "I" "NightDoors") ∈ lw_tbl := tk_1 (j := 10) rfl
theorem tw_251 : (Jvm.Cond.fieldLinkNest "NightDoors" (222 : Nat) "NightDoors$Ahead" "count" "I" "NightDoors") ∈ lw_tbl := tk_1 (j := 11) rfl
theorem tw_252 : (Jvm.Cond.fieldLink "NightDoors$Ahead" (22 : Nat) "NightDoors$Ahead" "isHome" "Z") ∈ lw_tbl := tk_1 (j := 12) rfl
theorem tw_253 : (Jvm.Cond.fieldLinkNest "NightDoors" (231 : Nat) "NightDoors$Ahead" "isHome" "Z" "NightDoors") ∈ lw_tbl := tk_1 (j := 13) rfl
theorem tw_254 : (Jvm.Cond.fieldLink "NightDoors$Ahead" (29 : Nat) "NightDoors$Ahead" "walker" "LNightDoors$Sleeper;") ∈ lw_tbl := tk_1 (j := 14) rfl
theorem tw_255 : (Jvm.Cond.fieldLink "NightDoors$Ahead" (33 : Nat) "NightDoors$Ahead" "other" "LNightDoors$Sleeper;") ∈ lw_tbl := tk_1 (j := 15) rfl
theorem tw_256 : (Jvm.Cond.laysFinal "NightDoors$Ahead" "NightDoors$Ahead" "rows" "[I") ∈ lw_tbl := tk_1 (j := 16) rfl
theorem tw_258 : (Jvm.Cond.laysFinal "NightDoors$Ahead" "NightDoors$Ahead" "dreads" "[I") ∈ lw_tbl := tk_1 (j := 18) rfl
theorem tw_260 : (Jvm.Cond.lays "NightDoors$Ahead" "NightDoors$Ahead" "count" "I") ∈ lw_tbl := tk_1 (j := 20) rfl
theorem tw_262 : (Jvm.Cond.lays "NightDoors$Ahead" "NightDoors$Ahead" "isHome" "Z") ∈ lw_tbl := tk_1 (j := 22) rfl
theorem tw_264 : (Jvm.Cond.laysFinal "NightDoors$Ahead" "NightDoors$Ahead" "walker" "LNightDoors$Sleeper;") ∈ lw_tbl := tk_1 (j := 24) rfl
theorem tw_266 : (Jvm.Cond.laysFinal "NightDoors$Ahead" "NightDoors$Ahead" "other" "LNightDoors$Sleeper;") ∈ lw_tbl := tk_1 (j := 26) rfl
theorem tw_269 : (Jvm.Cond.classLink "NightDoors" (73 : Nat) "NightDoors$Ways") ∈ lw_tbl := tk_1 (j := 29) rfl
theorem tw_270 : (Jvm.Cond.instantiable "NightDoors$Ways" (13 : Nat)) ∈ lw_tbl := tk_1 (j := 30) rfl
theorem tw_271 : (Jvm.Cond.methodLinkNest "NightDoors" (75 : Nat) ({ cls := "NightDoors$Ways", name := "<init>", desc := "()V" } : Jvm.MethodName) "NightDoors") ∈ lw_tbl := tk_1 (j := 31) rfl
theorem tw_272 : (Jvm.Cond.instanceMethod ({ cls := "NightDoors$Ways", name := "<init>", desc := "()V" } : Jvm.MethodName)) ∈ lw_tbl := tk_1 (j := 32) rfl
theorem tw_273 : (Jvm.Cond.code ({ cls := "NightDoors$Ways", name := "<init>", desc := "()V" } : Jvm.MethodName) prog_12_method_1_code (1 : Nat) (Option.none : Option Jvm.ClassFile.FieldType)) ∈ lw_tbl := tk_1 (j := 33) rfl
theorem tw_274 : (Jvm.Cond.methodLink "NightDoors$Ways" (3 : Nat) ({ cls := "java/lang/Object", name := "<init>", desc := "()V" } : Jvm.MethodName)) ∈ lw_tbl := tk_1 (j := 34) rfl
theorem tw_275 : (Jvm.Cond.methodLinkNest "NightDoors$Ways" (9 : Nat) ({ cls := "NightDoors", name := "newSleepers", desc := "(I)[LNightDoors$Sleeper;" } : Jvm.MethodName) "NightDoors") ∈ lw_tbl := tk_1 (j := 35) rfl
theorem tw_276 : (Jvm.Cond.classLink "NightDoors$Ways" (37 : Nat) "NightDoors$Sleeper") ∈ lw_tbl := tk_1 (j := 36) rfl
theorem tw_277 : (Jvm.Cond.methodLinkNest "NightDoors$Ways" (39 : Nat) ({ cls := "NightDoors$Sleeper", name := "<init>", desc := "()V" } : Jvm.MethodName) "NightDoors") ∈ lw_tbl := tk_1 (j := 37) rfl
theorem tw_278 : (Jvm.Cond.fieldLink "NightDoors$Ways" (13 : Nat) "NightDoors$Ways" "steps" "[LNightDoors$Sleeper;") ∈ lw_tbl := tk_1 (j := 38) rfl
theorem tw_279 : (Jvm.Cond.fieldLink "NightDoors$Ways" (19 : Nat) "NightDoors$Ways" "way" "[I") ∈ lw_tbl := tk_1 (j := 39) rfl
theorem tw_280 : (Jvm.Cond.fieldLink "NightDoors$Ways" (23 : Nat) "NightDoors$Ways" "best" "[I") ∈ lw_tbl := tk_1 (j := 40) rfl
theorem tw_281 : (Jvm.Cond.fieldLink "NightDoors$Ways" (26 : Nat) "NightDoors$Ways" "bestRooms" "I") ∈ lw_tbl := tk_1 (j := 41) rfl
theorem tw_282 : (Jvm.Cond.fieldLink "NightDoors$Ways" (30 : Nat) "NightDoors$Ways" "bestDread" "I") ∈ lw_tbl := tk_1 (j := 42) rfl
theorem tw_283 : (Jvm.Cond.fieldLinkNest "NightDoors" (248 : Nat) "NightDoors$Ways" "bestDread" "I" "NightDoors") ∈ lw_tbl := tk_1 (j := 43) rfl
theorem tw_284 : (Jvm.Cond.fieldLink "NightDoors$Ways" (33 : Nat) "NightDoors$Ways" "byDread" "Z") ∈ lw_tbl := tk_1 (j := 44) rfl
theorem tw_285 : (Jvm.Cond.fieldLink "NightDoors$Ways" (40 : Nat) "NightDoors$Ways" "taker" "LNightDoors$Sleeper;") ∈ lw_tbl := tk_1 (j := 45) rfl
theorem tw_286 : (Jvm.Cond.fieldLink "NightDoors$Ways" (44 : Nat) "NightDoors$Ways" "bestGuide" "I") ∈ lw_tbl := tk_1 (j := 46) rfl
theorem tw_287 : (Jvm.Cond.fieldLinkNest "NightDoors" (254 : Nat) "NightDoors$Ways" "bestGuide" "I" "NightDoors") ∈ lw_tbl := tk_1 (j := 47) rfl
theorem tw_288 : (Jvm.Cond.fieldLink "NightDoors$Ways" (47 : Nat) "NightDoors$Ways" "morning" "LNightDoors$Sleeper;") ∈ lw_tbl := tk_1 (j := 48) rfl
theorem tw_289 : (Jvm.Cond.fieldLink "NightDoors$Ways" (50 : Nat) "NightDoors$Ways" "order" "[I") ∈ lw_tbl := tk_1 (j := 49) rfl
theorem tw_290 : (Jvm.Cond.fieldLink "NightDoors$Ways" (53 : Nat) "NightDoors$Ways" "bestOrder" "[I") ∈ lw_tbl := tk_1 (j := 50) rfl
theorem tw_291 : (Jvm.Cond.fieldLink "NightDoors$Ways" (56 : Nat) "NightDoors$Ways" "ends" "[I") ∈ lw_tbl := tk_1 (j := 51) rfl
theorem tw_292 : (Jvm.Cond.fieldLink "NightDoors$Ways" (59 : Nat) "NightDoors$Ways" "endCount" "I") ∈ lw_tbl := tk_1 (j := 52) rfl
theorem tw_293 : (Jvm.Cond.laysFinal "NightDoors$Ways" "NightDoors$Ways" "steps" "[LNightDoors$Sleeper;") ∈ lw_tbl := tk_1 (j := 53) rfl
theorem tw_295 : (Jvm.Cond.laysFinal "NightDoors$Ways" "NightDoors$Ways" "way" "[I") ∈ lw_tbl := tk_1 (j := 55) rfl
theorem tw_297 : (Jvm.Cond.laysFinal "NightDoors$Ways" "NightDoors$Ways" "best" "[I") ∈ lw_tbl := tk_1 (j := 57) rfl
theorem tw_299 : (Jvm.Cond.lays "NightDoors$Ways" "NightDoors$Ways" "bestRooms" "I") ∈ lw_tbl := tk_1 (j := 59) rfl
theorem tw_301 : (Jvm.Cond.lays "NightDoors$Ways" "NightDoors$Ways" "bestDread" "I") ∈ lw_tbl := tk_1 (j := 61) rfl
theorem tw_303 : (Jvm.Cond.lays "NightDoors$Ways" "NightDoors$Ways" "byDread" "Z") ∈ lw_tbl := tk_1 (j := 63) rfl
theorem tw_305 : (Jvm.Cond.laysFinal "NightDoors$Ways" "NightDoors$Ways" "taker" "LNightDoors$Sleeper;") ∈ lw_tbl := tk_1 (j := 65) rfl
theorem tw_307 : (Jvm.Cond.lays "NightDoors$Ways" "NightDoors$Ways" "bestGuide" "I") ∈ lw_tbl := tk_1 (j := 67) rfl
theorem tw_309 : (Jvm.Cond.laysFinal "NightDoors$Ways" "NightDoors$Ways" "morning" "LNightDoors$Sleeper;") ∈ lw_tbl := tk_1 (j := 69) rfl
theorem tw_311 : (Jvm.Cond.laysFinal "NightDoors$Ways" "NightDoors$Ways" "order" "[I") ∈ lw_tbl := tk_1 (j := 71) rfl
theorem tw_313 : (Jvm.Cond.laysFinal "NightDoors$Ways" "NightDoors$Ways" "bestOrder" "[I") ∈ lw_tbl := tk_1 (j := 73) rfl
theorem tw_315 : (Jvm.Cond.laysFinal "NightDoors$Ways" "NightDoors$Ways" "ends" "[I") ∈ lw_tbl := tk_1 (j := 75) rfl
theorem tw_317 : (Jvm.Cond.lays "NightDoors$Ways" "NightDoors$Ways" "endCount" "I") ∈ lw_tbl := tk_1 (j := 77) rfl
theorem tw_320 : (Jvm.Cond.classLink "NightDoors" (80 : Nat) "NightDoors$Fates") ∈ lw_tbl := tk_1 (j := 80) rfl
theorem tw_321 : (Jvm.Cond.instantiable "NightDoors$Fates" (3 : Nat)) ∈ lw_tbl := tk_1 (j := 81) rfl
theorem tw_322 : (Jvm.Cond.methodLinkNest "NightDoors" (82 : Nat) ({ cls := "NightDoors$Fates", name := "<init>", desc := "()V" } : Jvm.MethodName) "NightDoors") ∈ lw_tbl := tk_1 (j := 82) rfl
theorem tw_323 : (Jvm.Cond.instanceMethod ({ cls := "NightDoors$Fates", name := "<init>", desc := "()V" } : Jvm.MethodName)) ∈ lw_tbl := tk_1 (j := 83) rfl
theorem tw_324 : (Jvm.Cond.code ({ cls := "NightDoors$Fates", name := "<init>", desc := "()V" } : Jvm.MethodName) prog_6_method_1_code (1 : Nat) (Option.none : Option Jvm.ClassFile.FieldType)) ∈ lw_tbl := tk_1 (j := 84) rfl
theorem tw_325 : (Jvm.Cond.methodLink "NightDoors$Fates" (3 : Nat) ({ cls := "java/lang/Object", name := "<init>", desc := "()V" } : Jvm.MethodName)) ∈ lw_tbl := tk_1 (j := 85) rfl
theorem tw_326 : (Jvm.Cond.methodLinkNest "NightDoors$Fates" (9 : Nat) ({ cls := "NightDoors", name := "newSleepers", desc := "(I)[LNightDoors$Sleeper;" } : Jvm.MethodName) "NightDoors") ∈ lw_tbl := tk_1 (j := 86) rfl
theorem tw_327 : (Jvm.Cond.classLink "NightDoors$Fates" (22 : Nat) "NightDoors$Sleeper") ∈ lw_tbl := tk_1 (j := 87) rfl
theorem tw_328 : (Jvm.Cond.methodLinkNest "NightDoors$Fates" (24 : Nat) ({ cls := "NightDoors$Sleeper", name := "<init>", desc := "()V" } : Jvm.MethodName) "NightDoors") ∈ lw_tbl := tk_1 (j := 88) rfl
theorem tw_329 : (Jvm.Cond.fieldLink "NightDoors$Fates" (13 : Nat) "NightDoors$Fates" "ahead" "[LNightDoors$Sleeper;") ∈ lw_tbl := tk_1 (j := 89) rfl
theorem tw_330 : (Jvm.Cond.fieldLink "NightDoors$Fates" (19 : Nat) "NightDoors$Fates" "behind" "[LNightDoors$Sleeper;") ∈ lw_tbl := tk_1 (j := 90) rfl
theorem tw_331 : (Jvm.Cond.fieldLink "NightDoors$Fates" (25 : Nat) "NightDoors$Fates" "walker" "LNightDoors$Sleeper;") ∈ lw_tbl := tk_1 (j := 91) rfl
theorem tw_332 : (Jvm.Cond.laysFinal "NightDoors$Fates" "NightDoors$Fates" "ahead" "[LNightDoors$Sleeper;") ∈ lw_tbl := tk_1 (j := 92) rfl
theorem tw_334 : (Jvm.Cond.laysFinal "NightDoors$Fates" "NightDoors$Fates" "behind" "[LNightDoors$Sleeper;") ∈ lw_tbl := tk_1 (j := 94) rfl
theorem tw_336 : (Jvm.Cond.laysFinal "NightDoors$Fates" "NightDoors$Fates" "walker" "LNightDoors$Sleeper;") ∈ lw_tbl := tk_1 (j := 96) rfl
theorem tw_339 : (Jvm.Cond.fieldLink "NightDoors" (10 : Nat) "NightDoors" "tape" "LNightDoors$Text;") ∈ lw_tbl := tk_1 (j := 99) rfl
theorem tw_340 : (Jvm.Cond.fieldLink "NightDoors" (21 : Nat) "NightDoors" "sums" "LNightDoors$SumReader;") ∈ lw_tbl := tk_1 (j := 100) rfl
theorem tw_341 : (Jvm.Cond.fieldLink "NightDoors" (30 : Nat) "NightDoors" "reader" "LNightDoors$DreamReader;") ∈ lw_tbl := tk_1 (j := 101) rfl
theorem tw_342 : (Jvm.Cond.fieldLink "NightDoors" (37 : Nat) "NightDoors" "question" "LNightDoors$Question;") ∈ lw_tbl := tk_1 (j := 102) rfl
theorem tw_343 : (Jvm.Cond.fieldLink "NightDoors" (44 : Nat) "NightDoors" "current" "LNightDoors$Dream;") ∈ lw_tbl := tk_1 (j := 103) rfl
theorem tw_344 : (Jvm.Cond.fieldLink "NightDoors" (48 : Nat) "NightDoors" "spare" "LNightDoors$Dream;") ∈ lw_tbl := tk_1 (j := 104) rfl
theorem tw_345 : (Jvm.Cond.fieldLink "NightDoors" (55 : Nat) "NightDoors" "sleepers" "[LNightDoors$Sleeper;") ∈ lw_tbl := tk_1 (j := 105) rfl
theorem tw_346 : (Jvm.Cond.fieldLink "NightDoors" (62 : Nat) "NightDoors" "acts" "LNightDoors$Acts;") ∈ lw_tbl := tk_1 (j := 106) rfl
theorem tw_347 : (Jvm.Cond.fieldLink "NightDoors" (69 : Nat) "NightDoors" "future" "LNightDoors$Ahead;") ∈ lw_tbl := tk_1 (j := 107) rfl
theorem tw_348 : (Jvm.Cond.fieldLink "NightDoors" (76 : Nat) "NightDoors" "ways" "LNightDoors$Ways;") ∈ lw_tbl := tk_1 (j := 108) rfl
theorem tw_349 : (Jvm.Cond.fieldLink "NightDoors" (83 : Nat) "NightDoors" "fates" "LNightDoors$Fates;") ∈ lw_tbl := tk_1 (j := 109) rfl
theorem tw_350 : (Jvm.Cond.fieldLink "NightDoors" (87 : Nat) "NightDoors" "toldRow" "[I") ∈ lw_tbl := tk_1 (j := 110) rfl
theorem tw_351 : (Jvm.Cond.fieldLink "NightDoors" (91 : Nat) "NightDoors" "toldRooms" "I") ∈ lw_tbl := tk_1 (j := 111) rfl
theorem tw_352 : (Jvm.Cond.fieldLink "NightDoors" (95 : Nat) "NightDoors" "toldOf" "I") ∈ lw_tbl := tk_1 (j := 112) rfl
theorem tw_353 : (Jvm.Cond.fieldLink "NightDoors" (98 : Nat) "NightDoors" "picture" "[I") ∈ lw_tbl := tk_1 (j := 113) rfl
theorem tw_354 : (Jvm.Cond.fieldLink "NightDoors" (101 : Nat) "NightDoors" "pictureSize" "I") ∈ lw_tbl := tk_1 (j := 114) rfl
theorem tw_355 : (Jvm.Cond.fieldLink "NightDoors" (104 : Nat) "NightDoors" "refusals" "[I") ∈ lw_tbl := tk_1 (j := 115) rfl
theorem tw_356 : (Jvm.Cond.fieldLink "NightDoors" (107 : Nat) "NightDoors" "lot" "I") ∈ lw_tbl := tk_1 (j := 116) rfl
theorem tw_357 : (Jvm.Cond.laysFinal "NightDoors" "NightDoors" "tape" "LNightDoors$Text;") ∈ lw_tbl := tk_1 (j := 117) rfl
theorem tw_359 : (Jvm.Cond.laysFinal "NightDoors" "NightDoors" "sums" "LNightDoors$SumReader;") ∈ lw_tbl := tk_1 (j := 119) rfl
theorem tw_361 : (Jvm.Cond.laysFinal "NightDoors" "NightDoors" "reader" "LNightDoors$DreamReader;") ∈ lw_tbl := tk_1 (j := 121) rfl
theorem tw_363 : (Jvm.Cond.laysFinal "NightDoors" "NightDoors" "question" "LNightDoors$Question;") ∈ lw_tbl := tk_1 (j := 123) rfl
theorem tw_365 : (Jvm.Cond.lays "NightDoors" "NightDoors" "current" "LNightDoors$Dream;") ∈ lw_tbl := tk_1 (j := 125) rfl
theorem tw_367 : (Jvm.Cond.lays "NightDoors" "NightDoors" "spare" "LNightDoors$Dream;") ∈ lw_tbl := tk_1 (j := 127) rfl
theorem tw_369 : (Jvm.Cond.laysFinal "NightDoors" "NightDoors" "sleepers" "[LNightDoors$Sleeper;") ∈ lw_tbl := tk_1 (j := 129) rfl
theorem tw_371 : (Jvm.Cond.laysFinal "NightDoors" "NightDoors" "acts" "LNightDoors$Acts;") ∈ lw_tbl := tk_1 (j := 131) rfl
theorem tw_373 : (Jvm.Cond.laysFinal "NightDoors" "NightDoors" "future" "LNightDoors$Ahead;") ∈ lw_tbl := tk_1 (j := 133) rfl
theorem tw_375 : (Jvm.Cond.laysFinal "NightDoors" "NightDoors" "ways" "LNightDoors$Ways;") ∈ lw_tbl := tk_1 (j := 135) rfl
theorem tw_377 : (Jvm.Cond.laysFinal "NightDoors" "NightDoors" "fates" "LNightDoors$Fates;") ∈ lw_tbl := tk_1 (j := 137) rfl
theorem tw_379 : (Jvm.Cond.laysFinal "NightDoors" "NightDoors" "toldRow" "[I") ∈ lw_tbl := tk_1 (j := 139) rfl
theorem tw_381 : (Jvm.Cond.lays "NightDoors" "NightDoors" "toldRooms" "I") ∈ lw_tbl := tk_1 (j := 141) rfl
theorem tw_383 : (Jvm.Cond.lays "NightDoors" "NightDoors" "toldOf" "I") ∈ lw_tbl := tk_1 (j := 143) rfl
theorem tw_385 : (Jvm.Cond.laysFinal "NightDoors" "NightDoors" "picture" "[I") ∈ lw_tbl := tk_1 (j := 145) rfl
theorem tw_387 : (Jvm.Cond.lays "NightDoors" "NightDoors" "pictureSize" "I") ∈ lw_tbl := tk_1 (j := 147) rfl
theorem tw_389 : (Jvm.Cond.laysFinal "NightDoors" "NightDoors" "refusals" "[I") ∈ lw_tbl := tk_1 (j := 149) rfl
theorem tw_391 : (Jvm.Cond.lays "NightDoors" "NightDoors" "lot" "I") ∈ lw_tbl := tk_1 (j := 151) rfl
theorem tw_394 : (Jvm.Cond.methodLink "NightDoorsLaw" (13 : Nat) ({ cls := "NightDoors", name := "feed", desc := "(IIIII)I" } : Jvm.MethodName)) ∈ lw_tbl := tk_1 (j := 154) rfl
theorem tw_395 : (Jvm.Cond.instanceMethod ({ cls := "NightDoors", name := "feed", desc := "(IIIII)I" } : Jvm.MethodName)) ∈ lw_tbl := tk_1 (j := 155) rfl
theorem tw_396 : (Jvm.Cond.selects "NightDoors" ({ cls := "NightDoors", name := "feed", desc := "(IIIII)I" } : Jvm.MethodName) ({ cls := "NightDoors", name := "feed", desc := "(IIIII)I" } : Jvm.MethodName)) ∈ lw_tbl := tk_1 (j := 156) rfl
theorem tw_397 : (Jvm.Cond.code ({ cls := "NightDoors", name := "feed", desc := "(IIIII)I" } : Jvm.MethodName) prog_1_method_2_code (6 : Nat) (Option.some Jvm.ClassFile.FieldType.int)) ∈ lw_tbl := tk_1 (j := 157) rfl
theorem tw_398 : (Jvm.Cond.methodLink "NightDoors" (113 : Nat) ({ cls := "NightDoors", name := "refuse", desc := "(I)I" } : Jvm.MethodName)) ∈ lw_tbl := tk_1 (j := 158) rfl
theorem tw_400 : (Jvm.Cond.instanceMethod ({ cls := "NightDoors", name := "refuse", desc := "(I)I" } : Jvm.MethodName)) ∈ lw_tbl := tk_1 (j := 160) rfl
theorem tw_401 : (Jvm.Cond.code ({ cls := "NightDoors", name := "refuse", desc := "(I)I" } : Jvm.MethodName) prog_1_method_36_code (2 : Nat) (Option.some Jvm.ClassFile.FieldType.int)) ∈ lw_tbl := tk_1 (j := 161) rfl
theorem tw_402 : (Jvm.Cond.methodLink "NightDoors" (117 : Nat) ({ cls := "NightDoors$Text", name := "add", desc := "(I)V" } : Jvm.MethodName)) ∈ lw_tbl := tk_1 (j := 162) rfl
theorem tw_403 : (Jvm.Cond.instanceMethod ({ cls := "NightDoors$Text", name := "add", desc := "(I)V" } : Jvm.MethodName)) ∈ lw_tbl := tk_1 (j := 163) rfl
theorem tw_404 : (Jvm.Cond.selects "NightDoors$Text" ({ cls := "NightDoors$Text", name := "add", desc := "(I)V" } : Jvm.MethodName) ({ cls := "NightDoors$Text", name := "add", desc := "(I)V" } : Jvm.MethodName)) ∈ lw_tbl := tk_1 (j := 164) rfl
theorem tw_405 : (Jvm.Cond.code ({ cls := "NightDoors$Text", name := "add", desc := "(I)V" } : Jvm.MethodName) prog_11_method_2_code (3 : Nat) (Option.none : Option Jvm.ClassFile.FieldType)) ∈ lw_tbl := tk_1 (j := 165) rfl
theorem tw_406 : (Jvm.Cond.methodLink "NightDoorsLaw" (18 : Nat) ({ cls := "NightDoors", name := "end", desc := "(I)Z" } : Jvm.MethodName)) ∈ lw_tbl := tk_1 (j := 166) rfl
theorem tw_407 : (Jvm.Cond.instanceMethod ({ cls := "NightDoors", name := "end", desc := "(I)Z" } : Jvm.MethodName)) ∈ lw_tbl := tk_1 (j := 167) rfl
theorem tw_408 : (Jvm.Cond.selects "NightDoors" ({ cls := "NightDoors", name := "end", desc := "(I)Z" } : Jvm.MethodName) ({ cls := "NightDoors", name := "end", desc := "(I)Z" } : Jvm.MethodName)) ∈ lw_tbl := tk_1 (j := 168) rfl
theorem tw_409 : (Jvm.Cond.code ({ cls := "NightDoors", name := "end", desc := "(I)Z" } : Jvm.MethodName) prog_1_method_3_code (2 : Nat) (Option.some Jvm.ClassFile.FieldType.boolean)) ∈ lw_tbl := tk_1 (j := 169) rfl
theorem tw_410 : (Jvm.Cond.methodLink "NightDoorsLaw" (23 : Nat) ({ cls := "NightDoors", name := "dream", desc := "()I" } : Jvm.MethodName)) ∈ lw_tbl := tk_1 (j := 170) rfl
theorem tw_411 : (Jvm.Cond.instanceMethod ({ cls := "NightDoors", name := "dream", desc := "()I" } : Jvm.MethodName)) ∈ lw_tbl := tk_1 (j := 171) rfl
theorem tw_412 : (Jvm.Cond.selects "NightDoors" ({ cls := "NightDoors", name := "dream", desc := "()I" } : Jvm.MethodName) ({ cls := "NightDoors", name := "dream", desc := "()I" } : Jvm.MethodName)) ∈ lw_tbl := tk_1 (j := 172) rfl
theorem tw_413 : (Jvm.Cond.code ({ cls := "NightDoors", name := "dream", desc := "()I" } : Jvm.MethodName) prog_1_method_4_code (4 : Nat) (Option.some Jvm.ClassFile.FieldType.int)) ∈ lw_tbl := tk_1 (j := 173) rfl
theorem tw_414 : (Jvm.Cond.methodLink "NightDoors" (121 : Nat) ({ cls := "NightDoors$DreamReader", name := "read", desc := "(LNightDoors$Dream;)I" } : Jvm.MethodName)) ∈ lw_tbl := tk_1 (j := 174) rfl
theorem tw_415 : (Jvm.Cond.instanceMethod ({ cls := "NightDoors$DreamReader", name := "read", desc := "(LNightDoors$Dream;)I" } : Jvm.MethodName)) ∈ lw_tbl := tk_1 (j := 175) rfl
theorem tw_416 : (Jvm.Cond.selects "NightDoors$DreamReader" ({ cls := "NightDoors$DreamReader", name := "read", desc := "(LNightDoors$Dream;)I" } : Jvm.MethodName) ({ cls := "NightDoors$DreamReader", name := "read", desc := "(LNightDoors$Dream;)I" } : Jvm.MethodName)) ∈ lw_tbl := tk_1 (j := 176) rfl
theorem tw_417 : (Jvm.Cond.code ({ cls := "NightDoors$DreamReader", name := "read", desc := "(LNightDoors$Dream;)I" } : Jvm.MethodName) prog_5_method_2_code (3 : Nat) (Option.some Jvm.ClassFile.FieldType.int)) ∈ lw_tbl := tk_1 (j := 177) rfl
theorem tw_418 : (Jvm.Cond.methodLink "NightDoors$DreamReader" (19 : Nat) ({ cls := "NightDoors$Dream", name := "clear", desc := "()V" } : Jvm.MethodName)) ∈ lw_tbl := tk_1 (j := 178) rfl
theorem tw_419 : (Jvm.Cond.instanceMethod ({ cls := "NightDoors$Dream", name := "clear", desc := "()V" } : Jvm.MethodName)) ∈ lw_tbl := tk_1 (j := 179) rfl
theorem tw_420 : (Jvm.Cond.selects "NightDoors$Dream" ({ cls := "NightDoors$Dream", name := "clear", desc := "()V" } : Jvm.MethodName) ({ cls := "NightDoors$Dream", name := "clear", desc := "()V" } : Jvm.MethodName)) ∈ lw_tbl := tk_1 (j := 180) rfl
theorem tw_421 : (Jvm.Cond.code ({ cls := "NightDoors$Dream", name := "clear", desc := "()V" } : Jvm.MethodName) prog_4_method_2_code (2 : Nat) (Option.none : Option Jvm.ClassFile.FieldType)) ∈ lw_tbl := tk_1 (j := 181) rfl
theorem tw_422 : (Jvm.Cond.methodLink "NightDoors$Dream" (50 : Nat) ({ cls := "NightDoors$Reckoner", name := "clear", desc := "()V" } : Jvm.MethodName)) ∈ lw_tbl := tk_1 (j := 182) rfl
theorem tw_423 : (Jvm.Cond.instanceMethod ({ cls := "NightDoors$Reckoner", name := "clear", desc := "()V" } : Jvm.MethodName)) ∈ lw_tbl := tk_1 (j := 183) rfl
theorem tw_424 : (Jvm.Cond.selects "NightDoors$Reckoner" ({ cls := "NightDoors$Reckoner", name := "clear", desc := "()V" } : Jvm.MethodName) ({ cls := "NightDoors$Reckoner", name := "clear", desc := "()V" } : Jvm.MethodName)) ∈ lw_tbl := tk_1 (j := 184) rfl
theorem tw_425 : (Jvm.Cond.code ({ cls := "NightDoors$Reckoner", name := "clear", desc := "()V" } : Jvm.MethodName) prog_8_method_2_code (1 : Nat) (Option.none : Option Jvm.ClassFile.FieldType)) ∈ lw_tbl := tk_1 (j := 185) rfl
theorem tw_426 : (Jvm.Cond.methodLink "NightDoors$DreamReader" (28 : Nat) ({ cls := "NightDoors$SumReader", name := "write", desc := "(LNightDoors$Reckoner;Z)V" } : Jvm.MethodName)) ∈ lw_tbl := tk_1 (j := 186) rfl
theorem tw_427 : (Jvm.Cond.instanceMethod ({ cls := "NightDoors$SumReader", name := "write", desc := "(LNightDoors$Reckoner;Z)V" } : Jvm.MethodName)) ∈ lw_tbl := tk_1 (j := 187) rfl
theorem tw_428 : (Jvm.Cond.selects "NightDoors$SumReader" ({ cls := "NightDoors$SumReader", name := "write", desc := "(LNightDoors$Reckoner;Z)V" } : Jvm.MethodName) ({ cls := "NightDoors$SumReader", name := "write", desc := "(LNightDoors$Reckoner;Z)V" } : Jvm.MethodName)) ∈ lw_tbl := tk_1 (j := 188) rfl
theorem tw_429 : (Jvm.Cond.code ({ cls := "NightDoors$SumReader", name := "write", desc := "(LNightDoors$Reckoner;Z)V" } : Jvm.MethodName) prog_10_method_2_code (3 : Nat) (Option.none : Option Jvm.ClassFile.FieldType)) ∈ lw_tbl := tk_1 (j := 189) rfl
theorem tw_430 : (Jvm.Cond.methodLink "NightDoors$DreamReader" (34 : Nat) ({ cls := "NightDoors$Text", name := "start", desc := "()V" } : Jvm.MethodName)) ∈ lw_tbl := tk_1 (j := 190) rfl
theorem tw_431 : (Jvm.Cond.instanceMethod ({ cls := "NightDoors$Text", name := "start", desc := "()V" } : Jvm.MethodName)) ∈ lw_tbl := tk_1 (j := 191) rfl
theorem tw_432 : (Jvm.Cond.selects "NightDoors$Text" ({ cls := "NightDoors$Text", name := "start", desc := "()V" } : Jvm.MethodName) ({ cls := "NightDoors$Text", name := "start", desc := "()V" } : Jvm.MethodName)) ∈ lw_tbl := tk_1 (j := 192) rfl
theorem tw_433 : (Jvm.Cond.code ({ cls := "NightDoors$Text", name := "start", desc := "()V" } : Jvm.MethodName) prog_11_method_6_code (1 : Nat) (Option.none : Option Jvm.ClassFile.FieldType)) ∈ lw_tbl := tk_1 (j := 193) rfl
theorem tw_434 : (Jvm.Cond.methodLink "NightDoors$DreamReader" (39 : Nat) ({ cls := "NightDoors$Text", name := "failed", desc := "()Z" } : Jvm.MethodName)) ∈ lw_tbl := tk_1 (j := 194) rfl
theorem tw_435 : (Jvm.Cond.instanceMethod ({ cls := "NightDoors$Text", name := "failed", desc := "()Z" } : Jvm.MethodName)) ∈ lw_tbl := tk_1 (j := 195) rfl
theorem tw_436 : (Jvm.Cond.selects "NightDoors$Text" ({ cls := "NightDoors$Text", name := "failed", desc := "()Z" } : Jvm.MethodName) ({ cls := "NightDoors$Text", name := "failed", desc := "()Z" } : Jvm.MethodName)) ∈ lw_tbl := tk_1 (j := 196) rfl
theorem tw_437 : (Jvm.Cond.code ({ cls := "NightDoors$Text", name := "failed", desc := "()Z" } : Jvm.MethodName) prog_11_method_7_code (1 : Nat) (Option.some Jvm.ClassFile.FieldType.boolean)) ∈ lw_tbl := tk_1 (j := 197) rfl
theorem tw_438 : (Jvm.Cond.methodLink "NightDoors$DreamReader" (43 : Nat) ({ cls := "NightDoors$Text", name := "look", desc := "()I" } : Jvm.MethodName)) ∈ lw_tbl := tk_1 (j := 198) rfl
theorem tw_439 : (Jvm.Cond.instanceMethod ({ cls := "NightDoors$Text", name := "look", desc := "()I" } : Jvm.MethodName)) ∈ lw_tbl := tk_1 (j := 199) rfl
theorem tw_440 : (Jvm.Cond.selects "NightDoors$Text" ({ cls := "NightDoors$Text", name := "look", desc := "()I" } : Jvm.MethodName) ({ cls := "NightDoors$Text", name := "look", desc := "()I" } : Jvm.MethodName)) ∈ lw_tbl := tk_1 (j := 200) rfl
theorem tw_441 : (Jvm.Cond.code ({ cls := "NightDoors$Text", name := "look", desc := "()I" } : Jvm.MethodName) prog_11_method_10_code (1 : Nat) (Option.some Jvm.ClassFile.FieldType.int)) ∈ lw_tbl := tk_1 (j := 201) rfl
theorem tw_442 : (Jvm.Cond.methodLink "NightDoors$DreamReader" (47 : Nat) ({ cls := "NightDoors$Text", name := "blameHere", desc := "(I)V" } : Jvm.MethodName)) ∈ lw_tbl := tk_1 (j := 202) rfl
theorem tw_443 : (Jvm.Cond.instanceMethod ({ cls := "NightDoors$Text", name := "blameHere", desc := "(I)V" } : Jvm.MethodName)) ∈ lw_tbl := tk_1 (j := 203) rfl
theorem tw_444 : (Jvm.Cond.selects "NightDoors$Text" ({ cls := "NightDoors$Text", name := "blameHere", desc := "(I)V" } : Jvm.MethodName) ({ cls := "NightDoors$Text", name := "blameHere", desc := "(I)V" } : Jvm.MethodName)) ∈ lw_tbl := tk_1 (j := 204) rfl
theorem tw_445 : (Jvm.Cond.code ({ cls := "NightDoors$Text", name := "blameHere", desc := "(I)V" } : Jvm.MethodName) prog_11_method_9_code (2 : Nat) (Option.none : Option Jvm.ClassFile.FieldType)) ∈ lw_tbl := tk_1 (j := 205) rfl
theorem tw_446 : (Jvm.Cond.methodLink "NightDoors$Text" (41 : Nat) ({ cls := "NightDoors$Text", name := "look", desc := "()I" } : Jvm.MethodName)) ∈ lw_tbl := tk_1 (j := 206) rfl
theorem tw_447 : (Jvm.Cond.methodLink "NightDoors$Text" (45 : Nat) ({ cls := "NightDoors$Text", name := "blame", desc := "(II)V" } : Jvm.MethodName)) ∈ lw_tbl := tk_1 (j := 207) rfl
theorem tw_448 : (Jvm.Cond.instanceMethod ({ cls := "NightDoors$Text", name := "blame", desc := "(II)V" } : Jvm.MethodName)) ∈ lw_tbl := tk_1 (j := 208) rfl
theorem tw_449 : (Jvm.Cond.selects "NightDoors$Text" ({ cls := "NightDoors$Text", name := "blame", desc := "(II)V" } : Jvm.MethodName) ({ cls := "NightDoors$Text", name := "blame", desc := "(II)V" } : Jvm.MethodName)) ∈ lw_tbl := tk_1 (j := 209) rfl
theorem tw_450 : (Jvm.Cond.code ({ cls := "NightDoors$Text", name := "blame", desc := "(II)V" } : Jvm.MethodName) prog_11_method_8_code (3 : Nat) (Option.none : Option Jvm.ClassFile.FieldType)) ∈ lw_tbl := tk_1 (j := 210) rfl
theorem tw_451 : (Jvm.Cond.methodLink "NightDoors$DreamReader" (51 : Nat) ({ cls := "NightDoors$DreamReader", name := "readStatement", desc := "(LNightDoors$Dream;)V" } : Jvm.MethodName)) ∈ lw_tbl := tk_1 (j := 211) rfl
theorem tw_453 : (Jvm.Cond.instanceMethod ({ cls := "NightDoors$DreamReader", name := "readStatement", desc := "(LNightDoors$Dream;)V" } : Jvm.MethodName)) ∈ lw_tbl := tk_1 (j := 213) rfl
theorem tw_454 : (Jvm.Cond.code ({ cls := "NightDoors$DreamReader", name := "readStatement", desc := "(LNightDoors$Dream;)V" } : Jvm.MethodName) prog_5_method_3_code (3 : Nat) (Option.none : Option Jvm.ClassFile.FieldType)) ∈ lw_tbl := tk_1 (j := 214) rfl
theorem tw_456 : (Jvm.Cond.methodLink "NightDoors$DreamReader" (61 : Nat) ({ cls := "NightDoors$Text", name := "wordIn", desc := "(Ljava/lang/String;)I" } : Jvm.MethodName)) ∈ lw_tbl := tk_1 (j := 216) rfl
theorem tw_457 : (Jvm.Cond.instanceMethod ({ cls := "NightDoors$Text", name := "wordIn", desc := "(Ljava/lang/String;)I" } : Jvm.MethodName)) ∈ lw_tbl := tk_1 (j := 217) rfl
theorem tw_458 : (Jvm.Cond.selects "NightDoors$Text" ({ cls := "NightDoors$Text", name := "wordIn", desc := "(Ljava/lang/String;)I" } : Jvm.MethodName) ({ cls := "NightDoors$Text", name := "wordIn", desc := "(Ljava/lang/String;)I" } : Jvm.MethodName)) ∈ lw_tbl := tk_1 (j := 218) rfl
theorem tw_459 : (Jvm.Cond.code ({ cls := "NightDoors$Text", name := "wordIn", desc := "(Ljava/lang/String;)I" } : Jvm.MethodName) prog_11_method_18_code (8 : Nat) (Option.some Jvm.ClassFile.FieldType.int)) ∈ lw_tbl := tk_1 (j := 219) rfl
theorem tw_460 : (Jvm.Cond.methodLink "NightDoors$Text" (64 : Nat) ({ cls := "NightDoors$Text", name := "wordSize", desc := "()I" } : Jvm.MethodName)) ∈ lw_tbl := tk_1 (j := 220) rfl
theorem tw_462 : (Jvm.Cond.instanceMethod ({ cls := "NightDoors$Text", name := "wordSize", desc := "()I" } : Jvm.MethodName)) ∈ lw_tbl := tk_1 (j := 222) rfl
theorem tw_463 : (Jvm.Cond.code ({ cls := "NightDoors$Text", name := "wordSize", desc := "()I" } : Jvm.MethodName) prog_11_method_17_code (2 : Nat) (Option.some Jvm.ClassFile.FieldType.int)) ∈ lw_tbl := tk_1 (j := 223) rfl
theorem tw_465 : (Jvm.Cond.instanceMethod ({ cls := "java/lang/String", name := "length", desc := "()I" } : Jvm.MethodName)) ∈ lw_tbl := tk_1 (j := 225) rfl
theorem tw_466 : (Jvm.Cond.selects "java/lang/String" ({ cls := "java/lang/String", name := "length", desc := "()I" } : Jvm.MethodName) ({ cls := "java/lang/String", name := "length", desc := "()I" } : Jvm.MethodName)) ∈ lw_tbl := tk_1 (j := 226) rfl
theorem tw_467 : (Jvm.Cond.code ({ cls := "java/lang/String", name := "length", desc := "()I" } : Jvm.MethodName) prog_17_method_54_code (1 : Nat) (Option.some Jvm.ClassFile.FieldType.int)) ∈ lw_tbl := tk_1 (j := 227) rfl
theorem tw_468 : (Jvm.Cond.methodLink "java/lang/String" (335 : Nat) ({ cls := "java/lang/String", name := "coder", desc := "()B" } : Jvm.MethodName)) ∈ lw_tbl := tk_1 (j := 228) rfl
theorem tw_469 : (Jvm.Cond.instanceMethod ({ cls := "java/lang/String", name := "coder", desc := "()B" } : Jvm.MethodName)) ∈ lw_tbl := tk_1 (j := 229) rfl
theorem tw_470 : (Jvm.Cond.selects "java/lang/String" ({ cls := "java/lang/String", name := "coder", desc := "()B" } : Jvm.MethodName) ({ cls := "java/lang/String", name := "coder", desc := "()B" } : Jvm.MethodName)) ∈ lw_tbl := tk_1 (j := 230) rfl
theorem tw_471 : (Jvm.Cond.code ({ cls := "java/lang/String", name := "coder", desc := "()B" } : Jvm.MethodName) prog_17_method_152_code (1 : Nat) (Option.some Jvm.ClassFile.FieldType.byte)) ∈ lw_tbl := tk_1 (j := 231) rfl
theorem tw_472 : (Jvm.Cond.fieldLink "java/lang/String" (38 : Nat) "java/lang/String" "COMPACT_STRINGS" "Z") ∈ lw_tbl := tk_1 (j := 232) rfl
theorem tw_473 : (Jvm.Cond.laysStatic "java/lang/String" "COMPACT_STRINGS" "Z") ∈ lw_tbl := tk_1 (j := 233) rfl
theorem tw_475 : (Jvm.Cond.instanceMethod ({ cls := "java/lang/String", name := "charAt", desc := "(I)C" } : Jvm.MethodName)) ∈ lw_tbl := tk_1 (j := 235) rfl
theorem tw_476 : (Jvm.Cond.selects "java/lang/String" ({ cls := "java/lang/String", name := "charAt", desc := "(I)C" } : Jvm.MethodName) ({ cls := "java/lang/String", name := "charAt", desc := "(I)C" } : Jvm.MethodName)) ∈ lw_tbl := tk_1 (j := 236) rfl
theorem tw_477 : (Jvm.Cond.code ({ cls := "java/lang/String", name := "charAt", desc := "(I)C" } : Jvm.MethodName) prog_17_method_56_code (2 : Nat) (Option.some Jvm.ClassFile.FieldType.char)) ∈ lw_tbl := tk_1 (j := 237) rfl
theorem tw_478 : (Jvm.Cond.methodLink "java/lang/String" (492 : Nat) ({ cls := "java/lang/String", name := "isLatin1", desc := "()Z" } : Jvm.MethodName)) ∈ lw_tbl := tk_1 (j := 238) rfl
theorem tw_479 : (Jvm.Cond.instanceMethod ({ cls := "java/lang/String", name := "isLatin1", desc := "()Z" } : Jvm.MethodName)) ∈ lw_tbl := tk_1 (j := 239) rfl
theorem tw_480 : (Jvm.Cond.selects "java/lang/String" ({ cls := "java/lang/String", name := "isLatin1", desc := "()Z" } : Jvm.MethodName) ({ cls := "java/lang/String", name := "isLatin1", desc := "()Z" } : Jvm.MethodName)) ∈ lw_tbl := tk_2 (j := 0) rfl
theorem tw_481 : (Jvm.Cond.code ({ cls := "java/lang/String", name := "isLatin1", desc := "()Z" } : Jvm.MethodName) prog_17_method_154_code (1 : Nat) (Option.some Jvm.ClassFile.FieldType.boolean)) ∈ lw_tbl := tk_2 (j := 1) rfl
theorem tw_482 : (Jvm.Cond.methodLink "java/lang/String" (495 : Nat) ({ cls := "java/lang/StringLatin1", name := "charAt", desc := "([BI)C" } : Jvm.MethodName)) ∈ lw_tbl := tk_2 (j := 2) rfl
theorem tw_483 : (Jvm.Cond.static ({ cls := "java/lang/StringLatin1", name := "charAt", desc := "([BI)C" } : Jvm.MethodName)) ∈ lw_tbl := tk_2 (j := 3) rfl
theorem tw_484 : (Jvm.Cond.code ({ cls := "java/lang/StringLatin1", name := "charAt", desc := "([BI)C" } : Jvm.MethodName) prog_18_method_2_code (2 : Nat) (Option.some Jvm.ClassFile.FieldType.char)) ∈ lw_tbl := tk_2 (j := 4) rfl
theorem tw_485 : (Jvm.Cond.methodLink "java/lang/StringLatin1" (9 : Nat) ({ cls := "java/lang/String", name := "checkIndex", desc := "(II)V" } : Jvm.MethodName)) ∈ lw_tbl := tk_2 (j := 5) rfl
theorem tw_486 : (Jvm.Cond.static ({ cls := "java/lang/String", name := "checkIndex", desc := "(II)V" } : Jvm.MethodName)) ∈ lw_tbl := tk_2 (j := 6) rfl
theorem tw_487 : (Jvm.Cond.code ({ cls := "java/lang/String", name := "checkIndex", desc := "(II)V" } : Jvm.MethodName) prog_17_method_155_code (2 : Nat) (Option.none : Option Jvm.ClassFile.FieldType)) ∈ lw_tbl := tk_2 (j := 7) rfl
theorem tw_488 : (Jvm.Cond.fieldLink "java/lang/String" (1053 : Nat) "jdk/internal/util/Preconditions" "SIOOBE_FORMATTER" "Ljava/util/function/BiFunction;") ∈ lw_tbl := tk_2 (j := 8) rfl
theorem tw_489 : (Jvm.Cond.laysStatic "jdk/internal/util/Preconditions" "SIOOBE_FORMATTER" "Ljava/util/function/BiFunction;") ∈ lw_tbl := tk_2 (j := 9) rfl
theorem tw_490 : (Jvm.Cond.methodLink "java/lang/String" (1059 : Nat) ({ cls := "jdk/internal/util/Preconditions", name := "checkIndex", desc := "(IILjava/util/function/BiFunction;)I" } : Jvm.MethodName)) ∈ lw_tbl := tk_2 (j := 10) rfl
theorem tw_491 : (Jvm.Cond.static ({ cls := "jdk/internal/util/Preconditions", name := "checkIndex", desc := "(IILjava/util/function/BiFunction;)I" } : Jvm.MethodName)) ∈ lw_tbl := tk_2 (j := 11) rfl
theorem tw_492 : (Jvm.Cond.code ({ cls := "jdk/internal/util/Preconditions", name := "checkIndex", desc := "(IILjava/util/function/BiFunction;)I" } : Jvm.MethodName) prog_21_method_11_code (3 : Nat) (Option.some Jvm.ClassFile.FieldType.int)) ∈ lw_tbl := tk_2 (j := 12) rfl
theorem tw_493 : (Jvm.Cond.methodLink "java/lang/String" (498 : Nat) ({ cls := "java/lang/StringUTF16", name := "charAt", desc := "([BI)C" } : Jvm.MethodName)) ∈ lw_tbl := tk_2 (j := 13) rfl
theorem tw_494 : (Jvm.Cond.static ({ cls := "java/lang/StringUTF16", name := "charAt", desc := "([BI)C" } : Jvm.MethodName)) ∈ lw_tbl := tk_2 (j := 14) rfl
theorem tw_495 : (Jvm.Cond.code ({ cls := "java/lang/StringUTF16", name := "charAt", desc := "([BI)C" } : Jvm.MethodName) prog_19_method_83_code (2 : Nat) (Option.some Jvm.ClassFile.FieldType.char)) ∈ lw_tbl := tk_2 (j := 15) rfl
theorem tw_497 : (Jvm.Cond.static ({ cls := "java/lang/StringUTF16", name := "checkIndex", desc := "(I[B)V" } : Jvm.MethodName)) ∈ lw_tbl := tk_2 (j := 17) rfl
theorem tw_498 : (Jvm.Cond.code ({ cls := "java/lang/StringUTF16", name := "checkIndex", desc := "(I[B)V" } : Jvm.MethodName) prog_19_method_91_code (2 : Nat) (Option.none : Option Jvm.ClassFile.FieldType)) ∈ lw_tbl := tk_2 (j := 18) rfl
theorem tw_500 : (Jvm.Cond.static ({ cls := "java/lang/StringUTF16", name := "length", desc := "([B)I" } : Jvm.MethodName)) ∈ lw_tbl := tk_2 (j := 20) rfl
theorem tw_501 : (Jvm.Cond.code ({ cls := "java/lang/StringUTF16", name := "length", desc := "([B)I" } : Jvm.MethodName) prog_19_method_6_code (1 : Nat) (Option.some Jvm.ClassFile.FieldType.int)) ∈ lw_tbl := tk_2 (j := 21) rfl
theorem tw_504 : (Jvm.Cond.static ({ cls := "java/lang/StringUTF16", name := "getChar", desc := "([BI)C" } : Jvm.MethodName)) ∈ lw_tbl := tk_2 (j := 24) rfl
theorem tw_505 : (Jvm.Cond.code ({ cls := "java/lang/StringUTF16", name := "getChar", desc := "([BI)C" } : Jvm.MethodName) prog_19_method_5_code (2 : Nat) (Option.some Jvm.ClassFile.FieldType.char)) ∈ lw_tbl := tk_2 (j := 25) rfl
theorem tw_507 : (Jvm.Cond.laysStatic "java/lang/StringUTF16" "$assertionsDisabled" "Z") ∈ lw_tbl := tk_2 (j := 27) rfl
theorem tw_509 : (Jvm.Cond.laysStatic "java/lang/StringUTF16" "HI_BYTE_SHIFT" "I") ∈ lw_tbl := tk_2 (j := 29) rfl
theorem tw_511 : (Jvm.Cond.laysStatic "java/lang/StringUTF16" "LO_BYTE_SHIFT" "I") ∈ lw_tbl := tk_2 (j := 31) rfl
theorem tw_512 : (Jvm.Cond.methodLink "NightDoors$Text" (37 : Nat) ({ cls := "NightDoors$Text", name := "byteAt", desc := "(I)I" } : Jvm.MethodName)) ∈ lw_tbl := tk_2 (j := 32) rfl
theorem tw_513 : (Jvm.Cond.instanceMethod ({ cls := "NightDoors$Text", name := "byteAt", desc := "(I)I" } : Jvm.MethodName)) ∈ lw_tbl := tk_2 (j := 33) rfl
theorem tw_514 : (Jvm.Cond.selects "NightDoors$Text" ({ cls := "NightDoors$Text", name := "byteAt", desc := "(I)I" } : Jvm.MethodName) ({ cls := "NightDoors$Text", name := "byteAt", desc := "(I)I" } : Jvm.MethodName)) ∈ lw_tbl := tk_2 (j := 34) rfl
theorem tw_515 : (Jvm.Cond.code ({ cls := "NightDoors$Text", name := "byteAt", desc := "(I)I" } : Jvm.MethodName) prog_11_method_4_code (2 : Nat) (Option.some Jvm.ClassFile.FieldType.int)) ∈ lw_tbl := tk_2 (j := 35) rfl
theorem tw_516 : (Jvm.Cond.methodLink "NightDoors$DreamReader" (65 : Nat) ({ cls := "NightDoors$DreamReader", name := "isOneTooMany", desc := "(LNightDoors$Dream;I)Z" } : Jvm.MethodName)) ∈ lw_tbl := tk_2 (j := 36) rfl
theorem tw_517 : (Jvm.Cond.static ({ cls := "NightDoors$DreamReader", name := "isOneTooMany", desc := "(LNightDoors$Dream;I)Z" } : Jvm.MethodName)) ∈ lw_tbl := tk_2 (j := 37) rfl
theorem tw_518 : (Jvm.Cond.code ({ cls := "NightDoors$DreamReader", name := "isOneTooMany", desc := "(LNightDoors$Dream;I)Z" } : Jvm.MethodName) prog_5_method_4_code (2 : Nat) (Option.some Jvm.ClassFile.FieldType.boolean)) ∈ lw_tbl := tk_2 (j := 38) rfl
theorem tw_519 : (Jvm.Cond.methodLink "NightDoors$DreamReader" (103 : Nat) ({ cls := "NightDoors$Dream", name := "isFull", desc := "(I)Z" } : Jvm.MethodName)) ∈ lw_tbl := tk_2 (j := 39) rfl
theorem tw_520 : (Jvm.Cond.instanceMethod ({ cls := "NightDoors$Dream", name := "isFull", desc := "(I)Z" } : Jvm.MethodName)) ∈ lw_tbl := tk_2 (j := 40) rfl
theorem tw_521 : (Jvm.Cond.selects "NightDoors$Dream" ({ cls := "NightDoors$Dream", name := "isFull", desc := "(I)Z" } : Jvm.MethodName) ({ cls := "NightDoors$Dream", name := "isFull", desc := "(I)Z" } : Jvm.MethodName)) ∈ lw_tbl := tk_2 (j := 41) rfl
theorem tw_522 : (Jvm.Cond.code ({ cls := "NightDoors$Dream", name := "isFull", desc := "(I)Z" } : Jvm.MethodName) prog_4_method_5_code (2 : Nat) (Option.some Jvm.ClassFile.FieldType.boolean)) ∈ lw_tbl := tk_2 (j := 42) rfl
theorem tw_523 : (Jvm.Cond.methodLink "NightDoors$Dream" (53 : Nat) ({ cls := "NightDoors$Dream", name := "count", desc := "(I)I" } : Jvm.MethodName)) ∈ lw_tbl := tk_2 (j := 43) rfl
theorem tw_524 : (Jvm.Cond.instanceMethod ({ cls := "NightDoors$Dream", name := "count", desc := "(I)I" } : Jvm.MethodName)) ∈ lw_tbl := tk_2 (j := 44) rfl
theorem tw_525 : (Jvm.Cond.selects "NightDoors$Dream" ({ cls := "NightDoors$Dream", name := "count", desc := "(I)I" } : Jvm.MethodName) ({ cls := "NightDoors$Dream", name := "count", desc := "(I)I" } : Jvm.MethodName)) ∈ lw_tbl := tk_2 (j := 45) rfl
theorem tw_526 : (Jvm.Cond.code ({ cls := "NightDoors$Dream", name := "count", desc := "(I)I" } : Jvm.MethodName) prog_4_method_3_code (2 : Nat) (Option.some Jvm.ClassFile.FieldType.int)) ∈ lw_tbl := tk_2 (j := 46) rfl
theorem tw_527 : (Jvm.Cond.fieldLinkNest "NightDoors$Dream" (57 : Nat) "NightDoors" "FIRST_NAME" "[I" "NightDoors") ∈ lw_tbl := tk_2 (j := 47) rfl
theorem tw_528 : (Jvm.Cond.laysStatic "NightDoors" "FIRST_NAME" "[I") ∈ lw_tbl := tk_2 (j := 48) rfl
theorem tw_529 : (Jvm.Cond.methodLink "NightDoors$DreamReader" (107 : Nat) ({ cls := "NightDoors$Dream", name := "hasSum", desc := "(I)Z" } : Jvm.MethodName)) ∈ lw_tbl := tk_2 (j := 49) rfl
theorem tw_530 : (Jvm.Cond.instanceMethod ({ cls := "NightDoors$Dream", name := "hasSum", desc := "(I)Z" } : Jvm.MethodName)) ∈ lw_tbl := tk_2 (j := 50) rfl
theorem tw_531 : (Jvm.Cond.selects "NightDoors$Dream" ({ cls := "NightDoors$Dream", name := "hasSum", desc := "(I)Z" } : Jvm.MethodName) ({ cls := "NightDoors$Dream", name := "hasSum", desc := "(I)Z" } : Jvm.MethodName)) ∈ lw_tbl := tk_2 (j := 51) rfl
theorem tw_532 : (Jvm.Cond.code ({ cls := "NightDoors$Dream", name := "hasSum", desc := "(I)Z" } : Jvm.MethodName) prog_4_method_13_code (2 : Nat) (Option.some Jvm.ClassFile.FieldType.boolean)) ∈ lw_tbl := tk_2 (j := 52) rfl
theorem tw_533 : (Jvm.Cond.methodLink "NightDoors$DreamReader" (69 : Nat) ({ cls := "NightDoors$Text", name := "skipWord", desc := "()V" } : Jvm.MethodName)) ∈ lw_tbl := tk_2 (j := 53) rfl
theorem tw_534 : (Jvm.Cond.instanceMethod ({ cls := "NightDoors$Text", name := "skipWord", desc := "()V" } : Jvm.MethodName)) ∈ lw_tbl := tk_2 (j := 54) rfl
theorem tw_535 : (Jvm.Cond.selects "NightDoors$Text" ({ cls := "NightDoors$Text", name := "skipWord", desc := "()V" } : Jvm.MethodName) ({ cls := "NightDoors$Text", name := "skipWord", desc := "()V" } : Jvm.MethodName)) ∈ lw_tbl := tk_2 (j := 55) rfl
theorem tw_536 : (Jvm.Cond.code ({ cls := "NightDoors$Text", name := "skipWord", desc := "()V" } : Jvm.MethodName) prog_11_method_19_code (1 : Nat) (Option.none : Option Jvm.ClassFile.FieldType)) ∈ lw_tbl := tk_2 (j := 56) rfl
theorem tw_537 : (Jvm.Cond.methodLink "NightDoors$DreamReader" (72 : Nat) ({ cls := "NightDoors$DreamReader", name := "readNewName", desc := "(LNightDoors$Dream;I)I" } : Jvm.MethodName)) ∈ lw_tbl := tk_2 (j := 57) rfl
theorem tw_539 : (Jvm.Cond.instanceMethod ({ cls := "NightDoors$DreamReader", name := "readNewName", desc := "(LNightDoors$Dream;I)I" } : Jvm.MethodName)) ∈ lw_tbl := tk_2 (j := 59) rfl
theorem tw_540 : (Jvm.Cond.code ({ cls := "NightDoors$DreamReader", name := "readNewName", desc := "(LNightDoors$Dream;I)I" } : Jvm.MethodName) prog_5_method_9_code (4 : Nat) (Option.some Jvm.ClassFile.FieldType.int)) ∈ lw_tbl := tk_2 (j := 60) rfl
theorem tw_541 : (Jvm.Cond.methodLink "NightDoors$DreamReader" (141 : Nat) ({ cls := "NightDoors$Text", name := "takeName", desc := "()Z" } : Jvm.MethodName)) ∈ lw_tbl := tk_2 (j := 61) rfl
theorem tw_542 : (Jvm.Cond.instanceMethod ({ cls := "NightDoors$Text", name := "takeName", desc := "()Z" } : Jvm.MethodName)) ∈ lw_tbl := tk_2 (j := 62) rfl
theorem tw_543 : (Jvm.Cond.selects "NightDoors$Text" ({ cls := "NightDoors$Text", name := "takeName", desc := "()Z" } : Jvm.MethodName) ({ cls := "NightDoors$Text", name := "takeName", desc := "()Z" } : Jvm.MethodName)) ∈ lw_tbl := tk_2 (j := 63) rfl
theorem tw_544 : (Jvm.Cond.code ({ cls := "NightDoors$Text", name := "takeName", desc := "()Z" } : Jvm.MethodName) prog_11_method_22_code (2 : Nat) (Option.some Jvm.ClassFile.FieldType.boolean)) ∈ lw_tbl := tk_2 (j := 64) rfl
theorem tw_546 : (Jvm.Cond.methodLink "NightDoors$Text" (76 : Nat) ({ cls := "NightDoors$Text", name := "wordIn", desc := "(Ljava/lang/String;)I" } : Jvm.MethodName)) ∈ lw_tbl := tk_2 (j := 66) rfl
theorem tw_547 : (Jvm.Cond.methodLink "NightDoors$Text" (56 : Nat) ({ cls := "NightDoors$Text", name := "blameHere", desc := "(I)V" } : Jvm.MethodName)) ∈ lw_tbl := tk_2 (j := 67) rfl
theorem tw_548 : (Jvm.Cond.methodLink "NightDoors$Text" (89 : Nat) ({ cls := "NightDoors$Text", name := "failed", desc := "()Z" } : Jvm.MethodName)) ∈ lw_tbl := tk_2 (j := 68) rfl
theorem tw_549 : (Jvm.Cond.methodLink "NightDoors$DreamReader" (144 : Nat) ({ cls := "NightDoors$Dream", name := "findName", desc := "(ILNightDoors$Text;)I" } : Jvm.MethodName)) ∈ lw_tbl := tk_2 (j := 69) rfl
theorem tw_550 : (Jvm.Cond.instanceMethod ({ cls := "NightDoors$Dream", name := "findName", desc := "(ILNightDoors$Text;)I" } : Jvm.MethodName)) ∈ lw_tbl := tk_2 (j := 70) rfl
theorem tw_551 : (Jvm.Cond.selects "NightDoors$Dream" ({ cls := "NightDoors$Dream", name := "findName", desc := "(ILNightDoors$Text;)I" } : Jvm.MethodName) ({ cls := "NightDoors$Dream", name := "findName", desc := "(ILNightDoors$Text;)I" } : Jvm.MethodName)) ∈ lw_tbl := tk_2 (j := 71) rfl
theorem tw_552 : (Jvm.Cond.code ({ cls := "NightDoors$Dream", name := "findName", desc := "(ILNightDoors$Text;)I" } : Jvm.MethodName) prog_4_method_9_code (7 : Nat) (Option.some Jvm.ClassFile.FieldType.int)) ∈ lw_tbl := tk_2 (j := 72) rfl
theorem tw_553 : (Jvm.Cond.methodLink "NightDoors$Dream" (76 : Nat) ({ cls := "NightDoors$Text", name := "byteAt", desc := "(I)I" } : Jvm.MethodName)) ∈ lw_tbl := tk_2 (j := 73) rfl
theorem tw_554 : (Jvm.Cond.methodLink "NightDoors$Dream" (64 : Nat) ({ cls := "NightDoors$Dream", name := "placeOf", desc := "(II)I" } : Jvm.MethodName)) ∈ lw_tbl := tk_2 (j := 74) rfl
theorem tw_555 : (Jvm.Cond.instanceMethod ({ cls := "NightDoors$Dream", name := "placeOf", desc := "(II)I" } : Jvm.MethodName)) ∈ lw_tbl := tk_2 (j := 75) rfl
theorem tw_556 : (Jvm.Cond.selects "NightDoors$Dream" ({ cls := "NightDoors$Dream", name := "placeOf", desc := "(II)I" } : Jvm.MethodName) ({ cls := "NightDoors$Dream", name := "placeOf", desc := "(II)I" } : Jvm.MethodName)) ∈ lw_tbl := tk_2 (j := 76) rfl
theorem tw_557 : (Jvm.Cond.code ({ cls := "NightDoors$Dream", name := "placeOf", desc := "(II)I" } : Jvm.MethodName) prog_4_method_6_code (3 : Nat) (Option.some Jvm.ClassFile.FieldType.int)) ∈ lw_tbl := tk_2 (j := 77) rfl
theorem tw_558 : (Jvm.Cond.methodLink "NightDoors$Dream" (79 : Nat) ({ cls := "NightDoors$Dream", name := "letterAt", desc := "(II)I" } : Jvm.MethodName)) ∈ lw_tbl := tk_2 (j := 78) rfl
theorem tw_559 : (Jvm.Cond.instanceMethod ({ cls := "NightDoors$Dream", name := "letterAt", desc := "(II)I" } : Jvm.MethodName)) ∈ lw_tbl := tk_2 (j := 79) rfl
theorem tw_560 : (Jvm.Cond.selects "NightDoors$Dream" ({ cls := "NightDoors$Dream", name := "letterAt", desc := "(II)I" } : Jvm.MethodName) ({ cls := "NightDoors$Dream", name := "letterAt", desc := "(II)I" } : Jvm.MethodName)) ∈ lw_tbl := tk_2 (j := 80) rfl
theorem tw_561 : (Jvm.Cond.code ({ cls := "NightDoors$Dream", name := "letterAt", desc := "(II)I" } : Jvm.MethodName) prog_4_method_7_code (4 : Nat) (Option.some Jvm.ClassFile.FieldType.int)) ∈ lw_tbl := tk_2 (j := 81) rfl
theorem tw_562 : (Jvm.Cond.methodLink "NightDoors$DreamReader" (151 : Nat) ({ cls := "NightDoors$Text", name := "blame", desc := "(II)V" } : Jvm.MethodName)) ∈ lw_tbl := tk_2 (j := 82) rfl
theorem tw_563 : (Jvm.Cond.methodLink "NightDoors$DreamReader" (154 : Nat) ({ cls := "NightDoors$Dream", name := "giveName", desc := "(ILNightDoors$Text;)I" } : Jvm.MethodName)) ∈ lw_tbl := tk_2 (j := 83) rfl
theorem tw_564 : (Jvm.Cond.instanceMethod ({ cls := "NightDoors$Dream", name := "giveName", desc := "(ILNightDoors$Text;)I" } : Jvm.MethodName)) ∈ lw_tbl := tk_2 (j := 84) rfl
theorem tw_565 : (Jvm.Cond.selects "NightDoors$Dream" ({ cls := "NightDoors$Dream", name := "giveName", desc := "(ILNightDoors$Text;)I" } : Jvm.MethodName) ({ cls := "NightDoors$Dream", name := "giveName", desc := "(ILNightDoors$Text;)I" } : Jvm.MethodName)) ∈ lw_tbl := tk_2 (j := 85) rfl
theorem tw_566 : (Jvm.Cond.code ({ cls := "NightDoors$Dream", name := "giveName", desc := "(ILNightDoors$Text;)I" } : Jvm.MethodName) prog_4_method_8_code (6 : Nat) (Option.some Jvm.ClassFile.FieldType.int)) ∈ lw_tbl := tk_2 (j := 86) rfl
theorem tw_567 : (Jvm.Cond.methodLink "NightDoors$Dream" (60 : Nat) ({ cls := "NightDoors$Dream", name := "isFull", desc := "(I)Z" } : Jvm.MethodName)) ∈ lw_tbl := tk_2 (j := 87) rfl
theorem tw_568 : (Jvm.Cond.methodLink "NightDoors$DreamReader" (76 : Nat) ({ cls := "NightDoors$DreamReader", name := "readDreamer", desc := "(LNightDoors$Dream;)V" } : Jvm.MethodName)) ∈ lw_tbl := tk_2 (j := 88) rfl
theorem tw_570 : (Jvm.Cond.instanceMethod ({ cls := "NightDoors$DreamReader", name := "readDreamer", desc := "(LNightDoors$Dream;)V" } : Jvm.MethodName)) ∈ lw_tbl := tk_2 (j := 90) rfl
theorem tw_571 : (Jvm.Cond.code ({ cls := "NightDoors$DreamReader", name := "readDreamer", desc := "(LNightDoors$Dream;)V" } : Jvm.MethodName) prog_5_method_5_code (3 : Nat) (Option.none : Option Jvm.ClassFile.FieldType)) ∈ lw_tbl := tk_2 (j := 91) rfl
theorem tw_573 : (Jvm.Cond.methodLink "NightDoors$DreamReader" (112 : Nat) ({ cls := "NightDoors$Text", name := "demandWord", desc := "(Ljava/lang/String;)V" } : Jvm.MethodName)) ∈ lw_tbl := tk_2 (j := 93) rfl
theorem tw_574 : (Jvm.Cond.instanceMethod ({ cls := "NightDoors$Text", name := "demandWord", desc := "(Ljava/lang/String;)V" } : Jvm.MethodName)) ∈ lw_tbl := tk_2 (j := 94) rfl
theorem tw_575 : (Jvm.Cond.selects "NightDoors$Text" ({ cls := "NightDoors$Text", name := "demandWord", desc := "(Ljava/lang/String;)V" } : Jvm.MethodName) ({ cls := "NightDoors$Text", name := "demandWord", desc := "(Ljava/lang/String;)V" } : Jvm.MethodName)) ∈ lw_tbl := tk_2 (j := 95) rfl
theorem tw_576 : (Jvm.Cond.code ({ cls := "NightDoors$Text", name := "demandWord", desc := "(Ljava/lang/String;)V" } : Jvm.MethodName) prog_11_method_21_code (2 : Nat) (Option.none : Option Jvm.ClassFile.FieldType)) ∈ lw_tbl := tk_2 (j := 96) rfl
theorem tw_577 : (Jvm.Cond.methodLink "NightDoors$Text" (83 : Nat) ({ cls := "NightDoors$Text", name := "takeWord", desc := "(Ljava/lang/String;)Z" } : Jvm.MethodName)) ∈ lw_tbl := tk_2 (j := 97) rfl
theorem tw_578 : (Jvm.Cond.instanceMethod ({ cls := "NightDoors$Text", name := "takeWord", desc := "(Ljava/lang/String;)Z" } : Jvm.MethodName)) ∈ lw_tbl := tk_2 (j := 98) rfl
theorem tw_579 : (Jvm.Cond.selects "NightDoors$Text" ({ cls := "NightDoors$Text", name := "takeWord", desc := "(Ljava/lang/String;)Z" } : Jvm.MethodName) ({ cls := "NightDoors$Text", name := "takeWord", desc := "(Ljava/lang/String;)Z" } : Jvm.MethodName)) ∈ lw_tbl := tk_2 (j := 99) rfl
theorem tw_580 : (Jvm.Cond.code ({ cls := "NightDoors$Text", name := "takeWord", desc := "(Ljava/lang/String;)Z" } : Jvm.MethodName) prog_11_method_20_code (2 : Nat) (Option.some Jvm.ClassFile.FieldType.boolean)) ∈ lw_tbl := tk_2 (j := 100) rfl
theorem tw_581 : (Jvm.Cond.methodLink "NightDoors$Text" (80 : Nat) ({ cls := "NightDoors$Text", name := "skipWord", desc := "()V" } : Jvm.MethodName)) ∈ lw_tbl := tk_2 (j := 101) rfl
theorem tw_582 : (Jvm.Cond.methodLink "NightDoors$DreamReader" (89 : Nat) ({ cls := "NightDoors$Text", name := "takeNumber", desc := "(I)I" } : Jvm.MethodName)) ∈ lw_tbl := tk_2 (j := 102) rfl
theorem tw_583 : (Jvm.Cond.instanceMethod ({ cls := "NightDoors$Text", name := "takeNumber", desc := "(I)I" } : Jvm.MethodName)) ∈ lw_tbl := tk_2 (j := 103) rfl
theorem tw_584 : (Jvm.Cond.selects "NightDoors$Text" ({ cls := "NightDoors$Text", name := "takeNumber", desc := "(I)I" } : Jvm.MethodName) ({ cls := "NightDoors$Text", name := "takeNumber", desc := "(I)I" } : Jvm.MethodName)) ∈ lw_tbl := tk_2 (j := 104) rfl
theorem tw_585 : (Jvm.Cond.code ({ cls := "NightDoors$Text", name := "takeNumber", desc := "(I)I" } : Jvm.MethodName) prog_11_method_23_code (5 : Nat) (Option.some Jvm.ClassFile.FieldType.int)) ∈ lw_tbl := tk_2 (j := 105) rfl
theorem tw_586 : (Jvm.Cond.methodLink "NightDoors$Text" (93 : Nat) ({ cls := "NightDoors$Text", name := "seesDigit", desc := "()Z" } : Jvm.MethodName)) ∈ lw_tbl := tk_2 (j := 106) rfl
theorem tw_587 : (Jvm.Cond.instanceMethod ({ cls := "NightDoors$Text", name := "seesDigit", desc := "()Z" } : Jvm.MethodName)) ∈ lw_tbl := tk_2 (j := 107) rfl
theorem tw_588 : (Jvm.Cond.selects "NightDoors$Text" ({ cls := "NightDoors$Text", name := "seesDigit", desc := "()Z" } : Jvm.MethodName) ({ cls := "NightDoors$Text", name := "seesDigit", desc := "()Z" } : Jvm.MethodName)) ∈ lw_tbl := tk_2 (j := 108) rfl
theorem tw_589 : (Jvm.Cond.code ({ cls := "NightDoors$Text", name := "seesDigit", desc := "()Z" } : Jvm.MethodName) prog_11_method_16_code (1 : Nat) (Option.some Jvm.ClassFile.FieldType.boolean)) ∈ lw_tbl := tk_2 (j := 109) rfl
theorem tw_590 : (Jvm.Cond.methodLink "NightDoors$Text" (60 : Nat) ({ cls := "NightDoors$Text", name := "isDigit", desc := "(I)Z" } : Jvm.MethodName)) ∈ lw_tbl := tk_2 (j := 110) rfl
theorem tw_591 : (Jvm.Cond.static ({ cls := "NightDoors$Text", name := "isDigit", desc := "(I)Z" } : Jvm.MethodName)) ∈ lw_tbl := tk_2 (j := 111) rfl
theorem tw_592 : (Jvm.Cond.code ({ cls := "NightDoors$Text", name := "isDigit", desc := "(I)Z" } : Jvm.MethodName) prog_11_method_15_code (1 : Nat) (Option.some Jvm.ClassFile.FieldType.boolean)) ∈ lw_tbl := tk_2 (j := 112) rfl
theorem tw_593 : (Jvm.Cond.methodLink "NightDoors$DreamReader" (116 : Nat) ({ cls := "NightDoors$Dream", name := "brave", desc := "(II)V" } : Jvm.MethodName)) ∈ lw_tbl := tk_2 (j := 113) rfl
theorem tw_594 : (Jvm.Cond.instanceMethod ({ cls := "NightDoors$Dream", name := "brave", desc := "(II)V" } : Jvm.MethodName)) ∈ lw_tbl := tk_2 (j := 114) rfl
theorem tw_595 : (Jvm.Cond.selects "NightDoors$Dream" ({ cls := "NightDoors$Dream", name := "brave", desc := "(II)V" } : Jvm.MethodName) ({ cls := "NightDoors$Dream", name := "brave", desc := "(II)V" } : Jvm.MethodName)) ∈ lw_tbl := tk_2 (j := 115) rfl
theorem tw_596 : (Jvm.Cond.code ({ cls := "NightDoors$Dream", name := "brave", desc := "(II)V" } : Jvm.MethodName) prog_4_method_10_code (3 : Nat) (Option.none : Option Jvm.ClassFile.FieldType)) ∈ lw_tbl := tk_2 (j := 116) rfl
theorem tw_597 : (Jvm.Cond.methodLink "NightDoors$DreamReader" (79 : Nat) ({ cls := "NightDoors$DreamReader", name := "readFears", desc := "(LNightDoors$Dream;)V" } : Jvm.MethodName)) ∈ lw_tbl := tk_2 (j := 117) rfl
theorem tw_599 : (Jvm.Cond.instanceMethod ({ cls := "NightDoors$DreamReader", name := "readFears", desc := "(LNightDoors$Dream;)V" } : Jvm.MethodName)) ∈ lw_tbl := tk_2 (j := 119) rfl
theorem tw_600 : (Jvm.Cond.code ({ cls := "NightDoors$DreamReader", name := "readFears", desc := "(LNightDoors$Dream;)V" } : Jvm.MethodName) prog_5_method_6_code (4 : Nat) (Option.none : Option Jvm.ClassFile.FieldType)) ∈ lw_tbl := tk_2 (j := 120) rfl
theorem tw_601 : (Jvm.Cond.methodLink "NightDoors$DreamReader" (119 : Nat) ({ cls := "NightDoors$DreamReader", name := "readKnownName", desc := "(LNightDoors$Dream;I)I" } : Jvm.MethodName)) ∈ lw_tbl := tk_2 (j := 121) rfl
theorem tw_603 : (Jvm.Cond.instanceMethod ({ cls := "NightDoors$DreamReader", name := "readKnownName", desc := "(LNightDoors$Dream;I)I" } : Jvm.MethodName)) ∈ lw_tbl := tk_2 (j := 123) rfl
theorem tw_604 : (Jvm.Cond.code ({ cls := "NightDoors$DreamReader", name := "readKnownName", desc := "(LNightDoors$Dream;I)I" } : Jvm.MethodName) prog_5_method_10_code (4 : Nat) (Option.some Jvm.ClassFile.FieldType.int)) ∈ lw_tbl := tk_2 (j := 124) rfl
theorem tw_605 : (Jvm.Cond.methodLink "NightDoors$DreamReader" (122 : Nat) ({ cls := "NightDoors$Dream", name := "fear", desc := "(III)V" } : Jvm.MethodName)) ∈ lw_tbl := tk_2 (j := 125) rfl
theorem tw_606 : (Jvm.Cond.instanceMethod ({ cls := "NightDoors$Dream", name := "fear", desc := "(III)V" } : Jvm.MethodName)) ∈ lw_tbl := tk_2 (j := 126) rfl
theorem tw_607 : (Jvm.Cond.selects "NightDoors$Dream" ({ cls := "NightDoors$Dream", name := "fear", desc := "(III)V" } : Jvm.MethodName) ({ cls := "NightDoors$Dream", name := "fear", desc := "(III)V" } : Jvm.MethodName)) ∈ lw_tbl := tk_2 (j := 127) rfl
theorem tw_608 : (Jvm.Cond.code ({ cls := "NightDoors$Dream", name := "fear", desc := "(III)V" } : Jvm.MethodName) prog_4_method_11_code (5 : Nat) (Option.none : Option Jvm.ClassFile.FieldType)) ∈ lw_tbl := tk_2 (j := 128) rfl
theorem tw_609 : (Jvm.Cond.methodLink "NightDoors$DreamReader" (82 : Nat) ({ cls := "NightDoors$DreamReader", name := "readGuide", desc := "(LNightDoors$Dream;)V" } : Jvm.MethodName)) ∈ lw_tbl := tk_2 (j := 129) rfl
theorem tw_611 : (Jvm.Cond.instanceMethod ({ cls := "NightDoors$DreamReader", name := "readGuide", desc := "(LNightDoors$Dream;)V" } : Jvm.MethodName)) ∈ lw_tbl := tk_2 (j := 131) rfl
theorem tw_612 : (Jvm.Cond.code ({ cls := "NightDoors$DreamReader", name := "readGuide", desc := "(LNightDoors$Dream;)V" } : Jvm.MethodName) prog_5_method_7_code (3 : Nat) (Option.none : Option Jvm.ClassFile.FieldType)) ∈ lw_tbl := tk_2 (j := 132) rfl
theorem tw_614 : (Jvm.Cond.methodLink "NightDoors$DreamReader" (128 : Nat) ({ cls := "NightDoors$Dream", name := "lead", desc := "(II)V" } : Jvm.MethodName)) ∈ lw_tbl := tk_2 (j := 134) rfl
theorem tw_615 : (Jvm.Cond.instanceMethod ({ cls := "NightDoors$Dream", name := "lead", desc := "(II)V" } : Jvm.MethodName)) ∈ lw_tbl := tk_2 (j := 135) rfl
theorem tw_616 : (Jvm.Cond.selects "NightDoors$Dream" ({ cls := "NightDoors$Dream", name := "lead", desc := "(II)V" } : Jvm.MethodName) ({ cls := "NightDoors$Dream", name := "lead", desc := "(II)V" } : Jvm.MethodName)) ∈ lw_tbl := tk_2 (j := 136) rfl
theorem tw_617 : (Jvm.Cond.code ({ cls := "NightDoors$Dream", name := "lead", desc := "(II)V" } : Jvm.MethodName) prog_4_method_12_code (3 : Nat) (Option.none : Option Jvm.ClassFile.FieldType)) ∈ lw_tbl := tk_2 (j := 137) rfl
theorem tw_618 : (Jvm.Cond.methodLink "NightDoors$DreamReader" (85 : Nat) ({ cls := "NightDoors$DreamReader", name := "readSum", desc := "(LNightDoors$Dream;I)V" } : Jvm.MethodName)) ∈ lw_tbl := tk_2 (j := 138) rfl
theorem tw_620 : (Jvm.Cond.instanceMethod ({ cls := "NightDoors$DreamReader", name := "readSum", desc := "(LNightDoors$Dream;I)V" } : Jvm.MethodName)) ∈ lw_tbl := tk_2 (j := 140) rfl
theorem tw_621 : (Jvm.Cond.code ({ cls := "NightDoors$DreamReader", name := "readSum", desc := "(LNightDoors$Dream;I)V" } : Jvm.MethodName) prog_5_method_8_code (4 : Nat) (Option.none : Option Jvm.ClassFile.FieldType)) ∈ lw_tbl := tk_2 (j := 141) rfl
theorem tw_622 : (Jvm.Cond.methodLinkNest "NightDoors$DreamReader" (136 : Nat) ({ cls := "NightDoors$SumReader", name := "readSum", desc := "(I)V" } : Jvm.MethodName) "NightDoors") ∈ lw_tbl := tk_2 (j := 142) rfl
theorem tw_624 : (Jvm.Cond.instanceMethod ({ cls := "NightDoors$SumReader", name := "readSum", desc := "(I)V" } : Jvm.MethodName)) ∈ lw_tbl := tk_2 (j := 144) rfl
theorem tw_625 : (Jvm.Cond.code ({ cls := "NightDoors$SumReader", name := "readSum", desc := "(I)V" } : Jvm.MethodName) prog_10_method_5_code (4 : Nat) (Option.none : Option Jvm.ClassFile.FieldType)) ∈ lw_tbl := tk_2 (j := 145) rfl
theorem tw_626 : (Jvm.Cond.methodLink "NightDoors$SumReader" (34 : Nat) ({ cls := "NightDoors$SumReader", name := "readProduct", desc := "(I)V" } : Jvm.MethodName)) ∈ lw_tbl := tk_2 (j := 146) rfl
theorem tw_628 : (Jvm.Cond.instanceMethod ({ cls := "NightDoors$SumReader", name := "readProduct", desc := "(I)V" } : Jvm.MethodName)) ∈ lw_tbl := tk_2 (j := 148) rfl
theorem tw_629 : (Jvm.Cond.code ({ cls := "NightDoors$SumReader", name := "readProduct", desc := "(I)V" } : Jvm.MethodName) prog_10_method_6_code (4 : Nat) (Option.none : Option Jvm.ClassFile.FieldType)) ∈ lw_tbl := tk_2 (j := 149) rfl
theorem tw_630 : (Jvm.Cond.methodLink "NightDoors$SumReader" (51 : Nat) ({ cls := "NightDoors$SumReader", name := "readPart", desc := "(I)V" } : Jvm.MethodName)) ∈ lw_tbl := tk_2 (j := 150) rfl
theorem tw_632 : (Jvm.Cond.instanceMethod ({ cls := "NightDoors$SumReader", name := "readPart", desc := "(I)V" } : Jvm.MethodName)) ∈ lw_tbl := tk_2 (j := 152) rfl
theorem tw_633 : (Jvm.Cond.code ({ cls := "NightDoors$SumReader", name := "readPart", desc := "(I)V" } : Jvm.MethodName) prog_10_method_7_code (2 : Nat) (Option.none : Option Jvm.ClassFile.FieldType)) ∈ lw_tbl := tk_2 (j := 153) rfl
theorem tw_634 : (Jvm.Cond.methodLink "NightDoors$SumReader" (37 : Nat) ({ cls := "NightDoors$Text", name := "failed", desc := "()Z" } : Jvm.MethodName)) ∈ lw_tbl := tk_2 (j := 154) rfl
theorem tw_635 : (Jvm.Cond.methodLink "NightDoors$SumReader" (54 : Nat) ({ cls := "NightDoors$Text", name := "seesDigit", desc := "()Z" } : Jvm.MethodName)) ∈ lw_tbl := tk_2 (j := 155) rfl
theorem tw_636 : (Jvm.Cond.methodLink "NightDoors$SumReader" (57 : Nat) ({ cls := "NightDoors$Text", name := "takeNumber", desc := "(I)I" } : Jvm.MethodName)) ∈ lw_tbl := tk_2 (j := 156) rfl
theorem tw_637 : (Jvm.Cond.methodLink "NightDoors$SumReader" (48 : Nat) ({ cls := "NightDoors$SumReader", name := "emit", desc := "(I)V" } : Jvm.MethodName)) ∈ lw_tbl := tk_2 (j := 157) rfl
theorem tw_638 : (Jvm.Cond.instanceMethod ({ cls := "NightDoors$SumReader", name := "emit", desc := "(I)V" } : Jvm.MethodName)) ∈ lw_tbl := tk_2 (j := 158) rfl
theorem tw_639 : (Jvm.Cond.selects "NightDoors$SumReader" ({ cls := "NightDoors$SumReader", name := "emit", desc := "(I)V" } : Jvm.MethodName) ({ cls := "NightDoors$SumReader", name := "emit", desc := "(I)V" } : Jvm.MethodName)) ∈ lw_tbl := tk_2 (j := 159) rfl
theorem tw_640 : (Jvm.Cond.code ({ cls := "NightDoors$SumReader", name := "emit", desc := "(I)V" } : Jvm.MethodName) prog_10_method_3_code (2 : Nat) (Option.none : Option Jvm.ClassFile.FieldType)) ∈ lw_tbl := tk_2 (j := 160) rfl
theorem tw_641 : (Jvm.Cond.methodLink "NightDoors$SumReader" (23 : Nat) ({ cls := "NightDoors$Reckoner", name := "add", desc := "(I)V" } : Jvm.MethodName)) ∈ lw_tbl := tk_2 (j := 161) rfl
theorem tw_642 : (Jvm.Cond.instanceMethod ({ cls := "NightDoors$Reckoner", name := "add", desc := "(I)V" } : Jvm.MethodName)) ∈ lw_tbl := tk_2 (j := 162) rfl
theorem tw_643 : (Jvm.Cond.selects "NightDoors$Reckoner" ({ cls := "NightDoors$Reckoner", name := "add", desc := "(I)V" } : Jvm.MethodName) ({ cls := "NightDoors$Reckoner", name := "add", desc := "(I)V" } : Jvm.MethodName)) ∈ lw_tbl := tk_2 (j := 163) rfl
theorem tw_644 : (Jvm.Cond.code ({ cls := "NightDoors$Reckoner", name := "add", desc := "(I)V" } : Jvm.MethodName) prog_8_method_3_code (2 : Nat) (Option.none : Option Jvm.ClassFile.FieldType)) ∈ lw_tbl := tk_2 (j := 164) rfl
theorem tw_645 : (Jvm.Cond.methodLink "NightDoors$SumReader" (41 : Nat) ({ cls := "NightDoors$Text", name := "sees", desc := "(C)Z" } : Jvm.MethodName)) ∈ lw_tbl := tk_2 (j := 165) rfl
theorem tw_646 : (Jvm.Cond.instanceMethod ({ cls := "NightDoors$Text", name := "sees", desc := "(C)Z" } : Jvm.MethodName)) ∈ lw_tbl := tk_2 (j := 166) rfl
theorem tw_647 : (Jvm.Cond.selects "NightDoors$Text" ({ cls := "NightDoors$Text", name := "sees", desc := "(C)Z" } : Jvm.MethodName) ({ cls := "NightDoors$Text", name := "sees", desc := "(C)Z" } : Jvm.MethodName)) ∈ lw_tbl := tk_2 (j := 167) rfl
theorem tw_648 : (Jvm.Cond.code ({ cls := "NightDoors$Text", name := "sees", desc := "(C)Z" } : Jvm.MethodName) prog_11_method_11_code (2 : Nat) (Option.some Jvm.ClassFile.FieldType.boolean)) ∈ lw_tbl := tk_2 (j := 168) rfl
theorem tw_649 : (Jvm.Cond.methodLink "NightDoors$SumReader" (61 : Nat) ({ cls := "NightDoors$SumReader", name := "mayOpen", desc := "(I)Z" } : Jvm.MethodName)) ∈ lw_tbl := tk_2 (j := 169) rfl
theorem tw_650 : (Jvm.Cond.instanceMethod ({ cls := "NightDoors$SumReader", name := "mayOpen", desc := "(I)Z" } : Jvm.MethodName)) ∈ lw_tbl := tk_2 (j := 170) rfl
theorem tw_651 : (Jvm.Cond.selects "NightDoors$SumReader" ({ cls := "NightDoors$SumReader", name := "mayOpen", desc := "(I)Z" } : Jvm.MethodName) ({ cls := "NightDoors$SumReader", name := "mayOpen", desc := "(I)Z" } : Jvm.MethodName)) ∈ lw_tbl := tk_2 (j := 171) rfl
theorem tw_652 : (Jvm.Cond.code ({ cls := "NightDoors$SumReader", name := "mayOpen", desc := "(I)Z" } : Jvm.MethodName) prog_10_method_4_code (2 : Nat) (Option.some Jvm.ClassFile.FieldType.boolean)) ∈ lw_tbl := tk_2 (j := 172) rfl
theorem tw_653 : (Jvm.Cond.methodLink "NightDoors$SumReader" (29 : Nat) ({ cls := "NightDoors$Text", name := "blameHere", desc := "(I)V" } : Jvm.MethodName)) ∈ lw_tbl := tk_2 (j := 173) rfl
theorem tw_654 : (Jvm.Cond.methodLink "NightDoors$SumReader" (45 : Nat) ({ cls := "NightDoors$Text", name := "step", desc := "()V" } : Jvm.MethodName)) ∈ lw_tbl := tk_2 (j := 174) rfl
theorem tw_655 : (Jvm.Cond.instanceMethod ({ cls := "NightDoors$Text", name := "step", desc := "()V" } : Jvm.MethodName)) ∈ lw_tbl := tk_2 (j := 175) rfl
theorem tw_656 : (Jvm.Cond.selects "NightDoors$Text" ({ cls := "NightDoors$Text", name := "step", desc := "()V" } : Jvm.MethodName) ({ cls := "NightDoors$Text", name := "step", desc := "()V" } : Jvm.MethodName)) ∈ lw_tbl := tk_2 (j := 176) rfl
theorem tw_657 : (Jvm.Cond.code ({ cls := "NightDoors$Text", name := "step", desc := "()V" } : Jvm.MethodName) prog_11_method_12_code (1 : Nat) (Option.none : Option Jvm.ClassFile.FieldType)) ∈ lw_tbl := tk_2 (j := 177) rfl
theorem tw_658 : (Jvm.Cond.methodLink "NightDoors$SumReader" (65 : Nat) ({ cls := "NightDoors$SumReader", name := "readSum", desc := "(I)V" } : Jvm.MethodName)) ∈ lw_tbl := tk_2 (j := 178) rfl
theorem tw_659 : (Jvm.Cond.methodLink "NightDoors$SumReader" (68 : Nat) ({ cls := "NightDoors$Text", name := "demand", desc := "(C)V" } : Jvm.MethodName)) ∈ lw_tbl := tk_2 (j := 179) rfl
theorem tw_660 : (Jvm.Cond.instanceMethod ({ cls := "NightDoors$Text", name := "demand", desc := "(C)V" } : Jvm.MethodName)) ∈ lw_tbl := tk_2 (j := 180) rfl
theorem tw_661 : (Jvm.Cond.selects "NightDoors$Text" ({ cls := "NightDoors$Text", name := "demand", desc := "(C)V" } : Jvm.MethodName) ({ cls := "NightDoors$Text", name := "demand", desc := "(C)V" } : Jvm.MethodName)) ∈ lw_tbl := tk_2 (j := 181) rfl
theorem tw_662 : (Jvm.Cond.code ({ cls := "NightDoors$Text", name := "demand", desc := "(C)V" } : Jvm.MethodName) prog_11_method_13_code (2 : Nat) (Option.none : Option Jvm.ClassFile.FieldType)) ∈ lw_tbl := tk_2 (j := 182) rfl
theorem tw_663 : (Jvm.Cond.methodLink "NightDoors$Text" (49 : Nat) ({ cls := "NightDoors$Text", name := "sees", desc := "(C)Z" } : Jvm.MethodName)) ∈ lw_tbl := tk_2 (j := 183) rfl
theorem tw_664 : (Jvm.Cond.methodLink "NightDoors$Text" (53 : Nat) ({ cls := "NightDoors$Text", name := "step", desc := "()V" } : Jvm.MethodName)) ∈ lw_tbl := tk_2 (j := 184) rfl
theorem tw_665 : (Jvm.Cond.methodLink "NightDoors$SumReader" (72 : Nat) ({ cls := "NightDoors$SumReader", name := "readWord", desc := "(I)V" } : Jvm.MethodName)) ∈ lw_tbl := tk_2 (j := 185) rfl
theorem tw_667 : (Jvm.Cond.instanceMethod ({ cls := "NightDoors$SumReader", name := "readWord", desc := "(I)V" } : Jvm.MethodName)) ∈ lw_tbl := tk_2 (j := 187) rfl
theorem tw_668 : (Jvm.Cond.code ({ cls := "NightDoors$SumReader", name := "readWord", desc := "(I)V" } : Jvm.MethodName) prog_10_method_8_code (4 : Nat) (Option.none : Option Jvm.ClassFile.FieldType)) ∈ lw_tbl := tk_2 (j := 188) rfl
theorem tw_671 : (Jvm.Cond.methodLink "NightDoors$SumReader" (79 : Nat) ({ cls := "NightDoors$Text", name := "wordIn", desc := "(Ljava/lang/String;)I" } : Jvm.MethodName)) ∈ lw_tbl := tk_2 (j := 191) rfl
theorem tw_672 : (Jvm.Cond.fieldLinkNest "NightDoors$SumReader" (83 : Nat) "NightDoors" "DREAM_STEPS" "[I" "NightDoors") ∈ lw_tbl := tk_2 (j := 192) rfl
theorem tw_673 : (Jvm.Cond.laysStatic "NightDoors" "DREAM_STEPS" "[I") ∈ lw_tbl := tk_2 (j := 193) rfl
theorem tw_674 : (Jvm.Cond.fieldLinkNest "NightDoors$SumReader" (87 : Nat) "NightDoors" "QUESTION_STEPS" "[I" "NightDoors") ∈ lw_tbl := tk_2 (j := 194) rfl
theorem tw_675 : (Jvm.Cond.laysStatic "NightDoors" "QUESTION_STEPS" "[I") ∈ lw_tbl := tk_2 (j := 195) rfl
theorem tw_676 : (Jvm.Cond.methodLink "NightDoors$SumReader" (90 : Nat) ({ cls := "NightDoors$Text", name := "skipWord", desc := "()V" } : Jvm.MethodName)) ∈ lw_tbl := tk_2 (j := 196) rfl
theorem tw_677 : (Jvm.Cond.methodLink "NightDoors$SumReader" (93 : Nat) ({ cls := "NightDoors$SumReader", name := "readPair", desc := "(I)V" } : Jvm.MethodName)) ∈ lw_tbl := tk_2 (j := 197) rfl
theorem tw_679 : (Jvm.Cond.instanceMethod ({ cls := "NightDoors$SumReader", name := "readPair", desc := "(I)V" } : Jvm.MethodName)) ∈ lw_tbl := tk_2 (j := 199) rfl
theorem tw_680 : (Jvm.Cond.code ({ cls := "NightDoors$SumReader", name := "readPair", desc := "(I)V" } : Jvm.MethodName) prog_10_method_9_code (2 : Nat) (Option.none : Option Jvm.ClassFile.FieldType)) ∈ lw_tbl := tk_2 (j := 200) rfl
theorem tw_681 : (Jvm.Cond.methodLink "NightDoors$DreamReader" (138 : Nat) ({ cls := "NightDoors$Dream", name := "markSum", desc := "(II)V" } : Jvm.MethodName)) ∈ lw_tbl := tk_2 (j := 201) rfl
theorem tw_682 : (Jvm.Cond.instanceMethod ({ cls := "NightDoors$Dream", name := "markSum", desc := "(II)V" } : Jvm.MethodName)) ∈ lw_tbl := tk_2 (j := 202) rfl
theorem tw_683 : (Jvm.Cond.selects "NightDoors$Dream" ({ cls := "NightDoors$Dream", name := "markSum", desc := "(II)V" } : Jvm.MethodName) ({ cls := "NightDoors$Dream", name := "markSum", desc := "(II)V" } : Jvm.MethodName)) ∈ lw_tbl := tk_2 (j := 203) rfl
theorem tw_684 : (Jvm.Cond.code ({ cls := "NightDoors$Dream", name := "markSum", desc := "(II)V" } : Jvm.MethodName) prog_4_method_14_code (3 : Nat) (Option.none : Option Jvm.ClassFile.FieldType)) ∈ lw_tbl := tk_2 (j := 204) rfl
theorem tw_685 : (Jvm.Cond.methodLink "NightDoors$DreamReader" (55 : Nat) ({ cls := "NightDoors$Text", name := "demand", desc := "(C)V" } : Jvm.MethodName)) ∈ lw_tbl := tk_2 (j := 205) rfl
theorem tw_686 : (Jvm.Cond.methodLink "NightDoors" (125 : Nat) ({ cls := "NightDoors$Text", name := "wipe", desc := "()V" } : Jvm.MethodName)) ∈ lw_tbl := tk_2 (j := 206) rfl
theorem tw_687 : (Jvm.Cond.instanceMethod ({ cls := "NightDoors$Text", name := "wipe", desc := "()V" } : Jvm.MethodName)) ∈ lw_tbl := tk_2 (j := 207) rfl
theorem tw_688 : (Jvm.Cond.selects "NightDoors$Text" ({ cls := "NightDoors$Text", name := "wipe", desc := "()V" } : Jvm.MethodName) ({ cls := "NightDoors$Text", name := "wipe", desc := "()V" } : Jvm.MethodName)) ∈ lw_tbl := tk_2 (j := 208) rfl
theorem tw_689 : (Jvm.Cond.code ({ cls := "NightDoors$Text", name := "wipe", desc := "()V" } : Jvm.MethodName) prog_11_method_3_code (1 : Nat) (Option.none : Option Jvm.ClassFile.FieldType)) ∈ lw_tbl := tk_2 (j := 209) rfl
theorem tw_690 : (Jvm.Cond.methodLink "NightDoors" (128 : Nat) ({ cls := "NightDoors$Dream", name := "lay", desc := "(LNightDoors$Sleeper;I)V" } : Jvm.MethodName)) ∈ lw_tbl := tk_2 (j := 210) rfl
theorem tw_691 : (Jvm.Cond.instanceMethod ({ cls := "NightDoors$Dream", name := "lay", desc := "(LNightDoors$Sleeper;I)V" } : Jvm.MethodName)) ∈ lw_tbl := tk_2 (j := 211) rfl
theorem tw_692 : (Jvm.Cond.selects "NightDoors$Dream" ({ cls := "NightDoors$Dream", name := "lay", desc := "(LNightDoors$Sleeper;I)V" } : Jvm.MethodName) ({ cls := "NightDoors$Dream", name := "lay", desc := "(LNightDoors$Sleeper;I)V" } : Jvm.MethodName)) ∈ lw_tbl := tk_2 (j := 212) rfl
theorem tw_693 : (Jvm.Cond.code ({ cls := "NightDoors$Dream", name := "lay", desc := "(LNightDoors$Sleeper;I)V" } : Jvm.MethodName) prog_4_method_17_code (5 : Nat) (Option.none : Option Jvm.ClassFile.FieldType)) ∈ lw_tbl := tk_2 (j := 213) rfl
theorem tw_694 : (Jvm.Cond.methodLink "NightDoors$Dream" (93 : Nat) ({ cls := "NightDoors$Sleeper", name := "put", desc := "(II)V" } : Jvm.MethodName)) ∈ lw_tbl := tk_2 (j := 214) rfl
theorem tw_695 : (Jvm.Cond.instanceMethod ({ cls := "NightDoors$Sleeper", name := "put", desc := "(II)V" } : Jvm.MethodName)) ∈ lw_tbl := tk_2 (j := 215) rfl
theorem tw_696 : (Jvm.Cond.selects "NightDoors$Sleeper" ({ cls := "NightDoors$Sleeper", name := "put", desc := "(II)V" } : Jvm.MethodName) ({ cls := "NightDoors$Sleeper", name := "put", desc := "(II)V" } : Jvm.MethodName)) ∈ lw_tbl := tk_2 (j := 216) rfl
theorem tw_697 : (Jvm.Cond.code ({ cls := "NightDoors$Sleeper", name := "put", desc := "(II)V" } : Jvm.MethodName) prog_9_method_4_code (3 : Nat) (Option.none : Option Jvm.ClassFile.FieldType)) ∈ lw_tbl := tk_2 (j := 217) rfl
theorem tw_698 : (Jvm.Cond.methodLink "NightDoors" (132 : Nat) ({ cls := "NightDoors$Acts", name := "forget", desc := "()V" } : Jvm.MethodName)) ∈ lw_tbl := tk_2 (j := 218) rfl
theorem tw_699 : (Jvm.Cond.instanceMethod ({ cls := "NightDoors$Acts", name := "forget", desc := "()V" } : Jvm.MethodName)) ∈ lw_tbl := tk_2 (j := 219) rfl
theorem tw_700 : (Jvm.Cond.selects "NightDoors$Acts" ({ cls := "NightDoors$Acts", name := "forget", desc := "()V" } : Jvm.MethodName) ({ cls := "NightDoors$Acts", name := "forget", desc := "()V" } : Jvm.MethodName)) ∈ lw_tbl := tk_2 (j := 220) rfl
theorem tw_701 : (Jvm.Cond.code ({ cls := "NightDoors$Acts", name := "forget", desc := "()V" } : Jvm.MethodName) prog_2_method_2_code (1 : Nat) (Option.none : Option Jvm.ClassFile.FieldType)) ∈ lw_tbl := tk_2 (j := 221) rfl
theorem tw_702 : (Jvm.Cond.arrayClass Jvm.ClassFile.FieldType.byte) ∈ lw_tbl := tk_2 (j := 222) rfl
theorem tw_703 : (Jvm.Cond.methodLink "NightDoorsLaw" (28 : Nat) ({ cls := "NightDoors", name := "fault", desc := "(I)I" } : Jvm.MethodName)) ∈ lw_tbl := tk_2 (j := 223) rfl
theorem tw_704 : (Jvm.Cond.instanceMethod ({ cls := "NightDoors", name := "fault", desc := "(I)I" } : Jvm.MethodName)) ∈ lw_tbl := tk_2 (j := 224) rfl
theorem tw_705 : (Jvm.Cond.selects "NightDoors" ({ cls := "NightDoors", name := "fault", desc := "(I)I" } : Jvm.MethodName) ({ cls := "NightDoors", name := "fault", desc := "(I)I" } : Jvm.MethodName)) ∈ lw_tbl := tk_2 (j := 225) rfl
theorem tw_706 : (Jvm.Cond.code ({ cls := "NightDoors", name := "fault", desc := "(I)I" } : Jvm.MethodName) prog_1_method_5_code (2 : Nat) (Option.some Jvm.ClassFile.FieldType.int)) ∈ lw_tbl := tk_2 (j := 226) rfl
theorem tw_707 : (Jvm.Cond.methodLink "NightDoorsLaw" (33 : Nat) ({ cls := "NightDoors", name := "has", desc := "(I)I" } : Jvm.MethodName)) ∈ lw_tbl := tk_2 (j := 227) rfl
theorem tw_708 : (Jvm.Cond.instanceMethod ({ cls := "NightDoors", name := "has", desc := "(I)I" } : Jvm.MethodName)) ∈ lw_tbl := tk_2 (j := 228) rfl
theorem tw_709 : (Jvm.Cond.selects "NightDoors" ({ cls := "NightDoors", name := "has", desc := "(I)I" } : Jvm.MethodName) ({ cls := "NightDoors", name := "has", desc := "(I)I" } : Jvm.MethodName)) ∈ lw_tbl := tk_2 (j := 229) rfl
theorem tw_710 : (Jvm.Cond.code ({ cls := "NightDoors", name := "has", desc := "(I)I" } : Jvm.MethodName) prog_1_method_6_code (2 : Nat) (Option.some Jvm.ClassFile.FieldType.int)) ∈ lw_tbl := tk_2 (j := 230) rfl
theorem tw_711 : (Jvm.Cond.methodLink "NightDoors" (141 : Nat) ({ cls := "NightDoors$Dream", name := "count", desc := "(I)I" } : Jvm.MethodName)) ∈ lw_tbl := tk_2 (j := 231) rfl
theorem tw_712 : (Jvm.Cond.methodLink "NightDoors" (153 : Nat) ({ cls := "NightDoors", name := "countHome", desc := "()I" } : Jvm.MethodName)) ∈ lw_tbl := tk_2 (j := 232) rfl
theorem tw_714 : (Jvm.Cond.instanceMethod ({ cls := "NightDoors", name := "countHome", desc := "()I" } : Jvm.MethodName)) ∈ lw_tbl := tk_2 (j := 234) rfl
theorem tw_715 : (Jvm.Cond.code ({ cls := "NightDoors", name := "countHome", desc := "()I" } : Jvm.MethodName) prog_1_method_39_code (3 : Nat) (Option.some Jvm.ClassFile.FieldType.int)) ∈ lw_tbl := tk_2 (j := 235) rfl
theorem tw_716 : (Jvm.Cond.methodLink "NightDoors" (195 : Nat) ({ cls := "NightDoors$Dream", name := "isHome", desc := "(LNightDoors$Sleeper;)Z" } : Jvm.MethodName)) ∈ lw_tbl := tk_2 (j := 236) rfl
theorem tw_717 : (Jvm.Cond.instanceMethod ({ cls := "NightDoors$Dream", name := "isHome", desc := "(LNightDoors$Sleeper;)Z" } : Jvm.MethodName)) ∈ lw_tbl := tk_2 (j := 237) rfl
theorem tw_718 : (Jvm.Cond.selects "NightDoors$Dream" ({ cls := "NightDoors$Dream", name := "isHome", desc := "(LNightDoors$Sleeper;)Z" } : Jvm.MethodName) ({ cls := "NightDoors$Dream", name := "isHome", desc := "(LNightDoors$Sleeper;)Z" } : Jvm.MethodName)) ∈ lw_tbl := tk_2 (j := 238) rfl
theorem tw_719 : (Jvm.Cond.code ({ cls := "NightDoors$Dream", name := "isHome", desc := "(LNightDoors$Sleeper;)Z" } : Jvm.MethodName) prog_4_method_20_code (2 : Nat) (Option.some Jvm.ClassFile.FieldType.boolean)) ∈ lw_tbl := tk_2 (j := 239) rfl
theorem tw_720 : (Jvm.Cond.methodLink "NightDoors$Dream" (107 : Nat) ({ cls := "NightDoors$Sleeper", name := "total", desc := "()I" } : Jvm.MethodName)) ∈ lw_tbl := tk_3 (j := 0) rfl
theorem tw_721 : (Jvm.Cond.instanceMethod ({ cls := "NightDoors$Sleeper", name := "total", desc := "()I" } : Jvm.MethodName)) ∈ lw_tbl := tk_3 (j := 1) rfl
theorem tw_722 : (Jvm.Cond.selects "NightDoors$Sleeper" ({ cls := "NightDoors$Sleeper", name := "total", desc := "()I" } : Jvm.MethodName) ({ cls := "NightDoors$Sleeper", name := "total", desc := "()I" } : Jvm.MethodName)) ∈ lw_tbl := tk_3 (j := 2) rfl
theorem tw_723 : (Jvm.Cond.code ({ cls := "NightDoors$Sleeper", name := "total", desc := "()I" } : Jvm.MethodName) prog_9_method_5_code (3 : Nat) (Option.some Jvm.ClassFile.FieldType.int)) ∈ lw_tbl := tk_3 (j := 3) rfl
theorem tw_724 : (Jvm.Cond.methodLink "NightDoorsLaw" (37 : Nat) ({ cls := "NightDoors", name := "letter", desc := "(III)I" } : Jvm.MethodName)) ∈ lw_tbl := tk_3 (j := 4) rfl
theorem tw_725 : (Jvm.Cond.instanceMethod ({ cls := "NightDoors", name := "letter", desc := "(III)I" } : Jvm.MethodName)) ∈ lw_tbl := tk_3 (j := 5) rfl
theorem tw_726 : (Jvm.Cond.selects "NightDoors" ({ cls := "NightDoors", name := "letter", desc := "(III)I" } : Jvm.MethodName) ({ cls := "NightDoors", name := "letter", desc := "(III)I" } : Jvm.MethodName)) ∈ lw_tbl := tk_3 (j := 6) rfl
theorem tw_727 : (Jvm.Cond.code ({ cls := "NightDoors", name := "letter", desc := "(III)I" } : Jvm.MethodName) prog_1_method_7_code (4 : Nat) (Option.some Jvm.ClassFile.FieldType.int)) ∈ lw_tbl := tk_3 (j := 7) rfl
theorem tw_728 : (Jvm.Cond.methodLink "NightDoors" (159 : Nat) ({ cls := "NightDoors$Dream", name := "isThere", desc := "(II)Z" } : Jvm.MethodName)) ∈ lw_tbl := tk_3 (j := 8) rfl
theorem tw_729 : (Jvm.Cond.instanceMethod ({ cls := "NightDoors$Dream", name := "isThere", desc := "(II)Z" } : Jvm.MethodName)) ∈ lw_tbl := tk_3 (j := 9) rfl
theorem tw_730 : (Jvm.Cond.selects "NightDoors$Dream" ({ cls := "NightDoors$Dream", name := "isThere", desc := "(II)Z" } : Jvm.MethodName) ({ cls := "NightDoors$Dream", name := "isThere", desc := "(II)Z" } : Jvm.MethodName)) ∈ lw_tbl := tk_3 (j := 10) rfl
theorem tw_731 : (Jvm.Cond.code ({ cls := "NightDoors$Dream", name := "isThere", desc := "(II)Z" } : Jvm.MethodName) prog_4_method_4_code (3 : Nat) (Option.some Jvm.ClassFile.FieldType.boolean)) ∈ lw_tbl := tk_3 (j := 11) rfl
theorem tw_732 : (Jvm.Cond.methodLink "NightDoors" (163 : Nat) ({ cls := "NightDoors$Dream", name := "placeOf", desc := "(II)I" } : Jvm.MethodName)) ∈ lw_tbl := tk_3 (j := 12) rfl
theorem tw_733 : (Jvm.Cond.methodLink "NightDoors" (167 : Nat) ({ cls := "NightDoors$Dream", name := "letterAt", desc := "(II)I" } : Jvm.MethodName)) ∈ lw_tbl := tk_3 (j := 13) rfl
theorem tw_734 : (Jvm.Cond.methodLink "NightDoorsLaw" (42 : Nat) ({ cls := "NightDoors", name := "dreamer", desc := "(II)I" } : Jvm.MethodName)) ∈ lw_tbl := tk_3 (j := 14) rfl
theorem tw_735 : (Jvm.Cond.instanceMethod ({ cls := "NightDoors", name := "dreamer", desc := "(II)I" } : Jvm.MethodName)) ∈ lw_tbl := tk_3 (j := 15) rfl
theorem tw_736 : (Jvm.Cond.selects "NightDoors" ({ cls := "NightDoors", name := "dreamer", desc := "(II)I" } : Jvm.MethodName) ({ cls := "NightDoors", name := "dreamer", desc := "(II)I" } : Jvm.MethodName)) ∈ lw_tbl := tk_3 (j := 16) rfl
theorem tw_737 : (Jvm.Cond.code ({ cls := "NightDoors", name := "dreamer", desc := "(II)I" } : Jvm.MethodName) prog_1_method_8_code (4 : Nat) (Option.some Jvm.ClassFile.FieldType.int)) ∈ lw_tbl := tk_3 (j := 17) rfl
theorem tw_738 : (Jvm.Cond.methodLink "NightDoors" (170 : Nat) ({ cls := "NightDoors", name := "isDreamer", desc := "(I)Z" } : Jvm.MethodName)) ∈ lw_tbl := tk_3 (j := 18) rfl
theorem tw_740 : (Jvm.Cond.instanceMethod ({ cls := "NightDoors", name := "isDreamer", desc := "(I)Z" } : Jvm.MethodName)) ∈ lw_tbl := tk_3 (j := 20) rfl
theorem tw_741 : (Jvm.Cond.code ({ cls := "NightDoors", name := "isDreamer", desc := "(I)Z" } : Jvm.MethodName) prog_1_method_37_code (2 : Nat) (Option.some Jvm.ClassFile.FieldType.boolean)) ∈ lw_tbl := tk_3 (j := 21) rfl
theorem tw_742 : (Jvm.Cond.methodLink "NightDoors" (174 : Nat) ({ cls := "NightDoors$Dream", name := "braveryOf", desc := "(I)I" } : Jvm.MethodName)) ∈ lw_tbl := tk_3 (j := 22) rfl
theorem tw_743 : (Jvm.Cond.instanceMethod ({ cls := "NightDoors$Dream", name := "braveryOf", desc := "(I)I" } : Jvm.MethodName)) ∈ lw_tbl := tk_3 (j := 23) rfl
theorem tw_744 : (Jvm.Cond.selects "NightDoors$Dream" ({ cls := "NightDoors$Dream", name := "braveryOf", desc := "(I)I" } : Jvm.MethodName) ({ cls := "NightDoors$Dream", name := "braveryOf", desc := "(I)I" } : Jvm.MethodName)) ∈ lw_tbl := tk_3 (j := 24) rfl
theorem tw_745 : (Jvm.Cond.code ({ cls := "NightDoors$Dream", name := "braveryOf", desc := "(I)I" } : Jvm.MethodName) prog_4_method_15_code (2 : Nat) (Option.some Jvm.ClassFile.FieldType.int)) ∈ lw_tbl := tk_3 (j := 25) rfl
theorem tw_746 : (Jvm.Cond.methodLink "NightDoors" (182 : Nat) ({ cls := "NightDoors$Sleeper", name := "total", desc := "()I" } : Jvm.MethodName)) ∈ lw_tbl := tk_3 (j := 26) rfl
theorem tw_747 : (Jvm.Cond.methodLink "NightDoors" (185 : Nat) ({ cls := "NightDoors$Sleeper", name := "greatest", desc := "()I" } : Jvm.MethodName)) ∈ lw_tbl := tk_3 (j := 27) rfl
theorem tw_748 : (Jvm.Cond.instanceMethod ({ cls := "NightDoors$Sleeper", name := "greatest", desc := "()I" } : Jvm.MethodName)) ∈ lw_tbl := tk_3 (j := 28) rfl
theorem tw_749 : (Jvm.Cond.selects "NightDoors$Sleeper" ({ cls := "NightDoors$Sleeper", name := "greatest", desc := "()I" } : Jvm.MethodName) ({ cls := "NightDoors$Sleeper", name := "greatest", desc := "()I" } : Jvm.MethodName)) ∈ lw_tbl := tk_3 (j := 29) rfl
theorem tw_750 : (Jvm.Cond.code ({ cls := "NightDoors$Sleeper", name := "greatest", desc := "()I" } : Jvm.MethodName) prog_9_method_6_code (3 : Nat) (Option.some Jvm.ClassFile.FieldType.int)) ∈ lw_tbl := tk_3 (j := 30) rfl
theorem tw_751 : (Jvm.Cond.methodLink "NightDoors$Sleeper" (22 : Nat) ({ cls := "java/lang/Math", name := "max", desc := "(II)I" } : Jvm.MethodName)) ∈ lw_tbl := tk_3 (j := 31) rfl
theorem tw_752 : (Jvm.Cond.static ({ cls := "java/lang/Math", name := "max", desc := "(II)I" } : Jvm.MethodName)) ∈ lw_tbl := tk_3 (j := 32) rfl
theorem tw_753 : (Jvm.Cond.code ({ cls := "java/lang/Math", name := "max", desc := "(II)I" } : Jvm.MethodName) prog_16_method_65_code (2 : Nat) (Option.some Jvm.ClassFile.FieldType.int)) ∈ lw_tbl := tk_3 (j := 33) rfl
theorem tw_754 : (Jvm.Cond.methodLink "NightDoors" (188 : Nat) ({ cls := "NightDoors$Sleeper", name := "countHeavy", desc := "()I" } : Jvm.MethodName)) ∈ lw_tbl := tk_3 (j := 34) rfl
theorem tw_755 : (Jvm.Cond.instanceMethod ({ cls := "NightDoors$Sleeper", name := "countHeavy", desc := "()I" } : Jvm.MethodName)) ∈ lw_tbl := tk_3 (j := 35) rfl
theorem tw_756 : (Jvm.Cond.selects "NightDoors$Sleeper" ({ cls := "NightDoors$Sleeper", name := "countHeavy", desc := "()I" } : Jvm.MethodName) ({ cls := "NightDoors$Sleeper", name := "countHeavy", desc := "()I" } : Jvm.MethodName)) ∈ lw_tbl := tk_3 (j := 36) rfl
theorem tw_757 : (Jvm.Cond.code ({ cls := "NightDoors$Sleeper", name := "countHeavy", desc := "()I" } : Jvm.MethodName) prog_9_method_7_code (3 : Nat) (Option.some Jvm.ClassFile.FieldType.int)) ∈ lw_tbl := tk_3 (j := 37) rfl
theorem tw_758 : (Jvm.Cond.methodLink "NightDoors" (191 : Nat) ({ cls := "NightDoors$Dream", name := "heaviest", desc := "(LNightDoors$Sleeper;I)I" } : Jvm.MethodName)) ∈ lw_tbl := tk_3 (j := 38) rfl
theorem tw_759 : (Jvm.Cond.instanceMethod ({ cls := "NightDoors$Dream", name := "heaviest", desc := "(LNightDoors$Sleeper;I)I" } : Jvm.MethodName)) ∈ lw_tbl := tk_3 (j := 39) rfl
theorem tw_760 : (Jvm.Cond.selects "NightDoors$Dream" ({ cls := "NightDoors$Dream", name := "heaviest", desc := "(LNightDoors$Sleeper;I)I" } : Jvm.MethodName) ({ cls := "NightDoors$Dream", name := "heaviest", desc := "(LNightDoors$Sleeper;I)I" } : Jvm.MethodName)) ∈ lw_tbl := tk_3 (j := 40) rfl
theorem tw_761 : (Jvm.Cond.code ({ cls := "NightDoors$Dream", name := "heaviest", desc := "(LNightDoors$Sleeper;I)I" } : Jvm.MethodName) prog_4_method_19_code (7 : Nat) (Option.some Jvm.ClassFile.FieldType.int)) ∈ lw_tbl := tk_3 (j := 41) rfl
theorem tw_762 : (Jvm.Cond.methodLink "NightDoors$Dream" (103 : Nat) ({ cls := "NightDoors$Dream", name := "counts", desc := "(LNightDoors$Sleeper;I)I" } : Jvm.MethodName)) ∈ lw_tbl := tk_3 (j := 42) rfl
theorem tw_763 : (Jvm.Cond.instanceMethod ({ cls := "NightDoors$Dream", name := "counts", desc := "(LNightDoors$Sleeper;I)I" } : Jvm.MethodName)) ∈ lw_tbl := tk_3 (j := 43) rfl
theorem tw_764 : (Jvm.Cond.selects "NightDoors$Dream" ({ cls := "NightDoors$Dream", name := "counts", desc := "(LNightDoors$Sleeper;I)I" } : Jvm.MethodName) ({ cls := "NightDoors$Dream", name := "counts", desc := "(LNightDoors$Sleeper;I)I" } : Jvm.MethodName)) ∈ lw_tbl := tk_3 (j := 44) rfl
theorem tw_765 : (Jvm.Cond.code ({ cls := "NightDoors$Dream", name := "counts", desc := "(LNightDoors$Sleeper;I)I" } : Jvm.MethodName) prog_4_method_18_code (4 : Nat) (Option.some Jvm.ClassFile.FieldType.int)) ∈ lw_tbl := tk_3 (j := 45) rfl
theorem tw_766 : (Jvm.Cond.methodLink "NightDoors$Dream" (97 : Nat) ({ cls := "NightDoors$Sleeper", name := "at", desc := "(I)I" } : Jvm.MethodName)) ∈ lw_tbl := tk_3 (j := 46) rfl
theorem tw_767 : (Jvm.Cond.instanceMethod ({ cls := "NightDoors$Sleeper", name := "at", desc := "(I)I" } : Jvm.MethodName)) ∈ lw_tbl := tk_3 (j := 47) rfl
theorem tw_768 : (Jvm.Cond.selects "NightDoors$Sleeper" ({ cls := "NightDoors$Sleeper", name := "at", desc := "(I)I" } : Jvm.MethodName) ({ cls := "NightDoors$Sleeper", name := "at", desc := "(I)I" } : Jvm.MethodName)) ∈ lw_tbl := tk_3 (j := 48) rfl
theorem tw_769 : (Jvm.Cond.code ({ cls := "NightDoors$Sleeper", name := "at", desc := "(I)I" } : Jvm.MethodName) prog_9_method_3_code (2 : Nat) (Option.some Jvm.ClassFile.FieldType.int)) ∈ lw_tbl := tk_3 (j := 49) rfl
theorem tw_770 : (Jvm.Cond.methodLink "NightDoors$Dream" (100 : Nat) ({ cls := "NightDoors$Dream", name := "dreadOf", desc := "(I)I" } : Jvm.MethodName)) ∈ lw_tbl := tk_3 (j := 50) rfl
theorem tw_771 : (Jvm.Cond.instanceMethod ({ cls := "NightDoors$Dream", name := "dreadOf", desc := "(I)I" } : Jvm.MethodName)) ∈ lw_tbl := tk_3 (j := 51) rfl
theorem tw_772 : (Jvm.Cond.selects "NightDoors$Dream" ({ cls := "NightDoors$Dream", name := "dreadOf", desc := "(I)I" } : Jvm.MethodName) ({ cls := "NightDoors$Dream", name := "dreadOf", desc := "(I)I" } : Jvm.MethodName)) ∈ lw_tbl := tk_3 (j := 52) rfl
theorem tw_773 : (Jvm.Cond.code ({ cls := "NightDoors$Dream", name := "dreadOf", desc := "(I)I" } : Jvm.MethodName) prog_4_method_16_code (2 : Nat) (Option.some Jvm.ClassFile.FieldType.int)) ∈ lw_tbl := tk_3 (j := 53) rfl
theorem tw_774 : (Jvm.Cond.methodLink "NightDoorsLaw" (47 : Nat) ({ cls := "NightDoors", name := "weigh", desc := "(III)I" } : Jvm.MethodName)) ∈ lw_tbl := tk_3 (j := 54) rfl
theorem tw_775 : (Jvm.Cond.instanceMethod ({ cls := "NightDoors", name := "weigh", desc := "(III)I" } : Jvm.MethodName)) ∈ lw_tbl := tk_3 (j := 55) rfl
theorem tw_776 : (Jvm.Cond.selects "NightDoors" ({ cls := "NightDoors", name := "weigh", desc := "(III)I" } : Jvm.MethodName) ({ cls := "NightDoors", name := "weigh", desc := "(III)I" } : Jvm.MethodName)) ∈ lw_tbl := tk_3 (j := 56) rfl
theorem tw_777 : (Jvm.Cond.code ({ cls := "NightDoors", name := "weigh", desc := "(III)I" } : Jvm.MethodName) prog_1_method_9_code (5 : Nat) (Option.some Jvm.ClassFile.FieldType.int)) ∈ lw_tbl := tk_3 (j := 57) rfl
theorem tw_778 : (Jvm.Cond.methodLink "NightDoors" (199 : Nat) ({ cls := "NightDoors", name := "isDread", desc := "(I)Z" } : Jvm.MethodName)) ∈ lw_tbl := tk_3 (j := 58) rfl
theorem tw_780 : (Jvm.Cond.instanceMethod ({ cls := "NightDoors", name := "isDread", desc := "(I)Z" } : Jvm.MethodName)) ∈ lw_tbl := tk_3 (j := 60) rfl
theorem tw_781 : (Jvm.Cond.code ({ cls := "NightDoors", name := "isDread", desc := "(I)Z" } : Jvm.MethodName) prog_1_method_38_code (2 : Nat) (Option.some Jvm.ClassFile.FieldType.boolean)) ∈ lw_tbl := tk_3 (j := 61) rfl
theorem tw_782 : (Jvm.Cond.methodLink "NightDoors" (202 : Nat) ({ cls := "NightDoors$Sleeper", name := "at", desc := "(I)I" } : Jvm.MethodName)) ∈ lw_tbl := tk_3 (j := 62) rfl
theorem tw_783 : (Jvm.Cond.methodLink "NightDoors" (205 : Nat) ({ cls := "NightDoors$Dream", name := "counts", desc := "(LNightDoors$Sleeper;I)I" } : Jvm.MethodName)) ∈ lw_tbl := tk_3 (j := 63) rfl
theorem tw_784 : (Jvm.Cond.methodLink "NightDoors" (208 : Nat) ({ cls := "NightDoors$Dream", name := "becomes", desc := "(LNightDoors$Sleeper;II)I" } : Jvm.MethodName)) ∈ lw_tbl := tk_3 (j := 64) rfl
theorem tw_785 : (Jvm.Cond.instanceMethod ({ cls := "NightDoors$Dream", name := "becomes", desc := "(LNightDoors$Sleeper;II)I" } : Jvm.MethodName)) ∈ lw_tbl := tk_3 (j := 65) rfl
theorem tw_786 : (Jvm.Cond.selects "NightDoors$Dream" ({ cls := "NightDoors$Dream", name := "becomes", desc := "(LNightDoors$Sleeper;II)I" } : Jvm.MethodName) ({ cls := "NightDoors$Dream", name := "becomes", desc := "(LNightDoors$Sleeper;II)I" } : Jvm.MethodName)) ∈ lw_tbl := tk_3 (j := 66) rfl
theorem tw_787 : (Jvm.Cond.code ({ cls := "NightDoors$Dream", name := "becomes", desc := "(LNightDoors$Sleeper;II)I" } : Jvm.MethodName) prog_4_method_21_code (4 : Nat) (Option.some Jvm.ClassFile.FieldType.int)) ∈ lw_tbl := tk_3 (j := 67) rfl
theorem tw_788 : (Jvm.Cond.methodLink "NightDoors$Dream" (111 : Nat) ({ cls := "NightDoors$Dream", name := "hasSum", desc := "(I)Z" } : Jvm.MethodName)) ∈ lw_tbl := tk_3 (j := 68) rfl
theorem tw_789 : (Jvm.Cond.methodLink "NightDoors$Dream" (117 : Nat) ({ cls := "NightDoors$Reckoner", name := "see", desc := "([II)V" } : Jvm.MethodName)) ∈ lw_tbl := tk_3 (j := 69) rfl
theorem tw_790 : (Jvm.Cond.instanceMethod ({ cls := "NightDoors$Reckoner", name := "see", desc := "([II)V" } : Jvm.MethodName)) ∈ lw_tbl := tk_3 (j := 70) rfl
theorem tw_791 : (Jvm.Cond.selects "NightDoors$Reckoner" ({ cls := "NightDoors$Reckoner", name := "see", desc := "([II)V" } : Jvm.MethodName) ({ cls := "NightDoors$Reckoner", name := "see", desc := "([II)V" } : Jvm.MethodName)) ∈ lw_tbl := tk_3 (j := 71) rfl
theorem tw_792 : (Jvm.Cond.code ({ cls := "NightDoors$Reckoner", name := "see", desc := "([II)V" } : Jvm.MethodName) prog_8_method_4_code (8 : Nat) (Option.none : Option Jvm.ClassFile.FieldType)) ∈ lw_tbl := tk_3 (j := 72) rfl
theorem tw_793 : (Jvm.Cond.methodLink "NightDoors$Reckoner" (31 : Nat) ({ cls := "java/lang/Math", name := "max", desc := "(II)I" } : Jvm.MethodName)) ∈ lw_tbl := tk_3 (j := 73) rfl
theorem tw_794 : (Jvm.Cond.methodLink "NightDoors$Reckoner" (37 : Nat) ({ cls := "NightDoors$Reckoner", name := "know", desc := "(II)V" } : Jvm.MethodName)) ∈ lw_tbl := tk_3 (j := 74) rfl
theorem tw_795 : (Jvm.Cond.instanceMethod ({ cls := "NightDoors$Reckoner", name := "know", desc := "(II)V" } : Jvm.MethodName)) ∈ lw_tbl := tk_3 (j := 75) rfl
theorem tw_796 : (Jvm.Cond.selects "NightDoors$Reckoner" ({ cls := "NightDoors$Reckoner", name := "know", desc := "(II)V" } : Jvm.MethodName) ({ cls := "NightDoors$Reckoner", name := "know", desc := "(II)V" } : Jvm.MethodName)) ∈ lw_tbl := tk_3 (j := 76) rfl
theorem tw_797 : (Jvm.Cond.code ({ cls := "NightDoors$Reckoner", name := "know", desc := "(II)V" } : Jvm.MethodName) prog_8_method_5_code (3 : Nat) (Option.none : Option Jvm.ClassFile.FieldType)) ∈ lw_tbl := tk_3 (j := 77) rfl
theorem tw_798 : (Jvm.Cond.methodLink "NightDoors$Dream" (121 : Nat) ({ cls := "NightDoors$Reckoner", name := "know", desc := "(II)V" } : Jvm.MethodName)) ∈ lw_tbl := tk_3 (j := 78) rfl
theorem tw_799 : (Jvm.Cond.methodLink "NightDoors$Dream" (124 : Nat) ({ cls := "NightDoors$Dream", name := "braveryOf", desc := "(I)I" } : Jvm.MethodName)) ∈ lw_tbl := tk_3 (j := 79) rfl
theorem tw_800 : (Jvm.Cond.methodLink "NightDoors$Dream" (127 : Nat) ({ cls := "NightDoors$Reckoner", name := "value", desc := "(II)I" } : Jvm.MethodName)) ∈ lw_tbl := tk_3 (j := 80) rfl
theorem tw_801 : (Jvm.Cond.instanceMethod ({ cls := "NightDoors$Reckoner", name := "value", desc := "(II)I" } : Jvm.MethodName)) ∈ lw_tbl := tk_3 (j := 81) rfl
theorem tw_802 : (Jvm.Cond.selects "NightDoors$Reckoner" ({ cls := "NightDoors$Reckoner", name := "value", desc := "(II)I" } : Jvm.MethodName) ({ cls := "NightDoors$Reckoner", name := "value", desc := "(II)I" } : Jvm.MethodName)) ∈ lw_tbl := tk_3 (j := 82) rfl
theorem tw_803 : (Jvm.Cond.code ({ cls := "NightDoors$Reckoner", name := "value", desc := "(II)I" } : Jvm.MethodName) prog_8_method_6_code (6 : Nat) (Option.some Jvm.ClassFile.FieldType.int)) ∈ lw_tbl := tk_3 (j := 83) rfl
theorem tw_804 : (Jvm.Cond.methodLink "NightDoors$Reckoner" (41 : Nat) ({ cls := "NightDoors$Reckoner", name := "push", desc := "(I)V" } : Jvm.MethodName)) ∈ lw_tbl := tk_3 (j := 84) rfl
theorem tw_806 : (Jvm.Cond.instanceMethod ({ cls := "NightDoors$Reckoner", name := "push", desc := "(I)V" } : Jvm.MethodName)) ∈ lw_tbl := tk_3 (j := 86) rfl
theorem tw_807 : (Jvm.Cond.code ({ cls := "NightDoors$Reckoner", name := "push", desc := "(I)V" } : Jvm.MethodName) prog_8_method_7_code (2 : Nat) (Option.none : Option Jvm.ClassFile.FieldType)) ∈ lw_tbl := tk_3 (j := 87) rfl
theorem tw_808 : (Jvm.Cond.methodLink "NightDoors$Reckoner" (45 : Nat) ({ cls := "NightDoors$Reckoner", name := "fact", desc := "(I)I" } : Jvm.MethodName)) ∈ lw_tbl := tk_3 (j := 88) rfl
theorem tw_810 : (Jvm.Cond.instanceMethod ({ cls := "NightDoors$Reckoner", name := "fact", desc := "(I)I" } : Jvm.MethodName)) ∈ lw_tbl := tk_3 (j := 90) rfl
theorem tw_811 : (Jvm.Cond.code ({ cls := "NightDoors$Reckoner", name := "fact", desc := "(I)I" } : Jvm.MethodName) prog_8_method_9_code (2 : Nat) (Option.some Jvm.ClassFile.FieldType.int)) ∈ lw_tbl := tk_3 (j := 91) rfl
theorem tw_812 : (Jvm.Cond.methodLink "NightDoors$Reckoner" (49 : Nat) ({ cls := "NightDoors$Reckoner", name := "pop", desc := "()I" } : Jvm.MethodName)) ∈ lw_tbl := tk_3 (j := 92) rfl
theorem tw_814 : (Jvm.Cond.instanceMethod ({ cls := "NightDoors$Reckoner", name := "pop", desc := "()I" } : Jvm.MethodName)) ∈ lw_tbl := tk_3 (j := 94) rfl
theorem tw_815 : (Jvm.Cond.code ({ cls := "NightDoors$Reckoner", name := "pop", desc := "()I" } : Jvm.MethodName) prog_8_method_8_code (1 : Nat) (Option.some Jvm.ClassFile.FieldType.int)) ∈ lw_tbl := tk_3 (j := 95) rfl
theorem tw_816 : (Jvm.Cond.methodLink "NightDoors$Reckoner" (53 : Nat) ({ cls := "NightDoors$Reckoner", name := "weightOf", desc := "(I)I" } : Jvm.MethodName)) ∈ lw_tbl := tk_3 (j := 96) rfl
theorem tw_818 : (Jvm.Cond.instanceMethod ({ cls := "NightDoors$Reckoner", name := "weightOf", desc := "(I)I" } : Jvm.MethodName)) ∈ lw_tbl := tk_3 (j := 98) rfl
theorem tw_819 : (Jvm.Cond.code ({ cls := "NightDoors$Reckoner", name := "weightOf", desc := "(I)I" } : Jvm.MethodName) prog_8_method_10_code (2 : Nat) (Option.some Jvm.ClassFile.FieldType.int)) ∈ lw_tbl := tk_3 (j := 99) rfl
theorem tw_820 : (Jvm.Cond.methodLink "NightDoors$Reckoner" (56 : Nat) ({ cls := "NightDoors$Reckoner", name := "join", desc := "(III)I" } : Jvm.MethodName)) ∈ lw_tbl := tk_3 (j := 100) rfl
theorem tw_821 : (Jvm.Cond.static ({ cls := "NightDoors$Reckoner", name := "join", desc := "(III)I" } : Jvm.MethodName)) ∈ lw_tbl := tk_3 (j := 101) rfl
theorem tw_822 : (Jvm.Cond.code ({ cls := "NightDoors$Reckoner", name := "join", desc := "(III)I" } : Jvm.MethodName) prog_8_method_11_code (3 : Nat) (Option.some Jvm.ClassFile.FieldType.int)) ∈ lw_tbl := tk_3 (j := 102) rfl
theorem tw_823 : (Jvm.Cond.constant "NightDoors$Reckoner" (60 : Nat) (-1000000 : Int32)) ∈ lw_tbl := tk_3 (j := 103) rfl
theorem tw_824 : (Jvm.Cond.constant "NightDoors$Reckoner" (61 : Nat) (1000000 : Int32)) ∈ lw_tbl := tk_3 (j := 104) rfl
theorem tw_825 : (Jvm.Cond.methodLink "NightDoors$Reckoner" (62 : Nat) ({ cls := "java/lang/Math", name := "min", desc := "(II)I" } : Jvm.MethodName)) ∈ lw_tbl := tk_3 (j := 105) rfl
theorem tw_826 : (Jvm.Cond.static ({ cls := "java/lang/Math", name := "min", desc := "(II)I" } : Jvm.MethodName)) ∈ lw_tbl := tk_3 (j := 106) rfl
theorem tw_827 : (Jvm.Cond.code ({ cls := "java/lang/Math", name := "min", desc := "(II)I" } : Jvm.MethodName) prog_16_method_69_code (2 : Nat) (Option.some Jvm.ClassFile.FieldType.int)) ∈ lw_tbl := tk_3 (j := 107) rfl
theorem tw_828 : (Jvm.Cond.constantLong "NightDoors$Reckoner" (65 : Nat) (-1000000 : Int64)) ∈ lw_tbl := tk_3 (j := 108) rfl
theorem tw_829 : (Jvm.Cond.constantLong "NightDoors$Reckoner" (67 : Nat) (1000000 : Int64)) ∈ lw_tbl := tk_3 (j := 109) rfl
theorem tw_830 : (Jvm.Cond.methodLink "NightDoors$Reckoner" (69 : Nat) ({ cls := "java/lang/Math", name := "min", desc := "(JJ)J" } : Jvm.MethodName)) ∈ lw_tbl := tk_3 (j := 110) rfl
theorem tw_831 : (Jvm.Cond.static ({ cls := "java/lang/Math", name := "min", desc := "(JJ)J" } : Jvm.MethodName)) ∈ lw_tbl := tk_3 (j := 111) rfl
theorem tw_832 : (Jvm.Cond.code ({ cls := "java/lang/Math", name := "min", desc := "(JJ)J" } : Jvm.MethodName) prog_16_method_70_code (4 : Nat) (Option.some Jvm.ClassFile.FieldType.long)) ∈ lw_tbl := tk_3 (j := 112) rfl
theorem tw_833 : (Jvm.Cond.methodLink "NightDoors$Reckoner" (72 : Nat) ({ cls := "java/lang/Math", name := "max", desc := "(JJ)J" } : Jvm.MethodName)) ∈ lw_tbl := tk_3 (j := 113) rfl
theorem tw_834 : (Jvm.Cond.static ({ cls := "java/lang/Math", name := "max", desc := "(JJ)J" } : Jvm.MethodName)) ∈ lw_tbl := tk_3 (j := 114) rfl
theorem tw_835 : (Jvm.Cond.code ({ cls := "java/lang/Math", name := "max", desc := "(JJ)J" } : Jvm.MethodName) prog_16_method_66_code (4 : Nat) (Option.some Jvm.ClassFile.FieldType.long)) ∈ lw_tbl := tk_3 (j := 115) rfl
theorem tw_836 : (Jvm.Cond.methodLink "NightDoors$Reckoner" (74 : Nat) ({ cls := "java/lang/Math", name := "floorDiv", desc := "(II)I" } : Jvm.MethodName)) ∈ lw_tbl := tk_3 (j := 116) rfl
theorem tw_837 : (Jvm.Cond.static ({ cls := "java/lang/Math", name := "floorDiv", desc := "(II)I" } : Jvm.MethodName)) ∈ lw_tbl := tk_3 (j := 117) rfl
theorem tw_838 : (Jvm.Cond.code ({ cls := "java/lang/Math", name := "floorDiv", desc := "(II)I" } : Jvm.MethodName) prog_16_method_47_code (3 : Nat) (Option.some Jvm.ClassFile.FieldType.int)) ∈ lw_tbl := tk_3 (j := 118) rfl
theorem tw_839 : (Jvm.Cond.methodLink "NightDoors$Dream" (130 : Nat) ({ cls := "java/lang/Math", name := "min", desc := "(II)I" } : Jvm.MethodName)) ∈ lw_tbl := tk_3 (j := 119) rfl
theorem tw_840 : (Jvm.Cond.methodLink "NightDoors$Dream" (135 : Nat) ({ cls := "java/lang/Math", name := "max", desc := "(II)I" } : Jvm.MethodName)) ∈ lw_tbl := tk_3 (j := 120) rfl
theorem tw_841 : (Jvm.Cond.methodLink "NightDoorsLaw" (51 : Nat) ({ cls := "NightDoors", name := "guide", desc := "(I)I" } : Jvm.MethodName)) ∈ lw_tbl := tk_3 (j := 121) rfl
theorem tw_842 : (Jvm.Cond.instanceMethod ({ cls := "NightDoors", name := "guide", desc := "(I)I" } : Jvm.MethodName)) ∈ lw_tbl := tk_3 (j := 122) rfl
theorem tw_843 : (Jvm.Cond.selects "NightDoors" ({ cls := "NightDoors", name := "guide", desc := "(I)I" } : Jvm.MethodName) ({ cls := "NightDoors", name := "guide", desc := "(I)I" } : Jvm.MethodName)) ∈ lw_tbl := tk_3 (j := 123) rfl
theorem tw_844 : (Jvm.Cond.code ({ cls := "NightDoors", name := "guide", desc := "(I)I" } : Jvm.MethodName) prog_1_method_10_code (2 : Nat) (Option.some Jvm.ClassFile.FieldType.int)) ∈ lw_tbl := tk_3 (j := 124) rfl
theorem tw_845 : (Jvm.Cond.methodLink "NightDoors" (212 : Nat) ({ cls := "NightDoors$Dream", name := "dreadOf", desc := "(I)I" } : Jvm.MethodName)) ∈ lw_tbl := tk_3 (j := 125) rfl
theorem tw_846 : (Jvm.Cond.methodLink "NightDoorsLaw" (55 : Nat) ({ cls := "NightDoors", name := "room", desc := "(II)I" } : Jvm.MethodName)) ∈ lw_tbl := tk_3 (j := 126) rfl
theorem tw_847 : (Jvm.Cond.instanceMethod ({ cls := "NightDoors", name := "room", desc := "(II)I" } : Jvm.MethodName)) ∈ lw_tbl := tk_3 (j := 127) rfl
theorem tw_848 : (Jvm.Cond.selects "NightDoors" ({ cls := "NightDoors", name := "room", desc := "(II)I" } : Jvm.MethodName) ({ cls := "NightDoors", name := "room", desc := "(II)I" } : Jvm.MethodName)) ∈ lw_tbl := tk_3 (j := 128) rfl
theorem tw_849 : (Jvm.Cond.code ({ cls := "NightDoors", name := "room", desc := "(II)I" } : Jvm.MethodName) prog_1_method_11_code (3 : Nat) (Option.some Jvm.ClassFile.FieldType.int)) ∈ lw_tbl := tk_3 (j := 129) rfl
theorem tw_850 : (Jvm.Cond.methodLink "NightDoors" (215 : Nat) ({ cls := "NightDoors$Ahead", name := "go", desc := "(LNightDoors$Dream;LNightDoors$Sleeper;)V" } : Jvm.MethodName)) ∈ lw_tbl := tk_3 (j := 130) rfl
theorem tw_851 : (Jvm.Cond.instanceMethod ({ cls := "NightDoors$Ahead", name := "go", desc := "(LNightDoors$Dream;LNightDoors$Sleeper;)V" } : Jvm.MethodName)) ∈ lw_tbl := tk_3 (j := 131) rfl
theorem tw_852 : (Jvm.Cond.selects "NightDoors$Ahead" ({ cls := "NightDoors$Ahead", name := "go", desc := "(LNightDoors$Dream;LNightDoors$Sleeper;)V" } : Jvm.MethodName) ({ cls := "NightDoors$Ahead", name := "go", desc := "(LNightDoors$Dream;LNightDoors$Sleeper;)V" } : Jvm.MethodName)) ∈ lw_tbl := tk_3 (j := 132) rfl
theorem tw_853 : (Jvm.Cond.code ({ cls := "NightDoors$Ahead", name := "go", desc := "(LNightDoors$Dream;LNightDoors$Sleeper;)V" } : Jvm.MethodName) prog_3_method_2_code (4 : Nat) (Option.none : Option Jvm.ClassFile.FieldType)) ∈ lw_tbl := tk_3 (j := 133) rfl
theorem tw_854 : (Jvm.Cond.methodLink "NightDoors$Ahead" (36 : Nat) ({ cls := "NightDoors$Sleeper", name := "copy", desc := "(LNightDoors$Sleeper;)V" } : Jvm.MethodName)) ∈ lw_tbl := tk_3 (j := 134) rfl
theorem tw_855 : (Jvm.Cond.instanceMethod ({ cls := "NightDoors$Sleeper", name := "copy", desc := "(LNightDoors$Sleeper;)V" } : Jvm.MethodName)) ∈ lw_tbl := tk_3 (j := 135) rfl
theorem tw_856 : (Jvm.Cond.selects "NightDoors$Sleeper" ({ cls := "NightDoors$Sleeper", name := "copy", desc := "(LNightDoors$Sleeper;)V" } : Jvm.MethodName) ({ cls := "NightDoors$Sleeper", name := "copy", desc := "(LNightDoors$Sleeper;)V" } : Jvm.MethodName)) ∈ lw_tbl := tk_3 (j := 136) rfl
theorem tw_857 : (Jvm.Cond.code ({ cls := "NightDoors$Sleeper", name := "copy", desc := "(LNightDoors$Sleeper;)V" } : Jvm.MethodName) prog_9_method_2_code (3 : Nat) (Option.none : Option Jvm.ClassFile.FieldType)) ∈ lw_tbl := tk_3 (j := 137) rfl
theorem tw_858 : (Jvm.Cond.methodLink "NightDoors$Ahead" (40 : Nat) ({ cls := "NightDoors$Sleeper", name := "writeTo", desc := "([II)V" } : Jvm.MethodName)) ∈ lw_tbl := tk_3 (j := 138) rfl
theorem tw_859 : (Jvm.Cond.instanceMethod ({ cls := "NightDoors$Sleeper", name := "writeTo", desc := "([II)V" } : Jvm.MethodName)) ∈ lw_tbl := tk_3 (j := 139) rfl
theorem tw_860 : (Jvm.Cond.selects "NightDoors$Sleeper" ({ cls := "NightDoors$Sleeper", name := "writeTo", desc := "([II)V" } : Jvm.MethodName) ({ cls := "NightDoors$Sleeper", name := "writeTo", desc := "([II)V" } : Jvm.MethodName)) ∈ lw_tbl := tk_3 (j := 140) rfl
theorem tw_861 : (Jvm.Cond.code ({ cls := "NightDoors$Sleeper", name := "writeTo", desc := "([II)V" } : Jvm.MethodName) prog_9_method_10_code (4 : Nat) (Option.none : Option Jvm.ClassFile.FieldType)) ∈ lw_tbl := tk_3 (j := 141) rfl
theorem tw_862 : (Jvm.Cond.methodLink "NightDoors$Ahead" (44 : Nat) ({ cls := "NightDoors$Dream", name := "isHome", desc := "(LNightDoors$Sleeper;)Z" } : Jvm.MethodName)) ∈ lw_tbl := tk_3 (j := 142) rfl
theorem tw_863 : (Jvm.Cond.methodLink "NightDoors$Ahead" (49 : Nat) ({ cls := "NightDoors$Dream", name := "enter", desc := "(LNightDoors$Sleeper;Z)I" } : Jvm.MethodName)) ∈ lw_tbl := tk_3 (j := 143) rfl
theorem tw_864 : (Jvm.Cond.instanceMethod ({ cls := "NightDoors$Dream", name := "enter", desc := "(LNightDoors$Sleeper;Z)I" } : Jvm.MethodName)) ∈ lw_tbl := tk_3 (j := 144) rfl
theorem tw_865 : (Jvm.Cond.selects "NightDoors$Dream" ({ cls := "NightDoors$Dream", name := "enter", desc := "(LNightDoors$Sleeper;Z)I" } : Jvm.MethodName) ({ cls := "NightDoors$Dream", name := "enter", desc := "(LNightDoors$Sleeper;Z)I" } : Jvm.MethodName)) ∈ lw_tbl := tk_3 (j := 145) rfl
theorem tw_866 : (Jvm.Cond.code ({ cls := "NightDoors$Dream", name := "enter", desc := "(LNightDoors$Sleeper;Z)I" } : Jvm.MethodName) prog_4_method_23_code (6 : Nat) (Option.some Jvm.ClassFile.FieldType.int)) ∈ lw_tbl := tk_3 (j := 146) rfl
theorem tw_867 : (Jvm.Cond.methodLink "NightDoors$Dream" (142 : Nat) ({ cls := "NightDoors$Dream", name := "canEnter", desc := "(LNightDoors$Sleeper;Z)Z" } : Jvm.MethodName)) ∈ lw_tbl := tk_3 (j := 147) rfl
theorem tw_868 : (Jvm.Cond.instanceMethod ({ cls := "NightDoors$Dream", name := "canEnter", desc := "(LNightDoors$Sleeper;Z)Z" } : Jvm.MethodName)) ∈ lw_tbl := tk_3 (j := 148) rfl
theorem tw_869 : (Jvm.Cond.selects "NightDoors$Dream" ({ cls := "NightDoors$Dream", name := "canEnter", desc := "(LNightDoors$Sleeper;Z)Z" } : Jvm.MethodName) ({ cls := "NightDoors$Dream", name := "canEnter", desc := "(LNightDoors$Sleeper;Z)Z" } : Jvm.MethodName)) ∈ lw_tbl := tk_3 (j := 149) rfl
theorem tw_870 : (Jvm.Cond.code ({ cls := "NightDoors$Dream", name := "canEnter", desc := "(LNightDoors$Sleeper;Z)Z" } : Jvm.MethodName) prog_4_method_22_code (3 : Nat) (Option.some Jvm.ClassFile.FieldType.boolean)) ∈ lw_tbl := tk_3 (j := 150) rfl
theorem tw_871 : (Jvm.Cond.methodLink "NightDoors$Dream" (138 : Nat) ({ cls := "NightDoors$Dream", name := "isHome", desc := "(LNightDoors$Sleeper;)Z" } : Jvm.MethodName)) ∈ lw_tbl := tk_3 (j := 151) rfl
theorem tw_872 : (Jvm.Cond.methodLink "NightDoors$Dream" (146 : Nat) ({ cls := "NightDoors$Dream", name := "heaviest", desc := "(LNightDoors$Sleeper;I)I" } : Jvm.MethodName)) ∈ lw_tbl := tk_3 (j := 152) rfl
theorem tw_873 : (Jvm.Cond.methodLink "NightDoors$Dream" (149 : Nat) ({ cls := "NightDoors$Dream", name := "becomes", desc := "(LNightDoors$Sleeper;II)I" } : Jvm.MethodName)) ∈ lw_tbl := tk_3 (j := 153) rfl
theorem tw_874 : (Jvm.Cond.methodLink "NightDoors" (219 : Nat) ({ cls := "NightDoors$Ahead", name := "dreadIn", desc := "(I)I" } : Jvm.MethodName)) ∈ lw_tbl := tk_3 (j := 154) rfl
theorem tw_875 : (Jvm.Cond.instanceMethod ({ cls := "NightDoors$Ahead", name := "dreadIn", desc := "(I)I" } : Jvm.MethodName)) ∈ lw_tbl := tk_3 (j := 155) rfl
theorem tw_876 : (Jvm.Cond.selects "NightDoors$Ahead" ({ cls := "NightDoors$Ahead", name := "dreadIn", desc := "(I)I" } : Jvm.MethodName) ({ cls := "NightDoors$Ahead", name := "dreadIn", desc := "(I)I" } : Jvm.MethodName)) ∈ lw_tbl := tk_3 (j := 156) rfl
theorem tw_877 : (Jvm.Cond.code ({ cls := "NightDoors$Ahead", name := "dreadIn", desc := "(I)I" } : Jvm.MethodName) prog_3_method_3_code (2 : Nat) (Option.some Jvm.ClassFile.FieldType.int)) ∈ lw_tbl := tk_3 (j := 157) rfl
theorem tw_878 : (Jvm.Cond.methodLink "NightDoorsLaw" (59 : Nat) ({ cls := "NightDoors", name := "later", desc := "(III)I" } : Jvm.MethodName)) ∈ lw_tbl := tk_3 (j := 158) rfl
theorem tw_879 : (Jvm.Cond.instanceMethod ({ cls := "NightDoors", name := "later", desc := "(III)I" } : Jvm.MethodName)) ∈ lw_tbl := tk_3 (j := 159) rfl
theorem tw_880 : (Jvm.Cond.selects "NightDoors" ({ cls := "NightDoors", name := "later", desc := "(III)I" } : Jvm.MethodName) ({ cls := "NightDoors", name := "later", desc := "(III)I" } : Jvm.MethodName)) ∈ lw_tbl := tk_3 (j := 160) rfl
theorem tw_881 : (Jvm.Cond.code ({ cls := "NightDoors", name := "later", desc := "(III)I" } : Jvm.MethodName) prog_1_method_12_code (4 : Nat) (Option.some Jvm.ClassFile.FieldType.int)) ∈ lw_tbl := tk_3 (j := 161) rfl
theorem tw_882 : (Jvm.Cond.methodLink "NightDoors" (223 : Nat) ({ cls := "java/lang/Math", name := "min", desc := "(II)I" } : Jvm.MethodName)) ∈ lw_tbl := tk_3 (j := 162) rfl
theorem tw_883 : (Jvm.Cond.methodLink "NightDoors" (228 : Nat) ({ cls := "NightDoors$Ahead", name := "weightAt", desc := "(II)I" } : Jvm.MethodName)) ∈ lw_tbl := tk_3 (j := 163) rfl
theorem tw_884 : (Jvm.Cond.instanceMethod ({ cls := "NightDoors$Ahead", name := "weightAt", desc := "(II)I" } : Jvm.MethodName)) ∈ lw_tbl := tk_3 (j := 164) rfl
theorem tw_885 : (Jvm.Cond.selects "NightDoors$Ahead" ({ cls := "NightDoors$Ahead", name := "weightAt", desc := "(II)I" } : Jvm.MethodName) ({ cls := "NightDoors$Ahead", name := "weightAt", desc := "(II)I" } : Jvm.MethodName)) ∈ lw_tbl := tk_3 (j := 165) rfl
theorem tw_886 : (Jvm.Cond.code ({ cls := "NightDoors$Ahead", name := "weightAt", desc := "(II)I" } : Jvm.MethodName) prog_3_method_4_code (4 : Nat) (Option.some Jvm.ClassFile.FieldType.int)) ∈ lw_tbl := tk_3 (j := 166) rfl
theorem tw_887 : (Jvm.Cond.methodLink "NightDoorsLaw" (63 : Nat) ({ cls := "NightDoors", name := "till", desc := "(I)I" } : Jvm.MethodName)) ∈ lw_tbl := tk_3 (j := 167) rfl
theorem tw_888 : (Jvm.Cond.instanceMethod ({ cls := "NightDoors", name := "till", desc := "(I)I" } : Jvm.MethodName)) ∈ lw_tbl := tk_3 (j := 168) rfl
theorem tw_889 : (Jvm.Cond.selects "NightDoors" ({ cls := "NightDoors", name := "till", desc := "(I)I" } : Jvm.MethodName) ({ cls := "NightDoors", name := "till", desc := "(I)I" } : Jvm.MethodName)) ∈ lw_tbl := tk_3 (j := 169) rfl
theorem tw_890 : (Jvm.Cond.code ({ cls := "NightDoors", name := "till", desc := "(I)I" } : Jvm.MethodName) prog_1_method_13_code (2 : Nat) (Option.some Jvm.ClassFile.FieldType.int)) ∈ lw_tbl := tk_3 (j := 170) rfl
theorem tw_891 : (Jvm.Cond.methodLink "NightDoorsLaw" (67 : Nat) ({ cls := "NightDoors", name := "again", desc := "(II)I" } : Jvm.MethodName)) ∈ lw_tbl := tk_3 (j := 171) rfl
theorem tw_892 : (Jvm.Cond.instanceMethod ({ cls := "NightDoors", name := "again", desc := "(II)I" } : Jvm.MethodName)) ∈ lw_tbl := tk_3 (j := 172) rfl
theorem tw_893 : (Jvm.Cond.selects "NightDoors" ({ cls := "NightDoors", name := "again", desc := "(II)I" } : Jvm.MethodName) ({ cls := "NightDoors", name := "again", desc := "(II)I" } : Jvm.MethodName)) ∈ lw_tbl := tk_3 (j := 173) rfl
theorem tw_894 : (Jvm.Cond.code ({ cls := "NightDoors", name := "again", desc := "(II)I" } : Jvm.MethodName) prog_1_method_14_code (5 : Nat) (Option.some Jvm.ClassFile.FieldType.int)) ∈ lw_tbl := tk_3 (j := 174) rfl
theorem tw_895 : (Jvm.Cond.methodLink "NightDoors" (234 : Nat) ({ cls := "NightDoors$Ahead", name := "firstLike", desc := "(I)I" } : Jvm.MethodName)) ∈ lw_tbl := tk_3 (j := 175) rfl
theorem tw_896 : (Jvm.Cond.instanceMethod ({ cls := "NightDoors$Ahead", name := "firstLike", desc := "(I)I" } : Jvm.MethodName)) ∈ lw_tbl := tk_3 (j := 176) rfl
theorem tw_897 : (Jvm.Cond.selects "NightDoors$Ahead" ({ cls := "NightDoors$Ahead", name := "firstLike", desc := "(I)I" } : Jvm.MethodName) ({ cls := "NightDoors$Ahead", name := "firstLike", desc := "(I)I" } : Jvm.MethodName)) ∈ lw_tbl := tk_3 (j := 177) rfl
theorem tw_898 : (Jvm.Cond.code ({ cls := "NightDoors$Ahead", name := "firstLike", desc := "(I)I" } : Jvm.MethodName) prog_3_method_5_code (5 : Nat) (Option.some Jvm.ClassFile.FieldType.int)) ∈ lw_tbl := tk_3 (j := 178) rfl
theorem tw_899 : (Jvm.Cond.methodLink "NightDoors$Ahead" (53 : Nat) ({ cls := "NightDoors$Ahead", name := "weightAt", desc := "(II)I" } : Jvm.MethodName)) ∈ lw_tbl := tk_3 (j := 179) rfl
theorem tw_900 : (Jvm.Cond.methodLink "NightDoorsLaw" (71 : Nat) ({ cls := "NightDoors", name := "soonest", desc := "(II)I" } : Jvm.MethodName)) ∈ lw_tbl := tk_3 (j := 180) rfl
theorem tw_901 : (Jvm.Cond.instanceMethod ({ cls := "NightDoors", name := "soonest", desc := "(II)I" } : Jvm.MethodName)) ∈ lw_tbl := tk_3 (j := 181) rfl
theorem tw_902 : (Jvm.Cond.selects "NightDoors" ({ cls := "NightDoors", name := "soonest", desc := "(II)I" } : Jvm.MethodName) ({ cls := "NightDoors", name := "soonest", desc := "(II)I" } : Jvm.MethodName)) ∈ lw_tbl := tk_3 (j := 182) rfl
theorem tw_903 : (Jvm.Cond.code ({ cls := "NightDoors", name := "soonest", desc := "(II)I" } : Jvm.MethodName) prog_1_method_15_code (4 : Nat) (Option.some Jvm.ClassFile.FieldType.int)) ∈ lw_tbl := tk_3 (j := 183) rfl
theorem tw_904 : (Jvm.Cond.methodLink "NightDoors" (237 : Nat) ({ cls := "NightDoors$Ways", name := "findSoonest", desc := "(LNightDoors$Dream;LNightDoors$Sleeper;I)I" } : Jvm.MethodName)) ∈ lw_tbl := tk_3 (j := 184) rfl
theorem tw_905 : (Jvm.Cond.instanceMethod ({ cls := "NightDoors$Ways", name := "findSoonest", desc := "(LNightDoors$Dream;LNightDoors$Sleeper;I)I" } : Jvm.MethodName)) ∈ lw_tbl := tk_3 (j := 185) rfl
theorem tw_906 : (Jvm.Cond.selects "NightDoors$Ways" ({ cls := "NightDoors$Ways", name := "findSoonest", desc := "(LNightDoors$Dream;LNightDoors$Sleeper;I)I" } : Jvm.MethodName) ({ cls := "NightDoors$Ways", name := "findSoonest", desc := "(LNightDoors$Dream;LNightDoors$Sleeper;I)I" } : Jvm.MethodName)) ∈ lw_tbl := tk_3 (j := 186) rfl
theorem tw_907 : (Jvm.Cond.code ({ cls := "NightDoors$Ways", name := "findSoonest", desc := "(LNightDoors$Dream;LNightDoors$Sleeper;I)I" } : Jvm.MethodName) prog_12_method_2_code (4 : Nat) (Option.some Jvm.ClassFile.FieldType.int)) ∈ lw_tbl := tk_3 (j := 187) rfl
theorem tw_908 : (Jvm.Cond.methodLink "NightDoors$Ways" (62 : Nat) ({ cls := "NightDoors$Sleeper", name := "copy", desc := "(LNightDoors$Sleeper;)V" } : Jvm.MethodName)) ∈ lw_tbl := tk_3 (j := 188) rfl
theorem tw_909 : (Jvm.Cond.methodLink "NightDoors$Ways" (66 : Nat) ({ cls := "NightDoors$Ways", name := "seek", desc := "(LNightDoors$Dream;II)V" } : Jvm.MethodName)) ∈ lw_tbl := tk_3 (j := 189) rfl
theorem tw_911 : (Jvm.Cond.instanceMethod ({ cls := "NightDoors$Ways", name := "seek", desc := "(LNightDoors$Dream;II)V" } : Jvm.MethodName)) ∈ lw_tbl := tk_3 (j := 191) rfl
theorem tw_912 : (Jvm.Cond.code ({ cls := "NightDoors$Ways", name := "seek", desc := "(LNightDoors$Dream;II)V" } : Jvm.MethodName) prog_12_method_6_code (4 : Nat) (Option.none : Option Jvm.ClassFile.FieldType)) ∈ lw_tbl := tk_3 (j := 192) rfl
theorem tw_913 : (Jvm.Cond.methodLink "NightDoors$Ways" (71 : Nat) ({ cls := "NightDoors$Ways", name := "isBetter", desc := "(II)Z" } : Jvm.MethodName)) ∈ lw_tbl := tk_3 (j := 193) rfl
theorem tw_915 : (Jvm.Cond.instanceMethod ({ cls := "NightDoors$Ways", name := "isBetter", desc := "(II)Z" } : Jvm.MethodName)) ∈ lw_tbl := tk_3 (j := 195) rfl
theorem tw_916 : (Jvm.Cond.code ({ cls := "NightDoors$Ways", name := "isBetter", desc := "(II)Z" } : Jvm.MethodName) prog_12_method_5_code (3 : Nat) (Option.some Jvm.ClassFile.FieldType.boolean)) ∈ lw_tbl := tk_3 (j := 196) rfl
theorem tw_917 : (Jvm.Cond.methodLink "NightDoors$Ways" (75 : Nat) ({ cls := "NightDoors$Dream", name := "isHome", desc := "(LNightDoors$Sleeper;)Z" } : Jvm.MethodName)) ∈ lw_tbl := tk_3 (j := 197) rfl
theorem tw_919 : (Jvm.Cond.static ({ cls := "java/lang/System", name := "arraycopy", desc := "(Ljava/lang/Object;ILjava/lang/Object;II)V" } : Jvm.MethodName)) ∈ lw_tbl := tk_3 (j := 199) rfl
theorem tw_920 : (Jvm.Cond.native ({ cls := "java/lang/System", name := "arraycopy", desc := "(Ljava/lang/Object;ILjava/lang/Object;II)V" } : Jvm.MethodName)) ∈ lw_tbl := tk_3 (j := 200) rfl
theorem tw_921 : (Jvm.Cond.methodLink "NightDoors$Ways" (87 : Nat) ({ cls := "NightDoors$Ways", name := "goOn", desc := "(LNightDoors$Dream;IIZ)V" } : Jvm.MethodName)) ∈ lw_tbl := tk_3 (j := 201) rfl
theorem tw_923 : (Jvm.Cond.instanceMethod ({ cls := "NightDoors$Ways", name := "goOn", desc := "(LNightDoors$Dream;IIZ)V" } : Jvm.MethodName)) ∈ lw_tbl := tk_3 (j := 203) rfl
theorem tw_924 : (Jvm.Cond.code ({ cls := "NightDoors$Ways", name := "goOn", desc := "(LNightDoors$Dream;IIZ)V" } : Jvm.MethodName) prog_12_method_7_code (6 : Nat) (Option.none : Option Jvm.ClassFile.FieldType)) ∈ lw_tbl := tk_3 (j := 204) rfl
theorem tw_925 : (Jvm.Cond.methodLink "NightDoors$Ways" (91 : Nat) ({ cls := "NightDoors$Dream", name := "enter", desc := "(LNightDoors$Sleeper;Z)I" } : Jvm.MethodName)) ∈ lw_tbl := tk_3 (j := 205) rfl
theorem tw_926 : (Jvm.Cond.methodLink "NightDoors$Ways" (95 : Nat) ({ cls := "NightDoors$Sleeper", name := "at", desc := "(I)I" } : Jvm.MethodName)) ∈ lw_tbl := tk_3 (j := 206) rfl
theorem tw_927 : (Jvm.Cond.methodLink "NightDoors" (241 : Nat) ({ cls := "NightDoors$Ways", name := "turn", desc := "(II)I" } : Jvm.MethodName)) ∈ lw_tbl := tk_3 (j := 207) rfl
theorem tw_928 : (Jvm.Cond.instanceMethod ({ cls := "NightDoors$Ways", name := "turn", desc := "(II)I" } : Jvm.MethodName)) ∈ lw_tbl := tk_3 (j := 208) rfl
theorem tw_929 : (Jvm.Cond.selects "NightDoors$Ways" ({ cls := "NightDoors$Ways", name := "turn", desc := "(II)I" } : Jvm.MethodName) ({ cls := "NightDoors$Ways", name := "turn", desc := "(II)I" } : Jvm.MethodName)) ∈ lw_tbl := tk_3 (j := 209) rfl
theorem tw_930 : (Jvm.Cond.code ({ cls := "NightDoors$Ways", name := "turn", desc := "(II)I" } : Jvm.MethodName) prog_12_method_4_code (3 : Nat) (Option.some Jvm.ClassFile.FieldType.int)) ∈ lw_tbl := tk_3 (j := 210) rfl
theorem tw_931 : (Jvm.Cond.methodLink "NightDoorsLaw" (75 : Nat) ({ cls := "NightDoors", name := "least", desc := "(II)I" } : Jvm.MethodName)) ∈ lw_tbl := tk_3 (j := 211) rfl
theorem tw_932 : (Jvm.Cond.instanceMethod ({ cls := "NightDoors", name := "least", desc := "(II)I" } : Jvm.MethodName)) ∈ lw_tbl := tk_3 (j := 212) rfl
theorem tw_933 : (Jvm.Cond.selects "NightDoors" ({ cls := "NightDoors", name := "least", desc := "(II)I" } : Jvm.MethodName) ({ cls := "NightDoors", name := "least", desc := "(II)I" } : Jvm.MethodName)) ∈ lw_tbl := tk_3 (j := 213) rfl
theorem tw_934 : (Jvm.Cond.code ({ cls := "NightDoors", name := "least", desc := "(II)I" } : Jvm.MethodName) prog_1_method_16_code (4 : Nat) (Option.some Jvm.ClassFile.FieldType.int)) ∈ lw_tbl := tk_3 (j := 214) rfl
theorem tw_935 : (Jvm.Cond.methodLink "NightDoors" (244 : Nat) ({ cls := "NightDoors$Ways", name := "findLeast", desc := "(LNightDoors$Dream;LNightDoors$Sleeper;)I" } : Jvm.MethodName)) ∈ lw_tbl := tk_3 (j := 215) rfl
theorem tw_936 : (Jvm.Cond.instanceMethod ({ cls := "NightDoors$Ways", name := "findLeast", desc := "(LNightDoors$Dream;LNightDoors$Sleeper;)I" } : Jvm.MethodName)) ∈ lw_tbl := tk_3 (j := 216) rfl
theorem tw_937 : (Jvm.Cond.selects "NightDoors$Ways" ({ cls := "NightDoors$Ways", name := "findLeast", desc := "(LNightDoors$Dream;LNightDoors$Sleeper;)I" } : Jvm.MethodName) ({ cls := "NightDoors$Ways", name := "findLeast", desc := "(LNightDoors$Dream;LNightDoors$Sleeper;)I" } : Jvm.MethodName)) ∈ lw_tbl := tk_3 (j := 217) rfl
theorem tw_938 : (Jvm.Cond.code ({ cls := "NightDoors$Ways", name := "findLeast", desc := "(LNightDoors$Dream;LNightDoors$Sleeper;)I" } : Jvm.MethodName) prog_12_method_3_code (3 : Nat) (Option.some Jvm.ClassFile.FieldType.int)) ∈ lw_tbl := tk_3 (j := 218) rfl
theorem tw_939 : (Jvm.Cond.constant "NightDoors$Ways" (70 : Nat) (1000000 : Int32)) ∈ lw_tbl := tk_3 (j := 219) rfl
theorem tw_940 : (Jvm.Cond.methodLink "NightDoorsLaw" (79 : Nat) ({ cls := "NightDoors", name := "along", desc := "(II)I" } : Jvm.MethodName)) ∈ lw_tbl := tk_3 (j := 220) rfl
theorem tw_941 : (Jvm.Cond.instanceMethod ({ cls := "NightDoors", name := "along", desc := "(II)I" } : Jvm.MethodName)) ∈ lw_tbl := tk_3 (j := 221) rfl
theorem tw_942 : (Jvm.Cond.selects "NightDoors" ({ cls := "NightDoors", name := "along", desc := "(II)I" } : Jvm.MethodName) ({ cls := "NightDoors", name := "along", desc := "(II)I" } : Jvm.MethodName)) ∈ lw_tbl := tk_3 (j := 222) rfl
theorem tw_943 : (Jvm.Cond.code ({ cls := "NightDoors", name := "along", desc := "(II)I" } : Jvm.MethodName) prog_1_method_17_code (4 : Nat) (Option.some Jvm.ClassFile.FieldType.int)) ∈ lw_tbl := tk_3 (j := 223) rfl
theorem tw_944 : (Jvm.Cond.methodLink "NightDoors" (251 : Nat) ({ cls := "NightDoors$Ways", name := "findGuide", desc := "(LNightDoors$Dream;LNightDoors$Sleeper;)I" } : Jvm.MethodName)) ∈ lw_tbl := tk_3 (j := 224) rfl
theorem tw_945 : (Jvm.Cond.instanceMethod ({ cls := "NightDoors$Ways", name := "findGuide", desc := "(LNightDoors$Dream;LNightDoors$Sleeper;)I" } : Jvm.MethodName)) ∈ lw_tbl := tk_3 (j := 225) rfl
theorem tw_946 : (Jvm.Cond.selects "NightDoors$Ways" ({ cls := "NightDoors$Ways", name := "findGuide", desc := "(LNightDoors$Dream;LNightDoors$Sleeper;)I" } : Jvm.MethodName) ({ cls := "NightDoors$Ways", name := "findGuide", desc := "(LNightDoors$Dream;LNightDoors$Sleeper;)I" } : Jvm.MethodName)) ∈ lw_tbl := tk_3 (j := 226) rfl
theorem tw_947 : (Jvm.Cond.code ({ cls := "NightDoors$Ways", name := "findGuide", desc := "(LNightDoors$Dream;LNightDoors$Sleeper;)I" } : Jvm.MethodName) prog_12_method_8_code (6 : Nat) (Option.some Jvm.ClassFile.FieldType.int)) ∈ lw_tbl := tk_3 (j := 227) rfl
theorem tw_948 : (Jvm.Cond.methodLink "NightDoors$Ways" (99 : Nat) ({ cls := "NightDoors$Dream", name := "count", desc := "(I)I" } : Jvm.MethodName)) ∈ lw_tbl := tk_3 (j := 228) rfl
theorem tw_949 : (Jvm.Cond.methodLink "NightDoors$Ways" (105 : Nat) ({ cls := "NightDoors$Ways", name := "findSoonest", desc := "(LNightDoors$Dream;LNightDoors$Sleeper;I)I" } : Jvm.MethodName)) ∈ lw_tbl := tk_3 (j := 229) rfl
theorem tw_950 : (Jvm.Cond.methodLink "NightDoorsLaw" (83 : Nat) ({ cls := "NightDoors", name := "days", desc := "(III)I" } : Jvm.MethodName)) ∈ lw_tbl := tk_3 (j := 230) rfl
theorem tw_951 : (Jvm.Cond.instanceMethod ({ cls := "NightDoors", name := "days", desc := "(III)I" } : Jvm.MethodName)) ∈ lw_tbl := tk_3 (j := 231) rfl
theorem tw_952 : (Jvm.Cond.selects "NightDoors" ({ cls := "NightDoors", name := "days", desc := "(III)I" } : Jvm.MethodName) ({ cls := "NightDoors", name := "days", desc := "(III)I" } : Jvm.MethodName)) ∈ lw_tbl := tk_3 (j := 232) rfl
theorem tw_953 : (Jvm.Cond.code ({ cls := "NightDoors", name := "days", desc := "(III)I" } : Jvm.MethodName) prog_1_method_18_code (5 : Nat) (Option.some Jvm.ClassFile.FieldType.int)) ∈ lw_tbl := tk_3 (j := 233) rfl
theorem tw_954 : (Jvm.Cond.methodLink "NightDoors" (257 : Nat) ({ cls := "java/lang/Integer", name := "bitCount", desc := "(I)I" } : Jvm.MethodName)) ∈ lw_tbl := tk_3 (j := 234) rfl
theorem tw_955 : (Jvm.Cond.static ({ cls := "java/lang/Integer", name := "bitCount", desc := "(I)I" } : Jvm.MethodName)) ∈ lw_tbl := tk_3 (j := 235) rfl
theorem tw_956 : (Jvm.Cond.code ({ cls := "java/lang/Integer", name := "bitCount", desc := "(I)I" } : Jvm.MethodName) prog_15_method_49_code (1 : Nat) (Option.some Jvm.ClassFile.FieldType.int)) ∈ lw_tbl := tk_3 (j := 236) rfl
theorem tw_957 : (Jvm.Cond.constant "java/lang/Integer" (265 : Nat) (1431655765 : Int32)) ∈ lw_tbl := tk_3 (j := 237) rfl
theorem tw_958 : (Jvm.Cond.constant "java/lang/Integer" (266 : Nat) (858993459 : Int32)) ∈ lw_tbl := tk_3 (j := 238) rfl
theorem tw_959 : (Jvm.Cond.constant "java/lang/Integer" (267 : Nat) (252645135 : Int32)) ∈ lw_tbl := tk_3 (j := 239) rfl
theorem tw_960 : (Jvm.Cond.methodLink "NightDoors" (262 : Nat) ({ cls := "NightDoors$Ways", name := "findDays", desc := "(LNightDoors$Dream;LNightDoors$Sleeper;I)I" } : Jvm.MethodName)) ∈ lw_tbl := tk_4 (j := 0) rfl
theorem tw_961 : (Jvm.Cond.instanceMethod ({ cls := "NightDoors$Ways", name := "findDays", desc := "(LNightDoors$Dream;LNightDoors$Sleeper;I)I" } : Jvm.MethodName)) ∈ lw_tbl := tk_4 (j := 1) rfl
theorem tw_962 : (Jvm.Cond.selects "NightDoors$Ways" ({ cls := "NightDoors$Ways", name := "findDays", desc := "(LNightDoors$Dream;LNightDoors$Sleeper;I)I" } : Jvm.MethodName) ({ cls := "NightDoors$Ways", name := "findDays", desc := "(LNightDoors$Dream;LNightDoors$Sleeper;I)I" } : Jvm.MethodName)) ∈ lw_tbl := tk_4 (j := 2) rfl
theorem tw_963 : (Jvm.Cond.code ({ cls := "NightDoors$Ways", name := "findDays", desc := "(LNightDoors$Dream;LNightDoors$Sleeper;I)I" } : Jvm.MethodName) prog_12_method_9_code (8 : Nat) (Option.some Jvm.ClassFile.FieldType.int)) ∈ lw_tbl := tk_4 (j := 3) rfl
theorem tw_964 : (Jvm.Cond.methodLink "NightDoors$Ways" (109 : Nat) ({ cls := "NightDoors$Ways", name := "setOrder", desc := "(II)I" } : Jvm.MethodName)) ∈ lw_tbl := tk_4 (j := 4) rfl
theorem tw_966 : (Jvm.Cond.instanceMethod ({ cls := "NightDoors$Ways", name := "setOrder", desc := "(II)I" } : Jvm.MethodName)) ∈ lw_tbl := tk_4 (j := 6) rfl
theorem tw_967 : (Jvm.Cond.code ({ cls := "NightDoors$Ways", name := "setOrder", desc := "(II)I" } : Jvm.MethodName) prog_12_method_11_code (8 : Nat) (Option.some Jvm.ClassFile.FieldType.int)) ∈ lw_tbl := tk_4 (j := 7) rfl
theorem tw_968 : (Jvm.Cond.methodLink "NightDoors$Ways" (120 : Nat) ({ cls := "java/lang/Integer", name := "bitCount", desc := "(I)I" } : Jvm.MethodName)) ∈ lw_tbl := tk_4 (j := 8) rfl
theorem tw_969 : (Jvm.Cond.methodLink "NightDoors$Ways" (125 : Nat) ({ cls := "NightDoors$Ways", name := "lowestBit", desc := "(II)I" } : Jvm.MethodName)) ∈ lw_tbl := tk_4 (j := 9) rfl
theorem tw_970 : (Jvm.Cond.static ({ cls := "NightDoors$Ways", name := "lowestBit", desc := "(II)I" } : Jvm.MethodName)) ∈ lw_tbl := tk_4 (j := 10) rfl
theorem tw_971 : (Jvm.Cond.code ({ cls := "NightDoors$Ways", name := "lowestBit", desc := "(II)I" } : Jvm.MethodName) prog_12_method_12_code (4 : Nat) (Option.some Jvm.ClassFile.FieldType.int)) ∈ lw_tbl := tk_4 (j := 11) rfl
theorem tw_972 : (Jvm.Cond.methodLink "NightDoors$Ways" (113 : Nat) ({ cls := "NightDoors$Dream", name := "meetByDay", desc := "(LNightDoors$Sleeper;I)V" } : Jvm.MethodName)) ∈ lw_tbl := tk_4 (j := 12) rfl
theorem tw_973 : (Jvm.Cond.instanceMethod ({ cls := "NightDoors$Dream", name := "meetByDay", desc := "(LNightDoors$Sleeper;I)V" } : Jvm.MethodName)) ∈ lw_tbl := tk_4 (j := 13) rfl
theorem tw_974 : (Jvm.Cond.selects "NightDoors$Dream" ({ cls := "NightDoors$Dream", name := "meetByDay", desc := "(LNightDoors$Sleeper;I)V" } : Jvm.MethodName) ({ cls := "NightDoors$Dream", name := "meetByDay", desc := "(LNightDoors$Sleeper;I)V" } : Jvm.MethodName)) ∈ lw_tbl := tk_4 (j := 14) rfl
theorem tw_975 : (Jvm.Cond.code ({ cls := "NightDoors$Dream", name := "meetByDay", desc := "(LNightDoors$Sleeper;I)V" } : Jvm.MethodName) prog_4_method_24_code (3 : Nat) (Option.none : Option Jvm.ClassFile.FieldType)) ∈ lw_tbl := tk_4 (j := 15) rfl
theorem tw_976 : (Jvm.Cond.methodLink "NightDoors$Ways" (117 : Nat) ({ cls := "NightDoors$Ways", name := "isEndKnown", desc := "(LNightDoors$Sleeper;)Z" } : Jvm.MethodName)) ∈ lw_tbl := tk_4 (j := 16) rfl
theorem tw_978 : (Jvm.Cond.instanceMethod ({ cls := "NightDoors$Ways", name := "isEndKnown", desc := "(LNightDoors$Sleeper;)Z" } : Jvm.MethodName)) ∈ lw_tbl := tk_4 (j := 18) rfl
theorem tw_979 : (Jvm.Cond.code ({ cls := "NightDoors$Ways", name := "isEndKnown", desc := "(LNightDoors$Sleeper;)Z" } : Jvm.MethodName) prog_12_method_13_code (3 : Nat) (Option.some Jvm.ClassFile.FieldType.boolean)) ∈ lw_tbl := tk_4 (j := 19) rfl
theorem tw_980 : (Jvm.Cond.methodLink "NightDoors$Ways" (128 : Nat) ({ cls := "NightDoors$Sleeper", name := "isLike", desc := "([II)Z" } : Jvm.MethodName)) ∈ lw_tbl := tk_4 (j := 20) rfl
theorem tw_981 : (Jvm.Cond.instanceMethod ({ cls := "NightDoors$Sleeper", name := "isLike", desc := "([II)Z" } : Jvm.MethodName)) ∈ lw_tbl := tk_4 (j := 21) rfl
theorem tw_982 : (Jvm.Cond.selects "NightDoors$Sleeper" ({ cls := "NightDoors$Sleeper", name := "isLike", desc := "([II)Z" } : Jvm.MethodName) ({ cls := "NightDoors$Sleeper", name := "isLike", desc := "([II)Z" } : Jvm.MethodName)) ∈ lw_tbl := tk_4 (j := 22) rfl
theorem tw_983 : (Jvm.Cond.code ({ cls := "NightDoors$Sleeper", name := "isLike", desc := "([II)Z" } : Jvm.MethodName) prog_9_method_9_code (5 : Nat) (Option.some Jvm.ClassFile.FieldType.boolean)) ∈ lw_tbl := tk_4 (j := 23) rfl
theorem tw_984 : (Jvm.Cond.methodLink "NightDoors$Ways" (132 : Nat) ({ cls := "NightDoors$Sleeper", name := "writeTo", desc := "([II)V" } : Jvm.MethodName)) ∈ lw_tbl := tk_4 (j := 24) rfl
theorem tw_985 : (Jvm.Cond.methodLink "NightDoors$Ways" (136 : Nat) ({ cls := "java/lang/Math", name := "min", desc := "(II)I" } : Jvm.MethodName)) ∈ lw_tbl := tk_4 (j := 25) rfl
theorem tw_986 : (Jvm.Cond.methodLink "NightDoors" (265 : Nat) ({ cls := "NightDoors$Ways", name := "metByDay", desc := "(I)I" } : Jvm.MethodName)) ∈ lw_tbl := tk_4 (j := 26) rfl
theorem tw_987 : (Jvm.Cond.instanceMethod ({ cls := "NightDoors$Ways", name := "metByDay", desc := "(I)I" } : Jvm.MethodName)) ∈ lw_tbl := tk_4 (j := 27) rfl
theorem tw_988 : (Jvm.Cond.selects "NightDoors$Ways" ({ cls := "NightDoors$Ways", name := "metByDay", desc := "(I)I" } : Jvm.MethodName) ({ cls := "NightDoors$Ways", name := "metByDay", desc := "(I)I" } : Jvm.MethodName)) ∈ lw_tbl := tk_4 (j := 28) rfl
theorem tw_989 : (Jvm.Cond.code ({ cls := "NightDoors$Ways", name := "metByDay", desc := "(I)I" } : Jvm.MethodName) prog_12_method_10_code (2 : Nat) (Option.some Jvm.ClassFile.FieldType.int)) ∈ lw_tbl := tk_4 (j := 29) rfl
theorem tw_990 : (Jvm.Cond.methodLink "NightDoorsLaw" (87 : Nat) ({ cls := "NightDoors", name := "hand", desc := "(III)I" } : Jvm.MethodName)) ∈ lw_tbl := tk_4 (j := 30) rfl
theorem tw_991 : (Jvm.Cond.instanceMethod ({ cls := "NightDoors", name := "hand", desc := "(III)I" } : Jvm.MethodName)) ∈ lw_tbl := tk_4 (j := 31) rfl
theorem tw_992 : (Jvm.Cond.selects "NightDoors" ({ cls := "NightDoors", name := "hand", desc := "(III)I" } : Jvm.MethodName) ({ cls := "NightDoors", name := "hand", desc := "(III)I" } : Jvm.MethodName)) ∈ lw_tbl := tk_4 (j := 32) rfl
theorem tw_993 : (Jvm.Cond.code ({ cls := "NightDoors", name := "hand", desc := "(III)I" } : Jvm.MethodName) prog_1_method_19_code (5 : Nat) (Option.some Jvm.ClassFile.FieldType.int)) ∈ lw_tbl := tk_4 (j := 33) rfl
theorem tw_994 : (Jvm.Cond.methodLink "NightDoors" (268 : Nat) ({ cls := "NightDoors$Ahead", name := "goTogether", desc := "(LNightDoors$Dream;LNightDoors$Sleeper;LNightDoors$Sleeper;)I" } : Jvm.MethodName)) ∈ lw_tbl := tk_4 (j := 34) rfl
theorem tw_995 : (Jvm.Cond.instanceMethod ({ cls := "NightDoors$Ahead", name := "goTogether", desc := "(LNightDoors$Dream;LNightDoors$Sleeper;LNightDoors$Sleeper;)I" } : Jvm.MethodName)) ∈ lw_tbl := tk_4 (j := 35) rfl
theorem tw_996 : (Jvm.Cond.selects "NightDoors$Ahead" ({ cls := "NightDoors$Ahead", name := "goTogether", desc := "(LNightDoors$Dream;LNightDoors$Sleeper;LNightDoors$Sleeper;)I" } : Jvm.MethodName) ({ cls := "NightDoors$Ahead", name := "goTogether", desc := "(LNightDoors$Dream;LNightDoors$Sleeper;LNightDoors$Sleeper;)I" } : Jvm.MethodName)) ∈ lw_tbl := tk_4 (j := 36) rfl
theorem tw_997 : (Jvm.Cond.code ({ cls := "NightDoors$Ahead", name := "goTogether", desc := "(LNightDoors$Dream;LNightDoors$Sleeper;LNightDoors$Sleeper;)I" } : Jvm.MethodName) prog_3_method_6_code (6 : Nat) (Option.some Jvm.ClassFile.FieldType.int)) ∈ lw_tbl := tk_4 (j := 37) rfl
theorem tw_998 : (Jvm.Cond.methodLink "NightDoors$Ahead" (57 : Nat) ({ cls := "NightDoors$Ahead", name := "heaviestOfBoth", desc := "(LNightDoors$Dream;)I" } : Jvm.MethodName)) ∈ lw_tbl := tk_4 (j := 38) rfl
theorem tw_1000 : (Jvm.Cond.instanceMethod ({ cls := "NightDoors$Ahead", name := "heaviestOfBoth", desc := "(LNightDoors$Dream;)I" } : Jvm.MethodName)) ∈ lw_tbl := tk_4 (j := 40) rfl
theorem tw_1001 : (Jvm.Cond.code ({ cls := "NightDoors$Ahead", name := "heaviestOfBoth", desc := "(LNightDoors$Dream;)I" } : Jvm.MethodName) prog_3_method_7_code (6 : Nat) (Option.some Jvm.ClassFile.FieldType.int)) ∈ lw_tbl := tk_4 (j := 41) rfl
theorem tw_1002 : (Jvm.Cond.methodLink "NightDoors$Ahead" (69 : Nat) ({ cls := "NightDoors$Dream", name := "count", desc := "(I)I" } : Jvm.MethodName)) ∈ lw_tbl := tk_4 (j := 42) rfl
theorem tw_1003 : (Jvm.Cond.methodLink "NightDoors$Ahead" (72 : Nat) ({ cls := "NightDoors$Sleeper", name := "at", desc := "(I)I" } : Jvm.MethodName)) ∈ lw_tbl := tk_4 (j := 43) rfl
theorem tw_1004 : (Jvm.Cond.methodLink "NightDoors$Ahead" (61 : Nat) ({ cls := "NightDoors$Dream", name := "becomes", desc := "(LNightDoors$Sleeper;II)I" } : Jvm.MethodName)) ∈ lw_tbl := tk_4 (j := 44) rfl
theorem tw_1005 : (Jvm.Cond.methodLink "NightDoors$Ahead" (65 : Nat) ({ cls := "NightDoors$Sleeper", name := "put", desc := "(II)V" } : Jvm.MethodName)) ∈ lw_tbl := tk_4 (j := 45) rfl
theorem tw_1006 : (Jvm.Cond.methodLink "NightDoorsLaw" (91 : Nat) ({ cls := "NightDoors", name := "against", desc := "(II)I" } : Jvm.MethodName)) ∈ lw_tbl := tk_4 (j := 46) rfl
theorem tw_1007 : (Jvm.Cond.instanceMethod ({ cls := "NightDoors", name := "against", desc := "(II)I" } : Jvm.MethodName)) ∈ lw_tbl := tk_4 (j := 47) rfl
theorem tw_1008 : (Jvm.Cond.selects "NightDoors" ({ cls := "NightDoors", name := "against", desc := "(II)I" } : Jvm.MethodName) ({ cls := "NightDoors", name := "against", desc := "(II)I" } : Jvm.MethodName)) ∈ lw_tbl := tk_4 (j := 48) rfl
theorem tw_1009 : (Jvm.Cond.code ({ cls := "NightDoors", name := "against", desc := "(II)I" } : Jvm.MethodName) prog_1_method_20_code (3 : Nat) (Option.some Jvm.ClassFile.FieldType.int)) ∈ lw_tbl := tk_4 (j := 49) rfl
theorem tw_1010 : (Jvm.Cond.methodLink "NightDoors" (272 : Nat) ({ cls := "NightDoors$Fates", name := "canBeHome", desc := "(LNightDoors$Dream;LNightDoors$Sleeper;I)Z" } : Jvm.MethodName)) ∈ lw_tbl := tk_4 (j := 50) rfl
theorem tw_1011 : (Jvm.Cond.instanceMethod ({ cls := "NightDoors$Fates", name := "canBeHome", desc := "(LNightDoors$Dream;LNightDoors$Sleeper;I)Z" } : Jvm.MethodName)) ∈ lw_tbl := tk_4 (j := 51) rfl
theorem tw_1012 : (Jvm.Cond.selects "NightDoors$Fates" ({ cls := "NightDoors$Fates", name := "canBeHome", desc := "(LNightDoors$Dream;LNightDoors$Sleeper;I)Z" } : Jvm.MethodName) ({ cls := "NightDoors$Fates", name := "canBeHome", desc := "(LNightDoors$Dream;LNightDoors$Sleeper;I)Z" } : Jvm.MethodName)) ∈ lw_tbl := tk_4 (j := 52) rfl
theorem tw_1013 : (Jvm.Cond.code ({ cls := "NightDoors$Fates", name := "canBeHome", desc := "(LNightDoors$Dream;LNightDoors$Sleeper;I)Z" } : Jvm.MethodName) prog_6_method_2_code (4 : Nat) (Option.some Jvm.ClassFile.FieldType.boolean)) ∈ lw_tbl := tk_4 (j := 53) rfl
theorem tw_1014 : (Jvm.Cond.methodLink "NightDoors$Fates" (29 : Nat) ({ cls := "NightDoors$Sleeper", name := "copy", desc := "(LNightDoors$Sleeper;)V" } : Jvm.MethodName)) ∈ lw_tbl := tk_4 (j := 54) rfl
theorem tw_1015 : (Jvm.Cond.methodLink "NightDoors$Fates" (33 : Nat) ({ cls := "NightDoors$Fates", name := "escapes", desc := "(LNightDoors$Dream;II)Z" } : Jvm.MethodName)) ∈ lw_tbl := tk_4 (j := 55) rfl
theorem tw_1017 : (Jvm.Cond.instanceMethod ({ cls := "NightDoors$Fates", name := "escapes", desc := "(LNightDoors$Dream;II)Z" } : Jvm.MethodName)) ∈ lw_tbl := tk_4 (j := 57) rfl
theorem tw_1018 : (Jvm.Cond.code ({ cls := "NightDoors$Fates", name := "escapes", desc := "(LNightDoors$Dream;II)Z" } : Jvm.MethodName) prog_6_method_3_code (4 : Nat) (Option.some Jvm.ClassFile.FieldType.boolean)) ∈ lw_tbl := tk_4 (j := 58) rfl
theorem tw_1019 : (Jvm.Cond.methodLink "NightDoors$Fates" (37 : Nat) ({ cls := "NightDoors$Dream", name := "isHome", desc := "(LNightDoors$Sleeper;)Z" } : Jvm.MethodName)) ∈ lw_tbl := tk_4 (j := 59) rfl
theorem tw_1020 : (Jvm.Cond.methodLink "NightDoors$Fates" (43 : Nat) ({ cls := "NightDoors$Fates", name := "bears", desc := "(LNightDoors$Dream;IIZ)Z" } : Jvm.MethodName)) ∈ lw_tbl := tk_4 (j := 60) rfl
theorem tw_1022 : (Jvm.Cond.instanceMethod ({ cls := "NightDoors$Fates", name := "bears", desc := "(LNightDoors$Dream;IIZ)Z" } : Jvm.MethodName)) ∈ lw_tbl := tk_4 (j := 62) rfl
theorem tw_1023 : (Jvm.Cond.code ({ cls := "NightDoors$Fates", name := "bears", desc := "(LNightDoors$Dream;IIZ)Z" } : Jvm.MethodName) prog_6_method_4_code (7 : Nat) (Option.some Jvm.ClassFile.FieldType.boolean)) ∈ lw_tbl := tk_4 (j := 63) rfl
theorem tw_1024 : (Jvm.Cond.methodLink "NightDoors$Fates" (47 : Nat) ({ cls := "NightDoors$Dream", name := "enter", desc := "(LNightDoors$Sleeper;Z)I" } : Jvm.MethodName)) ∈ lw_tbl := tk_4 (j := 64) rfl
theorem tw_1025 : (Jvm.Cond.methodLink "NightDoors$Fates" (51 : Nat) ({ cls := "NightDoors$Dream", name := "count", desc := "(I)I" } : Jvm.MethodName)) ∈ lw_tbl := tk_4 (j := 65) rfl
theorem tw_1026 : (Jvm.Cond.methodLink "NightDoors$Fates" (55 : Nat) ({ cls := "NightDoors$Sleeper", name := "at", desc := "(I)I" } : Jvm.MethodName)) ∈ lw_tbl := tk_4 (j := 66) rfl
theorem tw_1027 : (Jvm.Cond.methodLink "NightDoors$Fates" (62 : Nat) ({ cls := "java/lang/Math", name := "min", desc := "(II)I" } : Jvm.MethodName)) ∈ lw_tbl := tk_4 (j := 67) rfl
theorem tw_1028 : (Jvm.Cond.methodLink "NightDoors$Fates" (68 : Nat) ({ cls := "NightDoors$Sleeper", name := "put", desc := "(II)V" } : Jvm.MethodName)) ∈ lw_tbl := tk_4 (j := 68) rfl
theorem tw_1029 : (Jvm.Cond.methodLink "NightDoorsLaw" (95 : Nat) ({ cls := "NightDoors", name := "chance", desc := "(II)I" } : Jvm.MethodName)) ∈ lw_tbl := tk_4 (j := 69) rfl
theorem tw_1030 : (Jvm.Cond.instanceMethod ({ cls := "NightDoors", name := "chance", desc := "(II)I" } : Jvm.MethodName)) ∈ lw_tbl := tk_4 (j := 70) rfl
theorem tw_1031 : (Jvm.Cond.selects "NightDoors" ({ cls := "NightDoors", name := "chance", desc := "(II)I" } : Jvm.MethodName) ({ cls := "NightDoors", name := "chance", desc := "(II)I" } : Jvm.MethodName)) ∈ lw_tbl := tk_4 (j := 71) rfl
theorem tw_1032 : (Jvm.Cond.code ({ cls := "NightDoors", name := "chance", desc := "(II)I" } : Jvm.MethodName) prog_1_method_21_code (3 : Nat) (Option.some Jvm.ClassFile.FieldType.int)) ∈ lw_tbl := tk_4 (j := 72) rfl
theorem tw_1033 : (Jvm.Cond.methodLink "NightDoors" (276 : Nat) ({ cls := "NightDoors$Fates", name := "thousandths", desc := "(LNightDoors$Dream;LNightDoors$Sleeper;I)I" } : Jvm.MethodName)) ∈ lw_tbl := tk_4 (j := 73) rfl
theorem tw_1034 : (Jvm.Cond.instanceMethod ({ cls := "NightDoors$Fates", name := "thousandths", desc := "(LNightDoors$Dream;LNightDoors$Sleeper;I)I" } : Jvm.MethodName)) ∈ lw_tbl := tk_4 (j := 74) rfl
theorem tw_1035 : (Jvm.Cond.selects "NightDoors$Fates" ({ cls := "NightDoors$Fates", name := "thousandths", desc := "(LNightDoors$Dream;LNightDoors$Sleeper;I)I" } : Jvm.MethodName) ({ cls := "NightDoors$Fates", name := "thousandths", desc := "(LNightDoors$Dream;LNightDoors$Sleeper;I)I" } : Jvm.MethodName)) ∈ lw_tbl := tk_4 (j := 75) rfl
theorem tw_1036 : (Jvm.Cond.code ({ cls := "NightDoors$Fates", name := "thousandths", desc := "(LNightDoors$Dream;LNightDoors$Sleeper;I)I" } : Jvm.MethodName) prog_6_method_5_code (9 : Nat) (Option.some Jvm.ClassFile.FieldType.int)) ∈ lw_tbl := tk_4 (j := 76) rfl
theorem tw_1037 : (Jvm.Cond.constantLong "NightDoors$Fates" (72 : Nat) (100 : Int64)) ∈ lw_tbl := tk_4 (j := 77) rfl
theorem tw_1038 : (Jvm.Cond.methodLink "NightDoors$Fates" (74 : Nat) ({ cls := "NightDoors$Fates", name := "shareHome", desc := "(LNightDoors$Dream;LNightDoors$Sleeper;II)J" } : Jvm.MethodName)) ∈ lw_tbl := tk_4 (j := 78) rfl
theorem tw_1040 : (Jvm.Cond.instanceMethod ({ cls := "NightDoors$Fates", name := "shareHome", desc := "(LNightDoors$Dream;LNightDoors$Sleeper;II)J" } : Jvm.MethodName)) ∈ lw_tbl := tk_4 (j := 80) rfl
theorem tw_1041 : (Jvm.Cond.code ({ cls := "NightDoors$Fates", name := "shareHome", desc := "(LNightDoors$Dream;LNightDoors$Sleeper;II)J" } : Jvm.MethodName) prog_6_method_6_code (8 : Nat) (Option.some Jvm.ClassFile.FieldType.long)) ∈ lw_tbl := tk_4 (j := 81) rfl
theorem tw_1042 : (Jvm.Cond.methodLink "NightDoors$Fates" (80 : Nat) ({ cls := "NightDoors$Sleeper", name := "laugh", desc := "()V" } : Jvm.MethodName)) ∈ lw_tbl := tk_4 (j := 82) rfl
theorem tw_1043 : (Jvm.Cond.instanceMethod ({ cls := "NightDoors$Sleeper", name := "laugh", desc := "()V" } : Jvm.MethodName)) ∈ lw_tbl := tk_4 (j := 83) rfl
theorem tw_1044 : (Jvm.Cond.selects "NightDoors$Sleeper" ({ cls := "NightDoors$Sleeper", name := "laugh", desc := "()V" } : Jvm.MethodName) ({ cls := "NightDoors$Sleeper", name := "laugh", desc := "()V" } : Jvm.MethodName)) ∈ lw_tbl := tk_4 (j := 84) rfl
theorem tw_1045 : (Jvm.Cond.code ({ cls := "NightDoors$Sleeper", name := "laugh", desc := "()V" } : Jvm.MethodName) prog_9_method_8_code (2 : Nat) (Option.none : Option Jvm.ClassFile.FieldType)) ∈ lw_tbl := tk_4 (j := 85) rfl
theorem tw_1046 : (Jvm.Cond.constantLong "NightDoors$Fates" (78 : Nat) (1000 : Int64)) ∈ lw_tbl := tk_4 (j := 86) rfl
theorem tw_1047 : (Jvm.Cond.methodLink "NightDoorsLaw" (99 : Nat) ({ cls := "NightDoors", name := "meet", desc := "(IZ)I" } : Jvm.MethodName)) ∈ lw_tbl := tk_4 (j := 87) rfl
theorem tw_1048 : (Jvm.Cond.instanceMethod ({ cls := "NightDoors", name := "meet", desc := "(IZ)I" } : Jvm.MethodName)) ∈ lw_tbl := tk_4 (j := 88) rfl
theorem tw_1049 : (Jvm.Cond.selects "NightDoors" ({ cls := "NightDoors", name := "meet", desc := "(IZ)I" } : Jvm.MethodName) ({ cls := "NightDoors", name := "meet", desc := "(IZ)I" } : Jvm.MethodName)) ∈ lw_tbl := tk_4 (j := 89) rfl
theorem tw_1050 : (Jvm.Cond.code ({ cls := "NightDoors", name := "meet", desc := "(IZ)I" } : Jvm.MethodName) prog_1_method_22_code (3 : Nat) (Option.some Jvm.ClassFile.FieldType.int)) ∈ lw_tbl := tk_4 (j := 90) rfl
theorem tw_1051 : (Jvm.Cond.methodLink "NightDoors" (279 : Nat) ({ cls := "NightDoors$Dream", name := "canEnter", desc := "(LNightDoors$Sleeper;Z)Z" } : Jvm.MethodName)) ∈ lw_tbl := tk_4 (j := 91) rfl
theorem tw_1052 : (Jvm.Cond.methodLink "NightDoors" (283 : Nat) ({ cls := "NightDoors$Acts", name := "keep", desc := "(LNightDoors$Sleeper;)V" } : Jvm.MethodName)) ∈ lw_tbl := tk_4 (j := 92) rfl
theorem tw_1053 : (Jvm.Cond.instanceMethod ({ cls := "NightDoors$Acts", name := "keep", desc := "(LNightDoors$Sleeper;)V" } : Jvm.MethodName)) ∈ lw_tbl := tk_4 (j := 93) rfl
theorem tw_1054 : (Jvm.Cond.selects "NightDoors$Acts" ({ cls := "NightDoors$Acts", name := "keep", desc := "(LNightDoors$Sleeper;)V" } : Jvm.MethodName) ({ cls := "NightDoors$Acts", name := "keep", desc := "(LNightDoors$Sleeper;)V" } : Jvm.MethodName)) ∈ lw_tbl := tk_4 (j := 94) rfl
theorem tw_1055 : (Jvm.Cond.code ({ cls := "NightDoors$Acts", name := "keep", desc := "(LNightDoors$Sleeper;)V" } : Jvm.MethodName) prog_2_method_3_code (2 : Nat) (Option.none : Option Jvm.ClassFile.FieldType)) ∈ lw_tbl := tk_4 (j := 95) rfl
theorem tw_1056 : (Jvm.Cond.methodLink "NightDoors$Acts" (26 : Nat) ({ cls := "NightDoors$Sleeper", name := "copy", desc := "(LNightDoors$Sleeper;)V" } : Jvm.MethodName)) ∈ lw_tbl := tk_4 (j := 96) rfl
theorem tw_1057 : (Jvm.Cond.methodLink "NightDoors$Acts" (32 : Nat) ({ cls := "java/lang/Math", name := "min", desc := "(II)I" } : Jvm.MethodName)) ∈ lw_tbl := tk_4 (j := 97) rfl
theorem tw_1058 : (Jvm.Cond.methodLink "NightDoors" (287 : Nat) ({ cls := "NightDoors$Dream", name := "enter", desc := "(LNightDoors$Sleeper;Z)I" } : Jvm.MethodName)) ∈ lw_tbl := tk_4 (j := 98) rfl
theorem tw_1059 : (Jvm.Cond.methodLink "NightDoorsLaw" (104 : Nat) ({ cls := "NightDoors", name := "day", desc := "(II)I" } : Jvm.MethodName)) ∈ lw_tbl := tk_4 (j := 99) rfl
theorem tw_1060 : (Jvm.Cond.instanceMethod ({ cls := "NightDoors", name := "day", desc := "(II)I" } : Jvm.MethodName)) ∈ lw_tbl := tk_4 (j := 100) rfl
theorem tw_1061 : (Jvm.Cond.selects "NightDoors" ({ cls := "NightDoors", name := "day", desc := "(II)I" } : Jvm.MethodName) ({ cls := "NightDoors", name := "day", desc := "(II)I" } : Jvm.MethodName)) ∈ lw_tbl := tk_4 (j := 101) rfl
theorem tw_1062 : (Jvm.Cond.code ({ cls := "NightDoors", name := "day", desc := "(II)I" } : Jvm.MethodName) prog_1_method_23_code (3 : Nat) (Option.some Jvm.ClassFile.FieldType.int)) ∈ lw_tbl := tk_4 (j := 102) rfl
theorem tw_1063 : (Jvm.Cond.methodLink "NightDoors" (291 : Nat) ({ cls := "NightDoors$Dream", name := "meetByDay", desc := "(LNightDoors$Sleeper;I)V" } : Jvm.MethodName)) ∈ lw_tbl := tk_4 (j := 103) rfl
theorem tw_1064 : (Jvm.Cond.methodLink "NightDoorsLaw" (108 : Nat) ({ cls := "NightDoors", name := "take", desc := "(II)Z" } : Jvm.MethodName)) ∈ lw_tbl := tk_4 (j := 104) rfl
theorem tw_1065 : (Jvm.Cond.instanceMethod ({ cls := "NightDoors", name := "take", desc := "(II)Z" } : Jvm.MethodName)) ∈ lw_tbl := tk_4 (j := 105) rfl
theorem tw_1066 : (Jvm.Cond.selects "NightDoors" ({ cls := "NightDoors", name := "take", desc := "(II)Z" } : Jvm.MethodName) ({ cls := "NightDoors", name := "take", desc := "(II)Z" } : Jvm.MethodName)) ∈ lw_tbl := tk_4 (j := 106) rfl
theorem tw_1067 : (Jvm.Cond.code ({ cls := "NightDoors", name := "take", desc := "(II)Z" } : Jvm.MethodName) prog_1_method_24_code (3 : Nat) (Option.some Jvm.ClassFile.FieldType.boolean)) ∈ lw_tbl := tk_4 (j := 107) rfl
theorem tw_1068 : (Jvm.Cond.methodLink "NightDoorsLaw" (113 : Nat) ({ cls := "NightDoors", name := "set", desc := "(III)I" } : Jvm.MethodName)) ∈ lw_tbl := tk_4 (j := 108) rfl
theorem tw_1069 : (Jvm.Cond.instanceMethod ({ cls := "NightDoors", name := "set", desc := "(III)I" } : Jvm.MethodName)) ∈ lw_tbl := tk_4 (j := 109) rfl
theorem tw_1070 : (Jvm.Cond.selects "NightDoors" ({ cls := "NightDoors", name := "set", desc := "(III)I" } : Jvm.MethodName) ({ cls := "NightDoors", name := "set", desc := "(III)I" } : Jvm.MethodName)) ∈ lw_tbl := tk_4 (j := 110) rfl
theorem tw_1071 : (Jvm.Cond.code ({ cls := "NightDoors", name := "set", desc := "(III)I" } : Jvm.MethodName) prog_1_method_25_code (5 : Nat) (Option.some Jvm.ClassFile.FieldType.int)) ∈ lw_tbl := tk_4 (j := 111) rfl
theorem tw_1072 : (Jvm.Cond.methodLink "NightDoors" (294 : Nat) ({ cls := "NightDoors$Sleeper", name := "put", desc := "(II)V" } : Jvm.MethodName)) ∈ lw_tbl := tk_4 (j := 112) rfl
theorem tw_1073 : (Jvm.Cond.methodLink "NightDoorsLaw" (117 : Nat) ({ cls := "NightDoors", name := "night", desc := "(II)I" } : Jvm.MethodName)) ∈ lw_tbl := tk_4 (j := 113) rfl
theorem tw_1074 : (Jvm.Cond.instanceMethod ({ cls := "NightDoors", name := "night", desc := "(II)I" } : Jvm.MethodName)) ∈ lw_tbl := tk_4 (j := 114) rfl
theorem tw_1075 : (Jvm.Cond.selects "NightDoors" ({ cls := "NightDoors", name := "night", desc := "(II)I" } : Jvm.MethodName) ({ cls := "NightDoors", name := "night", desc := "(II)I" } : Jvm.MethodName)) ∈ lw_tbl := tk_4 (j := 115) rfl
theorem tw_1076 : (Jvm.Cond.code ({ cls := "NightDoors", name := "night", desc := "(II)I" } : Jvm.MethodName) prog_1_method_26_code (6 : Nat) (Option.some Jvm.ClassFile.FieldType.int)) ∈ lw_tbl := tk_4 (j := 116) rfl
theorem tw_1077 : (Jvm.Cond.methodLink "NightDoors" (298 : Nat) ({ cls := "NightDoors", name := "draw", desc := "(I)I" } : Jvm.MethodName)) ∈ lw_tbl := tk_4 (j := 117) rfl
theorem tw_1079 : (Jvm.Cond.instanceMethod ({ cls := "NightDoors", name := "draw", desc := "(I)I" } : Jvm.MethodName)) ∈ lw_tbl := tk_4 (j := 119) rfl
theorem tw_1080 : (Jvm.Cond.code ({ cls := "NightDoors", name := "draw", desc := "(I)I" } : Jvm.MethodName) prog_1_method_40_code (2 : Nat) (Option.some Jvm.ClassFile.FieldType.int)) ∈ lw_tbl := tk_4 (j := 120) rfl
theorem tw_1081 : (Jvm.Cond.constantLong "NightDoors" (332 : Nat) (1103515245 : Int64)) ∈ lw_tbl := tk_4 (j := 121) rfl
theorem tw_1082 : (Jvm.Cond.constantLong "NightDoors" (334 : Nat) (12345 : Int64)) ∈ lw_tbl := tk_4 (j := 122) rfl
theorem tw_1083 : (Jvm.Cond.constantLong "NightDoors" (336 : Nat) (2147483647 : Int64)) ∈ lw_tbl := tk_4 (j := 123) rfl
theorem tw_1084 : (Jvm.Cond.methodLink "NightDoors" (301 : Nat) ({ cls := "NightDoors$Sleeper", name := "laugh", desc := "()V" } : Jvm.MethodName)) ∈ lw_tbl := tk_4 (j := 124) rfl
theorem tw_1085 : (Jvm.Cond.methodLink "NightDoorsLaw" (121 : Nat) ({ cls := "NightDoors", name := "undo", desc := "()Z" } : Jvm.MethodName)) ∈ lw_tbl := tk_4 (j := 125) rfl
theorem tw_1086 : (Jvm.Cond.instanceMethod ({ cls := "NightDoors", name := "undo", desc := "()Z" } : Jvm.MethodName)) ∈ lw_tbl := tk_4 (j := 126) rfl
theorem tw_1087 : (Jvm.Cond.selects "NightDoors" ({ cls := "NightDoors", name := "undo", desc := "()Z" } : Jvm.MethodName) ({ cls := "NightDoors", name := "undo", desc := "()Z" } : Jvm.MethodName)) ∈ lw_tbl := tk_4 (j := 127) rfl
theorem tw_1088 : (Jvm.Cond.code ({ cls := "NightDoors", name := "undo", desc := "()Z" } : Jvm.MethodName) prog_1_method_27_code (1 : Nat) (Option.some Jvm.ClassFile.FieldType.boolean)) ∈ lw_tbl := tk_4 (j := 128) rfl
theorem tw_1089 : (Jvm.Cond.methodLink "NightDoors" (303 : Nat) ({ cls := "NightDoors$Acts", name := "takeBack", desc := "([LNightDoors$Sleeper;)V" } : Jvm.MethodName)) ∈ lw_tbl := tk_4 (j := 129) rfl
theorem tw_1090 : (Jvm.Cond.instanceMethod ({ cls := "NightDoors$Acts", name := "takeBack", desc := "([LNightDoors$Sleeper;)V" } : Jvm.MethodName)) ∈ lw_tbl := tk_4 (j := 130) rfl
theorem tw_1091 : (Jvm.Cond.selects "NightDoors$Acts" ({ cls := "NightDoors$Acts", name := "takeBack", desc := "([LNightDoors$Sleeper;)V" } : Jvm.MethodName) ({ cls := "NightDoors$Acts", name := "takeBack", desc := "([LNightDoors$Sleeper;)V" } : Jvm.MethodName)) ∈ lw_tbl := tk_4 (j := 131) rfl
theorem tw_1092 : (Jvm.Cond.code ({ cls := "NightDoors$Acts", name := "takeBack", desc := "([LNightDoors$Sleeper;)V" } : Jvm.MethodName) prog_2_method_4_code (3 : Nat) (Option.none : Option Jvm.ClassFile.FieldType)) ∈ lw_tbl := tk_4 (j := 132) rfl
theorem tw_1093 : (Jvm.Cond.methodLink "NightDoors$Acts" (38 : Nat) ({ cls := "java/lang/Math", name := "max", desc := "(II)I" } : Jvm.MethodName)) ∈ lw_tbl := tk_4 (j := 133) rfl
theorem tw_1094 : (Jvm.Cond.methodLink "NightDoorsLaw" (126 : Nat) ({ cls := "NightDoors", name := "seed", desc := "(I)Z" } : Jvm.MethodName)) ∈ lw_tbl := tk_4 (j := 134) rfl
theorem tw_1095 : (Jvm.Cond.instanceMethod ({ cls := "NightDoors", name := "seed", desc := "(I)Z" } : Jvm.MethodName)) ∈ lw_tbl := tk_4 (j := 135) rfl
theorem tw_1096 : (Jvm.Cond.selects "NightDoors" ({ cls := "NightDoors", name := "seed", desc := "(I)Z" } : Jvm.MethodName) ({ cls := "NightDoors", name := "seed", desc := "(I)Z" } : Jvm.MethodName)) ∈ lw_tbl := tk_4 (j := 136) rfl
theorem tw_1097 : (Jvm.Cond.code ({ cls := "NightDoors", name := "seed", desc := "(I)Z" } : Jvm.MethodName) prog_1_method_28_code (2 : Nat) (Option.some Jvm.ClassFile.FieldType.boolean)) ∈ lw_tbl := tk_4 (j := 137) rfl
theorem tw_1098 : (Jvm.Cond.methodLink "NightDoorsLaw" (130 : Nat) ({ cls := "NightDoors", name := "told", desc := "(I)I" } : Jvm.MethodName)) ∈ lw_tbl := tk_4 (j := 138) rfl
theorem tw_1099 : (Jvm.Cond.instanceMethod ({ cls := "NightDoors", name := "told", desc := "(I)I" } : Jvm.MethodName)) ∈ lw_tbl := tk_4 (j := 139) rfl
theorem tw_1100 : (Jvm.Cond.selects "NightDoors" ({ cls := "NightDoors", name := "told", desc := "(I)I" } : Jvm.MethodName) ({ cls := "NightDoors", name := "told", desc := "(I)I" } : Jvm.MethodName)) ∈ lw_tbl := tk_4 (j := 140) rfl
theorem tw_1101 : (Jvm.Cond.code ({ cls := "NightDoors", name := "told", desc := "(I)I" } : Jvm.MethodName) prog_1_method_29_code (5 : Nat) (Option.some Jvm.ClassFile.FieldType.int)) ∈ lw_tbl := tk_4 (j := 141) rfl
theorem tw_1102 : (Jvm.Cond.methodLink "NightDoors" (307 : Nat) ({ cls := "NightDoors$Text", name := "byteAt", desc := "(I)I" } : Jvm.MethodName)) ∈ lw_tbl := tk_4 (j := 142) rfl
theorem tw_1103 : (Jvm.Cond.methodLink "NightDoorsLaw" (134 : Nat) ({ cls := "NightDoors", name := "fits", desc := "(II)I" } : Jvm.MethodName)) ∈ lw_tbl := tk_4 (j := 143) rfl
theorem tw_1104 : (Jvm.Cond.instanceMethod ({ cls := "NightDoors", name := "fits", desc := "(II)I" } : Jvm.MethodName)) ∈ lw_tbl := tk_4 (j := 144) rfl
theorem tw_1105 : (Jvm.Cond.selects "NightDoors" ({ cls := "NightDoors", name := "fits", desc := "(II)I" } : Jvm.MethodName) ({ cls := "NightDoors", name := "fits", desc := "(II)I" } : Jvm.MethodName)) ∈ lw_tbl := tk_4 (j := 145) rfl
theorem tw_1106 : (Jvm.Cond.code ({ cls := "NightDoors", name := "fits", desc := "(II)I" } : Jvm.MethodName) prog_1_method_30_code (7 : Nat) (Option.some Jvm.ClassFile.FieldType.int)) ∈ lw_tbl := tk_4 (j := 146) rfl
theorem tw_1107 : (Jvm.Cond.methodLink "NightDoors" (310 : Nat) ({ cls := "NightDoors$Ahead", name := "follows", desc := "(LNightDoors$Dream;LNightDoors$Sleeper;II[II)Z" } : Jvm.MethodName)) ∈ lw_tbl := tk_4 (j := 147) rfl
theorem tw_1108 : (Jvm.Cond.instanceMethod ({ cls := "NightDoors$Ahead", name := "follows", desc := "(LNightDoors$Dream;LNightDoors$Sleeper;II[II)Z" } : Jvm.MethodName)) ∈ lw_tbl := tk_4 (j := 148) rfl
theorem tw_1109 : (Jvm.Cond.selects "NightDoors$Ahead" ({ cls := "NightDoors$Ahead", name := "follows", desc := "(LNightDoors$Dream;LNightDoors$Sleeper;II[II)Z" } : Jvm.MethodName) ({ cls := "NightDoors$Ahead", name := "follows", desc := "(LNightDoors$Dream;LNightDoors$Sleeper;II[II)Z" } : Jvm.MethodName)) ∈ lw_tbl := tk_4 (j := 149) rfl
theorem tw_1110 : (Jvm.Cond.code ({ cls := "NightDoors$Ahead", name := "follows", desc := "(LNightDoors$Dream;LNightDoors$Sleeper;II[II)Z" } : Jvm.MethodName) prog_3_method_8_code (9 : Nat) (Option.some Jvm.ClassFile.FieldType.boolean)) ∈ lw_tbl := tk_4 (j := 150) rfl
theorem tw_1111 : (Jvm.Cond.methodLink "NightDoorsLaw" (138 : Nat) ({ cls := "NightDoors", name := "ask", desc := "(I)J" } : Jvm.MethodName)) ∈ lw_tbl := tk_4 (j := 151) rfl
theorem tw_1112 : (Jvm.Cond.instanceMethod ({ cls := "NightDoors", name := "ask", desc := "(I)J" } : Jvm.MethodName)) ∈ lw_tbl := tk_4 (j := 152) rfl
theorem tw_1113 : (Jvm.Cond.selects "NightDoors" ({ cls := "NightDoors", name := "ask", desc := "(I)J" } : Jvm.MethodName) ({ cls := "NightDoors", name := "ask", desc := "(I)J" } : Jvm.MethodName)) ∈ lw_tbl := tk_4 (j := 153) rfl
theorem tw_1114 : (Jvm.Cond.code ({ cls := "NightDoors", name := "ask", desc := "(I)J" } : Jvm.MethodName) prog_1_method_31_code (3 : Nat) (Option.some Jvm.ClassFile.FieldType.long)) ∈ lw_tbl := tk_4 (j := 154) rfl
theorem tw_1115 : (Jvm.Cond.constantLong "NightDoors" (314 : Nat) (-1000000000000000 : Int64)) ∈ lw_tbl := tk_4 (j := 155) rfl
theorem tw_1116 : (Jvm.Cond.methodLink "NightDoors" (316 : Nat) ({ cls := "NightDoors$Question", name := "read", desc := "()Z" } : Jvm.MethodName)) ∈ lw_tbl := tk_4 (j := 156) rfl
theorem tw_1117 : (Jvm.Cond.instanceMethod ({ cls := "NightDoors$Question", name := "read", desc := "()Z" } : Jvm.MethodName)) ∈ lw_tbl := tk_4 (j := 157) rfl
theorem tw_1118 : (Jvm.Cond.selects "NightDoors$Question" ({ cls := "NightDoors$Question", name := "read", desc := "()Z" } : Jvm.MethodName) ({ cls := "NightDoors$Question", name := "read", desc := "()Z" } : Jvm.MethodName)) ∈ lw_tbl := tk_4 (j := 158) rfl
theorem tw_1119 : (Jvm.Cond.code ({ cls := "NightDoors$Question", name := "read", desc := "()Z" } : Jvm.MethodName) prog_7_method_2_code (1 : Nat) (Option.some Jvm.ClassFile.FieldType.boolean)) ∈ lw_tbl := tk_4 (j := 159) rfl
theorem tw_1120 : (Jvm.Cond.methodLink "NightDoors$Question" (30 : Nat) ({ cls := "NightDoors$Text", name := "start", desc := "()V" } : Jvm.MethodName)) ∈ lw_tbl := tk_4 (j := 160) rfl
theorem tw_1121 : (Jvm.Cond.methodLink "NightDoors$Question" (35 : Nat) ({ cls := "NightDoors$Reckoner", name := "clear", desc := "()V" } : Jvm.MethodName)) ∈ lw_tbl := tk_4 (j := 161) rfl
theorem tw_1122 : (Jvm.Cond.methodLink "NightDoors$Question" (38 : Nat) ({ cls := "NightDoors$SumReader", name := "write", desc := "(LNightDoors$Reckoner;Z)V" } : Jvm.MethodName)) ∈ lw_tbl := tk_4 (j := 162) rfl
theorem tw_1124 : (Jvm.Cond.methodLink "NightDoors$Question" (46 : Nat) ({ cls := "NightDoors$Text", name := "wordIn", desc := "(Ljava/lang/String;)I" } : Jvm.MethodName)) ∈ lw_tbl := tk_4 (j := 164) rfl
theorem tw_1125 : (Jvm.Cond.methodLink "NightDoors$Question" (50 : Nat) ({ cls := "NightDoors$Text", name := "blameHere", desc := "(I)V" } : Jvm.MethodName)) ∈ lw_tbl := tk_4 (j := 165) rfl
theorem tw_1126 : (Jvm.Cond.methodLink "NightDoors$Question" (54 : Nat) ({ cls := "NightDoors$Text", name := "skipWord", desc := "()V" } : Jvm.MethodName)) ∈ lw_tbl := tk_4 (j := 166) rfl
theorem tw_1127 : (Jvm.Cond.methodLink "NightDoors$Question" (57 : Nat) ({ cls := "NightDoors$Question", name := "readTest", desc := "(I)V" } : Jvm.MethodName)) ∈ lw_tbl := tk_4 (j := 167) rfl
theorem tw_1129 : (Jvm.Cond.instanceMethod ({ cls := "NightDoors$Question", name := "readTest", desc := "(I)V" } : Jvm.MethodName)) ∈ lw_tbl := tk_4 (j := 169) rfl
theorem tw_1130 : (Jvm.Cond.code ({ cls := "NightDoors$Question", name := "readTest", desc := "(I)V" } : Jvm.MethodName) prog_7_method_3_code (3 : Nat) (Option.none : Option Jvm.ClassFile.FieldType)) ∈ lw_tbl := tk_4 (j := 170) rfl
theorem tw_1131 : (Jvm.Cond.methodLink "NightDoors$Question" (70 : Nat) ({ cls := "NightDoors$Question", name := "readBoth", desc := "(I)V" } : Jvm.MethodName)) ∈ lw_tbl := tk_4 (j := 171) rfl
theorem tw_1133 : (Jvm.Cond.instanceMethod ({ cls := "NightDoors$Question", name := "readBoth", desc := "(I)V" } : Jvm.MethodName)) ∈ lw_tbl := tk_4 (j := 173) rfl
theorem tw_1134 : (Jvm.Cond.code ({ cls := "NightDoors$Question", name := "readBoth", desc := "(I)V" } : Jvm.MethodName) prog_7_method_4_code (3 : Nat) (Option.none : Option Jvm.ClassFile.FieldType)) ∈ lw_tbl := tk_4 (j := 174) rfl
theorem tw_1135 : (Jvm.Cond.methodLink "NightDoors$Question" (82 : Nat) ({ cls := "NightDoors$Question", name := "readFact", desc := "(I)V" } : Jvm.MethodName)) ∈ lw_tbl := tk_4 (j := 175) rfl
theorem tw_1137 : (Jvm.Cond.instanceMethod ({ cls := "NightDoors$Question", name := "readFact", desc := "(I)V" } : Jvm.MethodName)) ∈ lw_tbl := tk_4 (j := 177) rfl
theorem tw_1138 : (Jvm.Cond.code ({ cls := "NightDoors$Question", name := "readFact", desc := "(I)V" } : Jvm.MethodName) prog_7_method_5_code (3 : Nat) (Option.none : Option Jvm.ClassFile.FieldType)) ∈ lw_tbl := tk_4 (j := 178) rfl
theorem tw_1140 : (Jvm.Cond.methodLink "NightDoors$Question" (89 : Nat) ({ cls := "NightDoors$SumReader", name := "mayOpen", desc := "(I)Z" } : Jvm.MethodName)) ∈ lw_tbl := tk_4 (j := 180) rfl
theorem tw_1141 : (Jvm.Cond.methodLink "NightDoors$Question" (79 : Nat) ({ cls := "NightDoors$SumReader", name := "emit", desc := "(I)V" } : Jvm.MethodName)) ∈ lw_tbl := tk_4 (j := 181) rfl
theorem tw_1142 : (Jvm.Cond.methodLink "NightDoors$Question" (93 : Nat) ({ cls := "NightDoors$Text", name := "sees", desc := "(C)Z" } : Jvm.MethodName)) ∈ lw_tbl := tk_4 (j := 182) rfl
theorem tw_1143 : (Jvm.Cond.methodLink "NightDoors$Question" (97 : Nat) ({ cls := "NightDoors$Text", name := "step", desc := "()V" } : Jvm.MethodName)) ∈ lw_tbl := tk_4 (j := 183) rfl
theorem tw_1144 : (Jvm.Cond.methodLink "NightDoors$Question" (100 : Nat) ({ cls := "NightDoors$Text", name := "demand", desc := "(C)V" } : Jvm.MethodName)) ∈ lw_tbl := tk_4 (j := 184) rfl
theorem tw_1146 : (Jvm.Cond.methodLink "NightDoors$Question" (75 : Nat) ({ cls := "NightDoors$Text", name := "takeWord", desc := "(Ljava/lang/String;)Z" } : Jvm.MethodName)) ∈ lw_tbl := tk_4 (j := 186) rfl
theorem tw_1147 : (Jvm.Cond.methodLinkNest "NightDoors$Question" (60 : Nat) ({ cls := "NightDoors$SumReader", name := "readSum", desc := "(I)V" } : Jvm.MethodName) "NightDoors") ∈ lw_tbl := tk_4 (j := 187) rfl
theorem tw_1148 : (Jvm.Cond.methodLink "NightDoors$Question" (66 : Nat) ({ cls := "NightDoors$Text", name := "failed", desc := "()Z" } : Jvm.MethodName)) ∈ lw_tbl := tk_4 (j := 188) rfl
theorem tw_1151 : (Jvm.Cond.methodLink "NightDoors$Question" (63 : Nat) ({ cls := "NightDoors$Text", name := "demandEnd", desc := "()V" } : Jvm.MethodName)) ∈ lw_tbl := tk_4 (j := 191) rfl
theorem tw_1152 : (Jvm.Cond.instanceMethod ({ cls := "NightDoors$Text", name := "demandEnd", desc := "()V" } : Jvm.MethodName)) ∈ lw_tbl := tk_4 (j := 192) rfl
theorem tw_1153 : (Jvm.Cond.selects "NightDoors$Text" ({ cls := "NightDoors$Text", name := "demandEnd", desc := "()V" } : Jvm.MethodName) ({ cls := "NightDoors$Text", name := "demandEnd", desc := "()V" } : Jvm.MethodName)) ∈ lw_tbl := tk_4 (j := 193) rfl
theorem tw_1154 : (Jvm.Cond.code ({ cls := "NightDoors$Text", name := "demandEnd", desc := "()V" } : Jvm.MethodName) prog_11_method_14_code (1 : Nat) (Option.none : Option Jvm.ClassFile.FieldType)) ∈ lw_tbl := tk_4 (j := 194) rfl
theorem tw_1155 : (Jvm.Cond.methodLink "NightDoors" (319 : Nat) ({ cls := "NightDoors$Question", name := "answer", desc := "(LNightDoors$Ahead;)J" } : Jvm.MethodName)) ∈ lw_tbl := tk_4 (j := 195) rfl
theorem tw_1156 : (Jvm.Cond.instanceMethod ({ cls := "NightDoors$Question", name := "answer", desc := "(LNightDoors$Ahead;)J" } : Jvm.MethodName)) ∈ lw_tbl := tk_4 (j := 196) rfl
theorem tw_1157 : (Jvm.Cond.selects "NightDoors$Question" ({ cls := "NightDoors$Question", name := "answer", desc := "(LNightDoors$Ahead;)J" } : Jvm.MethodName) ({ cls := "NightDoors$Question", name := "answer", desc := "(LNightDoors$Ahead;)J" } : Jvm.MethodName)) ∈ lw_tbl := tk_4 (j := 197) rfl
theorem tw_1158 : (Jvm.Cond.code ({ cls := "NightDoors$Question", name := "answer", desc := "(LNightDoors$Ahead;)J" } : Jvm.MethodName) prog_7_method_6_code (11 : Nat) (Option.some Jvm.ClassFile.FieldType.long)) ∈ lw_tbl := tk_4 (j := 198) rfl
theorem tw_1159 : (Jvm.Cond.methodLink "NightDoors$Question" (111 : Nat) ({ cls := "NightDoors$Question", name := "valueIn", desc := "(LNightDoors$Ahead;I)I" } : Jvm.MethodName)) ∈ lw_tbl := tk_4 (j := 199) rfl
theorem tw_1161 : (Jvm.Cond.instanceMethod ({ cls := "NightDoors$Question", name := "valueIn", desc := "(LNightDoors$Ahead;I)I" } : Jvm.MethodName)) ∈ lw_tbl := tk_4 (j := 201) rfl
theorem tw_1162 : (Jvm.Cond.code ({ cls := "NightDoors$Question", name := "valueIn", desc := "(LNightDoors$Ahead;I)I" } : Jvm.MethodName) prog_7_method_7_code (3 : Nat) (Option.some Jvm.ClassFile.FieldType.int)) ∈ lw_tbl := tk_4 (j := 202) rfl
theorem tw_1163 : (Jvm.Cond.methodLink "NightDoors$Question" (128 : Nat) ({ cls := "NightDoors$Reckoner", name := "see", desc := "([II)V" } : Jvm.MethodName)) ∈ lw_tbl := tk_4 (j := 203) rfl
theorem tw_1164 : (Jvm.Cond.methodLink "NightDoors$Question" (132 : Nat) ({ cls := "NightDoors$Reckoner", name := "know", desc := "(II)V" } : Jvm.MethodName)) ∈ lw_tbl := tk_4 (j := 204) rfl
theorem tw_1165 : (Jvm.Cond.methodLink "NightDoors$Question" (136 : Nat) ({ cls := "NightDoors$Ahead", name := "dreadIn", desc := "(I)I" } : Jvm.MethodName)) ∈ lw_tbl := tk_4 (j := 205) rfl
theorem tw_1166 : (Jvm.Cond.methodLink "NightDoors$Question" (143 : Nat) ({ cls := "NightDoors$Reckoner", name := "value", desc := "(II)I" } : Jvm.MethodName)) ∈ lw_tbl := tk_4 (j := 206) rfl
theorem tw_1167 : (Jvm.Cond.methodLink "NightDoors$Question" (115 : Nat) ({ cls := "java/lang/Math", name := "max", desc := "(II)I" } : Jvm.MethodName)) ∈ lw_tbl := tk_4 (j := 207) rfl
theorem tw_1168 : (Jvm.Cond.methodLink "NightDoors$Question" (121 : Nat) ({ cls := "java/lang/Math", name := "min", desc := "(II)I" } : Jvm.MethodName)) ∈ lw_tbl := tk_4 (j := 208) rfl
theorem tw_1169 : (Jvm.Cond.methodLink "NightDoorsLaw" (143 : Nat) ({ cls := "NightDoors", name := "image", desc := "()I" } : Jvm.MethodName)) ∈ lw_tbl := tk_4 (j := 209) rfl
theorem tw_1170 : (Jvm.Cond.instanceMethod ({ cls := "NightDoors", name := "image", desc := "()I" } : Jvm.MethodName)) ∈ lw_tbl := tk_4 (j := 210) rfl
theorem tw_1171 : (Jvm.Cond.selects "NightDoors" ({ cls := "NightDoors", name := "image", desc := "()I" } : Jvm.MethodName) ({ cls := "NightDoors", name := "image", desc := "()I" } : Jvm.MethodName)) ∈ lw_tbl := tk_4 (j := 211) rfl
theorem tw_1172 : (Jvm.Cond.code ({ cls := "NightDoors", name := "image", desc := "()I" } : Jvm.MethodName) prog_1_method_32_code (4 : Nat) (Option.some Jvm.ClassFile.FieldType.int)) ∈ lw_tbl := tk_4 (j := 212) rfl
theorem tw_1173 : (Jvm.Cond.methodLink "NightDoors" (323 : Nat) ({ cls := "NightDoors", name := "paint", desc := "(I)V" } : Jvm.MethodName)) ∈ lw_tbl := tk_4 (j := 213) rfl
theorem tw_1175 : (Jvm.Cond.instanceMethod ({ cls := "NightDoors", name := "paint", desc := "(I)V" } : Jvm.MethodName)) ∈ lw_tbl := tk_4 (j := 215) rfl
theorem tw_1176 : (Jvm.Cond.code ({ cls := "NightDoors", name := "paint", desc := "(I)V" } : Jvm.MethodName) prog_1_method_41_code (2 : Nat) (Option.none : Option Jvm.ClassFile.FieldType)) ∈ lw_tbl := tk_4 (j := 216) rfl
theorem tw_1177 : (Jvm.Cond.methodLink "NightDoorsLaw" (147 : Nat) ({ cls := "NightDoors", name := "octet", desc := "(I)I" } : Jvm.MethodName)) ∈ lw_tbl := tk_4 (j := 217) rfl
theorem tw_1178 : (Jvm.Cond.instanceMethod ({ cls := "NightDoors", name := "octet", desc := "(I)I" } : Jvm.MethodName)) ∈ lw_tbl := tk_4 (j := 218) rfl
theorem tw_1179 : (Jvm.Cond.selects "NightDoors" ({ cls := "NightDoors", name := "octet", desc := "(I)I" } : Jvm.MethodName) ({ cls := "NightDoors", name := "octet", desc := "(I)I" } : Jvm.MethodName)) ∈ lw_tbl := tk_4 (j := 219) rfl
theorem tw_1180 : (Jvm.Cond.code ({ cls := "NightDoors", name := "octet", desc := "(I)I" } : Jvm.MethodName) prog_1_method_33_code (2 : Nat) (Option.some Jvm.ClassFile.FieldType.int)) ∈ lw_tbl := tk_4 (j := 220) rfl
theorem tw_1181 : (Jvm.Cond.methodLink "NightDoorsLaw" (151 : Nat) ({ cls := "NightDoors", name := "on", desc := "()Z" } : Jvm.MethodName)) ∈ lw_tbl := tk_4 (j := 221) rfl
theorem tw_1182 : (Jvm.Cond.instanceMethod ({ cls := "NightDoors", name := "on", desc := "()Z" } : Jvm.MethodName)) ∈ lw_tbl := tk_4 (j := 222) rfl
theorem tw_1183 : (Jvm.Cond.selects "NightDoors" ({ cls := "NightDoors", name := "on", desc := "()Z" } : Jvm.MethodName) ({ cls := "NightDoors", name := "on", desc := "()Z" } : Jvm.MethodName)) ∈ lw_tbl := tk_4 (j := 223) rfl
theorem tw_1184 : (Jvm.Cond.code ({ cls := "NightDoors", name := "on", desc := "()Z" } : Jvm.MethodName) prog_1_method_34_code (5 : Nat) (Option.some Jvm.ClassFile.FieldType.boolean)) ∈ lw_tbl := tk_4 (j := 224) rfl
theorem tw_1185 : (Jvm.Cond.methodLink "NightDoors" (326 : Nat) ({ cls := "NightDoors", name := "isPicture", desc := "()Z" } : Jvm.MethodName)) ∈ lw_tbl := tk_4 (j := 225) rfl
theorem tw_1187 : (Jvm.Cond.instanceMethod ({ cls := "NightDoors", name := "isPicture", desc := "()Z" } : Jvm.MethodName)) ∈ lw_tbl := tk_4 (j := 227) rfl
theorem tw_1188 : (Jvm.Cond.code ({ cls := "NightDoors", name := "isPicture", desc := "()Z" } : Jvm.MethodName) prog_1_method_42_code (7 : Nat) (Option.some Jvm.ClassFile.FieldType.boolean)) ∈ lw_tbl := tk_4 (j := 228) rfl
theorem tw_1189 : (Jvm.Cond.methodLink "NightDoors" (329 : Nat) ({ cls := "NightDoors$Text", name := "pairAt", desc := "(I)I" } : Jvm.MethodName)) ∈ lw_tbl := tk_4 (j := 229) rfl
theorem tw_1190 : (Jvm.Cond.instanceMethod ({ cls := "NightDoors$Text", name := "pairAt", desc := "(I)I" } : Jvm.MethodName)) ∈ lw_tbl := tk_4 (j := 230) rfl
theorem tw_1191 : (Jvm.Cond.selects "NightDoors$Text" ({ cls := "NightDoors$Text", name := "pairAt", desc := "(I)I" } : Jvm.MethodName) ({ cls := "NightDoors$Text", name := "pairAt", desc := "(I)I" } : Jvm.MethodName)) ∈ lw_tbl := tk_4 (j := 231) rfl
theorem tw_1192 : (Jvm.Cond.code ({ cls := "NightDoors$Text", name := "pairAt", desc := "(I)I" } : Jvm.MethodName) prog_11_method_5_code (2 : Nat) (Option.some Jvm.ClassFile.FieldType.int)) ∈ lw_tbl := tk_4 (j := 232) rfl
theorem tw_1193 : (Jvm.Cond.methodLink "NightDoorsLaw" (155 : Nat) ({ cls := "NightDoors", name := "status", desc := "(I)I" } : Jvm.MethodName)) ∈ lw_tbl := tk_4 (j := 233) rfl
theorem tw_1194 : (Jvm.Cond.instanceMethod ({ cls := "NightDoors", name := "status", desc := "(I)I" } : Jvm.MethodName)) ∈ lw_tbl := tk_4 (j := 234) rfl
theorem tw_1195 : (Jvm.Cond.selects "NightDoors" ({ cls := "NightDoors", name := "status", desc := "(I)I" } : Jvm.MethodName) ({ cls := "NightDoors", name := "status", desc := "(I)I" } : Jvm.MethodName)) ∈ lw_tbl := tk_4 (j := 235) rfl
theorem tw_1196 : (Jvm.Cond.code ({ cls := "NightDoors", name := "status", desc := "(I)I" } : Jvm.MethodName) prog_1_method_35_code (2 : Nat) (Option.some Jvm.ClassFile.FieldType.int)) ∈ lw_tbl := tk_4 (j := 236) rfl
theorem tw_1197 : (Jvm.Cond.classLink "NightDoorsLaw" (10 : Nat) "NightDoorsModel") ∈ lw_tbl := tk_4 (j := 237) rfl
theorem tw_1198 : (Jvm.Cond.instantiable "NightDoorsModel" (94 : Nat)) ∈ lw_tbl := tk_4 (j := 238) rfl
theorem tw_1199 : (Jvm.Cond.methodLink "NightDoorsLaw" (12 : Nat) ({ cls := "NightDoorsModel", name := "<init>", desc := "()V" } : Jvm.MethodName)) ∈ lw_tbl := tk_4 (j := 239) rfl
theorem tw_1200 : (Jvm.Cond.instanceMethod ({ cls := "NightDoorsModel", name := "<init>", desc := "()V" } : Jvm.MethodName)) ∈ lw_tbl := tk_5 (j := 0) rfl
theorem tw_1201 : (Jvm.Cond.code ({ cls := "NightDoorsModel", name := "<init>", desc := "()V" } : Jvm.MethodName) prog_14_method_1_code (1 : Nat) (Option.none : Option Jvm.ClassFile.FieldType)) ∈ lw_tbl := tk_5 (j := 1) rfl
theorem tw_1202 : (Jvm.Cond.methodLink "NightDoorsModel" (1 : Nat) ({ cls := "java/lang/Object", name := "<init>", desc := "()V" } : Jvm.MethodName)) ∈ lw_tbl := tk_5 (j := 2) rfl
theorem tw_1203 : (Jvm.Cond.fieldLink "NightDoorsModel" (7 : Nat) "NightDoorsModel" "tape" "[I") ∈ lw_tbl := tk_5 (j := 3) rfl
theorem tw_1204 : (Jvm.Cond.fieldLink "NightDoorsModel" (206 : Nat) "NightDoorsModel" "taped" "I") ∈ lw_tbl := tk_5 (j := 4) rfl
theorem tw_1205 : (Jvm.Cond.fieldLink "NightDoorsModel" (215 : Nat) "NightDoorsModel" "at" "I") ∈ lw_tbl := tk_5 (j := 5) rfl
theorem tw_1206 : (Jvm.Cond.fieldLink "NightDoorsModel" (218 : Nat) "NightDoorsModel" "end" "I") ∈ lw_tbl := tk_5 (j := 6) rfl
theorem tw_1207 : (Jvm.Cond.fieldLink "NightDoorsModel" (229 : Nat) "NightDoorsModel" "ended" "I") ∈ lw_tbl := tk_5 (j := 7) rfl
theorem tw_1208 : (Jvm.Cond.fieldLink "NightDoorsModel" (209 : Nat) "NightDoorsModel" "bad" "I") ∈ lw_tbl := tk_5 (j := 8) rfl
theorem tw_1209 : (Jvm.Cond.fieldLink "NightDoorsModel" (212 : Nat) "NightDoorsModel" "badPlace" "I") ∈ lw_tbl := tk_5 (j := 9) rfl
theorem tw_1210 : (Jvm.Cond.fieldLink "NightDoorsModel" (331 : Nat) "NightDoorsModel" "fault" "I") ∈ lw_tbl := tk_5 (j := 10) rfl
theorem tw_1211 : (Jvm.Cond.fieldLink "NightDoorsModel" (13 : Nat) "NightDoorsModel" "faultPlace" "I") ∈ lw_tbl := tk_5 (j := 11) rfl
theorem tw_1212 : (Jvm.Cond.fieldLink "NightDoorsModel" (17 : Nat) "NightDoorsModel" "refused" "[I") ∈ lw_tbl := tk_5 (j := 12) rfl
theorem tw_1213 : (Jvm.Cond.fieldLink "NightDoorsModel" (20 : Nat) "NightDoorsModel" "dreadWord" "[C") ∈ lw_tbl := tk_5 (j := 13) rfl
theorem tw_1214 : (Jvm.Cond.fieldLink "NightDoorsModel" (24 : Nat) "NightDoorsModel" "dreamerWord" "[C") ∈ lw_tbl := tk_5 (j := 14) rfl
theorem tw_1215 : (Jvm.Cond.fieldLink "NightDoorsModel" (27 : Nat) "NightDoorsModel" "braveWord" "[C") ∈ lw_tbl := tk_5 (j := 15) rfl
theorem tw_1216 : (Jvm.Cond.fieldLink "NightDoorsModel" (30 : Nat) "NightDoorsModel" "fearsWord" "[C") ∈ lw_tbl := tk_5 (j := 16) rfl
theorem tw_1217 : (Jvm.Cond.fieldLink "NightDoorsModel" (33 : Nat) "NightDoorsModel" "guideWord" "[C") ∈ lw_tbl := tk_5 (j := 17) rfl
theorem tw_1218 : (Jvm.Cond.fieldLink "NightDoorsModel" (36 : Nat) "NightDoorsModel" "ofWord" "[C") ∈ lw_tbl := tk_5 (j := 18) rfl
theorem tw_1219 : (Jvm.Cond.fieldLink "NightDoorsModel" (39 : Nat) "NightDoorsModel" "meetWord" "[C") ∈ lw_tbl := tk_5 (j := 19) rfl
theorem tw_1220 : (Jvm.Cond.fieldLink "NightDoorsModel" (42 : Nat) "NightDoorsModel" "shunWord" "[C") ∈ lw_tbl := tk_5 (j := 20) rfl
theorem tw_1221 : (Jvm.Cond.fieldLink "NightDoorsModel" (45 : Nat) "NightDoorsModel" "bydayWord" "[C") ∈ lw_tbl := tk_5 (j := 21) rfl
theorem tw_1222 : (Jvm.Cond.fieldLink "NightDoorsModel" (48 : Nat) "NightDoorsModel" "homeWord" "[C") ∈ lw_tbl := tk_5 (j := 22) rfl
theorem tw_1223 : (Jvm.Cond.fieldLink "NightDoorsModel" (51 : Nat) "NightDoorsModel" "laughWord" "[C") ∈ lw_tbl := tk_5 (j := 23) rfl
theorem tw_1224 : (Jvm.Cond.fieldLink "NightDoorsModel" (54 : Nat) "NightDoorsModel" "spiteWord" "[C") ∈ lw_tbl := tk_5 (j := 24) rfl
theorem tw_1225 : (Jvm.Cond.fieldLink "NightDoorsModel" (57 : Nat) "NightDoorsModel" "weighWord" "[C") ∈ lw_tbl := tk_5 (j := 25) rfl
theorem tw_1226 : (Jvm.Cond.fieldLink "NightDoorsModel" (60 : Nat) "NightDoorsModel" "worstWord" "[C") ∈ lw_tbl := tk_5 (j := 26) rfl
theorem tw_1227 : (Jvm.Cond.fieldLink "NightDoorsModel" (63 : Nat) "NightDoorsModel" "sumWord" "[C") ∈ lw_tbl := tk_5 (j := 27) rfl
theorem tw_1228 : (Jvm.Cond.fieldLink "NightDoorsModel" (66 : Nat) "NightDoorsModel" "manyWord" "[C") ∈ lw_tbl := tk_5 (j := 28) rfl
theorem tw_1229 : (Jvm.Cond.fieldLink "NightDoorsModel" (69 : Nat) "NightDoorsModel" "numberWord" "[C") ∈ lw_tbl := tk_5 (j := 29) rfl
theorem tw_1230 : (Jvm.Cond.fieldLink "NightDoorsModel" (72 : Nat) "NightDoorsModel" "minWord" "[C") ∈ lw_tbl := tk_5 (j := 30) rfl
theorem tw_1231 : (Jvm.Cond.fieldLink "NightDoorsModel" (75 : Nat) "NightDoorsModel" "maxWord" "[C") ∈ lw_tbl := tk_5 (j := 31) rfl
theorem tw_1232 : (Jvm.Cond.fieldLink "NightDoorsModel" (257 : Nat) "NightDoorsModel" "namePlace" "I") ∈ lw_tbl := tk_5 (j := 32) rfl
theorem tw_1233 : (Jvm.Cond.fieldLink "NightDoorsModel" (78 : Nat) "NightDoorsModel" "many" "[I") ∈ lw_tbl := tk_5 (j := 33) rfl
theorem tw_1234 : (Jvm.Cond.fieldLink "NightDoorsModel" (81 : Nat) "NightDoorsModel" "names" "[J") ∈ lw_tbl := tk_5 (j := 34) rfl
theorem tw_1235 : (Jvm.Cond.fieldLink "NightDoorsModel" (85 : Nat) "NightDoorsModel" "brave" "[I") ∈ lw_tbl := tk_5 (j := 35) rfl
theorem tw_1236 : (Jvm.Cond.fieldLink "NightDoorsModel" (88 : Nat) "NightDoorsModel" "fears" "[I") ∈ lw_tbl := tk_5 (j := 36) rfl
theorem tw_1237 : (Jvm.Cond.fieldLink "NightDoorsModel" (91 : Nat) "NightDoorsModel" "guideDread" "[I") ∈ lw_tbl := tk_5 (j := 37) rfl
theorem tw_1238 : (Jvm.Cond.fieldLink "NightDoorsModel" (94 : Nat) "NightDoorsModel" "settings" "[I") ∈ lw_tbl := tk_5 (j := 38) rfl
theorem tw_1239 : (Jvm.Cond.fieldLink "NightDoorsModel" (97 : Nat) "NightDoorsModel" "sumFrom" "[I") ∈ lw_tbl := tk_5 (j := 39) rfl
theorem tw_1240 : (Jvm.Cond.fieldLink "NightDoorsModel" (100 : Nat) "NightDoorsModel" "sumEnd" "[I") ∈ lw_tbl := tk_5 (j := 40) rfl
theorem tw_1241 : (Jvm.Cond.fieldLink "NightDoorsModel" (306 : Nat) "NightDoorsModel" "statements" "I") ∈ lw_tbl := tk_5 (j := 41) rfl
theorem tw_1242 : (Jvm.Cond.fieldLink "NightDoorsModel" (103 : Nat) "NightDoorsModel" "codes" "[I") ∈ lw_tbl := tk_5 (j := 42) rfl
theorem tw_1243 : (Jvm.Cond.fieldLink "NightDoorsModel" (291 : Nat) "NightDoorsModel" "coded" "I") ∈ lw_tbl := tk_5 (j := 43) rfl
theorem tw_1244 : (Jvm.Cond.fieldLink "NightDoorsModel" (106 : Nat) "NightDoorsModel" "wait" "[I") ∈ lw_tbl := tk_5 (j := 44) rfl
theorem tw_1245 : (Jvm.Cond.fieldLink "NightDoorsModel" (294 : Nat) "NightDoorsModel" "waits" "I") ∈ lw_tbl := tk_5 (j := 45) rfl
theorem tw_1246 : (Jvm.Cond.fieldLink "NightDoorsModel" (297 : Nat) "NightDoorsModel" "open" "I") ∈ lw_tbl := tk_5 (j := 46) rfl
theorem tw_1247 : (Jvm.Cond.fieldLink "NightDoorsModel" (300 : Nat) "NightDoorsModel" "base" "I") ∈ lw_tbl := tk_5 (j := 47) rfl
theorem tw_1248 : (Jvm.Cond.fieldLink "NightDoorsModel" (109 : Nat) "NightDoorsModel" "pile" "[J") ∈ lw_tbl := tk_5 (j := 48) rfl
theorem tw_1249 : (Jvm.Cond.fieldLink "NightDoorsModel" (374 : Nat) "NightDoorsModel" "piled" "I") ∈ lw_tbl := tk_5 (j := 49) rfl
theorem tw_1250 : (Jvm.Cond.fieldLink "NightDoorsModel" (112 : Nat) "NightDoorsModel" "ask" "[I") ∈ lw_tbl := tk_5 (j := 50) rfl
theorem tw_1251 : (Jvm.Cond.fieldLink "NightDoorsModel" (115 : Nat) "NightDoorsModel" "now" "[I") ∈ lw_tbl := tk_5 (j := 51) rfl
theorem tw_1252 : (Jvm.Cond.fieldLink "NightDoorsModel" (118 : Nat) "NightDoorsModel" "rows" "[I") ∈ lw_tbl := tk_5 (j := 52) rfl
theorem tw_1253 : (Jvm.Cond.fieldLink "NightDoorsModel" (457 : Nat) "NightDoorsModel" "aheadMany" "I") ∈ lw_tbl := tk_5 (j := 53) rfl
theorem tw_1254 : (Jvm.Cond.fieldLink "NightDoorsModel" (121 : Nat) "NightDoorsModel" "aheadWith" "[I") ∈ lw_tbl := tk_5 (j := 54) rfl
theorem tw_1255 : (Jvm.Cond.fieldLink "NightDoorsModel" (482 : Nat) "NightDoorsModel" "dreaded" "I") ∈ lw_tbl := tk_5 (j := 55) rfl
theorem tw_1256 : (Jvm.Cond.fieldLink "NightDoorsModel" (492 : Nat) "NightDoorsModel" "bestWay" "I") ∈ lw_tbl := tk_5 (j := 56) rfl
theorem tw_1257 : (Jvm.Cond.fieldLink "NightDoorsModel" (485 : Nat) "NightDoorsModel" "bestRooms" "I") ∈ lw_tbl := tk_5 (j := 57) rfl
theorem tw_1258 : (Jvm.Cond.fieldLink "NightDoorsModel" (124 : Nat) "NightDoorsModel" "order" "[I") ∈ lw_tbl := tk_5 (j := 58) rfl
theorem tw_1259 : (Jvm.Cond.fieldLink "NightDoorsModel" (127 : Nat) "NightDoorsModel" "bestOrder" "[I") ∈ lw_tbl := tk_5 (j := 59) rfl
theorem tw_1260 : (Jvm.Cond.fieldLink "NightDoorsModel" (130 : Nat) "NightDoorsModel" "kept" "[I") ∈ lw_tbl := tk_5 (j := 60) rfl
theorem tw_1261 : (Jvm.Cond.fieldLink "NightDoorsModel" (337 : Nat) "NightDoorsModel" "undoable" "I") ∈ lw_tbl := tk_5 (j := 61) rfl
theorem tw_1262 : (Jvm.Cond.fieldLink "NightDoorsModel" (543 : Nat) "NightDoorsModel" "newest" "I") ∈ lw_tbl := tk_5 (j := 62) rfl
theorem tw_1263 : (Jvm.Cond.fieldLink "NightDoorsModel" (133 : Nat) "NightDoorsModel" "seeded" "J") ∈ lw_tbl := tk_5 (j := 63) rfl
theorem tw_1264 : (Jvm.Cond.fieldLink "NightDoorsModel" (340 : Nat) "NightDoorsModel" "toldMany" "I") ∈ lw_tbl := tk_5 (j := 64) rfl
theorem tw_1265 : (Jvm.Cond.fieldLink "NightDoorsModel" (570 : Nat) "NightDoorsModel" "toldOf" "I") ∈ lw_tbl := tk_5 (j := 65) rfl
theorem tw_1266 : (Jvm.Cond.fieldLink "NightDoorsModel" (137 : Nat) "NightDoorsModel" "toldDread" "[I") ∈ lw_tbl := tk_5 (j := 66) rfl
theorem tw_1267 : (Jvm.Cond.fieldLink "NightDoorsModel" (140 : Nat) "NightDoorsModel" "firstAsked" "[C") ∈ lw_tbl := tk_5 (j := 67) rfl
theorem tw_1268 : (Jvm.Cond.fieldLink "NightDoorsModel" (143 : Nat) "NightDoorsModel" "lastAsked" "[C") ∈ lw_tbl := tk_5 (j := 68) rfl
theorem tw_1269 : (Jvm.Cond.fieldLink "NightDoorsModel" (146 : Nat) "NightDoorsModel" "oftenAsked" "[C") ∈ lw_tbl := tk_5 (j := 69) rfl
theorem tw_1270 : (Jvm.Cond.fieldLink "NightDoorsModel" (149 : Nat) "NightDoorsModel" "totalAsked" "[C") ∈ lw_tbl := tk_5 (j := 70) rfl
theorem tw_1271 : (Jvm.Cond.fieldLink "NightDoorsModel" (152 : Nat) "NightDoorsModel" "mostAsked" "[C") ∈ lw_tbl := tk_5 (j := 71) rfl
theorem tw_1272 : (Jvm.Cond.fieldLink "NightDoorsModel" (155 : Nat) "NightDoorsModel" "leastAsked" "[C") ∈ lw_tbl := tk_5 (j := 72) rfl
theorem tw_1273 : (Jvm.Cond.fieldLink "NightDoorsModel" (158 : Nat) "NightDoorsModel" "notAsked" "[C") ∈ lw_tbl := tk_5 (j := 73) rfl
theorem tw_1274 : (Jvm.Cond.fieldLink "NightDoorsModel" (161 : Nat) "NightDoorsModel" "andAsked" "[C") ∈ lw_tbl := tk_5 (j := 74) rfl
theorem tw_1275 : (Jvm.Cond.fieldLink "NightDoorsModel" (164 : Nat) "NightDoorsModel" "orAsked" "[C") ∈ lw_tbl := tk_5 (j := 75) rfl
theorem tw_1276 : (Jvm.Cond.fieldLink "NightDoorsModel" (167 : Nat) "NightDoorsModel" "allAsked" "[C") ∈ lw_tbl := tk_5 (j := 76) rfl
theorem tw_1277 : (Jvm.Cond.fieldLink "NightDoorsModel" (170 : Nat) "NightDoorsModel" "minAsked" "[C") ∈ lw_tbl := tk_5 (j := 77) rfl
theorem tw_1278 : (Jvm.Cond.fieldLink "NightDoorsModel" (173 : Nat) "NightDoorsModel" "maxAsked" "[C") ∈ lw_tbl := tk_5 (j := 78) rfl
theorem tw_1279 : (Jvm.Cond.fieldLink "NightDoorsModel" (176 : Nat) "NightDoorsModel" "roomAsked" "[C") ∈ lw_tbl := tk_5 (j := 79) rfl
theorem tw_1280 : (Jvm.Cond.fieldLink "NightDoorsModel" (179 : Nat) "NightDoorsModel" "dreadAsked" "[C") ∈ lw_tbl := tk_5 (j := 80) rfl
theorem tw_1281 : (Jvm.Cond.fieldLink "NightDoorsModel" (182 : Nat) "NightDoorsModel" "worstAsked" "[C") ∈ lw_tbl := tk_5 (j := 81) rfl
theorem tw_1282 : (Jvm.Cond.fieldLink "NightDoorsModel" (185 : Nat) "NightDoorsModel" "sumAsked" "[C") ∈ lw_tbl := tk_5 (j := 82) rfl
theorem tw_1283 : (Jvm.Cond.fieldLink "NightDoorsModel" (188 : Nat) "NightDoorsModel" "manyAsked" "[C") ∈ lw_tbl := tk_5 (j := 83) rfl
theorem tw_1284 : (Jvm.Cond.fieldLink "NightDoorsModel" (191 : Nat) "NightDoorsModel" "weighAsked" "[C") ∈ lw_tbl := tk_5 (j := 84) rfl
theorem tw_1285 : (Jvm.Cond.fieldLink "NightDoorsModel" (194 : Nat) "NightDoorsModel" "qCodes" "[I") ∈ lw_tbl := tk_5 (j := 85) rfl
theorem tw_1286 : (Jvm.Cond.fieldLink "NightDoorsModel" (576 : Nat) "NightDoorsModel" "qCoded" "I") ∈ lw_tbl := tk_5 (j := 86) rfl
theorem tw_1287 : (Jvm.Cond.fieldLink "NightDoorsModel" (197 : Nat) "NightDoorsModel" "qWait" "[I") ∈ lw_tbl := tk_5 (j := 87) rfl
theorem tw_1288 : (Jvm.Cond.fieldLink "NightDoorsModel" (582 : Nat) "NightDoorsModel" "qWaits" "I") ∈ lw_tbl := tk_5 (j := 88) rfl
theorem tw_1289 : (Jvm.Cond.fieldLink "NightDoorsModel" (579 : Nat) "NightDoorsModel" "qOpened" "I") ∈ lw_tbl := tk_5 (j := 89) rfl
theorem tw_1290 : (Jvm.Cond.fieldLink "NightDoorsModel" (588 : Nat) "NightDoorsModel" "qBase" "I") ∈ lw_tbl := tk_5 (j := 90) rfl
theorem tw_1291 : (Jvm.Cond.fieldLink "NightDoorsModel" (200 : Nat) "NightDoorsModel" "qPile" "[J") ∈ lw_tbl := tk_5 (j := 91) rfl
theorem tw_1292 : (Jvm.Cond.fieldLink "NightDoorsModel" (642 : Nat) "NightDoorsModel" "qPiled" "I") ∈ lw_tbl := tk_5 (j := 92) rfl
theorem tw_1293 : (Jvm.Cond.fieldLink "NightDoorsModel" (669 : Nat) "NightDoorsModel" "qAnswer" "J") ∈ lw_tbl := tk_5 (j := 93) rfl
theorem tw_1294 : (Jvm.Cond.fieldLink "NightDoorsModel" (672 : Nat) "NightDoorsModel" "qIsNew" "Z") ∈ lw_tbl := tk_5 (j := 94) rfl
theorem tw_1295 : (Jvm.Cond.fieldLink "NightDoorsModel" (203 : Nat) "NightDoorsModel" "octet" "[I") ∈ lw_tbl := tk_5 (j := 95) rfl
theorem tw_1296 : (Jvm.Cond.fieldLink "NightDoorsModel" (691 : Nat) "NightDoorsModel" "octets" "I") ∈ lw_tbl := tk_5 (j := 96) rfl
theorem tw_1297 : (Jvm.Cond.laysFinal "NightDoorsModel" "NightDoorsModel" "tape" "[I") ∈ lw_tbl := tk_5 (j := 97) rfl
theorem tw_1299 : (Jvm.Cond.lays "NightDoorsModel" "NightDoorsModel" "taped" "I") ∈ lw_tbl := tk_5 (j := 99) rfl
theorem tw_1301 : (Jvm.Cond.lays "NightDoorsModel" "NightDoorsModel" "at" "I") ∈ lw_tbl := tk_5 (j := 101) rfl
theorem tw_1303 : (Jvm.Cond.lays "NightDoorsModel" "NightDoorsModel" "end" "I") ∈ lw_tbl := tk_5 (j := 103) rfl
theorem tw_1305 : (Jvm.Cond.lays "NightDoorsModel" "NightDoorsModel" "ended" "I") ∈ lw_tbl := tk_5 (j := 105) rfl
theorem tw_1307 : (Jvm.Cond.lays "NightDoorsModel" "NightDoorsModel" "bad" "I") ∈ lw_tbl := tk_5 (j := 107) rfl
theorem tw_1309 : (Jvm.Cond.lays "NightDoorsModel" "NightDoorsModel" "badPlace" "I") ∈ lw_tbl := tk_5 (j := 109) rfl
theorem tw_1311 : (Jvm.Cond.lays "NightDoorsModel" "NightDoorsModel" "fault" "I") ∈ lw_tbl := tk_5 (j := 111) rfl
theorem tw_1313 : (Jvm.Cond.lays "NightDoorsModel" "NightDoorsModel" "faultPlace" "I") ∈ lw_tbl := tk_5 (j := 113) rfl
theorem tw_1315 : (Jvm.Cond.laysFinal "NightDoorsModel" "NightDoorsModel" "refused" "[I") ∈ lw_tbl := tk_5 (j := 115) rfl
theorem tw_1317 : (Jvm.Cond.laysFinal "NightDoorsModel" "NightDoorsModel" "dreadWord" "[C") ∈ lw_tbl := tk_5 (j := 117) rfl
theorem tw_1319 : (Jvm.Cond.laysFinal "NightDoorsModel" "NightDoorsModel" "dreamerWord" "[C") ∈ lw_tbl := tk_5 (j := 119) rfl
theorem tw_1321 : (Jvm.Cond.laysFinal "NightDoorsModel" "NightDoorsModel" "braveWord" "[C") ∈ lw_tbl := tk_5 (j := 121) rfl
theorem tw_1323 : (Jvm.Cond.laysFinal "NightDoorsModel" "NightDoorsModel" "fearsWord" "[C") ∈ lw_tbl := tk_5 (j := 123) rfl
theorem tw_1325 : (Jvm.Cond.laysFinal "NightDoorsModel" "NightDoorsModel" "guideWord" "[C") ∈ lw_tbl := tk_5 (j := 125) rfl
theorem tw_1327 : (Jvm.Cond.laysFinal "NightDoorsModel" "NightDoorsModel" "ofWord" "[C") ∈ lw_tbl := tk_5 (j := 127) rfl
theorem tw_1329 : (Jvm.Cond.laysFinal "NightDoorsModel" "NightDoorsModel" "meetWord" "[C") ∈ lw_tbl := tk_5 (j := 129) rfl
theorem tw_1331 : (Jvm.Cond.laysFinal "NightDoorsModel" "NightDoorsModel" "shunWord" "[C") ∈ lw_tbl := tk_5 (j := 131) rfl
theorem tw_1333 : (Jvm.Cond.laysFinal "NightDoorsModel" "NightDoorsModel" "bydayWord" "[C") ∈ lw_tbl := tk_5 (j := 133) rfl
theorem tw_1335 : (Jvm.Cond.laysFinal "NightDoorsModel" "NightDoorsModel" "homeWord" "[C") ∈ lw_tbl := tk_5 (j := 135) rfl
theorem tw_1337 : (Jvm.Cond.laysFinal "NightDoorsModel" "NightDoorsModel" "laughWord" "[C") ∈ lw_tbl := tk_5 (j := 137) rfl
theorem tw_1339 : (Jvm.Cond.laysFinal "NightDoorsModel" "NightDoorsModel" "spiteWord" "[C") ∈ lw_tbl := tk_5 (j := 139) rfl
theorem tw_1341 : (Jvm.Cond.laysFinal "NightDoorsModel" "NightDoorsModel" "weighWord" "[C") ∈ lw_tbl := tk_5 (j := 141) rfl
theorem tw_1343 : (Jvm.Cond.laysFinal "NightDoorsModel" "NightDoorsModel" "worstWord" "[C") ∈ lw_tbl := tk_5 (j := 143) rfl
theorem tw_1345 : (Jvm.Cond.laysFinal "NightDoorsModel" "NightDoorsModel" "sumWord" "[C") ∈ lw_tbl := tk_5 (j := 145) rfl
theorem tw_1347 : (Jvm.Cond.laysFinal "NightDoorsModel" "NightDoorsModel" "manyWord" "[C") ∈ lw_tbl := tk_5 (j := 147) rfl
theorem tw_1349 : (Jvm.Cond.laysFinal "NightDoorsModel" "NightDoorsModel" "numberWord" "[C") ∈ lw_tbl := tk_5 (j := 149) rfl
theorem tw_1351 : (Jvm.Cond.laysFinal "NightDoorsModel" "NightDoorsModel" "minWord" "[C") ∈ lw_tbl := tk_5 (j := 151) rfl
theorem tw_1353 : (Jvm.Cond.laysFinal "NightDoorsModel" "NightDoorsModel" "maxWord" "[C") ∈ lw_tbl := tk_5 (j := 153) rfl
theorem tw_1355 : (Jvm.Cond.lays "NightDoorsModel" "NightDoorsModel" "namePlace" "I") ∈ lw_tbl := tk_5 (j := 155) rfl
theorem tw_1357 : (Jvm.Cond.laysFinal "NightDoorsModel" "NightDoorsModel" "many" "[I") ∈ lw_tbl := tk_5 (j := 157) rfl
theorem tw_1359 : (Jvm.Cond.laysFinal "NightDoorsModel" "NightDoorsModel" "names" "[J") ∈ lw_tbl := tk_5 (j := 159) rfl
theorem tw_1361 : (Jvm.Cond.laysFinal "NightDoorsModel" "NightDoorsModel" "brave" "[I") ∈ lw_tbl := tk_5 (j := 161) rfl
theorem tw_1363 : (Jvm.Cond.laysFinal "NightDoorsModel" "NightDoorsModel" "fears" "[I") ∈ lw_tbl := tk_5 (j := 163) rfl
theorem tw_1365 : (Jvm.Cond.laysFinal "NightDoorsModel" "NightDoorsModel" "guideDread" "[I") ∈ lw_tbl := tk_5 (j := 165) rfl
theorem tw_1367 : (Jvm.Cond.laysFinal "NightDoorsModel" "NightDoorsModel" "settings" "[I") ∈ lw_tbl := tk_5 (j := 167) rfl
theorem tw_1369 : (Jvm.Cond.laysFinal "NightDoorsModel" "NightDoorsModel" "sumFrom" "[I") ∈ lw_tbl := tk_5 (j := 169) rfl
theorem tw_1371 : (Jvm.Cond.laysFinal "NightDoorsModel" "NightDoorsModel" "sumEnd" "[I") ∈ lw_tbl := tk_5 (j := 171) rfl
theorem tw_1373 : (Jvm.Cond.lays "NightDoorsModel" "NightDoorsModel" "statements" "I") ∈ lw_tbl := tk_5 (j := 173) rfl
theorem tw_1375 : (Jvm.Cond.laysFinal "NightDoorsModel" "NightDoorsModel" "codes" "[I") ∈ lw_tbl := tk_5 (j := 175) rfl
theorem tw_1377 : (Jvm.Cond.lays "NightDoorsModel" "NightDoorsModel" "coded" "I") ∈ lw_tbl := tk_5 (j := 177) rfl
theorem tw_1379 : (Jvm.Cond.laysFinal "NightDoorsModel" "NightDoorsModel" "wait" "[I") ∈ lw_tbl := tk_5 (j := 179) rfl
theorem tw_1381 : (Jvm.Cond.lays "NightDoorsModel" "NightDoorsModel" "waits" "I") ∈ lw_tbl := tk_5 (j := 181) rfl
theorem tw_1383 : (Jvm.Cond.lays "NightDoorsModel" "NightDoorsModel" "open" "I") ∈ lw_tbl := tk_5 (j := 183) rfl
theorem tw_1385 : (Jvm.Cond.lays "NightDoorsModel" "NightDoorsModel" "base" "I") ∈ lw_tbl := tk_5 (j := 185) rfl
theorem tw_1387 : (Jvm.Cond.laysFinal "NightDoorsModel" "NightDoorsModel" "pile" "[J") ∈ lw_tbl := tk_5 (j := 187) rfl
theorem tw_1389 : (Jvm.Cond.lays "NightDoorsModel" "NightDoorsModel" "piled" "I") ∈ lw_tbl := tk_5 (j := 189) rfl
theorem tw_1391 : (Jvm.Cond.laysFinal "NightDoorsModel" "NightDoorsModel" "ask" "[I") ∈ lw_tbl := tk_5 (j := 191) rfl
theorem tw_1393 : (Jvm.Cond.laysFinal "NightDoorsModel" "NightDoorsModel" "now" "[I") ∈ lw_tbl := tk_5 (j := 193) rfl
theorem tw_1395 : (Jvm.Cond.laysFinal "NightDoorsModel" "NightDoorsModel" "rows" "[I") ∈ lw_tbl := tk_5 (j := 195) rfl
theorem tw_1397 : (Jvm.Cond.lays "NightDoorsModel" "NightDoorsModel" "aheadMany" "I") ∈ lw_tbl := tk_5 (j := 197) rfl
theorem tw_1399 : (Jvm.Cond.laysFinal "NightDoorsModel" "NightDoorsModel" "aheadWith" "[I") ∈ lw_tbl := tk_5 (j := 199) rfl
theorem tw_1401 : (Jvm.Cond.lays "NightDoorsModel" "NightDoorsModel" "dreaded" "I") ∈ lw_tbl := tk_5 (j := 201) rfl
theorem tw_1403 : (Jvm.Cond.lays "NightDoorsModel" "NightDoorsModel" "bestWay" "I") ∈ lw_tbl := tk_5 (j := 203) rfl
theorem tw_1405 : (Jvm.Cond.lays "NightDoorsModel" "NightDoorsModel" "bestRooms" "I") ∈ lw_tbl := tk_5 (j := 205) rfl
theorem tw_1407 : (Jvm.Cond.laysFinal "NightDoorsModel" "NightDoorsModel" "order" "[I") ∈ lw_tbl := tk_5 (j := 207) rfl
theorem tw_1409 : (Jvm.Cond.laysFinal "NightDoorsModel" "NightDoorsModel" "bestOrder" "[I") ∈ lw_tbl := tk_5 (j := 209) rfl
theorem tw_1411 : (Jvm.Cond.laysFinal "NightDoorsModel" "NightDoorsModel" "kept" "[I") ∈ lw_tbl := tk_5 (j := 211) rfl
theorem tw_1413 : (Jvm.Cond.lays "NightDoorsModel" "NightDoorsModel" "undoable" "I") ∈ lw_tbl := tk_5 (j := 213) rfl
theorem tw_1415 : (Jvm.Cond.lays "NightDoorsModel" "NightDoorsModel" "newest" "I") ∈ lw_tbl := tk_5 (j := 215) rfl
theorem tw_1417 : (Jvm.Cond.lays "NightDoorsModel" "NightDoorsModel" "seeded" "J") ∈ lw_tbl := tk_5 (j := 217) rfl
theorem tw_1419 : (Jvm.Cond.lays "NightDoorsModel" "NightDoorsModel" "toldMany" "I") ∈ lw_tbl := tk_5 (j := 219) rfl
theorem tw_1421 : (Jvm.Cond.lays "NightDoorsModel" "NightDoorsModel" "toldOf" "I") ∈ lw_tbl := tk_5 (j := 221) rfl
theorem tw_1423 : (Jvm.Cond.laysFinal "NightDoorsModel" "NightDoorsModel" "toldDread" "[I") ∈ lw_tbl := tk_5 (j := 223) rfl
theorem tw_1425 : (Jvm.Cond.laysFinal "NightDoorsModel" "NightDoorsModel" "firstAsked" "[C") ∈ lw_tbl := tk_5 (j := 225) rfl
theorem tw_1427 : (Jvm.Cond.laysFinal "NightDoorsModel" "NightDoorsModel" "lastAsked" "[C") ∈ lw_tbl := tk_5 (j := 227) rfl
theorem tw_1429 : (Jvm.Cond.laysFinal "NightDoorsModel" "NightDoorsModel" "oftenAsked" "[C") ∈ lw_tbl := tk_5 (j := 229) rfl
theorem tw_1431 : (Jvm.Cond.laysFinal "NightDoorsModel" "NightDoorsModel" "totalAsked" "[C") ∈ lw_tbl := tk_5 (j := 231) rfl
theorem tw_1433 : (Jvm.Cond.laysFinal "NightDoorsModel" "NightDoorsModel" "mostAsked" "[C") ∈ lw_tbl := tk_5 (j := 233) rfl
theorem tw_1435 : (Jvm.Cond.laysFinal "NightDoorsModel" "NightDoorsModel" "leastAsked" "[C") ∈ lw_tbl := tk_5 (j := 235) rfl
theorem tw_1437 : (Jvm.Cond.laysFinal "NightDoorsModel" "NightDoorsModel" "notAsked" "[C") ∈ lw_tbl := tk_5 (j := 237) rfl
theorem tw_1439 : (Jvm.Cond.laysFinal "NightDoorsModel" "NightDoorsModel" "andAsked" "[C") ∈ lw_tbl := tk_5 (j := 239) rfl
theorem tw_1441 : (Jvm.Cond.laysFinal "NightDoorsModel" "NightDoorsModel" "orAsked" "[C") ∈ lw_tbl := tk_6 (j := 1) rfl
theorem tw_1443 : (Jvm.Cond.laysFinal "NightDoorsModel" "NightDoorsModel" "allAsked" "[C") ∈ lw_tbl := tk_6 (j := 3) rfl
theorem tw_1445 : (Jvm.Cond.laysFinal "NightDoorsModel" "NightDoorsModel" "minAsked" "[C") ∈ lw_tbl := tk_6 (j := 5) rfl
theorem tw_1447 : (Jvm.Cond.laysFinal "NightDoorsModel" "NightDoorsModel" "maxAsked" "[C") ∈ lw_tbl := tk_6 (j := 7) rfl
theorem tw_1449 : (Jvm.Cond.laysFinal "NightDoorsModel" "NightDoorsModel" "roomAsked" "[C") ∈ lw_tbl := tk_6 (j := 9) rfl
theorem tw_1451 : (Jvm.Cond.laysFinal "NightDoorsModel" "NightDoorsModel" "dreadAsked" "[C") ∈ lw_tbl := tk_6 (j := 11) rfl
theorem tw_1453 : (Jvm.Cond.laysFinal "NightDoorsModel" "NightDoorsModel" "worstAsked" "[C") ∈ lw_tbl := tk_6 (j := 13) rfl
theorem tw_1455 : (Jvm.Cond.laysFinal "NightDoorsModel" "NightDoorsModel" "sumAsked" "[C") ∈ lw_tbl := tk_6 (j := 15) rfl
theorem tw_1457 : (Jvm.Cond.laysFinal "NightDoorsModel" "NightDoorsModel" "manyAsked" "[C") ∈ lw_tbl := tk_6 (j := 17) rfl
theorem tw_1459 : (Jvm.Cond.laysFinal "NightDoorsModel" "NightDoorsModel" "weighAsked" "[C") ∈ lw_tbl := tk_6 (j := 19) rfl
theorem tw_1461 : (Jvm.Cond.laysFinal "NightDoorsModel" "NightDoorsModel" "qCodes" "[I") ∈ lw_tbl := tk_6 (j := 21) rfl
theorem tw_1463 : (Jvm.Cond.lays "NightDoorsModel" "NightDoorsModel" "qCoded" "I") ∈ lw_tbl := tk_6 (j := 23) rfl
theorem tw_1465 : (Jvm.Cond.laysFinal "NightDoorsModel" "NightDoorsModel" "qWait" "[I") ∈ lw_tbl := tk_6 (j := 25) rfl
theorem tw_1467 : (Jvm.Cond.lays "NightDoorsModel" "NightDoorsModel" "qWaits" "I") ∈ lw_tbl := tk_6 (j := 27) rfl
theorem tw_1469 : (Jvm.Cond.lays "NightDoorsModel" "NightDoorsModel" "qOpened" "I") ∈ lw_tbl := tk_6 (j := 29) rfl
theorem tw_1471 : (Jvm.Cond.lays "NightDoorsModel" "NightDoorsModel" "qBase" "I") ∈ lw_tbl := tk_6 (j := 31) rfl
theorem tw_1473 : (Jvm.Cond.laysFinal "NightDoorsModel" "NightDoorsModel" "qPile" "[J") ∈ lw_tbl := tk_6 (j := 33) rfl
theorem tw_1475 : (Jvm.Cond.lays "NightDoorsModel" "NightDoorsModel" "qPiled" "I") ∈ lw_tbl := tk_6 (j := 35) rfl
theorem tw_1477 : (Jvm.Cond.lays "NightDoorsModel" "NightDoorsModel" "qAnswer" "J") ∈ lw_tbl := tk_6 (j := 37) rfl
theorem tw_1479 : (Jvm.Cond.lays "NightDoorsModel" "NightDoorsModel" "qIsNew" "Z") ∈ lw_tbl := tk_6 (j := 39) rfl
theorem tw_1481 : (Jvm.Cond.laysFinal "NightDoorsModel" "NightDoorsModel" "octet" "[I") ∈ lw_tbl := tk_6 (j := 41) rfl
theorem tw_1483 : (Jvm.Cond.lays "NightDoorsModel" "NightDoorsModel" "octets" "I") ∈ lw_tbl := tk_6 (j := 43) rfl
theorem tw_1486 : (Jvm.Cond.arrayClass Jvm.ClassFile.FieldType.char) ∈ lw_tbl := tk_6 (j := 46) rfl
theorem tw_1487 : (Jvm.Cond.arrayClass Jvm.ClassFile.FieldType.long) ∈ lw_tbl := tk_6 (j := 47) rfl
theorem tw_1488 : (Jvm.Cond.methodLink "NightDoorsLaw" (17 : Nat) ({ cls := "NightDoorsModel", name := "feed", desc := "(IIIII)I" } : Jvm.MethodName)) ∈ lw_tbl := tk_6 (j := 48) rfl
theorem tw_1489 : (Jvm.Cond.instanceMethod ({ cls := "NightDoorsModel", name := "feed", desc := "(IIIII)I" } : Jvm.MethodName)) ∈ lw_tbl := tk_6 (j := 49) rfl
theorem tw_1490 : (Jvm.Cond.selects "NightDoorsModel" ({ cls := "NightDoorsModel", name := "feed", desc := "(IIIII)I" } : Jvm.MethodName) ({ cls := "NightDoorsModel", name := "feed", desc := "(IIIII)I" } : Jvm.MethodName)) ∈ lw_tbl := tk_6 (j := 50) rfl
theorem tw_1491 : (Jvm.Cond.code ({ cls := "NightDoorsModel", name := "feed", desc := "(IIIII)I" } : Jvm.MethodName) prog_14_method_3_code (8 : Nat) (Option.some Jvm.ClassFile.FieldType.int)) ∈ lw_tbl := tk_6 (j := 51) rfl
theorem tw_1492 : (Jvm.Cond.methodLink "NightDoorsLaw" (22 : Nat) ({ cls := "NightDoorsModel", name := "end", desc := "(I)Z" } : Jvm.MethodName)) ∈ lw_tbl := tk_6 (j := 52) rfl
theorem tw_1493 : (Jvm.Cond.instanceMethod ({ cls := "NightDoorsModel", name := "end", desc := "(I)Z" } : Jvm.MethodName)) ∈ lw_tbl := tk_6 (j := 53) rfl
theorem tw_1494 : (Jvm.Cond.selects "NightDoorsModel" ({ cls := "NightDoorsModel", name := "end", desc := "(I)Z" } : Jvm.MethodName) ({ cls := "NightDoorsModel", name := "end", desc := "(I)Z" } : Jvm.MethodName)) ∈ lw_tbl := tk_6 (j := 54) rfl
theorem tw_1495 : (Jvm.Cond.code ({ cls := "NightDoorsModel", name := "end", desc := "(I)Z" } : Jvm.MethodName) prog_14_method_4_code (2 : Nat) (Option.some Jvm.ClassFile.FieldType.boolean)) ∈ lw_tbl := tk_6 (j := 55) rfl
theorem tw_1496 : (Jvm.Cond.methodLink "NightDoorsLaw" (27 : Nat) ({ cls := "NightDoorsModel", name := "dream", desc := "()I" } : Jvm.MethodName)) ∈ lw_tbl := tk_6 (j := 56) rfl
theorem tw_1497 : (Jvm.Cond.instanceMethod ({ cls := "NightDoorsModel", name := "dream", desc := "()I" } : Jvm.MethodName)) ∈ lw_tbl := tk_6 (j := 57) rfl
theorem tw_1498 : (Jvm.Cond.selects "NightDoorsModel" ({ cls := "NightDoorsModel", name := "dream", desc := "()I" } : Jvm.MethodName) ({ cls := "NightDoorsModel", name := "dream", desc := "()I" } : Jvm.MethodName)) ∈ lw_tbl := tk_6 (j := 58) rfl
theorem tw_1499 : (Jvm.Cond.code ({ cls := "NightDoorsModel", name := "dream", desc := "()I" } : Jvm.MethodName) prog_14_method_27_code (2 : Nat) (Option.some Jvm.ClassFile.FieldType.int)) ∈ lw_tbl := tk_6 (j := 59) rfl
theorem tw_1500 : (Jvm.Cond.methodLink "NightDoorsModel" (221 : Nat) ({ cls := "NightDoorsModel", name := "look", desc := "()I" } : Jvm.MethodName)) ∈ lw_tbl := tk_6 (j := 60) rfl
theorem tw_1502 : (Jvm.Cond.instanceMethod ({ cls := "NightDoorsModel", name := "look", desc := "()I" } : Jvm.MethodName)) ∈ lw_tbl := tk_6 (j := 62) rfl
theorem tw_1503 : (Jvm.Cond.code ({ cls := "NightDoorsModel", name := "look", desc := "()I" } : Jvm.MethodName) prog_14_method_8_code (1 : Nat) (Option.some Jvm.ClassFile.FieldType.int)) ∈ lw_tbl := tk_6 (j := 63) rfl
theorem tw_1504 : (Jvm.Cond.methodLink "NightDoorsModel" (328 : Nat) ({ cls := "NightDoorsModel", name := "statementTold", desc := "()V" } : Jvm.MethodName)) ∈ lw_tbl := tk_6 (j := 64) rfl
theorem tw_1506 : (Jvm.Cond.instanceMethod ({ cls := "NightDoorsModel", name := "statementTold", desc := "()V" } : Jvm.MethodName)) ∈ lw_tbl := tk_6 (j := 66) rfl
theorem tw_1507 : (Jvm.Cond.code ({ cls := "NightDoorsModel", name := "statementTold", desc := "()V" } : Jvm.MethodName) prog_14_method_26_code (2 : Nat) (Option.none : Option Jvm.ClassFile.FieldType)) ∈ lw_tbl := tk_6 (j := 67) rfl
theorem tw_1508 : (Jvm.Cond.methodLink "NightDoorsModel" (239 : Nat) ({ cls := "NightDoorsModel", name := "fail", desc := "(II)V" } : Jvm.MethodName)) ∈ lw_tbl := tk_6 (j := 68) rfl
theorem tw_1510 : (Jvm.Cond.instanceMethod ({ cls := "NightDoorsModel", name := "fail", desc := "(II)V" } : Jvm.MethodName)) ∈ lw_tbl := tk_6 (j := 70) rfl
theorem tw_1511 : (Jvm.Cond.code ({ cls := "NightDoorsModel", name := "fail", desc := "(II)V" } : Jvm.MethodName) prog_14_method_5_code (3 : Nat) (Option.none : Option Jvm.ClassFile.FieldType)) ∈ lw_tbl := tk_6 (j := 71) rfl
theorem tw_1512 : (Jvm.Cond.methodLink "NightDoorsModel" (236 : Nat) ({ cls := "NightDoorsModel", name := "takes", desc := "([C)Z" } : Jvm.MethodName)) ∈ lw_tbl := tk_6 (j := 72) rfl
theorem tw_1514 : (Jvm.Cond.instanceMethod ({ cls := "NightDoorsModel", name := "takes", desc := "([C)Z" } : Jvm.MethodName)) ∈ lw_tbl := tk_6 (j := 74) rfl
theorem tw_1515 : (Jvm.Cond.code ({ cls := "NightDoorsModel", name := "takes", desc := "([C)Z" } : Jvm.MethodName) prog_14_method_10_code (2 : Nat) (Option.some Jvm.ClassFile.FieldType.boolean)) ∈ lw_tbl := tk_6 (j := 75) rfl
theorem tw_1516 : (Jvm.Cond.methodLink "NightDoorsModel" (232 : Nat) ({ cls := "NightDoorsModel", name := "isHere", desc := "([C)Z" } : Jvm.MethodName)) ∈ lw_tbl := tk_6 (j := 76) rfl
theorem tw_1518 : (Jvm.Cond.instanceMethod ({ cls := "NightDoorsModel", name := "isHere", desc := "([C)Z" } : Jvm.MethodName)) ∈ lw_tbl := tk_6 (j := 78) rfl
theorem tw_1519 : (Jvm.Cond.code ({ cls := "NightDoorsModel", name := "isHere", desc := "([C)Z" } : Jvm.MethodName) prog_14_method_9_code (4 : Nat) (Option.some Jvm.ClassFile.FieldType.boolean)) ∈ lw_tbl := tk_6 (j := 79) rfl
theorem tw_1520 : (Jvm.Cond.methodLink "NightDoorsModel" (225 : Nat) ({ cls := "NightDoorsModel", name := "isLetter", desc := "(I)Z" } : Jvm.MethodName)) ∈ lw_tbl := tk_6 (j := 80) rfl
theorem tw_1521 : (Jvm.Cond.static ({ cls := "NightDoorsModel", name := "isLetter", desc := "(I)Z" } : Jvm.MethodName)) ∈ lw_tbl := tk_6 (j := 81) rfl
theorem tw_1522 : (Jvm.Cond.code ({ cls := "NightDoorsModel", name := "isLetter", desc := "(I)Z" } : Jvm.MethodName) prog_14_method_6_code (1 : Nat) (Option.some Jvm.ClassFile.FieldType.boolean)) ∈ lw_tbl := tk_6 (j := 82) rfl
theorem tw_1523 : (Jvm.Cond.methodLink "NightDoorsModel" (309 : Nat) ({ cls := "NightDoorsModel", name := "dreadTold", desc := "(I)V" } : Jvm.MethodName)) ∈ lw_tbl := tk_6 (j := 83) rfl
theorem tw_1525 : (Jvm.Cond.instanceMethod ({ cls := "NightDoorsModel", name := "dreadTold", desc := "(I)V" } : Jvm.MethodName)) ∈ lw_tbl := tk_6 (j := 85) rfl
theorem tw_1526 : (Jvm.Cond.code ({ cls := "NightDoorsModel", name := "dreadTold", desc := "(I)V" } : Jvm.MethodName) prog_14_method_21_code (4 : Nat) (Option.none : Option Jvm.ClassFile.FieldType)) ∈ lw_tbl := tk_6 (j := 86) rfl
theorem tw_1527 : (Jvm.Cond.methodLink "NightDoorsModel" (272 : Nat) ({ cls := "NightDoorsModel", name := "isFull", desc := "(III)Z" } : Jvm.MethodName)) ∈ lw_tbl := tk_6 (j := 87) rfl
theorem tw_1529 : (Jvm.Cond.instanceMethod ({ cls := "NightDoorsModel", name := "isFull", desc := "(III)Z" } : Jvm.MethodName)) ∈ lw_tbl := tk_6 (j := 89) rfl
theorem tw_1530 : (Jvm.Cond.code ({ cls := "NightDoorsModel", name := "isFull", desc := "(III)Z" } : Jvm.MethodName) prog_14_method_17_code (4 : Nat) (Option.some Jvm.ClassFile.FieldType.boolean)) ∈ lw_tbl := tk_6 (j := 90) rfl
theorem tw_1531 : (Jvm.Cond.methodLink "NightDoorsModel" (276 : Nat) ({ cls := "NightDoorsModel", name := "newName", desc := "()J" } : Jvm.MethodName)) ∈ lw_tbl := tk_6 (j := 91) rfl
theorem tw_1533 : (Jvm.Cond.instanceMethod ({ cls := "NightDoorsModel", name := "newName", desc := "()J" } : Jvm.MethodName)) ∈ lw_tbl := tk_6 (j := 93) rfl
theorem tw_1534 : (Jvm.Cond.code ({ cls := "NightDoorsModel", name := "newName", desc := "()J" } : Jvm.MethodName) prog_14_method_19_code (4 : Nat) (Option.some Jvm.ClassFile.FieldType.long)) ∈ lw_tbl := tk_6 (j := 94) rfl
theorem tw_1535 : (Jvm.Cond.methodLink "NightDoorsModel" (264 : Nat) ({ cls := "NightDoorsModel", name := "name", desc := "()J" } : Jvm.MethodName)) ∈ lw_tbl := tk_6 (j := 95) rfl
theorem tw_1537 : (Jvm.Cond.instanceMethod ({ cls := "NightDoorsModel", name := "name", desc := "()J" } : Jvm.MethodName)) ∈ lw_tbl := tk_6 (j := 97) rfl
theorem tw_1538 : (Jvm.Cond.code ({ cls := "NightDoorsModel", name := "name", desc := "()J" } : Jvm.MethodName) prog_14_method_16_code (3 : Nat) (Option.some Jvm.ClassFile.FieldType.long)) ∈ lw_tbl := tk_6 (j := 98) rfl
theorem tw_1539 : (Jvm.Cond.methodLink "NightDoorsModel" (253 : Nat) ({ cls := "NightDoorsModel", name := "isOwnHere", desc := "()Z" } : Jvm.MethodName)) ∈ lw_tbl := tk_6 (j := 99) rfl
theorem tw_1541 : (Jvm.Cond.instanceMethod ({ cls := "NightDoorsModel", name := "isOwnHere", desc := "()Z" } : Jvm.MethodName)) ∈ lw_tbl := tk_6 (j := 101) rfl
theorem tw_1542 : (Jvm.Cond.code ({ cls := "NightDoorsModel", name := "isOwnHere", desc := "()Z" } : Jvm.MethodName) prog_14_method_15_code (2 : Nat) (Option.some Jvm.ClassFile.FieldType.boolean)) ∈ lw_tbl := tk_6 (j := 102) rfl
theorem tw_1543 : (Jvm.Cond.constantLong "NightDoorsModel" (260 : Nat) (27 : Int64)) ∈ lw_tbl := tk_6 (j := 103) rfl
theorem tw_1544 : (Jvm.Cond.constantLong "NightDoorsModel" (262 : Nat) (97 : Int64)) ∈ lw_tbl := tk_6 (j := 104) rfl
theorem tw_1545 : (Jvm.Cond.methodLink "NightDoorsModel" (268 : Nat) ({ cls := "NightDoorsModel", name := "nameOf", desc := "(IJ)I" } : Jvm.MethodName)) ∈ lw_tbl := tk_6 (j := 105) rfl
theorem tw_1547 : (Jvm.Cond.instanceMethod ({ cls := "NightDoorsModel", name := "nameOf", desc := "(IJ)I" } : Jvm.MethodName)) ∈ lw_tbl := tk_6 (j := 107) rfl
theorem tw_1548 : (Jvm.Cond.code ({ cls := "NightDoorsModel", name := "nameOf", desc := "(IJ)I" } : Jvm.MethodName) prog_14_method_18_code (5 : Nat) (Option.some Jvm.ClassFile.FieldType.int)) ∈ lw_tbl := tk_6 (j := 108) rfl
theorem tw_1549 : (Jvm.Cond.methodLink "NightDoorsModel" (313 : Nat) ({ cls := "NightDoorsModel", name := "dreamerTold", desc := "(I)V" } : Jvm.MethodName)) ∈ lw_tbl := tk_6 (j := 109) rfl
theorem tw_1551 : (Jvm.Cond.instanceMethod ({ cls := "NightDoorsModel", name := "dreamerTold", desc := "(I)V" } : Jvm.MethodName)) ∈ lw_tbl := tk_6 (j := 111) rfl
theorem tw_1552 : (Jvm.Cond.code ({ cls := "NightDoorsModel", name := "dreamerTold", desc := "(I)V" } : Jvm.MethodName) prog_14_method_22_code (5 : Nat) (Option.none : Option Jvm.ClassFile.FieldType)) ∈ lw_tbl := tk_6 (j := 112) rfl
theorem tw_1553 : (Jvm.Cond.methodLink "NightDoorsModel" (279 : Nat) ({ cls := "NightDoorsModel", name := "asks", desc := "([C)V" } : Jvm.MethodName)) ∈ lw_tbl := tk_6 (j := 113) rfl
theorem tw_1555 : (Jvm.Cond.instanceMethod ({ cls := "NightDoorsModel", name := "asks", desc := "([C)V" } : Jvm.MethodName)) ∈ lw_tbl := tk_6 (j := 115) rfl
theorem tw_1556 : (Jvm.Cond.code ({ cls := "NightDoorsModel", name := "asks", desc := "([C)V" } : Jvm.MethodName) prog_14_method_11_code (2 : Nat) (Option.none : Option Jvm.ClassFile.FieldType)) ∈ lw_tbl := tk_6 (j := 116) rfl
theorem tw_1557 : (Jvm.Cond.methodLink "NightDoorsModel" (283 : Nat) ({ cls := "NightDoorsModel", name := "number", desc := "(II)I" } : Jvm.MethodName)) ∈ lw_tbl := tk_6 (j := 117) rfl
theorem tw_1559 : (Jvm.Cond.instanceMethod ({ cls := "NightDoorsModel", name := "number", desc := "(II)I" } : Jvm.MethodName)) ∈ lw_tbl := tk_6 (j := 119) rfl
theorem tw_1560 : (Jvm.Cond.code ({ cls := "NightDoorsModel", name := "number", desc := "(II)I" } : Jvm.MethodName) prog_14_method_14_code (5 : Nat) (Option.some Jvm.ClassFile.FieldType.int)) ∈ lw_tbl := tk_6 (j := 120) rfl
theorem tw_1561 : (Jvm.Cond.methodLink "NightDoorsModel" (246 : Nat) ({ cls := "NightDoorsModel", name := "isDigit", desc := "(I)Z" } : Jvm.MethodName)) ∈ lw_tbl := tk_6 (j := 121) rfl
theorem tw_1562 : (Jvm.Cond.static ({ cls := "NightDoorsModel", name := "isDigit", desc := "(I)Z" } : Jvm.MethodName)) ∈ lw_tbl := tk_6 (j := 122) rfl
theorem tw_1563 : (Jvm.Cond.code ({ cls := "NightDoorsModel", name := "isDigit", desc := "(I)Z" } : Jvm.MethodName) prog_14_method_7_code (1 : Nat) (Option.some Jvm.ClassFile.FieldType.boolean)) ∈ lw_tbl := tk_6 (j := 123) rfl
theorem tw_1564 : (Jvm.Cond.methodLink "NightDoorsModel" (249 : Nat) ({ cls := "NightDoorsModel", name := "isIn", desc := "(JJJ)Z" } : Jvm.MethodName)) ∈ lw_tbl := tk_6 (j := 124) rfl
theorem tw_1565 : (Jvm.Cond.static ({ cls := "NightDoorsModel", name := "isIn", desc := "(JJJ)Z" } : Jvm.MethodName)) ∈ lw_tbl := tk_6 (j := 125) rfl
theorem tw_1566 : (Jvm.Cond.code ({ cls := "NightDoorsModel", name := "isIn", desc := "(JJJ)Z" } : Jvm.MethodName) prog_14_method_2_code (6 : Nat) (Option.some Jvm.ClassFile.FieldType.boolean)) ∈ lw_tbl := tk_6 (j := 126) rfl
theorem tw_1567 : (Jvm.Cond.methodLink "NightDoorsModel" (316 : Nat) ({ cls := "NightDoorsModel", name := "fearsTold", desc := "()V" } : Jvm.MethodName)) ∈ lw_tbl := tk_6 (j := 127) rfl
theorem tw_1569 : (Jvm.Cond.instanceMethod ({ cls := "NightDoorsModel", name := "fearsTold", desc := "()V" } : Jvm.MethodName)) ∈ lw_tbl := tk_6 (j := 129) rfl
theorem tw_1570 : (Jvm.Cond.code ({ cls := "NightDoorsModel", name := "fearsTold", desc := "()V" } : Jvm.MethodName) prog_14_method_23_code (4 : Nat) (Option.none : Option Jvm.ClassFile.FieldType)) ∈ lw_tbl := tk_6 (j := 130) rfl
theorem tw_1571 : (Jvm.Cond.methodLink "NightDoorsModel" (287 : Nat) ({ cls := "NightDoorsModel", name := "oneOf", desc := "(I)I" } : Jvm.MethodName)) ∈ lw_tbl := tk_6 (j := 131) rfl
theorem tw_1573 : (Jvm.Cond.instanceMethod ({ cls := "NightDoorsModel", name := "oneOf", desc := "(I)I" } : Jvm.MethodName)) ∈ lw_tbl := tk_6 (j := 133) rfl
theorem tw_1574 : (Jvm.Cond.code ({ cls := "NightDoorsModel", name := "oneOf", desc := "(I)I" } : Jvm.MethodName) prog_14_method_20_code (5 : Nat) (Option.some Jvm.ClassFile.FieldType.int)) ∈ lw_tbl := tk_6 (j := 134) rfl
theorem tw_1575 : (Jvm.Cond.methodLink "NightDoorsModel" (319 : Nat) ({ cls := "NightDoorsModel", name := "guideTold", desc := "(I)V" } : Jvm.MethodName)) ∈ lw_tbl := tk_6 (j := 135) rfl
theorem tw_1577 : (Jvm.Cond.instanceMethod ({ cls := "NightDoorsModel", name := "guideTold", desc := "(I)V" } : Jvm.MethodName)) ∈ lw_tbl := tk_6 (j := 137) rfl
theorem tw_1578 : (Jvm.Cond.code ({ cls := "NightDoorsModel", name := "guideTold", desc := "(I)V" } : Jvm.MethodName) prog_14_method_24_code (5 : Nat) (Option.none : Option Jvm.ClassFile.FieldType)) ∈ lw_tbl := tk_6 (j := 138) rfl
theorem tw_1579 : (Jvm.Cond.methodLink "NightDoorsModel" (322 : Nat) ({ cls := "NightDoorsModel", name := "sumIsTold", desc := "(II)V" } : Jvm.MethodName)) ∈ lw_tbl := tk_6 (j := 139) rfl
theorem tw_1581 : (Jvm.Cond.instanceMethod ({ cls := "NightDoorsModel", name := "sumIsTold", desc := "(II)V" } : Jvm.MethodName)) ∈ lw_tbl := tk_6 (j := 141) rfl
theorem tw_1582 : (Jvm.Cond.code ({ cls := "NightDoorsModel", name := "sumIsTold", desc := "(II)V" } : Jvm.MethodName) prog_14_method_25_code (3 : Nat) (Option.none : Option Jvm.ClassFile.FieldType)) ∈ lw_tbl := tk_6 (j := 142) rfl
theorem tw_1583 : (Jvm.Cond.methodLink "NightDoorsModel" (303 : Nat) ({ cls := "NightDoorsModel", name := "sumsTold", desc := "()V" } : Jvm.MethodName)) ∈ lw_tbl := tk_6 (j := 143) rfl
theorem tw_1585 : (Jvm.Cond.instanceMethod ({ cls := "NightDoorsModel", name := "sumsTold", desc := "()V" } : Jvm.MethodName)) ∈ lw_tbl := tk_6 (j := 145) rfl
theorem tw_1586 : (Jvm.Cond.code ({ cls := "NightDoorsModel", name := "sumsTold", desc := "()V" } : Jvm.MethodName) prog_14_method_38_code (3 : Nat) (Option.none : Option Jvm.ClassFile.FieldType)) ∈ lw_tbl := tk_6 (j := 146) rfl
theorem tw_1587 : (Jvm.Cond.methodLink "NightDoorsModel" (364 : Nat) ({ cls := "NightDoorsModel", name := "onePart", desc := "()V" } : Jvm.MethodName)) ∈ lw_tbl := tk_6 (j := 147) rfl
theorem tw_1589 : (Jvm.Cond.instanceMethod ({ cls := "NightDoorsModel", name := "onePart", desc := "()V" } : Jvm.MethodName)) ∈ lw_tbl := tk_6 (j := 149) rfl
theorem tw_1590 : (Jvm.Cond.code ({ cls := "NightDoorsModel", name := "onePart", desc := "()V" } : Jvm.MethodName) prog_14_method_36_code (5 : Nat) (Option.none : Option Jvm.ClassFile.FieldType)) ∈ lw_tbl := tk_6 (j := 150) rfl
theorem tw_1591 : (Jvm.Cond.methodLink "NightDoorsModel" (352 : Nat) ({ cls := "NightDoorsModel", name := "opens", desc := "(II)V" } : Jvm.MethodName)) ∈ lw_tbl := tk_6 (j := 151) rfl
theorem tw_1593 : (Jvm.Cond.instanceMethod ({ cls := "NightDoorsModel", name := "opens", desc := "(II)V" } : Jvm.MethodName)) ∈ lw_tbl := tk_6 (j := 153) rfl
theorem tw_1594 : (Jvm.Cond.code ({ cls := "NightDoorsModel", name := "opens", desc := "(II)V" } : Jvm.MethodName) prog_14_method_30_code (3 : Nat) (Option.none : Option Jvm.ClassFile.FieldType)) ∈ lw_tbl := tk_6 (j := 154) rfl
theorem tw_1595 : (Jvm.Cond.methodLink "NightDoorsModel" (325 : Nat) ({ cls := "NightDoorsModel", name := "asksSign", desc := "(I)V" } : Jvm.MethodName)) ∈ lw_tbl := tk_6 (j := 155) rfl
theorem tw_1597 : (Jvm.Cond.instanceMethod ({ cls := "NightDoorsModel", name := "asksSign", desc := "(I)V" } : Jvm.MethodName)) ∈ lw_tbl := tk_6 (j := 157) rfl
theorem tw_1598 : (Jvm.Cond.code ({ cls := "NightDoorsModel", name := "asksSign", desc := "(I)V" } : Jvm.MethodName) prog_14_method_13_code (2 : Nat) (Option.none : Option Jvm.ClassFile.FieldType)) ∈ lw_tbl := tk_6 (j := 158) rfl
theorem tw_1599 : (Jvm.Cond.methodLink "NightDoorsModel" (243 : Nat) ({ cls := "NightDoorsModel", name := "takesSign", desc := "(I)Z" } : Jvm.MethodName)) ∈ lw_tbl := tk_6 (j := 159) rfl
theorem tw_1601 : (Jvm.Cond.instanceMethod ({ cls := "NightDoorsModel", name := "takesSign", desc := "(I)Z" } : Jvm.MethodName)) ∈ lw_tbl := tk_6 (j := 161) rfl
theorem tw_1602 : (Jvm.Cond.code ({ cls := "NightDoorsModel", name := "takesSign", desc := "(I)Z" } : Jvm.MethodName) prog_14_method_12_code (2 : Nat) (Option.some Jvm.ClassFile.FieldType.boolean)) ∈ lw_tbl := tk_6 (j := 162) rfl
theorem tw_1603 : (Jvm.Cond.methodLink "NightDoorsModel" (343 : Nat) ({ cls := "NightDoorsModel", name := "code", desc := "(I)V" } : Jvm.MethodName)) ∈ lw_tbl := tk_6 (j := 163) rfl
theorem tw_1605 : (Jvm.Cond.instanceMethod ({ cls := "NightDoorsModel", name := "code", desc := "(I)V" } : Jvm.MethodName)) ∈ lw_tbl := tk_6 (j := 165) rfl
theorem tw_1606 : (Jvm.Cond.code ({ cls := "NightDoorsModel", name := "code", desc := "(I)V" } : Jvm.MethodName) prog_14_method_29_code (2 : Nat) (Option.none : Option Jvm.ClassFile.FieldType)) ∈ lw_tbl := tk_6 (j := 166) rfl
theorem tw_1607 : (Jvm.Cond.methodLink "NightDoorsModel" (367 : Nat) ({ cls := "NightDoorsModel", name := "goesOn", desc := "()Z" } : Jvm.MethodName)) ∈ lw_tbl := tk_6 (j := 167) rfl
theorem tw_1609 : (Jvm.Cond.instanceMethod ({ cls := "NightDoorsModel", name := "goesOn", desc := "()Z" } : Jvm.MethodName)) ∈ lw_tbl := tk_6 (j := 169) rfl
theorem tw_1610 : (Jvm.Cond.code ({ cls := "NightDoorsModel", name := "goesOn", desc := "()Z" } : Jvm.MethodName) prog_14_method_37_code (2 : Nat) (Option.some Jvm.ClassFile.FieldType.boolean)) ∈ lw_tbl := tk_6 (j := 170) rfl
theorem tw_1611 : (Jvm.Cond.methodLink "NightDoorsModel" (355 : Nat) ({ cls := "NightDoorsModel", name := "waitsLast", desc := "()I" } : Jvm.MethodName)) ∈ lw_tbl := tk_6 (j := 171) rfl
theorem tw_1613 : (Jvm.Cond.instanceMethod ({ cls := "NightDoorsModel", name := "waitsLast", desc := "()I" } : Jvm.MethodName)) ∈ lw_tbl := tk_6 (j := 173) rfl
theorem tw_1614 : (Jvm.Cond.code ({ cls := "NightDoorsModel", name := "waitsLast", desc := "()I" } : Jvm.MethodName) prog_14_method_34_code (2 : Nat) (Option.some Jvm.ClassFile.FieldType.int)) ∈ lw_tbl := tk_6 (j := 174) rfl
theorem tw_1615 : (Jvm.Cond.methodLink "NightDoorsModel" (346 : Nat) ({ cls := "NightDoorsModel", name := "isMark", desc := "(I)Z" } : Jvm.MethodName)) ∈ lw_tbl := tk_6 (j := 175) rfl
theorem tw_1617 : (Jvm.Cond.instanceMethod ({ cls := "NightDoorsModel", name := "isMark", desc := "(I)Z" } : Jvm.MethodName)) ∈ lw_tbl := tk_6 (j := 177) rfl
theorem tw_1618 : (Jvm.Cond.code ({ cls := "NightDoorsModel", name := "isMark", desc := "(I)Z" } : Jvm.MethodName) prog_14_method_33_code (2 : Nat) (Option.some Jvm.ClassFile.FieldType.boolean)) ∈ lw_tbl := tk_6 (j := 178) rfl
theorem tw_1619 : (Jvm.Cond.methodLink "NightDoorsModel" (358 : Nat) ({ cls := "NightDoorsModel", name := "dropsToMark", desc := "()V" } : Jvm.MethodName)) ∈ lw_tbl := tk_6 (j := 179) rfl
theorem tw_1621 : (Jvm.Cond.instanceMethod ({ cls := "NightDoorsModel", name := "dropsToMark", desc := "()V" } : Jvm.MethodName)) ∈ lw_tbl := tk_6 (j := 181) rfl
theorem tw_1622 : (Jvm.Cond.code ({ cls := "NightDoorsModel", name := "dropsToMark", desc := "()V" } : Jvm.MethodName) prog_14_method_35_code (1 : Nat) (Option.none : Option Jvm.ClassFile.FieldType)) ∈ lw_tbl := tk_6 (j := 182) rfl
theorem tw_1623 : (Jvm.Cond.methodLink "NightDoorsModel" (349 : Nat) ({ cls := "NightDoorsModel", name := "drops", desc := "()V" } : Jvm.MethodName)) ∈ lw_tbl := tk_6 (j := 183) rfl
theorem tw_1625 : (Jvm.Cond.instanceMethod ({ cls := "NightDoorsModel", name := "drops", desc := "()V" } : Jvm.MethodName)) ∈ lw_tbl := tk_6 (j := 185) rfl
theorem tw_1626 : (Jvm.Cond.code ({ cls := "NightDoorsModel", name := "drops", desc := "()V" } : Jvm.MethodName) prog_14_method_32_code (1 : Nat) (Option.none : Option Jvm.ClassFile.FieldType)) ∈ lw_tbl := tk_6 (j := 186) rfl
theorem tw_1627 : (Jvm.Cond.methodLink "NightDoorsModel" (361 : Nat) ({ cls := "NightDoorsModel", name := "isOn", desc := "(I)Z" } : Jvm.MethodName)) ∈ lw_tbl := tk_6 (j := 187) rfl
theorem tw_1629 : (Jvm.Cond.instanceMethod ({ cls := "NightDoorsModel", name := "isOn", desc := "(I)Z" } : Jvm.MethodName)) ∈ lw_tbl := tk_6 (j := 189) rfl
theorem tw_1630 : (Jvm.Cond.code ({ cls := "NightDoorsModel", name := "isOn", desc := "(I)Z" } : Jvm.MethodName) prog_14_method_31_code (2 : Nat) (Option.some Jvm.ClassFile.FieldType.boolean)) ∈ lw_tbl := tk_6 (j := 190) rfl
theorem tw_1631 : (Jvm.Cond.methodLink "NightDoorsModel" (334 : Nat) ({ cls := "NightDoorsModel", name := "stands", desc := "()V" } : Jvm.MethodName)) ∈ lw_tbl := tk_6 (j := 191) rfl
theorem tw_1633 : (Jvm.Cond.instanceMethod ({ cls := "NightDoorsModel", name := "stands", desc := "()V" } : Jvm.MethodName)) ∈ lw_tbl := tk_6 (j := 193) rfl
theorem tw_1634 : (Jvm.Cond.code ({ cls := "NightDoorsModel", name := "stands", desc := "()V" } : Jvm.MethodName) prog_14_method_28_code (3 : Nat) (Option.none : Option Jvm.ClassFile.FieldType)) ∈ lw_tbl := tk_6 (j := 194) rfl
theorem tw_1635 : (Jvm.Cond.methodLink "NightDoorsLaw" (32 : Nat) ({ cls := "NightDoorsModel", name := "fault", desc := "(I)I" } : Jvm.MethodName)) ∈ lw_tbl := tk_6 (j := 195) rfl
theorem tw_1636 : (Jvm.Cond.instanceMethod ({ cls := "NightDoorsModel", name := "fault", desc := "(I)I" } : Jvm.MethodName)) ∈ lw_tbl := tk_6 (j := 196) rfl
theorem tw_1637 : (Jvm.Cond.selects "NightDoorsModel" ({ cls := "NightDoorsModel", name := "fault", desc := "(I)I" } : Jvm.MethodName) ({ cls := "NightDoorsModel", name := "fault", desc := "(I)I" } : Jvm.MethodName)) ∈ lw_tbl := tk_6 (j := 197) rfl
theorem tw_1638 : (Jvm.Cond.code ({ cls := "NightDoorsModel", name := "fault", desc := "(I)I" } : Jvm.MethodName) prog_14_method_39_code (2 : Nat) (Option.some Jvm.ClassFile.FieldType.int)) ∈ lw_tbl := tk_6 (j := 198) rfl
theorem tw_1639 : (Jvm.Cond.methodLink "NightDoorsLaw" (36 : Nat) ({ cls := "NightDoorsModel", name := "has", desc := "(I)I" } : Jvm.MethodName)) ∈ lw_tbl := tk_6 (j := 199) rfl
theorem tw_1640 : (Jvm.Cond.instanceMethod ({ cls := "NightDoorsModel", name := "has", desc := "(I)I" } : Jvm.MethodName)) ∈ lw_tbl := tk_6 (j := 200) rfl
theorem tw_1641 : (Jvm.Cond.selects "NightDoorsModel" ({ cls := "NightDoorsModel", name := "has", desc := "(I)I" } : Jvm.MethodName) ({ cls := "NightDoorsModel", name := "has", desc := "(I)I" } : Jvm.MethodName)) ∈ lw_tbl := tk_6 (j := 201) rfl
theorem tw_1642 : (Jvm.Cond.code ({ cls := "NightDoorsModel", name := "has", desc := "(I)I" } : Jvm.MethodName) prog_14_method_65_code (2 : Nat) (Option.some Jvm.ClassFile.FieldType.int)) ∈ lw_tbl := tk_6 (j := 202) rfl
theorem tw_1643 : (Jvm.Cond.methodLink "NightDoorsModel" (389 : Nat) ({ cls := "NightDoorsModel", name := "dreadMany", desc := "()I" } : Jvm.MethodName)) ∈ lw_tbl := tk_6 (j := 203) rfl
theorem tw_1645 : (Jvm.Cond.instanceMethod ({ cls := "NightDoorsModel", name := "dreadMany", desc := "()I" } : Jvm.MethodName)) ∈ lw_tbl := tk_6 (j := 205) rfl
theorem tw_1646 : (Jvm.Cond.code ({ cls := "NightDoorsModel", name := "dreadMany", desc := "()I" } : Jvm.MethodName) prog_14_method_44_code (1 : Nat) (Option.some Jvm.ClassFile.FieldType.int)) ∈ lw_tbl := tk_6 (j := 206) rfl
theorem tw_1647 : (Jvm.Cond.methodLink "NightDoorsModel" (392 : Nat) ({ cls := "NightDoorsModel", name := "dreamerMany", desc := "()I" } : Jvm.MethodName)) ∈ lw_tbl := tk_6 (j := 207) rfl
theorem tw_1649 : (Jvm.Cond.instanceMethod ({ cls := "NightDoorsModel", name := "dreamerMany", desc := "()I" } : Jvm.MethodName)) ∈ lw_tbl := tk_6 (j := 209) rfl
theorem tw_1650 : (Jvm.Cond.code ({ cls := "NightDoorsModel", name := "dreamerMany", desc := "()I" } : Jvm.MethodName) prog_14_method_45_code (1 : Nat) (Option.some Jvm.ClassFile.FieldType.int)) ∈ lw_tbl := tk_6 (j := 210) rfl
theorem tw_1651 : (Jvm.Cond.methodLink "NightDoorsModel" (436 : Nat) ({ cls := "NightDoorsModel", name := "guideMany", desc := "()I" } : Jvm.MethodName)) ∈ lw_tbl := tk_6 (j := 211) rfl
theorem tw_1653 : (Jvm.Cond.instanceMethod ({ cls := "NightDoorsModel", name := "guideMany", desc := "()I" } : Jvm.MethodName)) ∈ lw_tbl := tk_6 (j := 213) rfl
theorem tw_1654 : (Jvm.Cond.code ({ cls := "NightDoorsModel", name := "guideMany", desc := "()I" } : Jvm.MethodName) prog_14_method_46_code (1 : Nat) (Option.some Jvm.ClassFile.FieldType.int)) ∈ lw_tbl := tk_6 (j := 214) rfl
theorem tw_1655 : (Jvm.Cond.methodLink "NightDoorsModel" (401 : Nat) ({ cls := "NightDoorsModel", name := "settingOf", desc := "(I)I" } : Jvm.MethodName)) ∈ lw_tbl := tk_6 (j := 215) rfl
theorem tw_1657 : (Jvm.Cond.instanceMethod ({ cls := "NightDoorsModel", name := "settingOf", desc := "(I)I" } : Jvm.MethodName)) ∈ lw_tbl := tk_6 (j := 217) rfl
theorem tw_1658 : (Jvm.Cond.code ({ cls := "NightDoorsModel", name := "settingOf", desc := "(I)I" } : Jvm.MethodName) prog_14_method_49_code (2 : Nat) (Option.some Jvm.ClassFile.FieldType.int)) ∈ lw_tbl := tk_6 (j := 218) rfl
theorem tw_1659 : (Jvm.Cond.methodLink "NightDoorsModel" (439 : Nat) ({ cls := "NightDoorsModel", name := "atHome", desc := "()I" } : Jvm.MethodName)) ∈ lw_tbl := tk_6 (j := 219) rfl
theorem tw_1661 : (Jvm.Cond.instanceMethod ({ cls := "NightDoorsModel", name := "atHome", desc := "()I" } : Jvm.MethodName)) ∈ lw_tbl := tk_6 (j := 221) rfl
theorem tw_1662 : (Jvm.Cond.code ({ cls := "NightDoorsModel", name := "atHome", desc := "()I" } : Jvm.MethodName) prog_14_method_64_code (3 : Nat) (Option.some Jvm.ClassFile.FieldType.int)) ∈ lw_tbl := tk_6 (j := 222) rfl
theorem tw_1663 : (Jvm.Cond.methodLink "NightDoorsModel" (430 : Nat) ({ cls := "NightDoorsModel", name := "laysNow", desc := "(II)V" } : Jvm.MethodName)) ∈ lw_tbl := tk_6 (j := 223) rfl
theorem tw_1665 : (Jvm.Cond.instanceMethod ({ cls := "NightDoorsModel", name := "laysNow", desc := "(II)V" } : Jvm.MethodName)) ∈ lw_tbl := tk_6 (j := 225) rfl
theorem tw_1666 : (Jvm.Cond.code ({ cls := "NightDoorsModel", name := "laysNow", desc := "(II)V" } : Jvm.MethodName) prog_14_method_51_code (4 : Nat) (Option.none : Option Jvm.ClassFile.FieldType)) ∈ lw_tbl := tk_6 (j := 226) rfl
theorem tw_1667 : (Jvm.Cond.methodLink "NightDoorsModel" (395 : Nat) ({ cls := "NightDoorsModel", name := "weightOf", desc := "(II)I" } : Jvm.MethodName)) ∈ lw_tbl := tk_6 (j := 227) rfl
theorem tw_1669 : (Jvm.Cond.instanceMethod ({ cls := "NightDoorsModel", name := "weightOf", desc := "(II)I" } : Jvm.MethodName)) ∈ lw_tbl := tk_6 (j := 229) rfl
theorem tw_1670 : (Jvm.Cond.code ({ cls := "NightDoorsModel", name := "weightOf", desc := "(II)I" } : Jvm.MethodName) prog_14_method_50_code (3 : Nat) (Option.some Jvm.ClassFile.FieldType.int)) ∈ lw_tbl := tk_6 (j := 230) rfl
theorem tw_1671 : (Jvm.Cond.methodLink "NightDoorsModel" (433 : Nat) ({ cls := "NightDoorsModel", name := "isHomeAt", desc := "(I)Z" } : Jvm.MethodName)) ∈ lw_tbl := tk_6 (j := 231) rfl
theorem tw_1673 : (Jvm.Cond.instanceMethod ({ cls := "NightDoorsModel", name := "isHomeAt", desc := "(I)Z" } : Jvm.MethodName)) ∈ lw_tbl := tk_6 (j := 233) rfl
theorem tw_1674 : (Jvm.Cond.code ({ cls := "NightDoorsModel", name := "isHomeAt", desc := "(I)Z" } : Jvm.MethodName) prog_14_method_57_code (2 : Nat) (Option.some Jvm.ClassFile.FieldType.boolean)) ∈ lw_tbl := tk_6 (j := 234) rfl
theorem tw_1675 : (Jvm.Cond.methodLink "NightDoorsModel" (398 : Nat) ({ cls := "NightDoorsModel", name := "sumAt", desc := "(I)I" } : Jvm.MethodName)) ∈ lw_tbl := tk_6 (j := 235) rfl
theorem tw_1677 : (Jvm.Cond.instanceMethod ({ cls := "NightDoorsModel", name := "sumAt", desc := "(I)I" } : Jvm.MethodName)) ∈ lw_tbl := tk_6 (j := 237) rfl
theorem tw_1678 : (Jvm.Cond.code ({ cls := "NightDoorsModel", name := "sumAt", desc := "(I)I" } : Jvm.MethodName) prog_14_method_54_code (4 : Nat) (Option.some Jvm.ClassFile.FieldType.int)) ∈ lw_tbl := tk_6 (j := 238) rfl
theorem tw_1679 : (Jvm.Cond.methodLink "NightDoorsLaw" (41 : Nat) ({ cls := "NightDoorsModel", name := "letter", desc := "(III)I" } : Jvm.MethodName)) ∈ lw_tbl := tk_6 (j := 239) rfl
theorem tw_1680 : (Jvm.Cond.instanceMethod ({ cls := "NightDoorsModel", name := "letter", desc := "(III)I" } : Jvm.MethodName)) ∈ lw_tbl := tk_7 (j := 0) rfl
theorem tw_1681 : (Jvm.Cond.selects "NightDoorsModel" ({ cls := "NightDoorsModel", name := "letter", desc := "(III)I" } : Jvm.MethodName) ({ cls := "NightDoorsModel", name := "letter", desc := "(III)I" } : Jvm.MethodName)) ∈ lw_tbl := tk_7 (j := 1) rfl
theorem tw_1682 : (Jvm.Cond.code ({ cls := "NightDoorsModel", name := "letter", desc := "(III)I" } : Jvm.MethodName) prog_14_method_66_code (9 : Nat) (Option.some Jvm.ClassFile.FieldType.int)) ∈ lw_tbl := tk_7 (j := 2) rfl
theorem tw_1683 : (Jvm.Cond.constantLong "NightDoorsModel" (442 : Nat) (2 : Int64)) ∈ lw_tbl := tk_7 (j := 3) rfl
theorem tw_1684 : (Jvm.Cond.constantLong "NightDoorsModel" (444 : Nat) (5 : Int64)) ∈ lw_tbl := tk_7 (j := 4) rfl
theorem tw_1685 : (Jvm.Cond.methodLink "NightDoorsLaw" (46 : Nat) ({ cls := "NightDoorsModel", name := "dreamer", desc := "(II)I" } : Jvm.MethodName)) ∈ lw_tbl := tk_7 (j := 5) rfl
theorem tw_1686 : (Jvm.Cond.instanceMethod ({ cls := "NightDoorsModel", name := "dreamer", desc := "(II)I" } : Jvm.MethodName)) ∈ lw_tbl := tk_7 (j := 6) rfl
theorem tw_1687 : (Jvm.Cond.selects "NightDoorsModel" ({ cls := "NightDoorsModel", name := "dreamer", desc := "(II)I" } : Jvm.MethodName) ({ cls := "NightDoorsModel", name := "dreamer", desc := "(II)I" } : Jvm.MethodName)) ∈ lw_tbl := tk_7 (j := 7) rfl
theorem tw_1688 : (Jvm.Cond.code ({ cls := "NightDoorsModel", name := "dreamer", desc := "(II)I" } : Jvm.MethodName) prog_14_method_67_code (4 : Nat) (Option.some Jvm.ClassFile.FieldType.int)) ∈ lw_tbl := tk_7 (j := 8) rfl
theorem tw_1689 : (Jvm.Cond.methodLink "NightDoorsModel" (446 : Nat) ({ cls := "NightDoorsModel", name := "isDreamer", desc := "(I)Z" } : Jvm.MethodName)) ∈ lw_tbl := tk_7 (j := 9) rfl
theorem tw_1691 : (Jvm.Cond.instanceMethod ({ cls := "NightDoorsModel", name := "isDreamer", desc := "(I)Z" } : Jvm.MethodName)) ∈ lw_tbl := tk_7 (j := 11) rfl
theorem tw_1692 : (Jvm.Cond.code ({ cls := "NightDoorsModel", name := "isDreamer", desc := "(I)Z" } : Jvm.MethodName) prog_14_method_48_code (2 : Nat) (Option.some Jvm.ClassFile.FieldType.boolean)) ∈ lw_tbl := tk_7 (j := 12) rfl
theorem tw_1693 : (Jvm.Cond.methodLink "NightDoorsModel" (449 : Nat) ({ cls := "NightDoorsModel", name := "guideOf", desc := "(I)I" } : Jvm.MethodName)) ∈ lw_tbl := tk_7 (j := 13) rfl
theorem tw_1695 : (Jvm.Cond.instanceMethod ({ cls := "NightDoorsModel", name := "guideOf", desc := "(I)I" } : Jvm.MethodName)) ∈ lw_tbl := tk_7 (j := 15) rfl
theorem tw_1696 : (Jvm.Cond.code ({ cls := "NightDoorsModel", name := "guideOf", desc := "(I)I" } : Jvm.MethodName) prog_14_method_63_code (2 : Nat) (Option.some Jvm.ClassFile.FieldType.int)) ∈ lw_tbl := tk_7 (j := 16) rfl
theorem tw_1697 : (Jvm.Cond.methodLink "NightDoorsModel" (423 : Nat) ({ cls := "NightDoorsModel", name := "worstAt", desc := "(III)I" } : Jvm.MethodName)) ∈ lw_tbl := tk_7 (j := 17) rfl
theorem tw_1699 : (Jvm.Cond.instanceMethod ({ cls := "NightDoorsModel", name := "worstAt", desc := "(III)I" } : Jvm.MethodName)) ∈ lw_tbl := tk_7 (j := 19) rfl
theorem tw_1700 : (Jvm.Cond.code ({ cls := "NightDoorsModel", name := "worstAt", desc := "(III)I" } : Jvm.MethodName) prog_14_method_59_code (6 : Nat) (Option.some Jvm.ClassFile.FieldType.int)) ∈ lw_tbl := tk_7 (j := 20) rfl
theorem tw_1701 : (Jvm.Cond.methodLink "NightDoorsModel" (404 : Nat) ({ cls := "NightDoorsModel", name := "counts", desc := "(III)I" } : Jvm.MethodName)) ∈ lw_tbl := tk_7 (j := 21) rfl
theorem tw_1703 : (Jvm.Cond.instanceMethod ({ cls := "NightDoorsModel", name := "counts", desc := "(III)I" } : Jvm.MethodName)) ∈ lw_tbl := tk_7 (j := 23) rfl
theorem tw_1704 : (Jvm.Cond.code ({ cls := "NightDoorsModel", name := "counts", desc := "(III)I" } : Jvm.MethodName) prog_14_method_58_code (4 : Nat) (Option.some Jvm.ClassFile.FieldType.int)) ∈ lw_tbl := tk_7 (j := 24) rfl
theorem tw_1705 : (Jvm.Cond.methodLink "NightDoorsModel" (408 : Nat) ({ cls := "NightDoorsModel", name := "greatestAt", desc := "(I)I" } : Jvm.MethodName)) ∈ lw_tbl := tk_7 (j := 25) rfl
theorem tw_1707 : (Jvm.Cond.instanceMethod ({ cls := "NightDoorsModel", name := "greatestAt", desc := "(I)I" } : Jvm.MethodName)) ∈ lw_tbl := tk_7 (j := 27) rfl
theorem tw_1708 : (Jvm.Cond.code ({ cls := "NightDoorsModel", name := "greatestAt", desc := "(I)I" } : Jvm.MethodName) prog_14_method_55_code (4 : Nat) (Option.some Jvm.ClassFile.FieldType.int)) ∈ lw_tbl := tk_7 (j := 28) rfl
theorem tw_1709 : (Jvm.Cond.methodLink "NightDoorsModel" (411 : Nat) ({ cls := "NightDoorsModel", name := "manyAt", desc := "(I)I" } : Jvm.MethodName)) ∈ lw_tbl := tk_7 (j := 29) rfl
theorem tw_1711 : (Jvm.Cond.instanceMethod ({ cls := "NightDoorsModel", name := "manyAt", desc := "(I)I" } : Jvm.MethodName)) ∈ lw_tbl := tk_7 (j := 31) rfl
theorem tw_1712 : (Jvm.Cond.code ({ cls := "NightDoorsModel", name := "manyAt", desc := "(I)I" } : Jvm.MethodName) prog_14_method_56_code (4 : Nat) (Option.some Jvm.ClassFile.FieldType.int)) ∈ lw_tbl := tk_7 (j := 32) rfl
theorem tw_1713 : (Jvm.Cond.methodLink "NightDoorsLaw" (50 : Nat) ({ cls := "NightDoorsModel", name := "weigh", desc := "(III)I" } : Jvm.MethodName)) ∈ lw_tbl := tk_7 (j := 33) rfl
theorem tw_1714 : (Jvm.Cond.instanceMethod ({ cls := "NightDoorsModel", name := "weigh", desc := "(III)I" } : Jvm.MethodName)) ∈ lw_tbl := tk_7 (j := 34) rfl
theorem tw_1715 : (Jvm.Cond.selects "NightDoorsModel" ({ cls := "NightDoorsModel", name := "weigh", desc := "(III)I" } : Jvm.MethodName) ({ cls := "NightDoorsModel", name := "weigh", desc := "(III)I" } : Jvm.MethodName)) ∈ lw_tbl := tk_7 (j := 35) rfl
theorem tw_1716 : (Jvm.Cond.code ({ cls := "NightDoorsModel", name := "weigh", desc := "(III)I" } : Jvm.MethodName) prog_14_method_68_code (4 : Nat) (Option.some Jvm.ClassFile.FieldType.int)) ∈ lw_tbl := tk_7 (j := 36) rfl
theorem tw_1717 : (Jvm.Cond.methodLink "NightDoorsModel" (452 : Nat) ({ cls := "NightDoorsModel", name := "isDread", desc := "(I)Z" } : Jvm.MethodName)) ∈ lw_tbl := tk_7 (j := 37) rfl
theorem tw_1719 : (Jvm.Cond.instanceMethod ({ cls := "NightDoorsModel", name := "isDread", desc := "(I)Z" } : Jvm.MethodName)) ∈ lw_tbl := tk_7 (j := 39) rfl
theorem tw_1720 : (Jvm.Cond.code ({ cls := "NightDoorsModel", name := "isDread", desc := "(I)Z" } : Jvm.MethodName) prog_14_method_47_code (2 : Nat) (Option.some Jvm.ClassFile.FieldType.boolean)) ∈ lw_tbl := tk_7 (j := 40) rfl
theorem tw_1721 : (Jvm.Cond.constantLong "NightDoorsModel" (455 : Nat) (4 : Int64)) ∈ lw_tbl := tk_7 (j := 41) rfl
theorem tw_1722 : (Jvm.Cond.methodLink "NightDoorsModel" (426 : Nat) ({ cls := "NightDoorsModel", name := "made", desc := "(IIII)I" } : Jvm.MethodName)) ∈ lw_tbl := tk_7 (j := 42) rfl
theorem tw_1724 : (Jvm.Cond.instanceMethod ({ cls := "NightDoorsModel", name := "made", desc := "(IIII)I" } : Jvm.MethodName)) ∈ lw_tbl := tk_7 (j := 44) rfl
theorem tw_1725 : (Jvm.Cond.code ({ cls := "NightDoorsModel", name := "made", desc := "(IIII)I" } : Jvm.MethodName) prog_14_method_60_code (7 : Nat) (Option.some Jvm.ClassFile.FieldType.int)) ∈ lw_tbl := tk_7 (j := 45) rfl
theorem tw_1726 : (Jvm.Cond.methodLink "NightDoorsModel" (381 : Nat) ({ cls := "NightDoorsModel", name := "puts", desc := "(J)V" } : Jvm.MethodName)) ∈ lw_tbl := tk_7 (j := 46) rfl
theorem tw_1728 : (Jvm.Cond.instanceMethod ({ cls := "NightDoorsModel", name := "puts", desc := "(J)V" } : Jvm.MethodName)) ∈ lw_tbl := tk_7 (j := 48) rfl
theorem tw_1729 : (Jvm.Cond.code ({ cls := "NightDoorsModel", name := "puts", desc := "(J)V" } : Jvm.MethodName) prog_14_method_42_code (3 : Nat) (Option.none : Option Jvm.ClassFile.FieldType)) ∈ lw_tbl := tk_7 (j := 49) rfl
theorem tw_1730 : (Jvm.Cond.constantLong "NightDoorsModel" (414 : Nat) (7 : Int64)) ∈ lw_tbl := tk_7 (j := 50) rfl
theorem tw_1731 : (Jvm.Cond.constantLong "NightDoorsModel" (416 : Nat) (12 : Int64)) ∈ lw_tbl := tk_7 (j := 51) rfl
theorem tw_1732 : (Jvm.Cond.methodLink "NightDoorsModel" (418 : Nat) ({ cls := "NightDoorsModel", name := "joins", desc := "(I)V" } : Jvm.MethodName)) ∈ lw_tbl := tk_7 (j := 52) rfl
theorem tw_1734 : (Jvm.Cond.instanceMethod ({ cls := "NightDoorsModel", name := "joins", desc := "(I)V" } : Jvm.MethodName)) ∈ lw_tbl := tk_7 (j := 54) rfl
theorem tw_1735 : (Jvm.Cond.code ({ cls := "NightDoorsModel", name := "joins", desc := "(I)V" } : Jvm.MethodName) prog_14_method_43_code (6 : Nat) (Option.none : Option Jvm.ClassFile.FieldType)) ∈ lw_tbl := tk_7 (j := 55) rfl
theorem tw_1736 : (Jvm.Cond.methodLink "NightDoorsModel" (377 : Nat) ({ cls := "NightDoorsModel", name := "clip", desc := "(J)J" } : Jvm.MethodName)) ∈ lw_tbl := tk_7 (j := 56) rfl
theorem tw_1737 : (Jvm.Cond.static ({ cls := "NightDoorsModel", name := "clip", desc := "(J)J" } : Jvm.MethodName)) ∈ lw_tbl := tk_7 (j := 57) rfl
theorem tw_1738 : (Jvm.Cond.code ({ cls := "NightDoorsModel", name := "clip", desc := "(J)J" } : Jvm.MethodName) prog_14_method_40_code (2 : Nat) (Option.some Jvm.ClassFile.FieldType.long)) ∈ lw_tbl := tk_7 (j := 58) rfl
theorem tw_1739 : (Jvm.Cond.constantLong "NightDoorsModel" (370 : Nat) (1000000 : Int64)) ∈ lw_tbl := tk_7 (j := 59) rfl
theorem tw_1740 : (Jvm.Cond.constantLong "NightDoorsModel" (372 : Nat) (-1000000 : Int64)) ∈ lw_tbl := tk_7 (j := 60) rfl
theorem tw_1741 : (Jvm.Cond.methodLink "NightDoorsModel" (385 : Nat) ({ cls := "NightDoorsModel", name := "floor", desc := "(JJ)J" } : Jvm.MethodName)) ∈ lw_tbl := tk_7 (j := 61) rfl
theorem tw_1742 : (Jvm.Cond.static ({ cls := "NightDoorsModel", name := "floor", desc := "(JJ)J" } : Jvm.MethodName)) ∈ lw_tbl := tk_7 (j := 62) rfl
theorem tw_1743 : (Jvm.Cond.code ({ cls := "NightDoorsModel", name := "floor", desc := "(JJ)J" } : Jvm.MethodName) prog_14_method_41_code (6 : Nat) (Option.some Jvm.ClassFile.FieldType.long)) ∈ lw_tbl := tk_7 (j := 63) rfl
theorem tw_1744 : (Jvm.Cond.constantLong "NightDoorsModel" (421 : Nat) (999 : Int64)) ∈ lw_tbl := tk_7 (j := 64) rfl
theorem tw_1745 : (Jvm.Cond.methodLink "NightDoorsLaw" (54 : Nat) ({ cls := "NightDoorsModel", name := "guide", desc := "(I)I" } : Jvm.MethodName)) ∈ lw_tbl := tk_7 (j := 65) rfl
theorem tw_1746 : (Jvm.Cond.instanceMethod ({ cls := "NightDoorsModel", name := "guide", desc := "(I)I" } : Jvm.MethodName)) ∈ lw_tbl := tk_7 (j := 66) rfl
theorem tw_1747 : (Jvm.Cond.selects "NightDoorsModel" ({ cls := "NightDoorsModel", name := "guide", desc := "(I)I" } : Jvm.MethodName) ({ cls := "NightDoorsModel", name := "guide", desc := "(I)I" } : Jvm.MethodName)) ∈ lw_tbl := tk_7 (j := 67) rfl
theorem tw_1748 : (Jvm.Cond.code ({ cls := "NightDoorsModel", name := "guide", desc := "(I)I" } : Jvm.MethodName) prog_14_method_69_code (2 : Nat) (Option.some Jvm.ClassFile.FieldType.int)) ∈ lw_tbl := tk_7 (j := 68) rfl
theorem tw_1749 : (Jvm.Cond.methodLink "NightDoorsLaw" (58 : Nat) ({ cls := "NightDoorsModel", name := "room", desc := "(II)I" } : Jvm.MethodName)) ∈ lw_tbl := tk_7 (j := 69) rfl
theorem tw_1750 : (Jvm.Cond.instanceMethod ({ cls := "NightDoorsModel", name := "room", desc := "(II)I" } : Jvm.MethodName)) ∈ lw_tbl := tk_7 (j := 70) rfl
theorem tw_1751 : (Jvm.Cond.selects "NightDoorsModel" ({ cls := "NightDoorsModel", name := "room", desc := "(II)I" } : Jvm.MethodName) ({ cls := "NightDoorsModel", name := "room", desc := "(II)I" } : Jvm.MethodName)) ∈ lw_tbl := tk_7 (j := 71) rfl
theorem tw_1752 : (Jvm.Cond.code ({ cls := "NightDoorsModel", name := "room", desc := "(II)I" } : Jvm.MethodName) prog_14_method_71_code (3 : Nat) (Option.some Jvm.ClassFile.FieldType.int)) ∈ lw_tbl := tk_7 (j := 72) rfl
theorem tw_1753 : (Jvm.Cond.constantLong "NightDoorsModel" (467 : Nat) (199 : Int64)) ∈ lw_tbl := tk_7 (j := 73) rfl
theorem tw_1754 : (Jvm.Cond.methodLink "NightDoorsModel" (469 : Nat) ({ cls := "NightDoorsModel", name := "goesAhead", desc := "(I)V" } : Jvm.MethodName)) ∈ lw_tbl := tk_7 (j := 74) rfl
theorem tw_1756 : (Jvm.Cond.instanceMethod ({ cls := "NightDoorsModel", name := "goesAhead", desc := "(I)V" } : Jvm.MethodName)) ∈ lw_tbl := tk_7 (j := 76) rfl
theorem tw_1757 : (Jvm.Cond.code ({ cls := "NightDoorsModel", name := "goesAhead", desc := "(I)V" } : Jvm.MethodName) prog_14_method_70_code (2 : Nat) (Option.none : Option Jvm.ClassFile.FieldType)) ∈ lw_tbl := tk_7 (j := 77) rfl
theorem tw_1758 : (Jvm.Cond.methodLink "NightDoorsModel" (460 : Nat) ({ cls := "NightDoorsModel", name := "laysRow", desc := "(II)V" } : Jvm.MethodName)) ∈ lw_tbl := tk_7 (j := 78) rfl
theorem tw_1760 : (Jvm.Cond.instanceMethod ({ cls := "NightDoorsModel", name := "laysRow", desc := "(II)V" } : Jvm.MethodName)) ∈ lw_tbl := tk_7 (j := 80) rfl
theorem tw_1761 : (Jvm.Cond.code ({ cls := "NightDoorsModel", name := "laysRow", desc := "(II)V" } : Jvm.MethodName) prog_14_method_52_code (4 : Nat) (Option.none : Option Jvm.ClassFile.FieldType)) ∈ lw_tbl := tk_7 (j := 81) rfl
theorem tw_1762 : (Jvm.Cond.methodLink "NightDoorsModel" (463 : Nat) ({ cls := "NightDoorsModel", name := "roomGoes", desc := "(IIIZ)I" } : Jvm.MethodName)) ∈ lw_tbl := tk_7 (j := 82) rfl
theorem tw_1764 : (Jvm.Cond.instanceMethod ({ cls := "NightDoorsModel", name := "roomGoes", desc := "(IIIZ)I" } : Jvm.MethodName)) ∈ lw_tbl := tk_7 (j := 84) rfl
theorem tw_1765 : (Jvm.Cond.code ({ cls := "NightDoorsModel", name := "roomGoes", desc := "(IIIZ)I" } : Jvm.MethodName) prog_14_method_61_code (8 : Nat) (Option.some Jvm.ClassFile.FieldType.int)) ∈ lw_tbl := tk_7 (j := 85) rfl
theorem tw_1766 : (Jvm.Cond.methodLink "NightDoorsLaw" (62 : Nat) ({ cls := "NightDoorsModel", name := "later", desc := "(III)I" } : Jvm.MethodName)) ∈ lw_tbl := tk_7 (j := 86) rfl
theorem tw_1767 : (Jvm.Cond.instanceMethod ({ cls := "NightDoorsModel", name := "later", desc := "(III)I" } : Jvm.MethodName)) ∈ lw_tbl := tk_7 (j := 87) rfl
theorem tw_1768 : (Jvm.Cond.selects "NightDoorsModel" ({ cls := "NightDoorsModel", name := "later", desc := "(III)I" } : Jvm.MethodName) ({ cls := "NightDoorsModel", name := "later", desc := "(III)I" } : Jvm.MethodName)) ∈ lw_tbl := tk_7 (j := 88) rfl
theorem tw_1769 : (Jvm.Cond.code ({ cls := "NightDoorsModel", name := "later", desc := "(III)I" } : Jvm.MethodName) prog_14_method_72_code (4 : Nat) (Option.some Jvm.ClassFile.FieldType.int)) ∈ lw_tbl := tk_7 (j := 89) rfl
theorem tw_1770 : (Jvm.Cond.constantLong "NightDoorsModel" (472 : Nat) (200 : Int64)) ∈ lw_tbl := tk_7 (j := 90) rfl
theorem tw_1771 : (Jvm.Cond.methodLink "NightDoorsLaw" (66 : Nat) ({ cls := "NightDoorsModel", name := "till", desc := "(I)I" } : Jvm.MethodName)) ∈ lw_tbl := tk_7 (j := 91) rfl
theorem tw_1772 : (Jvm.Cond.instanceMethod ({ cls := "NightDoorsModel", name := "till", desc := "(I)I" } : Jvm.MethodName)) ∈ lw_tbl := tk_7 (j := 92) rfl
theorem tw_1773 : (Jvm.Cond.selects "NightDoorsModel" ({ cls := "NightDoorsModel", name := "till", desc := "(I)I" } : Jvm.MethodName) ({ cls := "NightDoorsModel", name := "till", desc := "(I)I" } : Jvm.MethodName)) ∈ lw_tbl := tk_7 (j := 93) rfl
theorem tw_1774 : (Jvm.Cond.code ({ cls := "NightDoorsModel", name := "till", desc := "(I)I" } : Jvm.MethodName) prog_14_method_73_code (2 : Nat) (Option.some Jvm.ClassFile.FieldType.int)) ∈ lw_tbl := tk_7 (j := 94) rfl
theorem tw_1775 : (Jvm.Cond.methodLink "NightDoorsLaw" (70 : Nat) ({ cls := "NightDoorsModel", name := "again", desc := "(II)I" } : Jvm.MethodName)) ∈ lw_tbl := tk_7 (j := 95) rfl
theorem tw_1776 : (Jvm.Cond.instanceMethod ({ cls := "NightDoorsModel", name := "again", desc := "(II)I" } : Jvm.MethodName)) ∈ lw_tbl := tk_7 (j := 96) rfl
theorem tw_1777 : (Jvm.Cond.selects "NightDoorsModel" ({ cls := "NightDoorsModel", name := "again", desc := "(II)I" } : Jvm.MethodName) ({ cls := "NightDoorsModel", name := "again", desc := "(II)I" } : Jvm.MethodName)) ∈ lw_tbl := tk_7 (j := 97) rfl
theorem tw_1778 : (Jvm.Cond.code ({ cls := "NightDoorsModel", name := "again", desc := "(II)I" } : Jvm.MethodName) prog_14_method_76_code (3 : Nat) (Option.some Jvm.ClassFile.FieldType.int)) ∈ lw_tbl := tk_7 (j := 98) rfl
theorem tw_1779 : (Jvm.Cond.methodLink "NightDoorsModel" (478 : Nat) ({ cls := "NightDoorsModel", name := "comesAgain", desc := "(Z)I" } : Jvm.MethodName)) ∈ lw_tbl := tk_7 (j := 99) rfl
theorem tw_1781 : (Jvm.Cond.instanceMethod ({ cls := "NightDoorsModel", name := "comesAgain", desc := "(Z)I" } : Jvm.MethodName)) ∈ lw_tbl := tk_7 (j := 101) rfl
theorem tw_1782 : (Jvm.Cond.code ({ cls := "NightDoorsModel", name := "comesAgain", desc := "(Z)I" } : Jvm.MethodName) prog_14_method_75_code (4 : Nat) (Option.some Jvm.ClassFile.FieldType.int)) ∈ lw_tbl := tk_7 (j := 102) rfl
theorem tw_1783 : (Jvm.Cond.methodLink "NightDoorsModel" (474 : Nat) ({ cls := "NightDoorsModel", name := "areAlike", desc := "(II)Z" } : Jvm.MethodName)) ∈ lw_tbl := tk_7 (j := 103) rfl
theorem tw_1785 : (Jvm.Cond.instanceMethod ({ cls := "NightDoorsModel", name := "areAlike", desc := "(II)Z" } : Jvm.MethodName)) ∈ lw_tbl := tk_7 (j := 105) rfl
theorem tw_1786 : (Jvm.Cond.code ({ cls := "NightDoorsModel", name := "areAlike", desc := "(II)Z" } : Jvm.MethodName) prog_14_method_74_code (4 : Nat) (Option.some Jvm.ClassFile.FieldType.boolean)) ∈ lw_tbl := tk_7 (j := 106) rfl
theorem tw_1787 : (Jvm.Cond.methodLink "NightDoorsLaw" (74 : Nat) ({ cls := "NightDoorsModel", name := "soonest", desc := "(II)I" } : Jvm.MethodName)) ∈ lw_tbl := tk_7 (j := 107) rfl
theorem tw_1788 : (Jvm.Cond.instanceMethod ({ cls := "NightDoorsModel", name := "soonest", desc := "(II)I" } : Jvm.MethodName)) ∈ lw_tbl := tk_7 (j := 108) rfl
theorem tw_1789 : (Jvm.Cond.selects "NightDoorsModel" ({ cls := "NightDoorsModel", name := "soonest", desc := "(II)I" } : Jvm.MethodName) ({ cls := "NightDoorsModel", name := "soonest", desc := "(II)I" } : Jvm.MethodName)) ∈ lw_tbl := tk_7 (j := 109) rfl
theorem tw_1790 : (Jvm.Cond.code ({ cls := "NightDoorsModel", name := "soonest", desc := "(II)I" } : Jvm.MethodName) prog_14_method_80_code (3 : Nat) (Option.some Jvm.ClassFile.FieldType.int)) ∈ lw_tbl := tk_7 (j := 110) rfl
theorem tw_1791 : (Jvm.Cond.methodLink "NightDoorsModel" (495 : Nat) ({ cls := "NightDoorsModel", name := "seeksSoonest", desc := "(II)V" } : Jvm.MethodName)) ∈ lw_tbl := tk_7 (j := 111) rfl
theorem tw_1793 : (Jvm.Cond.instanceMethod ({ cls := "NightDoorsModel", name := "seeksSoonest", desc := "(II)V" } : Jvm.MethodName)) ∈ lw_tbl := tk_7 (j := 113) rfl
theorem tw_1794 : (Jvm.Cond.code ({ cls := "NightDoorsModel", name := "seeksSoonest", desc := "(II)V" } : Jvm.MethodName) prog_14_method_78_code (5 : Nat) (Option.none : Option Jvm.ClassFile.FieldType)) ∈ lw_tbl := tk_7 (j := 114) rfl
theorem tw_1795 : (Jvm.Cond.methodLink "NightDoorsModel" (488 : Nat) ({ cls := "NightDoorsModel", name := "isWay", desc := "(IIII)Z" } : Jvm.MethodName)) ∈ lw_tbl := tk_7 (j := 115) rfl
theorem tw_1797 : (Jvm.Cond.instanceMethod ({ cls := "NightDoorsModel", name := "isWay", desc := "(IIII)Z" } : Jvm.MethodName)) ∈ lw_tbl := tk_7 (j := 117) rfl
theorem tw_1798 : (Jvm.Cond.code ({ cls := "NightDoorsModel", name := "isWay", desc := "(IIII)Z" } : Jvm.MethodName) prog_14_method_77_code (9 : Nat) (Option.some Jvm.ClassFile.FieldType.boolean)) ∈ lw_tbl := tk_7 (j := 118) rfl
theorem tw_1799 : (Jvm.Cond.methodLink "NightDoorsModel" (498 : Nat) ({ cls := "NightDoorsModel", name := "wayTold", desc := "(I)I" } : Jvm.MethodName)) ∈ lw_tbl := tk_7 (j := 119) rfl
theorem tw_1801 : (Jvm.Cond.instanceMethod ({ cls := "NightDoorsModel", name := "wayTold", desc := "(I)I" } : Jvm.MethodName)) ∈ lw_tbl := tk_7 (j := 121) rfl
theorem tw_1802 : (Jvm.Cond.code ({ cls := "NightDoorsModel", name := "wayTold", desc := "(I)I" } : Jvm.MethodName) prog_14_method_79_code (2 : Nat) (Option.some Jvm.ClassFile.FieldType.int)) ∈ lw_tbl := tk_7 (j := 122) rfl
theorem tw_1803 : (Jvm.Cond.methodLink "NightDoorsLaw" (78 : Nat) ({ cls := "NightDoorsModel", name := "least", desc := "(II)I" } : Jvm.MethodName)) ∈ lw_tbl := tk_7 (j := 123) rfl
theorem tw_1804 : (Jvm.Cond.instanceMethod ({ cls := "NightDoorsModel", name := "least", desc := "(II)I" } : Jvm.MethodName)) ∈ lw_tbl := tk_7 (j := 124) rfl
theorem tw_1805 : (Jvm.Cond.selects "NightDoorsModel" ({ cls := "NightDoorsModel", name := "least", desc := "(II)I" } : Jvm.MethodName) ({ cls := "NightDoorsModel", name := "least", desc := "(II)I" } : Jvm.MethodName)) ∈ lw_tbl := tk_7 (j := 125) rfl
theorem tw_1806 : (Jvm.Cond.code ({ cls := "NightDoorsModel", name := "least", desc := "(II)I" } : Jvm.MethodName) prog_14_method_81_code (6 : Nat) (Option.some Jvm.ClassFile.FieldType.int)) ∈ lw_tbl := tk_7 (j := 126) rfl
theorem tw_1807 : (Jvm.Cond.methodLink "NightDoorsLaw" (82 : Nat) ({ cls := "NightDoorsModel", name := "along", desc := "(II)I" } : Jvm.MethodName)) ∈ lw_tbl := tk_7 (j := 127) rfl
theorem tw_1808 : (Jvm.Cond.instanceMethod ({ cls := "NightDoorsModel", name := "along", desc := "(II)I" } : Jvm.MethodName)) ∈ lw_tbl := tk_7 (j := 128) rfl
theorem tw_1809 : (Jvm.Cond.selects "NightDoorsModel" ({ cls := "NightDoorsModel", name := "along", desc := "(II)I" } : Jvm.MethodName) ({ cls := "NightDoorsModel", name := "along", desc := "(II)I" } : Jvm.MethodName)) ∈ lw_tbl := tk_7 (j := 129) rfl
theorem tw_1810 : (Jvm.Cond.code ({ cls := "NightDoorsModel", name := "along", desc := "(II)I" } : Jvm.MethodName) prog_14_method_82_code (6 : Nat) (Option.some Jvm.ClassFile.FieldType.int)) ∈ lw_tbl := tk_7 (j := 130) rfl
theorem tw_1811 : (Jvm.Cond.methodLink "NightDoorsLaw" (86 : Nat) ({ cls := "NightDoorsModel", name := "days", desc := "(III)I" } : Jvm.MethodName)) ∈ lw_tbl := tk_7 (j := 131) rfl
theorem tw_1812 : (Jvm.Cond.instanceMethod ({ cls := "NightDoorsModel", name := "days", desc := "(III)I" } : Jvm.MethodName)) ∈ lw_tbl := tk_7 (j := 132) rfl
theorem tw_1813 : (Jvm.Cond.selects "NightDoorsModel" ({ cls := "NightDoorsModel", name := "days", desc := "(III)I" } : Jvm.MethodName) ({ cls := "NightDoorsModel", name := "days", desc := "(III)I" } : Jvm.MethodName)) ∈ lw_tbl := tk_7 (j := 133) rfl
theorem tw_1814 : (Jvm.Cond.code ({ cls := "NightDoorsModel", name := "days", desc := "(III)I" } : Jvm.MethodName) prog_14_method_85_code (8 : Nat) (Option.some Jvm.ClassFile.FieldType.int)) ∈ lw_tbl := tk_7 (j := 134) rfl
theorem tw_1815 : (Jvm.Cond.methodLink "NightDoorsModel" (501 : Nat) ({ cls := "NightDoorsModel", name := "bits", desc := "(I)I" } : Jvm.MethodName)) ∈ lw_tbl := tk_7 (j := 135) rfl
theorem tw_1816 : (Jvm.Cond.static ({ cls := "NightDoorsModel", name := "bits", desc := "(I)I" } : Jvm.MethodName)) ∈ lw_tbl := tk_7 (j := 136) rfl
theorem tw_1817 : (Jvm.Cond.code ({ cls := "NightDoorsModel", name := "bits", desc := "(I)I" } : Jvm.MethodName) prog_14_method_83_code (3 : Nat) (Option.some Jvm.ClassFile.FieldType.int)) ∈ lw_tbl := tk_7 (j := 137) rfl
theorem tw_1818 : (Jvm.Cond.methodLink "NightDoorsModel" (504 : Nat) ({ cls := "NightDoorsModel", name := "isOrder", desc := "(II)Z" } : Jvm.MethodName)) ∈ lw_tbl := tk_7 (j := 138) rfl
theorem tw_1820 : (Jvm.Cond.instanceMethod ({ cls := "NightDoorsModel", name := "isOrder", desc := "(II)Z" } : Jvm.MethodName)) ∈ lw_tbl := tk_7 (j := 140) rfl
theorem tw_1821 : (Jvm.Cond.code ({ cls := "NightDoorsModel", name := "isOrder", desc := "(II)Z" } : Jvm.MethodName) prog_14_method_84_code (6 : Nat) (Option.some Jvm.ClassFile.FieldType.boolean)) ∈ lw_tbl := tk_7 (j := 141) rfl
theorem tw_1822 : (Jvm.Cond.methodLink "NightDoorsLaw" (90 : Nat) ({ cls := "NightDoorsModel", name := "hand", desc := "(III)I" } : Jvm.MethodName)) ∈ lw_tbl := tk_7 (j := 142) rfl
theorem tw_1823 : (Jvm.Cond.instanceMethod ({ cls := "NightDoorsModel", name := "hand", desc := "(III)I" } : Jvm.MethodName)) ∈ lw_tbl := tk_7 (j := 143) rfl
theorem tw_1824 : (Jvm.Cond.selects "NightDoorsModel" ({ cls := "NightDoorsModel", name := "hand", desc := "(III)I" } : Jvm.MethodName) ({ cls := "NightDoorsModel", name := "hand", desc := "(III)I" } : Jvm.MethodName)) ∈ lw_tbl := tk_7 (j := 144) rfl
theorem tw_1825 : (Jvm.Cond.code ({ cls := "NightDoorsModel", name := "hand", desc := "(III)I" } : Jvm.MethodName) prog_14_method_87_code (7 : Nat) (Option.some Jvm.ClassFile.FieldType.int)) ∈ lw_tbl := tk_7 (j := 145) rfl
theorem tw_1826 : (Jvm.Cond.methodLink "NightDoorsModel" (507 : Nat) ({ cls := "NightDoorsModel", name := "worstOfTwo", desc := "()I" } : Jvm.MethodName)) ∈ lw_tbl := tk_7 (j := 146) rfl
theorem tw_1828 : (Jvm.Cond.instanceMethod ({ cls := "NightDoorsModel", name := "worstOfTwo", desc := "()I" } : Jvm.MethodName)) ∈ lw_tbl := tk_7 (j := 148) rfl
theorem tw_1829 : (Jvm.Cond.code ({ cls := "NightDoorsModel", name := "worstOfTwo", desc := "()I" } : Jvm.MethodName) prog_14_method_86_code (3 : Nat) (Option.some Jvm.ClassFile.FieldType.int)) ∈ lw_tbl := tk_7 (j := 149) rfl
theorem tw_1830 : (Jvm.Cond.methodLink "NightDoorsLaw" (94 : Nat) ({ cls := "NightDoorsModel", name := "against", desc := "(II)I" } : Jvm.MethodName)) ∈ lw_tbl := tk_7 (j := 150) rfl
theorem tw_1831 : (Jvm.Cond.instanceMethod ({ cls := "NightDoorsModel", name := "against", desc := "(II)I" } : Jvm.MethodName)) ∈ lw_tbl := tk_7 (j := 151) rfl
theorem tw_1832 : (Jvm.Cond.selects "NightDoorsModel" ({ cls := "NightDoorsModel", name := "against", desc := "(II)I" } : Jvm.MethodName) ({ cls := "NightDoorsModel", name := "against", desc := "(II)I" } : Jvm.MethodName)) ∈ lw_tbl := tk_7 (j := 152) rfl
theorem tw_1833 : (Jvm.Cond.code ({ cls := "NightDoorsModel", name := "against", desc := "(II)I" } : Jvm.MethodName) prog_14_method_94_code (3 : Nat) (Option.some Jvm.ClassFile.FieldType.int)) ∈ lw_tbl := tk_7 (j := 153) rfl
theorem tw_1834 : (Jvm.Cond.constantLong "NightDoorsModel" (527 : Nat) (3 : Int64)) ∈ lw_tbl := tk_7 (j := 154) rfl
theorem tw_1835 : (Jvm.Cond.methodLink "NightDoorsModel" (529 : Nat) ({ cls := "NightDoorsModel", name := "isSafe", desc := "(III)Z" } : Jvm.MethodName)) ∈ lw_tbl := tk_7 (j := 155) rfl
theorem tw_1837 : (Jvm.Cond.instanceMethod ({ cls := "NightDoorsModel", name := "isSafe", desc := "(III)Z" } : Jvm.MethodName)) ∈ lw_tbl := tk_7 (j := 157) rfl
theorem tw_1838 : (Jvm.Cond.code ({ cls := "NightDoorsModel", name := "isSafe", desc := "(III)Z" } : Jvm.MethodName) prog_14_method_88_code (4 : Nat) (Option.some Jvm.ClassFile.FieldType.boolean)) ∈ lw_tbl := tk_7 (j := 158) rfl
theorem tw_1839 : (Jvm.Cond.methodLink "NightDoorsModel" (510 : Nat) ({ cls := "NightDoorsModel", name := "isSafeByOne", desc := "(II)Z" } : Jvm.MethodName)) ∈ lw_tbl := tk_7 (j := 159) rfl
theorem tw_1841 : (Jvm.Cond.instanceMethod ({ cls := "NightDoorsModel", name := "isSafeByOne", desc := "(II)Z" } : Jvm.MethodName)) ∈ lw_tbl := tk_7 (j := 161) rfl
theorem tw_1842 : (Jvm.Cond.code ({ cls := "NightDoorsModel", name := "isSafeByOne", desc := "(II)Z" } : Jvm.MethodName) prog_14_method_91_code (6 : Nat) (Option.some Jvm.ClassFile.FieldType.boolean)) ∈ lw_tbl := tk_7 (j := 162) rfl
theorem tw_1843 : (Jvm.Cond.methodLink "NightDoorsModel" (519 : Nat) ({ cls := "NightDoorsModel", name := "canGo", desc := "(Z)Z" } : Jvm.MethodName)) ∈ lw_tbl := tk_7 (j := 163) rfl
theorem tw_1845 : (Jvm.Cond.instanceMethod ({ cls := "NightDoorsModel", name := "canGo", desc := "(Z)Z" } : Jvm.MethodName)) ∈ lw_tbl := tk_7 (j := 165) rfl
theorem tw_1846 : (Jvm.Cond.code ({ cls := "NightDoorsModel", name := "canGo", desc := "(Z)Z" } : Jvm.MethodName) prog_14_method_89_code (2 : Nat) (Option.some Jvm.ClassFile.FieldType.boolean)) ∈ lw_tbl := tk_7 (j := 166) rfl
theorem tw_1847 : (Jvm.Cond.methodLink "NightDoorsModel" (523 : Nat) ({ cls := "NightDoorsModel", name := "answers", desc := "(IIIZI)V" } : Jvm.MethodName)) ∈ lw_tbl := tk_7 (j := 167) rfl
theorem tw_1849 : (Jvm.Cond.instanceMethod ({ cls := "NightDoorsModel", name := "answers", desc := "(IIIZI)V" } : Jvm.MethodName)) ∈ lw_tbl := tk_7 (j := 169) rfl
theorem tw_1850 : (Jvm.Cond.code ({ cls := "NightDoorsModel", name := "answers", desc := "(IIIZI)V" } : Jvm.MethodName) prog_14_method_90_code (8 : Nat) (Option.none : Option Jvm.ClassFile.FieldType)) ∈ lw_tbl := tk_7 (j := 170) rfl
theorem tw_1851 : (Jvm.Cond.methodLink "NightDoorsModel" (513 : Nat) ({ cls := "NightDoorsModel", name := "isSafeByTwo", desc := "(II)Z" } : Jvm.MethodName)) ∈ lw_tbl := tk_7 (j := 171) rfl
theorem tw_1853 : (Jvm.Cond.instanceMethod ({ cls := "NightDoorsModel", name := "isSafeByTwo", desc := "(II)Z" } : Jvm.MethodName)) ∈ lw_tbl := tk_7 (j := 173) rfl
theorem tw_1854 : (Jvm.Cond.code ({ cls := "NightDoorsModel", name := "isSafeByTwo", desc := "(II)Z" } : Jvm.MethodName) prog_14_method_92_code (6 : Nat) (Option.some Jvm.ClassFile.FieldType.boolean)) ∈ lw_tbl := tk_7 (j := 174) rfl
theorem tw_1855 : (Jvm.Cond.methodLink "NightDoorsModel" (516 : Nat) ({ cls := "NightDoorsModel", name := "isSafeByThree", desc := "(II)Z" } : Jvm.MethodName)) ∈ lw_tbl := tk_7 (j := 175) rfl
theorem tw_1857 : (Jvm.Cond.instanceMethod ({ cls := "NightDoorsModel", name := "isSafeByThree", desc := "(II)Z" } : Jvm.MethodName)) ∈ lw_tbl := tk_7 (j := 177) rfl
theorem tw_1858 : (Jvm.Cond.code ({ cls := "NightDoorsModel", name := "isSafeByThree", desc := "(II)Z" } : Jvm.MethodName) prog_14_method_93_code (6 : Nat) (Option.some Jvm.ClassFile.FieldType.boolean)) ∈ lw_tbl := tk_7 (j := 178) rfl
theorem tw_1859 : (Jvm.Cond.methodLink "NightDoorsLaw" (98 : Nat) ({ cls := "NightDoorsModel", name := "chance", desc := "(II)I" } : Jvm.MethodName)) ∈ lw_tbl := tk_7 (j := 179) rfl
theorem tw_1860 : (Jvm.Cond.instanceMethod ({ cls := "NightDoorsModel", name := "chance", desc := "(II)I" } : Jvm.MethodName)) ∈ lw_tbl := tk_7 (j := 180) rfl
theorem tw_1861 : (Jvm.Cond.selects "NightDoorsModel" ({ cls := "NightDoorsModel", name := "chance", desc := "(II)I" } : Jvm.MethodName) ({ cls := "NightDoorsModel", name := "chance", desc := "(II)I" } : Jvm.MethodName)) ∈ lw_tbl := tk_7 (j := 181) rfl
theorem tw_1862 : (Jvm.Cond.code ({ cls := "NightDoorsModel", name := "chance", desc := "(II)I" } : Jvm.MethodName) prog_14_method_96_code (8 : Nat) (Option.some Jvm.ClassFile.FieldType.int)) ∈ lw_tbl := tk_7 (j := 182) rfl
theorem tw_1863 : (Jvm.Cond.constantLong "NightDoorsModel" (535 : Nat) (100 : Int64)) ∈ lw_tbl := tk_7 (j := 183) rfl
theorem tw_1864 : (Jvm.Cond.methodLink "NightDoorsModel" (537 : Nat) ({ cls := "NightDoorsModel", name := "likely", desc := "(III)J" } : Jvm.MethodName)) ∈ lw_tbl := tk_7 (j := 184) rfl
theorem tw_1866 : (Jvm.Cond.instanceMethod ({ cls := "NightDoorsModel", name := "likely", desc := "(III)J" } : Jvm.MethodName)) ∈ lw_tbl := tk_7 (j := 186) rfl
theorem tw_1867 : (Jvm.Cond.code ({ cls := "NightDoorsModel", name := "likely", desc := "(III)J" } : Jvm.MethodName) prog_14_method_95_code (9 : Nat) (Option.some Jvm.ClassFile.FieldType.long)) ∈ lw_tbl := tk_7 (j := 187) rfl
theorem tw_1868 : (Jvm.Cond.methodLink "NightDoorsModel" (532 : Nat) ({ cls := "NightDoorsModel", name := "laughs", desc := "(I)V" } : Jvm.MethodName)) ∈ lw_tbl := tk_7 (j := 188) rfl
theorem tw_1870 : (Jvm.Cond.instanceMethod ({ cls := "NightDoorsModel", name := "laughs", desc := "(I)V" } : Jvm.MethodName)) ∈ lw_tbl := tk_7 (j := 190) rfl
theorem tw_1871 : (Jvm.Cond.code ({ cls := "NightDoorsModel", name := "laughs", desc := "(I)V" } : Jvm.MethodName) prog_14_method_62_code (3 : Nat) (Option.none : Option Jvm.ClassFile.FieldType)) ∈ lw_tbl := tk_7 (j := 191) rfl
theorem tw_1872 : (Jvm.Cond.constantLong "NightDoorsModel" (541 : Nat) (1000 : Int64)) ∈ lw_tbl := tk_7 (j := 192) rfl
theorem tw_1873 : (Jvm.Cond.methodLink "NightDoorsLaw" (125 : Nat) ({ cls := "NightDoorsModel", name := "undo", desc := "()Z" } : Jvm.MethodName)) ∈ lw_tbl := tk_7 (j := 193) rfl
theorem tw_1874 : (Jvm.Cond.instanceMethod ({ cls := "NightDoorsModel", name := "undo", desc := "()Z" } : Jvm.MethodName)) ∈ lw_tbl := tk_7 (j := 194) rfl
theorem tw_1875 : (Jvm.Cond.selects "NightDoorsModel" ({ cls := "NightDoorsModel", name := "undo", desc := "()Z" } : Jvm.MethodName) ({ cls := "NightDoorsModel", name := "undo", desc := "()Z" } : Jvm.MethodName)) ∈ lw_tbl := tk_7 (j := 195) rfl
theorem tw_1876 : (Jvm.Cond.code ({ cls := "NightDoorsModel", name := "undo", desc := "()Z" } : Jvm.MethodName) prog_14_method_98_code (2 : Nat) (Option.some Jvm.ClassFile.FieldType.boolean)) ∈ lw_tbl := tk_7 (j := 196) rfl
theorem tw_1877 : (Jvm.Cond.methodLink "NightDoorsLaw" (103 : Nat) ({ cls := "NightDoorsModel", name := "meet", desc := "(IZ)I" } : Jvm.MethodName)) ∈ lw_tbl := tk_7 (j := 197) rfl
theorem tw_1878 : (Jvm.Cond.instanceMethod ({ cls := "NightDoorsModel", name := "meet", desc := "(IZ)I" } : Jvm.MethodName)) ∈ lw_tbl := tk_7 (j := 198) rfl
theorem tw_1879 : (Jvm.Cond.selects "NightDoorsModel" ({ cls := "NightDoorsModel", name := "meet", desc := "(IZ)I" } : Jvm.MethodName) ({ cls := "NightDoorsModel", name := "meet", desc := "(IZ)I" } : Jvm.MethodName)) ∈ lw_tbl := tk_7 (j := 199) rfl
theorem tw_1880 : (Jvm.Cond.code ({ cls := "NightDoorsModel", name := "meet", desc := "(IZ)I" } : Jvm.MethodName) prog_14_method_100_code (4 : Nat) (Option.some Jvm.ClassFile.FieldType.int)) ∈ lw_tbl := tk_7 (j := 200) rfl
theorem tw_1881 : (Jvm.Cond.methodLink "NightDoorsModel" (546 : Nat) ({ cls := "NightDoorsModel", name := "refuses", desc := "()I" } : Jvm.MethodName)) ∈ lw_tbl := tk_7 (j := 201) rfl
theorem tw_1883 : (Jvm.Cond.instanceMethod ({ cls := "NightDoorsModel", name := "refuses", desc := "()I" } : Jvm.MethodName)) ∈ lw_tbl := tk_7 (j := 203) rfl
theorem tw_1884 : (Jvm.Cond.code ({ cls := "NightDoorsModel", name := "refuses", desc := "()I" } : Jvm.MethodName) prog_14_method_99_code (1 : Nat) (Option.some Jvm.ClassFile.FieldType.int)) ∈ lw_tbl := tk_7 (j := 204) rfl
theorem tw_1885 : (Jvm.Cond.methodLink "NightDoorsModel" (549 : Nat) ({ cls := "NightDoorsModel", name := "keeps", desc := "()V" } : Jvm.MethodName)) ∈ lw_tbl := tk_7 (j := 205) rfl
theorem tw_1887 : (Jvm.Cond.instanceMethod ({ cls := "NightDoorsModel", name := "keeps", desc := "()V" } : Jvm.MethodName)) ∈ lw_tbl := tk_7 (j := 207) rfl
theorem tw_1888 : (Jvm.Cond.code ({ cls := "NightDoorsModel", name := "keeps", desc := "()V" } : Jvm.MethodName) prog_14_method_97_code (2 : Nat) (Option.none : Option Jvm.ClassFile.FieldType)) ∈ lw_tbl := tk_7 (j := 208) rfl
theorem tw_1889 : (Jvm.Cond.methodLink "NightDoorsModel" (552 : Nat) ({ cls := "NightDoorsModel", name := "isNow", desc := "(II)V" } : Jvm.MethodName)) ∈ lw_tbl := tk_7 (j := 209) rfl
theorem tw_1891 : (Jvm.Cond.instanceMethod ({ cls := "NightDoorsModel", name := "isNow", desc := "(II)V" } : Jvm.MethodName)) ∈ lw_tbl := tk_7 (j := 211) rfl
theorem tw_1892 : (Jvm.Cond.code ({ cls := "NightDoorsModel", name := "isNow", desc := "(II)V" } : Jvm.MethodName) prog_14_method_53_code (4 : Nat) (Option.none : Option Jvm.ClassFile.FieldType)) ∈ lw_tbl := tk_7 (j := 212) rfl
theorem tw_1893 : (Jvm.Cond.methodLink "NightDoorsLaw" (107 : Nat) ({ cls := "NightDoorsModel", name := "day", desc := "(II)I" } : Jvm.MethodName)) ∈ lw_tbl := tk_7 (j := 213) rfl
theorem tw_1894 : (Jvm.Cond.instanceMethod ({ cls := "NightDoorsModel", name := "day", desc := "(II)I" } : Jvm.MethodName)) ∈ lw_tbl := tk_7 (j := 214) rfl
theorem tw_1895 : (Jvm.Cond.selects "NightDoorsModel" ({ cls := "NightDoorsModel", name := "day", desc := "(II)I" } : Jvm.MethodName) ({ cls := "NightDoorsModel", name := "day", desc := "(II)I" } : Jvm.MethodName)) ∈ lw_tbl := tk_7 (j := 215) rfl
theorem tw_1896 : (Jvm.Cond.code ({ cls := "NightDoorsModel", name := "day", desc := "(II)I" } : Jvm.MethodName) prog_14_method_101_code (3 : Nat) (Option.some Jvm.ClassFile.FieldType.int)) ∈ lw_tbl := tk_7 (j := 216) rfl
theorem tw_1897 : (Jvm.Cond.methodLink "NightDoorsLaw" (112 : Nat) ({ cls := "NightDoorsModel", name := "take", desc := "(II)Z" } : Jvm.MethodName)) ∈ lw_tbl := tk_7 (j := 217) rfl
theorem tw_1898 : (Jvm.Cond.instanceMethod ({ cls := "NightDoorsModel", name := "take", desc := "(II)Z" } : Jvm.MethodName)) ∈ lw_tbl := tk_7 (j := 218) rfl
theorem tw_1899 : (Jvm.Cond.selects "NightDoorsModel" ({ cls := "NightDoorsModel", name := "take", desc := "(II)Z" } : Jvm.MethodName) ({ cls := "NightDoorsModel", name := "take", desc := "(II)Z" } : Jvm.MethodName)) ∈ lw_tbl := tk_7 (j := 219) rfl
theorem tw_1900 : (Jvm.Cond.code ({ cls := "NightDoorsModel", name := "take", desc := "(II)Z" } : Jvm.MethodName) prog_14_method_102_code (3 : Nat) (Option.some Jvm.ClassFile.FieldType.boolean)) ∈ lw_tbl := tk_7 (j := 220) rfl
theorem tw_1901 : (Jvm.Cond.constantLong "NightDoorsModel" (555 : Nat) (-1 : Int64)) ∈ lw_tbl := tk_7 (j := 221) rfl
theorem tw_1902 : (Jvm.Cond.methodLink "NightDoorsLaw" (116 : Nat) ({ cls := "NightDoorsModel", name := "set", desc := "(III)I" } : Jvm.MethodName)) ∈ lw_tbl := tk_7 (j := 222) rfl
theorem tw_1903 : (Jvm.Cond.instanceMethod ({ cls := "NightDoorsModel", name := "set", desc := "(III)I" } : Jvm.MethodName)) ∈ lw_tbl := tk_7 (j := 223) rfl
theorem tw_1904 : (Jvm.Cond.selects "NightDoorsModel" ({ cls := "NightDoorsModel", name := "set", desc := "(III)I" } : Jvm.MethodName) ({ cls := "NightDoorsModel", name := "set", desc := "(III)I" } : Jvm.MethodName)) ∈ lw_tbl := tk_7 (j := 224) rfl
theorem tw_1905 : (Jvm.Cond.code ({ cls := "NightDoorsModel", name := "set", desc := "(III)I" } : Jvm.MethodName) prog_14_method_103_code (5 : Nat) (Option.some Jvm.ClassFile.FieldType.int)) ∈ lw_tbl := tk_7 (j := 225) rfl
theorem tw_1906 : (Jvm.Cond.methodLink "NightDoorsLaw" (129 : Nat) ({ cls := "NightDoorsModel", name := "seed", desc := "(I)Z" } : Jvm.MethodName)) ∈ lw_tbl := tk_7 (j := 226) rfl
theorem tw_1907 : (Jvm.Cond.instanceMethod ({ cls := "NightDoorsModel", name := "seed", desc := "(I)Z" } : Jvm.MethodName)) ∈ lw_tbl := tk_7 (j := 227) rfl
theorem tw_1908 : (Jvm.Cond.selects "NightDoorsModel" ({ cls := "NightDoorsModel", name := "seed", desc := "(I)Z" } : Jvm.MethodName) ({ cls := "NightDoorsModel", name := "seed", desc := "(I)Z" } : Jvm.MethodName)) ∈ lw_tbl := tk_7 (j := 228) rfl
theorem tw_1909 : (Jvm.Cond.code ({ cls := "NightDoorsModel", name := "seed", desc := "(I)Z" } : Jvm.MethodName) prog_14_method_104_code (2 : Nat) (Option.some Jvm.ClassFile.FieldType.boolean)) ∈ lw_tbl := tk_7 (j := 229) rfl
theorem tw_1910 : (Jvm.Cond.methodLink "NightDoorsLaw" (120 : Nat) ({ cls := "NightDoorsModel", name := "night", desc := "(II)I" } : Jvm.MethodName)) ∈ lw_tbl := tk_7 (j := 230) rfl
theorem tw_1911 : (Jvm.Cond.instanceMethod ({ cls := "NightDoorsModel", name := "night", desc := "(II)I" } : Jvm.MethodName)) ∈ lw_tbl := tk_7 (j := 231) rfl
theorem tw_1912 : (Jvm.Cond.selects "NightDoorsModel" ({ cls := "NightDoorsModel", name := "night", desc := "(II)I" } : Jvm.MethodName) ({ cls := "NightDoorsModel", name := "night", desc := "(II)I" } : Jvm.MethodName)) ∈ lw_tbl := tk_7 (j := 232) rfl
theorem tw_1913 : (Jvm.Cond.code ({ cls := "NightDoorsModel", name := "night", desc := "(II)I" } : Jvm.MethodName) prog_14_method_106_code (6 : Nat) (Option.some Jvm.ClassFile.FieldType.int)) ∈ lw_tbl := tk_7 (j := 233) rfl
theorem tw_1914 : (Jvm.Cond.methodLink "NightDoorsModel" (565 : Nat) ({ cls := "NightDoorsModel", name := "drawOf", desc := "(I)I" } : Jvm.MethodName)) ∈ lw_tbl := tk_7 (j := 234) rfl
theorem tw_1916 : (Jvm.Cond.instanceMethod ({ cls := "NightDoorsModel", name := "drawOf", desc := "(I)I" } : Jvm.MethodName)) ∈ lw_tbl := tk_7 (j := 236) rfl
theorem tw_1917 : (Jvm.Cond.code ({ cls := "NightDoorsModel", name := "drawOf", desc := "(I)I" } : Jvm.MethodName) prog_14_method_105_code (2 : Nat) (Option.some Jvm.ClassFile.FieldType.int)) ∈ lw_tbl := tk_7 (j := 237) rfl
theorem tw_1918 : (Jvm.Cond.constantLong "NightDoorsModel" (557 : Nat) (1103515245 : Int64)) ∈ lw_tbl := tk_7 (j := 238) rfl
theorem tw_1919 : (Jvm.Cond.constantLong "NightDoorsModel" (559 : Nat) (12345 : Int64)) ∈ lw_tbl := tk_7 (j := 239) rfl
theorem tw_1920 : (Jvm.Cond.constantLong "NightDoorsModel" (561 : Nat) (2147483648 : Int64)) ∈ lw_tbl := tk_8 (j := 0) rfl
theorem tw_1921 : (Jvm.Cond.constantLong "NightDoorsModel" (563 : Nat) (64 : Int64)) ∈ lw_tbl := tk_8 (j := 1) rfl
theorem tw_1922 : (Jvm.Cond.methodLink "NightDoorsLaw" (133 : Nat) ({ cls := "NightDoorsModel", name := "told", desc := "(I)I" } : Jvm.MethodName)) ∈ lw_tbl := tk_8 (j := 2) rfl
theorem tw_1923 : (Jvm.Cond.instanceMethod ({ cls := "NightDoorsModel", name := "told", desc := "(I)I" } : Jvm.MethodName)) ∈ lw_tbl := tk_8 (j := 3) rfl
theorem tw_1924 : (Jvm.Cond.selects "NightDoorsModel" ({ cls := "NightDoorsModel", name := "told", desc := "(I)I" } : Jvm.MethodName) ({ cls := "NightDoorsModel", name := "told", desc := "(I)I" } : Jvm.MethodName)) ∈ lw_tbl := tk_8 (j := 4) rfl
theorem tw_1925 : (Jvm.Cond.code ({ cls := "NightDoorsModel", name := "told", desc := "(I)I" } : Jvm.MethodName) prog_14_method_107_code (5 : Nat) (Option.some Jvm.ClassFile.FieldType.int)) ∈ lw_tbl := tk_8 (j := 5) rfl
theorem tw_1926 : (Jvm.Cond.constantLong "NightDoorsModel" (568 : Nat) (20 : Int64)) ∈ lw_tbl := tk_8 (j := 6) rfl
theorem tw_1927 : (Jvm.Cond.methodLink "NightDoorsLaw" (137 : Nat) ({ cls := "NightDoorsModel", name := "fits", desc := "(II)I" } : Jvm.MethodName)) ∈ lw_tbl := tk_8 (j := 7) rfl
theorem tw_1928 : (Jvm.Cond.instanceMethod ({ cls := "NightDoorsModel", name := "fits", desc := "(II)I" } : Jvm.MethodName)) ∈ lw_tbl := tk_8 (j := 8) rfl
theorem tw_1929 : (Jvm.Cond.selects "NightDoorsModel" ({ cls := "NightDoorsModel", name := "fits", desc := "(II)I" } : Jvm.MethodName) ({ cls := "NightDoorsModel", name := "fits", desc := "(II)I" } : Jvm.MethodName)) ∈ lw_tbl := tk_8 (j := 9) rfl
theorem tw_1930 : (Jvm.Cond.code ({ cls := "NightDoorsModel", name := "fits", desc := "(II)I" } : Jvm.MethodName) prog_14_method_109_code (7 : Nat) (Option.some Jvm.ClassFile.FieldType.int)) ∈ lw_tbl := tk_8 (j := 10) rfl
theorem tw_1931 : (Jvm.Cond.methodLink "NightDoorsModel" (573 : Nat) ({ cls := "NightDoorsModel", name := "isFitting", desc := "(II)Z" } : Jvm.MethodName)) ∈ lw_tbl := tk_8 (j := 11) rfl
theorem tw_1933 : (Jvm.Cond.instanceMethod ({ cls := "NightDoorsModel", name := "isFitting", desc := "(II)Z" } : Jvm.MethodName)) ∈ lw_tbl := tk_8 (j := 13) rfl
theorem tw_1934 : (Jvm.Cond.code ({ cls := "NightDoorsModel", name := "isFitting", desc := "(II)Z" } : Jvm.MethodName) prog_14_method_108_code (4 : Nat) (Option.some Jvm.ClassFile.FieldType.boolean)) ∈ lw_tbl := tk_8 (j := 14) rfl
theorem tw_1935 : (Jvm.Cond.methodLink "NightDoorsLaw" (142 : Nat) ({ cls := "NightDoorsModel", name := "ask", desc := "(I)J" } : Jvm.MethodName)) ∈ lw_tbl := tk_8 (j := 15) rfl
theorem tw_1936 : (Jvm.Cond.instanceMethod ({ cls := "NightDoorsModel", name := "ask", desc := "(I)J" } : Jvm.MethodName)) ∈ lw_tbl := tk_8 (j := 16) rfl
theorem tw_1937 : (Jvm.Cond.selects "NightDoorsModel" ({ cls := "NightDoorsModel", name := "ask", desc := "(I)J" } : Jvm.MethodName) ({ cls := "NightDoorsModel", name := "ask", desc := "(I)J" } : Jvm.MethodName)) ∈ lw_tbl := tk_8 (j := 17) rfl
theorem tw_1938 : (Jvm.Cond.code ({ cls := "NightDoorsModel", name := "ask", desc := "(I)J" } : Jvm.MethodName) prog_14_method_138_code (4 : Nat) (Option.some Jvm.ClassFile.FieldType.long)) ∈ lw_tbl := tk_8 (j := 18) rfl
theorem tw_1939 : (Jvm.Cond.constantLong "NightDoorsModel" (676 : Nat) (-1000000000000000 : Int64)) ∈ lw_tbl := tk_8 (j := 19) rfl
theorem tw_1940 : (Jvm.Cond.methodLink "NightDoorsModel" (678 : Nat) ({ cls := "NightDoorsModel", name := "qKind", desc := "()I" } : Jvm.MethodName)) ∈ lw_tbl := tk_8 (j := 20) rfl
theorem tw_1942 : (Jvm.Cond.instanceMethod ({ cls := "NightDoorsModel", name := "qKind", desc := "()I" } : Jvm.MethodName)) ∈ lw_tbl := tk_8 (j := 22) rfl
theorem tw_1943 : (Jvm.Cond.code ({ cls := "NightDoorsModel", name := "qKind", desc := "()I" } : Jvm.MethodName) prog_14_method_136_code (2 : Nat) (Option.some Jvm.ClassFile.FieldType.int)) ∈ lw_tbl := tk_8 (j := 23) rfl
theorem tw_1944 : (Jvm.Cond.methodLink "NightDoorsModel" (681 : Nat) ({ cls := "NightDoorsModel", name := "qTest", desc := "()V" } : Jvm.MethodName)) ∈ lw_tbl := tk_8 (j := 24) rfl
theorem tw_1946 : (Jvm.Cond.instanceMethod ({ cls := "NightDoorsModel", name := "qTest", desc := "()V" } : Jvm.MethodName)) ∈ lw_tbl := tk_8 (j := 26) rfl
theorem tw_1947 : (Jvm.Cond.code ({ cls := "NightDoorsModel", name := "qTest", desc := "()V" } : Jvm.MethodName) prog_14_method_127_code (3 : Nat) (Option.none : Option Jvm.ClassFile.FieldType)) ∈ lw_tbl := tk_8 (j := 27) rfl
theorem tw_1948 : (Jvm.Cond.methodLink "NightDoorsModel" (603 : Nat) ({ cls := "NightDoorsModel", name := "qOpens", desc := "(II)V" } : Jvm.MethodName)) ∈ lw_tbl := tk_8 (j := 28) rfl
theorem tw_1950 : (Jvm.Cond.instanceMethod ({ cls := "NightDoorsModel", name := "qOpens", desc := "(II)V" } : Jvm.MethodName)) ∈ lw_tbl := tk_8 (j := 30) rfl
theorem tw_1951 : (Jvm.Cond.code ({ cls := "NightDoorsModel", name := "qOpens", desc := "(II)V" } : Jvm.MethodName) prog_14_method_111_code (3 : Nat) (Option.none : Option Jvm.ClassFile.FieldType)) ∈ lw_tbl := tk_8 (j := 31) rfl
theorem tw_1952 : (Jvm.Cond.methodLink "NightDoorsModel" (630 : Nat) ({ cls := "NightDoorsModel", name := "qFact", desc := "()V" } : Jvm.MethodName)) ∈ lw_tbl := tk_8 (j := 32) rfl
theorem tw_1954 : (Jvm.Cond.instanceMethod ({ cls := "NightDoorsModel", name := "qFact", desc := "()V" } : Jvm.MethodName)) ∈ lw_tbl := tk_8 (j := 34) rfl
theorem tw_1955 : (Jvm.Cond.code ({ cls := "NightDoorsModel", name := "qFact", desc := "()V" } : Jvm.MethodName) prog_14_method_124_code (2 : Nat) (Option.none : Option Jvm.ClassFile.FieldType)) ∈ lw_tbl := tk_8 (j := 35) rfl
theorem tw_1956 : (Jvm.Cond.methodLink "NightDoorsModel" (585 : Nat) ({ cls := "NightDoorsModel", name := "qCode", desc := "(I)V" } : Jvm.MethodName)) ∈ lw_tbl := tk_8 (j := 36) rfl
theorem tw_1958 : (Jvm.Cond.instanceMethod ({ cls := "NightDoorsModel", name := "qCode", desc := "(I)V" } : Jvm.MethodName)) ∈ lw_tbl := tk_8 (j := 38) rfl
theorem tw_1959 : (Jvm.Cond.code ({ cls := "NightDoorsModel", name := "qCode", desc := "(I)V" } : Jvm.MethodName) prog_14_method_110_code (2 : Nat) (Option.none : Option Jvm.ClassFile.FieldType)) ∈ lw_tbl := tk_8 (j := 39) rfl
theorem tw_1960 : (Jvm.Cond.methodLink "NightDoorsModel" (627 : Nat) ({ cls := "NightDoorsModel", name := "qSums", desc := "()V" } : Jvm.MethodName)) ∈ lw_tbl := tk_8 (j := 40) rfl
theorem tw_1962 : (Jvm.Cond.instanceMethod ({ cls := "NightDoorsModel", name := "qSums", desc := "()V" } : Jvm.MethodName)) ∈ lw_tbl := tk_8 (j := 42) rfl
theorem tw_1963 : (Jvm.Cond.code ({ cls := "NightDoorsModel", name := "qSums", desc := "()V" } : Jvm.MethodName) prog_14_method_123_code (3 : Nat) (Option.none : Option Jvm.ClassFile.FieldType)) ∈ lw_tbl := tk_8 (j := 43) rfl
theorem tw_1964 : (Jvm.Cond.methodLink "NightDoorsModel" (621 : Nat) ({ cls := "NightDoorsModel", name := "qPartTold", desc := "()V" } : Jvm.MethodName)) ∈ lw_tbl := tk_8 (j := 44) rfl
theorem tw_1966 : (Jvm.Cond.instanceMethod ({ cls := "NightDoorsModel", name := "qPartTold", desc := "()V" } : Jvm.MethodName)) ∈ lw_tbl := tk_8 (j := 46) rfl
theorem tw_1967 : (Jvm.Cond.code ({ cls := "NightDoorsModel", name := "qPartTold", desc := "()V" } : Jvm.MethodName) prog_14_method_121_code (6 : Nat) (Option.none : Option Jvm.ClassFile.FieldType)) ∈ lw_tbl := tk_8 (j := 47) rfl
theorem tw_1968 : (Jvm.Cond.methodLink "NightDoorsModel" (600 : Nat) ({ cls := "NightDoorsModel", name := "qWordOf", desc := "(II)I" } : Jvm.MethodName)) ∈ lw_tbl := tk_8 (j := 48) rfl
theorem tw_1970 : (Jvm.Cond.instanceMethod ({ cls := "NightDoorsModel", name := "qWordOf", desc := "(II)I" } : Jvm.MethodName)) ∈ lw_tbl := tk_8 (j := 50) rfl
theorem tw_1971 : (Jvm.Cond.code ({ cls := "NightDoorsModel", name := "qWordOf", desc := "(II)I" } : Jvm.MethodName) prog_14_method_118_code (4 : Nat) (Option.some Jvm.ClassFile.FieldType.int)) ∈ lw_tbl := tk_8 (j := 51) rfl
theorem tw_1972 : (Jvm.Cond.methodLink "NightDoorsModel" (597 : Nat) ({ cls := "NightDoorsModel", name := "qWordHere", desc := "()I" } : Jvm.MethodName)) ∈ lw_tbl := tk_8 (j := 52) rfl
theorem tw_1974 : (Jvm.Cond.instanceMethod ({ cls := "NightDoorsModel", name := "qWordHere", desc := "()I" } : Jvm.MethodName)) ∈ lw_tbl := tk_8 (j := 54) rfl
theorem tw_1975 : (Jvm.Cond.code ({ cls := "NightDoorsModel", name := "qWordHere", desc := "()I" } : Jvm.MethodName) prog_14_method_117_code (1 : Nat) (Option.some Jvm.ClassFile.FieldType.int)) ∈ lw_tbl := tk_8 (j := 55) rfl
theorem tw_1976 : (Jvm.Cond.methodLink "NightDoorsModel" (606 : Nat) ({ cls := "NightDoorsModel", name := "qAsksWord", desc := "(I)V" } : Jvm.MethodName)) ∈ lw_tbl := tk_8 (j := 56) rfl
theorem tw_1978 : (Jvm.Cond.instanceMethod ({ cls := "NightDoorsModel", name := "qAsksWord", desc := "(I)V" } : Jvm.MethodName)) ∈ lw_tbl := tk_8 (j := 58) rfl
theorem tw_1979 : (Jvm.Cond.code ({ cls := "NightDoorsModel", name := "qAsksWord", desc := "(I)V" } : Jvm.MethodName) prog_14_method_119_code (2 : Nat) (Option.none : Option Jvm.ClassFile.FieldType)) ∈ lw_tbl := tk_8 (j := 59) rfl
theorem tw_1980 : (Jvm.Cond.methodLink "NightDoorsModel" (609 : Nat) ({ cls := "NightDoorsModel", name := "qEndsPart", desc := "()V" } : Jvm.MethodName)) ∈ lw_tbl := tk_8 (j := 60) rfl
theorem tw_1982 : (Jvm.Cond.instanceMethod ({ cls := "NightDoorsModel", name := "qEndsPart", desc := "()V" } : Jvm.MethodName)) ∈ lw_tbl := tk_8 (j := 62) rfl
theorem tw_1983 : (Jvm.Cond.code ({ cls := "NightDoorsModel", name := "qEndsPart", desc := "()V" } : Jvm.MethodName) prog_14_method_120_code (1 : Nat) (Option.none : Option Jvm.ClassFile.FieldType)) ∈ lw_tbl := tk_8 (j := 63) rfl
theorem tw_1984 : (Jvm.Cond.methodLink "NightDoorsModel" (594 : Nat) ({ cls := "NightDoorsModel", name := "qDrops", desc := "()V" } : Jvm.MethodName)) ∈ lw_tbl := tk_8 (j := 64) rfl
theorem tw_1986 : (Jvm.Cond.instanceMethod ({ cls := "NightDoorsModel", name := "qDrops", desc := "()V" } : Jvm.MethodName)) ∈ lw_tbl := tk_8 (j := 66) rfl
theorem tw_1987 : (Jvm.Cond.code ({ cls := "NightDoorsModel", name := "qDrops", desc := "()V" } : Jvm.MethodName) prog_14_method_113_code (1 : Nat) (Option.none : Option Jvm.ClassFile.FieldType)) ∈ lw_tbl := tk_8 (j := 67) rfl
theorem tw_1988 : (Jvm.Cond.methodLink "NightDoorsModel" (624 : Nat) ({ cls := "NightDoorsModel", name := "qGoesOn", desc := "()Z" } : Jvm.MethodName)) ∈ lw_tbl := tk_8 (j := 68) rfl
theorem tw_1990 : (Jvm.Cond.instanceMethod ({ cls := "NightDoorsModel", name := "qGoesOn", desc := "()Z" } : Jvm.MethodName)) ∈ lw_tbl := tk_8 (j := 70) rfl
theorem tw_1991 : (Jvm.Cond.code ({ cls := "NightDoorsModel", name := "qGoesOn", desc := "()Z" } : Jvm.MethodName) prog_14_method_122_code (2 : Nat) (Option.some Jvm.ClassFile.FieldType.boolean)) ∈ lw_tbl := tk_8 (j := 71) rfl
theorem tw_1992 : (Jvm.Cond.methodLink "NightDoorsModel" (612 : Nat) ({ cls := "NightDoorsModel", name := "qBracket", desc := "()I" } : Jvm.MethodName)) ∈ lw_tbl := tk_8 (j := 72) rfl
theorem tw_1994 : (Jvm.Cond.instanceMethod ({ cls := "NightDoorsModel", name := "qBracket", desc := "()I" } : Jvm.MethodName)) ∈ lw_tbl := tk_8 (j := 74) rfl
theorem tw_1995 : (Jvm.Cond.code ({ cls := "NightDoorsModel", name := "qBracket", desc := "()I" } : Jvm.MethodName) prog_14_method_115_code (2 : Nat) (Option.some Jvm.ClassFile.FieldType.int)) ∈ lw_tbl := tk_8 (j := 75) rfl
theorem tw_1996 : (Jvm.Cond.methodLink "NightDoorsModel" (591 : Nat) ({ cls := "NightDoorsModel", name := "qIsBracket", desc := "(I)Z" } : Jvm.MethodName)) ∈ lw_tbl := tk_8 (j := 76) rfl
theorem tw_1997 : (Jvm.Cond.static ({ cls := "NightDoorsModel", name := "qIsBracket", desc := "(I)Z" } : Jvm.MethodName)) ∈ lw_tbl := tk_8 (j := 77) rfl
theorem tw_1998 : (Jvm.Cond.code ({ cls := "NightDoorsModel", name := "qIsBracket", desc := "(I)Z" } : Jvm.MethodName) prog_14_method_114_code (1 : Nat) (Option.some Jvm.ClassFile.FieldType.boolean)) ∈ lw_tbl := tk_8 (j := 78) rfl
theorem tw_1999 : (Jvm.Cond.methodLink "NightDoorsModel" (615 : Nat) ({ cls := "NightDoorsModel", name := "qDropsToBracket", desc := "()V" } : Jvm.MethodName)) ∈ lw_tbl := tk_8 (j := 79) rfl
theorem tw_2001 : (Jvm.Cond.instanceMethod ({ cls := "NightDoorsModel", name := "qDropsToBracket", desc := "()V" } : Jvm.MethodName)) ∈ lw_tbl := tk_8 (j := 81) rfl
theorem tw_2002 : (Jvm.Cond.code ({ cls := "NightDoorsModel", name := "qDropsToBracket", desc := "()V" } : Jvm.MethodName) prog_14_method_116_code (1 : Nat) (Option.none : Option Jvm.ClassFile.FieldType)) ∈ lw_tbl := tk_8 (j := 82) rfl
theorem tw_2003 : (Jvm.Cond.methodLink "NightDoorsModel" (618 : Nat) ({ cls := "NightDoorsModel", name := "qIsOn", desc := "(I)Z" } : Jvm.MethodName)) ∈ lw_tbl := tk_8 (j := 83) rfl
theorem tw_2005 : (Jvm.Cond.instanceMethod ({ cls := "NightDoorsModel", name := "qIsOn", desc := "(I)Z" } : Jvm.MethodName)) ∈ lw_tbl := tk_8 (j := 85) rfl
theorem tw_2006 : (Jvm.Cond.code ({ cls := "NightDoorsModel", name := "qIsOn", desc := "(I)Z" } : Jvm.MethodName) prog_14_method_112_code (2 : Nat) (Option.some Jvm.ClassFile.FieldType.boolean)) ∈ lw_tbl := tk_8 (j := 86) rfl
theorem tw_2007 : (Jvm.Cond.methodLink "NightDoorsModel" (633 : Nat) ({ cls := "NightDoorsModel", name := "qDropsNots", desc := "()V" } : Jvm.MethodName)) ∈ lw_tbl := tk_8 (j := 87) rfl
theorem tw_2009 : (Jvm.Cond.instanceMethod ({ cls := "NightDoorsModel", name := "qDropsNots", desc := "()V" } : Jvm.MethodName)) ∈ lw_tbl := tk_8 (j := 89) rfl
theorem tw_2010 : (Jvm.Cond.code ({ cls := "NightDoorsModel", name := "qDropsNots", desc := "()V" } : Jvm.MethodName) prog_14_method_126_code (1 : Nat) (Option.none : Option Jvm.ClassFile.FieldType)) ∈ lw_tbl := tk_8 (j := 90) rfl
theorem tw_2011 : (Jvm.Cond.methodLink "NightDoorsModel" (636 : Nat) ({ cls := "NightDoorsModel", name := "qGoesOnTest", desc := "()Z" } : Jvm.MethodName)) ∈ lw_tbl := tk_8 (j := 91) rfl
theorem tw_2013 : (Jvm.Cond.instanceMethod ({ cls := "NightDoorsModel", name := "qGoesOnTest", desc := "()Z" } : Jvm.MethodName)) ∈ lw_tbl := tk_8 (j := 93) rfl
theorem tw_2014 : (Jvm.Cond.code ({ cls := "NightDoorsModel", name := "qGoesOnTest", desc := "()Z" } : Jvm.MethodName) prog_14_method_128_code (1 : Nat) (Option.some Jvm.ClassFile.FieldType.boolean)) ∈ lw_tbl := tk_8 (j := 94) rfl
theorem tw_2015 : (Jvm.Cond.methodLink "NightDoorsModel" (639 : Nat) ({ cls := "NightDoorsModel", name := "qHasSquare", desc := "()Z" } : Jvm.MethodName)) ∈ lw_tbl := tk_8 (j := 95) rfl
theorem tw_2017 : (Jvm.Cond.instanceMethod ({ cls := "NightDoorsModel", name := "qHasSquare", desc := "()Z" } : Jvm.MethodName)) ∈ lw_tbl := tk_8 (j := 97) rfl
theorem tw_2018 : (Jvm.Cond.code ({ cls := "NightDoorsModel", name := "qHasSquare", desc := "()Z" } : Jvm.MethodName) prog_14_method_125_code (2 : Nat) (Option.some Jvm.ClassFile.FieldType.boolean)) ∈ lw_tbl := tk_8 (j := 98) rfl
theorem tw_2019 : (Jvm.Cond.methodLink "NightDoorsModel" (684 : Nat) ({ cls := "NightDoorsModel", name := "qTold", desc := "(I)J" } : Jvm.MethodName)) ∈ lw_tbl := tk_8 (j := 99) rfl
theorem tw_2021 : (Jvm.Cond.instanceMethod ({ cls := "NightDoorsModel", name := "qTold", desc := "(I)J" } : Jvm.MethodName)) ∈ lw_tbl := tk_8 (j := 101) rfl
theorem tw_2022 : (Jvm.Cond.code ({ cls := "NightDoorsModel", name := "qTold", desc := "(I)J" } : Jvm.MethodName) prog_14_method_135_code (4 : Nat) (Option.some Jvm.ClassFile.FieldType.long)) ∈ lw_tbl := tk_8 (j := 102) rfl
theorem tw_2023 : (Jvm.Cond.methodLink "NightDoorsModel" (648 : Nat) ({ cls := "NightDoorsModel", name := "qPuts", desc := "(J)V" } : Jvm.MethodName)) ∈ lw_tbl := tk_8 (j := 103) rfl
theorem tw_2025 : (Jvm.Cond.instanceMethod ({ cls := "NightDoorsModel", name := "qPuts", desc := "(J)V" } : Jvm.MethodName)) ∈ lw_tbl := tk_8 (j := 105) rfl
theorem tw_2026 : (Jvm.Cond.code ({ cls := "NightDoorsModel", name := "qPuts", desc := "(J)V" } : Jvm.MethodName) prog_14_method_131_code (3 : Nat) (Option.none : Option Jvm.ClassFile.FieldType)) ∈ lw_tbl := tk_8 (j := 106) rfl
theorem tw_2027 : (Jvm.Cond.methodLink "NightDoorsModel" (658 : Nat) ({ cls := "NightDoorsModel", name := "qOf", desc := "(IJI)J" } : Jvm.MethodName)) ∈ lw_tbl := tk_8 (j := 107) rfl
theorem tw_2029 : (Jvm.Cond.instanceMethod ({ cls := "NightDoorsModel", name := "qOf", desc := "(IJI)J" } : Jvm.MethodName)) ∈ lw_tbl := tk_8 (j := 109) rfl
theorem tw_2030 : (Jvm.Cond.code ({ cls := "NightDoorsModel", name := "qOf", desc := "(IJI)J" } : Jvm.MethodName) prog_14_method_134_code (5 : Nat) (Option.some Jvm.ClassFile.FieldType.long)) ∈ lw_tbl := tk_8 (j := 110) rfl
theorem tw_2031 : (Jvm.Cond.methodLink "NightDoorsModel" (645 : Nat) ({ cls := "NightDoorsModel", name := "qClip", desc := "(J)J" } : Jvm.MethodName)) ∈ lw_tbl := tk_8 (j := 111) rfl
theorem tw_2032 : (Jvm.Cond.static ({ cls := "NightDoorsModel", name := "qClip", desc := "(J)J" } : Jvm.MethodName)) ∈ lw_tbl := tk_8 (j := 112) rfl
theorem tw_2033 : (Jvm.Cond.code ({ cls := "NightDoorsModel", name := "qClip", desc := "(J)J" } : Jvm.MethodName) prog_14_method_129_code (2 : Nat) (Option.some Jvm.ClassFile.FieldType.long)) ∈ lw_tbl := tk_8 (j := 113) rfl
theorem tw_2034 : (Jvm.Cond.methodLink "NightDoorsModel" (662 : Nat) ({ cls := "NightDoorsModel", name := "qPartOf", desc := "(II)J" } : Jvm.MethodName)) ∈ lw_tbl := tk_8 (j := 114) rfl
theorem tw_2036 : (Jvm.Cond.instanceMethod ({ cls := "NightDoorsModel", name := "qPartOf", desc := "(II)J" } : Jvm.MethodName)) ∈ lw_tbl := tk_8 (j := 116) rfl
theorem tw_2037 : (Jvm.Cond.code ({ cls := "NightDoorsModel", name := "qPartOf", desc := "(II)J" } : Jvm.MethodName) prog_14_method_133_code (3 : Nat) (Option.some Jvm.ClassFile.FieldType.long)) ∈ lw_tbl := tk_8 (j := 117) rfl
theorem tw_2038 : (Jvm.Cond.methodLink "NightDoorsModel" (654 : Nat) ({ cls := "NightDoorsModel", name := "worstOf", desc := "(I)J" } : Jvm.MethodName)) ∈ lw_tbl := tk_8 (j := 118) rfl
theorem tw_2040 : (Jvm.Cond.instanceMethod ({ cls := "NightDoorsModel", name := "worstOf", desc := "(I)J" } : Jvm.MethodName)) ∈ lw_tbl := tk_8 (j := 120) rfl
theorem tw_2041 : (Jvm.Cond.code ({ cls := "NightDoorsModel", name := "worstOf", desc := "(I)J" } : Jvm.MethodName) prog_14_method_139_code (2 : Nat) (Option.some Jvm.ClassFile.FieldType.long)) ∈ lw_tbl := tk_8 (j := 121) rfl
theorem tw_2042 : (Jvm.Cond.methodLink "NightDoorsModel" (666 : Nat) ({ cls := "NightDoorsModel", name := "qJoins", desc := "(I)V" } : Jvm.MethodName)) ∈ lw_tbl := tk_8 (j := 122) rfl
theorem tw_2044 : (Jvm.Cond.instanceMethod ({ cls := "NightDoorsModel", name := "qJoins", desc := "(I)V" } : Jvm.MethodName)) ∈ lw_tbl := tk_8 (j := 124) rfl
theorem tw_2045 : (Jvm.Cond.code ({ cls := "NightDoorsModel", name := "qJoins", desc := "(I)V" } : Jvm.MethodName) prog_14_method_132_code (6 : Nat) (Option.none : Option Jvm.ClassFile.FieldType)) ∈ lw_tbl := tk_8 (j := 125) rfl
theorem tw_2046 : (Jvm.Cond.methodLink "NightDoorsModel" (651 : Nat) ({ cls := "NightDoorsModel", name := "qFloor", desc := "(JJ)J" } : Jvm.MethodName)) ∈ lw_tbl := tk_8 (j := 126) rfl
theorem tw_2047 : (Jvm.Cond.static ({ cls := "NightDoorsModel", name := "qFloor", desc := "(JJ)J" } : Jvm.MethodName)) ∈ lw_tbl := tk_8 (j := 127) rfl
theorem tw_2048 : (Jvm.Cond.code ({ cls := "NightDoorsModel", name := "qFloor", desc := "(JJ)J" } : Jvm.MethodName) prog_14_method_130_code (6 : Nat) (Option.some Jvm.ClassFile.FieldType.long)) ∈ lw_tbl := tk_8 (j := 128) rfl
theorem tw_2049 : (Jvm.Cond.methodLink "NightDoorsModel" (687 : Nat) ({ cls := "NightDoorsModel", name := "qTakes", desc := "(IJI)V" } : Jvm.MethodName)) ∈ lw_tbl := tk_8 (j := 129) rfl
theorem tw_2051 : (Jvm.Cond.instanceMethod ({ cls := "NightDoorsModel", name := "qTakes", desc := "(IJI)V" } : Jvm.MethodName)) ∈ lw_tbl := tk_8 (j := 131) rfl
theorem tw_2052 : (Jvm.Cond.code ({ cls := "NightDoorsModel", name := "qTakes", desc := "(IJI)V" } : Jvm.MethodName) prog_14_method_137_code (6 : Nat) (Option.none : Option Jvm.ClassFile.FieldType)) ∈ lw_tbl := tk_8 (j := 132) rfl
theorem tw_2053 : (Jvm.Cond.methodLink "NightDoorsLaw" (146 : Nat) ({ cls := "NightDoorsModel", name := "image", desc := "()I" } : Jvm.MethodName)) ∈ lw_tbl := tk_8 (j := 133) rfl
theorem tw_2054 : (Jvm.Cond.instanceMethod ({ cls := "NightDoorsModel", name := "image", desc := "()I" } : Jvm.MethodName)) ∈ lw_tbl := tk_8 (j := 134) rfl
theorem tw_2055 : (Jvm.Cond.selects "NightDoorsModel" ({ cls := "NightDoorsModel", name := "image", desc := "()I" } : Jvm.MethodName) ({ cls := "NightDoorsModel", name := "image", desc := "()I" } : Jvm.MethodName)) ∈ lw_tbl := tk_8 (j := 135) rfl
theorem tw_2056 : (Jvm.Cond.code ({ cls := "NightDoorsModel", name := "image", desc := "()I" } : Jvm.MethodName) prog_14_method_142_code (3 : Nat) (Option.some Jvm.ClassFile.FieldType.int)) ∈ lw_tbl := tk_8 (j := 136) rfl
theorem tw_2057 : (Jvm.Cond.methodLink "NightDoorsModel" (694 : Nat) ({ cls := "NightDoorsModel", name := "writes", desc := "(I)V" } : Jvm.MethodName)) ∈ lw_tbl := tk_8 (j := 137) rfl
theorem tw_2059 : (Jvm.Cond.instanceMethod ({ cls := "NightDoorsModel", name := "writes", desc := "(I)V" } : Jvm.MethodName)) ∈ lw_tbl := tk_8 (j := 139) rfl
theorem tw_2060 : (Jvm.Cond.code ({ cls := "NightDoorsModel", name := "writes", desc := "(I)V" } : Jvm.MethodName) prog_14_method_141_code (2 : Nat) (Option.none : Option Jvm.ClassFile.FieldType)) ∈ lw_tbl := tk_8 (j := 140) rfl
theorem tw_2061 : (Jvm.Cond.methodLink "NightDoorsModel" (697 : Nat) ({ cls := "NightDoorsModel", name := "checked", desc := "([II)I" } : Jvm.MethodName)) ∈ lw_tbl := tk_8 (j := 141) rfl
theorem tw_2062 : (Jvm.Cond.static ({ cls := "NightDoorsModel", name := "checked", desc := "([II)I" } : Jvm.MethodName)) ∈ lw_tbl := tk_8 (j := 142) rfl
theorem tw_2063 : (Jvm.Cond.code ({ cls := "NightDoorsModel", name := "checked", desc := "([II)I" } : Jvm.MethodName) prog_14_method_140_code (4 : Nat) (Option.some Jvm.ClassFile.FieldType.int)) ∈ lw_tbl := tk_8 (j := 143) rfl
theorem tw_2064 : (Jvm.Cond.methodLink "NightDoorsLaw" (150 : Nat) ({ cls := "NightDoorsModel", name := "octet", desc := "(I)I" } : Jvm.MethodName)) ∈ lw_tbl := tk_8 (j := 144) rfl
theorem tw_2065 : (Jvm.Cond.instanceMethod ({ cls := "NightDoorsModel", name := "octet", desc := "(I)I" } : Jvm.MethodName)) ∈ lw_tbl := tk_8 (j := 145) rfl
theorem tw_2066 : (Jvm.Cond.selects "NightDoorsModel" ({ cls := "NightDoorsModel", name := "octet", desc := "(I)I" } : Jvm.MethodName) ({ cls := "NightDoorsModel", name := "octet", desc := "(I)I" } : Jvm.MethodName)) ∈ lw_tbl := tk_8 (j := 146) rfl
theorem tw_2067 : (Jvm.Cond.code ({ cls := "NightDoorsModel", name := "octet", desc := "(I)I" } : Jvm.MethodName) prog_14_method_143_code (2 : Nat) (Option.some Jvm.ClassFile.FieldType.int)) ∈ lw_tbl := tk_8 (j := 147) rfl
theorem tw_2068 : (Jvm.Cond.methodLink "NightDoorsLaw" (154 : Nat) ({ cls := "NightDoorsModel", name := "on", desc := "()Z" } : Jvm.MethodName)) ∈ lw_tbl := tk_8 (j := 148) rfl
theorem tw_2069 : (Jvm.Cond.instanceMethod ({ cls := "NightDoorsModel", name := "on", desc := "()Z" } : Jvm.MethodName)) ∈ lw_tbl := tk_8 (j := 149) rfl
theorem tw_2070 : (Jvm.Cond.selects "NightDoorsModel" ({ cls := "NightDoorsModel", name := "on", desc := "()Z" } : Jvm.MethodName) ({ cls := "NightDoorsModel", name := "on", desc := "()Z" } : Jvm.MethodName)) ∈ lw_tbl := tk_8 (j := 150) rfl
theorem tw_2071 : (Jvm.Cond.code ({ cls := "NightDoorsModel", name := "on", desc := "()Z" } : Jvm.MethodName) prog_14_method_145_code (5 : Nat) (Option.some Jvm.ClassFile.FieldType.boolean)) ∈ lw_tbl := tk_8 (j := 151) rfl
theorem tw_2072 : (Jvm.Cond.methodLink "NightDoorsModel" (701 : Nat) ({ cls := "NightDoorsModel", name := "isTold", desc := "(I)Z" } : Jvm.MethodName)) ∈ lw_tbl := tk_8 (j := 152) rfl
theorem tw_2074 : (Jvm.Cond.instanceMethod ({ cls := "NightDoorsModel", name := "isTold", desc := "(I)Z" } : Jvm.MethodName)) ∈ lw_tbl := tk_8 (j := 154) rfl
theorem tw_2075 : (Jvm.Cond.code ({ cls := "NightDoorsModel", name := "isTold", desc := "(I)Z" } : Jvm.MethodName) prog_14_method_144_code (5 : Nat) (Option.some Jvm.ClassFile.FieldType.boolean)) ∈ lw_tbl := tk_8 (j := 155) rfl
theorem tw_2076 : (Jvm.Cond.methodLink "NightDoorsLaw" (158 : Nat) ({ cls := "NightDoorsModel", name := "status", desc := "(I)I" } : Jvm.MethodName)) ∈ lw_tbl := tk_8 (j := 156) rfl
theorem tw_2077 : (Jvm.Cond.instanceMethod ({ cls := "NightDoorsModel", name := "status", desc := "(I)I" } : Jvm.MethodName)) ∈ lw_tbl := tk_8 (j := 157) rfl
theorem tw_2078 : (Jvm.Cond.selects "NightDoorsModel" ({ cls := "NightDoorsModel", name := "status", desc := "(I)I" } : Jvm.MethodName) ({ cls := "NightDoorsModel", name := "status", desc := "(I)I" } : Jvm.MethodName)) ∈ lw_tbl := tk_8 (j := 158) rfl
theorem tw_2079 : (Jvm.Cond.code ({ cls := "NightDoorsModel", name := "status", desc := "(I)I" } : Jvm.MethodName) prog_14_method_146_code (2 : Nat) (Option.some Jvm.ClassFile.FieldType.int)) ∈ lw_tbl := tk_8 (j := 159) rfl
theorem tw_2080 : (Jvm.Cond.fieldLink "java/lang/String" (9 : Nat) "java/lang/String" "value" "[B") ∈ lw_tbl := tk_8 (j := 160) rfl
theorem tw_2081 : (Jvm.Cond.fieldLink "java/lang/String" (15 : Nat) "java/lang/String" "coder" "B") ∈ lw_tbl := tk_8 (j := 161) rfl
