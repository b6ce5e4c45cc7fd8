def GG : List zm_Sh := [.inr (0, [some (.ref 1), some (.ref 7), some (.ref 14), some (.ref 19)]), .inr (1, [some (.ref 2), some (.ref 3), some (.ref 4), some (.ref 5), some (.ref 6)]), .inl (false, 12), .inl (false, 12), .inl (false, 12), .inl (false, 12), .inl (false, 144), .inr (2, [none, none, some (.ref 8), some (.ref 9), some (.ref 10), some (.ref 11), none, some (.ref 12), some (.ref 13), none]), .inl (false, 12), .inl (false, 12), .inl (false, 576), .inl (false, 12), .inl (false, 12), .inl (false, 48), .inr (3, [some (.ref 15), some (.ref 16), none, none, none]), .inl (false, 16), .inr (4, [some (.ref 17), none, some (.ref 18), none]), .inl (false, 1341), .inl (false, 73), .inr (5, [some (.ref 20), some (.ref 25), some (.ref 26), none, none]), .inr (6, [none, none, some (.ref 21), some (.ref 22), some (.ref 23), some (.ref 24)]), .inl (false, 12), .inl (false, 12), .inl (false, 12), .inl (false, 576), .inl (false, 6), .inl (false, 257), .inr (7, [some (.ref 28), some (.ref 29), some (.ref 30), some (.ref 31), some (.ref 32), none, none, some (.ref 33), some (.ref 34), some (.ref 35), none, some (.ref 36), some (.ref 37), some (.ref 38), some (.ref 39), some (.ref 40), some (.ref 41), none, none, none, none, some (.ref 42), none, none, some (.ref 43), some (.ref 44), some (.ref 45), some (.ref 46), some (.ref 47), none, none, some (.ref 48), some (.ref 49)]), .inl (false, 12), .inl (false, 12), .inl (false, 12), .inl (false, 12), .inl (false, 144), .inl (false, 12), .inl (false, 12), .inl (false, 576), .inl (false, 12), .inl (false, 12), .inl (false, 576), .inl (false, 12), .inl (false, 700), .inl (true, 700), .inl (false, 16), .inl (true, 12), .inl (false, 12), .inl (false, 12), .inl (true, 72), .inl (false, 576), .inl (false, 258), .inl (false, 6)]
theorem gg_0 : GG[0]? = some (.inr (0, [some (.ref 1), some (.ref 7), some (.ref 14), some (.ref 19)])) := rfl
theorem gg_1 : GG[1]? = some (.inr (1, [some (.ref 2), some (.ref 3), some (.ref 4), some (.ref 5), some (.ref 6)])) := rfl
theorem gg_2 : GG[2]? = some (.inl (false, 12)) := rfl
theorem gg_3 : GG[3]? = some (.inl (false, 12)) := rfl
theorem gg_4 : GG[4]? = some (.inl (false, 12)) := rfl
theorem gg_5 : GG[5]? = some (.inl (false, 12)) := rfl
theorem gg_6 : GG[6]? = some (.inl (false, 144)) := rfl
theorem gg_7 : GG[7]? = some (.inr (2, [none, none, some (.ref 8), some (.ref 9), some (.ref 10), some (.ref 11), none, some (.ref 12), some (.ref 13), none])) := rfl
theorem gg_8 : GG[8]? = some (.inl (false, 12)) := rfl
theorem gg_9 : GG[9]? = some (.inl (false, 12)) := rfl
theorem gg_10 : GG[10]? = some (.inl (false, 576)) := rfl
theorem gg_11 : GG[11]? = some (.inl (false, 12)) := rfl
theorem gg_12 : GG[12]? = some (.inl (false, 12)) := rfl
theorem gg_13 : GG[13]? = some (.inl (false, 48)) := rfl
theorem gg_14 : GG[14]? = some (.inr (3, [some (.ref 15), some (.ref 16), none, none, none])) := rfl
theorem gg_15 : GG[15]? = some (.inl (false, 16)) := rfl
theorem gg_16 : GG[16]? = some (.inr (4, [some (.ref 17), none, some (.ref 18), none])) := rfl
theorem gg_17 : GG[17]? = some (.inl (false, 1341)) := rfl
theorem gg_18 : GG[18]? = some (.inl (false, 73)) := rfl
theorem gg_19 : GG[19]? = some (.inr (5, [some (.ref 20), some (.ref 25), some (.ref 26), none, none])) := rfl
theorem gg_20 : GG[20]? = some (.inr (6, [none, none, some (.ref 21), some (.ref 22), some (.ref 23), some (.ref 24)])) := rfl
theorem gg_21 : GG[21]? = some (.inl (false, 12)) := rfl
theorem gg_22 : GG[22]? = some (.inl (false, 12)) := rfl
theorem gg_23 : GG[23]? = some (.inl (false, 12)) := rfl
theorem gg_24 : GG[24]? = some (.inl (false, 576)) := rfl
theorem gg_25 : GG[25]? = some (.inl (false, 6)) := rfl
theorem gg_26 : GG[26]? = some (.inl (false, 257)) := rfl
theorem gg_27 : GG[27]? = some (.inr (7, [some (.ref 28), some (.ref 29), some (.ref 30), some (.ref 31), some (.ref 32), none, none, some (.ref 33), some (.ref 34), some (.ref 35), none, some (.ref 36), some (.ref 37), some (.ref 38), some (.ref 39), some (.ref 40), some (.ref 41), none, none, none, none, some (.ref 42), none, none, some (.ref 43), some (.ref 44), some (.ref 45), some (.ref 46), some (.ref 47), none, none, some (.ref 48), some (.ref 49)])) := rfl
theorem gg_28 : GG[28]? = some (.inl (false, 12)) := rfl
theorem gg_29 : GG[29]? = some (.inl (false, 12)) := rfl
theorem gg_30 : GG[30]? = some (.inl (false, 12)) := rfl
theorem gg_31 : GG[31]? = some (.inl (false, 12)) := rfl
theorem gg_32 : GG[32]? = some (.inl (false, 144)) := rfl
theorem gg_33 : GG[33]? = some (.inl (false, 12)) := rfl
theorem gg_34 : GG[34]? = some (.inl (false, 12)) := rfl
theorem gg_35 : GG[35]? = some (.inl (false, 576)) := rfl
theorem gg_36 : GG[36]? = some (.inl (false, 12)) := rfl
theorem gg_37 : GG[37]? = some (.inl (false, 12)) := rfl
theorem gg_38 : GG[38]? = some (.inl (false, 576)) := rfl
theorem gg_39 : GG[39]? = some (.inl (false, 12)) := rfl
theorem gg_40 : GG[40]? = some (.inl (false, 700)) := rfl
theorem gg_41 : GG[41]? = some (.inl (true, 700)) := rfl
theorem gg_42 : GG[42]? = some (.inl (false, 16)) := rfl
theorem gg_43 : GG[43]? = some (.inl (true, 12)) := rfl
theorem gg_44 : GG[44]? = some (.inl (false, 12)) := rfl
theorem gg_45 : GG[45]? = some (.inl (false, 12)) := rfl
theorem gg_46 : GG[46]? = some (.inl (true, 72)) := rfl
theorem gg_47 : GG[47]? = some (.inl (false, 576)) := rfl
theorem gg_48 : GG[48]? = some (.inl (false, 258)) := rfl
theorem gg_49 : GG[49]? = some (.inl (false, 6)) := rfl
abbrev zw (M : zm_M) (d : Nat) (Q : zm_Q) (pc : Nat) (L : zm_L) (st : List Value) (S : zm_S) : Prop := zm_WP M none d 0 0 Q pc L st GG S 0 0
abbrev zc (M : zm_M) (d : Nat) (av : List Value) (S : zm_S) (Q : zm_Q) : Prop := zm_CC M d 0 0 av GG S Q
def M_CM_init : zm_M := (y_CM_init, (b_CM_init, 1), none)
def M_CM_make : zm_M := (y_CM_make, (b_CM_make, 5), (some .int))
def M_CM_remove : zm_M := (y_CM_remove, (b_CM_remove, 2), (some .int))
def M_CM_append : zm_M := (y_CM_append, (b_CM_append, 3), (some .int))
def M_CM_empty : zm_M := (y_CM_empty, (b_CM_empty, 2), (some .int))
def M_CM_publish : zm_M := (y_CM_publish, (b_CM_publish, 1), (some .int))
def M_CM_modules : zm_M := (y_CM_modules, (b_CM_modules, 1), (some .int))
def M_CM_module : zm_M := (y_CM_module, (b_CM_module, 2), (some .int))
def M_CM_peek : zm_M := (y_CM_peek, (b_CM_peek, 2), (some .int))
def M_CM_send : zm_M := (y_CM_send, (b_CM_send, 3), (some .int))
def M_CM_lose : zm_M := (y_CM_lose, (b_CM_lose, 3), (some .int))
def M_CM_spoil : zm_M := (y_CM_spoil, (b_CM_spoil, 3), (some .int))
def M_CM_retune : zm_M := (y_CM_retune, (b_CM_retune, 1), none)
def M_CM_count : zm_M := (y_CM_count, (b_CM_count, 2), (some .int))
def M_CM_transaction : zm_M := (y_CM_transaction, (b_CM_transaction, 2), (some .int))
def M_CM_held : zm_M := (y_CM_held, (b_CM_held, 3), (some .int))
def M_CM_kind : zm_M := (y_CM_kind, (b_CM_kind, 5), (some .int))
def M_CM_size : zm_M := (y_CM_size, (b_CM_size, 7), (some .int))
def M_CM_read : zm_M := (y_CM_read, (b_CM_read, 6), (some .int))
def M_CM_follow : zm_M := (y_CM_follow, (b_CM_follow, 6), (some .int))
def M_CM_isEntryKey : zm_M := (y_CM_isEntryKey, (b_CM_isEntryKey, 1), (some .boolean))
def M_CM_isByte : zm_M := (y_CM_isByte, (b_CM_isByte, 1), (some .boolean))
def M_CM_pairAt : zm_M := (y_CM_pairAt, (b_CM_pairAt, 2), (some .int))
def M_CM_checkOf : zm_M := (y_CM_checkOf, (b_CM_checkOf, 6), (some .int))
def M_CM_blocksIn : zm_M := (y_CM_blocksIn, (b_CM_blocksIn, 1), (some .int))
def M_CM_blockLength : zm_M := (y_CM_blockLength, (b_CM_blockLength, 3), (some .int))
def M_Md_init : zm_M := (y_Md_init, (b_Md_init, 1), none)
def M_Md_within : zm_M := (y_Md_within, (b_Md_within, 3), (some .boolean))
def M_Md_after : zm_M := (y_Md_after, (b_Md_after, 6), (some .int))
def M_Md_make : zm_M := (y_Md_make, (b_Md_make, 5), (some .int))
def M_Md_remove : zm_M := (y_Md_remove, (b_Md_remove, 2), (some .int))
def M_Md_append : zm_M := (y_Md_append, (b_Md_append, 3), (some .int))
def M_Md_empty : zm_M := (y_Md_empty, (b_Md_empty, 3), (some .int))
def M_Md_next : zm_M := (y_Md_next, (b_Md_next, 4), (some .int))
def M_Md_payload : zm_M := (y_Md_payload, (b_Md_payload, 4), (some .int))
def M_Md_put : zm_M := (y_Md_put, (b_Md_put, 3), none)
def M_Md_message : zm_M := (y_Md_message, (b_Md_message, 4), none)
def M_Md_keepOld : zm_M := (y_Md_keepOld, (b_Md_keepOld, 2), none)
def M_Md_unchanged : zm_M := (y_Md_unchanged, (b_Md_unchanged, 4), (some .boolean))
def M_Md_publish : zm_M := (y_Md_publish, (b_Md_publish, 4), (some .int))
def M_Md_mixed : zm_M := (y_Md_mixed, (b_Md_mixed, 5), (some .int))
def M_Md_emit : zm_M := (y_Md_emit, (b_Md_emit, 2), none)
def M_Md_emitPair : zm_M := (y_Md_emitPair, (b_Md_emitPair, 2), none)
def M_Md_emitCheck : zm_M := (y_Md_emitCheck, (b_Md_emitCheck, 2), none)
def M_Md_writeCycle : zm_M := (y_Md_writeCycle, (b_Md_writeCycle, 5), none)
def M_Md_modules : zm_M := (y_Md_modules, (b_Md_modules, 1), (some .int))
def M_Md_module : zm_M := (y_Md_module, (b_Md_module, 2), (some .int))
def M_Md_rest : zm_M := (y_Md_rest, (b_Md_rest, 2), (some .int))
def M_Md_build : zm_M := (y_Md_build, (b_Md_build, 9), (some .int))
def M_Md_sent : zm_M := (y_Md_sent, (b_Md_sent, 2), none)
def M_Md_peek : zm_M := (y_Md_peek, (b_Md_peek, 3), (some .int))
def M_Md_pass : zm_M := (y_Md_pass, (b_Md_pass, 4), (some .int))
def M_Md_send : zm_M := (y_Md_send, (b_Md_send, 2), (some .int))
def M_Md_lose : zm_M := (y_Md_lose, (b_Md_lose, 2), (some .int))
def M_Md_spoil : zm_M := (y_Md_spoil, (b_Md_spoil, 3), (some .int))
def M_Md_retune : zm_M := (y_Md_retune, (b_Md_retune, 2), none)
def M_Md_nothing : zm_M := (y_Md_nothing, (b_Md_nothing, 3), none)
def M_Md_throwAway : zm_M := (y_Md_throwAway, (b_Md_throwAway, 1), none)
def M_Md_receive : zm_M := (y_Md_receive, (b_Md_receive, 5), none)
def M_Md_more : zm_M := (y_Md_more, (b_Md_more, 4), none)
def M_Md_take : zm_M := (y_Md_take, (b_Md_take, 2), none)
def M_Md_pair : zm_M := (y_Md_pair, (b_Md_pair, 2), (some .int))
def M_Md_checks : zm_M := (y_Md_checks, (b_Md_checks, 4), (some .boolean))
def M_Md_isList : zm_M := (y_Md_isList, (b_Md_isList, 3), (some .boolean))
def M_Md_look : zm_M := (y_Md_look, (b_Md_look, 1), none)
def M_Md_list : zm_M := (y_Md_list, (b_Md_list, 6), none)
def M_Md_fits : zm_M := (y_Md_fits, (b_Md_fits, 3), (some .boolean))
def M_Md_block : zm_M := (y_Md_block, (b_Md_block, 3), none)
def M_Md_count : zm_M := (y_Md_count, (b_Md_count, 2), (some .int))
def M_Md_transaction : zm_M := (y_Md_transaction, (b_Md_transaction, 1), (some .int))
def M_Md_heldOf : zm_M := (y_Md_heldOf, (b_Md_heldOf, 4), (some .int))
def M_Md_held : zm_M := (y_Md_held, (b_Md_held, 2), (some .int))
def M_Md_ready : zm_M := (y_Md_ready, (b_Md_ready, 2), (some .int))
def M_Md_stands : zm_M := (y_Md_stands, (b_Md_stands, 4), (some .boolean))
def M_Md_first : zm_M := (y_Md_first, (b_Md_first, 4), (some .int))
def M_Md_gateway : zm_M := (y_Md_gateway, (b_Md_gateway, 3), (some .int))
def M_Md_enter : zm_M := (y_Md_enter, (b_Md_enter, 7), (some .int))
def M_Md_follow : zm_M := (y_Md_follow, (b_Md_follow, 5), (some .int))
def M_Md_kind : zm_M := (y_Md_kind, (b_Md_kind, 5), (some .int))
def M_Md_size : zm_M := (y_Md_size, (b_Md_size, 5), (some .int))
def M_Md_read : zm_M := (y_Md_read, (b_Md_read, 6), (some .int))
def M_Cy_init : zm_M := (y_Cy_init, (b_Cy_init, 1), none)
def M_Cy_renew : zm_M := (y_Cy_renew, (b_Cy_renew, 5), none)
def M_Cy_startFrom : zm_M := (y_Cy_startFrom, (b_Cy_startFrom, 3), (some .int))
def M_Cy_addList : zm_M := (y_Cy_addList, (b_Cy_addList, 3), none)
def M_Cy_addBlock : zm_M := (y_Cy_addBlock, (b_Cy_addBlock, 6), none)
def M_Cy_begin : zm_M := (y_Cy_begin, (b_Cy_begin, 3), none)
def M_Cy_writeCheck : zm_M := (y_Cy_writeCheck, (b_Cy_writeCheck, 2), none)
def M_Cy_writePair : zm_M := (y_Cy_writePair, (b_Cy_writePair, 2), none)
def M_Cy_write : zm_M := (y_Cy_write, (b_Cy_write, 2), none)
def M_Ed_init : zm_M := (y_Ed_init, (b_Ed_init, 1), none)
def M_Ed_byteAt : zm_M := (y_Ed_byteAt, (b_Ed_byteAt, 3), (some .int))
def M_Ed_renew : zm_M := (y_Ed_renew, (b_Ed_renew, 4), none)
def M_Ed_arrange : zm_M := (y_Ed_arrange, (b_Ed_arrange, 4), none)
def M_Ed_assignModules : zm_M := (y_Ed_assignModules, (b_Ed_assignModules, 6), (some .int))
def M_Ed_draftModule : zm_M := (y_Ed_draftModule, (b_Ed_draftModule, 4), none)
def M_Ed_draftMessage : zm_M := (y_Ed_draftMessage, (b_Ed_draftMessage, 4), none)
def M_Ed_draftEntries : zm_M := (y_Ed_draftEntries, (b_Ed_draftEntries, 5), none)
def M_Ed_write : zm_M := (y_Ed_write, (b_Ed_write, 2), none)
def M_Ed_keepDraft : zm_M := (y_Ed_keepDraft, (b_Ed_keepDraft, 2), none)
def M_Ed_draftEquals : zm_M := (y_Ed_draftEquals, (b_Ed_draftEquals, 3), (some .boolean))
def M_Mt_init : zm_M := (y_Mt_init, (b_Mt_init, 1), none)
def M_Mt_reset : zm_M := (y_Mt_reset, (b_Mt_reset, 2), none)
def M_Mt_relist : zm_M := (y_Mt_relist, (b_Mt_relist, 4), none)
def M_Mt_takeList : zm_M := (y_Mt_takeList, (b_Mt_takeList, 7), none)
def M_Mt_takeBlock : zm_M := (y_Mt_takeBlock, (b_Mt_takeBlock, 6), (some .boolean))
def M_Mt_isListed : zm_M := (y_Mt_isListed, (b_Mt_isListed, 2), (some .boolean))
def M_Mt_blocksHeld : zm_M := (y_Mt_blocksHeld, (b_Mt_blocksHeld, 2), (some .int))
def M_Mt_obstacle : zm_M := (y_Mt_obstacle, (b_Mt_obstacle, 2), (some .int))
def M_Mt_gateway : zm_M := (y_Mt_gateway, (b_Mt_gateway, 2), (some .int))
def M_Mt_enter : zm_M := (y_Mt_enter, (b_Mt_enter, 6), (some .int))
def M_Mt_messageWithKey : zm_M := (y_Mt_messageWithKey, (b_Mt_messageWithKey, 7), (some .int))
def M_Mt_fits : zm_M := (y_Mt_fits, (b_Mt_fits, 3), (some .boolean))
def M_Mt_isDirectoryAt : zm_M := (y_Mt_isDirectoryAt, (b_Mt_isDirectoryAt, 2), (some .boolean))
def M_Mt_kindAt : zm_M := (y_Mt_kindAt, (b_Mt_kindAt, 2), (some .int))
def M_Mt_lengthAt : zm_M := (y_Mt_lengthAt, (b_Mt_lengthAt, 2), (some .int))
def M_Mt_contentAt : zm_M := (y_Mt_contentAt, (b_Mt_contentAt, 3), (some .int))
def M_Rc_init : zm_M := (y_Rc_init, (b_Rc_init, 1), none)
def M_Rc_reset : zm_M := (y_Rc_reset, (b_Rc_reset, 1), none)
def M_Rc_takePacket : zm_M := (y_Rc_takePacket, (b_Rc_takePacket, 6), none)
def M_Rc_continueSection : zm_M := (y_Rc_continueSection, (b_Rc_continueSection, 5), none)
def M_Rc_beginSections : zm_M := (y_Rc_beginSections, (b_Rc_beginSections, 4), none)
def M_Rc_throwAway : zm_M := (y_Rc_throwAway, (b_Rc_throwAway, 1), none)
def M_Rc_collect : zm_M := (y_Rc_collect, (b_Rc_collect, 3), none)
def M_Rc_judge : zm_M := (y_Rc_judge, (b_Rc_judge, 2), (some .int))
def M_Rc_hasCheckDue : zm_M := (y_Rc_hasCheckDue, (b_Rc_hasCheckDue, 4), (some .boolean))
def M_Rc_isList : zm_M := (y_Rc_isList, (b_Rc_isList, 5), (some .boolean))
def M_Rc_isBlock : zm_M := (y_Rc_isBlock, (b_Rc_isBlock, 3), (some .boolean))
def M_Sn_init : zm_M := (y_Sn_init, (b_Sn_init, 1), none)
def M_Sn_isOnAir : zm_M := (y_Sn_isOnAir, (b_Sn_isOnAir, 1), (some .boolean))
def M_Sn_beginCycleOf : zm_M := (y_Sn_beginCycleOf, (b_Sn_beginCycleOf, 2), none)
def M_Sn_advance : zm_M := (y_Sn_advance, (b_Sn_advance, 1), none)
def M_Sn_prepare : zm_M := (y_Sn_prepare, (b_Sn_prepare, 4), none)
def M_Sn_load : zm_M := (y_Sn_load, (b_Sn_load, 5), none)
def M_Tree_init : zm_M := (y_Tree_init, (b_Tree_init, 1), none)
def M_Tree_isThere : zm_M := (y_Tree_isThere, (b_Tree_isThere, 2), (some .boolean))
def M_Tree_isDirectory : zm_M := (y_Tree_isDirectory, (b_Tree_isDirectory, 2), (some .boolean))
def M_Tree_isFile : zm_M := (y_Tree_isFile, (b_Tree_isFile, 2), (some .boolean))
def M_Tree_kindOf : zm_M := (y_Tree_kindOf, (b_Tree_kindOf, 2), (some .int))
def M_Tree_nameOf : zm_M := (y_Tree_nameOf, (b_Tree_nameOf, 2), (some .int))
def M_Tree_fileLength : zm_M := (y_Tree_fileLength, (b_Tree_fileLength, 2), (some .int))
def M_Tree_fileByte : zm_M := (y_Tree_fileByte, (b_Tree_fileByte, 3), (some .int))
def M_Tree_hasEntry : zm_M := (y_Tree_hasEntry, (b_Tree_hasEntry, 4), (some .boolean))
def M_Tree_entryCount : zm_M := (y_Tree_entryCount, (b_Tree_entryCount, 4), (some .int))
def M_Tree_leastFreeKey : zm_M := (y_Tree_leastFreeKey, (b_Tree_leastFreeKey, 2), (some .int))
def M_Tree_put : zm_M := (y_Tree_put, (b_Tree_put, 5), none)
def M_Tree_take : zm_M := (y_Tree_take, (b_Tree_take, 2), none)
def M_Tree_addByte : zm_M := (y_Tree_addByte, (b_Tree_addByte, 3), (some .int))
def M_Tree_clearFile : zm_M := (y_Tree_clearFile, (b_Tree_clearFile, 3), (some .int))
def M_Tree_messageLength : zm_M := (y_Tree_messageLength, (b_Tree_messageLength, 2), (some .int))
def M_Tree_entryAfter : zm_M := (y_Tree_entryAfter, (b_Tree_entryAfter, 6), (some .int))
def M_Tree_followerOf : zm_M := (y_Tree_followerOf, (b_Tree_followerOf, 5), (some .int))
def M_Arr_fill : zm_M := (y_Arr_fill, (b_Arr_fill, 4), none)
def M_Int_bitCount : zm_M := (y_Int_bitCount, (b_Int_bitCount, 1), (some .int))
def M_Law_law : zm_M := (y_Law_law, (b_Law_law, 4), some .boolean)
theorem ztn {w : Cond} (i : Nat) (h : tables_1[i]? = some w) : w ∈ lw_tbl := List.mem_append_right _ (List.mem_of_getElem? h)
theorem zt {w : Cond} (i : Nat) (h : tables_1[i]? = some w) (hg : goodWord w = true) : w ∈ zm_all := List.mem_filter.mpr ⟨ztn i h, hg⟩
theorem zs {y : MethodName} {n : Nat} (i : Nat) (h : lw_privs[i]? = some (y, n)) : Cond.selects y.cls y y ∈ zm_all := List.mem_filter.mpr ⟨List.mem_append_left _ (List.mem_map.mpr ⟨(y, n), List.mem_of_getElem? h, rfl⟩), rfl⟩
theorem ul_CM_0 : u_lay R_CM F_CM 0 ∈ zm_all := zt 190 (by decide +kernel) (by decide +kernel)
theorem ul_CM_1 : u_lay R_CM F_CM 1 ∈ zm_all := zt 192 (by decide +kernel) (by decide +kernel)
theorem ul_CM_2 : u_lay R_CM F_CM 2 ∈ zm_all := zt 194 (by decide +kernel) (by decide +kernel)
theorem ul_CM_3 : u_lay R_CM F_CM 3 ∈ zm_all := zt 196 (by decide +kernel) (by decide +kernel)
theorem uin_CM : ∀ w ∈ u_ws R_CM F_CM 4, w ∈ zm_all := by
  intro w hw
  obtain ⟨k, hk, rfl⟩ := List.mem_map.mp hw
  have hk := List.mem_range.mp hk
  match k, hk with
  | 0, _ => exact ul_CM_0
  | 1, _ => exact ul_CM_1
  | 2, _ => exact ul_CM_2
  | 3, _ => exact ul_CM_3
  | k + 4, hk => exact absurd hk (by omega)
theorem tw_CM : zm_tw F_CM 4 t_CM := ⟨to_CM, n_CM⟩
theorem ul_Tree_0 : u_lay R_Tree F_Tree 0 ∈ zm_all := zt 34 (by decide +kernel) (by decide +kernel)
theorem ul_Tree_1 : u_lay R_Tree F_Tree 1 ∈ zm_all := zt 36 (by decide +kernel) (by decide +kernel)
theorem ul_Tree_2 : u_lay R_Tree F_Tree 2 ∈ zm_all := zt 38 (by decide +kernel) (by decide +kernel)
theorem ul_Tree_3 : u_lay R_Tree F_Tree 3 ∈ zm_all := zt 40 (by decide +kernel) (by decide +kernel)
theorem ul_Tree_4 : u_lay R_Tree F_Tree 4 ∈ zm_all := zt 42 (by decide +kernel) (by decide +kernel)
theorem uin_Tree : ∀ w ∈ u_ws R_Tree F_Tree 5, w ∈ zm_all := by
  intro w hw
  obtain ⟨k, hk, rfl⟩ := List.mem_map.mp hw
  have hk := List.mem_range.mp hk
  match k, hk with
  | 0, _ => exact ul_Tree_0
  | 1, _ => exact ul_Tree_1
  | 2, _ => exact ul_Tree_2
  | 3, _ => exact ul_Tree_3
  | 4, _ => exact ul_Tree_4
  | k + 5, hk => exact absurd hk (by omega)
theorem tw_Tree : zm_tw F_Tree 5 t_Tree := ⟨to_Tree, n_Tree⟩
theorem ul_Ed_0 : u_lay R_Ed F_Ed 0 ∈ zm_all := zt 70 (by decide +kernel) (by decide +kernel)
theorem ul_Ed_1 : u_lay R_Ed F_Ed 1 ∈ zm_all := zt 72 (by decide +kernel) (by decide +kernel)
theorem ul_Ed_2 : u_lay R_Ed F_Ed 2 ∈ zm_all := zt 74 (by decide +kernel) (by decide +kernel)
theorem ul_Ed_3 : u_lay R_Ed F_Ed 3 ∈ zm_all := zt 76 (by decide +kernel) (by decide +kernel)
theorem ul_Ed_4 : u_lay R_Ed F_Ed 4 ∈ zm_all := zt 78 (by decide +kernel) (by decide +kernel)
theorem ul_Ed_5 : u_lay R_Ed F_Ed 5 ∈ zm_all := zt 80 (by decide +kernel) (by decide +kernel)
theorem ul_Ed_6 : u_lay R_Ed F_Ed 6 ∈ zm_all := zt 82 (by decide +kernel) (by decide +kernel)
theorem ul_Ed_7 : u_lay R_Ed F_Ed 7 ∈ zm_all := zt 84 (by decide +kernel) (by decide +kernel)
theorem ul_Ed_8 : u_lay R_Ed F_Ed 8 ∈ zm_all := zt 86 (by decide +kernel) (by decide +kernel)
theorem ul_Ed_9 : u_lay R_Ed F_Ed 9 ∈ zm_all := zt 88 (by decide +kernel) (by decide +kernel)
theorem uin_Ed : ∀ w ∈ u_ws R_Ed F_Ed 10, w ∈ zm_all := by
  intro w hw
  obtain ⟨k, hk, rfl⟩ := List.mem_map.mp hw
  have hk := List.mem_range.mp hk
  match k, hk with
  | 0, _ => exact ul_Ed_0
  | 1, _ => exact ul_Ed_1
  | 2, _ => exact ul_Ed_2
  | 3, _ => exact ul_Ed_3
  | 4, _ => exact ul_Ed_4
  | 5, _ => exact ul_Ed_5
  | 6, _ => exact ul_Ed_6
  | 7, _ => exact ul_Ed_7
  | 8, _ => exact ul_Ed_8
  | 9, _ => exact ul_Ed_9
  | k + 10, hk => exact absurd hk (by omega)
theorem tw_Ed : zm_tw F_Ed 10 t_Ed := ⟨to_Ed, n_Ed⟩
theorem ul_Sn_0 : u_lay R_Sn F_Sn 0 ∈ zm_all := zt 124 (by decide +kernel) (by decide +kernel)
theorem ul_Sn_1 : u_lay R_Sn F_Sn 1 ∈ zm_all := zt 126 (by decide +kernel) (by decide +kernel)
theorem ul_Sn_2 : u_lay R_Sn F_Sn 2 ∈ zm_all := zt 128 (by decide +kernel) (by decide +kernel)
theorem ul_Sn_3 : u_lay R_Sn F_Sn 3 ∈ zm_all := zt 130 (by decide +kernel) (by decide +kernel)
theorem ul_Sn_4 : u_lay R_Sn F_Sn 4 ∈ zm_all := zt 132 (by decide +kernel) (by decide +kernel)
theorem uin_Sn : ∀ w ∈ u_ws R_Sn F_Sn 5, w ∈ zm_all := by
  intro w hw
  obtain ⟨k, hk, rfl⟩ := List.mem_map.mp hw
  have hk := List.mem_range.mp hk
  match k, hk with
  | 0, _ => exact ul_Sn_0
  | 1, _ => exact ul_Sn_1
  | 2, _ => exact ul_Sn_2
  | 3, _ => exact ul_Sn_3
  | 4, _ => exact ul_Sn_4
  | k + 5, hk => exact absurd hk (by omega)
theorem tw_Sn : zm_tw F_Sn 5 t_Sn := ⟨to_Sn, n_Sn⟩
theorem ul_Cy_0 : u_lay R_Cy F_Cy 0 ∈ zm_all := zt 109 (by decide +kernel) (by decide +kernel)
theorem ul_Cy_1 : u_lay R_Cy F_Cy 1 ∈ zm_all := zt 111 (by decide +kernel) (by decide +kernel)
theorem ul_Cy_2 : u_lay R_Cy F_Cy 2 ∈ zm_all := zt 113 (by decide +kernel) (by decide +kernel)
theorem ul_Cy_3 : u_lay R_Cy F_Cy 3 ∈ zm_all := zt 115 (by decide +kernel) (by decide +kernel)
theorem uin_Cy : ∀ w ∈ u_ws R_Cy F_Cy 4, w ∈ zm_all := by
  intro w hw
  obtain ⟨k, hk, rfl⟩ := List.mem_map.mp hw
  have hk := List.mem_range.mp hk
  match k, hk with
  | 0, _ => exact ul_Cy_0
  | 1, _ => exact ul_Cy_1
  | 2, _ => exact ul_Cy_2
  | 3, _ => exact ul_Cy_3
  | k + 4, hk => exact absurd hk (by omega)
theorem tw_Cy : zm_tw F_Cy 4 t_Cy := ⟨to_Cy, n_Cy⟩
theorem ul_Rc_0 : u_lay R_Rc F_Rc 0 ∈ zm_all := zt 175 (by decide +kernel) (by decide +kernel)
theorem ul_Rc_1 : u_lay R_Rc F_Rc 1 ∈ zm_all := zt 177 (by decide +kernel) (by decide +kernel)
theorem ul_Rc_2 : u_lay R_Rc F_Rc 2 ∈ zm_all := zt 179 (by decide +kernel) (by decide +kernel)
theorem ul_Rc_3 : u_lay R_Rc F_Rc 3 ∈ zm_all := zt 181 (by decide +kernel) (by decide +kernel)
theorem ul_Rc_4 : u_lay R_Rc F_Rc 4 ∈ zm_all := zt 183 (by decide +kernel) (by decide +kernel)
theorem uin_Rc : ∀ w ∈ u_ws R_Rc F_Rc 5, w ∈ zm_all := by
  intro w hw
  obtain ⟨k, hk, rfl⟩ := List.mem_map.mp hw
  have hk := List.mem_range.mp hk
  match k, hk with
  | 0, _ => exact ul_Rc_0
  | 1, _ => exact ul_Rc_1
  | 2, _ => exact ul_Rc_2
  | 3, _ => exact ul_Rc_3
  | 4, _ => exact ul_Rc_4
  | k + 5, hk => exact absurd hk (by omega)
theorem tw_Rc : zm_tw F_Rc 5 t_Rc := ⟨to_Rc, n_Rc⟩
theorem ul_Mt_0 : u_lay R_Mt F_Mt 0 ∈ zm_all := zt 155 (by decide +kernel) (by decide +kernel)
theorem ul_Mt_1 : u_lay R_Mt F_Mt 1 ∈ zm_all := zt 157 (by decide +kernel) (by decide +kernel)
theorem ul_Mt_2 : u_lay R_Mt F_Mt 2 ∈ zm_all := zt 159 (by decide +kernel) (by decide +kernel)
theorem ul_Mt_3 : u_lay R_Mt F_Mt 3 ∈ zm_all := zt 161 (by decide +kernel) (by decide +kernel)
theorem ul_Mt_4 : u_lay R_Mt F_Mt 4 ∈ zm_all := zt 163 (by decide +kernel) (by decide +kernel)
theorem ul_Mt_5 : u_lay R_Mt F_Mt 5 ∈ zm_all := zt 165 (by decide +kernel) (by decide +kernel)
theorem uin_Mt : ∀ w ∈ u_ws R_Mt F_Mt 6, w ∈ zm_all := by
  intro w hw
  obtain ⟨k, hk, rfl⟩ := List.mem_map.mp hw
  have hk := List.mem_range.mp hk
  match k, hk with
  | 0, _ => exact ul_Mt_0
  | 1, _ => exact ul_Mt_1
  | 2, _ => exact ul_Mt_2
  | 3, _ => exact ul_Mt_3
  | 4, _ => exact ul_Mt_4
  | 5, _ => exact ul_Mt_5
  | k + 6, hk => exact absurd hk (by omega)
theorem tw_Mt : zm_tw F_Mt 6 t_Mt := ⟨to_Mt, n_Mt⟩
theorem ul_Md_0 : u_lay R_Md F_Md 0 ∈ zm_all := zt 621 (by decide +kernel) (by decide +kernel)
theorem ul_Md_1 : u_lay R_Md F_Md 1 ∈ zm_all := zt 623 (by decide +kernel) (by decide +kernel)
theorem ul_Md_2 : u_lay R_Md F_Md 2 ∈ zm_all := zt 625 (by decide +kernel) (by decide +kernel)
theorem ul_Md_3 : u_lay R_Md F_Md 3 ∈ zm_all := zt 627 (by decide +kernel) (by decide +kernel)
theorem ul_Md_4 : u_lay R_Md F_Md 4 ∈ zm_all := zt 629 (by decide +kernel) (by decide +kernel)
theorem ul_Md_5 : u_lay R_Md F_Md 5 ∈ zm_all := zt 631 (by decide +kernel) (by decide +kernel)
theorem ul_Md_6 : u_lay R_Md F_Md 6 ∈ zm_all := zt 633 (by decide +kernel) (by decide +kernel)
theorem ul_Md_7 : u_lay R_Md F_Md 7 ∈ zm_all := zt 635 (by decide +kernel) (by decide +kernel)
theorem ul_Md_8 : u_lay R_Md F_Md 8 ∈ zm_all := zt 637 (by decide +kernel) (by decide +kernel)
theorem ul_Md_9 : u_lay R_Md F_Md 9 ∈ zm_all := zt 639 (by decide +kernel) (by decide +kernel)
theorem ul_Md_10 : u_lay R_Md F_Md 10 ∈ zm_all := zt 641 (by decide +kernel) (by decide +kernel)
theorem ul_Md_11 : u_lay R_Md F_Md 11 ∈ zm_all := zt 643 (by decide +kernel) (by decide +kernel)
theorem ul_Md_12 : u_lay R_Md F_Md 12 ∈ zm_all := zt 645 (by decide +kernel) (by decide +kernel)
theorem ul_Md_13 : u_lay R_Md F_Md 13 ∈ zm_all := zt 647 (by decide +kernel) (by decide +kernel)
theorem ul_Md_14 : u_lay R_Md F_Md 14 ∈ zm_all := zt 649 (by decide +kernel) (by decide +kernel)
theorem ul_Md_15 : u_lay R_Md F_Md 15 ∈ zm_all := zt 651 (by decide +kernel) (by decide +kernel)
theorem ul_Md_16 : u_lay R_Md F_Md 16 ∈ zm_all := zt 653 (by decide +kernel) (by decide +kernel)
theorem ul_Md_17 : u_lay R_Md F_Md 17 ∈ zm_all := zt 655 (by decide +kernel) (by decide +kernel)
theorem ul_Md_18 : u_lay R_Md F_Md 18 ∈ zm_all := zt 657 (by decide +kernel) (by decide +kernel)
theorem ul_Md_19 : u_lay R_Md F_Md 19 ∈ zm_all := zt 659 (by decide +kernel) (by decide +kernel)
theorem ul_Md_20 : u_lay R_Md F_Md 20 ∈ zm_all := zt 661 (by decide +kernel) (by decide +kernel)
theorem ul_Md_21 : u_lay R_Md F_Md 21 ∈ zm_all := zt 663 (by decide +kernel) (by decide +kernel)
theorem ul_Md_22 : u_lay R_Md F_Md 22 ∈ zm_all := zt 665 (by decide +kernel) (by decide +kernel)
theorem ul_Md_23 : u_lay R_Md F_Md 23 ∈ zm_all := zt 667 (by decide +kernel) (by decide +kernel)
theorem ul_Md_24 : u_lay R_Md F_Md 24 ∈ zm_all := zt 669 (by decide +kernel) (by decide +kernel)
theorem ul_Md_25 : u_lay R_Md F_Md 25 ∈ zm_all := zt 671 (by decide +kernel) (by decide +kernel)
theorem ul_Md_26 : u_lay R_Md F_Md 26 ∈ zm_all := zt 673 (by decide +kernel) (by decide +kernel)
theorem ul_Md_27 : u_lay R_Md F_Md 27 ∈ zm_all := zt 675 (by decide +kernel) (by decide +kernel)
theorem ul_Md_28 : u_lay R_Md F_Md 28 ∈ zm_all := zt 677 (by decide +kernel) (by decide +kernel)
theorem ul_Md_29 : u_lay R_Md F_Md 29 ∈ zm_all := zt 679 (by decide +kernel) (by decide +kernel)
theorem ul_Md_30 : u_lay R_Md F_Md 30 ∈ zm_all := zt 681 (by decide +kernel) (by decide +kernel)
theorem ul_Md_31 : u_lay R_Md F_Md 31 ∈ zm_all := zt 683 (by decide +kernel) (by decide +kernel)
theorem ul_Md_32 : u_lay R_Md F_Md 32 ∈ zm_all := zt 685 (by decide +kernel) (by decide +kernel)
theorem uin_Md : ∀ w ∈ u_ws R_Md F_Md 33, w ∈ zm_all := by
  intro w hw
  obtain ⟨k, hk, rfl⟩ := List.mem_map.mp hw
  have hk := List.mem_range.mp hk
  match k, hk with
  | 0, _ => exact ul_Md_0
  | 1, _ => exact ul_Md_1
  | 2, _ => exact ul_Md_2
  | 3, _ => exact ul_Md_3
  | 4, _ => exact ul_Md_4
  | 5, _ => exact ul_Md_5
  | 6, _ => exact ul_Md_6
  | 7, _ => exact ul_Md_7
  | 8, _ => exact ul_Md_8
  | 9, _ => exact ul_Md_9
  | 10, _ => exact ul_Md_10
  | 11, _ => exact ul_Md_11
  | 12, _ => exact ul_Md_12
  | 13, _ => exact ul_Md_13
  | 14, _ => exact ul_Md_14
  | 15, _ => exact ul_Md_15
  | 16, _ => exact ul_Md_16
  | 17, _ => exact ul_Md_17
  | 18, _ => exact ul_Md_18
  | 19, _ => exact ul_Md_19
  | 20, _ => exact ul_Md_20
  | 21, _ => exact ul_Md_21
  | 22, _ => exact ul_Md_22
  | 23, _ => exact ul_Md_23
  | 24, _ => exact ul_Md_24
  | 25, _ => exact ul_Md_25
  | 26, _ => exact ul_Md_26
  | 27, _ => exact ul_Md_27
  | 28, _ => exact ul_Md_28
  | 29, _ => exact ul_Md_29
  | 30, _ => exact ul_Md_30
  | 31, _ => exact ul_Md_31
  | 32, _ => exact ul_Md_32
  | k + 33, hk => exact absurd hk (by omega)
theorem tw_Md : zm_tw F_Md 33 t_Md := ⟨to_Md, n_Md⟩
theorem oi_CM_1 : Cond.methodLink R_CM 1 Lib.objectInit ∈ zm_all ∧ Cond.instanceMethod Lib.objectInit ∈ zm_all ∧ Cond.code Lib.objectInit ⟨#[0xb1]⟩ 1 none ∈ zm_all := ⟨(zt 17 (by decide +kernel) rfl), (zt 18 (by decide +kernel) rfl), zt 19 rfl rfl⟩
theorem nw_CM_7 : Cond.classLink R_CM 7 R_Tree ∈ zm_all ∧ Cond.instantiable R_Tree 5 ∈ zm_all ∧ Cond.initialized R_Tree ∈ zm_all := ⟨(zt 20 (by decide +kernel) rfl), (zt 21 (by decide +kernel) rfl), (zt 2 (by decide +kernel) rfl)⟩
theorem w_CM_9 : zm_cw R_CM 9 M_Tree_init 0 := ⟨(zt 24 (by decide +kernel) rfl), (zt 2 (by decide +kernel) rfl), ⟨by decide, by decide, by decide +kernel⟩, by decide, Or.inl (zt 22 (by decide +kernel) rfl)⟩
theorem w_CM_9k : Cond.instanceMethod M_Tree_init.1 ∈ zm_all := (zt 23 (by decide +kernel) rfl)
theorem f_CM_10 : zm_fw R_CM 10 0 0 R_CM F_CM 4 := ⟨rfl, by decide, uin_CM, Or.inl (zt 186 (by decide +kernel) rfl)⟩
theorem fl_CM_10 : Cond.fieldLink R_CM 10 (F_CM 0).1 (F_CM 0).2.1 (F_CM 0).2.2.1 ∈ zm_all := (zt 186 (by decide +kernel) rfl)
theorem nw_CM_16 : Cond.classLink R_CM 16 R_Ed ∈ zm_all ∧ Cond.instantiable R_Ed 10 ∈ zm_all ∧ Cond.initialized R_Ed ∈ zm_all := ⟨(zt 46 (by decide +kernel) rfl), (zt 47 (by decide +kernel) rfl), (zt 4 (by decide +kernel) rfl)⟩
theorem w_CM_18 : zm_cw R_CM 18 M_Ed_init 0 := ⟨(zt 50 (by decide +kernel) rfl), (zt 4 (by decide +kernel) rfl), ⟨by decide, by decide, by decide +kernel⟩, by decide, Or.inr ⟨_, ztn (w := Cond.methodLinkNest R_CM 18 y_Ed_init "CarouselMount") 48 (by decide +kernel)⟩⟩
theorem w_CM_18k : Cond.instanceMethod M_Ed_init.1 ∈ zm_all := (zt 49 (by decide +kernel) rfl)
theorem f_CM_19 : zm_fw R_CM 19 0 1 R_CM F_CM 4 := ⟨rfl, by decide, uin_CM, Or.inl (zt 187 (by decide +kernel) rfl)⟩
theorem fl_CM_19 : Cond.fieldLink R_CM 19 (F_CM 1).1 (F_CM 1).2.1 (F_CM 1).2.2.1 ∈ zm_all := (zt 187 (by decide +kernel) rfl)
theorem nw_CM_23 : Cond.classLink R_CM 23 R_Sn ∈ zm_all ∧ Cond.instantiable R_Sn 5 ∈ zm_all ∧ Cond.initialized R_Sn ∈ zm_all := ⟨(zt 91 (by decide +kernel) rfl), (zt 92 (by decide +kernel) rfl), (zt 5 (by decide +kernel) rfl)⟩
theorem w_CM_25 : zm_cw R_CM 25 M_Sn_init 0 := ⟨(zt 95 (by decide +kernel) rfl), (zt 5 (by decide +kernel) rfl), ⟨by decide, by decide, by decide +kernel⟩, by decide, Or.inr ⟨_, ztn (w := Cond.methodLinkNest R_CM 25 y_Sn_init "CarouselMount") 93 (by decide +kernel)⟩⟩
theorem w_CM_25k : Cond.instanceMethod M_Sn_init.1 ∈ zm_all := (zt 94 (by decide +kernel) rfl)
theorem f_CM_26 : zm_fw R_CM 26 0 2 R_CM F_CM 4 := ⟨rfl, by decide, uin_CM, Or.inl (zt 188 (by decide +kernel) rfl)⟩
theorem fl_CM_26 : Cond.fieldLink R_CM 26 (F_CM 2).1 (F_CM 2).2.1 (F_CM 2).2.2.1 ∈ zm_all := (zt 188 (by decide +kernel) rfl)
theorem nw_CM_30 : Cond.classLink R_CM 30 R_Rc ∈ zm_all ∧ Cond.instantiable R_Rc 5 ∈ zm_all ∧ Cond.initialized R_Rc ∈ zm_all := ⟨(zt 135 (by decide +kernel) rfl), (zt 136 (by decide +kernel) rfl), (zt 7 (by decide +kernel) rfl)⟩
theorem w_CM_32 : zm_cw R_CM 32 M_Rc_init 0 := ⟨(zt 139 (by decide +kernel) rfl), (zt 7 (by decide +kernel) rfl), ⟨by decide, by decide, by decide +kernel⟩, by decide, Or.inr ⟨_, ztn (w := Cond.methodLinkNest R_CM 32 y_Rc_init "CarouselMount") 137 (by decide +kernel)⟩⟩
theorem w_CM_32k : Cond.instanceMethod M_Rc_init.1 ∈ zm_all := (zt 138 (by decide +kernel) rfl)
theorem f_CM_33 : zm_fw R_CM 33 0 3 R_CM F_CM 4 := ⟨rfl, by decide, uin_CM, Or.inl (zt 189 (by decide +kernel) rfl)⟩
theorem fl_CM_33 : Cond.fieldLink R_CM 33 (F_CM 3).1 (F_CM 3).2.1 (F_CM 3).2.2.1 ∈ zm_all := (zt 189 (by decide +kernel) rfl)
theorem w_CM_37 : zm_cw R_CM 37 M_Tree_isDirectory 1 := ⟨(zt 206 (by decide +kernel) rfl), (zt 2 (by decide +kernel) rfl), ⟨by decide, by decide, by decide +kernel⟩, by decide, Or.inl (zt 203 (by decide +kernel) rfl)⟩
theorem w_CM_37k : Cond.instanceMethod M_Tree_isDirectory.1 ∈ zm_all ∧ Cond.selects M_Tree_isDirectory.1.cls M_Tree_isDirectory.1 M_Tree_isDirectory.1 ∈ zm_all := ⟨(zt 204 (by decide +kernel) rfl), (zt 205 (by decide +kernel) rfl)⟩
theorem w_CM_41 : zm_cw R_CM 41 M_Tree_hasEntry 2 := ⟨(zt 210 (by decide +kernel) rfl), (zt 2 (by decide +kernel) rfl), ⟨by decide, by decide, by decide +kernel⟩, by decide, Or.inl (zt 207 (by decide +kernel) rfl)⟩
theorem w_CM_41k : Cond.instanceMethod M_Tree_hasEntry.1 ∈ zm_all ∧ Cond.selects M_Tree_hasEntry.1.cls M_Tree_hasEntry.1 M_Tree_hasEntry.1 ∈ zm_all := ⟨(zt 208 (by decide +kernel) rfl), (zt 209 (by decide +kernel) rfl)⟩
theorem w_CM_45 : zm_cw R_CM 45 M_Tree_leastFreeKey 0 := ⟨(zt 214 (by decide +kernel) rfl), (zt 2 (by decide +kernel) rfl), ⟨by decide, by decide, by decide +kernel⟩, by decide, Or.inl (zt 211 (by decide +kernel) rfl)⟩
theorem w_CM_45k : Cond.instanceMethod M_Tree_leastFreeKey.1 ∈ zm_all ∧ Cond.selects M_Tree_leastFreeKey.1.cls M_Tree_leastFreeKey.1 M_Tree_leastFreeKey.1 ∈ zm_all := ⟨(zt 212 (by decide +kernel) rfl), (zt 213 (by decide +kernel) rfl)⟩
theorem w_CM_49 : zm_cw R_CM 49 M_Tree_put 4 := ⟨(zt 222 (by decide +kernel) rfl), (zt 2 (by decide +kernel) rfl), ⟨by decide, by decide, by decide +kernel⟩, by decide, Or.inl (zt 219 (by decide +kernel) rfl)⟩
theorem w_CM_49k : Cond.instanceMethod M_Tree_put.1 ∈ zm_all ∧ Cond.selects M_Tree_put.1.cls M_Tree_put.1 M_Tree_put.1 ∈ zm_all := ⟨(zt 220 (by decide +kernel) rfl), (zt 221 (by decide +kernel) rfl)⟩
theorem w_CM_53 : zm_cw R_CM 53 M_CM_isEntryKey 1 := ⟨(zt 229 (by decide +kernel) rfl), (zt 1 (by decide +kernel) rfl), ⟨by decide, by decide, by decide +kernel⟩, by decide, Or.inl (zt 227 (by decide +kernel) rfl)⟩
theorem w_CM_53k : Cond.static M_CM_isEntryKey.1 ∈ zm_all := (zt 228 (by decide +kernel) rfl)
theorem w_CM_56 : zm_cw R_CM 56 M_Tree_isThere 1 := ⟨(zt 218 (by decide +kernel) rfl), (zt 2 (by decide +kernel) rfl), ⟨by decide, by decide, by decide +kernel⟩, by decide, Or.inl (zt 230 (by decide +kernel) rfl)⟩
theorem w_CM_56k : Cond.instanceMethod M_Tree_isThere.1 ∈ zm_all ∧ Cond.selects M_Tree_isThere.1.cls M_Tree_isThere.1 M_Tree_isThere.1 ∈ zm_all := ⟨(zt 216 (by decide +kernel) rfl), (zt 217 (by decide +kernel) rfl)⟩
theorem w_CM_59 : zm_cw R_CM 59 M_Tree_entryCount 1 := ⟨(zt 234 (by decide +kernel) rfl), (zt 2 (by decide +kernel) rfl), ⟨by decide, by decide, by decide +kernel⟩, by decide, Or.inl (zt 231 (by decide +kernel) rfl)⟩
theorem w_CM_59k : Cond.instanceMethod M_Tree_entryCount.1 ∈ zm_all ∧ Cond.selects M_Tree_entryCount.1.cls M_Tree_entryCount.1 M_Tree_entryCount.1 ∈ zm_all := ⟨(zt 232 (by decide +kernel) rfl), (zt 233 (by decide +kernel) rfl)⟩
theorem w_CM_63 : zm_cw R_CM 63 M_Tree_take 1 := ⟨(zt 238 (by decide +kernel) rfl), (zt 2 (by decide +kernel) rfl), ⟨by decide, by decide, by decide +kernel⟩, by decide, Or.inl (zt 235 (by decide +kernel) rfl)⟩
theorem w_CM_63k : Cond.instanceMethod M_Tree_take.1 ∈ zm_all ∧ Cond.selects M_Tree_take.1.cls M_Tree_take.1 M_Tree_take.1 ∈ zm_all := ⟨(zt 236 (by decide +kernel) rfl), (zt 237 (by decide +kernel) rfl)⟩
theorem w_CM_67 : zm_cw R_CM 67 M_CM_isByte 1 := ⟨(zt 245 (by decide +kernel) rfl), (zt 1 (by decide +kernel) rfl), ⟨by decide, by decide, by decide +kernel⟩, by decide, Or.inl (zt 243 (by decide +kernel) rfl)⟩
theorem w_CM_67k : Cond.static M_CM_isByte.1 ∈ zm_all := (zt 244 (by decide +kernel) rfl)
theorem w_CM_70 : zm_cw R_CM 70 M_Tree_isFile 1 := ⟨(zt 249 (by decide +kernel) rfl), (zt 2 (by decide +kernel) rfl), ⟨by decide, by decide, by decide +kernel⟩, by decide, Or.inl (zt 246 (by decide +kernel) rfl)⟩
theorem w_CM_70k : Cond.instanceMethod M_Tree_isFile.1 ∈ zm_all ∧ Cond.selects M_Tree_isFile.1.cls M_Tree_isFile.1 M_Tree_isFile.1 ∈ zm_all := ⟨(zt 247 (by decide +kernel) rfl), (zt 248 (by decide +kernel) rfl)⟩
theorem w_CM_73 : zm_cw R_CM 73 M_Tree_fileLength 1 := ⟨(zt 253 (by decide +kernel) rfl), (zt 2 (by decide +kernel) rfl), ⟨by decide, by decide, by decide +kernel⟩, by decide, Or.inl (zt 250 (by decide +kernel) rfl)⟩
theorem w_CM_73k : Cond.instanceMethod M_Tree_fileLength.1 ∈ zm_all ∧ Cond.selects M_Tree_fileLength.1.cls M_Tree_fileLength.1 M_Tree_fileLength.1 ∈ zm_all := ⟨(zt 251 (by decide +kernel) rfl), (zt 252 (by decide +kernel) rfl)⟩
theorem w_CM_76 : zm_cw R_CM 76 M_Tree_addByte 2 := ⟨(zt 257 (by decide +kernel) rfl), (zt 2 (by decide +kernel) rfl), ⟨by decide, by decide, by decide +kernel⟩, by decide, Or.inl (zt 254 (by decide +kernel) rfl)⟩
theorem w_CM_76k : Cond.instanceMethod M_Tree_addByte.1 ∈ zm_all ∧ Cond.selects M_Tree_addByte.1.cls M_Tree_addByte.1 M_Tree_addByte.1 ∈ zm_all := ⟨(zt 255 (by decide +kernel) rfl), (zt 256 (by decide +kernel) rfl)⟩
theorem w_CM_80 : zm_cw R_CM 80 M_Tree_clearFile 1 := ⟨(zt 265 (by decide +kernel) rfl), (zt 2 (by decide +kernel) rfl), ⟨by decide, by decide, by decide +kernel⟩, by decide, Or.inl (zt 262 (by decide +kernel) rfl)⟩
theorem w_CM_80k : Cond.instanceMethod M_Tree_clearFile.1 ∈ zm_all ∧ Cond.selects M_Tree_clearFile.1.cls M_Tree_clearFile.1 M_Tree_clearFile.1 ∈ zm_all := ⟨(zt 263 (by decide +kernel) rfl), (zt 264 (by decide +kernel) rfl)⟩
theorem w_CM_83 : zm_cw R_CM 83 M_Ed_renew 1 := ⟨(zt 273 (by decide +kernel) rfl), (zt 4 (by decide +kernel) rfl), ⟨by decide, by decide, by decide +kernel⟩, by decide, Or.inl (zt 270 (by decide +kernel) rfl)⟩
theorem w_CM_83k : Cond.instanceMethod M_Ed_renew.1 ∈ zm_all ∧ Cond.selects M_Ed_renew.1.cls M_Ed_renew.1 M_Ed_renew.1 ∈ zm_all := ⟨(zt 271 (by decide +kernel) rfl), (zt 272 (by decide +kernel) rfl)⟩
theorem w_CM_87 : zm_cw R_CM 87 M_Sn_beginCycleOf 1 := ⟨(zt 345 (by decide +kernel) rfl), (zt 5 (by decide +kernel) rfl), ⟨by decide, by decide, by decide +kernel⟩, by decide, Or.inl (zt 342 (by decide +kernel) rfl)⟩
theorem w_CM_87k : Cond.instanceMethod M_Sn_beginCycleOf.1 ∈ zm_all ∧ Cond.selects M_Sn_beginCycleOf.1.cls M_Sn_beginCycleOf.1 M_Sn_beginCycleOf.1 ∈ zm_all := ⟨(zt 343 (by decide +kernel) rfl), (zt 344 (by decide +kernel) rfl)⟩
theorem f_CM_91 : zm_fw R_CM 91 2 0 R_Ed F_Ed 10 := ⟨rfl, by decide, uin_Ed, Or.inl (zt 54 (by decide +kernel) rfl)⟩
theorem fl_CM_91 : Cond.fieldLink R_CM 91 (F_Ed 0).1 (F_Ed 0).2.1 (F_Ed 0).2.2.1 ∈ zm_all := (zt 54 (by decide +kernel) rfl)
theorem f_CM_95 : zm_fw R_CM 95 2 1 R_Ed F_Ed 10 := ⟨rfl, by decide, uin_Ed, Or.inl (zt 57 (by decide +kernel) rfl)⟩
theorem fl_CM_95 : Cond.fieldLink R_CM 95 (F_Ed 1).1 (F_Ed 1).2.1 (F_Ed 1).2.2.1 ∈ zm_all := (zt 57 (by decide +kernel) rfl)
theorem k_CM_98 : Cond.constant R_CM 98 65536 ∈ zm_all := (zt 405 (by decide +kernel) rfl)
theorem f_CM_99 : zm_fw R_CM 99 2 3 R_Ed F_Ed 10 := ⟨rfl, by decide, uin_Ed, Or.inl (zt 63 (by decide +kernel) rfl)⟩
theorem fl_CM_99 : Cond.fieldLink R_CM 99 (F_Ed 3).1 (F_Ed 3).2.1 (F_Ed 3).2.2.1 ∈ zm_all := (zt 63 (by decide +kernel) rfl)
theorem f_CM_103 : zm_fw R_CM 103 2 2 R_Ed F_Ed 10 := ⟨rfl, by decide, uin_Ed, Or.inl (zt 60 (by decide +kernel) rfl)⟩
theorem fl_CM_103 : Cond.fieldLink R_CM 103 (F_Ed 2).1 (F_Ed 2).2.1 (F_Ed 2).2.2.1 ∈ zm_all := (zt 60 (by decide +kernel) rfl)
theorem w_CM_106 : zm_cw R_CM 106 M_Sn_isOnAir 0 := ⟨(zt 413 (by decide +kernel) rfl), (zt 5 (by decide +kernel) rfl), ⟨by decide, by decide, by decide +kernel⟩, by decide, Or.inl (zt 410 (by decide +kernel) rfl)⟩
theorem w_CM_106k : Cond.instanceMethod M_Sn_isOnAir.1 ∈ zm_all ∧ Cond.selects M_Sn_isOnAir.1.cls M_Sn_isOnAir.1 M_Sn_isOnAir.1 ∈ zm_all := ⟨(zt 411 (by decide +kernel) rfl), (zt 412 (by decide +kernel) rfl)⟩
theorem f_CM_110 : zm_fw R_CM 110 3 0 R_Sn F_Sn 5 := ⟨rfl, by decide, uin_Sn, Or.inl (zt 119 (by decide +kernel) rfl)⟩
theorem fl_CM_110 : Cond.fieldLink R_CM 110 (F_Sn 0).1 (F_Sn 0).2.1 (F_Sn 0).2.2.1 ∈ zm_all := (zt 119 (by decide +kernel) rfl)
theorem w_CM_113 : zm_cw R_CM 113 M_Rc_takePacket 1 := ⟨(zt 421 (by decide +kernel) rfl), (zt 7 (by decide +kernel) rfl), ⟨by decide, by decide, by decide +kernel⟩, by decide, Or.inl (zt 418 (by decide +kernel) rfl)⟩
theorem w_CM_113k : Cond.instanceMethod M_Rc_takePacket.1 ∈ zm_all ∧ Cond.selects M_Rc_takePacket.1.cls M_Rc_takePacket.1 M_Rc_takePacket.1 ∈ zm_all := ⟨(zt 419 (by decide +kernel) rfl), (zt 420 (by decide +kernel) rfl)⟩
theorem w_CM_117 : zm_cw R_CM 117 M_Sn_advance 0 := ⟨(zt 481 (by decide +kernel) rfl), (zt 5 (by decide +kernel) rfl), ⟨by decide, by decide, by decide +kernel⟩, by decide, Or.inl (zt 478 (by decide +kernel) rfl)⟩
theorem w_CM_117k : Cond.instanceMethod M_Sn_advance.1 ∈ zm_all ∧ Cond.selects M_Sn_advance.1.cls M_Sn_advance.1 M_Sn_advance.1 ∈ zm_all := ⟨(zt 479 (by decide +kernel) rfl), (zt 480 (by decide +kernel) rfl)⟩
theorem w_CM_120 : zm_cw R_CM 120 M_Rc_reset 0 := ⟨(zt 497 (by decide +kernel) rfl), (zt 7 (by decide +kernel) rfl), ⟨by decide, by decide, by decide +kernel⟩, by decide, Or.inl (zt 494 (by decide +kernel) rfl)⟩
theorem w_CM_120k : Cond.instanceMethod M_Rc_reset.1 ∈ zm_all ∧ Cond.selects M_Rc_reset.1.cls M_Rc_reset.1 M_Rc_reset.1 ∈ zm_all := ⟨(zt 495 (by decide +kernel) rfl), (zt 496 (by decide +kernel) rfl)⟩
theorem f_CM_123 : zm_fw R_CM 123 5 1 R_Rc F_Rc 5 := ⟨rfl, by decide, uin_Rc, Or.inl (zt 171 (by decide +kernel) rfl)⟩
theorem fl_CM_123 : Cond.fieldLink R_CM 123 (F_Rc 1).1 (F_Rc 1).2.1 (F_Rc 1).2.2.1 ∈ zm_all := (zt 171 (by decide +kernel) rfl)
theorem f_CM_126 : zm_fw R_CM 126 5 0 R_Rc F_Rc 5 := ⟨rfl, by decide, uin_Rc, Or.inl (zt 169 (by decide +kernel) rfl)⟩
theorem fl_CM_126 : Cond.fieldLink R_CM 126 (F_Rc 0).1 (F_Rc 0).2.1 (F_Rc 0).2.2.1 ∈ zm_all := (zt 169 (by decide +kernel) rfl)
theorem f_CM_130 : zm_fw R_CM 130 6 0 R_Mt F_Mt 6 := ⟨rfl, by decide, uin_Mt, Or.inl (zt 148 (by decide +kernel) rfl)⟩
theorem fl_CM_130 : Cond.fieldLink R_CM 130 (F_Mt 0).1 (F_Mt 0).2.1 (F_Mt 0).2.2.1 ∈ zm_all := (zt 148 (by decide +kernel) rfl)
theorem f_CM_136 : zm_fw R_CM 136 6 1 R_Mt F_Mt 6 := ⟨rfl, by decide, uin_Mt, Or.inl (zt 150 (by decide +kernel) rfl)⟩
theorem fl_CM_136 : Cond.fieldLink R_CM 136 (F_Mt 1).1 (F_Mt 1).2.1 (F_Mt 1).2.2.1 ∈ zm_all := (zt 150 (by decide +kernel) rfl)
theorem w_CM_139 : zm_cw R_CM 139 M_Mt_isListed 1 := ⟨(zt 470 (by decide +kernel) rfl), (zt 8 (by decide +kernel) rfl), ⟨by decide, by decide, by decide +kernel⟩, by decide, Or.inl (zt 515 (by decide +kernel) rfl)⟩
theorem w_CM_139k : Cond.instanceMethod M_Mt_isListed.1 ∈ zm_all ∧ Cond.selects M_Mt_isListed.1.cls M_Mt_isListed.1 M_Mt_isListed.1 ∈ zm_all := ⟨(zt 468 (by decide +kernel) rfl), (zt 469 (by decide +kernel) rfl)⟩
theorem w_CM_142 : zm_cw R_CM 142 M_Mt_blocksHeld 1 := ⟨(zt 519 (by decide +kernel) rfl), (zt 8 (by decide +kernel) rfl), ⟨by decide, by decide, by decide +kernel⟩, by decide, Or.inl (zt 516 (by decide +kernel) rfl)⟩
theorem w_CM_142k : Cond.instanceMethod M_Mt_blocksHeld.1 ∈ zm_all ∧ Cond.selects M_Mt_blocksHeld.1.cls M_Mt_blocksHeld.1 M_Mt_blocksHeld.1 ∈ zm_all := ⟨(zt 517 (by decide +kernel) rfl), (zt 518 (by decide +kernel) rfl)⟩
theorem w_CM_145 : zm_cw R_CM 145 M_CM_follow 3 := ⟨(zt 533 (by decide +kernel) rfl), (zt 1 (by decide +kernel) rfl), ⟨by decide, by decide, by decide +kernel⟩, by decide, Or.inl (zt 530 (by decide +kernel) rfl)⟩
theorem w_CM_145k : Cond.instanceMethod M_CM_follow.1 ∈ zm_all ∧ Cond.selects M_CM_follow.1.cls M_CM_follow.1 M_CM_follow.1 ∈ zm_all := ⟨(zt 532 (by decide +kernel) rfl), (zs (y := y_CM_follow) (n := 4) 25 (by decide +kernel))⟩
theorem w_CM_149 : zm_cw R_CM 149 M_Mt_kindAt 1 := ⟨(zt 554 (by decide +kernel) rfl), (zt 8 (by decide +kernel) rfl), ⟨by decide, by decide, by decide +kernel⟩, by decide, Or.inl (zt 567 (by decide +kernel) rfl)⟩
theorem w_CM_149k : Cond.instanceMethod M_Mt_kindAt.1 ∈ zm_all ∧ Cond.selects M_Mt_kindAt.1.cls M_Mt_kindAt.1 M_Mt_kindAt.1 ∈ zm_all := ⟨(zt 552 (by decide +kernel) rfl), (zt 553 (by decide +kernel) rfl)⟩
theorem w_CM_152 : zm_cw R_CM 152 M_Mt_lengthAt 1 := ⟨(zt 550 (by decide +kernel) rfl), (zt 8 (by decide +kernel) rfl), ⟨by decide, by decide, by decide +kernel⟩, by decide, Or.inl (zt 572 (by decide +kernel) rfl)⟩
theorem w_CM_152k : Cond.instanceMethod M_Mt_lengthAt.1 ∈ zm_all ∧ Cond.selects M_Mt_lengthAt.1.cls M_Mt_lengthAt.1 M_Mt_lengthAt.1 ∈ zm_all := ⟨(zt 548 (by decide +kernel) rfl), (zt 549 (by decide +kernel) rfl)⟩
theorem w_CM_155 : zm_cw R_CM 155 M_Mt_isDirectoryAt 1 := ⟨(zt 562 (by decide +kernel) rfl), (zt 8 (by decide +kernel) rfl), ⟨by decide, by decide, by decide +kernel⟩, by decide, Or.inl (zt 573 (by decide +kernel) rfl)⟩
theorem w_CM_155k : Cond.instanceMethod M_Mt_isDirectoryAt.1 ∈ zm_all ∧ Cond.selects M_Mt_isDirectoryAt.1.cls M_Mt_isDirectoryAt.1 M_Mt_isDirectoryAt.1 ∈ zm_all := ⟨(zt 560 (by decide +kernel) rfl), (zt 561 (by decide +kernel) rfl)⟩
theorem w_CM_158 : zm_cw R_CM 158 M_Mt_contentAt 2 := ⟨(zt 581 (by decide +kernel) rfl), (zt 8 (by decide +kernel) rfl), ⟨by decide, by decide, by decide +kernel⟩, by decide, Or.inl (zt 578 (by decide +kernel) rfl)⟩
theorem w_CM_158k : Cond.instanceMethod M_Mt_contentAt.1 ∈ zm_all ∧ Cond.selects M_Mt_contentAt.1.cls M_Mt_contentAt.1 M_Mt_contentAt.1 ∈ zm_all := ⟨(zt 579 (by decide +kernel) rfl), (zt 580 (by decide +kernel) rfl)⟩
theorem w_CM_161 : zm_cw R_CM 161 M_Mt_gateway 0 := ⟨(zt 537 (by decide +kernel) rfl), (zt 8 (by decide +kernel) rfl), ⟨by decide, by decide, by decide +kernel⟩, by decide, Or.inl (zt 534 (by decide +kernel) rfl)⟩
theorem w_CM_161k : Cond.instanceMethod M_Mt_gateway.1 ∈ zm_all ∧ Cond.selects M_Mt_gateway.1.cls M_Mt_gateway.1 M_Mt_gateway.1 ∈ zm_all := ⟨(zt 535 (by decide +kernel) rfl), (zt 536 (by decide +kernel) rfl)⟩
theorem w_CM_164 : zm_cw R_CM 164 M_Mt_enter 2 := ⟨(zt 558 (by decide +kernel) rfl), (zt 8 (by decide +kernel) rfl), ⟨by decide, by decide, by decide +kernel⟩, by decide, Or.inl (zt 555 (by decide +kernel) rfl)⟩
theorem w_CM_164k : Cond.instanceMethod M_Mt_enter.1 ∈ zm_all ∧ Cond.selects M_Mt_enter.1.cls M_Mt_enter.1 M_Mt_enter.1 ∈ zm_all := ⟨(zt 556 (by decide +kernel) rfl), (zt 557 (by decide +kernel) rfl)⟩
theorem k_CM_167 : Cond.constant R_CM 167 79764919 ∈ zm_all := (zt 373 (by decide +kernel) rfl)
theorem oi_Md_1 : Cond.methodLink R_Md 1 Lib.objectInit ∈ zm_all ∧ Cond.instanceMethod Lib.objectInit ∈ zm_all ∧ Cond.code Lib.objectInit ⟨#[0xb1]⟩ 1 none ∈ zm_all := ⟨(zt 587 (by decide +kernel) rfl), (zt 18 (by decide +kernel) rfl), zt 19 rfl rfl⟩
theorem f_Md_7 : zm_fw R_Md 7 7 0 R_Md F_Md 33 := ⟨rfl, by decide, uin_Md, Or.inl (zt 588 (by decide +kernel) rfl)⟩
theorem fl_Md_7 : Cond.fieldLink R_Md 7 (F_Md 0).1 (F_Md 0).2.1 (F_Md 0).2.2.1 ∈ zm_all := (zt 588 (by decide +kernel) rfl)
theorem f_Md_13 : zm_fw R_Md 13 7 1 R_Md F_Md 33 := ⟨rfl, by decide, uin_Md, Or.inl (zt 589 (by decide +kernel) rfl)⟩
theorem fl_Md_13 : Cond.fieldLink R_Md 13 (F_Md 1).1 (F_Md 1).2.1 (F_Md 1).2.2.1 ∈ zm_all := (zt 589 (by decide +kernel) rfl)
theorem f_Md_16 : zm_fw R_Md 16 7 2 R_Md F_Md 33 := ⟨rfl, by decide, uin_Md, Or.inl (zt 590 (by decide +kernel) rfl)⟩
theorem fl_Md_16 : Cond.fieldLink R_Md 16 (F_Md 2).1 (F_Md 2).2.1 (F_Md 2).2.2.1 ∈ zm_all := (zt 590 (by decide +kernel) rfl)
theorem f_Md_19 : zm_fw R_Md 19 7 3 R_Md F_Md 33 := ⟨rfl, by decide, uin_Md, Or.inl (zt 591 (by decide +kernel) rfl)⟩
theorem fl_Md_19 : Cond.fieldLink R_Md 19 (F_Md 3).1 (F_Md 3).2.1 (F_Md 3).2.2.1 ∈ zm_all := (zt 591 (by decide +kernel) rfl)
theorem f_Md_22 : zm_fw R_Md 22 7 4 R_Md F_Md 33 := ⟨rfl, by decide, uin_Md, Or.inl (zt 592 (by decide +kernel) rfl)⟩
theorem fl_Md_22 : Cond.fieldLink R_Md 22 (F_Md 4).1 (F_Md 4).2.1 (F_Md 4).2.2.1 ∈ zm_all := (zt 592 (by decide +kernel) rfl)
theorem f_Md_25 : zm_fw R_Md 25 7 7 R_Md F_Md 33 := ⟨rfl, by decide, uin_Md, Or.inl (zt 595 (by decide +kernel) rfl)⟩
theorem fl_Md_25 : Cond.fieldLink R_Md 25 (F_Md 7).1 (F_Md 7).2.1 (F_Md 7).2.2.1 ∈ zm_all := (zt 595 (by decide +kernel) rfl)
theorem f_Md_28 : zm_fw R_Md 28 7 8 R_Md F_Md 33 := ⟨rfl, by decide, uin_Md, Or.inl (zt 596 (by decide +kernel) rfl)⟩
theorem fl_Md_28 : Cond.fieldLink R_Md 28 (F_Md 8).1 (F_Md 8).2.1 (F_Md 8).2.2.1 ∈ zm_all := (zt 596 (by decide +kernel) rfl)
theorem f_Md_31 : zm_fw R_Md 31 7 9 R_Md F_Md 33 := ⟨rfl, by decide, uin_Md, Or.inl (zt 597 (by decide +kernel) rfl)⟩
theorem fl_Md_31 : Cond.fieldLink R_Md 31 (F_Md 9).1 (F_Md 9).2.1 (F_Md 9).2.2.1 ∈ zm_all := (zt 597 (by decide +kernel) rfl)
theorem f_Md_34 : zm_fw R_Md 34 7 11 R_Md F_Md 33 := ⟨rfl, by decide, uin_Md, Or.inl (zt 599 (by decide +kernel) rfl)⟩
theorem fl_Md_34 : Cond.fieldLink R_Md 34 (F_Md 11).1 (F_Md 11).2.1 (F_Md 11).2.2.1 ∈ zm_all := (zt 599 (by decide +kernel) rfl)
theorem f_Md_37 : zm_fw R_Md 37 7 12 R_Md F_Md 33 := ⟨rfl, by decide, uin_Md, Or.inl (zt 600 (by decide +kernel) rfl)⟩
theorem fl_Md_37 : Cond.fieldLink R_Md 37 (F_Md 12).1 (F_Md 12).2.1 (F_Md 12).2.2.1 ∈ zm_all := (zt 600 (by decide +kernel) rfl)
theorem f_Md_40 : zm_fw R_Md 40 7 13 R_Md F_Md 33 := ⟨rfl, by decide, uin_Md, Or.inl (zt 601 (by decide +kernel) rfl)⟩
theorem fl_Md_40 : Cond.fieldLink R_Md 40 (F_Md 13).1 (F_Md 13).2.1 (F_Md 13).2.2.1 ∈ zm_all := (zt 601 (by decide +kernel) rfl)
theorem f_Md_43 : zm_fw R_Md 43 7 14 R_Md F_Md 33 := ⟨rfl, by decide, uin_Md, Or.inl (zt 602 (by decide +kernel) rfl)⟩
theorem fl_Md_43 : Cond.fieldLink R_Md 43 (F_Md 14).1 (F_Md 14).2.1 (F_Md 14).2.2.1 ∈ zm_all := (zt 602 (by decide +kernel) rfl)
theorem f_Md_46 : zm_fw R_Md 46 7 15 R_Md F_Md 33 := ⟨rfl, by decide, uin_Md, Or.inl (zt 603 (by decide +kernel) rfl)⟩
theorem fl_Md_46 : Cond.fieldLink R_Md 46 (F_Md 15).1 (F_Md 15).2.1 (F_Md 15).2.2.1 ∈ zm_all := (zt 603 (by decide +kernel) rfl)
theorem f_Md_49 : zm_fw R_Md 49 7 16 R_Md F_Md 33 := ⟨rfl, by decide, uin_Md, Or.inl (zt 604 (by decide +kernel) rfl)⟩
theorem fl_Md_49 : Cond.fieldLink R_Md 49 (F_Md 16).1 (F_Md 16).2.1 (F_Md 16).2.2.1 ∈ zm_all := (zt 604 (by decide +kernel) rfl)
theorem f_Md_53 : zm_fw R_Md 53 7 21 R_Md F_Md 33 := ⟨rfl, by decide, uin_Md, Or.inl (zt 609 (by decide +kernel) rfl)⟩
theorem fl_Md_53 : Cond.fieldLink R_Md 53 (F_Md 21).1 (F_Md 21).2.1 (F_Md 21).2.2.1 ∈ zm_all := (zt 609 (by decide +kernel) rfl)
theorem f_Md_56 : zm_fw R_Md 56 7 22 R_Md F_Md 33 := ⟨rfl, by decide, uin_Md, Or.inl (zt 610 (by decide +kernel) rfl)⟩
theorem fl_Md_56 : Cond.fieldLink R_Md 56 (F_Md 22).1 (F_Md 22).2.1 (F_Md 22).2.2.1 ∈ zm_all := (zt 610 (by decide +kernel) rfl)
theorem f_Md_60 : zm_fw R_Md 60 7 23 R_Md F_Md 33 := ⟨rfl, by decide, uin_Md, Or.inl (zt 611 (by decide +kernel) rfl)⟩
theorem fl_Md_60 : Cond.fieldLink R_Md 60 (F_Md 23).1 (F_Md 23).2.1 (F_Md 23).2.2.1 ∈ zm_all := (zt 611 (by decide +kernel) rfl)
theorem f_Md_63 : zm_fw R_Md 63 7 24 R_Md F_Md 33 := ⟨rfl, by decide, uin_Md, Or.inl (zt 612 (by decide +kernel) rfl)⟩
theorem fl_Md_63 : Cond.fieldLink R_Md 63 (F_Md 24).1 (F_Md 24).2.1 (F_Md 24).2.2.1 ∈ zm_all := (zt 612 (by decide +kernel) rfl)
theorem f_Md_66 : zm_fw R_Md 66 7 25 R_Md F_Md 33 := ⟨rfl, by decide, uin_Md, Or.inl (zt 613 (by decide +kernel) rfl)⟩
theorem fl_Md_66 : Cond.fieldLink R_Md 66 (F_Md 25).1 (F_Md 25).2.1 (F_Md 25).2.2.1 ∈ zm_all := (zt 613 (by decide +kernel) rfl)
theorem f_Md_69 : zm_fw R_Md 69 7 26 R_Md F_Md 33 := ⟨rfl, by decide, uin_Md, Or.inl (zt 614 (by decide +kernel) rfl)⟩
theorem fl_Md_69 : Cond.fieldLink R_Md 69 (F_Md 26).1 (F_Md 26).2.1 (F_Md 26).2.2.1 ∈ zm_all := (zt 614 (by decide +kernel) rfl)
theorem f_Md_72 : zm_fw R_Md 72 7 27 R_Md F_Md 33 := ⟨rfl, by decide, uin_Md, Or.inl (zt 615 (by decide +kernel) rfl)⟩
theorem fl_Md_72 : Cond.fieldLink R_Md 72 (F_Md 27).1 (F_Md 27).2.1 (F_Md 27).2.2.1 ∈ zm_all := (zt 615 (by decide +kernel) rfl)
theorem f_Md_75 : zm_fw R_Md 75 7 28 R_Md F_Md 33 := ⟨rfl, by decide, uin_Md, Or.inl (zt 616 (by decide +kernel) rfl)⟩
theorem fl_Md_75 : Cond.fieldLink R_Md 75 (F_Md 28).1 (F_Md 28).2.1 (F_Md 28).2.2.1 ∈ zm_all := (zt 616 (by decide +kernel) rfl)
theorem f_Md_78 : zm_fw R_Md 78 7 31 R_Md F_Md 33 := ⟨rfl, by decide, uin_Md, Or.inl (zt 619 (by decide +kernel) rfl)⟩
theorem fl_Md_78 : Cond.fieldLink R_Md 78 (F_Md 31).1 (F_Md 31).2.1 (F_Md 31).2.2.1 ∈ zm_all := (zt 619 (by decide +kernel) rfl)
theorem f_Md_81 : zm_fw R_Md 81 7 32 R_Md F_Md 33 := ⟨rfl, by decide, uin_Md, Or.inl (zt 620 (by decide +kernel) rfl)⟩
theorem fl_Md_81 : Cond.fieldLink R_Md 81 (F_Md 32).1 (F_Md 32).2.1 (F_Md 32).2.2.1 ∈ zm_all := (zt 620 (by decide +kernel) rfl)
theorem w_Md_84 : zm_cw R_Md 84 M_Md_within 3 := ⟨(zt 695 (by decide +kernel) rfl), (zt 9 (by decide +kernel) rfl), ⟨by decide, by decide, by decide +kernel⟩, by decide, Or.inl (zt 693 (by decide +kernel) rfl)⟩
theorem w_Md_84k : Cond.static M_Md_within.1 ∈ zm_all := (zt 694 (by decide +kernel) rfl)
theorem w_Md_88 : zm_cw R_Md 88 M_Md_after 2 := ⟨(zt 699 (by decide +kernel) rfl), (zt 9 (by decide +kernel) rfl), ⟨by decide, by decide, by decide +kernel⟩, by decide, Or.inl (zt 696 (by decide +kernel) rfl)⟩
theorem w_Md_88k : Cond.instanceMethod M_Md_after.1 ∈ zm_all ∧ Cond.selects M_Md_after.1.cls M_Md_after.1 M_Md_after.1 ∈ zm_all := ⟨(zt 698 (by decide +kernel) rfl), (zs (y := y_Md_after) (n := 33) 29 (by decide +kernel))⟩
theorem w_Md_92 : zm_cw R_Md 92 M_Md_put 2 := ⟨(zt 735 (by decide +kernel) rfl), (zt 9 (by decide +kernel) rfl), ⟨by decide, by decide, by decide +kernel⟩, by decide, Or.inl (zt 732 (by decide +kernel) rfl)⟩
theorem w_Md_92k : Cond.instanceMethod M_Md_put.1 ∈ zm_all ∧ Cond.selects M_Md_put.1.cls M_Md_put.1 M_Md_put.1 ∈ zm_all := ⟨(zt 734 (by decide +kernel) rfl), (zs (y := y_Md_put) (n := 33) 34 (by decide +kernel))⟩
theorem w_Md_96 : zm_cw R_Md 96 M_Md_payload 1 := ⟨(zt 723 (by decide +kernel) rfl), (zt 9 (by decide +kernel) rfl), ⟨by decide, by decide, by decide +kernel⟩, by decide, Or.inl (zt 720 (by decide +kernel) rfl)⟩
theorem w_Md_96k : Cond.instanceMethod M_Md_payload.1 ∈ zm_all ∧ Cond.selects M_Md_payload.1.cls M_Md_payload.1 M_Md_payload.1 ∈ zm_all := ⟨(zt 722 (by decide +kernel) rfl), (zs (y := y_Md_payload) (n := 33) 31 (by decide +kernel))⟩
theorem f_Md_100 : zm_fw R_Md 100 7 6 R_Md F_Md 33 := ⟨rfl, by decide, uin_Md, Or.inl (zt 594 (by decide +kernel) rfl)⟩
theorem fl_Md_100 : Cond.fieldLink R_Md 100 (F_Md 6).1 (F_Md 6).2.1 (F_Md 6).2.2.1 ∈ zm_all := (zt 594 (by decide +kernel) rfl)
theorem f_Md_103 : zm_fw R_Md 103 7 10 R_Md F_Md 33 := ⟨rfl, by decide, uin_Md, Or.inl (zt 598 (by decide +kernel) rfl)⟩
theorem fl_Md_103 : Cond.fieldLink R_Md 103 (F_Md 10).1 (F_Md 10).2.1 (F_Md 10).2.2.1 ∈ zm_all := (zt 598 (by decide +kernel) rfl)
theorem w_Md_106 : zm_cw R_Md 106 M_Md_keepOld 0 := ⟨(zt 719 (by decide +kernel) rfl), (zt 9 (by decide +kernel) rfl), ⟨by decide, by decide, by decide +kernel⟩, by decide, Or.inl (zt 716 (by decide +kernel) rfl)⟩
theorem w_Md_106k : Cond.instanceMethod M_Md_keepOld.1 ∈ zm_all ∧ Cond.selects M_Md_keepOld.1.cls M_Md_keepOld.1 M_Md_keepOld.1 ∈ zm_all := ⟨(zt 718 (by decide +kernel) rfl), (zs (y := y_Md_keepOld) (n := 33) 30 (by decide +kernel))⟩
theorem f_Md_109 : zm_fw R_Md 109 7 5 R_Md F_Md 33 := ⟨rfl, by decide, uin_Md, Or.inl (zt 593 (by decide +kernel) rfl)⟩
theorem fl_Md_109 : Cond.fieldLink R_Md 109 (F_Md 5).1 (F_Md 5).2.1 (F_Md 5).2.2.1 ∈ zm_all := (zt 593 (by decide +kernel) rfl)
theorem w_Md_112 : zm_cw R_Md 112 M_Md_next 1 := ⟨(zt 727 (by decide +kernel) rfl), (zt 9 (by decide +kernel) rfl), ⟨by decide, by decide, by decide +kernel⟩, by decide, Or.inl (zt 724 (by decide +kernel) rfl)⟩
theorem w_Md_112k : Cond.instanceMethod M_Md_next.1 ∈ zm_all ∧ Cond.selects M_Md_next.1.cls M_Md_next.1 M_Md_next.1 ∈ zm_all := ⟨(zt 726 (by decide +kernel) rfl), (zs (y := y_Md_next) (n := 33) 32 (by decide +kernel))⟩
theorem w_Md_115 : zm_cw R_Md 115 M_Md_message 1 := ⟨(zt 731 (by decide +kernel) rfl), (zt 9 (by decide +kernel) rfl), ⟨by decide, by decide, by decide +kernel⟩, by decide, Or.inl (zt 728 (by decide +kernel) rfl)⟩
theorem w_Md_115k : Cond.instanceMethod M_Md_message.1 ∈ zm_all ∧ Cond.selects M_Md_message.1.cls M_Md_message.1 M_Md_message.1 ∈ zm_all := ⟨(zt 730 (by decide +kernel) rfl), (zs (y := y_Md_message) (n := 33) 33 (by decide +kernel))⟩
theorem w_Md_119 : zm_cw R_Md 119 M_Md_unchanged 1 := ⟨(zt 739 (by decide +kernel) rfl), (zt 9 (by decide +kernel) rfl), ⟨by decide, by decide, by decide +kernel⟩, by decide, Or.inl (zt 736 (by decide +kernel) rfl)⟩
theorem w_Md_119k : Cond.instanceMethod M_Md_unchanged.1 ∈ zm_all ∧ Cond.selects M_Md_unchanged.1.cls M_Md_unchanged.1 M_Md_unchanged.1 ∈ zm_all := ⟨(zt 738 (by decide +kernel) rfl), (zs (y := y_Md_unchanged) (n := 33) 35 (by decide +kernel))⟩
theorem w_Md_123 : zm_cw R_Md 123 M_Md_writeCycle 0 := ⟨(zt 743 (by decide +kernel) rfl), (zt 9 (by decide +kernel) rfl), ⟨by decide, by decide, by decide +kernel⟩, by decide, Or.inl (zt 740 (by decide +kernel) rfl)⟩
theorem w_Md_123k : Cond.instanceMethod M_Md_writeCycle.1 ∈ zm_all ∧ Cond.selects M_Md_writeCycle.1.cls M_Md_writeCycle.1 M_Md_writeCycle.1 ∈ zm_all := ⟨(zt 742 (by decide +kernel) rfl), (zs (y := y_Md_writeCycle) (n := 33) 36 (by decide +kernel))⟩
theorem f_Md_126 : zm_fw R_Md 126 7 19 R_Md F_Md 33 := ⟨rfl, by decide, uin_Md, Or.inl (zt 607 (by decide +kernel) rfl)⟩
theorem fl_Md_126 : Cond.fieldLink R_Md 126 (F_Md 19).1 (F_Md 19).2.1 (F_Md 19).2.2.1 ∈ zm_all := (zt 607 (by decide +kernel) rfl)
theorem k_Md_129 : Cond.constant R_Md 129 79764919 ∈ zm_all := (zt 751 (by decide +kernel) rfl)
theorem f_Md_130 : zm_fw R_Md 130 7 17 R_Md F_Md 33 := ⟨rfl, by decide, uin_Md, Or.inl (zt 605 (by decide +kernel) rfl)⟩
theorem fl_Md_130 : Cond.fieldLink R_Md 130 (F_Md 17).1 (F_Md 17).2.1 (F_Md 17).2.2.1 ∈ zm_all := (zt 605 (by decide +kernel) rfl)
theorem f_Md_133 : zm_fw R_Md 133 7 18 R_Md F_Md 33 := ⟨rfl, by decide, uin_Md, Or.inl (zt 606 (by decide +kernel) rfl)⟩
theorem fl_Md_133 : Cond.fieldLink R_Md 133 (F_Md 18).1 (F_Md 18).2.1 (F_Md 18).2.2.1 ∈ zm_all := (zt 606 (by decide +kernel) rfl)
theorem w_Md_136 : zm_cw R_Md 136 M_Md_mixed 2 := ⟨(zt 750 (by decide +kernel) rfl), (zt 9 (by decide +kernel) rfl), ⟨by decide, by decide, by decide +kernel⟩, by decide, Or.inl (zt 748 (by decide +kernel) rfl)⟩
theorem w_Md_136k : Cond.static M_Md_mixed.1 ∈ zm_all := (zt 749 (by decide +kernel) rfl)
theorem w_Md_139 : zm_cw R_Md 139 M_Md_emit 1 := ⟨(zt 747 (by decide +kernel) rfl), (zt 9 (by decide +kernel) rfl), ⟨by decide, by decide, by decide +kernel⟩, by decide, Or.inl (zt 744 (by decide +kernel) rfl)⟩
theorem w_Md_139k : Cond.instanceMethod M_Md_emit.1 ∈ zm_all ∧ Cond.selects M_Md_emit.1.cls M_Md_emit.1 M_Md_emit.1 ∈ zm_all := ⟨(zt 746 (by decide +kernel) rfl), (zs (y := y_Md_emit) (n := 33) 37 (by decide +kernel))⟩
theorem w_Md_142 : zm_cw R_Md 142 M_Md_emitPair 1 := ⟨(zt 755 (by decide +kernel) rfl), (zt 9 (by decide +kernel) rfl), ⟨by decide, by decide, by decide +kernel⟩, by decide, Or.inl (zt 752 (by decide +kernel) rfl)⟩
theorem w_Md_142k : Cond.instanceMethod M_Md_emitPair.1 ∈ zm_all ∧ Cond.selects M_Md_emitPair.1.cls M_Md_emitPair.1 M_Md_emitPair.1 ∈ zm_all := ⟨(zt 754 (by decide +kernel) rfl), (zs (y := y_Md_emitPair) (n := 33) 38 (by decide +kernel))⟩
theorem w_Md_145 : zm_cw R_Md 145 M_Md_emitCheck 0 := ⟨(zt 759 (by decide +kernel) rfl), (zt 9 (by decide +kernel) rfl), ⟨by decide, by decide, by decide +kernel⟩, by decide, Or.inl (zt 756 (by decide +kernel) rfl)⟩
theorem w_Md_145k : Cond.instanceMethod M_Md_emitCheck.1 ∈ zm_all ∧ Cond.selects M_Md_emitCheck.1.cls M_Md_emitCheck.1 M_Md_emitCheck.1 ∈ zm_all := ⟨(zt 758 (by decide +kernel) rfl), (zs (y := y_Md_emitCheck) (n := 33) 39 (by decide +kernel))⟩
theorem k_Md_148 : Cond.constant R_Md 148 65536 ∈ zm_all := (zt 768 (by decide +kernel) rfl)
theorem w_Md_149 : zm_cw R_Md 149 M_Md_rest 0 := ⟨(zt 780 (by decide +kernel) rfl), (zt 9 (by decide +kernel) rfl), ⟨by decide, by decide, by decide +kernel⟩, by decide, Or.inl (zt 777 (by decide +kernel) rfl)⟩
theorem w_Md_149k : Cond.instanceMethod M_Md_rest.1 ∈ zm_all ∧ Cond.selects M_Md_rest.1.cls M_Md_rest.1 M_Md_rest.1 ∈ zm_all := ⟨(zt 779 (by decide +kernel) rfl), (zs (y := y_Md_rest) (n := 33) 41 (by decide +kernel))⟩
theorem f_Md_153 : zm_fw R_Md 153 7 20 R_Md F_Md 33 := ⟨rfl, by decide, uin_Md, Or.inl (zt 608 (by decide +kernel) rfl)⟩
theorem fl_Md_153 : Cond.fieldLink R_Md 153 (F_Md 20).1 (F_Md 20).2.1 (F_Md 20).2.2.1 ∈ zm_all := (zt 608 (by decide +kernel) rfl)
theorem w_Md_156 : zm_cw R_Md 156 M_Md_build 0 := ⟨(zt 776 (by decide +kernel) rfl), (zt 9 (by decide +kernel) rfl), ⟨by decide, by decide, by decide +kernel⟩, by decide, Or.inl (zt 773 (by decide +kernel) rfl)⟩
theorem w_Md_156k : Cond.instanceMethod M_Md_build.1 ∈ zm_all ∧ Cond.selects M_Md_build.1.cls M_Md_build.1 M_Md_build.1 ∈ zm_all := ⟨(zt 775 (by decide +kernel) rfl), (zs (y := y_Md_build) (n := 33) 40 (by decide +kernel))⟩
theorem w_Md_159 : zm_cw R_Md 159 M_Md_sent 0 := ⟨(zt 792 (by decide +kernel) rfl), (zt 9 (by decide +kernel) rfl), ⟨by decide, by decide, by decide +kernel⟩, by decide, Or.inl (zt 789 (by decide +kernel) rfl)⟩
theorem w_Md_159k : Cond.instanceMethod M_Md_sent.1 ∈ zm_all ∧ Cond.selects M_Md_sent.1.cls M_Md_sent.1 M_Md_sent.1 ∈ zm_all := ⟨(zt 791 (by decide +kernel) rfl), (zs (y := y_Md_sent) (n := 33) 43 (by decide +kernel))⟩
theorem w_Md_162 : zm_cw R_Md 162 M_Md_receive 0 := ⟨(zt 796 (by decide +kernel) rfl), (zt 9 (by decide +kernel) rfl), ⟨by decide, by decide, by decide +kernel⟩, by decide, Or.inl (zt 793 (by decide +kernel) rfl)⟩
theorem w_Md_162k : Cond.instanceMethod M_Md_receive.1 ∈ zm_all ∧ Cond.selects M_Md_receive.1.cls M_Md_receive.1 M_Md_receive.1 ∈ zm_all := ⟨(zt 795 (by decide +kernel) rfl), (zs (y := y_Md_receive) (n := 33) 44 (by decide +kernel))⟩
theorem w_Md_165 : zm_cw R_Md 165 M_Md_pass 2 := ⟨(zt 788 (by decide +kernel) rfl), (zt 9 (by decide +kernel) rfl), ⟨by decide, by decide, by decide +kernel⟩, by decide, Or.inl (zt 785 (by decide +kernel) rfl)⟩
theorem w_Md_165k : Cond.instanceMethod M_Md_pass.1 ∈ zm_all ∧ Cond.selects M_Md_pass.1.cls M_Md_pass.1 M_Md_pass.1 ∈ zm_all := ⟨(zt 787 (by decide +kernel) rfl), (zs (y := y_Md_pass) (n := 33) 42 (by decide +kernel))⟩
theorem f_Md_169 : zm_fw R_Md 169 7 29 R_Md F_Md 33 := ⟨rfl, by decide, uin_Md, Or.inl (zt 617 (by decide +kernel) rfl)⟩
theorem fl_Md_169 : Cond.fieldLink R_Md 169 (F_Md 29).1 (F_Md 29).2.1 (F_Md 29).2.2.1 ∈ zm_all := (zt 617 (by decide +kernel) rfl)
theorem w_Md_173 : zm_cw R_Md 173 M_Md_nothing 1 := ⟨(zt 832 (by decide +kernel) rfl), (zt 9 (by decide +kernel) rfl), ⟨by decide, by decide, by decide +kernel⟩, by decide, Or.inl (zt 829 (by decide +kernel) rfl)⟩
theorem w_Md_173k : Cond.instanceMethod M_Md_nothing.1 ∈ zm_all ∧ Cond.selects M_Md_nothing.1.cls M_Md_nothing.1 M_Md_nothing.1 ∈ zm_all := ⟨(zt 831 (by decide +kernel) rfl), (zs (y := y_Md_nothing) (n := 33) 53 (by decide +kernel))⟩
theorem w_Md_176 : zm_cw R_Md 176 M_Md_throwAway 0 := ⟨(zt 800 (by decide +kernel) rfl), (zt 9 (by decide +kernel) rfl), ⟨by decide, by decide, by decide +kernel⟩, by decide, Or.inl (zt 797 (by decide +kernel) rfl)⟩
theorem w_Md_176k : Cond.instanceMethod M_Md_throwAway.1 ∈ zm_all ∧ Cond.selects M_Md_throwAway.1.cls M_Md_throwAway.1 M_Md_throwAway.1 ∈ zm_all := ⟨(zt 799 (by decide +kernel) rfl), (zs (y := y_Md_throwAway) (n := 33) 45 (by decide +kernel))⟩
theorem w_Md_179 : zm_cw R_Md 179 M_Md_more 2 := ⟨(zt 804 (by decide +kernel) rfl), (zt 9 (by decide +kernel) rfl), ⟨by decide, by decide, by decide +kernel⟩, by decide, Or.inl (zt 801 (by decide +kernel) rfl)⟩
theorem w_Md_179k : Cond.instanceMethod M_Md_more.1 ∈ zm_all ∧ Cond.selects M_Md_more.1.cls M_Md_more.1 M_Md_more.1 ∈ zm_all := ⟨(zt 803 (by decide +kernel) rfl), (zs (y := y_Md_more) (n := 33) 46 (by decide +kernel))⟩
theorem f_Md_182 : zm_fw R_Md 182 7 30 R_Md F_Md 33 := ⟨rfl, by decide, uin_Md, Or.inl (zt 618 (by decide +kernel) rfl)⟩
theorem fl_Md_182 : Cond.fieldLink R_Md 182 (F_Md 30).1 (F_Md 30).2.1 (F_Md 30).2.2.1 ∈ zm_all := (zt 618 (by decide +kernel) rfl)
theorem w_Md_185 : zm_cw R_Md 185 M_Md_take 1 := ⟨(zt 808 (by decide +kernel) rfl), (zt 9 (by decide +kernel) rfl), ⟨by decide, by decide, by decide +kernel⟩, by decide, Or.inl (zt 805 (by decide +kernel) rfl)⟩
theorem w_Md_185k : Cond.instanceMethod M_Md_take.1 ∈ zm_all ∧ Cond.selects M_Md_take.1.cls M_Md_take.1 M_Md_take.1 ∈ zm_all := ⟨(zt 807 (by decide +kernel) rfl), (zs (y := y_Md_take) (n := 33) 47 (by decide +kernel))⟩
theorem w_Md_188 : zm_cw R_Md 188 M_Md_look 0 := ⟨(zt 812 (by decide +kernel) rfl), (zt 9 (by decide +kernel) rfl), ⟨by decide, by decide, by decide +kernel⟩, by decide, Or.inl (zt 809 (by decide +kernel) rfl)⟩
theorem w_Md_188k : Cond.instanceMethod M_Md_look.1 ∈ zm_all ∧ Cond.selects M_Md_look.1.cls M_Md_look.1 M_Md_look.1 ∈ zm_all := ⟨(zt 811 (by decide +kernel) rfl), (zs (y := y_Md_look) (n := 33) 48 (by decide +kernel))⟩
theorem w_Md_191 : zm_cw R_Md 191 M_Md_checks 0 := ⟨(zt 816 (by decide +kernel) rfl), (zt 9 (by decide +kernel) rfl), ⟨by decide, by decide, by decide +kernel⟩, by decide, Or.inl (zt 813 (by decide +kernel) rfl)⟩
theorem w_Md_191k : Cond.instanceMethod M_Md_checks.1 ∈ zm_all ∧ Cond.selects M_Md_checks.1.cls M_Md_checks.1 M_Md_checks.1 ∈ zm_all := ⟨(zt 815 (by decide +kernel) rfl), (zs (y := y_Md_checks) (n := 33) 49 (by decide +kernel))⟩
theorem w_Md_195 : zm_cw R_Md 195 M_Md_isList 0 := ⟨(zt 820 (by decide +kernel) rfl), (zt 9 (by decide +kernel) rfl), ⟨by decide, by decide, by decide +kernel⟩, by decide, Or.inl (zt 817 (by decide +kernel) rfl)⟩
theorem w_Md_195k : Cond.instanceMethod M_Md_isList.1 ∈ zm_all ∧ Cond.selects M_Md_isList.1.cls M_Md_isList.1 M_Md_isList.1 ∈ zm_all := ⟨(zt 819 (by decide +kernel) rfl), (zs (y := y_Md_isList) (n := 33) 50 (by decide +kernel))⟩
theorem w_Md_198 : zm_cw R_Md 198 M_Md_list 0 := ⟨(zt 824 (by decide +kernel) rfl), (zt 9 (by decide +kernel) rfl), ⟨by decide, by decide, by decide +kernel⟩, by decide, Or.inl (zt 821 (by decide +kernel) rfl)⟩
theorem w_Md_198k : Cond.instanceMethod M_Md_list.1 ∈ zm_all ∧ Cond.selects M_Md_list.1.cls M_Md_list.1 M_Md_list.1 ∈ zm_all := ⟨(zt 823 (by decide +kernel) rfl), (zs (y := y_Md_list) (n := 33) 51 (by decide +kernel))⟩
theorem w_Md_201 : zm_cw R_Md 201 M_Md_fits 0 := ⟨(zt 836 (by decide +kernel) rfl), (zt 9 (by decide +kernel) rfl), ⟨by decide, by decide, by decide +kernel⟩, by decide, Or.inl (zt 833 (by decide +kernel) rfl)⟩
theorem w_Md_201k : Cond.instanceMethod M_Md_fits.1 ∈ zm_all ∧ Cond.selects M_Md_fits.1.cls M_Md_fits.1 M_Md_fits.1 ∈ zm_all := ⟨(zt 835 (by decide +kernel) rfl), (zs (y := y_Md_fits) (n := 33) 54 (by decide +kernel))⟩
theorem w_Md_204 : zm_cw R_Md 204 M_Md_block 0 := ⟨(zt 840 (by decide +kernel) rfl), (zt 9 (by decide +kernel) rfl), ⟨by decide, by decide, by decide +kernel⟩, by decide, Or.inl (zt 837 (by decide +kernel) rfl)⟩
theorem w_Md_204k : Cond.instanceMethod M_Md_block.1 ∈ zm_all ∧ Cond.selects M_Md_block.1.cls M_Md_block.1 M_Md_block.1 ∈ zm_all := ⟨(zt 839 (by decide +kernel) rfl), (zs (y := y_Md_block) (n := 33) 55 (by decide +kernel))⟩
theorem w_Md_207 : zm_cw R_Md 207 M_Md_pair 1 := ⟨(zt 828 (by decide +kernel) rfl), (zt 9 (by decide +kernel) rfl), ⟨by decide, by decide, by decide +kernel⟩, by decide, Or.inl (zt 825 (by decide +kernel) rfl)⟩
theorem w_Md_207k : Cond.instanceMethod M_Md_pair.1 ∈ zm_all ∧ Cond.selects M_Md_pair.1.cls M_Md_pair.1 M_Md_pair.1 ∈ zm_all := ⟨(zt 827 (by decide +kernel) rfl), (zs (y := y_Md_pair) (n := 33) 52 (by decide +kernel))⟩
theorem w_Md_210 : zm_cw R_Md 210 M_Md_heldOf 1 := ⟨(zt 868 (by decide +kernel) rfl), (zt 9 (by decide +kernel) rfl), ⟨by decide, by decide, by decide +kernel⟩, by decide, Or.inl (zt 865 (by decide +kernel) rfl)⟩
theorem w_Md_210k : Cond.instanceMethod M_Md_heldOf.1 ∈ zm_all ∧ Cond.selects M_Md_heldOf.1.cls M_Md_heldOf.1 M_Md_heldOf.1 ∈ zm_all := ⟨(zt 867 (by decide +kernel) rfl), (zs (y := y_Md_heldOf) (n := 33) 56 (by decide +kernel))⟩
theorem w_Md_213 : zm_cw R_Md 213 M_Md_stands 2 := ⟨(zt 892 (by decide +kernel) rfl), (zt 9 (by decide +kernel) rfl), ⟨by decide, by decide, by decide +kernel⟩, by decide, Or.inl (zt 889 (by decide +kernel) rfl)⟩
theorem w_Md_213k : Cond.instanceMethod M_Md_stands.1 ∈ zm_all ∧ Cond.selects M_Md_stands.1.cls M_Md_stands.1 M_Md_stands.1 ∈ zm_all := ⟨(zt 891 (by decide +kernel) rfl), (zs (y := y_Md_stands) (n := 33) 61 (by decide +kernel))⟩
theorem w_Md_217 : zm_cw R_Md 217 M_Md_ready 1 := ⟨(zt 884 (by decide +kernel) rfl), (zt 9 (by decide +kernel) rfl), ⟨by decide, by decide, by decide +kernel⟩, by decide, Or.inl (zt 881 (by decide +kernel) rfl)⟩
theorem w_Md_217k : Cond.instanceMethod M_Md_ready.1 ∈ zm_all ∧ Cond.selects M_Md_ready.1.cls M_Md_ready.1 M_Md_ready.1 ∈ zm_all := ⟨(zt 883 (by decide +kernel) rfl), (zs (y := y_Md_ready) (n := 33) 59 (by decide +kernel))⟩
theorem w_Md_220 : zm_cw R_Md 220 M_Md_first 2 := ⟨(zt 888 (by decide +kernel) rfl), (zt 9 (by decide +kernel) rfl), ⟨by decide, by decide, by decide +kernel⟩, by decide, Or.inl (zt 885 (by decide +kernel) rfl)⟩
theorem w_Md_220k : Cond.instanceMethod M_Md_first.1 ∈ zm_all ∧ Cond.selects M_Md_first.1.cls M_Md_first.1 M_Md_first.1 ∈ zm_all := ⟨(zt 887 (by decide +kernel) rfl), (zs (y := y_Md_first) (n := 33) 60 (by decide +kernel))⟩
theorem w_Md_223 : zm_cw R_Md 223 M_Md_gateway 0 := ⟨(zt 880 (by decide +kernel) rfl), (zt 9 (by decide +kernel) rfl), ⟨by decide, by decide, by decide +kernel⟩, by decide, Or.inl (zt 877 (by decide +kernel) rfl)⟩
theorem w_Md_223k : Cond.instanceMethod M_Md_gateway.1 ∈ zm_all ∧ Cond.selects M_Md_gateway.1.cls M_Md_gateway.1 M_Md_gateway.1 ∈ zm_all := ⟨(zt 879 (by decide +kernel) rfl), (zs (y := y_Md_gateway) (n := 33) 58 (by decide +kernel))⟩
theorem w_Md_226 : zm_cw R_Md 226 M_Md_enter 2 := ⟨(zt 896 (by decide +kernel) rfl), (zt 9 (by decide +kernel) rfl), ⟨by decide, by decide, by decide +kernel⟩, by decide, Or.inl (zt 893 (by decide +kernel) rfl)⟩
theorem w_Md_226k : Cond.instanceMethod M_Md_enter.1 ∈ zm_all ∧ Cond.selects M_Md_enter.1.cls M_Md_enter.1 M_Md_enter.1 ∈ zm_all := ⟨(zt 895 (by decide +kernel) rfl), (zs (y := y_Md_enter) (n := 33) 62 (by decide +kernel))⟩
theorem w_Md_229 : zm_cw R_Md 229 M_Md_follow 3 := ⟨(zt 876 (by decide +kernel) rfl), (zt 9 (by decide +kernel) rfl), ⟨by decide, by decide, by decide +kernel⟩, by decide, Or.inl (zt 873 (by decide +kernel) rfl)⟩
theorem w_Md_229k : Cond.instanceMethod M_Md_follow.1 ∈ zm_all ∧ Cond.selects M_Md_follow.1.cls M_Md_follow.1 M_Md_follow.1 ∈ zm_all := ⟨(zt 875 (by decide +kernel) rfl), (zs (y := y_Md_follow) (n := 33) 57 (by decide +kernel))⟩
theorem oi_Cy_3 : Cond.methodLink R_Cy 3 Lib.objectInit ∈ zm_all ∧ Cond.instanceMethod Lib.objectInit ∈ zm_all ∧ Cond.code Lib.objectInit ⟨#[0xb1]⟩ 1 none ∈ zm_all := ⟨(zt 102 (by decide +kernel) rfl), (zt 18 (by decide +kernel) rfl), zt 19 rfl rfl⟩
theorem f_Cy_11 : zm_fw R_Cy 11 4 0 R_Cy F_Cy 4 := ⟨rfl, by decide, uin_Cy, Or.inl (zt 103 (by decide +kernel) rfl)⟩
theorem fl_Cy_11 : Cond.fieldLink R_Cy 11 (F_Cy 0).1 (F_Cy 0).2.1 (F_Cy 0).2.2.1 ∈ zm_all := (zt 103 (by decide +kernel) rfl)
theorem f_Cy_15 : zm_fw R_Cy 15 4 1 R_Cy F_Cy 4 := ⟨rfl, by decide, uin_Cy, Or.inl (zt 105 (by decide +kernel) rfl)⟩
theorem fl_Cy_15 : Cond.fieldLink R_Cy 15 (F_Cy 1).1 (F_Cy 1).2.1 (F_Cy 1).2.2.1 ∈ zm_all := (zt 105 (by decide +kernel) rfl)
theorem f_Cy_19 : zm_fw R_Cy 19 4 2 R_Cy F_Cy 4 := ⟨rfl, by decide, uin_Cy, Or.inl (zt 107 (by decide +kernel) rfl)⟩
theorem fl_Cy_19 : Cond.fieldLink R_Cy 19 (F_Cy 2).1 (F_Cy 2).2.1 (F_Cy 2).2.2.1 ∈ zm_all := (zt 107 (by decide +kernel) rfl)
theorem f_Cy_22 : zm_fw R_Cy 22 4 3 R_Cy F_Cy 4 := ⟨rfl, by decide, uin_Cy, Or.inl (zt 108 (by decide +kernel) rfl)⟩
theorem fl_Cy_22 : Cond.fieldLink R_Cy 22 (F_Cy 3).1 (F_Cy 3).2.1 (F_Cy 3).2.2.1 ∈ zm_all := (zt 108 (by decide +kernel) rfl)
theorem w_Cy_25 : zm_cw R_Cy 25 M_Cy_addList 1 := ⟨(zt 353 (by decide +kernel) rfl), (zt 6 (by decide +kernel) rfl), ⟨by decide, by decide, by decide +kernel⟩, by decide, Or.inl (zt 350 (by decide +kernel) rfl)⟩
theorem w_Cy_25k : Cond.instanceMethod M_Cy_addList.1 ∈ zm_all ∧ Cond.selects M_Cy_addList.1.cls M_Cy_addList.1 M_Cy_addList.1 ∈ zm_all := ⟨(zt 352 (by decide +kernel) rfl), (zs (y := y_Cy_addList) (n := 4) 8 (by decide +kernel))⟩
theorem f_Cy_29 : zm_fw R_Cy 29 2 1 R_Ed F_Ed 10 := ⟨rfl, by decide, uin_Ed, Or.inl (zt 56 (by decide +kernel) rfl)⟩
theorem fl_Cy_29 : Cond.fieldLink R_Cy 29 (F_Ed 1).1 (F_Ed 1).2.1 (F_Ed 1).2.2.1 ∈ zm_all := (zt 56 (by decide +kernel) rfl)
theorem f_Cy_34 : zm_fw R_Cy 34 2 2 R_Ed F_Ed 10 := ⟨rfl, by decide, uin_Ed, Or.inl (zt 59 (by decide +kernel) rfl)⟩
theorem fl_Cy_34 : Cond.fieldLink R_Cy 34 (F_Ed 2).1 (F_Ed 2).2.1 (F_Ed 2).2.2.1 ∈ zm_all := (zt 59 (by decide +kernel) rfl)
theorem w_Cy_37 : zm_cw R_Cy 37 M_CM_blocksIn 1 := ⟨(zt 376 (by decide +kernel) rfl), (zt 1 (by decide +kernel) rfl), ⟨by decide, by decide, by decide +kernel⟩, by decide, Or.inr ⟨_, ztn (w := Cond.methodLinkNest R_Cy 37 y_CM_blocksIn "CarouselMount") 374 (by decide +kernel)⟩⟩
theorem w_Cy_37k : Cond.static M_CM_blocksIn.1 ∈ zm_all := (zt 375 (by decide +kernel) rfl)
theorem w_Cy_41 : zm_cw R_Cy 41 M_Cy_addBlock 3 := ⟨(zt 380 (by decide +kernel) rfl), (zt 6 (by decide +kernel) rfl), ⟨by decide, by decide, by decide +kernel⟩, by decide, Or.inl (zt 377 (by decide +kernel) rfl)⟩
theorem w_Cy_41k : Cond.instanceMethod M_Cy_addBlock.1 ∈ zm_all ∧ Cond.selects M_Cy_addBlock.1.cls M_Cy_addBlock.1 M_Cy_addBlock.1 ∈ zm_all := ⟨(zt 379 (by decide +kernel) rfl), (zs (y := y_Cy_addBlock) (n := 4) 13 (by decide +kernel))⟩
theorem w_Cy_45 : zm_cw R_Cy 45 M_Cy_begin 2 := ⟨(zt 357 (by decide +kernel) rfl), (zt 6 (by decide +kernel) rfl), ⟨by decide, by decide, by decide +kernel⟩, by decide, Or.inl (zt 354 (by decide +kernel) rfl)⟩
theorem w_Cy_45k : Cond.instanceMethod M_Cy_begin.1 ∈ zm_all ∧ Cond.selects M_Cy_begin.1.cls M_Cy_begin.1 M_Cy_begin.1 ∈ zm_all := ⟨(zt 356 (by decide +kernel) rfl), (zs (y := y_Cy_begin) (n := 4) 9 (by decide +kernel))⟩
theorem f_Cy_49 : zm_fw R_Cy 49 2 0 R_Ed F_Ed 10 := ⟨rfl, by decide, uin_Ed, Or.inl (zt 53 (by decide +kernel) rfl)⟩
theorem fl_Cy_49 : Cond.fieldLink R_Cy 49 (F_Ed 0).1 (F_Ed 0).2.1 (F_Ed 0).2.2.1 ∈ zm_all := (zt 53 (by decide +kernel) rfl)
theorem w_Cy_52 : zm_cw R_Cy 52 M_Cy_writePair 1 := ⟨(zt 365 (by decide +kernel) rfl), (zt 6 (by decide +kernel) rfl), ⟨by decide, by decide, by decide +kernel⟩, by decide, Or.inl (zt 362 (by decide +kernel) rfl)⟩
theorem w_Cy_52k : Cond.instanceMethod M_Cy_writePair.1 ∈ zm_all ∧ Cond.selects M_Cy_writePair.1.cls M_Cy_writePair.1 M_Cy_writePair.1 ∈ zm_all := ⟨(zt 364 (by decide +kernel) rfl), (zs (y := y_Cy_writePair) (n := 4) 11 (by decide +kernel))⟩
theorem w_Cy_56 : zm_cw R_Cy 56 M_Cy_write 1 := ⟨(zt 361 (by decide +kernel) rfl), (zt 6 (by decide +kernel) rfl), ⟨by decide, by decide, by decide +kernel⟩, by decide, Or.inl (zt 358 (by decide +kernel) rfl)⟩
theorem w_Cy_56k : Cond.instanceMethod M_Cy_write.1 ∈ zm_all ∧ Cond.selects M_Cy_write.1.cls M_Cy_write.1 M_Cy_write.1 ∈ zm_all := ⟨(zt 360 (by decide +kernel) rfl), (zs (y := y_Cy_write) (n := 4) 10 (by decide +kernel))⟩
theorem f_Cy_59 : zm_fw R_Cy 59 2 3 R_Ed F_Ed 10 := ⟨rfl, by decide, uin_Ed, Or.inl (zt 62 (by decide +kernel) rfl)⟩
theorem fl_Cy_59 : Cond.fieldLink R_Cy 59 (F_Ed 3).1 (F_Ed 3).2.1 (F_Ed 3).2.2.1 ∈ zm_all := (zt 62 (by decide +kernel) rfl)
theorem w_Cy_62 : zm_cw R_Cy 62 M_Cy_writeCheck 0 := ⟨(zt 369 (by decide +kernel) rfl), (zt 6 (by decide +kernel) rfl), ⟨by decide, by decide, by decide +kernel⟩, by decide, Or.inl (zt 366 (by decide +kernel) rfl)⟩
theorem w_Cy_62k : Cond.instanceMethod M_Cy_writeCheck.1 ∈ zm_all ∧ Cond.selects M_Cy_writeCheck.1.cls M_Cy_writeCheck.1 M_Cy_writeCheck.1 ∈ zm_all := ⟨(zt 368 (by decide +kernel) rfl), (zs (y := y_Cy_writeCheck) (n := 4) 12 (by decide +kernel))⟩
theorem w_Cy_65 : zm_cw R_Cy 65 M_CM_blockLength 2 := ⟨(zt 383 (by decide +kernel) rfl), (zt 1 (by decide +kernel) rfl), ⟨by decide, by decide, by decide +kernel⟩, by decide, Or.inr ⟨_, ztn (w := Cond.methodLinkNest R_Cy 65 y_CM_blockLength "CarouselMount") 381 (by decide +kernel)⟩⟩
theorem w_Cy_65k : Cond.static M_CM_blockLength.1 ∈ zm_all := (zt 382 (by decide +kernel) rfl)
theorem w_Cy_69 : zm_cw R_Cy 69 M_Ed_byteAt 2 := ⟨(zt 338 (by decide +kernel) rfl), (zt 4 (by decide +kernel) rfl), ⟨by decide, by decide, by decide +kernel⟩, by decide, Or.inl (zt 384 (by decide +kernel) rfl)⟩
theorem w_Cy_69k : Cond.instanceMethod M_Ed_byteAt.1 ∈ zm_all ∧ Cond.selects M_Ed_byteAt.1.cls M_Ed_byteAt.1 M_Ed_byteAt.1 ∈ zm_all := ⟨(zt 336 (by decide +kernel) rfl), (zt 337 (by decide +kernel) rfl)⟩
theorem w_Cy_72 : zm_cw R_Cy 72 M_CM_checkOf 3 := ⟨(zt 372 (by decide +kernel) rfl), (zt 1 (by decide +kernel) rfl), ⟨by decide, by decide, by decide +kernel⟩, by decide, Or.inr ⟨_, ztn (w := Cond.methodLinkNest R_Cy 72 y_CM_checkOf "CarouselMount") 370 (by decide +kernel)⟩⟩
theorem w_Cy_72k : Cond.static M_CM_checkOf.1 ∈ zm_all := (zt 371 (by decide +kernel) rfl)
theorem oi_Ed_3 : Cond.methodLink R_Ed 3 Lib.objectInit ∈ zm_all ∧ Cond.instanceMethod Lib.objectInit ∈ zm_all ∧ Cond.code Lib.objectInit ⟨#[0xb1]⟩ 1 none ∈ zm_all := ⟨(zt 51 (by decide +kernel) rfl), (zt 18 (by decide +kernel) rfl), zt 19 rfl rfl⟩
theorem f_Ed_9 : zm_fw R_Ed 9 2 0 R_Ed F_Ed 10 := ⟨rfl, by decide, uin_Ed, Or.inl (zt 52 (by decide +kernel) rfl)⟩
theorem fl_Ed_9 : Cond.fieldLink R_Ed 9 (F_Ed 0).1 (F_Ed 0).2.1 (F_Ed 0).2.2.1 ∈ zm_all := (zt 52 (by decide +kernel) rfl)
theorem f_Ed_15 : zm_fw R_Ed 15 2 1 R_Ed F_Ed 10 := ⟨rfl, by decide, uin_Ed, Or.inl (zt 55 (by decide +kernel) rfl)⟩
theorem fl_Ed_15 : Cond.fieldLink R_Ed 15 (F_Ed 1).1 (F_Ed 1).2.1 (F_Ed 1).2.2.1 ∈ zm_all := (zt 55 (by decide +kernel) rfl)
theorem f_Ed_18 : zm_fw R_Ed 18 2 2 R_Ed F_Ed 10 := ⟨rfl, by decide, uin_Ed, Or.inl (zt 58 (by decide +kernel) rfl)⟩
theorem fl_Ed_18 : Cond.fieldLink R_Ed 18 (F_Ed 2).1 (F_Ed 2).2.1 (F_Ed 2).2.2.1 ∈ zm_all := (zt 58 (by decide +kernel) rfl)
theorem f_Ed_22 : zm_fw R_Ed 22 2 3 R_Ed F_Ed 10 := ⟨rfl, by decide, uin_Ed, Or.inl (zt 61 (by decide +kernel) rfl)⟩
theorem fl_Ed_22 : Cond.fieldLink R_Ed 22 (F_Ed 3).1 (F_Ed 3).2.1 (F_Ed 3).2.2.1 ∈ zm_all := (zt 61 (by decide +kernel) rfl)
theorem f_Ed_25 : zm_fw R_Ed 25 2 4 R_Ed F_Ed 10 := ⟨rfl, by decide, uin_Ed, Or.inl (zt 64 (by decide +kernel) rfl)⟩
theorem fl_Ed_25 : Cond.fieldLink R_Ed 25 (F_Ed 4).1 (F_Ed 4).2.1 (F_Ed 4).2.2.1 ∈ zm_all := (zt 64 (by decide +kernel) rfl)
theorem f_Ed_28 : zm_fw R_Ed 28 2 5 R_Ed F_Ed 10 := ⟨rfl, by decide, uin_Ed, Or.inl (zt 65 (by decide +kernel) rfl)⟩
theorem fl_Ed_28 : Cond.fieldLink R_Ed 28 (F_Ed 5).1 (F_Ed 5).2.1 (F_Ed 5).2.2.1 ∈ zm_all := (zt 65 (by decide +kernel) rfl)
theorem f_Ed_31 : zm_fw R_Ed 31 2 6 R_Ed F_Ed 10 := ⟨rfl, by decide, uin_Ed, Or.inl (zt 66 (by decide +kernel) rfl)⟩
theorem fl_Ed_31 : Cond.fieldLink R_Ed 31 (F_Ed 6).1 (F_Ed 6).2.1 (F_Ed 6).2.2.1 ∈ zm_all := (zt 66 (by decide +kernel) rfl)
theorem f_Ed_34 : zm_fw R_Ed 34 2 7 R_Ed F_Ed 10 := ⟨rfl, by decide, uin_Ed, Or.inl (zt 67 (by decide +kernel) rfl)⟩
theorem fl_Ed_34 : Cond.fieldLink R_Ed 34 (F_Ed 7).1 (F_Ed 7).2.1 (F_Ed 7).2.2.1 ∈ zm_all := (zt 67 (by decide +kernel) rfl)
theorem f_Ed_37 : zm_fw R_Ed 37 2 8 R_Ed F_Ed 10 := ⟨rfl, by decide, uin_Ed, Or.inl (zt 68 (by decide +kernel) rfl)⟩
theorem fl_Ed_37 : Cond.fieldLink R_Ed 37 (F_Ed 8).1 (F_Ed 8).2.1 (F_Ed 8).2.2.1 ∈ zm_all := (zt 68 (by decide +kernel) rfl)
theorem f_Ed_40 : zm_fw R_Ed 40 2 9 R_Ed F_Ed 10 := ⟨rfl, by decide, uin_Ed, Or.inl (zt 69 (by decide +kernel) rfl)⟩
theorem fl_Ed_40 : Cond.fieldLink R_Ed 40 (F_Ed 9).1 (F_Ed 9).2.1 (F_Ed 9).2.2.1 ∈ zm_all := (zt 69 (by decide +kernel) rfl)
theorem w_Ed_43 : zm_cw R_Ed 43 M_Ed_arrange 1 := ⟨(zt 277 (by decide +kernel) rfl), (zt 4 (by decide +kernel) rfl), ⟨by decide, by decide, by decide +kernel⟩, by decide, Or.inl (zt 274 (by decide +kernel) rfl)⟩
theorem w_Ed_43k : Cond.instanceMethod M_Ed_arrange.1 ∈ zm_all ∧ Cond.selects M_Ed_arrange.1.cls M_Ed_arrange.1 M_Ed_arrange.1 ∈ zm_all := ⟨(zt 276 (by decide +kernel) rfl), (zs (y := y_Ed_arrange) (n := 10) 0 (by decide +kernel))⟩
theorem w_Ed_47 : zm_cw R_Ed 47 M_Ed_assignModules 1 := ⟨(zt 289 (by decide +kernel) rfl), (zt 4 (by decide +kernel) rfl), ⟨by decide, by decide, by decide +kernel⟩, by decide, Or.inl (zt 286 (by decide +kernel) rfl)⟩
theorem w_Ed_47k : Cond.instanceMethod M_Ed_assignModules.1 ∈ zm_all ∧ Cond.selects M_Ed_assignModules.1.cls M_Ed_assignModules.1 M_Ed_assignModules.1 ∈ zm_all := ⟨(zt 288 (by decide +kernel) rfl), (zs (y := y_Ed_assignModules) (n := 10) 1 (by decide +kernel))⟩
theorem w_Ed_51 : zm_cw R_Ed 51 M_Ed_draftModule 2 := ⟨(zt 299 (by decide +kernel) rfl), (zt 4 (by decide +kernel) rfl), ⟨by decide, by decide, by decide +kernel⟩, by decide, Or.inl (zt 296 (by decide +kernel) rfl)⟩
theorem w_Ed_51k : Cond.instanceMethod M_Ed_draftModule.1 ∈ zm_all ∧ Cond.selects M_Ed_draftModule.1.cls M_Ed_draftModule.1 M_Ed_draftModule.1 ∈ zm_all := ⟨(zt 298 (by decide +kernel) rfl), (zs (y := y_Ed_draftModule) (n := 10) 2 (by decide +kernel))⟩
theorem w_Ed_55 : zm_cw R_Ed 55 M_Ed_keepDraft 1 := ⟨(zt 330 (by decide +kernel) rfl), (zt 4 (by decide +kernel) rfl), ⟨by decide, by decide, by decide +kernel⟩, by decide, Or.inl (zt 327 (by decide +kernel) rfl)⟩
theorem w_Ed_55k : Cond.instanceMethod M_Ed_keepDraft.1 ∈ zm_all ∧ Cond.selects M_Ed_keepDraft.1.cls M_Ed_keepDraft.1 M_Ed_keepDraft.1 ∈ zm_all := ⟨(zt 329 (by decide +kernel) rfl), (zs (y := y_Ed_keepDraft) (n := 10) 6 (by decide +kernel))⟩
theorem w_Ed_59 : zm_cw R_Ed 59 M_Tree_followerOf 1 := ⟨(zt 281 (by decide +kernel) rfl), (zt 2 (by decide +kernel) rfl), ⟨by decide, by decide, by decide +kernel⟩, by decide, Or.inl (zt 278 (by decide +kernel) rfl)⟩
theorem w_Ed_59k : Cond.instanceMethod M_Tree_followerOf.1 ∈ zm_all ∧ Cond.selects M_Tree_followerOf.1.cls M_Tree_followerOf.1 M_Tree_followerOf.1 ∈ zm_all := ⟨(zt 279 (by decide +kernel) rfl), (zt 280 (by decide +kernel) rfl)⟩
theorem w_Ed_65 : zm_cw R_Ed 65 M_Tree_messageLength 1 := ⟨(zt 293 (by decide +kernel) rfl), (zt 2 (by decide +kernel) rfl), ⟨by decide, by decide, by decide +kernel⟩, by decide, Or.inl (zt 290 (by decide +kernel) rfl)⟩
theorem w_Ed_65k : Cond.instanceMethod M_Tree_messageLength.1 ∈ zm_all ∧ Cond.selects M_Tree_messageLength.1.cls M_Tree_messageLength.1 M_Tree_messageLength.1 ∈ zm_all := ⟨(zt 291 (by decide +kernel) rfl), (zt 292 (by decide +kernel) rfl)⟩
theorem w_Ed_68 : zm_cw R_Ed 68 M_Ed_draftMessage 2 := ⟨(zt 303 (by decide +kernel) rfl), (zt 4 (by decide +kernel) rfl), ⟨by decide, by decide, by decide +kernel⟩, by decide, Or.inl (zt 300 (by decide +kernel) rfl)⟩
theorem w_Ed_68k : Cond.instanceMethod M_Ed_draftMessage.1 ∈ zm_all ∧ Cond.selects M_Ed_draftMessage.1.cls M_Ed_draftMessage.1 M_Ed_draftMessage.1 ∈ zm_all := ⟨(zt 302 (by decide +kernel) rfl), (zs (y := y_Ed_draftMessage) (n := 10) 3 (by decide +kernel))⟩
theorem w_Ed_71 : zm_cw R_Ed 71 M_Tree_kindOf 1 := ⟨(zt 307 (by decide +kernel) rfl), (zt 2 (by decide +kernel) rfl), ⟨by decide, by decide, by decide +kernel⟩, by decide, Or.inl (zt 304 (by decide +kernel) rfl)⟩
theorem w_Ed_71k : Cond.instanceMethod M_Tree_kindOf.1 ∈ zm_all ∧ Cond.selects M_Tree_kindOf.1.cls M_Tree_kindOf.1 M_Tree_kindOf.1 ∈ zm_all := ⟨(zt 305 (by decide +kernel) rfl), (zt 306 (by decide +kernel) rfl)⟩
theorem w_Ed_74 : zm_cw R_Ed 74 M_Ed_write 1 := ⟨(zt 311 (by decide +kernel) rfl), (zt 4 (by decide +kernel) rfl), ⟨by decide, by decide, by decide +kernel⟩, by decide, Or.inl (zt 308 (by decide +kernel) rfl)⟩
theorem w_Ed_74k : Cond.instanceMethod M_Ed_write.1 ∈ zm_all ∧ Cond.selects M_Ed_write.1.cls M_Ed_write.1 M_Ed_write.1 ∈ zm_all := ⟨(zt 310 (by decide +kernel) rfl), (zs (y := y_Ed_write) (n := 10) 4 (by decide +kernel))⟩
theorem w_Ed_77 : zm_cw R_Ed 77 M_Tree_isFile 1 := ⟨(zt 249 (by decide +kernel) rfl), (zt 2 (by decide +kernel) rfl), ⟨by decide, by decide, by decide +kernel⟩, by decide, Or.inl (zt 312 (by decide +kernel) rfl)⟩
theorem w_Ed_77k : Cond.instanceMethod M_Tree_isFile.1 ∈ zm_all ∧ Cond.selects M_Tree_isFile.1.cls M_Tree_isFile.1 M_Tree_isFile.1 ∈ zm_all := ⟨(zt 247 (by decide +kernel) rfl), (zt 248 (by decide +kernel) rfl)⟩
theorem w_Ed_81 : zm_cw R_Ed 81 M_Tree_fileLength 1 := ⟨(zt 253 (by decide +kernel) rfl), (zt 2 (by decide +kernel) rfl), ⟨by decide, by decide, by decide +kernel⟩, by decide, Or.inl (zt 313 (by decide +kernel) rfl)⟩
theorem w_Ed_81k : Cond.instanceMethod M_Tree_fileLength.1 ∈ zm_all ∧ Cond.selects M_Tree_fileLength.1.cls M_Tree_fileLength.1 M_Tree_fileLength.1 ∈ zm_all := ⟨(zt 251 (by decide +kernel) rfl), (zt 252 (by decide +kernel) rfl)⟩
theorem w_Ed_84 : zm_cw R_Ed 84 M_Tree_fileByte 2 := ⟨(zt 317 (by decide +kernel) rfl), (zt 2 (by decide +kernel) rfl), ⟨by decide, by decide, by decide +kernel⟩, by decide, Or.inl (zt 314 (by decide +kernel) rfl)⟩
theorem w_Ed_84k : Cond.instanceMethod M_Tree_fileByte.1 ∈ zm_all ∧ Cond.selects M_Tree_fileByte.1.cls M_Tree_fileByte.1 M_Tree_fileByte.1 ∈ zm_all := ⟨(zt 315 (by decide +kernel) rfl), (zt 316 (by decide +kernel) rfl)⟩
theorem w_Ed_88 : zm_cw R_Ed 88 M_Ed_draftEntries 2 := ⟨(zt 321 (by decide +kernel) rfl), (zt 4 (by decide +kernel) rfl), ⟨by decide, by decide, by decide +kernel⟩, by decide, Or.inl (zt 318 (by decide +kernel) rfl)⟩
theorem w_Ed_88k : Cond.instanceMethod M_Ed_draftEntries.1 ∈ zm_all ∧ Cond.selects M_Ed_draftEntries.1.cls M_Ed_draftEntries.1 M_Ed_draftEntries.1 ∈ zm_all := ⟨(zt 320 (by decide +kernel) rfl), (zs (y := y_Ed_draftEntries) (n := 10) 5 (by decide +kernel))⟩
theorem w_Ed_91 : zm_cw R_Ed 91 M_Tree_entryAfter 2 := ⟨(zt 285 (by decide +kernel) rfl), (zt 2 (by decide +kernel) rfl), ⟨by decide, by decide, by decide +kernel⟩, by decide, Or.inl (zt 322 (by decide +kernel) rfl)⟩
theorem w_Ed_91k : Cond.instanceMethod M_Tree_entryAfter.1 ∈ zm_all ∧ Cond.selects M_Tree_entryAfter.1.cls M_Tree_entryAfter.1 M_Tree_entryAfter.1 ∈ zm_all := ⟨(zt 283 (by decide +kernel) rfl), (zt 284 (by decide +kernel) rfl)⟩
theorem w_Ed_94 : zm_cw R_Ed 94 M_Tree_nameOf 1 := ⟨(zt 326 (by decide +kernel) rfl), (zt 2 (by decide +kernel) rfl), ⟨by decide, by decide, by decide +kernel⟩, by decide, Or.inl (zt 323 (by decide +kernel) rfl)⟩
theorem w_Ed_94k : Cond.instanceMethod M_Tree_nameOf.1 ∈ zm_all ∧ Cond.selects M_Tree_nameOf.1.cls M_Tree_nameOf.1 M_Tree_nameOf.1 ∈ zm_all := ⟨(zt 324 (by decide +kernel) rfl), (zt 325 (by decide +kernel) rfl)⟩
theorem w_Ed_97 : zm_cw R_Ed 97 M_Ed_draftEquals 1 := ⟨(zt 334 (by decide +kernel) rfl), (zt 4 (by decide +kernel) rfl), ⟨by decide, by decide, by decide +kernel⟩, by decide, Or.inl (zt 331 (by decide +kernel) rfl)⟩
theorem w_Ed_97k : Cond.instanceMethod M_Ed_draftEquals.1 ∈ zm_all ∧ Cond.selects M_Ed_draftEquals.1.cls M_Ed_draftEquals.1 M_Ed_draftEquals.1 ∈ zm_all := ⟨(zt 333 (by decide +kernel) rfl), (zs (y := y_Ed_draftEquals) (n := 10) 7 (by decide +kernel))⟩
theorem acw_Ed : Cond.methodLink R_Ed 100 arraycopyName ∈ zm_all ∧ Cond.native arraycopyName ∈ zm_all ∧ Cond.static arraycopyName ∈ zm_all ∧ Cond.initialized "java/lang/System" ∈ zm_all := ⟨(zt 339 (by decide +kernel) rfl), (zt 341 (by decide +kernel) rfl), (zt 340 (by decide +kernel) rfl), (zt 10 (by decide +kernel) rfl)⟩
theorem w_Ed_106 : zm_cw R_Ed 106 M_Ed_byteAt 2 := ⟨(zt 338 (by decide +kernel) rfl), (zt 4 (by decide +kernel) rfl), ⟨by decide, by decide, by decide +kernel⟩, by decide, Or.inl (zt 335 (by decide +kernel) rfl)⟩
theorem w_Ed_106k : Cond.instanceMethod M_Ed_byteAt.1 ∈ zm_all ∧ Cond.selects M_Ed_byteAt.1.cls M_Ed_byteAt.1 M_Ed_byteAt.1 ∈ zm_all := ⟨(zt 336 (by decide +kernel) rfl), (zt 337 (by decide +kernel) rfl)⟩
theorem oi_Mt_3 : Cond.methodLink R_Mt 3 Lib.objectInit ∈ zm_all ∧ Cond.instanceMethod Lib.objectInit ∈ zm_all ∧ Cond.code Lib.objectInit ⟨#[0xb1]⟩ 1 none ∈ zm_all := ⟨(zt 146 (by decide +kernel) rfl), (zt 18 (by decide +kernel) rfl), zt 19 rfl rfl⟩
theorem f_Mt_9 : zm_fw R_Mt 9 6 0 R_Mt F_Mt 6 := ⟨rfl, by decide, uin_Mt, Or.inl (zt 147 (by decide +kernel) rfl)⟩
theorem fl_Mt_9 : Cond.fieldLink R_Mt 9 (F_Mt 0).1 (F_Mt 0).2.1 (F_Mt 0).2.2.1 ∈ zm_all := (zt 147 (by decide +kernel) rfl)
theorem f_Mt_15 : zm_fw R_Mt 15 6 1 R_Mt F_Mt 6 := ⟨rfl, by decide, uin_Mt, Or.inl (zt 149 (by decide +kernel) rfl)⟩
theorem fl_Mt_15 : Cond.fieldLink R_Mt 15 (F_Mt 1).1 (F_Mt 1).2.1 (F_Mt 1).2.2.1 ∈ zm_all := (zt 149 (by decide +kernel) rfl)
theorem f_Mt_19 : zm_fw R_Mt 19 6 2 R_Mt F_Mt 6 := ⟨rfl, by decide, uin_Mt, Or.inl (zt 151 (by decide +kernel) rfl)⟩
theorem fl_Mt_19 : Cond.fieldLink R_Mt 19 (F_Mt 2).1 (F_Mt 2).2.1 (F_Mt 2).2.2.1 ∈ zm_all := (zt 151 (by decide +kernel) rfl)
theorem f_Mt_23 : zm_fw R_Mt 23 6 3 R_Mt F_Mt 6 := ⟨rfl, by decide, uin_Mt, Or.inl (zt 152 (by decide +kernel) rfl)⟩
theorem fl_Mt_23 : Cond.fieldLink R_Mt 23 (F_Mt 3).1 (F_Mt 3).2.1 (F_Mt 3).2.2.1 ∈ zm_all := (zt 152 (by decide +kernel) rfl)
theorem f_Mt_26 : zm_fw R_Mt 26 6 4 R_Mt F_Mt 6 := ⟨rfl, by decide, uin_Mt, Or.inl (zt 153 (by decide +kernel) rfl)⟩
theorem fl_Mt_26 : Cond.fieldLink R_Mt 26 (F_Mt 4).1 (F_Mt 4).2.1 (F_Mt 4).2.2.1 ∈ zm_all := (zt 153 (by decide +kernel) rfl)
theorem f_Mt_29 : zm_fw R_Mt 29 6 5 R_Mt F_Mt 6 := ⟨rfl, by decide, uin_Mt, Or.inl (zt 154 (by decide +kernel) rfl)⟩
theorem fl_Mt_29 : Cond.fieldLink R_Mt 29 (F_Mt 5).1 (F_Mt 5).2.1 (F_Mt 5).2.2.1 ∈ zm_all := (zt 154 (by decide +kernel) rfl)
theorem w_Mt_32 : zm_cw R_Mt 32 M_Mt_relist 3 := ⟨(zt 458 (by decide +kernel) rfl), (zt 8 (by decide +kernel) rfl), ⟨by decide, by decide, by decide +kernel⟩, by decide, Or.inl (zt 455 (by decide +kernel) rfl)⟩
theorem w_Mt_32k : Cond.instanceMethod M_Mt_relist.1 ∈ zm_all ∧ Cond.selects M_Mt_relist.1.cls M_Mt_relist.1 M_Mt_relist.1 ∈ zm_all := ⟨(zt 457 (by decide +kernel) rfl), (zs (y := y_Mt_relist) (n := 6) 22 (by decide +kernel))⟩
theorem w_Mt_36 : zm_cw R_Mt 36 M_CM_pairAt 2 := ⟨(zt 444 (by decide +kernel) rfl), (zt 1 (by decide +kernel) rfl), ⟨by decide, by decide, by decide +kernel⟩, by decide, Or.inr ⟨_, ztn (w := Cond.methodLinkNest R_Mt 36 y_CM_pairAt "CarouselMount") 454 (by decide +kernel)⟩⟩
theorem w_Mt_36k : Cond.static M_CM_pairAt.1 ∈ zm_all := (zt 443 (by decide +kernel) rfl)
theorem w_Mt_40 : zm_cw R_Mt 40 M_Mt_isListed 1 := ⟨(zt 470 (by decide +kernel) rfl), (zt 8 (by decide +kernel) rfl), ⟨by decide, by decide, by decide +kernel⟩, by decide, Or.inl (zt 467 (by decide +kernel) rfl)⟩
theorem w_Mt_40k : Cond.instanceMethod M_Mt_isListed.1 ∈ zm_all ∧ Cond.selects M_Mt_isListed.1.cls M_Mt_isListed.1 M_Mt_isListed.1 ∈ zm_all := ⟨(zt 468 (by decide +kernel) rfl), (zt 469 (by decide +kernel) rfl)⟩
theorem w_Mt_44 : zm_cw R_Mt 44 M_CM_blocksIn 1 := ⟨(zt 376 (by decide +kernel) rfl), (zt 1 (by decide +kernel) rfl), ⟨by decide, by decide, by decide +kernel⟩, by decide, Or.inr ⟨_, ztn (w := Cond.methodLinkNest R_Mt 44 y_CM_blocksIn "CarouselMount") 471 (by decide +kernel)⟩⟩
theorem w_Mt_44k : Cond.static M_CM_blocksIn.1 ∈ zm_all := (zt 375 (by decide +kernel) rfl)
theorem w_Mt_48 : zm_cw R_Mt 48 M_CM_blockLength 2 := ⟨(zt 383 (by decide +kernel) rfl), (zt 1 (by decide +kernel) rfl), ⟨by decide, by decide, by decide +kernel⟩, by decide, Or.inr ⟨_, ztn (w := Cond.methodLinkNest R_Mt 48 y_CM_blockLength "CarouselMount") 472 (by decide +kernel)⟩⟩
theorem w_Mt_48k : Cond.static M_CM_blockLength.1 ∈ zm_all := (zt 382 (by decide +kernel) rfl)
theorem acw_Mt : Cond.methodLink R_Mt 52 arraycopyName ∈ zm_all ∧ Cond.native arraycopyName ∈ zm_all ∧ Cond.static arraycopyName ∈ zm_all ∧ Cond.initialized "java/lang/System" ∈ zm_all := ⟨(zt 473 (by decide +kernel) rfl), (zt 341 (by decide +kernel) rfl), (zt 340 (by decide +kernel) rfl), (zt 10 (by decide +kernel) rfl)⟩
theorem w_Mt_58 : zm_cw R_Mt 58 M_Int_bitCount 1 := ⟨(zt 522 (by decide +kernel) rfl), (zt 11 (by decide +kernel) rfl), ⟨by decide, by decide, by decide +kernel⟩, by decide, Or.inl (zt 520 (by decide +kernel) rfl)⟩
theorem w_Mt_58k : Cond.static M_Int_bitCount.1 ∈ zm_all := (zt 521 (by decide +kernel) rfl)
theorem w_Mt_63 : zm_cw R_Mt 63 M_Mt_blocksHeld 1 := ⟨(zt 519 (by decide +kernel) rfl), (zt 8 (by decide +kernel) rfl), ⟨by decide, by decide, by decide +kernel⟩, by decide, Or.inl (zt 542 (by decide +kernel) rfl)⟩
theorem w_Mt_63k : Cond.instanceMethod M_Mt_blocksHeld.1 ∈ zm_all ∧ Cond.selects M_Mt_blocksHeld.1.cls M_Mt_blocksHeld.1 M_Mt_blocksHeld.1 ∈ zm_all := ⟨(zt 517 (by decide +kernel) rfl), (zt 518 (by decide +kernel) rfl)⟩
theorem w_Mt_66 : zm_cw R_Mt 66 M_Mt_obstacle 1 := ⟨(zt 541 (by decide +kernel) rfl), (zt 8 (by decide +kernel) rfl), ⟨by decide, by decide, by decide +kernel⟩, by decide, Or.inl (zt 538 (by decide +kernel) rfl)⟩
theorem w_Mt_66k : Cond.instanceMethod M_Mt_obstacle.1 ∈ zm_all ∧ Cond.selects M_Mt_obstacle.1.cls M_Mt_obstacle.1 M_Mt_obstacle.1 ∈ zm_all := ⟨(zt 540 (by decide +kernel) rfl), (zs (y := y_Mt_obstacle) (n := 6) 26 (by decide +kernel))⟩
theorem w_Mt_69 : zm_cw R_Mt 69 M_Mt_fits 2 := ⟨(zt 546 (by decide +kernel) rfl), (zt 8 (by decide +kernel) rfl), ⟨by decide, by decide, by decide +kernel⟩, by decide, Or.inl (zt 543 (by decide +kernel) rfl)⟩
theorem w_Mt_69k : Cond.instanceMethod M_Mt_fits.1 ∈ zm_all ∧ Cond.selects M_Mt_fits.1.cls M_Mt_fits.1 M_Mt_fits.1 ∈ zm_all := ⟨(zt 545 (by decide +kernel) rfl), (zs (y := y_Mt_fits) (n := 6) 27 (by decide +kernel))⟩
theorem w_Mt_73 : zm_cw R_Mt 73 M_Mt_kindAt 1 := ⟨(zt 554 (by decide +kernel) rfl), (zt 8 (by decide +kernel) rfl), ⟨by decide, by decide, by decide +kernel⟩, by decide, Or.inl (zt 551 (by decide +kernel) rfl)⟩
theorem w_Mt_73k : Cond.instanceMethod M_Mt_kindAt.1 ∈ zm_all ∧ Cond.selects M_Mt_kindAt.1.cls M_Mt_kindAt.1 M_Mt_kindAt.1 ∈ zm_all := ⟨(zt 552 (by decide +kernel) rfl), (zt 553 (by decide +kernel) rfl)⟩
theorem w_Mt_76 : zm_cw R_Mt 76 M_Mt_isDirectoryAt 1 := ⟨(zt 562 (by decide +kernel) rfl), (zt 8 (by decide +kernel) rfl), ⟨by decide, by decide, by decide +kernel⟩, by decide, Or.inl (zt 559 (by decide +kernel) rfl)⟩
theorem w_Mt_76k : Cond.instanceMethod M_Mt_isDirectoryAt.1 ∈ zm_all ∧ Cond.selects M_Mt_isDirectoryAt.1.cls M_Mt_isDirectoryAt.1 M_Mt_isDirectoryAt.1 ∈ zm_all := ⟨(zt 560 (by decide +kernel) rfl), (zt 561 (by decide +kernel) rfl)⟩
theorem w_Mt_79 : zm_cw R_Mt 79 M_Mt_lengthAt 1 := ⟨(zt 550 (by decide +kernel) rfl), (zt 8 (by decide +kernel) rfl), ⟨by decide, by decide, by decide +kernel⟩, by decide, Or.inl (zt 547 (by decide +kernel) rfl)⟩
theorem w_Mt_79k : Cond.instanceMethod M_Mt_lengthAt.1 ∈ zm_all ∧ Cond.selects M_Mt_lengthAt.1.cls M_Mt_lengthAt.1 M_Mt_lengthAt.1 ∈ zm_all := ⟨(zt 548 (by decide +kernel) rfl), (zt 549 (by decide +kernel) rfl)⟩
theorem w_Mt_82 : zm_cw R_Mt 82 M_Mt_messageWithKey 2 := ⟨(zt 566 (by decide +kernel) rfl), (zt 8 (by decide +kernel) rfl), ⟨by decide, by decide, by decide +kernel⟩, by decide, Or.inl (zt 563 (by decide +kernel) rfl)⟩
theorem w_Mt_82k : Cond.instanceMethod M_Mt_messageWithKey.1 ∈ zm_all ∧ Cond.selects M_Mt_messageWithKey.1.cls M_Mt_messageWithKey.1 M_Mt_messageWithKey.1 ∈ zm_all := ⟨(zt 565 (by decide +kernel) rfl), (zs (y := y_Mt_messageWithKey) (n := 6) 28 (by decide +kernel))⟩
theorem oi_Rc_3 : Cond.methodLink R_Rc 3 Lib.objectInit ∈ zm_all ∧ Cond.instanceMethod Lib.objectInit ∈ zm_all ∧ Cond.code Lib.objectInit ⟨#[0xb1]⟩ 1 none ∈ zm_all := ⟨(zt 140 (by decide +kernel) rfl), (zt 18 (by decide +kernel) rfl), zt 19 rfl rfl⟩
theorem nw_Rc_9 : Cond.classLink R_Rc 9 R_Mt ∈ zm_all ∧ Cond.instantiable R_Mt 6 ∈ zm_all ∧ Cond.initialized R_Mt ∈ zm_all := ⟨(zt 141 (by decide +kernel) rfl), (zt 142 (by decide +kernel) rfl), (zt 8 (by decide +kernel) rfl)⟩
theorem w_Rc_11 : zm_cw R_Rc 11 M_Mt_init 0 := ⟨(zt 145 (by decide +kernel) rfl), (zt 8 (by decide +kernel) rfl), ⟨by decide, by decide, by decide +kernel⟩, by decide, Or.inr ⟨_, ztn (w := Cond.methodLinkNest R_Rc 11 y_Mt_init "CarouselMount") 143 (by decide +kernel)⟩⟩
theorem w_Rc_11k : Cond.instanceMethod M_Mt_init.1 ∈ zm_all := (zt 144 (by decide +kernel) rfl)
theorem f_Rc_12 : zm_fw R_Rc 12 5 0 R_Rc F_Rc 5 := ⟨rfl, by decide, uin_Rc, Or.inl (zt 168 (by decide +kernel) rfl)⟩
theorem fl_Rc_12 : Cond.fieldLink R_Rc 12 (F_Rc 0).1 (F_Rc 0).2.1 (F_Rc 0).2.2.1 ∈ zm_all := (zt 168 (by decide +kernel) rfl)
theorem f_Rc_18 : zm_fw R_Rc 18 5 1 R_Rc F_Rc 5 := ⟨rfl, by decide, uin_Rc, Or.inl (zt 170 (by decide +kernel) rfl)⟩
theorem fl_Rc_18 : Cond.fieldLink R_Rc 18 (F_Rc 1).1 (F_Rc 1).2.1 (F_Rc 1).2.2.1 ∈ zm_all := (zt 170 (by decide +kernel) rfl)
theorem f_Rc_22 : zm_fw R_Rc 22 5 2 R_Rc F_Rc 5 := ⟨rfl, by decide, uin_Rc, Or.inl (zt 172 (by decide +kernel) rfl)⟩
theorem fl_Rc_22 : Cond.fieldLink R_Rc 22 (F_Rc 2).1 (F_Rc 2).2.1 (F_Rc 2).2.2.1 ∈ zm_all := (zt 172 (by decide +kernel) rfl)
theorem f_Rc_25 : zm_fw R_Rc 25 5 3 R_Rc F_Rc 5 := ⟨rfl, by decide, uin_Rc, Or.inl (zt 173 (by decide +kernel) rfl)⟩
theorem fl_Rc_25 : Cond.fieldLink R_Rc 25 (F_Rc 3).1 (F_Rc 3).2.1 (F_Rc 3).2.2.1 ∈ zm_all := (zt 173 (by decide +kernel) rfl)
theorem f_Rc_29 : zm_fw R_Rc 29 5 4 R_Rc F_Rc 5 := ⟨rfl, by decide, uin_Rc, Or.inl (zt 174 (by decide +kernel) rfl)⟩
theorem fl_Rc_29 : Cond.fieldLink R_Rc 29 (F_Rc 4).1 (F_Rc 4).2.1 (F_Rc 4).2.2.1 ∈ zm_all := (zt 174 (by decide +kernel) rfl)
theorem w_Rc_32 : zm_cw R_Rc 32 M_Mt_reset 0 := ⟨(zt 501 (by decide +kernel) rfl), (zt 8 (by decide +kernel) rfl), ⟨by decide, by decide, by decide +kernel⟩, by decide, Or.inl (zt 498 (by decide +kernel) rfl)⟩
theorem w_Rc_32k : Cond.instanceMethod M_Mt_reset.1 ∈ zm_all ∧ Cond.selects M_Mt_reset.1.cls M_Mt_reset.1 M_Mt_reset.1 ∈ zm_all := ⟨(zt 499 (by decide +kernel) rfl), (zt 500 (by decide +kernel) rfl)⟩
theorem w_Rc_35 : zm_cw R_Rc 35 M_Arr_fill 2 := ⟨(zt 28 (by decide +kernel) rfl), (zt 3 (by decide +kernel) rfl), ⟨by decide, by decide, by decide +kernel⟩, by decide, Or.inl (zt 502 (by decide +kernel) rfl)⟩
theorem w_Rc_35k : Cond.static M_Arr_fill.1 ∈ zm_all := (zt 27 (by decide +kernel) rfl)
theorem w_Rc_41 : zm_cw R_Rc 41 M_Rc_throwAway 0 := ⟨(zt 425 (by decide +kernel) rfl), (zt 7 (by decide +kernel) rfl), ⟨by decide, by decide, by decide +kernel⟩, by decide, Or.inl (zt 422 (by decide +kernel) rfl)⟩
theorem w_Rc_41k : Cond.instanceMethod M_Rc_throwAway.1 ∈ zm_all ∧ Cond.selects M_Rc_throwAway.1.cls M_Rc_throwAway.1 M_Rc_throwAway.1 ∈ zm_all := ⟨(zt 424 (by decide +kernel) rfl), (zs (y := y_Rc_throwAway) (n := 5) 16 (by decide +kernel))⟩
theorem w_Rc_44 : zm_cw R_Rc 44 M_Rc_continueSection 3 := ⟨(zt 429 (by decide +kernel) rfl), (zt 7 (by decide +kernel) rfl), ⟨by decide, by decide, by decide +kernel⟩, by decide, Or.inl (zt 426 (by decide +kernel) rfl)⟩
theorem w_Rc_44k : Cond.instanceMethod M_Rc_continueSection.1 ∈ zm_all ∧ Cond.selects M_Rc_continueSection.1.cls M_Rc_continueSection.1 M_Rc_continueSection.1 ∈ zm_all := ⟨(zt 428 (by decide +kernel) rfl), (zs (y := y_Rc_continueSection) (n := 5) 17 (by decide +kernel))⟩
theorem w_Rc_48 : zm_cw R_Rc 48 M_Rc_beginSections 2 := ⟨(zt 477 (by decide +kernel) rfl), (zt 7 (by decide +kernel) rfl), ⟨by decide, by decide, by decide +kernel⟩, by decide, Or.inl (zt 474 (by decide +kernel) rfl)⟩
theorem w_Rc_48k : Cond.instanceMethod M_Rc_beginSections.1 ∈ zm_all ∧ Cond.selects M_Rc_beginSections.1.cls M_Rc_beginSections.1 M_Rc_beginSections.1 ∈ zm_all := ⟨(zt 476 (by decide +kernel) rfl), (zs (y := y_Rc_beginSections) (n := 5) 24 (by decide +kernel))⟩
theorem w_Rc_51 : zm_cw R_Rc 51 M_Rc_collect 1 := ⟨(zt 433 (by decide +kernel) rfl), (zt 7 (by decide +kernel) rfl), ⟨by decide, by decide, by decide +kernel⟩, by decide, Or.inl (zt 430 (by decide +kernel) rfl)⟩
theorem w_Rc_51k : Cond.instanceMethod M_Rc_collect.1 ∈ zm_all ∧ Cond.selects M_Rc_collect.1.cls M_Rc_collect.1 M_Rc_collect.1 ∈ zm_all := ⟨(zt 432 (by decide +kernel) rfl), (zs (y := y_Rc_collect) (n := 5) 18 (by decide +kernel))⟩
theorem w_Rc_55 : zm_cw R_Rc 55 M_Rc_judge 1 := ⟨(zt 437 (by decide +kernel) rfl), (zt 7 (by decide +kernel) rfl), ⟨by decide, by decide, by decide +kernel⟩, by decide, Or.inl (zt 434 (by decide +kernel) rfl)⟩
theorem w_Rc_55k : Cond.instanceMethod M_Rc_judge.1 ∈ zm_all ∧ Cond.selects M_Rc_judge.1.cls M_Rc_judge.1 M_Rc_judge.1 ∈ zm_all := ⟨(zt 436 (by decide +kernel) rfl), (zs (y := y_Rc_judge) (n := 5) 19 (by decide +kernel))⟩
theorem w_Rc_59 : zm_cw R_Rc 59 M_Rc_hasCheckDue 1 := ⟨(zt 441 (by decide +kernel) rfl), (zt 7 (by decide +kernel) rfl), ⟨by decide, by decide, by decide +kernel⟩, by decide, Or.inl (zt 438 (by decide +kernel) rfl)⟩
theorem w_Rc_59k : Cond.instanceMethod M_Rc_hasCheckDue.1 ∈ zm_all ∧ Cond.selects M_Rc_hasCheckDue.1.cls M_Rc_hasCheckDue.1 M_Rc_hasCheckDue.1 ∈ zm_all := ⟨(zt 440 (by decide +kernel) rfl), (zs (y := y_Rc_hasCheckDue) (n := 5) 20 (by decide +kernel))⟩
theorem w_Rc_63 : zm_cw R_Rc 63 M_Rc_isList 1 := ⟨(zt 449 (by decide +kernel) rfl), (zt 7 (by decide +kernel) rfl), ⟨by decide, by decide, by decide +kernel⟩, by decide, Or.inl (zt 446 (by decide +kernel) rfl)⟩
theorem w_Rc_63k : Cond.instanceMethod M_Rc_isList.1 ∈ zm_all ∧ Cond.selects M_Rc_isList.1.cls M_Rc_isList.1 M_Rc_isList.1 ∈ zm_all := ⟨(zt 448 (by decide +kernel) rfl), (zs (y := y_Rc_isList) (n := 5) 21 (by decide +kernel))⟩
theorem w_Rc_66 : zm_cw R_Rc 66 M_Mt_takeList 1 := ⟨(zt 453 (by decide +kernel) rfl), (zt 8 (by decide +kernel) rfl), ⟨by decide, by decide, by decide +kernel⟩, by decide, Or.inl (zt 450 (by decide +kernel) rfl)⟩
theorem w_Rc_66k : Cond.instanceMethod M_Mt_takeList.1 ∈ zm_all ∧ Cond.selects M_Mt_takeList.1.cls M_Mt_takeList.1 M_Mt_takeList.1 ∈ zm_all := ⟨(zt 451 (by decide +kernel) rfl), (zt 452 (by decide +kernel) rfl)⟩
theorem w_Rc_70 : zm_cw R_Rc 70 M_Rc_isBlock 1 := ⟨(zt 462 (by decide +kernel) rfl), (zt 7 (by decide +kernel) rfl), ⟨by decide, by decide, by decide +kernel⟩, by decide, Or.inl (zt 459 (by decide +kernel) rfl)⟩
theorem w_Rc_70k : Cond.instanceMethod M_Rc_isBlock.1 ∈ zm_all ∧ Cond.selects M_Rc_isBlock.1.cls M_Rc_isBlock.1 M_Rc_isBlock.1 ∈ zm_all := ⟨(zt 461 (by decide +kernel) rfl), (zs (y := y_Rc_isBlock) (n := 5) 23 (by decide +kernel))⟩
theorem w_Rc_73 : zm_cw R_Rc 73 M_Mt_takeBlock 2 := ⟨(zt 466 (by decide +kernel) rfl), (zt 8 (by decide +kernel) rfl), ⟨by decide, by decide, by decide +kernel⟩, by decide, Or.inl (zt 463 (by decide +kernel) rfl)⟩
theorem w_Rc_73k : Cond.instanceMethod M_Mt_takeBlock.1 ∈ zm_all ∧ Cond.selects M_Mt_takeBlock.1.cls M_Mt_takeBlock.1 M_Mt_takeBlock.1 ∈ zm_all := ⟨(zt 464 (by decide +kernel) rfl), (zt 465 (by decide +kernel) rfl)⟩
theorem w_Rc_77 : zm_cw R_Rc 77 M_CM_pairAt 2 := ⟨(zt 444 (by decide +kernel) rfl), (zt 1 (by decide +kernel) rfl), ⟨by decide, by decide, by decide +kernel⟩, by decide, Or.inr ⟨_, ztn (w := Cond.methodLinkNest R_Rc 77 y_CM_pairAt "CarouselMount") 442 (by decide +kernel)⟩⟩
theorem w_Rc_77k : Cond.static M_CM_pairAt.1 ∈ zm_all := (zt 443 (by decide +kernel) rfl)
theorem w_Rc_81 : zm_cw R_Rc 81 M_CM_checkOf 3 := ⟨(zt 372 (by decide +kernel) rfl), (zt 1 (by decide +kernel) rfl), ⟨by decide, by decide, by decide +kernel⟩, by decide, Or.inr ⟨_, ztn (w := Cond.methodLinkNest R_Rc 81 y_CM_checkOf "CarouselMount") 445 (by decide +kernel)⟩⟩
theorem w_Rc_81k : Cond.static M_CM_checkOf.1 ∈ zm_all := (zt 371 (by decide +kernel) rfl)
theorem oi_Sn_3 : Cond.methodLink R_Sn 3 Lib.objectInit ∈ zm_all ∧ Cond.instanceMethod Lib.objectInit ∈ zm_all ∧ Cond.code Lib.objectInit ⟨#[0xb1]⟩ 1 none ∈ zm_all := ⟨(zt 96 (by decide +kernel) rfl), (zt 18 (by decide +kernel) rfl), zt 19 rfl rfl⟩
theorem f_Sn_9 : zm_fw R_Sn 9 3 0 R_Sn F_Sn 5 := ⟨rfl, by decide, uin_Sn, Or.inl (zt 118 (by decide +kernel) rfl)⟩
theorem fl_Sn_9 : Cond.fieldLink R_Sn 9 (F_Sn 0).1 (F_Sn 0).2.1 (F_Sn 0).2.2.1 ∈ zm_all := (zt 118 (by decide +kernel) rfl)
theorem nw_Sn_15 : Cond.classLink R_Sn 15 R_Cy ∈ zm_all ∧ Cond.instantiable R_Cy 4 ∈ zm_all ∧ Cond.initialized R_Cy ∈ zm_all := ⟨(zt 97 (by decide +kernel) rfl), (zt 98 (by decide +kernel) rfl), (zt 6 (by decide +kernel) rfl)⟩
theorem w_Sn_17 : zm_cw R_Sn 17 M_Cy_init 0 := ⟨(zt 101 (by decide +kernel) rfl), (zt 6 (by decide +kernel) rfl), ⟨by decide, by decide, by decide +kernel⟩, by decide, Or.inr ⟨_, ztn (w := Cond.methodLinkNest R_Sn 17 y_Cy_init "CarouselMount") 99 (by decide +kernel)⟩⟩
theorem w_Sn_17k : Cond.instanceMethod M_Cy_init.1 ∈ zm_all := (zt 100 (by decide +kernel) rfl)
theorem f_Sn_18 : zm_fw R_Sn 18 3 1 R_Sn F_Sn 5 := ⟨rfl, by decide, uin_Sn, Or.inl (zt 120 (by decide +kernel) rfl)⟩
theorem fl_Sn_18 : Cond.fieldLink R_Sn 18 (F_Sn 1).1 (F_Sn 1).2.1 (F_Sn 1).2.2.1 ∈ zm_all := (zt 120 (by decide +kernel) rfl)
theorem f_Sn_22 : zm_fw R_Sn 22 3 2 R_Sn F_Sn 5 := ⟨rfl, by decide, uin_Sn, Or.inl (zt 121 (by decide +kernel) rfl)⟩
theorem fl_Sn_22 : Cond.fieldLink R_Sn 22 (F_Sn 2).1 (F_Sn 2).2.1 (F_Sn 2).2.2.1 ∈ zm_all := (zt 121 (by decide +kernel) rfl)
theorem f_Sn_26 : zm_fw R_Sn 26 3 3 R_Sn F_Sn 5 := ⟨rfl, by decide, uin_Sn, Or.inl (zt 122 (by decide +kernel) rfl)⟩
theorem fl_Sn_26 : Cond.fieldLink R_Sn 26 (F_Sn 3).1 (F_Sn 3).2.1 (F_Sn 3).2.2.1 ∈ zm_all := (zt 122 (by decide +kernel) rfl)
theorem f_Sn_29 : zm_fw R_Sn 29 3 4 R_Sn F_Sn 5 := ⟨rfl, by decide, uin_Sn, Or.inl (zt 123 (by decide +kernel) rfl)⟩
theorem fl_Sn_29 : Cond.fieldLink R_Sn 29 (F_Sn 4).1 (F_Sn 4).2.1 (F_Sn 4).2.2.1 ∈ zm_all := (zt 123 (by decide +kernel) rfl)
theorem f_Sn_32 : zm_fw R_Sn 32 4 1 R_Cy F_Cy 4 := ⟨rfl, by decide, uin_Cy, Or.inl (zt 106 (by decide +kernel) rfl)⟩
theorem fl_Sn_32 : Cond.fieldLink R_Sn 32 (F_Cy 1).1 (F_Cy 1).2.1 (F_Cy 1).2.2.1 ∈ zm_all := (zt 106 (by decide +kernel) rfl)
theorem w_Sn_35 : zm_cw R_Sn 35 M_Cy_renew 1 := ⟨(zt 349 (by decide +kernel) rfl), (zt 6 (by decide +kernel) rfl), ⟨by decide, by decide, by decide +kernel⟩, by decide, Or.inl (zt 346 (by decide +kernel) rfl)⟩
theorem w_Sn_35k : Cond.instanceMethod M_Cy_renew.1 ∈ zm_all ∧ Cond.selects M_Cy_renew.1.cls M_Cy_renew.1 M_Cy_renew.1 ∈ zm_all := ⟨(zt 347 (by decide +kernel) rfl), (zt 348 (by decide +kernel) rfl)⟩
theorem w_Sn_39 : zm_cw R_Sn 39 M_Sn_prepare 0 := ⟨(zt 388 (by decide +kernel) rfl), (zt 5 (by decide +kernel) rfl), ⟨by decide, by decide, by decide +kernel⟩, by decide, Or.inl (zt 385 (by decide +kernel) rfl)⟩
theorem w_Sn_39k : Cond.instanceMethod M_Sn_prepare.1 ∈ zm_all ∧ Cond.selects M_Sn_prepare.1.cls M_Sn_prepare.1 M_Sn_prepare.1 ∈ zm_all := ⟨(zt 387 (by decide +kernel) rfl), (zs (y := y_Sn_prepare) (n := 5) 14 (by decide +kernel))⟩
theorem w_Sn_42 : zm_cw R_Sn 42 M_Cy_startFrom 1 := ⟨(zt 392 (by decide +kernel) rfl), (zt 6 (by decide +kernel) rfl), ⟨by decide, by decide, by decide +kernel⟩, by decide, Or.inl (zt 389 (by decide +kernel) rfl)⟩
theorem w_Sn_42k : Cond.instanceMethod M_Cy_startFrom.1 ∈ zm_all ∧ Cond.selects M_Cy_startFrom.1.cls M_Cy_startFrom.1 M_Cy_startFrom.1 ∈ zm_all := ⟨(zt 390 (by decide +kernel) rfl), (zt 391 (by decide +kernel) rfl)⟩
theorem w_Sn_46 : zm_cw R_Sn 46 M_Sn_load 2 := ⟨(zt 396 (by decide +kernel) rfl), (zt 5 (by decide +kernel) rfl), ⟨by decide, by decide, by decide +kernel⟩, by decide, Or.inl (zt 393 (by decide +kernel) rfl)⟩
theorem w_Sn_46k : Cond.instanceMethod M_Sn_load.1 ∈ zm_all ∧ Cond.selects M_Sn_load.1.cls M_Sn_load.1 M_Sn_load.1 ∈ zm_all := ⟨(zt 395 (by decide +kernel) rfl), (zs (y := y_Sn_load) (n := 5) 15 (by decide +kernel))⟩
theorem f_Sn_50 : zm_fw R_Sn 50 4 0 R_Cy F_Cy 4 := ⟨rfl, by decide, uin_Cy, Or.inl (zt 104 (by decide +kernel) rfl)⟩
theorem fl_Sn_50 : Cond.fieldLink R_Sn 50 (F_Cy 0).1 (F_Cy 0).2.1 (F_Cy 0).2.2.1 ∈ zm_all := (zt 104 (by decide +kernel) rfl)
theorem oi_Tree_3 : Cond.methodLink R_Tree 3 Lib.objectInit ∈ zm_all ∧ Cond.instanceMethod Lib.objectInit ∈ zm_all ∧ Cond.code Lib.objectInit ⟨#[0xb1]⟩ 1 none ∈ zm_all := ⟨(zt 25 (by decide +kernel) rfl), (zt 18 (by decide +kernel) rfl), zt 19 rfl rfl⟩
theorem f_Tree_9 : zm_fw R_Tree 9 1 0 R_Tree F_Tree 5 := ⟨rfl, by decide, uin_Tree, Or.inl (zt 29 (by decide +kernel) rfl)⟩
theorem fl_Tree_9 : Cond.fieldLink R_Tree 9 (F_Tree 0).1 (F_Tree 0).2.1 (F_Tree 0).2.2.1 ∈ zm_all := (zt 29 (by decide +kernel) rfl)
theorem f_Tree_15 : zm_fw R_Tree 15 1 1 R_Tree F_Tree 5 := ⟨rfl, by decide, uin_Tree, Or.inl (zt 30 (by decide +kernel) rfl)⟩
theorem fl_Tree_15 : Cond.fieldLink R_Tree 15 (F_Tree 1).1 (F_Tree 1).2.1 (F_Tree 1).2.2.1 ∈ zm_all := (zt 30 (by decide +kernel) rfl)
theorem f_Tree_18 : zm_fw R_Tree 18 1 2 R_Tree F_Tree 5 := ⟨rfl, by decide, uin_Tree, Or.inl (zt 31 (by decide +kernel) rfl)⟩
theorem fl_Tree_18 : Cond.fieldLink R_Tree 18 (F_Tree 2).1 (F_Tree 2).2.1 (F_Tree 2).2.2.1 ∈ zm_all := (zt 31 (by decide +kernel) rfl)
theorem f_Tree_21 : zm_fw R_Tree 21 1 3 R_Tree F_Tree 5 := ⟨rfl, by decide, uin_Tree, Or.inl (zt 32 (by decide +kernel) rfl)⟩
theorem fl_Tree_21 : Cond.fieldLink R_Tree 21 (F_Tree 3).1 (F_Tree 3).2.1 (F_Tree 3).2.2.1 ∈ zm_all := (zt 32 (by decide +kernel) rfl)
theorem f_Tree_24 : zm_fw R_Tree 24 1 4 R_Tree F_Tree 5 := ⟨rfl, by decide, uin_Tree, Or.inl (zt 33 (by decide +kernel) rfl)⟩
theorem fl_Tree_24 : Cond.fieldLink R_Tree 24 (F_Tree 4).1 (F_Tree 4).2.1 (F_Tree 4).2.2.1 ∈ zm_all := (zt 33 (by decide +kernel) rfl)
theorem w_Tree_27 : zm_cw R_Tree 27 M_Arr_fill 2 := ⟨(zt 28 (by decide +kernel) rfl), (zt 3 (by decide +kernel) rfl), ⟨by decide, by decide, by decide +kernel⟩, by decide, Or.inl (zt 26 (by decide +kernel) rfl)⟩
theorem w_Tree_27k : Cond.static M_Arr_fill.1 ∈ zm_all := (zt 27 (by decide +kernel) rfl)
theorem w_Tree_33 : zm_cw R_Tree 33 M_Tree_isThere 1 := ⟨(zt 218 (by decide +kernel) rfl), (zt 2 (by decide +kernel) rfl), ⟨by decide, by decide, by decide +kernel⟩, by decide, Or.inl (zt 215 (by decide +kernel) rfl)⟩
theorem w_Tree_33k : Cond.instanceMethod M_Tree_isThere.1 ∈ zm_all ∧ Cond.selects M_Tree_isThere.1.cls M_Tree_isThere.1 M_Tree_isThere.1 ∈ zm_all := ⟨(zt 216 (by decide +kernel) rfl), (zt 217 (by decide +kernel) rfl)⟩
theorem w_Tree_37 : zm_cw R_Tree 37 M_Tree_isFile 1 := ⟨(zt 249 (by decide +kernel) rfl), (zt 2 (by decide +kernel) rfl), ⟨by decide, by decide, by decide +kernel⟩, by decide, Or.inl (zt 294 (by decide +kernel) rfl)⟩
theorem w_Tree_37k : Cond.instanceMethod M_Tree_isFile.1 ∈ zm_all ∧ Cond.selects M_Tree_isFile.1.cls M_Tree_isFile.1 M_Tree_isFile.1 ∈ zm_all := ⟨(zt 247 (by decide +kernel) rfl), (zt 248 (by decide +kernel) rfl)⟩
theorem w_Tree_40 : zm_cw R_Tree 40 M_Tree_entryCount 1 := ⟨(zt 234 (by decide +kernel) rfl), (zt 2 (by decide +kernel) rfl), ⟨by decide, by decide, by decide +kernel⟩, by decide, Or.inl (zt 295 (by decide +kernel) rfl)⟩
theorem w_Tree_40k : Cond.instanceMethod M_Tree_entryCount.1 ∈ zm_all ∧ Cond.selects M_Tree_entryCount.1.cls M_Tree_entryCount.1 M_Tree_entryCount.1 ∈ zm_all := ⟨(zt 232 (by decide +kernel) rfl), (zt 233 (by decide +kernel) rfl)⟩
theorem w_Tree_44 : zm_cw R_Tree 44 M_Tree_entryAfter 2 := ⟨(zt 285 (by decide +kernel) rfl), (zt 2 (by decide +kernel) rfl), ⟨by decide, by decide, by decide +kernel⟩, by decide, Or.inl (zt 282 (by decide +kernel) rfl)⟩
theorem w_Tree_44k : Cond.instanceMethod M_Tree_entryAfter.1 ∈ zm_all ∧ Cond.selects M_Tree_entryAfter.1.cls M_Tree_entryAfter.1 M_Tree_entryAfter.1 ∈ zm_all := ⟨(zt 283 (by decide +kernel) rfl), (zt 284 (by decide +kernel) rfl)⟩
theorem k_Int_265 : Cond.constant R_Int 265 1431655765 ∈ zm_all := (zt 523 (by decide +kernel) rfl)
theorem k_Int_266 : Cond.constant R_Int 266 858993459 ∈ zm_all := (zt 524 (by decide +kernel) rfl)
theorem k_Int_267 : Cond.constant R_Int 267 252645135 ∈ zm_all := (zt 525 (by decide +kernel) rfl)
theorem nw_Law_7 : Cond.classLink R_Law 7 R_CM ∈ zm_all ∧ Cond.instantiable R_CM 4 ∈ zm_all ∧ Cond.initialized R_CM ∈ zm_all := ⟨(zt 12 (by decide +kernel) rfl), (zt 13 (by decide +kernel) rfl), (zt 1 (by decide +kernel) rfl)⟩
theorem w_Law_9 : zm_cw R_Law 9 M_CM_init 0 := ⟨(zt 16 (by decide +kernel) rfl), (zt 1 (by decide +kernel) rfl), ⟨by decide, by decide, by decide +kernel⟩, by decide, Or.inl (zt 14 (by decide +kernel) rfl)⟩
theorem w_Law_9k : Cond.instanceMethod M_CM_init.1 ∈ zm_all := (zt 15 (by decide +kernel) rfl)
theorem nw_Law_10 : Cond.classLink R_Law 10 R_Md ∈ zm_all ∧ Cond.instantiable R_Md 33 ∈ zm_all ∧ Cond.initialized R_Md ∈ zm_all := ⟨(zt 582 (by decide +kernel) rfl), (zt 583 (by decide +kernel) rfl), (zt 9 (by decide +kernel) rfl)⟩
theorem w_Law_12 : zm_cw R_Law 12 M_Md_init 0 := ⟨(zt 586 (by decide +kernel) rfl), (zt 9 (by decide +kernel) rfl), ⟨by decide, by decide, by decide +kernel⟩, by decide, Or.inl (zt 584 (by decide +kernel) rfl)⟩
theorem w_Law_12k : Cond.instanceMethod M_Md_init.1 ∈ zm_all := (zt 585 (by decide +kernel) rfl)
theorem w_Law_13 : zm_cw R_Law 13 M_CM_make 3 := ⟨(zt 202 (by decide +kernel) rfl), (zt 1 (by decide +kernel) rfl), ⟨by decide, by decide, by decide +kernel⟩, by decide, Or.inl (zt 199 (by decide +kernel) rfl)⟩
theorem w_Law_13k : Cond.instanceMethod M_CM_make.1 ∈ zm_all ∧ Cond.selects M_CM_make.1.cls M_CM_make.1 M_CM_make.1 ∈ zm_all := ⟨(zt 200 (by decide +kernel) rfl), (zt 201 (by decide +kernel) rfl)⟩
theorem w_Law_17 : zm_cw R_Law 17 M_Md_make 3 := ⟨(zt 692 (by decide +kernel) rfl), (zt 9 (by decide +kernel) rfl), ⟨by decide, by decide, by decide +kernel⟩, by decide, Or.inl (zt 689 (by decide +kernel) rfl)⟩
theorem w_Law_17k : Cond.instanceMethod M_Md_make.1 ∈ zm_all ∧ Cond.selects M_Md_make.1.cls M_Md_make.1 M_Md_make.1 ∈ zm_all := ⟨(zt 690 (by decide +kernel) rfl), (zt 691 (by decide +kernel) rfl)⟩
theorem w_Law_18 : zm_cw R_Law 18 M_CM_remove 1 := ⟨(zt 226 (by decide +kernel) rfl), (zt 1 (by decide +kernel) rfl), ⟨by decide, by decide, by decide +kernel⟩, by decide, Or.inl (zt 223 (by decide +kernel) rfl)⟩
theorem w_Law_18k : Cond.instanceMethod M_CM_remove.1 ∈ zm_all ∧ Cond.selects M_CM_remove.1.cls M_CM_remove.1 M_CM_remove.1 ∈ zm_all := ⟨(zt 224 (by decide +kernel) rfl), (zt 225 (by decide +kernel) rfl)⟩
theorem w_Law_22 : zm_cw R_Law 22 M_Md_remove 1 := ⟨(zt 703 (by decide +kernel) rfl), (zt 9 (by decide +kernel) rfl), ⟨by decide, by decide, by decide +kernel⟩, by decide, Or.inl (zt 700 (by decide +kernel) rfl)⟩
theorem w_Law_22k : Cond.instanceMethod M_Md_remove.1 ∈ zm_all ∧ Cond.selects M_Md_remove.1.cls M_Md_remove.1 M_Md_remove.1 ∈ zm_all := ⟨(zt 701 (by decide +kernel) rfl), (zt 702 (by decide +kernel) rfl)⟩
theorem w_Law_23 : zm_cw R_Law 23 M_CM_append 2 := ⟨(zt 242 (by decide +kernel) rfl), (zt 1 (by decide +kernel) rfl), ⟨by decide, by decide, by decide +kernel⟩, by decide, Or.inl (zt 239 (by decide +kernel) rfl)⟩
theorem w_Law_23k : Cond.instanceMethod M_CM_append.1 ∈ zm_all ∧ Cond.selects M_CM_append.1.cls M_CM_append.1 M_CM_append.1 ∈ zm_all := ⟨(zt 240 (by decide +kernel) rfl), (zt 241 (by decide +kernel) rfl)⟩
theorem w_Law_27 : zm_cw R_Law 27 M_Md_append 2 := ⟨(zt 707 (by decide +kernel) rfl), (zt 9 (by decide +kernel) rfl), ⟨by decide, by decide, by decide +kernel⟩, by decide, Or.inl (zt 704 (by decide +kernel) rfl)⟩
theorem w_Law_27k : Cond.instanceMethod M_Md_append.1 ∈ zm_all ∧ Cond.selects M_Md_append.1.cls M_Md_append.1 M_Md_append.1 ∈ zm_all := ⟨(zt 705 (by decide +kernel) rfl), (zt 706 (by decide +kernel) rfl)⟩
theorem w_Law_28 : zm_cw R_Law 28 M_CM_empty 1 := ⟨(zt 261 (by decide +kernel) rfl), (zt 1 (by decide +kernel) rfl), ⟨by decide, by decide, by decide +kernel⟩, by decide, Or.inl (zt 258 (by decide +kernel) rfl)⟩
theorem w_Law_28k : Cond.instanceMethod M_CM_empty.1 ∈ zm_all ∧ Cond.selects M_CM_empty.1.cls M_CM_empty.1 M_CM_empty.1 ∈ zm_all := ⟨(zt 259 (by decide +kernel) rfl), (zt 260 (by decide +kernel) rfl)⟩
theorem w_Law_31 : zm_cw R_Law 31 M_Md_empty 1 := ⟨(zt 711 (by decide +kernel) rfl), (zt 9 (by decide +kernel) rfl), ⟨by decide, by decide, by decide +kernel⟩, by decide, Or.inl (zt 708 (by decide +kernel) rfl)⟩
theorem w_Law_31k : Cond.instanceMethod M_Md_empty.1 ∈ zm_all ∧ Cond.selects M_Md_empty.1.cls M_Md_empty.1 M_Md_empty.1 ∈ zm_all := ⟨(zt 709 (by decide +kernel) rfl), (zt 710 (by decide +kernel) rfl)⟩
theorem w_Law_32 : zm_cw R_Law 32 M_CM_publish 0 := ⟨(zt 269 (by decide +kernel) rfl), (zt 1 (by decide +kernel) rfl), ⟨by decide, by decide, by decide +kernel⟩, by decide, Or.inl (zt 266 (by decide +kernel) rfl)⟩
theorem w_Law_32k : Cond.instanceMethod M_CM_publish.1 ∈ zm_all ∧ Cond.selects M_CM_publish.1.cls M_CM_publish.1 M_CM_publish.1 ∈ zm_all := ⟨(zt 267 (by decide +kernel) rfl), (zt 268 (by decide +kernel) rfl)⟩
theorem w_Law_36 : zm_cw R_Law 36 M_Md_publish 0 := ⟨(zt 715 (by decide +kernel) rfl), (zt 9 (by decide +kernel) rfl), ⟨by decide, by decide, by decide +kernel⟩, by decide, Or.inl (zt 712 (by decide +kernel) rfl)⟩
theorem w_Law_36k : Cond.instanceMethod M_Md_publish.1 ∈ zm_all ∧ Cond.selects M_Md_publish.1.cls M_Md_publish.1 M_Md_publish.1 ∈ zm_all := ⟨(zt 713 (by decide +kernel) rfl), (zt 714 (by decide +kernel) rfl)⟩
theorem w_Law_37 : zm_cw R_Law 37 M_CM_modules 0 := ⟨(zt 400 (by decide +kernel) rfl), (zt 1 (by decide +kernel) rfl), ⟨by decide, by decide, by decide +kernel⟩, by decide, Or.inl (zt 397 (by decide +kernel) rfl)⟩
theorem w_Law_37k : Cond.instanceMethod M_CM_modules.1 ∈ zm_all ∧ Cond.selects M_CM_modules.1.cls M_CM_modules.1 M_CM_modules.1 ∈ zm_all := ⟨(zt 398 (by decide +kernel) rfl), (zt 399 (by decide +kernel) rfl)⟩
theorem w_Law_40 : zm_cw R_Law 40 M_Md_modules 0 := ⟨(zt 763 (by decide +kernel) rfl), (zt 9 (by decide +kernel) rfl), ⟨by decide, by decide, by decide +kernel⟩, by decide, Or.inl (zt 760 (by decide +kernel) rfl)⟩
theorem w_Law_40k : Cond.instanceMethod M_Md_modules.1 ∈ zm_all ∧ Cond.selects M_Md_modules.1.cls M_Md_modules.1 M_Md_modules.1 ∈ zm_all := ⟨(zt 761 (by decide +kernel) rfl), (zt 762 (by decide +kernel) rfl)⟩
theorem w_Law_41 : zm_cw R_Law 41 M_CM_module 1 := ⟨(zt 404 (by decide +kernel) rfl), (zt 1 (by decide +kernel) rfl), ⟨by decide, by decide, by decide +kernel⟩, by decide, Or.inl (zt 401 (by decide +kernel) rfl)⟩
theorem w_Law_41k : Cond.instanceMethod M_CM_module.1 ∈ zm_all ∧ Cond.selects M_CM_module.1.cls M_CM_module.1 M_CM_module.1 ∈ zm_all := ⟨(zt 402 (by decide +kernel) rfl), (zt 403 (by decide +kernel) rfl)⟩
theorem w_Law_44 : zm_cw R_Law 44 M_Md_module 1 := ⟨(zt 767 (by decide +kernel) rfl), (zt 9 (by decide +kernel) rfl), ⟨by decide, by decide, by decide +kernel⟩, by decide, Or.inl (zt 764 (by decide +kernel) rfl)⟩
theorem w_Law_44k : Cond.instanceMethod M_Md_module.1 ∈ zm_all ∧ Cond.selects M_Md_module.1.cls M_Md_module.1 M_Md_module.1 ∈ zm_all := ⟨(zt 765 (by decide +kernel) rfl), (zt 766 (by decide +kernel) rfl)⟩
theorem w_Law_45 : zm_cw R_Law 45 M_CM_peek 1 := ⟨(zt 409 (by decide +kernel) rfl), (zt 1 (by decide +kernel) rfl), ⟨by decide, by decide, by decide +kernel⟩, by decide, Or.inl (zt 406 (by decide +kernel) rfl)⟩
theorem w_Law_45k : Cond.instanceMethod M_CM_peek.1 ∈ zm_all ∧ Cond.selects M_CM_peek.1.cls M_CM_peek.1 M_CM_peek.1 ∈ zm_all := ⟨(zt 407 (by decide +kernel) rfl), (zt 408 (by decide +kernel) rfl)⟩
theorem w_Law_48 : zm_cw R_Law 48 M_Md_peek 1 := ⟨(zt 772 (by decide +kernel) rfl), (zt 9 (by decide +kernel) rfl), ⟨by decide, by decide, by decide +kernel⟩, by decide, Or.inl (zt 769 (by decide +kernel) rfl)⟩
theorem w_Law_48k : Cond.instanceMethod M_Md_peek.1 ∈ zm_all ∧ Cond.selects M_Md_peek.1.cls M_Md_peek.1 M_Md_peek.1 ∈ zm_all := ⟨(zt 770 (by decide +kernel) rfl), (zt 771 (by decide +kernel) rfl)⟩
theorem w_Law_49 : zm_cw R_Law 49 M_CM_send 1 := ⟨(zt 417 (by decide +kernel) rfl), (zt 1 (by decide +kernel) rfl), ⟨by decide, by decide, by decide +kernel⟩, by decide, Or.inl (zt 414 (by decide +kernel) rfl)⟩
theorem w_Law_49k : Cond.instanceMethod M_CM_send.1 ∈ zm_all ∧ Cond.selects M_CM_send.1.cls M_CM_send.1 M_CM_send.1 ∈ zm_all := ⟨(zt 415 (by decide +kernel) rfl), (zt 416 (by decide +kernel) rfl)⟩
theorem w_Law_52 : zm_cw R_Law 52 M_Md_send 1 := ⟨(zt 784 (by decide +kernel) rfl), (zt 9 (by decide +kernel) rfl), ⟨by decide, by decide, by decide +kernel⟩, by decide, Or.inl (zt 781 (by decide +kernel) rfl)⟩
theorem w_Law_52k : Cond.instanceMethod M_Md_send.1 ∈ zm_all ∧ Cond.selects M_Md_send.1.cls M_Md_send.1 M_Md_send.1 ∈ zm_all := ⟨(zt 782 (by decide +kernel) rfl), (zt 783 (by decide +kernel) rfl)⟩
theorem w_Law_53 : zm_cw R_Law 53 M_CM_lose 1 := ⟨(zt 485 (by decide +kernel) rfl), (zt 1 (by decide +kernel) rfl), ⟨by decide, by decide, by decide +kernel⟩, by decide, Or.inl (zt 482 (by decide +kernel) rfl)⟩
theorem w_Law_53k : Cond.instanceMethod M_CM_lose.1 ∈ zm_all ∧ Cond.selects M_CM_lose.1.cls M_CM_lose.1 M_CM_lose.1 ∈ zm_all := ⟨(zt 483 (by decide +kernel) rfl), (zt 484 (by decide +kernel) rfl)⟩
theorem w_Law_56 : zm_cw R_Law 56 M_Md_lose 1 := ⟨(zt 844 (by decide +kernel) rfl), (zt 9 (by decide +kernel) rfl), ⟨by decide, by decide, by decide +kernel⟩, by decide, Or.inl (zt 841 (by decide +kernel) rfl)⟩
theorem w_Law_56k : Cond.instanceMethod M_Md_lose.1 ∈ zm_all ∧ Cond.selects M_Md_lose.1.cls M_Md_lose.1 M_Md_lose.1 ∈ zm_all := ⟨(zt 842 (by decide +kernel) rfl), (zt 843 (by decide +kernel) rfl)⟩
theorem w_Law_57 : zm_cw R_Law 57 M_CM_spoil 2 := ⟨(zt 489 (by decide +kernel) rfl), (zt 1 (by decide +kernel) rfl), ⟨by decide, by decide, by decide +kernel⟩, by decide, Or.inl (zt 486 (by decide +kernel) rfl)⟩
theorem w_Law_57k : Cond.instanceMethod M_CM_spoil.1 ∈ zm_all ∧ Cond.selects M_CM_spoil.1.cls M_CM_spoil.1 M_CM_spoil.1 ∈ zm_all := ⟨(zt 487 (by decide +kernel) rfl), (zt 488 (by decide +kernel) rfl)⟩
theorem w_Law_60 : zm_cw R_Law 60 M_Md_spoil 2 := ⟨(zt 848 (by decide +kernel) rfl), (zt 9 (by decide +kernel) rfl), ⟨by decide, by decide, by decide +kernel⟩, by decide, Or.inl (zt 845 (by decide +kernel) rfl)⟩
theorem w_Law_60k : Cond.instanceMethod M_Md_spoil.1 ∈ zm_all ∧ Cond.selects M_Md_spoil.1.cls M_Md_spoil.1 M_Md_spoil.1 ∈ zm_all := ⟨(zt 846 (by decide +kernel) rfl), (zt 847 (by decide +kernel) rfl)⟩
theorem w_Law_61 : zm_cw R_Law 61 M_CM_retune 0 := ⟨(zt 493 (by decide +kernel) rfl), (zt 1 (by decide +kernel) rfl), ⟨by decide, by decide, by decide +kernel⟩, by decide, Or.inl (zt 490 (by decide +kernel) rfl)⟩
theorem w_Law_61k : Cond.instanceMethod M_CM_retune.1 ∈ zm_all ∧ Cond.selects M_CM_retune.1.cls M_CM_retune.1 M_CM_retune.1 ∈ zm_all := ⟨(zt 491 (by decide +kernel) rfl), (zt 492 (by decide +kernel) rfl)⟩
theorem w_Law_64 : zm_cw R_Law 64 M_Md_retune 0 := ⟨(zt 852 (by decide +kernel) rfl), (zt 9 (by decide +kernel) rfl), ⟨by decide, by decide, by decide +kernel⟩, by decide, Or.inl (zt 849 (by decide +kernel) rfl)⟩
theorem w_Law_64k : Cond.instanceMethod M_Md_retune.1 ∈ zm_all ∧ Cond.selects M_Md_retune.1.cls M_Md_retune.1 M_Md_retune.1 ∈ zm_all := ⟨(zt 850 (by decide +kernel) rfl), (zt 851 (by decide +kernel) rfl)⟩
theorem w_Law_65 : zm_cw R_Law 65 M_CM_count 1 := ⟨(zt 506 (by decide +kernel) rfl), (zt 1 (by decide +kernel) rfl), ⟨by decide, by decide, by decide +kernel⟩, by decide, Or.inl (zt 503 (by decide +kernel) rfl)⟩
theorem w_Law_65k : Cond.instanceMethod M_CM_count.1 ∈ zm_all ∧ Cond.selects M_CM_count.1.cls M_CM_count.1 M_CM_count.1 ∈ zm_all := ⟨(zt 504 (by decide +kernel) rfl), (zt 505 (by decide +kernel) rfl)⟩
theorem w_Law_68 : zm_cw R_Law 68 M_Md_count 1 := ⟨(zt 856 (by decide +kernel) rfl), (zt 9 (by decide +kernel) rfl), ⟨by decide, by decide, by decide +kernel⟩, by decide, Or.inl (zt 853 (by decide +kernel) rfl)⟩
theorem w_Law_68k : Cond.instanceMethod M_Md_count.1 ∈ zm_all ∧ Cond.selects M_Md_count.1.cls M_Md_count.1 M_Md_count.1 ∈ zm_all := ⟨(zt 854 (by decide +kernel) rfl), (zt 855 (by decide +kernel) rfl)⟩
theorem w_Law_69 : zm_cw R_Law 69 M_CM_transaction 0 := ⟨(zt 510 (by decide +kernel) rfl), (zt 1 (by decide +kernel) rfl), ⟨by decide, by decide, by decide +kernel⟩, by decide, Or.inl (zt 507 (by decide +kernel) rfl)⟩
theorem w_Law_69k : Cond.instanceMethod M_CM_transaction.1 ∈ zm_all ∧ Cond.selects M_CM_transaction.1.cls M_CM_transaction.1 M_CM_transaction.1 ∈ zm_all := ⟨(zt 508 (by decide +kernel) rfl), (zt 509 (by decide +kernel) rfl)⟩
theorem w_Law_72 : zm_cw R_Law 72 M_Md_transaction 0 := ⟨(zt 860 (by decide +kernel) rfl), (zt 9 (by decide +kernel) rfl), ⟨by decide, by decide, by decide +kernel⟩, by decide, Or.inl (zt 857 (by decide +kernel) rfl)⟩
theorem w_Law_72k : Cond.instanceMethod M_Md_transaction.1 ∈ zm_all ∧ Cond.selects M_Md_transaction.1.cls M_Md_transaction.1 M_Md_transaction.1 ∈ zm_all := ⟨(zt 858 (by decide +kernel) rfl), (zt 859 (by decide +kernel) rfl)⟩
theorem w_Law_73 : zm_cw R_Law 73 M_CM_held 1 := ⟨(zt 514 (by decide +kernel) rfl), (zt 1 (by decide +kernel) rfl), ⟨by decide, by decide, by decide +kernel⟩, by decide, Or.inl (zt 511 (by decide +kernel) rfl)⟩
theorem w_Law_73k : Cond.instanceMethod M_CM_held.1 ∈ zm_all ∧ Cond.selects M_CM_held.1.cls M_CM_held.1 M_CM_held.1 ∈ zm_all := ⟨(zt 512 (by decide +kernel) rfl), (zt 513 (by decide +kernel) rfl)⟩
theorem w_Law_76 : zm_cw R_Law 76 M_Md_held 1 := ⟨(zt 864 (by decide +kernel) rfl), (zt 9 (by decide +kernel) rfl), ⟨by decide, by decide, by decide +kernel⟩, by decide, Or.inl (zt 861 (by decide +kernel) rfl)⟩
theorem w_Law_76k : Cond.instanceMethod M_Md_held.1 ∈ zm_all ∧ Cond.selects M_Md_held.1.cls M_Md_held.1 M_Md_held.1 ∈ zm_all := ⟨(zt 862 (by decide +kernel) rfl), (zt 863 (by decide +kernel) rfl)⟩
theorem w_Law_77 : zm_cw R_Law 77 M_CM_kind 3 := ⟨(zt 529 (by decide +kernel) rfl), (zt 1 (by decide +kernel) rfl), ⟨by decide, by decide, by decide +kernel⟩, by decide, Or.inl (zt 526 (by decide +kernel) rfl)⟩
theorem w_Law_77k : Cond.instanceMethod M_CM_kind.1 ∈ zm_all ∧ Cond.selects M_CM_kind.1.cls M_CM_kind.1 M_CM_kind.1 ∈ zm_all := ⟨(zt 527 (by decide +kernel) rfl), (zt 528 (by decide +kernel) rfl)⟩
theorem w_Law_81 : zm_cw R_Law 81 M_Md_kind 3 := ⟨(zt 872 (by decide +kernel) rfl), (zt 9 (by decide +kernel) rfl), ⟨by decide, by decide, by decide +kernel⟩, by decide, Or.inl (zt 869 (by decide +kernel) rfl)⟩
theorem w_Law_81k : Cond.instanceMethod M_Md_kind.1 ∈ zm_all ∧ Cond.selects M_Md_kind.1.cls M_Md_kind.1 M_Md_kind.1 ∈ zm_all := ⟨(zt 870 (by decide +kernel) rfl), (zt 871 (by decide +kernel) rfl)⟩
theorem w_Law_82 : zm_cw R_Law 82 M_CM_size 3 := ⟨(zt 571 (by decide +kernel) rfl), (zt 1 (by decide +kernel) rfl), ⟨by decide, by decide, by decide +kernel⟩, by decide, Or.inl (zt 568 (by decide +kernel) rfl)⟩
theorem w_Law_82k : Cond.instanceMethod M_CM_size.1 ∈ zm_all ∧ Cond.selects M_CM_size.1.cls M_CM_size.1 M_CM_size.1 ∈ zm_all := ⟨(zt 569 (by decide +kernel) rfl), (zt 570 (by decide +kernel) rfl)⟩
theorem w_Law_85 : zm_cw R_Law 85 M_Md_size 3 := ⟨(zt 900 (by decide +kernel) rfl), (zt 9 (by decide +kernel) rfl), ⟨by decide, by decide, by decide +kernel⟩, by decide, Or.inl (zt 897 (by decide +kernel) rfl)⟩
theorem w_Law_85k : Cond.instanceMethod M_Md_size.1 ∈ zm_all ∧ Cond.selects M_Md_size.1.cls M_Md_size.1 M_Md_size.1 ∈ zm_all := ⟨(zt 898 (by decide +kernel) rfl), (zt 899 (by decide +kernel) rfl)⟩
theorem w_Law_86 : zm_cw R_Law 86 M_CM_read 4 := ⟨(zt 577 (by decide +kernel) rfl), (zt 1 (by decide +kernel) rfl), ⟨by decide, by decide, by decide +kernel⟩, by decide, Or.inl (zt 574 (by decide +kernel) rfl)⟩
theorem w_Law_86k : Cond.instanceMethod M_CM_read.1 ∈ zm_all ∧ Cond.selects M_CM_read.1.cls M_CM_read.1 M_CM_read.1 ∈ zm_all := ⟨(zt 575 (by decide +kernel) rfl), (zt 576 (by decide +kernel) rfl)⟩
theorem w_Law_90 : zm_cw R_Law 90 M_Md_read 4 := ⟨(zt 904 (by decide +kernel) rfl), (zt 9 (by decide +kernel) rfl), ⟨by decide, by decide, by decide +kernel⟩, by decide, Or.inl (zt 901 (by decide +kernel) rfl)⟩
theorem w_Law_90k : Cond.instanceMethod M_Md_read.1 ∈ zm_all ∧ Cond.selects M_Md_read.1.cls M_Md_read.1 M_Md_read.1 ∈ zm_all := ⟨(zt 902 (by decide +kernel) rfl), (zt 903 (by decide +kernel) rfl)⟩
theorem acI : Cond.arrayClass .int ∈ zm_all := zt 45 (by decide +kernel) rfl
theorem acZ : Cond.arrayClass .boolean ∈ zm_all := zt 688 (by decide +kernel) rfl
