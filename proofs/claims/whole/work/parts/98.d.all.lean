/-! every call alike: the law's walk -/
theorem sm_all : hs_all Sm := ⟨sm_addPage, sm_setMood, sm_addChoice, sm_addChoices, sm_takeChoice, sm_exchange, sm_begin, sm_choose, sm_mark, sm_goToMark, sm_type, sm_clearText, sm_undo, sm_keep, sm_restore, sm_page, sm_choice, sm_reader, sm_why, sm_way, sm_wayMood, sm_count⟩
