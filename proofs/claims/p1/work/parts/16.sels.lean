theorem sel_O_takeDraft : Cond.selects rc_O y_O_takeDraft y_O_takeDraft ∈ wal := wal_in (List.mem_append_left _ (by decide +kernel)) rfl
theorem sel_O_patternEnd : Cond.selects rc_O y_O_patternEnd y_O_patternEnd ∈ wal := wal_in (List.mem_append_left _ (by decide +kernel)) rfl
theorem sel_O_beginLists : Cond.selects rc_O y_O_beginLists y_O_beginLists ∈ wal := wal_in (List.mem_append_left _ (by decide +kernel)) rfl
theorem sel_O_fail : Cond.selects rc_O y_O_fail y_O_fail ∈ wal := wal_in (List.mem_append_left _ (by decide +kernel)) rfl
theorem sel_O_termEnd : Cond.selects rc_O y_O_termEnd y_O_termEnd ∈ wal := wal_in (List.mem_append_left _ (by decide +kernel)) rfl
