/-! PURE: all calls -/
theorem s_all : x_All x_R := ⟨s_sheet, s_set, s_copy, s_drop, s_feed, s_read, s_fault, s_layer, s_fact, s_facts, s_point, s_wake, s_sleep, s_row, s_call, s_ran, s_together, s_same, s_kind, s_as, s_ask, s_trace, s_count, s_status⟩
