/-! the law's cases (by wip/gen/lawgen.py) -/
theorem mL_X11_act : yX11_act.cls ≠ "java/lang/invoke/MethodHandle" ∧ yX11_act.cls ≠ "java/lang/invoke/VarHandle" ∧ (parseMethodDescriptor yX11_act.desc).map (fun d => d.parameters.length) = some 3 := by decide +kernel
theorem mL_X11_again : yX11_again.cls ≠ "java/lang/invoke/MethodHandle" ∧ yX11_again.cls ≠ "java/lang/invoke/VarHandle" ∧ (parseMethodDescriptor yX11_again.desc).map (fun d => d.parameters.length) = some 0 := by decide +kernel
theorem mL_X11_alterRow : yX11_alterRow.cls ≠ "java/lang/invoke/MethodHandle" ∧ yX11_alterRow.cls ≠ "java/lang/invoke/VarHandle" ∧ (parseMethodDescriptor yX11_alterRow.desc).map (fun d => d.parameters.length) = some 3 := by decide +kernel
theorem mL_X11_anew : yX11_anew.cls ≠ "java/lang/invoke/MethodHandle" ∧ yX11_anew.cls ≠ "java/lang/invoke/VarHandle" ∧ (parseMethodDescriptor yX11_anew.desc).map (fun d => d.parameters.length) = some 0 := by decide +kernel
theorem mL_X11_bars : yX11_bars.cls ≠ "java/lang/invoke/MethodHandle" ∧ yX11_bars.cls ≠ "java/lang/invoke/VarHandle" ∧ (parseMethodDescriptor yX11_bars.desc).map (fun d => d.parameters.length) = some 2 := by decide +kernel
theorem mL_X11_best : yX11_best.cls ≠ "java/lang/invoke/MethodHandle" ∧ yX11_best.cls ≠ "java/lang/invoke/VarHandle" ∧ (parseMethodDescriptor yX11_best.desc).map (fun d => d.parameters.length) = some 1 := by decide +kernel
theorem mL_X11_cases : yX11_cases.cls ≠ "java/lang/invoke/MethodHandle" ∧ yX11_cases.cls ≠ "java/lang/invoke/VarHandle" ∧ (parseMethodDescriptor yX11_cases.desc).map (fun d => d.parameters.length) = some 1 := by decide +kernel
theorem mL_X11_change : yX11_change.cls ≠ "java/lang/invoke/MethodHandle" ∧ yX11_change.cls ≠ "java/lang/invoke/VarHandle" ∧ (parseMethodDescriptor yX11_change.desc).map (fun d => d.parameters.length) = some 3 := by decide +kernel
theorem mL_X11_circuit : yX11_circuit.cls ≠ "java/lang/invoke/MethodHandle" ∧ yX11_circuit.cls ≠ "java/lang/invoke/VarHandle" ∧ (parseMethodDescriptor yX11_circuit.desc).map (fun d => d.parameters.length) = some 2 := by decide +kernel
theorem mL_X11_ends : yX11_ends.cls ≠ "java/lang/invoke/MethodHandle" ∧ yX11_ends.cls ≠ "java/lang/invoke/VarHandle" ∧ (parseMethodDescriptor yX11_ends.desc).map (fun d => d.parameters.length) = some 1 := by decide +kernel
theorem mL_X11_farm : yX11_farm.cls ≠ "java/lang/invoke/MethodHandle" ∧ yX11_farm.cls ≠ "java/lang/invoke/VarHandle" ∧ (parseMethodDescriptor yX11_farm.desc).map (fun d => d.parameters.length) = some 3 := by decide +kernel
theorem mL_X11_farmOf : yX11_farmOf.cls ≠ "java/lang/invoke/MethodHandle" ∧ yX11_farmOf.cls ≠ "java/lang/invoke/VarHandle" ∧ (parseMethodDescriptor yX11_farmOf.desc).map (fun d => d.parameters.length) = some 2 := by decide +kernel
theorem mL_X11_feed : yX11_feed.cls ≠ "java/lang/invoke/MethodHandle" ∧ yX11_feed.cls ≠ "java/lang/invoke/VarHandle" ∧ (parseMethodDescriptor yX11_feed.desc).map (fun d => d.parameters.length) = some 2 := by decide +kernel
theorem mL_X11_forget : yX11_forget.cls ≠ "java/lang/invoke/MethodHandle" ∧ yX11_forget.cls ≠ "java/lang/invoke/VarHandle" ∧ (parseMethodDescriptor yX11_forget.desc).map (fun d => d.parameters.length) = some 0 := by decide +kernel
theorem mL_X11_game : yX11_game.cls ≠ "java/lang/invoke/MethodHandle" ∧ yX11_game.cls ≠ "java/lang/invoke/VarHandle" ∧ (parseMethodDescriptor yX11_game.desc).map (fun d => d.parameters.length) = some 1 := by decide +kernel
theorem mL_X11_goAll : yX11_goAll.cls ≠ "java/lang/invoke/MethodHandle" ∧ yX11_goAll.cls ≠ "java/lang/invoke/VarHandle" ∧ (parseMethodDescriptor yX11_goAll.desc).map (fun d => d.parameters.length) = some 3 := by decide +kernel
theorem mL_X11_gust : yX11_gust.cls ≠ "java/lang/invoke/MethodHandle" ∧ yX11_gust.cls ≠ "java/lang/invoke/VarHandle" ∧ (parseMethodDescriptor yX11_gust.desc).map (fun d => d.parameters.length) = some 0 := by decide +kernel
theorem mL_X11_item : yX11_item.cls ≠ "java/lang/invoke/MethodHandle" ∧ yX11_item.cls ≠ "java/lang/invoke/VarHandle" ∧ (parseMethodDescriptor yX11_item.desc).map (fun d => d.parameters.length) = some 3 := by decide +kernel
theorem mL_X11_ith : yX11_ith.cls ≠ "java/lang/invoke/MethodHandle" ∧ yX11_ith.cls ≠ "java/lang/invoke/VarHandle" ∧ (parseMethodDescriptor yX11_ith.desc).map (fun d => d.parameters.length) = some 2 := by decide +kernel
theorem mL_X11_judge : yX11_judge.cls ≠ "java/lang/invoke/MethodHandle" ∧ yX11_judge.cls ≠ "java/lang/invoke/VarHandle" ∧ (parseMethodDescriptor yX11_judge.desc).map (fun d => d.parameters.length) = some 0 := by decide +kernel
theorem mL_X11_keep : yX11_keep.cls ≠ "java/lang/invoke/MethodHandle" ∧ yX11_keep.cls ≠ "java/lang/invoke/VarHandle" ∧ (parseMethodDescriptor yX11_keep.desc).map (fun d => d.parameters.length) = some 0 := by decide +kernel
theorem mL_X11_kite : yX11_kite.cls ≠ "java/lang/invoke/MethodHandle" ∧ yX11_kite.cls ≠ "java/lang/invoke/VarHandle" ∧ (parseMethodDescriptor yX11_kite.desc).map (fun d => d.parameters.length) = some 4 := by decide +kernel
theorem mL_X11_kiteOf : yX11_kiteOf.cls ≠ "java/lang/invoke/MethodHandle" ∧ yX11_kiteOf.cls ≠ "java/lang/invoke/VarHandle" ∧ (parseMethodDescriptor yX11_kiteOf.desc).map (fun d => d.parameters.length) = some 2 := by decide +kernel
theorem mL_X11_liar : yX11_liar.cls ≠ "java/lang/invoke/MethodHandle" ∧ yX11_liar.cls ≠ "java/lang/invoke/VarHandle" ∧ (parseMethodDescriptor yX11_liar.desc).map (fun d => d.parameters.length) = some 0 := by decide +kernel
theorem mL_X11_lot : yX11_lot.cls ≠ "java/lang/invoke/MethodHandle" ∧ yX11_lot.cls ≠ "java/lang/invoke/VarHandle" ∧ (parseMethodDescriptor yX11_lot.desc).map (fun d => d.parameters.length) = some 0 := by decide +kernel
theorem mL_X11_many : yX11_many.cls ≠ "java/lang/invoke/MethodHandle" ∧ yX11_many.cls ≠ "java/lang/invoke/VarHandle" ∧ (parseMethodDescriptor yX11_many.desc).map (fun d => d.parameters.length) = some 1 := by decide +kernel
theorem mL_X11_nameFor : yX11_nameFor.cls ≠ "java/lang/invoke/MethodHandle" ∧ yX11_nameFor.cls ≠ "java/lang/invoke/VarHandle" ∧ (parseMethodDescriptor yX11_nameFor.desc).map (fun d => d.parameters.length) = some 1 := by decide +kernel
theorem mL_X11_on : yX11_on.cls ≠ "java/lang/invoke/MethodHandle" ∧ yX11_on.cls ≠ "java/lang/invoke/VarHandle" ∧ (parseMethodDescriptor yX11_on.desc).map (fun d => d.parameters.length) = some 1 := by decide +kernel
theorem mL_X11_over : yX11_over.cls ≠ "java/lang/invoke/MethodHandle" ∧ yX11_over.cls ≠ "java/lang/invoke/VarHandle" ∧ (parseMethodDescriptor yX11_over.desc).map (fun d => d.parameters.length) = some 1 := by decide +kernel
theorem mL_X11_play : yX11_play.cls ≠ "java/lang/invoke/MethodHandle" ∧ yX11_play.cls ≠ "java/lang/invoke/VarHandle" ∧ (parseMethodDescriptor yX11_play.desc).map (fun d => d.parameters.length) = some 1 := by decide +kernel
theorem mL_X11_prove : yX11_prove.cls ≠ "java/lang/invoke/MethodHandle" ∧ yX11_prove.cls ≠ "java/lang/invoke/VarHandle" ∧ (parseMethodDescriptor yX11_prove.desc).map (fun d => d.parameters.length) = some 1 := by decide +kernel
theorem mL_X11_remake : yX11_remake.cls ≠ "java/lang/invoke/MethodHandle" ∧ yX11_remake.cls ≠ "java/lang/invoke/VarHandle" ∧ (parseMethodDescriptor yX11_remake.desc).map (fun d => d.parameters.length) = some 2 := by decide +kernel
theorem mL_X11_report : yX11_report.cls ≠ "java/lang/invoke/MethodHandle" ∧ yX11_report.cls ≠ "java/lang/invoke/VarHandle" ∧ (parseMethodDescriptor yX11_report.desc).map (fun d => d.parameters.length) = some 4 := by decide +kernel
theorem mL_X11_row : yX11_row.cls ≠ "java/lang/invoke/MethodHandle" ∧ yX11_row.cls ≠ "java/lang/invoke/VarHandle" ∧ (parseMethodDescriptor yX11_row.desc).map (fun d => d.parameters.length) = some 2 := by decide +kernel
theorem mL_X11_rules : yX11_rules.cls ≠ "java/lang/invoke/MethodHandle" ∧ yX11_rules.cls ≠ "java/lang/invoke/VarHandle" ∧ (parseMethodDescriptor yX11_rules.desc).map (fun d => d.parameters.length) = some 0 := by decide +kernel
theorem mL_X11_seed : yX11_seed.cls ≠ "java/lang/invoke/MethodHandle" ∧ yX11_seed.cls ≠ "java/lang/invoke/VarHandle" ∧ (parseMethodDescriptor yX11_seed.desc).map (fun d => d.parameters.length) = some 1 := by decide +kernel
theorem mL_X11_sheet : yX11_sheet.cls ≠ "java/lang/invoke/MethodHandle" ∧ yX11_sheet.cls ≠ "java/lang/invoke/VarHandle" ∧ (parseMethodDescriptor yX11_sheet.desc).map (fun d => d.parameters.length) = some 3 := by decide +kernel
theorem mL_X11_shelf : yX11_shelf.cls ≠ "java/lang/invoke/MethodHandle" ∧ yX11_shelf.cls ≠ "java/lang/invoke/VarHandle" ∧ (parseMethodDescriptor yX11_shelf.desc).map (fun d => d.parameters.length) = some 3 := by decide +kernel
theorem mL_X11_span : yX11_span.cls ≠ "java/lang/invoke/MethodHandle" ∧ yX11_span.cls ≠ "java/lang/invoke/VarHandle" ∧ (parseMethodDescriptor yX11_span.desc).map (fun d => d.parameters.length) = some 1 := by decide +kernel
theorem mL_X11_state : yX11_state.cls ≠ "java/lang/invoke/MethodHandle" ∧ yX11_state.cls ≠ "java/lang/invoke/VarHandle" ∧ (parseMethodDescriptor yX11_state.desc).map (fun d => d.parameters.length) = some 1 := by decide +kernel
theorem mL_X11_stringFor : yX11_stringFor.cls ≠ "java/lang/invoke/MethodHandle" ∧ yX11_stringFor.cls ≠ "java/lang/invoke/VarHandle" ∧ (parseMethodDescriptor yX11_stringFor.desc).map (fun d => d.parameters.length) = some 1 := by decide +kernel
theorem mL_X11_taken : yX11_taken.cls ≠ "java/lang/invoke/MethodHandle" ∧ yX11_taken.cls ≠ "java/lang/invoke/VarHandle" ∧ (parseMethodDescriptor yX11_taken.desc).map (fun d => d.parameters.length) = some 2 := by decide +kernel
theorem mL_X11_times : yX11_times.cls ≠ "java/lang/invoke/MethodHandle" ∧ yX11_times.cls ≠ "java/lang/invoke/VarHandle" ∧ (parseMethodDescriptor yX11_times.desc).map (fun d => d.parameters.length) = some 2 := by decide +kernel
theorem mL_X11_trace : yX11_trace.cls ≠ "java/lang/invoke/MethodHandle" ∧ yX11_trace.cls ≠ "java/lang/invoke/VarHandle" ∧ (parseMethodDescriptor yX11_trace.desc).map (fun d => d.parameters.length) = some 1 := by decide +kernel
theorem mL_X11_ways : yX11_ways.cls ≠ "java/lang/invoke/MethodHandle" ∧ yX11_ways.cls ≠ "java/lang/invoke/VarHandle" ∧ (parseMethodDescriptor yX11_ways.desc).map (fun d => d.parameters.length) = some 1 := by decide +kernel
theorem mL_X11_when : yX11_when.cls ≠ "java/lang/invoke/MethodHandle" ∧ yX11_when.cls ≠ "java/lang/invoke/VarHandle" ∧ (parseMethodDescriptor yX11_when.desc).map (fun d => d.parameters.length) = some 1 := by decide +kernel
theorem mL_X11_wind : yX11_wind.cls ≠ "java/lang/invoke/MethodHandle" ∧ yX11_wind.cls ≠ "java/lang/invoke/VarHandle" ∧ (parseMethodDescriptor yX11_wind.desc).map (fun d => d.parameters.length) = some 2 := by decide +kernel
theorem mL_X11_wouldBe : yX11_wouldBe.cls ≠ "java/lang/invoke/MethodHandle" ∧ yX11_wouldBe.cls ≠ "java/lang/invoke/VarHandle" ∧ (parseMethodDescriptor yX11_wouldBe.desc).map (fun d => d.parameters.length) = some 3 := by decide +kernel
theorem mL_X11_writ : yX11_writ.cls ≠ "java/lang/invoke/MethodHandle" ∧ yX11_writ.cls ≠ "java/lang/invoke/VarHandle" ∧ (parseMethodDescriptor yX11_writ.desc).map (fun d => d.parameters.length) = some 2 := by decide +kernel
theorem mL_X11_write : yX11_write.cls ≠ "java/lang/invoke/MethodHandle" ∧ yX11_write.cls ≠ "java/lang/invoke/VarHandle" ∧ (parseMethodDescriptor yX11_write.desc).map (fun d => d.parameters.length) = some 3 := by decide +kernel
theorem mL_X12_act : yX12_act.cls ≠ "java/lang/invoke/MethodHandle" ∧ yX12_act.cls ≠ "java/lang/invoke/VarHandle" ∧ (parseMethodDescriptor yX12_act.desc).map (fun d => d.parameters.length) = some 3 := by decide +kernel
theorem mL_X12_again : yX12_again.cls ≠ "java/lang/invoke/MethodHandle" ∧ yX12_again.cls ≠ "java/lang/invoke/VarHandle" ∧ (parseMethodDescriptor yX12_again.desc).map (fun d => d.parameters.length) = some 0 := by decide +kernel
theorem mL_X12_alterRow : yX12_alterRow.cls ≠ "java/lang/invoke/MethodHandle" ∧ yX12_alterRow.cls ≠ "java/lang/invoke/VarHandle" ∧ (parseMethodDescriptor yX12_alterRow.desc).map (fun d => d.parameters.length) = some 3 := by decide +kernel
theorem mL_X12_anew : yX12_anew.cls ≠ "java/lang/invoke/MethodHandle" ∧ yX12_anew.cls ≠ "java/lang/invoke/VarHandle" ∧ (parseMethodDescriptor yX12_anew.desc).map (fun d => d.parameters.length) = some 0 := by decide +kernel
theorem mL_X12_bars : yX12_bars.cls ≠ "java/lang/invoke/MethodHandle" ∧ yX12_bars.cls ≠ "java/lang/invoke/VarHandle" ∧ (parseMethodDescriptor yX12_bars.desc).map (fun d => d.parameters.length) = some 2 := by decide +kernel
theorem mL_X12_best : yX12_best.cls ≠ "java/lang/invoke/MethodHandle" ∧ yX12_best.cls ≠ "java/lang/invoke/VarHandle" ∧ (parseMethodDescriptor yX12_best.desc).map (fun d => d.parameters.length) = some 1 := by decide +kernel
theorem mL_X12_cases : yX12_cases.cls ≠ "java/lang/invoke/MethodHandle" ∧ yX12_cases.cls ≠ "java/lang/invoke/VarHandle" ∧ (parseMethodDescriptor yX12_cases.desc).map (fun d => d.parameters.length) = some 1 := by decide +kernel
theorem mL_X12_change : yX12_change.cls ≠ "java/lang/invoke/MethodHandle" ∧ yX12_change.cls ≠ "java/lang/invoke/VarHandle" ∧ (parseMethodDescriptor yX12_change.desc).map (fun d => d.parameters.length) = some 3 := by decide +kernel
theorem mL_X12_circuit : yX12_circuit.cls ≠ "java/lang/invoke/MethodHandle" ∧ yX12_circuit.cls ≠ "java/lang/invoke/VarHandle" ∧ (parseMethodDescriptor yX12_circuit.desc).map (fun d => d.parameters.length) = some 2 := by decide +kernel
theorem mL_X12_ends : yX12_ends.cls ≠ "java/lang/invoke/MethodHandle" ∧ yX12_ends.cls ≠ "java/lang/invoke/VarHandle" ∧ (parseMethodDescriptor yX12_ends.desc).map (fun d => d.parameters.length) = some 1 := by decide +kernel
theorem mL_X12_farm : yX12_farm.cls ≠ "java/lang/invoke/MethodHandle" ∧ yX12_farm.cls ≠ "java/lang/invoke/VarHandle" ∧ (parseMethodDescriptor yX12_farm.desc).map (fun d => d.parameters.length) = some 3 := by decide +kernel
theorem mL_X12_farmOf : yX12_farmOf.cls ≠ "java/lang/invoke/MethodHandle" ∧ yX12_farmOf.cls ≠ "java/lang/invoke/VarHandle" ∧ (parseMethodDescriptor yX12_farmOf.desc).map (fun d => d.parameters.length) = some 2 := by decide +kernel
theorem mL_X12_feed : yX12_feed.cls ≠ "java/lang/invoke/MethodHandle" ∧ yX12_feed.cls ≠ "java/lang/invoke/VarHandle" ∧ (parseMethodDescriptor yX12_feed.desc).map (fun d => d.parameters.length) = some 2 := by decide +kernel
theorem mL_X12_forget : yX12_forget.cls ≠ "java/lang/invoke/MethodHandle" ∧ yX12_forget.cls ≠ "java/lang/invoke/VarHandle" ∧ (parseMethodDescriptor yX12_forget.desc).map (fun d => d.parameters.length) = some 0 := by decide +kernel
theorem mL_X12_game : yX12_game.cls ≠ "java/lang/invoke/MethodHandle" ∧ yX12_game.cls ≠ "java/lang/invoke/VarHandle" ∧ (parseMethodDescriptor yX12_game.desc).map (fun d => d.parameters.length) = some 1 := by decide +kernel
theorem mL_X12_goAll : yX12_goAll.cls ≠ "java/lang/invoke/MethodHandle" ∧ yX12_goAll.cls ≠ "java/lang/invoke/VarHandle" ∧ (parseMethodDescriptor yX12_goAll.desc).map (fun d => d.parameters.length) = some 3 := by decide +kernel
theorem mL_X12_gust : yX12_gust.cls ≠ "java/lang/invoke/MethodHandle" ∧ yX12_gust.cls ≠ "java/lang/invoke/VarHandle" ∧ (parseMethodDescriptor yX12_gust.desc).map (fun d => d.parameters.length) = some 0 := by decide +kernel
theorem mL_X12_item : yX12_item.cls ≠ "java/lang/invoke/MethodHandle" ∧ yX12_item.cls ≠ "java/lang/invoke/VarHandle" ∧ (parseMethodDescriptor yX12_item.desc).map (fun d => d.parameters.length) = some 3 := by decide +kernel
theorem mL_X12_ith : yX12_ith.cls ≠ "java/lang/invoke/MethodHandle" ∧ yX12_ith.cls ≠ "java/lang/invoke/VarHandle" ∧ (parseMethodDescriptor yX12_ith.desc).map (fun d => d.parameters.length) = some 2 := by decide +kernel
theorem mL_X12_judge : yX12_judge.cls ≠ "java/lang/invoke/MethodHandle" ∧ yX12_judge.cls ≠ "java/lang/invoke/VarHandle" ∧ (parseMethodDescriptor yX12_judge.desc).map (fun d => d.parameters.length) = some 0 := by decide +kernel
theorem mL_X12_keep : yX12_keep.cls ≠ "java/lang/invoke/MethodHandle" ∧ yX12_keep.cls ≠ "java/lang/invoke/VarHandle" ∧ (parseMethodDescriptor yX12_keep.desc).map (fun d => d.parameters.length) = some 0 := by decide +kernel
theorem mL_X12_kite : yX12_kite.cls ≠ "java/lang/invoke/MethodHandle" ∧ yX12_kite.cls ≠ "java/lang/invoke/VarHandle" ∧ (parseMethodDescriptor yX12_kite.desc).map (fun d => d.parameters.length) = some 4 := by decide +kernel
theorem mL_X12_kiteOf : yX12_kiteOf.cls ≠ "java/lang/invoke/MethodHandle" ∧ yX12_kiteOf.cls ≠ "java/lang/invoke/VarHandle" ∧ (parseMethodDescriptor yX12_kiteOf.desc).map (fun d => d.parameters.length) = some 2 := by decide +kernel
theorem mL_X12_liar : yX12_liar.cls ≠ "java/lang/invoke/MethodHandle" ∧ yX12_liar.cls ≠ "java/lang/invoke/VarHandle" ∧ (parseMethodDescriptor yX12_liar.desc).map (fun d => d.parameters.length) = some 0 := by decide +kernel
theorem mL_X12_lot : yX12_lot.cls ≠ "java/lang/invoke/MethodHandle" ∧ yX12_lot.cls ≠ "java/lang/invoke/VarHandle" ∧ (parseMethodDescriptor yX12_lot.desc).map (fun d => d.parameters.length) = some 0 := by decide +kernel
theorem mL_X12_many : yX12_many.cls ≠ "java/lang/invoke/MethodHandle" ∧ yX12_many.cls ≠ "java/lang/invoke/VarHandle" ∧ (parseMethodDescriptor yX12_many.desc).map (fun d => d.parameters.length) = some 1 := by decide +kernel
theorem mL_X12_nameFor : yX12_nameFor.cls ≠ "java/lang/invoke/MethodHandle" ∧ yX12_nameFor.cls ≠ "java/lang/invoke/VarHandle" ∧ (parseMethodDescriptor yX12_nameFor.desc).map (fun d => d.parameters.length) = some 1 := by decide +kernel
theorem mL_X12_on : yX12_on.cls ≠ "java/lang/invoke/MethodHandle" ∧ yX12_on.cls ≠ "java/lang/invoke/VarHandle" ∧ (parseMethodDescriptor yX12_on.desc).map (fun d => d.parameters.length) = some 1 := by decide +kernel
theorem mL_X12_over : yX12_over.cls ≠ "java/lang/invoke/MethodHandle" ∧ yX12_over.cls ≠ "java/lang/invoke/VarHandle" ∧ (parseMethodDescriptor yX12_over.desc).map (fun d => d.parameters.length) = some 1 := by decide +kernel
theorem mL_X12_play : yX12_play.cls ≠ "java/lang/invoke/MethodHandle" ∧ yX12_play.cls ≠ "java/lang/invoke/VarHandle" ∧ (parseMethodDescriptor yX12_play.desc).map (fun d => d.parameters.length) = some 1 := by decide +kernel
theorem mL_X12_prove : yX12_prove.cls ≠ "java/lang/invoke/MethodHandle" ∧ yX12_prove.cls ≠ "java/lang/invoke/VarHandle" ∧ (parseMethodDescriptor yX12_prove.desc).map (fun d => d.parameters.length) = some 1 := by decide +kernel
theorem mL_X12_remake : yX12_remake.cls ≠ "java/lang/invoke/MethodHandle" ∧ yX12_remake.cls ≠ "java/lang/invoke/VarHandle" ∧ (parseMethodDescriptor yX12_remake.desc).map (fun d => d.parameters.length) = some 2 := by decide +kernel
theorem mL_X12_report : yX12_report.cls ≠ "java/lang/invoke/MethodHandle" ∧ yX12_report.cls ≠ "java/lang/invoke/VarHandle" ∧ (parseMethodDescriptor yX12_report.desc).map (fun d => d.parameters.length) = some 4 := by decide +kernel
theorem mL_X12_row : yX12_row.cls ≠ "java/lang/invoke/MethodHandle" ∧ yX12_row.cls ≠ "java/lang/invoke/VarHandle" ∧ (parseMethodDescriptor yX12_row.desc).map (fun d => d.parameters.length) = some 2 := by decide +kernel
theorem mL_X12_rules : yX12_rules.cls ≠ "java/lang/invoke/MethodHandle" ∧ yX12_rules.cls ≠ "java/lang/invoke/VarHandle" ∧ (parseMethodDescriptor yX12_rules.desc).map (fun d => d.parameters.length) = some 0 := by decide +kernel
theorem mL_X12_seed : yX12_seed.cls ≠ "java/lang/invoke/MethodHandle" ∧ yX12_seed.cls ≠ "java/lang/invoke/VarHandle" ∧ (parseMethodDescriptor yX12_seed.desc).map (fun d => d.parameters.length) = some 1 := by decide +kernel
theorem mL_X12_sheet : yX12_sheet.cls ≠ "java/lang/invoke/MethodHandle" ∧ yX12_sheet.cls ≠ "java/lang/invoke/VarHandle" ∧ (parseMethodDescriptor yX12_sheet.desc).map (fun d => d.parameters.length) = some 3 := by decide +kernel
theorem mL_X12_shelf : yX12_shelf.cls ≠ "java/lang/invoke/MethodHandle" ∧ yX12_shelf.cls ≠ "java/lang/invoke/VarHandle" ∧ (parseMethodDescriptor yX12_shelf.desc).map (fun d => d.parameters.length) = some 3 := by decide +kernel
theorem mL_X12_span : yX12_span.cls ≠ "java/lang/invoke/MethodHandle" ∧ yX12_span.cls ≠ "java/lang/invoke/VarHandle" ∧ (parseMethodDescriptor yX12_span.desc).map (fun d => d.parameters.length) = some 1 := by decide +kernel
theorem mL_X12_state : yX12_state.cls ≠ "java/lang/invoke/MethodHandle" ∧ yX12_state.cls ≠ "java/lang/invoke/VarHandle" ∧ (parseMethodDescriptor yX12_state.desc).map (fun d => d.parameters.length) = some 1 := by decide +kernel
theorem mL_X12_stringFor : yX12_stringFor.cls ≠ "java/lang/invoke/MethodHandle" ∧ yX12_stringFor.cls ≠ "java/lang/invoke/VarHandle" ∧ (parseMethodDescriptor yX12_stringFor.desc).map (fun d => d.parameters.length) = some 1 := by decide +kernel
theorem mL_X12_taken : yX12_taken.cls ≠ "java/lang/invoke/MethodHandle" ∧ yX12_taken.cls ≠ "java/lang/invoke/VarHandle" ∧ (parseMethodDescriptor yX12_taken.desc).map (fun d => d.parameters.length) = some 2 := by decide +kernel
theorem mL_X12_times : yX12_times.cls ≠ "java/lang/invoke/MethodHandle" ∧ yX12_times.cls ≠ "java/lang/invoke/VarHandle" ∧ (parseMethodDescriptor yX12_times.desc).map (fun d => d.parameters.length) = some 2 := by decide +kernel
theorem mL_X12_trace : yX12_trace.cls ≠ "java/lang/invoke/MethodHandle" ∧ yX12_trace.cls ≠ "java/lang/invoke/VarHandle" ∧ (parseMethodDescriptor yX12_trace.desc).map (fun d => d.parameters.length) = some 1 := by decide +kernel
theorem mL_X12_ways : yX12_ways.cls ≠ "java/lang/invoke/MethodHandle" ∧ yX12_ways.cls ≠ "java/lang/invoke/VarHandle" ∧ (parseMethodDescriptor yX12_ways.desc).map (fun d => d.parameters.length) = some 1 := by decide +kernel
theorem mL_X12_when : yX12_when.cls ≠ "java/lang/invoke/MethodHandle" ∧ yX12_when.cls ≠ "java/lang/invoke/VarHandle" ∧ (parseMethodDescriptor yX12_when.desc).map (fun d => d.parameters.length) = some 1 := by decide +kernel
theorem mL_X12_wind : yX12_wind.cls ≠ "java/lang/invoke/MethodHandle" ∧ yX12_wind.cls ≠ "java/lang/invoke/VarHandle" ∧ (parseMethodDescriptor yX12_wind.desc).map (fun d => d.parameters.length) = some 2 := by decide +kernel
theorem mL_X12_wouldBe : yX12_wouldBe.cls ≠ "java/lang/invoke/MethodHandle" ∧ yX12_wouldBe.cls ≠ "java/lang/invoke/VarHandle" ∧ (parseMethodDescriptor yX12_wouldBe.desc).map (fun d => d.parameters.length) = some 3 := by decide +kernel
theorem mL_X12_writ : yX12_writ.cls ≠ "java/lang/invoke/MethodHandle" ∧ yX12_writ.cls ≠ "java/lang/invoke/VarHandle" ∧ (parseMethodDescriptor yX12_writ.desc).map (fun d => d.parameters.length) = some 2 := by decide +kernel
theorem mL_X12_write : yX12_write.cls ≠ "java/lang/invoke/MethodHandle" ∧ yX12_write.cls ≠ "java/lang/invoke/VarHandle" ∧ (parseMethodDescriptor yX12_write.desc).map (fun d => d.parameters.length) = some 3 := by decide +kernel
set_option maxRecDepth 100000 in
set_option maxHeartbeats 8000000 in
/-- kite -/
theorem L_248 {p : Program} {l : Launch} {e : Env} {s : State} {m : MethodId} {args : Array Value} {below : List Frame} {meth : Method} {c : Code} {H : Heap} {locs : List Loc} {cells slots : Nat} {Q : State → Prop} {b L : Nat} {xs : Nat → Int32} {D : va_G} {cy : Cy} {adC adM : Nat → Nat} {AC AM : Nat → Prop} {σC σM : Sg} {ls : Array Slot} (E : LWe p s m args c b L xs D cy adC adM AC AM) (hcs : cells ≤ room_1.cells ∧ slots ≤ room_1.slots) {i : Nat} (hi : i + 4 < L) (h : LWs D cy adC adM s σC σM H locs) (hR : Rel σM σC) (hl : lv_has ls 4 [(3, .int (nI i)), (1, .ref (adC 0)), (2, .ref (adM 0)), (0, .ref b)])
    (kk : ∀ (σC1 σM1 : Sg) (H1 : Heap) (locs1 : List Loc), LWs D cy adC adM s σC1 σM1 H1 locs1 → Rel σM1 σC1 → W p l e room_1 s m args below meth c H1 locs1 cells slots Q (F0 m 1718 ls [])) : W p l e room_1 s m args below meth c H locs cells slots Q (F0 m 248 ls []) := by
  obtain ⟨r, σM1, σC1, eM, eC, R1⟩ := eq_kite hR (xs (i + 1)) (xs (i + 2)) (xs (i + 3)) (xs (i + 4))
  refine lv_aload_n E.hx E.hb dL_law_248 rfl (lv_at hl 1 rfl) ?_
  refine larg (k := 1) E h (by omega) hl rfl rfl dL_law_249 dL_law_250 dL_law_251 dL_law_252 dL_law_253 (by decide) ?_
  refine larg (k := 2) E h (by omega) hl rfl rfl dL_law_254 dL_law_255 dL_law_256 dL_law_257 dL_law_258 (by decide) ?_
  refine larg (k := 3) E h (by omega) hl rfl rfl dL_law_259 dL_law_260 dL_law_261 dL_law_262 dL_law_263 (by decide) ?_
  refine larg (k := 4) E h (by omega) hl rfl rfl dL_law_264 dL_law_265 dL_law_266 dL_law_267 dL_law_268 (by decide) ?_
  refine lcalC E h (va_runV (As := [.int (xs (i + 1)), .int (xs (i + 2)), .int (xs (i + 3)), .int (xs (i + 4))]) (rest := []) E.fix (c_X11_kite (l := l) (D := D) (cy := cy) E.oC (xs (i + 1)) (xs (i + 2)) (xs (i + 3)) (xs (i + 4)) σC eC) (lcV E k2_176 k1_1 k2_173 k2_174 k2_175 mL_X11_kite rfl rfl ⟨Nat.le_of_ble_eq_true rfl, Nat.le_of_ble_eq_true rfl⟩) (lPreC E h _) rfl rfl hl.1 rfl (lv_room (Nat.le_of_ble_eq_true rfl)) dL_law_269 ⟨hcs.1, hcs.2⟩) (fun H locs h => ?_)
  refine lv_aload_n E.hx E.hb dL_law_272 rfl (lv_at hl 2 rfl) ?_
  refine larg (k := 1) E h (by omega) hl rfl rfl dL_law_273 dL_law_274 dL_law_275 dL_law_276 dL_law_277 (by decide) ?_
  refine larg (k := 2) E h (by omega) hl rfl rfl dL_law_278 dL_law_279 dL_law_280 dL_law_281 dL_law_282 (by decide) ?_
  refine larg (k := 3) E h (by omega) hl rfl rfl dL_law_283 dL_law_284 dL_law_285 dL_law_286 dL_law_287 (by decide) ?_
  refine larg (k := 4) E h (by omega) hl rfl rfl dL_law_288 dL_law_289 dL_law_290 dL_law_291 dL_law_292 (by decide) ?_
  refine lcalM E h (va_runV (As := [.int (xs (i + 1)), .int (xs (i + 2)), .int (xs (i + 3)), .int (xs (i + 4))]) (rest := [.int r]) E.fix (c_X12_kite (l := l) (D := D) (cy := cy) E.oM (xs (i + 1)) (xs (i + 2)) (xs (i + 3)) (xs (i + 4)) σM eM) (lcV E k6_107 k1_14 k6_104 k6_105 k6_106 mL_X12_kite rfl rfl ⟨Nat.le_of_ble_eq_true rfl, Nat.le_of_ble_eq_true rfl⟩) (lPreM E h _) rfl rfl hl.1 rfl (lv_room (Nat.le_of_ble_eq_true rfl)) dL_law_293 ⟨hcs.1, hcs.2⟩) (fun H locs h => ?_)
  refine lv_icmp_eq (tgt := 1718) E.hx E.hb dL_law_296 (by decide) (fun _ => ?_) (fun ne => absurd rfl ne)
  exact kk σC1 σM1 _ _ h R1
set_option maxRecDepth 100000 in
set_option maxHeartbeats 8000000 in
/-- kiteOf -/
theorem L_301 {p : Program} {l : Launch} {e : Env} {s : State} {m : MethodId} {args : Array Value} {below : List Frame} {meth : Method} {c : Code} {H : Heap} {locs : List Loc} {cells slots : Nat} {Q : State → Prop} {b L : Nat} {xs : Nat → Int32} {D : va_G} {cy : Cy} {adC adM : Nat → Nat} {AC AM : Nat → Prop} {σC σM : Sg} {ls : Array Slot} (E : LWe p s m args c b L xs D cy adC adM AC AM) (hcs : cells ≤ room_1.cells ∧ slots ≤ room_1.slots) {i : Nat} (hi : i + 4 < L) (h : LWs D cy adC adM s σC σM H locs) (hR : Rel σM σC) (hl : lv_has ls 4 [(3, .int (nI i)), (1, .ref (adC 0)), (2, .ref (adM 0)), (0, .ref b)])
    (kk : ∀ (σC1 σM1 : Sg) (H1 : Heap) (locs1 : List Loc), LWs D cy adC adM s σC1 σM1 H1 locs1 → Rel σM1 σC1 → W p l e room_1 s m args below meth c H1 locs1 cells slots Q (F0 m 1718 ls [])) : W p l e room_1 s m args below meth c H locs cells slots Q (F0 m 301 ls []) := by
  obtain ⟨r, σM1, σC1, eM, eC, R1⟩ := eq_kiteOf hR (xs (i + 1)) (xs (i + 2))
  refine lv_aload_n E.hx E.hb dL_law_301 rfl (lv_at hl 1 rfl) ?_
  refine larg (k := 1) E h (by omega) hl rfl rfl dL_law_302 dL_law_303 dL_law_304 dL_law_305 dL_law_306 (by decide) ?_
  refine larg (k := 2) E h (by omega) hl rfl rfl dL_law_307 dL_law_308 dL_law_309 dL_law_310 dL_law_311 (by decide) ?_
  refine lcalC E h (va_runV (As := [.int (xs (i + 1)), .int (xs (i + 2))]) (rest := []) E.fix (c_X11_kiteOf (l := l) (D := D) (cy := cy) E.oC (xs (i + 1)) (xs (i + 2)) σC eC) (lcV E k2_190 k1_1 k2_187 k2_188 k2_189 mL_X11_kiteOf rfl rfl ⟨Nat.le_of_ble_eq_true rfl, Nat.le_of_ble_eq_true rfl⟩) (lPreC E h _) rfl rfl hl.1 rfl (lv_room (Nat.le_of_ble_eq_true rfl)) dL_law_312 ⟨hcs.1, hcs.2⟩) (fun H locs h => ?_)
  refine lv_aload_n E.hx E.hb dL_law_315 rfl (lv_at hl 2 rfl) ?_
  refine larg (k := 1) E h (by omega) hl rfl rfl dL_law_316 dL_law_317 dL_law_318 dL_law_319 dL_law_320 (by decide) ?_
  refine larg (k := 2) E h (by omega) hl rfl rfl dL_law_321 dL_law_322 dL_law_323 dL_law_324 dL_law_325 (by decide) ?_
  refine lcalM E h (va_runV (As := [.int (xs (i + 1)), .int (xs (i + 2))]) (rest := [.int r]) E.fix (c_X12_kiteOf (l := l) (D := D) (cy := cy) E.oM (xs (i + 1)) (xs (i + 2)) σM eM) (lcV E k6_133 k1_14 k6_130 k6_131 k6_132 mL_X12_kiteOf rfl rfl ⟨Nat.le_of_ble_eq_true rfl, Nat.le_of_ble_eq_true rfl⟩) (lPreM E h _) rfl rfl hl.1 rfl (lv_room (Nat.le_of_ble_eq_true rfl)) dL_law_326 ⟨hcs.1, hcs.2⟩) (fun H locs h => ?_)
  refine lv_icmp_eq (tgt := 1718) E.hx E.hb dL_law_329 (by decide) (fun _ => ?_) (fun ne => absurd rfl ne)
  exact kk σC1 σM1 _ _ h R1
set_option maxRecDepth 100000 in
set_option maxHeartbeats 8000000 in
/-- change -/
theorem L_334 {p : Program} {l : Launch} {e : Env} {s : State} {m : MethodId} {args : Array Value} {below : List Frame} {meth : Method} {c : Code} {H : Heap} {locs : List Loc} {cells slots : Nat} {Q : State → Prop} {b L : Nat} {xs : Nat → Int32} {D : va_G} {cy : Cy} {adC adM : Nat → Nat} {AC AM : Nat → Prop} {σC σM : Sg} {ls : Array Slot} (E : LWe p s m args c b L xs D cy adC adM AC AM) (hcs : cells ≤ room_1.cells ∧ slots ≤ room_1.slots) {i : Nat} (hi : i + 4 < L) (h : LWs D cy adC adM s σC σM H locs) (hR : Rel σM σC) (hl : lv_has ls 4 [(3, .int (nI i)), (1, .ref (adC 0)), (2, .ref (adM 0)), (0, .ref b)])
    (kk : ∀ (σC1 σM1 : Sg) (H1 : Heap) (locs1 : List Loc), LWs D cy adC adM s σC1 σM1 H1 locs1 → Rel σM1 σC1 → W p l e room_1 s m args below meth c H1 locs1 cells slots Q (F0 m 1718 ls [])) : W p l e room_1 s m args below meth c H locs cells slots Q (F0 m 334 ls []) := by
  obtain ⟨r, σM1, σC1, eM, eC, R1⟩ := eq_change hR (xs (i + 1)) (xs (i + 2)) (xs (i + 3))
  refine lv_aload_n E.hx E.hb dL_law_334 rfl (lv_at hl 1 rfl) ?_
  refine larg (k := 1) E h (by omega) hl rfl rfl dL_law_335 dL_law_336 dL_law_337 dL_law_338 dL_law_339 (by decide) ?_
  refine larg (k := 2) E h (by omega) hl rfl rfl dL_law_340 dL_law_341 dL_law_342 dL_law_343 dL_law_344 (by decide) ?_
  refine larg (k := 3) E h (by omega) hl rfl rfl dL_law_345 dL_law_346 dL_law_347 dL_law_348 dL_law_349 (by decide) ?_
  refine lcalC E h (va_runV (As := [.int (xs (i + 1)), .int (xs (i + 2)), .int (xs (i + 3))]) (rest := []) E.fix (c_X11_change (l := l) (D := D) (cy := cy) E.oC (xs (i + 1)) (xs (i + 2)) (xs (i + 3)) σC eC) (lcV E k3_64 k1_1 k3_61 k3_62 k3_63 mL_X11_change rfl rfl ⟨Nat.le_of_ble_eq_true rfl, Nat.le_of_ble_eq_true rfl⟩) (lPreC E h _) rfl rfl hl.1 rfl (lv_room (Nat.le_of_ble_eq_true rfl)) dL_law_350 ⟨hcs.1, hcs.2⟩) (fun H locs h => ?_)
  refine lv_aload_n E.hx E.hb dL_law_353 rfl (lv_at hl 2 rfl) ?_
  refine larg (k := 1) E h (by omega) hl rfl rfl dL_law_354 dL_law_355 dL_law_356 dL_law_357 dL_law_358 (by decide) ?_
  refine larg (k := 2) E h (by omega) hl rfl rfl dL_law_359 dL_law_360 dL_law_361 dL_law_362 dL_law_363 (by decide) ?_
  refine larg (k := 3) E h (by omega) hl rfl rfl dL_law_364 dL_law_365 dL_law_366 dL_law_367 dL_law_368 (by decide) ?_
  refine lcalM E h (va_runV (As := [.int (xs (i + 1)), .int (xs (i + 2)), .int (xs (i + 3))]) (rest := [.int r]) E.fix (c_X12_change (l := l) (D := D) (cy := cy) E.oM (xs (i + 1)) (xs (i + 2)) (xs (i + 3)) σM eM) (lcV E k6_188 k1_14 k6_185 k6_186 k6_187 mL_X12_change rfl rfl ⟨Nat.le_of_ble_eq_true rfl, Nat.le_of_ble_eq_true rfl⟩) (lPreM E h _) rfl rfl hl.1 rfl (lv_room (Nat.le_of_ble_eq_true rfl)) dL_law_369 ⟨hcs.1, hcs.2⟩) (fun H locs h => ?_)
  refine lv_icmp_eq (tgt := 1718) E.hx E.hb dL_law_372 (by decide) (fun _ => ?_) (fun ne => absurd rfl ne)
  exact kk σC1 σM1 _ _ h R1
set_option maxRecDepth 100000 in
set_option maxHeartbeats 8000000 in
/-- remake -/
theorem L_377 {p : Program} {l : Launch} {e : Env} {s : State} {m : MethodId} {args : Array Value} {below : List Frame} {meth : Method} {c : Code} {H : Heap} {locs : List Loc} {cells slots : Nat} {Q : State → Prop} {b L : Nat} {xs : Nat → Int32} {D : va_G} {cy : Cy} {adC adM : Nat → Nat} {AC AM : Nat → Prop} {σC σM : Sg} {ls : Array Slot} (E : LWe p s m args c b L xs D cy adC adM AC AM) (hcs : cells ≤ room_1.cells ∧ slots ≤ room_1.slots) {i : Nat} (hi : i + 4 < L) (h : LWs D cy adC adM s σC σM H locs) (hR : Rel σM σC) (hl : lv_has ls 4 [(3, .int (nI i)), (1, .ref (adC 0)), (2, .ref (adM 0)), (0, .ref b)])
    (kk : ∀ (σC1 σM1 : Sg) (H1 : Heap) (locs1 : List Loc), LWs D cy adC adM s σC1 σM1 H1 locs1 → Rel σM1 σC1 → W p l e room_1 s m args below meth c H1 locs1 cells slots Q (F0 m 1718 ls [])) : W p l e room_1 s m args below meth c H locs cells slots Q (F0 m 377 ls []) := by
  obtain ⟨r, σM1, σC1, eM, eC, R1⟩ := eq_remake hR (xs (i + 1)) (xs (i + 2))
  refine lv_aload_n E.hx E.hb dL_law_377 rfl (lv_at hl 1 rfl) ?_
  refine larg (k := 1) E h (by omega) hl rfl rfl dL_law_378 dL_law_379 dL_law_380 dL_law_381 dL_law_382 (by decide) ?_
  refine larg (k := 2) E h (by omega) hl rfl rfl dL_law_383 dL_law_384 dL_law_385 dL_law_386 dL_law_387 (by decide) ?_
  refine lcalC E h (va_runV (As := [.int (xs (i + 1)), .int (xs (i + 2))]) (rest := []) E.fix (c_X11_remake (l := l) (D := D) (cy := cy) E.oC (xs (i + 1)) (xs (i + 2)) σC eC) (lcV E k3_73 k1_1 k3_70 k3_71 k3_72 mL_X11_remake rfl rfl ⟨Nat.le_of_ble_eq_true rfl, Nat.le_of_ble_eq_true rfl⟩) (lPreC E h _) rfl rfl hl.1 rfl (lv_room (Nat.le_of_ble_eq_true rfl)) dL_law_388 ⟨hcs.1, hcs.2⟩) (fun H locs h => ?_)
  refine lv_aload_n E.hx E.hb dL_law_391 rfl (lv_at hl 2 rfl) ?_
  refine larg (k := 1) E h (by omega) hl rfl rfl dL_law_392 dL_law_393 dL_law_394 dL_law_395 dL_law_396 (by decide) ?_
  refine larg (k := 2) E h (by omega) hl rfl rfl dL_law_397 dL_law_398 dL_law_399 dL_law_400 dL_law_401 (by decide) ?_
  refine lcalM E h (va_runV (As := [.int (xs (i + 1)), .int (xs (i + 2))]) (rest := [.int r]) E.fix (c_X12_remake (l := l) (D := D) (cy := cy) E.oM (xs (i + 1)) (xs (i + 2)) σM eM) (lcV E k6_196 k1_14 k6_193 k6_194 k6_195 mL_X12_remake rfl rfl ⟨Nat.le_of_ble_eq_true rfl, Nat.le_of_ble_eq_true rfl⟩) (lPreM E h _) rfl rfl hl.1 rfl (lv_room (Nat.le_of_ble_eq_true rfl)) dL_law_402 ⟨hcs.1, hcs.2⟩) (fun H locs h => ?_)
  refine lv_icmp_eq (tgt := 1718) E.hx E.hb dL_law_405 (by decide) (fun _ => ?_) (fun ne => absurd rfl ne)
  exact kk σC1 σM1 _ _ h R1
set_option maxRecDepth 100000 in
set_option maxHeartbeats 8000000 in
/-- wind -/
theorem L_410 {p : Program} {l : Launch} {e : Env} {s : State} {m : MethodId} {args : Array Value} {below : List Frame} {meth : Method} {c : Code} {H : Heap} {locs : List Loc} {cells slots : Nat} {Q : State → Prop} {b L : Nat} {xs : Nat → Int32} {D : va_G} {cy : Cy} {adC adM : Nat → Nat} {AC AM : Nat → Prop} {σC σM : Sg} {ls : Array Slot} (E : LWe p s m args c b L xs D cy adC adM AC AM) (hcs : cells ≤ room_1.cells ∧ slots ≤ room_1.slots) {i : Nat} (hi : i + 4 < L) (h : LWs D cy adC adM s σC σM H locs) (hR : Rel σM σC) (hl : lv_has ls 4 [(3, .int (nI i)), (1, .ref (adC 0)), (2, .ref (adM 0)), (0, .ref b)])
    (kk : ∀ (σC1 σM1 : Sg) (H1 : Heap) (locs1 : List Loc), LWs D cy adC adM s σC1 σM1 H1 locs1 → Rel σM1 σC1 → W p l e room_1 s m args below meth c H1 locs1 cells slots Q (F0 m 1718 ls [])) : W p l e room_1 s m args below meth c H locs cells slots Q (F0 m 410 ls []) := by
  obtain ⟨r, σM1, σC1, eM, eC, R1⟩ := eq_wind hR (xs (i + 1)) (xs (i + 2))
  refine lv_aload_n E.hx E.hb dL_law_410 rfl (lv_at hl 1 rfl) ?_
  refine larg (k := 1) E h (by omega) hl rfl rfl dL_law_411 dL_law_412 dL_law_413 dL_law_414 dL_law_415 (by decide) ?_
  refine larg (k := 2) E h (by omega) hl rfl rfl dL_law_416 dL_law_417 dL_law_418 dL_law_419 dL_law_420 (by decide) ?_
  refine lcalC E h (va_runV (As := [.int (xs (i + 1)), .int (xs (i + 2))]) (rest := []) E.fix (c_X11_wind (l := l) (D := D) (cy := cy) E.oC (xs (i + 1)) (xs (i + 2)) σC eC) (lcV E k3_77 k1_1 k3_74 k3_75 k3_76 mL_X11_wind rfl rfl ⟨Nat.le_of_ble_eq_true rfl, Nat.le_of_ble_eq_true rfl⟩) (lPreC E h _) rfl rfl hl.1 rfl (lv_room (Nat.le_of_ble_eq_true rfl)) dL_law_421 ⟨hcs.1, hcs.2⟩) (fun H locs h => ?_)
  refine lv_aload_n E.hx E.hb dL_law_424 rfl (lv_at hl 2 rfl) ?_
  refine larg (k := 1) E h (by omega) hl rfl rfl dL_law_425 dL_law_426 dL_law_427 dL_law_428 dL_law_429 (by decide) ?_
  refine larg (k := 2) E h (by omega) hl rfl rfl dL_law_430 dL_law_431 dL_law_432 dL_law_433 dL_law_434 (by decide) ?_
  refine lcalM E h (va_runV (As := [.int (xs (i + 1)), .int (xs (i + 2))]) (rest := [.int r]) E.fix (c_X12_wind (l := l) (D := D) (cy := cy) E.oM (xs (i + 1)) (xs (i + 2)) σM eM) (lcV E k6_200 k1_14 k6_197 k6_198 k6_199 mL_X12_wind rfl rfl ⟨Nat.le_of_ble_eq_true rfl, Nat.le_of_ble_eq_true rfl⟩) (lPreM E h _) rfl rfl hl.1 rfl (lv_room (Nat.le_of_ble_eq_true rfl)) dL_law_435 ⟨hcs.1, hcs.2⟩) (fun H locs h => ?_)
  refine lv_icmp_eq (tgt := 1718) E.hx E.hb dL_law_438 (by decide) (fun _ => ?_) (fun ne => absurd rfl ne)
  exact kk σC1 σM1 _ _ h R1
set_option maxRecDepth 100000 in
set_option maxHeartbeats 8000000 in
/-- farm -/
theorem L_443 {p : Program} {l : Launch} {e : Env} {s : State} {m : MethodId} {args : Array Value} {below : List Frame} {meth : Method} {c : Code} {H : Heap} {locs : List Loc} {cells slots : Nat} {Q : State → Prop} {b L : Nat} {xs : Nat → Int32} {D : va_G} {cy : Cy} {adC adM : Nat → Nat} {AC AM : Nat → Prop} {σC σM : Sg} {ls : Array Slot} (E : LWe p s m args c b L xs D cy adC adM AC AM) (hcs : cells ≤ room_1.cells ∧ slots ≤ room_1.slots) {i : Nat} (hi : i + 4 < L) (h : LWs D cy adC adM s σC σM H locs) (hR : Rel σM σC) (hl : lv_has ls 4 [(3, .int (nI i)), (1, .ref (adC 0)), (2, .ref (adM 0)), (0, .ref b)])
    (kk : ∀ (σC1 σM1 : Sg) (H1 : Heap) (locs1 : List Loc), LWs D cy adC adM s σC1 σM1 H1 locs1 → Rel σM1 σC1 → W p l e room_1 s m args below meth c H1 locs1 cells slots Q (F0 m 1718 ls [])) : W p l e room_1 s m args below meth c H locs cells slots Q (F0 m 443 ls []) := by
  obtain ⟨r, σM1, σC1, eM, eC, R1⟩ := eq_farm hR (xs (i + 1)) (xs (i + 2)) (xs (i + 3))
  refine lv_aload_n E.hx E.hb dL_law_443 rfl (lv_at hl 1 rfl) ?_
  refine larg (k := 1) E h (by omega) hl rfl rfl dL_law_444 dL_law_445 dL_law_446 dL_law_447 dL_law_448 (by decide) ?_
  refine larg (k := 2) E h (by omega) hl rfl rfl dL_law_449 dL_law_450 dL_law_451 dL_law_452 dL_law_453 (by decide) ?_
  refine larg (k := 3) E h (by omega) hl rfl rfl dL_law_454 dL_law_455 dL_law_456 dL_law_457 dL_law_458 (by decide) ?_
  refine lcalC E h (va_runV (As := [.int (xs (i + 1)), .int (xs (i + 2)), .int (xs (i + 3))]) (rest := []) E.fix (c_X11_farm (l := l) (D := D) (cy := cy) E.oC (xs (i + 1)) (xs (i + 2)) (xs (i + 3)) σC eC) (lcV E k3_81 k1_1 k3_78 k3_79 k3_80 mL_X11_farm rfl rfl ⟨Nat.le_of_ble_eq_true rfl, Nat.le_of_ble_eq_true rfl⟩) (lPreC E h _) rfl rfl hl.1 rfl (lv_room (Nat.le_of_ble_eq_true rfl)) dL_law_459 ⟨hcs.1, hcs.2⟩) (fun H locs h => ?_)
  refine lv_aload_n E.hx E.hb dL_law_462 rfl (lv_at hl 2 rfl) ?_
  refine larg (k := 1) E h (by omega) hl rfl rfl dL_law_463 dL_law_464 dL_law_465 dL_law_466 dL_law_467 (by decide) ?_
  refine larg (k := 2) E h (by omega) hl rfl rfl dL_law_468 dL_law_469 dL_law_470 dL_law_471 dL_law_472 (by decide) ?_
  refine larg (k := 3) E h (by omega) hl rfl rfl dL_law_473 dL_law_474 dL_law_475 dL_law_476 dL_law_477 (by decide) ?_
  refine lcalM E h (va_runV (As := [.int (xs (i + 1)), .int (xs (i + 2)), .int (xs (i + 3))]) (rest := [.int r]) E.fix (c_X12_farm (l := l) (D := D) (cy := cy) E.oM (xs (i + 1)) (xs (i + 2)) (xs (i + 3)) σM eM) (lcV E k6_208 k1_14 k6_205 k6_206 k6_207 mL_X12_farm rfl rfl ⟨Nat.le_of_ble_eq_true rfl, Nat.le_of_ble_eq_true rfl⟩) (lPreM E h _) rfl rfl hl.1 rfl (lv_room (Nat.le_of_ble_eq_true rfl)) dL_law_478 ⟨hcs.1, hcs.2⟩) (fun H locs h => ?_)
  refine lv_icmp_eq (tgt := 1718) E.hx E.hb dL_law_481 (by decide) (fun _ => ?_) (fun ne => absurd rfl ne)
  exact kk σC1 σM1 _ _ h R1
set_option maxRecDepth 100000 in
set_option maxHeartbeats 8000000 in
/-- farmOf -/
theorem L_486 {p : Program} {l : Launch} {e : Env} {s : State} {m : MethodId} {args : Array Value} {below : List Frame} {meth : Method} {c : Code} {H : Heap} {locs : List Loc} {cells slots : Nat} {Q : State → Prop} {b L : Nat} {xs : Nat → Int32} {D : va_G} {cy : Cy} {adC adM : Nat → Nat} {AC AM : Nat → Prop} {σC σM : Sg} {ls : Array Slot} (E : LWe p s m args c b L xs D cy adC adM AC AM) (hcs : cells ≤ room_1.cells ∧ slots ≤ room_1.slots) {i : Nat} (hi : i + 4 < L) (h : LWs D cy adC adM s σC σM H locs) (hR : Rel σM σC) (hl : lv_has ls 4 [(3, .int (nI i)), (1, .ref (adC 0)), (2, .ref (adM 0)), (0, .ref b)])
    (kk : ∀ (σC1 σM1 : Sg) (H1 : Heap) (locs1 : List Loc), LWs D cy adC adM s σC1 σM1 H1 locs1 → Rel σM1 σC1 → W p l e room_1 s m args below meth c H1 locs1 cells slots Q (F0 m 1718 ls [])) : W p l e room_1 s m args below meth c H locs cells slots Q (F0 m 486 ls []) := by
  obtain ⟨r, eM, eC⟩ := eq_farmOf hR (xs (i + 1)) (xs (i + 2))
  refine lv_aload_n E.hx E.hb dL_law_486 rfl (lv_at hl 1 rfl) ?_
  refine larg (k := 1) E h (by omega) hl rfl rfl dL_law_487 dL_law_488 dL_law_489 dL_law_490 dL_law_491 (by decide) ?_
  refine larg (k := 2) E h (by omega) hl rfl rfl dL_law_492 dL_law_493 dL_law_494 dL_law_495 dL_law_496 (by decide) ?_
  refine lcalC E h (va_runV (As := [.int (xs (i + 1)), .int (xs (i + 2))]) (rest := []) E.fix (c_X11_farmOf (l := l) (D := D) (cy := cy) E.oC (xs (i + 1)) (xs (i + 2)) σC eC) (lcV E k3_85 k1_1 k3_86 k3_83 k3_84 mL_X11_farmOf rfl rfl ⟨Nat.le_of_ble_eq_true rfl, Nat.le_of_ble_eq_true rfl⟩) (lPreC E h _) rfl rfl hl.1 rfl (lv_room (Nat.le_of_ble_eq_true rfl)) dL_law_497 ⟨hcs.1, hcs.2⟩) (fun H locs h => ?_)
  refine lv_aload_n E.hx E.hb dL_law_500 rfl (lv_at hl 2 rfl) ?_
  refine larg (k := 1) E h (by omega) hl rfl rfl dL_law_501 dL_law_502 dL_law_503 dL_law_504 dL_law_505 (by decide) ?_
  refine larg (k := 2) E h (by omega) hl rfl rfl dL_law_506 dL_law_507 dL_law_508 dL_law_509 dL_law_510 (by decide) ?_
  refine lcalM E h (va_runV (As := [.int (xs (i + 1)), .int (xs (i + 2))]) (rest := [.int r]) E.fix (c_X12_farmOf (l := l) (D := D) (cy := cy) E.oM (xs (i + 1)) (xs (i + 2)) σM eM) (lcV E k6_213 k1_14 k6_210 k6_211 k6_212 mL_X12_farmOf rfl rfl ⟨Nat.le_of_ble_eq_true rfl, Nat.le_of_ble_eq_true rfl⟩) (lPreM E h _) rfl rfl hl.1 rfl (lv_room (Nat.le_of_ble_eq_true rfl)) dL_law_511 ⟨hcs.1, hcs.2⟩) (fun H locs h => ?_)
  refine lv_icmp_eq (tgt := 1718) E.hx E.hb dL_law_514 (by decide) (fun _ => ?_) (fun ne => absurd rfl ne)
  exact kk σC σM _ _ h hR
set_option maxRecDepth 100000 in
set_option maxHeartbeats 8000000 in
/-- ends -/
theorem L_519 {p : Program} {l : Launch} {e : Env} {s : State} {m : MethodId} {args : Array Value} {below : List Frame} {meth : Method} {c : Code} {H : Heap} {locs : List Loc} {cells slots : Nat} {Q : State → Prop} {b L : Nat} {xs : Nat → Int32} {D : va_G} {cy : Cy} {adC adM : Nat → Nat} {AC AM : Nat → Prop} {σC σM : Sg} {ls : Array Slot} (E : LWe p s m args c b L xs D cy adC adM AC AM) (hcs : cells ≤ room_1.cells ∧ slots ≤ room_1.slots) {i : Nat} (hi : i + 4 < L) (h : LWs D cy adC adM s σC σM H locs) (hR : Rel σM σC) (hl : lv_has ls 4 [(3, .int (nI i)), (1, .ref (adC 0)), (2, .ref (adM 0)), (0, .ref b)])
    (kk : ∀ (σC1 σM1 : Sg) (H1 : Heap) (locs1 : List Loc), LWs D cy adC adM s σC1 σM1 H1 locs1 → Rel σM1 σC1 → W p l e room_1 s m args below meth c H1 locs1 cells slots Q (F0 m 1718 ls [])) : W p l e room_1 s m args below meth c H locs cells slots Q (F0 m 519 ls []) := by
  obtain ⟨r, σM1, σC1, eM, eC, R1⟩ := eq_ends hR (xs (i + 1))
  refine lv_aload_n E.hx E.hb dL_law_519 rfl (lv_at hl 1 rfl) ?_
  refine larg (k := 1) E h (by omega) hl rfl rfl dL_law_520 dL_law_521 dL_law_522 dL_law_523 dL_law_524 (by decide) ?_
  refine lcalC E h (va_runV (As := [.int (xs (i + 1))]) (rest := []) E.fix (c_X11_ends (l := l) (D := D) (cy := cy) E.oC (xs (i + 1)) σC eC) (lcV E k3_90 k1_1 k3_87 k3_88 k3_89 mL_X11_ends rfl rfl ⟨Nat.le_of_ble_eq_true rfl, Nat.le_of_ble_eq_true rfl⟩) (lPreC E h _) rfl rfl hl.1 rfl (lv_room (Nat.le_of_ble_eq_true rfl)) dL_law_525 ⟨hcs.1, hcs.2⟩) (fun H locs h => ?_)
  refine lv_aload_n E.hx E.hb dL_law_528 rfl (lv_at hl 2 rfl) ?_
  refine larg (k := 1) E h (by omega) hl rfl rfl dL_law_529 dL_law_530 dL_law_531 dL_law_532 dL_law_533 (by decide) ?_
  refine lcalM E h (va_runV (As := [.int (xs (i + 1))]) (rest := [.int r]) E.fix (c_X12_ends (l := l) (D := D) (cy := cy) E.oM (xs (i + 1)) σM eM) (lcV E k6_217 k1_14 k6_214 k6_215 k6_216 mL_X12_ends rfl rfl ⟨Nat.le_of_ble_eq_true rfl, Nat.le_of_ble_eq_true rfl⟩) (lPreM E h _) rfl rfl hl.1 rfl (lv_room (Nat.le_of_ble_eq_true rfl)) dL_law_534 ⟨hcs.1, hcs.2⟩) (fun H locs h => ?_)
  refine lv_icmp_eq (tgt := 1718) E.hx E.hb dL_law_537 (by decide) (fun _ => ?_) (fun ne => absurd rfl ne)
  exact kk σC1 σM1 _ _ h R1
set_option maxRecDepth 100000 in
set_option maxHeartbeats 8000000 in
/-- anew -/
theorem L_542 {p : Program} {l : Launch} {e : Env} {s : State} {m : MethodId} {args : Array Value} {below : List Frame} {meth : Method} {c : Code} {H : Heap} {locs : List Loc} {cells slots : Nat} {Q : State → Prop} {b L : Nat} {xs : Nat → Int32} {D : va_G} {cy : Cy} {adC adM : Nat → Nat} {AC AM : Nat → Prop} {σC σM : Sg} {ls : Array Slot} (E : LWe p s m args c b L xs D cy adC adM AC AM) (hcs : cells ≤ room_1.cells ∧ slots ≤ room_1.slots) {i : Nat} (hi : i + 4 < L) (h : LWs D cy adC adM s σC σM H locs) (hR : Rel σM σC) (hl : lv_has ls 4 [(3, .int (nI i)), (1, .ref (adC 0)), (2, .ref (adM 0)), (0, .ref b)])
    (kk : ∀ (σC1 σM1 : Sg) (H1 : Heap) (locs1 : List Loc), LWs D cy adC adM s σC1 σM1 H1 locs1 → Rel σM1 σC1 → W p l e room_1 s m args below meth c H1 locs1 cells slots Q (F0 m 1718 ls [])) : W p l e room_1 s m args below meth c H locs cells slots Q (F0 m 542 ls []) := by
  obtain ⟨r, σM1, σC1, eM, eC, R1⟩ := eq_anew hR
  refine lv_aload_n E.hx E.hb dL_law_542 rfl (lv_at hl 1 rfl) ?_
  refine lcalC E h (va_runV (As := []) (rest := []) E.fix (c_X11_anew (l := l) (D := D) (cy := cy) E.oC σC eC) (lcV E k3_94 k1_1 k3_91 k3_92 k3_93 mL_X11_anew rfl rfl ⟨Nat.le_of_ble_eq_true rfl, Nat.le_of_ble_eq_true rfl⟩) (lPreC E h _) rfl rfl hl.1 rfl (lv_room (Nat.le_of_ble_eq_true rfl)) dL_law_543 ⟨hcs.1, hcs.2⟩) (fun H locs h => ?_)
  refine lv_aload_n E.hx E.hb dL_law_546 rfl (lv_at hl 2 rfl) ?_
  refine lcalM E h (va_runV (As := []) (rest := [.int r]) E.fix (c_X12_anew (l := l) (D := D) (cy := cy) E.oM σM eM) (lcV E k6_222 k1_14 k6_219 k6_220 k6_221 mL_X12_anew rfl rfl ⟨Nat.le_of_ble_eq_true rfl, Nat.le_of_ble_eq_true rfl⟩) (lPreM E h _) rfl rfl hl.1 rfl (lv_room (Nat.le_of_ble_eq_true rfl)) dL_law_547 ⟨hcs.1, hcs.2⟩) (fun H locs h => ?_)
  refine lv_icmp_eq (tgt := 1718) E.hx E.hb dL_law_550 (by decide) (fun _ => ?_) (fun ne => absurd rfl ne)
  exact kk σC1 σM1 _ _ h R1
set_option maxRecDepth 100000 in
set_option maxHeartbeats 8000000 in
/-- state -/
theorem L_555 {p : Program} {l : Launch} {e : Env} {s : State} {m : MethodId} {args : Array Value} {below : List Frame} {meth : Method} {c : Code} {H : Heap} {locs : List Loc} {cells slots : Nat} {Q : State → Prop} {b L : Nat} {xs : Nat → Int32} {D : va_G} {cy : Cy} {adC adM : Nat → Nat} {AC AM : Nat → Prop} {σC σM : Sg} {ls : Array Slot} (E : LWe p s m args c b L xs D cy adC adM AC AM) (hcs : cells ≤ room_1.cells ∧ slots ≤ room_1.slots) {i : Nat} (hi : i + 4 < L) (h : LWs D cy adC adM s σC σM H locs) (hR : Rel σM σC) (hl : lv_has ls 4 [(3, .int (nI i)), (1, .ref (adC 0)), (2, .ref (adM 0)), (0, .ref b)])
    (kk : ∀ (σC1 σM1 : Sg) (H1 : Heap) (locs1 : List Loc), LWs D cy adC adM s σC1 σM1 H1 locs1 → Rel σM1 σC1 → W p l e room_1 s m args below meth c H1 locs1 cells slots Q (F0 m 1718 ls [])) : W p l e room_1 s m args below meth c H locs cells slots Q (F0 m 555 ls []) := by
  obtain ⟨r, eM, eC⟩ := eq_state hR (xs (i + 1))
  refine lv_aload_n E.hx E.hb dL_law_555 rfl (lv_at hl 1 rfl) ?_
  refine larg (k := 1) E h (by omega) hl rfl rfl dL_law_556 dL_law_557 dL_law_558 dL_law_559 dL_law_560 (by decide) ?_
  refine lcalC E h (va_runV (As := [.int (xs (i + 1))]) (rest := []) E.fix (c_X11_state (l := l) (D := D) (cy := cy) E.oC (xs (i + 1)) σC eC) (lcV E k3_102 k1_1 k3_99 k3_100 k3_101 mL_X11_state rfl rfl ⟨Nat.le_of_ble_eq_true rfl, Nat.le_of_ble_eq_true rfl⟩) (lPreC E h _) rfl rfl hl.1 rfl (lv_room (Nat.le_of_ble_eq_true rfl)) dL_law_561 ⟨hcs.1, hcs.2⟩) (fun H locs h => ?_)
  refine lv_aload_n E.hx E.hb dL_law_564 rfl (lv_at hl 2 rfl) ?_
  refine larg (k := 1) E h (by omega) hl rfl rfl dL_law_565 dL_law_566 dL_law_567 dL_law_568 dL_law_569 (by decide) ?_
  refine lcalM E h (va_runV (As := [.int (xs (i + 1))]) (rest := [.int r]) E.fix (c_X12_state (l := l) (D := D) (cy := cy) E.oM (xs (i + 1)) σM eM) (lcV E k6_226 k1_14 k6_223 k6_224 k6_225 mL_X12_state rfl rfl ⟨Nat.le_of_ble_eq_true rfl, Nat.le_of_ble_eq_true rfl⟩) (lPreM E h _) rfl rfl hl.1 rfl (lv_room (Nat.le_of_ble_eq_true rfl)) dL_law_570 ⟨hcs.1, hcs.2⟩) (fun H locs h => ?_)
  refine lv_icmp_eq (tgt := 1718) E.hx E.hb dL_law_573 (by decide) (fun _ => ?_) (fun ne => absurd rfl ne)
  exact kk σC σM _ _ h hR
set_option maxRecDepth 100000 in
set_option maxHeartbeats 8000000 in
/-- feed -/
theorem L_578 {p : Program} {l : Launch} {e : Env} {s : State} {m : MethodId} {args : Array Value} {below : List Frame} {meth : Method} {c : Code} {H : Heap} {locs : List Loc} {cells slots : Nat} {Q : State → Prop} {b L : Nat} {xs : Nat → Int32} {D : va_G} {cy : Cy} {adC adM : Nat → Nat} {AC AM : Nat → Prop} {σC σM : Sg} {ls : Array Slot} (E : LWe p s m args c b L xs D cy adC adM AC AM) (hcs : cells ≤ room_1.cells ∧ slots ≤ room_1.slots) {i : Nat} (hi : i + 4 < L) (h : LWs D cy adC adM s σC σM H locs) (hR : Rel σM σC) (hl : lv_has ls 4 [(3, .int (nI i)), (1, .ref (adC 0)), (2, .ref (adM 0)), (0, .ref b)])
    (kk : ∀ (σC1 σM1 : Sg) (H1 : Heap) (locs1 : List Loc), LWs D cy adC adM s σC1 σM1 H1 locs1 → Rel σM1 σC1 → W p l e room_1 s m args below meth c H1 locs1 cells slots Q (F0 m 1718 ls [])) : W p l e room_1 s m args below meth c H locs cells slots Q (F0 m 578 ls []) := by
  obtain ⟨r, σM1, σC1, eM, eC, R1⟩ := eq_feed hR ((((xs (i + 1)).toInt64 <<< ((32 : Int32).toInt64 &&& 63)) ||| ((xs (i + 2)).toInt64 &&& (4294967295 : Int64)))) (xs (i + 3))
  refine lv_aload_n E.hx E.hb dL_law_578 rfl (lv_at hl 1 rfl) ?_
  refine larg (k := 1) E h (by omega) hl rfl rfl dL_law_579 dL_law_580 dL_law_581 dL_law_582 dL_law_583 (by decide) ?_
  refine lv_i2l E.hx E.hb dL_law_584 rfl ?_
  refine lv_bipush (v := 32) E.hx E.hb dL_law_585 (by decide) ?_
  refine lv_lshl E.hx E.hb dL_law_587 rfl ?_
  refine larg (k := 2) E h (by omega) hl rfl rfl dL_law_588 dL_law_589 dL_law_590 dL_law_591 dL_law_592 (by decide) ?_
  refine lv_i2l E.hx E.hb dL_law_593 rfl ?_
  refine lv_ldc2 E.hx E.hb E.hown (E.ht _ k8_178) dL_law_594 ?_
  refine lv_land E.hx E.hb dL_law_597 ?_
  refine lv_lor E.hx E.hb dL_law_598 ?_
  refine larg (k := 3) E h (by omega) hl rfl rfl dL_law_599 dL_law_600 dL_law_601 dL_law_602 dL_law_603 (by decide) ?_
  refine lcalC E h (va_runV (As := [.long ((((xs (i + 1)).toInt64 <<< ((32 : Int32).toInt64 &&& 63)) ||| ((xs (i + 2)).toInt64 &&& (4294967295 : Int64)))), .int (xs (i + 3))]) (rest := []) E.fix (c_X11_feed (l := l) (D := D) (cy := cy) E.oC ((((xs (i + 1)).toInt64 <<< ((32 : Int32).toInt64 &&& 63)) ||| ((xs (i + 2)).toInt64 &&& (4294967295 : Int64)))) (xs (i + 3)) σC eC) (lcV E k3_111 k1_1 k3_108 k3_109 k3_110 mL_X11_feed rfl rfl ⟨Nat.le_of_ble_eq_true rfl, Nat.le_of_ble_eq_true rfl⟩) (lPreC E h _) rfl rfl hl.1 rfl (lv_room (Nat.le_of_ble_eq_true rfl)) dL_law_604 ⟨hcs.1, hcs.2⟩) (fun H locs h => ?_)
  refine lv_aload_n E.hx E.hb dL_law_607 rfl (lv_at hl 2 rfl) ?_
  refine larg (k := 1) E h (by omega) hl rfl rfl dL_law_608 dL_law_609 dL_law_610 dL_law_611 dL_law_612 (by decide) ?_
  refine lv_i2l E.hx E.hb dL_law_613 rfl ?_
  refine lv_bipush (v := 32) E.hx E.hb dL_law_614 (by decide) ?_
  refine lv_lshl E.hx E.hb dL_law_616 rfl ?_
  refine larg (k := 2) E h (by omega) hl rfl rfl dL_law_617 dL_law_618 dL_law_619 dL_law_620 dL_law_621 (by decide) ?_
  refine lv_i2l E.hx E.hb dL_law_622 rfl ?_
  refine lv_ldc2 E.hx E.hb E.hown (E.ht _ k8_178) dL_law_623 ?_
  refine lv_land E.hx E.hb dL_law_626 ?_
  refine lv_lor E.hx E.hb dL_law_627 ?_
  refine larg (k := 3) E h (by omega) hl rfl rfl dL_law_628 dL_law_629 dL_law_630 dL_law_631 dL_law_632 (by decide) ?_
  refine lcalM E h (va_runV (As := [.long ((((xs (i + 1)).toInt64 <<< ((32 : Int32).toInt64 &&& 63)) ||| ((xs (i + 2)).toInt64 &&& (4294967295 : Int64)))), .int (xs (i + 3))]) (rest := [.int r]) E.fix (c_X12_feed (l := l) (D := D) (cy := cy) E.oM ((((xs (i + 1)).toInt64 <<< ((32 : Int32).toInt64 &&& 63)) ||| ((xs (i + 2)).toInt64 &&& (4294967295 : Int64)))) (xs (i + 3)) σM eM) (lcV E k7_221 k1_14 k7_218 k7_219 k7_220 mL_X12_feed rfl rfl ⟨Nat.le_of_ble_eq_true rfl, Nat.le_of_ble_eq_true rfl⟩) (lPreM E h _) rfl rfl hl.1 rfl (lv_room (Nat.le_of_ble_eq_true rfl)) dL_law_633 ⟨hcs.1, hcs.2⟩) (fun H locs h => ?_)
  refine lv_icmp_eq (tgt := 1718) E.hx E.hb dL_law_636 (by decide) (fun _ => ?_) (fun ne => absurd rfl ne)
  exact kk σC1 σM1 _ _ h R1
set_option maxRecDepth 100000 in
set_option maxHeartbeats 8000000 in
/-- rules -/
theorem L_641 {p : Program} {l : Launch} {e : Env} {s : State} {m : MethodId} {args : Array Value} {below : List Frame} {meth : Method} {c : Code} {H : Heap} {locs : List Loc} {cells slots : Nat} {Q : State → Prop} {b L : Nat} {xs : Nat → Int32} {D : va_G} {cy : Cy} {adC adM : Nat → Nat} {AC AM : Nat → Prop} {σC σM : Sg} {ls : Array Slot} (E : LWe p s m args c b L xs D cy adC adM AC AM) (hcs : cells ≤ room_1.cells ∧ slots ≤ room_1.slots) {i : Nat} (hi : i + 4 < L) (h : LWs D cy adC adM s σC σM H locs) (hR : Rel σM σC) (hl : lv_has ls 4 [(3, .int (nI i)), (1, .ref (adC 0)), (2, .ref (adM 0)), (0, .ref b)])
    (kk : ∀ (σC1 σM1 : Sg) (H1 : Heap) (locs1 : List Loc), LWs D cy adC adM s σC1 σM1 H1 locs1 → Rel σM1 σC1 → W p l e room_1 s m args below meth c H1 locs1 cells slots Q (F0 m 1718 ls [])) : W p l e room_1 s m args below meth c H locs cells slots Q (F0 m 641 ls []) := by
  obtain ⟨r, σM1, σC1, eM, eC, R1⟩ := eq_rules hR
  refine lv_aload_n E.hx E.hb dL_law_641 rfl (lv_at hl 1 rfl) ?_
  refine lcalC E h (va_runV (As := []) (rest := []) E.fix (c_X11_rules (l := l) (D := D) (cy := cy) E.oC σC eC) (lcV E k3_119 k1_1 k3_116 k3_117 k3_118 mL_X11_rules rfl rfl ⟨Nat.le_of_ble_eq_true rfl, Nat.le_of_ble_eq_true rfl⟩) (lPreC E h _) rfl rfl hl.1 rfl (lv_room (Nat.le_of_ble_eq_true rfl)) dL_law_642 ⟨hcs.1, hcs.2⟩) (fun H locs h => ?_)
  refine lv_aload_n E.hx E.hb dL_law_645 rfl (lv_at hl 2 rfl) ?_
  refine lcalM E h (va_runV (As := []) (rest := [.int r]) E.fix (c_X12_rules (l := l) (D := D) (cy := cy) E.oM σM eM) (lcV E k7_227 k1_14 k7_224 k7_225 k7_226 mL_X12_rules rfl rfl ⟨Nat.le_of_ble_eq_true rfl, Nat.le_of_ble_eq_true rfl⟩) (lPreM E h _) rfl rfl hl.1 rfl (lv_room (Nat.le_of_ble_eq_true rfl)) dL_law_646 ⟨hcs.1, hcs.2⟩) (fun H locs h => ?_)
  refine lv_icmp_eq (tgt := 1718) E.hx E.hb dL_law_649 (by decide) (fun _ => ?_) (fun ne => absurd rfl ne)
  exact kk σC1 σM1 _ _ h R1
set_option maxRecDepth 100000 in
set_option maxHeartbeats 8000000 in
/-- gust -/
theorem L_654 {p : Program} {l : Launch} {e : Env} {s : State} {m : MethodId} {args : Array Value} {below : List Frame} {meth : Method} {c : Code} {H : Heap} {locs : List Loc} {cells slots : Nat} {Q : State → Prop} {b L : Nat} {xs : Nat → Int32} {D : va_G} {cy : Cy} {adC adM : Nat → Nat} {AC AM : Nat → Prop} {σC σM : Sg} {ls : Array Slot} (E : LWe p s m args c b L xs D cy adC adM AC AM) (hcs : cells ≤ room_1.cells ∧ slots ≤ room_1.slots) {i : Nat} (hi : i + 4 < L) (h : LWs D cy adC adM s σC σM H locs) (hR : Rel σM σC) (hl : lv_has ls 4 [(3, .int (nI i)), (1, .ref (adC 0)), (2, .ref (adM 0)), (0, .ref b)])
    (kk : ∀ (σC1 σM1 : Sg) (H1 : Heap) (locs1 : List Loc), LWs D cy adC adM s σC1 σM1 H1 locs1 → Rel σM1 σC1 → W p l e room_1 s m args below meth c H1 locs1 cells slots Q (F0 m 1718 ls [])) : W p l e room_1 s m args below meth c H locs cells slots Q (F0 m 654 ls []) := by
  obtain ⟨r, σM1, σC1, eM, eC, R1⟩ := eq_gust hR
  refine lv_aload_n E.hx E.hb dL_law_654 rfl (lv_at hl 1 rfl) ?_
  refine lcalC E h (va_runV (As := []) (rest := []) E.fix (c_X11_gust (l := l) (D := D) (cy := cy) E.oC σC eC) (lcV E k4_26 k1_1 k4_23 k4_24 k4_25 mL_X11_gust rfl rfl ⟨Nat.le_of_ble_eq_true rfl, Nat.le_of_ble_eq_true rfl⟩) (lPreC E h _) rfl rfl hl.1 rfl (lv_room (Nat.le_of_ble_eq_true rfl)) dL_law_655 ⟨hcs.1, hcs.2⟩) (fun H locs h => ?_)
  refine lv_aload_n E.hx E.hb dL_law_658 rfl (lv_at hl 2 rfl) ?_
  refine lcalM E h (va_runV (As := []) (rest := [.int r]) E.fix (c_X12_gust (l := l) (D := D) (cy := cy) E.oM σM eM) (lcV E k6_238 k1_14 k6_235 k6_236 k6_237 mL_X12_gust rfl rfl ⟨Nat.le_of_ble_eq_true rfl, Nat.le_of_ble_eq_true rfl⟩) (lPreM E h _) rfl rfl hl.1 rfl (lv_room (Nat.le_of_ble_eq_true rfl)) dL_law_659 ⟨hcs.1, hcs.2⟩) (fun H locs h => ?_)
  refine lv_icmp_eq (tgt := 1718) E.hx E.hb dL_law_662 (by decide) (fun _ => ?_) (fun ne => absurd rfl ne)
  exact kk σC1 σM1 _ _ h R1
set_option maxRecDepth 100000 in
set_option maxHeartbeats 8000000 in
/-- on -/
theorem L_667 {p : Program} {l : Launch} {e : Env} {s : State} {m : MethodId} {args : Array Value} {below : List Frame} {meth : Method} {c : Code} {H : Heap} {locs : List Loc} {cells slots : Nat} {Q : State → Prop} {b L : Nat} {xs : Nat → Int32} {D : va_G} {cy : Cy} {adC adM : Nat → Nat} {AC AM : Nat → Prop} {σC σM : Sg} {ls : Array Slot} (E : LWe p s m args c b L xs D cy adC adM AC AM) (hcs : cells ≤ room_1.cells ∧ slots ≤ room_1.slots) {i : Nat} (hi : i + 4 < L) (h : LWs D cy adC adM s σC σM H locs) (hR : Rel σM σC) (hl : lv_has ls 4 [(3, .int (nI i)), (1, .ref (adC 0)), (2, .ref (adM 0)), (0, .ref b)])
    (kk : ∀ (σC1 σM1 : Sg) (H1 : Heap) (locs1 : List Loc), LWs D cy adC adM s σC1 σM1 H1 locs1 → Rel σM1 σC1 → W p l e room_1 s m args below meth c H1 locs1 cells slots Q (F0 m 1718 ls [])) : W p l e room_1 s m args below meth c H locs cells slots Q (F0 m 667 ls []) := by
  obtain ⟨r, σM1, σC1, eM, eC, R1⟩ := eq_on hR (xs (i + 1))
  refine lv_aload_n E.hx E.hb dL_law_667 rfl (lv_at hl 1 rfl) ?_
  refine larg (k := 1) E h (by omega) hl rfl rfl dL_law_668 dL_law_669 dL_law_670 dL_law_671 dL_law_672 (by decide) ?_
  refine lcalC E h (va_runV (As := [.int (xs (i + 1))]) (rest := []) E.fix (c_X11_on (l := l) (D := D) (cy := cy) E.oC (xs (i + 1)) σC eC) (lcV E k4_55 k1_1 k4_52 k4_53 k4_54 mL_X11_on rfl rfl ⟨Nat.le_of_ble_eq_true rfl, Nat.le_of_ble_eq_true rfl⟩) (lPreC E h _) rfl rfl hl.1 rfl (lv_room (Nat.le_of_ble_eq_true rfl)) dL_law_673 ⟨hcs.1, hcs.2⟩) (fun H locs h => ?_)
  refine lv_aload_n E.hx E.hb dL_law_676 rfl (lv_at hl 2 rfl) ?_
  refine larg (k := 1) E h (by omega) hl rfl rfl dL_law_677 dL_law_678 dL_law_679 dL_law_680 dL_law_681 (by decide) ?_
  refine lcalM E h (va_runV (As := [.int (xs (i + 1))]) (rest := [.int r]) E.fix (c_X12_on (l := l) (D := D) (cy := cy) E.oM (xs (i + 1)) σM eM) (lcV E k7_28 k1_14 k7_25 k7_26 k7_27 mL_X12_on rfl rfl ⟨Nat.le_of_ble_eq_true rfl, Nat.le_of_ble_eq_true rfl⟩) (lPreM E h _) rfl rfl hl.1 rfl (lv_room (Nat.le_of_ble_eq_true rfl)) dL_law_682 ⟨hcs.1, hcs.2⟩) (fun H locs h => ?_)
  refine lv_icmp_eq (tgt := 1718) E.hx E.hb dL_law_685 (by decide) (fun _ => ?_) (fun ne => absurd rfl ne)
  exact kk σC1 σM1 _ _ h R1
set_option maxRecDepth 100000 in
set_option maxHeartbeats 8000000 in
/-- when -/
theorem L_690 {p : Program} {l : Launch} {e : Env} {s : State} {m : MethodId} {args : Array Value} {below : List Frame} {meth : Method} {c : Code} {H : Heap} {locs : List Loc} {cells slots : Nat} {Q : State → Prop} {b L : Nat} {xs : Nat → Int32} {D : va_G} {cy : Cy} {adC adM : Nat → Nat} {AC AM : Nat → Prop} {σC σM : Sg} {ls : Array Slot} (E : LWe p s m args c b L xs D cy adC adM AC AM) (hcs : cells ≤ room_1.cells ∧ slots ≤ room_1.slots) {i : Nat} (hi : i + 4 < L) (h : LWs D cy adC adM s σC σM H locs) (hR : Rel σM σC) (hl : lv_has ls 4 [(3, .int (nI i)), (1, .ref (adC 0)), (2, .ref (adM 0)), (0, .ref b)])
    (kk : ∀ (σC1 σM1 : Sg) (H1 : Heap) (locs1 : List Loc), LWs D cy adC adM s σC1 σM1 H1 locs1 → Rel σM1 σC1 → W p l e room_1 s m args below meth c H1 locs1 cells slots Q (F0 m 1718 ls [])) : W p l e room_1 s m args below meth c H locs cells slots Q (F0 m 690 ls []) := by
  obtain ⟨r, σM1, σC1, eM, eC, R1⟩ := eq_when hR (xs (i + 1))
  refine lv_aload_n E.hx E.hb dL_law_690 rfl (lv_at hl 1 rfl) ?_
  refine larg (k := 1) E h (by omega) hl rfl rfl dL_law_691 dL_law_692 dL_law_693 dL_law_694 dL_law_695 (by decide) ?_
  refine lcalC E h (va_runV (As := [.int (xs (i + 1))]) (rest := []) E.fix (c_X11_when (l := l) (D := D) (cy := cy) E.oC (xs (i + 1)) σC eC) (lcV E k4_72 k1_1 k4_69 k4_70 k4_71 mL_X11_when rfl rfl ⟨Nat.le_of_ble_eq_true rfl, Nat.le_of_ble_eq_true rfl⟩) (lPreC E h _) rfl rfl hl.1 rfl (lv_room (Nat.le_of_ble_eq_true rfl)) dL_law_696 ⟨hcs.1, hcs.2⟩) (fun H locs h => ?_)
  refine lv_aload_n E.hx E.hb dL_law_699 rfl (lv_at hl 2 rfl) ?_
  refine larg (k := 1) E h (by omega) hl rfl rfl dL_law_700 dL_law_701 dL_law_702 dL_law_703 dL_law_704 (by decide) ?_
  refine lcalM E h (va_runV (As := [.int (xs (i + 1))]) (rest := [.int r]) E.fix (c_X12_when (l := l) (D := D) (cy := cy) E.oM (xs (i + 1)) σM eM) (lcV E k7_48 k1_14 k7_45 k7_46 k7_47 mL_X12_when rfl rfl ⟨Nat.le_of_ble_eq_true rfl, Nat.le_of_ble_eq_true rfl⟩) (lPreM E h _) rfl rfl hl.1 rfl (lv_room (Nat.le_of_ble_eq_true rfl)) dL_law_705 ⟨hcs.1, hcs.2⟩) (fun H locs h => ?_)
  refine lv_icmp_eq (tgt := 1718) E.hx E.hb dL_law_708 (by decide) (fun _ => ?_) (fun ne => absurd rfl ne)
  exact kk σC1 σM1 _ _ h R1
set_option maxRecDepth 100000 in
set_option maxHeartbeats 8000000 in
/-- stringFor -/
theorem L_713 {p : Program} {l : Launch} {e : Env} {s : State} {m : MethodId} {args : Array Value} {below : List Frame} {meth : Method} {c : Code} {H : Heap} {locs : List Loc} {cells slots : Nat} {Q : State → Prop} {b L : Nat} {xs : Nat → Int32} {D : va_G} {cy : Cy} {adC adM : Nat → Nat} {AC AM : Nat → Prop} {σC σM : Sg} {ls : Array Slot} (E : LWe p s m args c b L xs D cy adC adM AC AM) (hcs : cells ≤ room_1.cells ∧ slots ≤ room_1.slots) {i : Nat} (hi : i + 4 < L) (h : LWs D cy adC adM s σC σM H locs) (hR : Rel σM σC) (hl : lv_has ls 4 [(3, .int (nI i)), (1, .ref (adC 0)), (2, .ref (adM 0)), (0, .ref b)])
    (kk : ∀ (σC1 σM1 : Sg) (H1 : Heap) (locs1 : List Loc), LWs D cy adC adM s σC1 σM1 H1 locs1 → Rel σM1 σC1 → W p l e room_1 s m args below meth c H1 locs1 cells slots Q (F0 m 1718 ls [])) : W p l e room_1 s m args below meth c H locs cells slots Q (F0 m 713 ls []) := by
  obtain ⟨r, σM1, σC1, eM, eC, R1⟩ := eq_stringFor hR (xs (i + 1))
  refine lv_aload_n E.hx E.hb dL_law_713 rfl (lv_at hl 1 rfl) ?_
  refine larg (k := 1) E h (by omega) hl rfl rfl dL_law_714 dL_law_715 dL_law_716 dL_law_717 dL_law_718 (by decide) ?_
  refine lcalC E h (va_runV (As := [.int (xs (i + 1))]) (rest := []) E.fix (c_X11_stringFor (l := l) (D := D) (cy := cy) E.oC (xs (i + 1)) σC eC) (lcV E k4_76 k1_1 k4_73 k4_74 k4_75 mL_X11_stringFor rfl rfl ⟨Nat.le_of_ble_eq_true rfl, Nat.le_of_ble_eq_true rfl⟩) (lPreC E h _) rfl rfl hl.1 rfl (lv_room (Nat.le_of_ble_eq_true rfl)) dL_law_719 ⟨hcs.1, hcs.2⟩) (fun H locs h => ?_)
  refine lv_aload_n E.hx E.hb dL_law_722 rfl (lv_at hl 2 rfl) ?_
  refine larg (k := 1) E h (by omega) hl rfl rfl dL_law_723 dL_law_724 dL_law_725 dL_law_726 dL_law_727 (by decide) ?_
  refine lcalM E h (va_runV (As := [.int (xs (i + 1))]) (rest := [.int r]) E.fix (c_X12_stringFor (l := l) (D := D) (cy := cy) E.oM (xs (i + 1)) σM eM) (lcV E k7_52 k1_14 k7_49 k7_50 k7_51 mL_X12_stringFor rfl rfl ⟨Nat.le_of_ble_eq_true rfl, Nat.le_of_ble_eq_true rfl⟩) (lPreM E h _) rfl rfl hl.1 rfl (lv_room (Nat.le_of_ble_eq_true rfl)) dL_law_728 ⟨hcs.1, hcs.2⟩) (fun H locs h => ?_)
  refine lv_icmp_eq (tgt := 1718) E.hx E.hb dL_law_731 (by decide) (fun _ => ?_) (fun ne => absurd rfl ne)
  exact kk σC1 σM1 _ _ h R1
set_option maxRecDepth 100000 in
set_option maxHeartbeats 8000000 in
/-- nameFor -/
theorem L_736 {p : Program} {l : Launch} {e : Env} {s : State} {m : MethodId} {args : Array Value} {below : List Frame} {meth : Method} {c : Code} {H : Heap} {locs : List Loc} {cells slots : Nat} {Q : State → Prop} {b L : Nat} {xs : Nat → Int32} {D : va_G} {cy : Cy} {adC adM : Nat → Nat} {AC AM : Nat → Prop} {σC σM : Sg} {ls : Array Slot} (E : LWe p s m args c b L xs D cy adC adM AC AM) (hcs : cells ≤ room_1.cells ∧ slots ≤ room_1.slots) {i : Nat} (hi : i + 4 < L) (h : LWs D cy adC adM s σC σM H locs) (hR : Rel σM σC) (hl : lv_has ls 4 [(3, .int (nI i)), (1, .ref (adC 0)), (2, .ref (adM 0)), (0, .ref b)])
    (kk : ∀ (σC1 σM1 : Sg) (H1 : Heap) (locs1 : List Loc), LWs D cy adC adM s σC1 σM1 H1 locs1 → Rel σM1 σC1 → W p l e room_1 s m args below meth c H1 locs1 cells slots Q (F0 m 1718 ls [])) : W p l e room_1 s m args below meth c H locs cells slots Q (F0 m 736 ls []) := by
  obtain ⟨r, σM1, σC1, eM, eC, R1⟩ := eq_nameFor hR (xs (i + 1))
  refine lv_aload_n E.hx E.hb dL_law_736 rfl (lv_at hl 1 rfl) ?_
  refine larg (k := 1) E h (by omega) hl rfl rfl dL_law_737 dL_law_738 dL_law_739 dL_law_740 dL_law_741 (by decide) ?_
  refine lcalC E h (va_runV (As := [.int (xs (i + 1))]) (rest := []) E.fix (c_X11_nameFor (l := l) (D := D) (cy := cy) E.oC (xs (i + 1)) σC eC) (lcV E k4_80 k1_1 k4_77 k4_78 k4_79 mL_X11_nameFor rfl rfl ⟨Nat.le_of_ble_eq_true rfl, Nat.le_of_ble_eq_true rfl⟩) (lPreC E h _) rfl rfl hl.1 rfl (lv_room (Nat.le_of_ble_eq_true rfl)) dL_law_742 ⟨hcs.1, hcs.2⟩) (fun H locs h => ?_)
  refine lv_aload_n E.hx E.hb dL_law_745 rfl (lv_at hl 2 rfl) ?_
  refine larg (k := 1) E h (by omega) hl rfl rfl dL_law_746 dL_law_747 dL_law_748 dL_law_749 dL_law_750 (by decide) ?_
  refine lcalM E h (va_runV (As := [.int (xs (i + 1))]) (rest := [.int r]) E.fix (c_X12_nameFor (l := l) (D := D) (cy := cy) E.oM (xs (i + 1)) σM eM) (lcV E k7_60 k1_14 k7_57 k7_58 k7_59 mL_X12_nameFor rfl rfl ⟨Nat.le_of_ble_eq_true rfl, Nat.le_of_ble_eq_true rfl⟩) (lPreM E h _) rfl rfl hl.1 rfl (lv_room (Nat.le_of_ble_eq_true rfl)) dL_law_751 ⟨hcs.1, hcs.2⟩) (fun H locs h => ?_)
  refine lv_icmp_eq (tgt := 1718) E.hx E.hb dL_law_754 (by decide) (fun _ => ?_) (fun ne => absurd rfl ne)
  exact kk σC1 σM1 _ _ h R1
set_option maxRecDepth 100000 in
set_option maxHeartbeats 8000000 in
/-- over -/
theorem L_759 {p : Program} {l : Launch} {e : Env} {s : State} {m : MethodId} {args : Array Value} {below : List Frame} {meth : Method} {c : Code} {H : Heap} {locs : List Loc} {cells slots : Nat} {Q : State → Prop} {b L : Nat} {xs : Nat → Int32} {D : va_G} {cy : Cy} {adC adM : Nat → Nat} {AC AM : Nat → Prop} {σC σM : Sg} {ls : Array Slot} (E : LWe p s m args c b L xs D cy adC adM AC AM) (hcs : cells ≤ room_1.cells ∧ slots ≤ room_1.slots) {i : Nat} (hi : i + 4 < L) (h : LWs D cy adC adM s σC σM H locs) (hR : Rel σM σC) (hl : lv_has ls 4 [(3, .int (nI i)), (1, .ref (adC 0)), (2, .ref (adM 0)), (0, .ref b)])
    (kk : ∀ (σC1 σM1 : Sg) (H1 : Heap) (locs1 : List Loc), LWs D cy adC adM s σC1 σM1 H1 locs1 → Rel σM1 σC1 → W p l e room_1 s m args below meth c H1 locs1 cells slots Q (F0 m 1718 ls [])) : W p l e room_1 s m args below meth c H locs cells slots Q (F0 m 759 ls []) := by
  obtain ⟨r, σM1, σC1, eM, eC, R1⟩ := eq_over hR (xs (i + 1))
  refine lv_aload_n E.hx E.hb dL_law_759 rfl (lv_at hl 1 rfl) ?_
  refine larg (k := 1) E h (by omega) hl rfl rfl dL_law_760 dL_law_761 dL_law_762 dL_law_763 dL_law_764 (by decide) ?_
  refine lcalC E h (va_runV (As := [.int (xs (i + 1))]) (rest := []) E.fix (c_X11_over (l := l) (D := D) (cy := cy) E.oC (xs (i + 1)) σC eC) (lcV E k4_84 k1_1 k4_81 k4_82 k4_83 mL_X11_over rfl rfl ⟨Nat.le_of_ble_eq_true rfl, Nat.le_of_ble_eq_true rfl⟩) (lPreC E h _) rfl rfl hl.1 rfl (lv_room (Nat.le_of_ble_eq_true rfl)) dL_law_765 ⟨hcs.1, hcs.2⟩) (fun H locs h => ?_)
  refine lv_aload_n E.hx E.hb dL_law_768 rfl (lv_at hl 2 rfl) ?_
  refine larg (k := 1) E h (by omega) hl rfl rfl dL_law_769 dL_law_770 dL_law_771 dL_law_772 dL_law_773 (by decide) ?_
  refine lcalM E h (va_runV (As := [.int (xs (i + 1))]) (rest := [.int r]) E.fix (c_X12_over (l := l) (D := D) (cy := cy) E.oM (xs (i + 1)) σM eM) (lcV E k7_64 k1_14 k7_61 k7_62 k7_63 mL_X12_over rfl rfl ⟨Nat.le_of_ble_eq_true rfl, Nat.le_of_ble_eq_true rfl⟩) (lPreM E h _) rfl rfl hl.1 rfl (lv_room (Nat.le_of_ble_eq_true rfl)) dL_law_774 ⟨hcs.1, hcs.2⟩) (fun H locs h => ?_)
  refine lv_icmp_eq (tgt := 1718) E.hx E.hb dL_law_777 (by decide) (fun _ => ?_) (fun ne => absurd rfl ne)
  exact kk σC1 σM1 _ _ h R1
set_option maxRecDepth 100000 in
set_option maxHeartbeats 8000000 in
/-- cases -/
theorem L_782 {p : Program} {l : Launch} {e : Env} {s : State} {m : MethodId} {args : Array Value} {below : List Frame} {meth : Method} {c : Code} {H : Heap} {locs : List Loc} {cells slots : Nat} {Q : State → Prop} {b L : Nat} {xs : Nat → Int32} {D : va_G} {cy : Cy} {adC adM : Nat → Nat} {AC AM : Nat → Prop} {σC σM : Sg} {ls : Array Slot} (E : LWe p s m args c b L xs D cy adC adM AC AM) (hcs : cells ≤ room_1.cells ∧ slots ≤ room_1.slots) {i : Nat} (hi : i + 4 < L) (h : LWs D cy adC adM s σC σM H locs) (hR : Rel σM σC) (hl : lv_has ls 4 [(3, .int (nI i)), (1, .ref (adC 0)), (2, .ref (adM 0)), (0, .ref b)])
    (kk : ∀ (σC1 σM1 : Sg) (H1 : Heap) (locs1 : List Loc), LWs D cy adC adM s σC1 σM1 H1 locs1 → Rel σM1 σC1 → W p l e room_1 s m args below meth c H1 locs1 cells slots Q (F0 m 1718 ls [])) : W p l e room_1 s m args below meth c H locs cells slots Q (F0 m 782 ls []) := by
  obtain ⟨r, eM, eC⟩ := eq_cases hR (xs (i + 1))
  refine lv_aload_n E.hx E.hb dL_law_782 rfl (lv_at hl 1 rfl) ?_
  refine larg (k := 1) E h (by omega) hl rfl rfl dL_law_783 dL_law_784 dL_law_785 dL_law_786 dL_law_787 (by decide) ?_
  refine lcalC E h (va_runV (As := [.int (xs (i + 1))]) (rest := []) E.fix (c_X11_cases (l := l) (D := D) (cy := cy) E.oC (xs (i + 1)) σC eC) (lcV E k4_96 k1_1 k4_93 k4_94 k4_95 mL_X11_cases rfl rfl ⟨Nat.le_of_ble_eq_true rfl, Nat.le_of_ble_eq_true rfl⟩) (lPreC E h _) rfl rfl hl.1 rfl (lv_room (Nat.le_of_ble_eq_true rfl)) dL_law_788 ⟨hcs.1, hcs.2⟩) (fun H locs h => ?_)
  refine lv_aload_n E.hx E.hb dL_law_791 rfl (lv_at hl 2 rfl) ?_
  refine larg (k := 1) E h (by omega) hl rfl rfl dL_law_792 dL_law_793 dL_law_794 dL_law_795 dL_law_796 (by decide) ?_
  refine lcalM E h (va_runV (As := [.int (xs (i + 1))]) (rest := [.int r]) E.fix (c_X12_cases (l := l) (D := D) (cy := cy) E.oM (xs (i + 1)) σM eM) (lcV E k7_68 k1_14 k7_65 k7_66 k7_67 mL_X12_cases rfl rfl ⟨Nat.le_of_ble_eq_true rfl, Nat.le_of_ble_eq_true rfl⟩) (lPreM E h _) rfl rfl hl.1 rfl (lv_room (Nat.le_of_ble_eq_true rfl)) dL_law_797 ⟨hcs.1, hcs.2⟩) (fun H locs h => ?_)
  refine lv_icmp_eq (tgt := 1718) E.hx E.hb dL_law_800 (by decide) (fun _ => ?_) (fun ne => absurd rfl ne)
  exact kk σC σM _ _ h hR
set_option maxRecDepth 100000 in
set_option maxHeartbeats 8000000 in
/-- circuit -/
theorem L_805 {p : Program} {l : Launch} {e : Env} {s : State} {m : MethodId} {args : Array Value} {below : List Frame} {meth : Method} {c : Code} {H : Heap} {locs : List Loc} {cells slots : Nat} {Q : State → Prop} {b L : Nat} {xs : Nat → Int32} {D : va_G} {cy : Cy} {adC adM : Nat → Nat} {AC AM : Nat → Prop} {σC σM : Sg} {ls : Array Slot} (E : LWe p s m args c b L xs D cy adC adM AC AM) (hcs : cells ≤ room_1.cells ∧ slots ≤ room_1.slots) {i : Nat} (hi : i + 4 < L) (h : LWs D cy adC adM s σC σM H locs) (hR : Rel σM σC) (hl : lv_has ls 4 [(3, .int (nI i)), (1, .ref (adC 0)), (2, .ref (adM 0)), (0, .ref b)])
    (kk : ∀ (σC1 σM1 : Sg) (H1 : Heap) (locs1 : List Loc), LWs D cy adC adM s σC1 σM1 H1 locs1 → Rel σM1 σC1 → W p l e room_1 s m args below meth c H1 locs1 cells slots Q (F0 m 1718 ls [])) : W p l e room_1 s m args below meth c H locs cells slots Q (F0 m 805 ls []) := by
  obtain ⟨r, eM, eC⟩ := eq_circuit hR (xs (i + 1)) (xs (i + 2))
  refine lv_aload_n E.hx E.hb dL_law_805 rfl (lv_at hl 1 rfl) ?_
  refine larg (k := 1) E h (by omega) hl rfl rfl dL_law_806 dL_law_807 dL_law_808 dL_law_809 dL_law_810 (by decide) ?_
  refine larg (k := 2) E h (by omega) hl rfl rfl dL_law_811 dL_law_812 dL_law_813 dL_law_814 dL_law_815 (by decide) ?_
  refine lcalC E h (va_runV (As := [.int (xs (i + 1)), .int (xs (i + 2))]) (rest := []) E.fix (c_X11_circuit (l := l) (D := D) (cy := cy) E.oC (xs (i + 1)) (xs (i + 2)) σC eC) (lcV E k4_114 k1_1 k4_111 k4_112 k4_113 mL_X11_circuit rfl rfl ⟨Nat.le_of_ble_eq_true rfl, Nat.le_of_ble_eq_true rfl⟩) (lPreC E h _) rfl rfl hl.1 rfl (lv_room (Nat.le_of_ble_eq_true rfl)) dL_law_816 ⟨hcs.1, hcs.2⟩) (fun H locs h => ?_)
  refine lv_aload_n E.hx E.hb dL_law_819 rfl (lv_at hl 2 rfl) ?_
  refine larg (k := 1) E h (by omega) hl rfl rfl dL_law_820 dL_law_821 dL_law_822 dL_law_823 dL_law_824 (by decide) ?_
  refine larg (k := 2) E h (by omega) hl rfl rfl dL_law_825 dL_law_826 dL_law_827 dL_law_828 dL_law_829 (by decide) ?_
  refine lcalM E h (va_runV (As := [.int (xs (i + 1)), .int (xs (i + 2))]) (rest := [.int r]) E.fix (c_X12_circuit (l := l) (D := D) (cy := cy) E.oM (xs (i + 1)) (xs (i + 2)) σM eM) (lcV E k7_80 k1_14 k7_77 k7_78 k7_79 mL_X12_circuit rfl rfl ⟨Nat.le_of_ble_eq_true rfl, Nat.le_of_ble_eq_true rfl⟩) (lPreM E h _) rfl rfl hl.1 rfl (lv_room (Nat.le_of_ble_eq_true rfl)) dL_law_830 ⟨hcs.1, hcs.2⟩) (fun H locs h => ?_)
  refine lv_icmp_eq (tgt := 1718) E.hx E.hb dL_law_833 (by decide) (fun _ => ?_) (fun ne => absurd rfl ne)
  exact kk σC σM _ _ h hR
set_option maxRecDepth 100000 in
set_option maxHeartbeats 8000000 in
/-- best -/
theorem L_838 {p : Program} {l : Launch} {e : Env} {s : State} {m : MethodId} {args : Array Value} {below : List Frame} {meth : Method} {c : Code} {H : Heap} {locs : List Loc} {cells slots : Nat} {Q : State → Prop} {b L : Nat} {xs : Nat → Int32} {D : va_G} {cy : Cy} {adC adM : Nat → Nat} {AC AM : Nat → Prop} {σC σM : Sg} {ls : Array Slot} (E : LWe p s m args c b L xs D cy adC adM AC AM) (hcs : cells ≤ room_1.cells ∧ slots ≤ room_1.slots) {i : Nat} (hi : i + 4 < L) (h : LWs D cy adC adM s σC σM H locs) (hR : Rel σM σC) (hl : lv_has ls 4 [(3, .int (nI i)), (1, .ref (adC 0)), (2, .ref (adM 0)), (0, .ref b)])
    (kk : ∀ (σC1 σM1 : Sg) (H1 : Heap) (locs1 : List Loc), LWs D cy adC adM s σC1 σM1 H1 locs1 → Rel σM1 σC1 → W p l e room_1 s m args below meth c H1 locs1 cells slots Q (F0 m 1718 ls [])) : W p l e room_1 s m args below meth c H locs cells slots Q (F0 m 838 ls []) := by
  obtain ⟨r, σM1, σC1, eM, eC, R1⟩ := eq_best hR (xs (i + 1))
  refine lv_aload_n E.hx E.hb dL_law_838 rfl (lv_at hl 1 rfl) ?_
  refine larg (k := 1) E h (by omega) hl rfl rfl dL_law_839 dL_law_840 dL_law_841 dL_law_842 dL_law_843 (by decide) ?_
  refine lcalC E h (va_runV (As := [.int (xs (i + 1))]) (rest := []) E.fix (c_X11_best (l := l) (D := D) (cy := cy) E.oC (xs (i + 1)) σC eC) (lcV E k4_127 k1_1 k4_124 k4_125 k4_126 mL_X11_best rfl rfl ⟨Nat.le_of_ble_eq_true rfl, Nat.le_of_ble_eq_true rfl⟩) (lPreC E h _) rfl rfl hl.1 rfl (lv_room (Nat.le_of_ble_eq_true rfl)) dL_law_844 ⟨hcs.1, hcs.2⟩) (fun H locs h => ?_)
  refine lv_aload_n E.hx E.hb dL_law_847 rfl (lv_at hl 2 rfl) ?_
  refine larg (k := 1) E h (by omega) hl rfl rfl dL_law_848 dL_law_849 dL_law_850 dL_law_851 dL_law_852 (by decide) ?_
  refine lcalM E h (va_runV (As := [.int (xs (i + 1))]) (rest := [.int r]) E.fix (c_X12_best (l := l) (D := D) (cy := cy) E.oM (xs (i + 1)) σM eM) (lcV E k7_88 k1_14 k7_85 k7_86 k7_87 mL_X12_best rfl rfl ⟨Nat.le_of_ble_eq_true rfl, Nat.le_of_ble_eq_true rfl⟩) (lPreM E h _) rfl rfl hl.1 rfl (lv_room (Nat.le_of_ble_eq_true rfl)) dL_law_853 ⟨hcs.1, hcs.2⟩) (fun H locs h => ?_)
  refine lv_icmp_eq (tgt := 1718) E.hx E.hb dL_law_856 (by decide) (fun _ => ?_) (fun ne => absurd rfl ne)
  exact kk σC1 σM1 _ _ h R1
set_option maxRecDepth 100000 in
set_option maxHeartbeats 8000000 in
/-- ith -/
theorem L_861 {p : Program} {l : Launch} {e : Env} {s : State} {m : MethodId} {args : Array Value} {below : List Frame} {meth : Method} {c : Code} {H : Heap} {locs : List Loc} {cells slots : Nat} {Q : State → Prop} {b L : Nat} {xs : Nat → Int32} {D : va_G} {cy : Cy} {adC adM : Nat → Nat} {AC AM : Nat → Prop} {σC σM : Sg} {ls : Array Slot} (E : LWe p s m args c b L xs D cy adC adM AC AM) (hcs : cells ≤ room_1.cells ∧ slots ≤ room_1.slots) {i : Nat} (hi : i + 4 < L) (h : LWs D cy adC adM s σC σM H locs) (hR : Rel σM σC) (hl : lv_has ls 4 [(3, .int (nI i)), (1, .ref (adC 0)), (2, .ref (adM 0)), (0, .ref b)])
    (kk : ∀ (σC1 σM1 : Sg) (H1 : Heap) (locs1 : List Loc), LWs D cy adC adM s σC1 σM1 H1 locs1 → Rel σM1 σC1 → W p l e room_1 s m args below meth c H1 locs1 cells slots Q (F0 m 1718 ls [])) : W p l e room_1 s m args below meth c H locs cells slots Q (F0 m 861 ls []) := by
  obtain ⟨r, σM1, σC1, eM, eC, R1⟩ := eq_ith hR (xs (i + 1)) (xs (i + 2))
  refine lv_aload_n E.hx E.hb dL_law_861 rfl (lv_at hl 1 rfl) ?_
  refine larg (k := 1) E h (by omega) hl rfl rfl dL_law_862 dL_law_863 dL_law_864 dL_law_865 dL_law_866 (by decide) ?_
  refine larg (k := 2) E h (by omega) hl rfl rfl dL_law_867 dL_law_868 dL_law_869 dL_law_870 dL_law_871 (by decide) ?_
  refine lcalC E h (va_runV (As := [.int (xs (i + 1)), .int (xs (i + 2))]) (rest := []) E.fix (c_X11_ith (l := l) (D := D) (cy := cy) E.oC (xs (i + 1)) (xs (i + 2)) σC eC) (lcV E k4_150 k1_1 k4_147 k4_148 k4_149 mL_X11_ith rfl rfl ⟨Nat.le_of_ble_eq_true rfl, Nat.le_of_ble_eq_true rfl⟩) (lPreC E h _) rfl rfl hl.1 rfl (lv_room (Nat.le_of_ble_eq_true rfl)) dL_law_872 ⟨hcs.1, hcs.2⟩) (fun H locs h => ?_)
  refine lv_aload_n E.hx E.hb dL_law_875 rfl (lv_at hl 2 rfl) ?_
  refine larg (k := 1) E h (by omega) hl rfl rfl dL_law_876 dL_law_877 dL_law_878 dL_law_879 dL_law_880 (by decide) ?_
  refine larg (k := 2) E h (by omega) hl rfl rfl dL_law_881 dL_law_882 dL_law_883 dL_law_884 dL_law_885 (by decide) ?_
  refine lcalM E h (va_runV (As := [.int (xs (i + 1)), .int (xs (i + 2))]) (rest := [.int r]) E.fix (c_X12_ith (l := l) (D := D) (cy := cy) E.oM (xs (i + 1)) (xs (i + 2)) σM eM) (lcV E k7_115 k1_14 k7_112 k7_113 k7_114 mL_X12_ith rfl rfl ⟨Nat.le_of_ble_eq_true rfl, Nat.le_of_ble_eq_true rfl⟩) (lPreM E h _) rfl rfl hl.1 rfl (lv_room (Nat.le_of_ble_eq_true rfl)) dL_law_886 ⟨hcs.1, hcs.2⟩) (fun H locs h => ?_)
  refine lv_icmp_eq (tgt := 1718) E.hx E.hb dL_law_889 (by decide) (fun _ => ?_) (fun ne => absurd rfl ne)
  exact kk σC1 σM1 _ _ h R1
set_option maxRecDepth 100000 in
set_option maxHeartbeats 8000000 in
/-- ways -/
theorem L_894 {p : Program} {l : Launch} {e : Env} {s : State} {m : MethodId} {args : Array Value} {below : List Frame} {meth : Method} {c : Code} {H : Heap} {locs : List Loc} {cells slots : Nat} {Q : State → Prop} {b L : Nat} {xs : Nat → Int32} {D : va_G} {cy : Cy} {adC adM : Nat → Nat} {AC AM : Nat → Prop} {σC σM : Sg} {ls : Array Slot} (E : LWe p s m args c b L xs D cy adC adM AC AM) (hcs : cells ≤ room_1.cells ∧ slots ≤ room_1.slots) {i : Nat} (hi : i + 4 < L) (h : LWs D cy adC adM s σC σM H locs) (hR : Rel σM σC) (hl : lv_has ls 4 [(3, .int (nI i)), (1, .ref (adC 0)), (2, .ref (adM 0)), (0, .ref b)])
    (kk : ∀ (σC1 σM1 : Sg) (H1 : Heap) (locs1 : List Loc), LWs D cy adC adM s σC1 σM1 H1 locs1 → Rel σM1 σC1 → W p l e room_1 s m args below meth c H1 locs1 cells slots Q (F0 m 1718 ls [])) : W p l e room_1 s m args below meth c H locs cells slots Q (F0 m 894 ls []) := by
  obtain ⟨r, σM1, σC1, eM, eC, R1⟩ := eq_ways hR (xs (i + 1))
  refine lv_aload_n E.hx E.hb dL_law_894 rfl (lv_at hl 1 rfl) ?_
  refine larg (k := 1) E h (by omega) hl rfl rfl dL_law_895 dL_law_896 dL_law_897 dL_law_898 dL_law_899 (by decide) ?_
  refine lcalC E h (va_runV (As := [.int (xs (i + 1))]) (rest := []) E.fix (c_X11_ways (l := l) (D := D) (cy := cy) E.oC (xs (i + 1)) σC eC) (lcV E k4_154 k1_1 k4_151 k4_152 k4_153 mL_X11_ways rfl rfl ⟨Nat.le_of_ble_eq_true rfl, Nat.le_of_ble_eq_true rfl⟩) (lPreC E h _) rfl rfl hl.1 rfl (lv_room (Nat.le_of_ble_eq_true rfl)) dL_law_900 ⟨hcs.1, hcs.2⟩) (fun H locs h => ?_)
  refine lv_aload_n E.hx E.hb dL_law_903 rfl (lv_at hl 2 rfl) ?_
  refine larg (k := 1) E h (by omega) hl rfl rfl dL_law_904 dL_law_905 dL_law_906 dL_law_907 dL_law_908 (by decide) ?_
  refine lcalM E h (va_runV (As := [.int (xs (i + 1))]) (rest := [.int r]) E.fix (c_X12_ways (l := l) (D := D) (cy := cy) E.oM (xs (i + 1)) σM eM) (lcV E k7_120 k1_14 k7_117 k7_118 k7_119 mL_X12_ways rfl rfl ⟨Nat.le_of_ble_eq_true rfl, Nat.le_of_ble_eq_true rfl⟩) (lPreM E h _) rfl rfl hl.1 rfl (lv_room (Nat.le_of_ble_eq_true rfl)) dL_law_909 ⟨hcs.1, hcs.2⟩) (fun H locs h => ?_)
  refine lv_icmp_eq (tgt := 1718) E.hx E.hb dL_law_912 (by decide) (fun _ => ?_) (fun ne => absurd rfl ne)
  exact kk σC1 σM1 _ _ h R1
set_option maxRecDepth 100000 in
set_option maxHeartbeats 8000000 in
/-- writ -/
theorem L_917 {p : Program} {l : Launch} {e : Env} {s : State} {m : MethodId} {args : Array Value} {below : List Frame} {meth : Method} {c : Code} {H : Heap} {locs : List Loc} {cells slots : Nat} {Q : State → Prop} {b L : Nat} {xs : Nat → Int32} {D : va_G} {cy : Cy} {adC adM : Nat → Nat} {AC AM : Nat → Prop} {σC σM : Sg} {ls : Array Slot} (E : LWe p s m args c b L xs D cy adC adM AC AM) (hcs : cells ≤ room_1.cells ∧ slots ≤ room_1.slots) {i : Nat} (hi : i + 4 < L) (h : LWs D cy adC adM s σC σM H locs) (hR : Rel σM σC) (hl : lv_has ls 4 [(3, .int (nI i)), (1, .ref (adC 0)), (2, .ref (adM 0)), (0, .ref b)])
    (kk : ∀ (σC1 σM1 : Sg) (H1 : Heap) (locs1 : List Loc), LWs D cy adC adM s σC1 σM1 H1 locs1 → Rel σM1 σC1 → W p l e room_1 s m args below meth c H1 locs1 cells slots Q (F0 m 1718 ls [])) : W p l e room_1 s m args below meth c H locs cells slots Q (F0 m 917 ls []) := by
  obtain ⟨r, σM1, σC1, eM, eC, R1⟩ := eq_writ hR (xs (i + 1)) (xs (i + 2))
  refine lv_aload_n E.hx E.hb dL_law_917 rfl (lv_at hl 1 rfl) ?_
  refine larg (k := 1) E h (by omega) hl rfl rfl dL_law_918 dL_law_919 dL_law_920 dL_law_921 dL_law_922 (by decide) ?_
  refine larg (k := 2) E h (by omega) hl rfl rfl dL_law_923 dL_law_924 dL_law_925 dL_law_926 dL_law_927 (by decide) ?_
  refine lcalC E h (va_runV (As := [.int (xs (i + 1)), .int (xs (i + 2))]) (rest := []) E.fix (c_X11_writ (l := l) (D := D) (cy := cy) E.oC (xs (i + 1)) (xs (i + 2)) σC eC) (lcV E k4_158 k1_1 k4_155 k4_156 k4_157 mL_X11_writ rfl rfl ⟨Nat.le_of_ble_eq_true rfl, Nat.le_of_ble_eq_true rfl⟩) (lPreC E h _) rfl rfl hl.1 rfl (lv_room (Nat.le_of_ble_eq_true rfl)) dL_law_928 ⟨hcs.1, hcs.2⟩) (fun H locs h => ?_)
  refine lv_aload_n E.hx E.hb dL_law_931 rfl (lv_at hl 2 rfl) ?_
  refine larg (k := 1) E h (by omega) hl rfl rfl dL_law_932 dL_law_933 dL_law_934 dL_law_935 dL_law_936 (by decide) ?_
  refine larg (k := 2) E h (by omega) hl rfl rfl dL_law_937 dL_law_938 dL_law_939 dL_law_940 dL_law_941 (by decide) ?_
  refine lcalM E h (va_runV (As := [.int (xs (i + 1)), .int (xs (i + 2))]) (rest := [.int r]) E.fix (c_X12_writ (l := l) (D := D) (cy := cy) E.oM (xs (i + 1)) (xs (i + 2)) σM eM) (lcV E k7_124 k1_14 k7_121 k7_122 k7_123 mL_X12_writ rfl rfl ⟨Nat.le_of_ble_eq_true rfl, Nat.le_of_ble_eq_true rfl⟩) (lPreM E h _) rfl rfl hl.1 rfl (lv_room (Nat.le_of_ble_eq_true rfl)) dL_law_942 ⟨hcs.1, hcs.2⟩) (fun H locs h => ?_)
  refine lv_icmp_eq (tgt := 1718) E.hx E.hb dL_law_945 (by decide) (fun _ => ?_) (fun ne => absurd rfl ne)
  exact kk σC1 σM1 _ _ h R1
set_option maxRecDepth 100000 in
set_option maxHeartbeats 8000000 in
/-- bars -/
theorem L_950 {p : Program} {l : Launch} {e : Env} {s : State} {m : MethodId} {args : Array Value} {below : List Frame} {meth : Method} {c : Code} {H : Heap} {locs : List Loc} {cells slots : Nat} {Q : State → Prop} {b L : Nat} {xs : Nat → Int32} {D : va_G} {cy : Cy} {adC adM : Nat → Nat} {AC AM : Nat → Prop} {σC σM : Sg} {ls : Array Slot} (E : LWe p s m args c b L xs D cy adC adM AC AM) (hcs : cells ≤ room_1.cells ∧ slots ≤ room_1.slots) {i : Nat} (hi : i + 4 < L) (h : LWs D cy adC adM s σC σM H locs) (hR : Rel σM σC) (hl : lv_has ls 4 [(3, .int (nI i)), (1, .ref (adC 0)), (2, .ref (adM 0)), (0, .ref b)])
    (kk : ∀ (σC1 σM1 : Sg) (H1 : Heap) (locs1 : List Loc), LWs D cy adC adM s σC1 σM1 H1 locs1 → Rel σM1 σC1 → W p l e room_1 s m args below meth c H1 locs1 cells slots Q (F0 m 1718 ls [])) : W p l e room_1 s m args below meth c H locs cells slots Q (F0 m 950 ls []) := by
  obtain ⟨r, σM1, σC1, eM, eC, R1⟩ := eq_bars hR (xs (i + 1)) (xs (i + 2))
  refine lv_aload_n E.hx E.hb dL_law_950 rfl (lv_at hl 1 rfl) ?_
  refine larg (k := 1) E h (by omega) hl rfl rfl dL_law_951 dL_law_952 dL_law_953 dL_law_954 dL_law_955 (by decide) ?_
  refine larg (k := 2) E h (by omega) hl rfl rfl dL_law_956 dL_law_957 dL_law_958 dL_law_959 dL_law_960 (by decide) ?_
  refine lcalC E h (va_runV (As := [.int (xs (i + 1)), .int (xs (i + 2))]) (rest := []) E.fix (c_X11_bars (l := l) (D := D) (cy := cy) E.oC (xs (i + 1)) (xs (i + 2)) σC eC) (lcV E k4_162 k1_1 k4_159 k4_160 k4_161 mL_X11_bars rfl rfl ⟨Nat.le_of_ble_eq_true rfl, Nat.le_of_ble_eq_true rfl⟩) (lPreC E h _) rfl rfl hl.1 rfl (lv_room (Nat.le_of_ble_eq_true rfl)) dL_law_961 ⟨hcs.1, hcs.2⟩) (fun H locs h => ?_)
  refine lv_aload_n E.hx E.hb dL_law_964 rfl (lv_at hl 2 rfl) ?_
  refine larg (k := 1) E h (by omega) hl rfl rfl dL_law_965 dL_law_966 dL_law_967 dL_law_968 dL_law_969 (by decide) ?_
  refine larg (k := 2) E h (by omega) hl rfl rfl dL_law_970 dL_law_971 dL_law_972 dL_law_973 dL_law_974 (by decide) ?_
  refine lcalM E h (va_runV (As := [.int (xs (i + 1)), .int (xs (i + 2))]) (rest := [.int r]) E.fix (c_X12_bars (l := l) (D := D) (cy := cy) E.oM (xs (i + 1)) (xs (i + 2)) σM eM) (lcV E k7_132 k1_14 k7_129 k7_130 k7_131 mL_X12_bars rfl rfl ⟨Nat.le_of_ble_eq_true rfl, Nat.le_of_ble_eq_true rfl⟩) (lPreM E h _) rfl rfl hl.1 rfl (lv_room (Nat.le_of_ble_eq_true rfl)) dL_law_975 ⟨hcs.1, hcs.2⟩) (fun H locs h => ?_)
  refine lv_icmp_eq (tgt := 1718) E.hx E.hb dL_law_978 (by decide) (fun _ => ?_) (fun ne => absurd rfl ne)
  exact kk σC1 σM1 _ _ h R1
