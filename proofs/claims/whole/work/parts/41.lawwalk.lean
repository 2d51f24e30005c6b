theorem hy_X5_asked : yX5_asked.cls = RX5 ∧ yX5_asked.cls ≠ "java/lang/invoke/MethodHandle" ∧ yX5_asked.cls ≠ "java/lang/invoke/VarHandle" ∧ (parseMethodDescriptor yX5_asked.desc).map (fun d => d.parameters.length) = some 0 := by decide +kernel
theorem hy_X5_at : yX5_at.cls = RX5 ∧ yX5_at.cls ≠ "java/lang/invoke/MethodHandle" ∧ yX5_at.cls ≠ "java/lang/invoke/VarHandle" ∧ (parseMethodDescriptor yX5_at.desc).map (fun d => d.parameters.length) = some 2 := by decide +kernel
theorem hy_X5_bear : yX5_bear.cls = RX5 ∧ yX5_bear.cls ≠ "java/lang/invoke/MethodHandle" ∧ yX5_bear.cls ≠ "java/lang/invoke/VarHandle" ∧ (parseMethodDescriptor yX5_bear.desc).map (fun d => d.parameters.length) = some 3 := by decide +kernel
theorem hy_X5_begin : yX5_begin.cls = RX5 ∧ yX5_begin.cls ≠ "java/lang/invoke/MethodHandle" ∧ yX5_begin.cls ≠ "java/lang/invoke/VarHandle" ∧ (parseMethodDescriptor yX5_begin.desc).map (fun d => d.parameters.length) = some 2 := by decide +kernel
theorem hy_X5_best : yX5_best.cls = RX5 ∧ yX5_best.cls ≠ "java/lang/invoke/MethodHandle" ∧ yX5_best.cls ≠ "java/lang/invoke/VarHandle" ∧ (parseMethodDescriptor yX5_best.desc).map (fun d => d.parameters.length) = some 2 := by decide +kernel
theorem hy_X5_both : yX5_both.cls = RX5 ∧ yX5_both.cls ≠ "java/lang/invoke/MethodHandle" ∧ yX5_both.cls ≠ "java/lang/invoke/VarHandle" ∧ (parseMethodDescriptor yX5_both.desc).map (fun d => d.parameters.length) = some 3 := by decide +kernel
theorem hy_X5_copy : yX5_copy.cls = RX5 ∧ yX5_copy.cls ≠ "java/lang/invoke/MethodHandle" ∧ yX5_copy.cls ≠ "java/lang/invoke/VarHandle" ∧ (parseMethodDescriptor yX5_copy.desc).map (fun d => d.parameters.length) = some 5 := by decide +kernel
theorem hy_X5_debt : yX5_debt.cls = RX5 ∧ yX5_debt.cls ≠ "java/lang/invoke/MethodHandle" ∧ yX5_debt.cls ≠ "java/lang/invoke/VarHandle" ∧ (parseMethodDescriptor yX5_debt.desc).map (fun d => d.parameters.length) = some 1 := by decide +kernel
theorem hy_X5_digest : yX5_digest.cls = RX5 ∧ yX5_digest.cls ≠ "java/lang/invoke/MethodHandle" ∧ yX5_digest.cls ≠ "java/lang/invoke/VarHandle" ∧ (parseMethodDescriptor yX5_digest.desc).map (fun d => d.parameters.length) = some 0 := by decide +kernel
theorem hy_X5_fault : yX5_fault.cls = RX5 ∧ yX5_fault.cls ≠ "java/lang/invoke/MethodHandle" ∧ yX5_fault.cls ≠ "java/lang/invoke/VarHandle" ∧ (parseMethodDescriptor yX5_fault.desc).map (fun d => d.parameters.length) = some 1 := by decide +kernel
theorem hy_X5_fewest : yX5_fewest.cls = RX5 ∧ yX5_fewest.cls ≠ "java/lang/invoke/MethodHandle" ∧ yX5_fewest.cls ≠ "java/lang/invoke/VarHandle" ∧ (parseMethodDescriptor yX5_fewest.desc).map (fun d => d.parameters.length) = some 0 := by decide +kernel
theorem hy_X5_finding : yX5_finding.cls = RX5 ∧ yX5_finding.cls ≠ "java/lang/invoke/MethodHandle" ∧ yX5_finding.cls ≠ "java/lang/invoke/VarHandle" ∧ (parseMethodDescriptor yX5_finding.desc).map (fun d => d.parameters.length) = some 0 := by decide +kernel
theorem hy_X5_findings : yX5_findings.cls = RX5 ∧ yX5_findings.cls ≠ "java/lang/invoke/MethodHandle" ∧ yX5_findings.cls ≠ "java/lang/invoke/VarHandle" ∧ (parseMethodDescriptor yX5_findings.desc).map (fun d => d.parameters.length) = some 1 := by decide +kernel
theorem hy_X5_fog : yX5_fog.cls = RX5 ∧ yX5_fog.cls ≠ "java/lang/invoke/MethodHandle" ∧ yX5_fog.cls ≠ "java/lang/invoke/VarHandle" ∧ (parseMethodDescriptor yX5_fog.desc).map (fun d => d.parameters.length) = some 1 := by decide +kernel
theorem hy_X5_game : yX5_game.cls = RX5 ∧ yX5_game.cls ≠ "java/lang/invoke/MethodHandle" ∧ yX5_game.cls ≠ "java/lang/invoke/VarHandle" ∧ (parseMethodDescriptor yX5_game.desc).map (fun d => d.parameters.length) = some 2 := by decide +kernel
theorem hy_X5_high : yX5_high.cls = RX5 ∧ yX5_high.cls ≠ "java/lang/invoke/MethodHandle" ∧ yX5_high.cls ≠ "java/lang/invoke/VarHandle" ∧ (parseMethodDescriptor yX5_high.desc).map (fun d => d.parameters.length) = some 2 := by decide +kernel
theorem hy_X5_house : yX5_house.cls = RX5 ∧ yX5_house.cls ≠ "java/lang/invoke/MethodHandle" ∧ yX5_house.cls ≠ "java/lang/invoke/VarHandle" ∧ (parseMethodDescriptor yX5_house.desc).map (fun d => d.parameters.length) = some 3 := by decide +kernel
theorem hy_X5_keep : yX5_keep.cls = RX5 ∧ yX5_keep.cls ≠ "java/lang/invoke/MethodHandle" ∧ yX5_keep.cls ≠ "java/lang/invoke/VarHandle" ∧ (parseMethodDescriptor yX5_keep.desc).map (fun d => d.parameters.length) = some 1 := by decide +kernel
theorem hy_X5_kinds : yX5_kinds.cls = RX5 ∧ yX5_kinds.cls ≠ "java/lang/invoke/MethodHandle" ∧ yX5_kinds.cls ≠ "java/lang/invoke/VarHandle" ∧ (parseMethodDescriptor yX5_kinds.desc).map (fun d => d.parameters.length) = some 3 := by decide +kernel
theorem hy_X5_lay : yX5_lay.cls = RX5 ∧ yX5_lay.cls ≠ "java/lang/invoke/MethodHandle" ∧ yX5_lay.cls ≠ "java/lang/invoke/VarHandle" ∧ (parseMethodDescriptor yX5_lay.desc).map (fun d => d.parameters.length) = some 3 := by decide +kernel
theorem hy_X5_leave : yX5_leave.cls = RX5 ∧ yX5_leave.cls ≠ "java/lang/invoke/MethodHandle" ∧ yX5_leave.cls ≠ "java/lang/invoke/VarHandle" ∧ (parseMethodDescriptor yX5_leave.desc).map (fun d => d.parameters.length) = some 2 := by decide +kernel
theorem hy_X5_light : yX5_light.cls = RX5 ∧ yX5_light.cls ≠ "java/lang/invoke/MethodHandle" ∧ yX5_light.cls ≠ "java/lang/invoke/VarHandle" ∧ (parseMethodDescriptor yX5_light.desc).map (fun d => d.parameters.length) = some 0 := by decide +kernel
theorem hy_X5_lots : yX5_lots.cls = RX5 ∧ yX5_lots.cls ≠ "java/lang/invoke/MethodHandle" ∧ yX5_lots.cls ≠ "java/lang/invoke/VarHandle" ∧ (parseMethodDescriptor yX5_lots.desc).map (fun d => d.parameters.length) = some 2 := by decide +kernel
theorem hy_X5_lower : yX5_lower.cls = RX5 ∧ yX5_lower.cls ≠ "java/lang/invoke/MethodHandle" ∧ yX5_lower.cls ≠ "java/lang/invoke/VarHandle" ∧ (parseMethodDescriptor yX5_lower.desc).map (fun d => d.parameters.length) = some 0 := by decide +kernel
theorem hy_X5_mark : yX5_mark.cls = RX5 ∧ yX5_mark.cls ≠ "java/lang/invoke/MethodHandle" ∧ yX5_mark.cls ≠ "java/lang/invoke/VarHandle" ∧ (parseMethodDescriptor yX5_mark.desc).map (fun d => d.parameters.length) = some 3 := by decide +kernel
theorem hy_X5_mean : yX5_mean.cls = RX5 ∧ yX5_mean.cls ≠ "java/lang/invoke/MethodHandle" ∧ yX5_mean.cls ≠ "java/lang/invoke/VarHandle" ∧ (parseMethodDescriptor yX5_mean.desc).map (fun d => d.parameters.length) = some 1 := by decide +kernel
theorem hy_X5_odds : yX5_odds.cls = RX5 ∧ yX5_odds.cls ≠ "java/lang/invoke/MethodHandle" ∧ yX5_odds.cls ≠ "java/lang/invoke/VarHandle" ∧ (parseMethodDescriptor yX5_odds.desc).map (fun d => d.parameters.length) = some 2 := by decide +kernel
theorem hy_X5_on : yX5_on.cls = RX5 ∧ yX5_on.cls ≠ "java/lang/invoke/MethodHandle" ∧ yX5_on.cls ≠ "java/lang/invoke/VarHandle" ∧ (parseMethodDescriptor yX5_on.desc).map (fun d => d.parameters.length) = some 1 := by decide +kernel
theorem hy_X5_owes : yX5_owes.cls = RX5 ∧ yX5_owes.cls ≠ "java/lang/invoke/MethodHandle" ∧ yX5_owes.cls ≠ "java/lang/invoke/VarHandle" ∧ (parseMethodDescriptor yX5_owes.desc).map (fun d => d.parameters.length) = some 2 := by decide +kernel
theorem hy_X5_put : yX5_put.cls = RX5 ∧ yX5_put.cls ≠ "java/lang/invoke/MethodHandle" ∧ yX5_put.cls ≠ "java/lang/invoke/VarHandle" ∧ (parseMethodDescriptor yX5_put.desc).map (fun d => d.parameters.length) = some 3 := by decide +kernel
theorem hy_X5_relief : yX5_relief.cls = RX5 ∧ yX5_relief.cls ≠ "java/lang/invoke/MethodHandle" ∧ yX5_relief.cls ≠ "java/lang/invoke/VarHandle" ∧ (parseMethodDescriptor yX5_relief.desc).map (fun d => d.parameters.length) = some 0 := by decide +kernel
theorem hy_X5_rings : yX5_rings.cls = RX5 ∧ yX5_rings.cls ≠ "java/lang/invoke/MethodHandle" ∧ yX5_rings.cls ≠ "java/lang/invoke/VarHandle" ∧ (parseMethodDescriptor yX5_rings.desc).map (fun d => d.parameters.length) = some 0 := by decide +kernel
theorem hy_X5_rock : yX5_rock.cls = RX5 ∧ yX5_rock.cls ≠ "java/lang/invoke/MethodHandle" ∧ yX5_rock.cls ≠ "java/lang/invoke/VarHandle" ∧ (parseMethodDescriptor yX5_rock.desc).map (fun d => d.parameters.length) = some 1 := by decide +kernel
theorem hy_X5_row : yX5_row.cls = RX5 ∧ yX5_row.cls ≠ "java/lang/invoke/MethodHandle" ∧ yX5_row.cls ≠ "java/lang/invoke/VarHandle" ∧ (parseMethodDescriptor yX5_row.desc).map (fun d => d.parameters.length) = some 2 := by decide +kernel
theorem hy_X5_ruined : yX5_ruined.cls = RX5 ∧ yX5_ruined.cls ≠ "java/lang/invoke/MethodHandle" ∧ yX5_ruined.cls ≠ "java/lang/invoke/VarHandle" ∧ (parseMethodDescriptor yX5_ruined.desc).map (fun d => d.parameters.length) = some 0 := by decide +kernel
theorem hy_X5_sees : yX5_sees.cls = RX5 ∧ yX5_sees.cls ≠ "java/lang/invoke/MethodHandle" ∧ yX5_sees.cls ≠ "java/lang/invoke/VarHandle" ∧ (parseMethodDescriptor yX5_sees.desc).map (fun d => d.parameters.length) = some 2 := by decide +kernel
theorem hy_X5_settle : yX5_settle.cls = RX5 ∧ yX5_settle.cls ≠ "java/lang/invoke/MethodHandle" ∧ yX5_settle.cls ≠ "java/lang/invoke/VarHandle" ∧ (parseMethodDescriptor yX5_settle.desc).map (fun d => d.parameters.length) = some 0 := by decide +kernel
theorem hy_X5_shades : yX5_shades.cls = RX5 ∧ yX5_shades.cls ≠ "java/lang/invoke/MethodHandle" ∧ yX5_shades.cls ≠ "java/lang/invoke/VarHandle" ∧ (parseMethodDescriptor yX5_shades.desc).map (fun d => d.parameters.length) = some 3 := by decide +kernel
theorem hy_X5_sways : yX5_sways.cls = RX5 ∧ yX5_sways.cls ≠ "java/lang/invoke/MethodHandle" ∧ yX5_sways.cls ≠ "java/lang/invoke/VarHandle" ∧ (parseMethodDescriptor yX5_sways.desc).map (fun d => d.parameters.length) = some 0 := by decide +kernel
theorem hy_X5_tear : yX5_tear.cls = RX5 ∧ yX5_tear.cls ≠ "java/lang/invoke/MethodHandle" ∧ yX5_tear.cls ≠ "java/lang/invoke/VarHandle" ∧ (parseMethodDescriptor yX5_tear.desc).map (fun d => d.parameters.length) = some 1 := by decide +kernel
theorem hy_X5_text : yX5_text.cls = RX5 ∧ yX5_text.cls ≠ "java/lang/invoke/MethodHandle" ∧ yX5_text.cls ≠ "java/lang/invoke/VarHandle" ∧ (parseMethodDescriptor yX5_text.desc).map (fun d => d.parameters.length) = some 2 := by decide +kernel
theorem hy_X5_tower : yX5_tower.cls = RX5 ∧ yX5_tower.cls ≠ "java/lang/invoke/MethodHandle" ∧ yX5_tower.cls ≠ "java/lang/invoke/VarHandle" ∧ (parseMethodDescriptor yX5_tower.desc).map (fun d => d.parameters.length) = some 1 := by decide +kernel
theorem hy_X5_undo : yX5_undo.cls = RX5 ∧ yX5_undo.cls ≠ "java/lang/invoke/MethodHandle" ∧ yX5_undo.cls ≠ "java/lang/invoke/VarHandle" ∧ (parseMethodDescriptor yX5_undo.desc).map (fun d => d.parameters.length) = some 1 := by decide +kernel
theorem hy_X5_upper : yX5_upper.cls = RX5 ∧ yX5_upper.cls ≠ "java/lang/invoke/MethodHandle" ∧ yX5_upper.cls ≠ "java/lang/invoke/VarHandle" ∧ (parseMethodDescriptor yX5_upper.desc).map (fun d => d.parameters.length) = some 0 := by decide +kernel
theorem hy_X6_asked : yX6_asked.cls = RX6 ∧ yX6_asked.cls ≠ "java/lang/invoke/MethodHandle" ∧ yX6_asked.cls ≠ "java/lang/invoke/VarHandle" ∧ (parseMethodDescriptor yX6_asked.desc).map (fun d => d.parameters.length) = some 0 := by decide +kernel
theorem hy_X6_bear : yX6_bear.cls = RX6 ∧ yX6_bear.cls ≠ "java/lang/invoke/MethodHandle" ∧ yX6_bear.cls ≠ "java/lang/invoke/VarHandle" ∧ (parseMethodDescriptor yX6_bear.desc).map (fun d => d.parameters.length) = some 3 := by decide +kernel
theorem hy_X6_begin : yX6_begin.cls = RX6 ∧ yX6_begin.cls ≠ "java/lang/invoke/MethodHandle" ∧ yX6_begin.cls ≠ "java/lang/invoke/VarHandle" ∧ (parseMethodDescriptor yX6_begin.desc).map (fun d => d.parameters.length) = some 2 := by decide +kernel
theorem hy_X6_best : yX6_best.cls = RX6 ∧ yX6_best.cls ≠ "java/lang/invoke/MethodHandle" ∧ yX6_best.cls ≠ "java/lang/invoke/VarHandle" ∧ (parseMethodDescriptor yX6_best.desc).map (fun d => d.parameters.length) = some 2 := by decide +kernel
theorem hy_X6_both : yX6_both.cls = RX6 ∧ yX6_both.cls ≠ "java/lang/invoke/MethodHandle" ∧ yX6_both.cls ≠ "java/lang/invoke/VarHandle" ∧ (parseMethodDescriptor yX6_both.desc).map (fun d => d.parameters.length) = some 3 := by decide +kernel
theorem hy_X6_build : yX6_build.cls = RX6 ∧ yX6_build.cls ≠ "java/lang/invoke/MethodHandle" ∧ yX6_build.cls ≠ "java/lang/invoke/VarHandle" ∧ (parseMethodDescriptor yX6_build.desc).map (fun d => d.parameters.length) = some 3 := by decide +kernel
theorem hy_X6_copy : yX6_copy.cls = RX6 ∧ yX6_copy.cls ≠ "java/lang/invoke/MethodHandle" ∧ yX6_copy.cls ≠ "java/lang/invoke/VarHandle" ∧ (parseMethodDescriptor yX6_copy.desc).map (fun d => d.parameters.length) = some 5 := by decide +kernel
theorem hy_X6_debt : yX6_debt.cls = RX6 ∧ yX6_debt.cls ≠ "java/lang/invoke/MethodHandle" ∧ yX6_debt.cls ≠ "java/lang/invoke/VarHandle" ∧ (parseMethodDescriptor yX6_debt.desc).map (fun d => d.parameters.length) = some 1 := by decide +kernel
theorem hy_X6_digest : yX6_digest.cls = RX6 ∧ yX6_digest.cls ≠ "java/lang/invoke/MethodHandle" ∧ yX6_digest.cls ≠ "java/lang/invoke/VarHandle" ∧ (parseMethodDescriptor yX6_digest.desc).map (fun d => d.parameters.length) = some 0 := by decide +kernel
theorem hy_X6_fault : yX6_fault.cls = RX6 ∧ yX6_fault.cls ≠ "java/lang/invoke/MethodHandle" ∧ yX6_fault.cls ≠ "java/lang/invoke/VarHandle" ∧ (parseMethodDescriptor yX6_fault.desc).map (fun d => d.parameters.length) = some 1 := by decide +kernel
theorem hy_X6_fewest : yX6_fewest.cls = RX6 ∧ yX6_fewest.cls ≠ "java/lang/invoke/MethodHandle" ∧ yX6_fewest.cls ≠ "java/lang/invoke/VarHandle" ∧ (parseMethodDescriptor yX6_fewest.desc).map (fun d => d.parameters.length) = some 0 := by decide +kernel
theorem hy_X6_finding : yX6_finding.cls = RX6 ∧ yX6_finding.cls ≠ "java/lang/invoke/MethodHandle" ∧ yX6_finding.cls ≠ "java/lang/invoke/VarHandle" ∧ (parseMethodDescriptor yX6_finding.desc).map (fun d => d.parameters.length) = some 0 := by decide +kernel
theorem hy_X6_findings : yX6_findings.cls = RX6 ∧ yX6_findings.cls ≠ "java/lang/invoke/MethodHandle" ∧ yX6_findings.cls ≠ "java/lang/invoke/VarHandle" ∧ (parseMethodDescriptor yX6_findings.desc).map (fun d => d.parameters.length) = some 1 := by decide +kernel
theorem hy_X6_fog : yX6_fog.cls = RX6 ∧ yX6_fog.cls ≠ "java/lang/invoke/MethodHandle" ∧ yX6_fog.cls ≠ "java/lang/invoke/VarHandle" ∧ (parseMethodDescriptor yX6_fog.desc).map (fun d => d.parameters.length) = some 1 := by decide +kernel
theorem hy_X6_game : yX6_game.cls = RX6 ∧ yX6_game.cls ≠ "java/lang/invoke/MethodHandle" ∧ yX6_game.cls ≠ "java/lang/invoke/VarHandle" ∧ (parseMethodDescriptor yX6_game.desc).map (fun d => d.parameters.length) = some 2 := by decide +kernel
theorem hy_X6_high : yX6_high.cls = RX6 ∧ yX6_high.cls ≠ "java/lang/invoke/MethodHandle" ∧ yX6_high.cls ≠ "java/lang/invoke/VarHandle" ∧ (parseMethodDescriptor yX6_high.desc).map (fun d => d.parameters.length) = some 2 := by decide +kernel
theorem hy_X6_house : yX6_house.cls = RX6 ∧ yX6_house.cls ≠ "java/lang/invoke/MethodHandle" ∧ yX6_house.cls ≠ "java/lang/invoke/VarHandle" ∧ (parseMethodDescriptor yX6_house.desc).map (fun d => d.parameters.length) = some 3 := by decide +kernel
theorem hy_X6_keep : yX6_keep.cls = RX6 ∧ yX6_keep.cls ≠ "java/lang/invoke/MethodHandle" ∧ yX6_keep.cls ≠ "java/lang/invoke/VarHandle" ∧ (parseMethodDescriptor yX6_keep.desc).map (fun d => d.parameters.length) = some 1 := by decide +kernel
theorem hy_X6_kinds : yX6_kinds.cls = RX6 ∧ yX6_kinds.cls ≠ "java/lang/invoke/MethodHandle" ∧ yX6_kinds.cls ≠ "java/lang/invoke/VarHandle" ∧ (parseMethodDescriptor yX6_kinds.desc).map (fun d => d.parameters.length) = some 3 := by decide +kernel
theorem hy_X6_lay : yX6_lay.cls = RX6 ∧ yX6_lay.cls ≠ "java/lang/invoke/MethodHandle" ∧ yX6_lay.cls ≠ "java/lang/invoke/VarHandle" ∧ (parseMethodDescriptor yX6_lay.desc).map (fun d => d.parameters.length) = some 3 := by decide +kernel
theorem hy_X6_leave : yX6_leave.cls = RX6 ∧ yX6_leave.cls ≠ "java/lang/invoke/MethodHandle" ∧ yX6_leave.cls ≠ "java/lang/invoke/VarHandle" ∧ (parseMethodDescriptor yX6_leave.desc).map (fun d => d.parameters.length) = some 2 := by decide +kernel
theorem hy_X6_light : yX6_light.cls = RX6 ∧ yX6_light.cls ≠ "java/lang/invoke/MethodHandle" ∧ yX6_light.cls ≠ "java/lang/invoke/VarHandle" ∧ (parseMethodDescriptor yX6_light.desc).map (fun d => d.parameters.length) = some 0 := by decide +kernel
theorem hy_X6_lots : yX6_lots.cls = RX6 ∧ yX6_lots.cls ≠ "java/lang/invoke/MethodHandle" ∧ yX6_lots.cls ≠ "java/lang/invoke/VarHandle" ∧ (parseMethodDescriptor yX6_lots.desc).map (fun d => d.parameters.length) = some 2 := by decide +kernel
theorem hy_X6_lower : yX6_lower.cls = RX6 ∧ yX6_lower.cls ≠ "java/lang/invoke/MethodHandle" ∧ yX6_lower.cls ≠ "java/lang/invoke/VarHandle" ∧ (parseMethodDescriptor yX6_lower.desc).map (fun d => d.parameters.length) = some 0 := by decide +kernel
theorem hy_X6_mark : yX6_mark.cls = RX6 ∧ yX6_mark.cls ≠ "java/lang/invoke/MethodHandle" ∧ yX6_mark.cls ≠ "java/lang/invoke/VarHandle" ∧ (parseMethodDescriptor yX6_mark.desc).map (fun d => d.parameters.length) = some 3 := by decide +kernel
theorem hy_X6_mean : yX6_mean.cls = RX6 ∧ yX6_mean.cls ≠ "java/lang/invoke/MethodHandle" ∧ yX6_mean.cls ≠ "java/lang/invoke/VarHandle" ∧ (parseMethodDescriptor yX6_mean.desc).map (fun d => d.parameters.length) = some 1 := by decide +kernel
theorem hy_X6_odds : yX6_odds.cls = RX6 ∧ yX6_odds.cls ≠ "java/lang/invoke/MethodHandle" ∧ yX6_odds.cls ≠ "java/lang/invoke/VarHandle" ∧ (parseMethodDescriptor yX6_odds.desc).map (fun d => d.parameters.length) = some 2 := by decide +kernel
theorem hy_X6_on : yX6_on.cls = RX6 ∧ yX6_on.cls ≠ "java/lang/invoke/MethodHandle" ∧ yX6_on.cls ≠ "java/lang/invoke/VarHandle" ∧ (parseMethodDescriptor yX6_on.desc).map (fun d => d.parameters.length) = some 1 := by decide +kernel
theorem hy_X6_owes : yX6_owes.cls = RX6 ∧ yX6_owes.cls ≠ "java/lang/invoke/MethodHandle" ∧ yX6_owes.cls ≠ "java/lang/invoke/VarHandle" ∧ (parseMethodDescriptor yX6_owes.desc).map (fun d => d.parameters.length) = some 2 := by decide +kernel
theorem hy_X6_put : yX6_put.cls = RX6 ∧ yX6_put.cls ≠ "java/lang/invoke/MethodHandle" ∧ yX6_put.cls ≠ "java/lang/invoke/VarHandle" ∧ (parseMethodDescriptor yX6_put.desc).map (fun d => d.parameters.length) = some 3 := by decide +kernel
theorem hy_X6_relief : yX6_relief.cls = RX6 ∧ yX6_relief.cls ≠ "java/lang/invoke/MethodHandle" ∧ yX6_relief.cls ≠ "java/lang/invoke/VarHandle" ∧ (parseMethodDescriptor yX6_relief.desc).map (fun d => d.parameters.length) = some 0 := by decide +kernel
theorem hy_X6_rings : yX6_rings.cls = RX6 ∧ yX6_rings.cls ≠ "java/lang/invoke/MethodHandle" ∧ yX6_rings.cls ≠ "java/lang/invoke/VarHandle" ∧ (parseMethodDescriptor yX6_rings.desc).map (fun d => d.parameters.length) = some 0 := by decide +kernel
theorem hy_X6_rock : yX6_rock.cls = RX6 ∧ yX6_rock.cls ≠ "java/lang/invoke/MethodHandle" ∧ yX6_rock.cls ≠ "java/lang/invoke/VarHandle" ∧ (parseMethodDescriptor yX6_rock.desc).map (fun d => d.parameters.length) = some 1 := by decide +kernel
theorem hy_X6_row : yX6_row.cls = RX6 ∧ yX6_row.cls ≠ "java/lang/invoke/MethodHandle" ∧ yX6_row.cls ≠ "java/lang/invoke/VarHandle" ∧ (parseMethodDescriptor yX6_row.desc).map (fun d => d.parameters.length) = some 2 := by decide +kernel
theorem hy_X6_ruined : yX6_ruined.cls = RX6 ∧ yX6_ruined.cls ≠ "java/lang/invoke/MethodHandle" ∧ yX6_ruined.cls ≠ "java/lang/invoke/VarHandle" ∧ (parseMethodDescriptor yX6_ruined.desc).map (fun d => d.parameters.length) = some 0 := by decide +kernel
theorem hy_X6_sees : yX6_sees.cls = RX6 ∧ yX6_sees.cls ≠ "java/lang/invoke/MethodHandle" ∧ yX6_sees.cls ≠ "java/lang/invoke/VarHandle" ∧ (parseMethodDescriptor yX6_sees.desc).map (fun d => d.parameters.length) = some 2 := by decide +kernel
theorem hy_X6_settle : yX6_settle.cls = RX6 ∧ yX6_settle.cls ≠ "java/lang/invoke/MethodHandle" ∧ yX6_settle.cls ≠ "java/lang/invoke/VarHandle" ∧ (parseMethodDescriptor yX6_settle.desc).map (fun d => d.parameters.length) = some 0 := by decide +kernel
theorem hy_X6_shades : yX6_shades.cls = RX6 ∧ yX6_shades.cls ≠ "java/lang/invoke/MethodHandle" ∧ yX6_shades.cls ≠ "java/lang/invoke/VarHandle" ∧ (parseMethodDescriptor yX6_shades.desc).map (fun d => d.parameters.length) = some 3 := by decide +kernel
theorem hy_X6_sways : yX6_sways.cls = RX6 ∧ yX6_sways.cls ≠ "java/lang/invoke/MethodHandle" ∧ yX6_sways.cls ≠ "java/lang/invoke/VarHandle" ∧ (parseMethodDescriptor yX6_sways.desc).map (fun d => d.parameters.length) = some 0 := by decide +kernel
theorem hy_X6_tear : yX6_tear.cls = RX6 ∧ yX6_tear.cls ≠ "java/lang/invoke/MethodHandle" ∧ yX6_tear.cls ≠ "java/lang/invoke/VarHandle" ∧ (parseMethodDescriptor yX6_tear.desc).map (fun d => d.parameters.length) = some 1 := by decide +kernel
theorem hy_X6_text : yX6_text.cls = RX6 ∧ yX6_text.cls ≠ "java/lang/invoke/MethodHandle" ∧ yX6_text.cls ≠ "java/lang/invoke/VarHandle" ∧ (parseMethodDescriptor yX6_text.desc).map (fun d => d.parameters.length) = some 2 := by decide +kernel
theorem hy_X6_tower : yX6_tower.cls = RX6 ∧ yX6_tower.cls ≠ "java/lang/invoke/MethodHandle" ∧ yX6_tower.cls ≠ "java/lang/invoke/VarHandle" ∧ (parseMethodDescriptor yX6_tower.desc).map (fun d => d.parameters.length) = some 1 := by decide +kernel
theorem hy_X6_undo : yX6_undo.cls = RX6 ∧ yX6_undo.cls ≠ "java/lang/invoke/MethodHandle" ∧ yX6_undo.cls ≠ "java/lang/invoke/VarHandle" ∧ (parseMethodDescriptor yX6_undo.desc).map (fun d => d.parameters.length) = some 1 := by decide +kernel
theorem hy_X6_upper : yX6_upper.cls = RX6 ∧ yX6_upper.cls ≠ "java/lang/invoke/MethodHandle" ∧ yX6_upper.cls ≠ "java/lang/invoke/VarHandle" ∧ (parseMethodDescriptor yX6_upper.desc).map (fun d => d.parameters.length) = some 0 := by decide +kernel
theorem ww_1000 : Cond.selects RX6 yX6_tower yX6_tower ∈ zBIG := zbig 1000 (by decide +kernel) rfl
theorem ww_1001 : Cond.code yX6_tower cX6_tower 2 (some .int) ∈ zBIG := zbig 1001 (by decide +kernel) rfl
theorem ww_1006 : Cond.methodLink RL 64 yX6_house ∈ zBIG := zbig 1006 (by decide +kernel) rfl
theorem ww_1007 : Cond.instanceMethod yX6_house ∈ zBIG := zbig 1007 (by decide +kernel) rfl
theorem ww_1008 : Cond.selects RX6 yX6_house yX6_house ∈ zBIG := zbig 1008 (by decide +kernel) rfl
theorem ww_1009 : Cond.code yX6_house cX6_house 4 (some .int) ∈ zBIG := zbig 1009 (by decide +kernel) rfl
theorem ww_1105 : Cond.methodLink RL 68 yX6_mark ∈ zBIG := zbig 1105 (by decide +kernel) rfl
theorem ww_1106 : Cond.instanceMethod yX6_mark ∈ zBIG := zbig 1106 (by decide +kernel) rfl
theorem ww_1107 : Cond.selects RX6 yX6_mark yX6_mark ∈ zBIG := zbig 1107 (by decide +kernel) rfl
theorem ww_1108 : Cond.code yX6_mark cX6_mark 4 (some .int) ∈ zBIG := zbig 1108 (by decide +kernel) rfl
theorem ww_1123 : Cond.methodLink RL 72 yX6_bear ∈ zBIG := zbig 1123 (by decide +kernel) rfl
theorem ww_1124 : Cond.instanceMethod yX6_bear ∈ zBIG := zbig 1124 (by decide +kernel) rfl
theorem ww_1125 : Cond.selects RX6 yX6_bear yX6_bear ∈ zBIG := zbig 1125 (by decide +kernel) rfl
theorem ww_1126 : Cond.code yX6_bear cX6_bear 5 (some .int) ∈ zBIG := zbig 1126 (by decide +kernel) rfl
theorem ww_1128 : Cond.methodLink RL 76 yX6_build ∈ zBIG := zbig 1128 (by decide +kernel) rfl
theorem ww_1129 : Cond.instanceMethod yX6_build ∈ zBIG := zbig 1129 (by decide +kernel) rfl
theorem ww_1130 : Cond.selects RX6 yX6_build yX6_build ∈ zBIG := zbig 1130 (by decide +kernel) rfl
theorem ww_1131 : Cond.code yX6_build cX6_build 4 (some .int) ∈ zBIG := zbig 1131 (by decide +kernel) rfl
theorem ww_1140 : Cond.methodLink RL 80 yX6_leave ∈ zBIG := zbig 1140 (by decide +kernel) rfl
theorem ww_1141 : Cond.instanceMethod yX6_leave ∈ zBIG := zbig 1141 (by decide +kernel) rfl
theorem ww_1142 : Cond.selects RX6 yX6_leave yX6_leave ∈ zBIG := zbig 1142 (by decide +kernel) rfl
theorem ww_1143 : Cond.code yX6_leave cX6_leave 3 (some .int) ∈ zBIG := zbig 1143 (by decide +kernel) rfl
theorem ww_1148 : Cond.methodLink RL 84 yX6_undo ∈ zBIG := zbig 1148 (by decide +kernel) rfl
theorem ww_1149 : Cond.instanceMethod yX6_undo ∈ zBIG := zbig 1149 (by decide +kernel) rfl
theorem ww_1150 : Cond.selects RX6 yX6_undo yX6_undo ∈ zBIG := zbig 1150 (by decide +kernel) rfl
theorem ww_1151 : Cond.code yX6_undo cX6_undo 3 (some .int) ∈ zBIG := zbig 1151 (by decide +kernel) rfl
theorem ww_1152 : Cond.methodLink RL 88 yX6_keep ∈ zBIG := zbig 1152 (by decide +kernel) rfl
theorem ww_1153 : Cond.instanceMethod yX6_keep ∈ zBIG := zbig 1153 (by decide +kernel) rfl
theorem ww_1154 : Cond.selects RX6 yX6_keep yX6_keep ∈ zBIG := zbig 1154 (by decide +kernel) rfl
theorem ww_1155 : Cond.code yX6_keep cX6_keep 2 (some .int) ∈ zBIG := zbig 1155 (by decide +kernel) rfl
theorem ww_1161 : Cond.methodLink RL 92 yX6_on ∈ zBIG := zbig 1161 (by decide +kernel) rfl
theorem ww_1162 : Cond.instanceMethod yX6_on ∈ zBIG := zbig 1162 (by decide +kernel) rfl
theorem ww_1163 : Cond.selects RX6 yX6_on yX6_on ∈ zBIG := zbig 1163 (by decide +kernel) rfl
theorem ww_1164 : Cond.code yX6_on cX6_on 2 (some .int) ∈ zBIG := zbig 1164 (by decide +kernel) rfl
theorem ww_1165 : Cond.methodLink RL 96 yX6_shades ∈ zBIG := zbig 1165 (by decide +kernel) rfl
theorem ww_1166 : Cond.instanceMethod yX6_shades ∈ zBIG := zbig 1166 (by decide +kernel) rfl
theorem ww_1167 : Cond.selects RX6 yX6_shades yX6_shades ∈ zBIG := zbig 1167 (by decide +kernel) rfl
theorem ww_1168 : Cond.code yX6_shades cX6_shades 4 (some .int) ∈ zBIG := zbig 1168 (by decide +kernel) rfl
theorem ww_1170 : Cond.methodLink RL 100 yX6_sees ∈ zBIG := zbig 1170 (by decide +kernel) rfl
theorem ww_1171 : Cond.instanceMethod yX6_sees ∈ zBIG := zbig 1171 (by decide +kernel) rfl
theorem ww_1172 : Cond.selects RX6 yX6_sees yX6_sees ∈ zBIG := zbig 1172 (by decide +kernel) rfl
theorem ww_1173 : Cond.code yX6_sees cX6_sees 3 (some .int) ∈ zBIG := zbig 1173 (by decide +kernel) rfl
theorem ww_1174 : Cond.methodLink RL 104 yX6_owes ∈ zBIG := zbig 1174 (by decide +kernel) rfl
theorem ww_1175 : Cond.instanceMethod yX6_owes ∈ zBIG := zbig 1175 (by decide +kernel) rfl
theorem ww_1176 : Cond.selects RX6 yX6_owes yX6_owes ∈ zBIG := zbig 1176 (by decide +kernel) rfl
theorem ww_1177 : Cond.code yX6_owes cX6_owes 3 (some .int) ∈ zBIG := zbig 1177 (by decide +kernel) rfl
theorem ww_1182 : Cond.methodLink RL 108 yX6_debt ∈ zBIG := zbig 1182 (by decide +kernel) rfl
theorem ww_1183 : Cond.instanceMethod yX6_debt ∈ zBIG := zbig 1183 (by decide +kernel) rfl
theorem ww_1184 : Cond.selects RX6 yX6_debt yX6_debt ∈ zBIG := zbig 1184 (by decide +kernel) rfl
theorem ww_1185 : Cond.code yX6_debt cX6_debt 2 (some .int) ∈ zBIG := zbig 1185 (by decide +kernel) rfl
theorem ww_1186 : Cond.methodLink RL 113 yX6_light ∈ zBIG := zbig 1186 (by decide +kernel) rfl
theorem ww_1187 : Cond.instanceMethod yX6_light ∈ zBIG := zbig 1187 (by decide +kernel) rfl
theorem ww_1188 : Cond.selects RX6 yX6_light yX6_light ∈ zBIG := zbig 1188 (by decide +kernel) rfl
theorem ww_1189 : Cond.code yX6_light cX6_light 1 (some .int) ∈ zBIG := zbig 1189 (by decide +kernel) rfl
theorem ww_1198 : Cond.methodLink RL 117 yX6_ruined ∈ zBIG := zbig 1198 (by decide +kernel) rfl
theorem ww_1199 : Cond.instanceMethod yX6_ruined ∈ zBIG := zbig 1199 (by decide +kernel) rfl
theorem ww_1200 : Cond.selects RX6 yX6_ruined yX6_ruined ∈ zBIG := zbig 1200 (by decide +kernel) rfl
theorem ww_1201 : Cond.code yX6_ruined cX6_ruined 5 (some .int) ∈ zBIG := zbig 1201 (by decide +kernel) rfl
theorem ww_1202 : Cond.methodLink RL 121 yX6_sways ∈ zBIG := zbig 1202 (by decide +kernel) rfl
theorem ww_1203 : Cond.instanceMethod yX6_sways ∈ zBIG := zbig 1203 (by decide +kernel) rfl
theorem ww_1204 : Cond.selects RX6 yX6_sways yX6_sways ∈ zBIG := zbig 1204 (by decide +kernel) rfl
theorem ww_1205 : Cond.code yX6_sways cX6_sways 2 (some .int) ∈ zBIG := zbig 1205 (by decide +kernel) rfl
theorem ww_1217 : Cond.methodLink RL 125 yX6_best ∈ zBIG := zbig 1217 (by decide +kernel) rfl
theorem ww_1218 : Cond.instanceMethod yX6_best ∈ zBIG := zbig 1218 (by decide +kernel) rfl
theorem ww_1219 : Cond.selects RX6 yX6_best yX6_best ∈ zBIG := zbig 1219 (by decide +kernel) rfl
theorem ww_1220 : Cond.code yX6_best cX6_best 7 (some .int) ∈ zBIG := zbig 1220 (by decide +kernel) rfl
theorem ww_1233 : Cond.methodLink RL 129 yX6_both ∈ zBIG := zbig 1233 (by decide +kernel) rfl
theorem ww_1234 : Cond.instanceMethod yX6_both ∈ zBIG := zbig 1234 (by decide +kernel) rfl
theorem ww_1235 : Cond.selects RX6 yX6_both yX6_both ∈ zBIG := zbig 1235 (by decide +kernel) rfl
theorem ww_1236 : Cond.code yX6_both cX6_both 10 (some .int) ∈ zBIG := zbig 1236 (by decide +kernel) rfl
theorem ww_1237 : Cond.methodLink RL 133 yX6_fewest ∈ zBIG := zbig 1237 (by decide +kernel) rfl
theorem ww_1238 : Cond.instanceMethod yX6_fewest ∈ zBIG := zbig 1238 (by decide +kernel) rfl
theorem ww_1239 : Cond.selects RX6 yX6_fewest yX6_fewest ∈ zBIG := zbig 1239 (by decide +kernel) rfl
theorem ww_1240 : Cond.code yX6_fewest cX6_fewest 4 (some .int) ∈ zBIG := zbig 1240 (by decide +kernel) rfl
theorem ww_1245 : Cond.methodLink RL 137 yX6_relief ∈ zBIG := zbig 1245 (by decide +kernel) rfl
theorem ww_1246 : Cond.instanceMethod yX6_relief ∈ zBIG := zbig 1246 (by decide +kernel) rfl
theorem ww_1247 : Cond.selects RX6 yX6_relief yX6_relief ∈ zBIG := zbig 1247 (by decide +kernel) rfl
theorem ww_1248 : Cond.code yX6_relief cX6_relief 7 (some .int) ∈ zBIG := zbig 1248 (by decide +kernel) rfl
theorem ww_1250 : Cond.methodLink RL 141 yX6_high ∈ zBIG := zbig 1250 (by decide +kernel) rfl
theorem ww_1251 : Cond.instanceMethod yX6_high ∈ zBIG := zbig 1251 (by decide +kernel) rfl
theorem ww_1252 : Cond.selects RX6 yX6_high yX6_high ∈ zBIG := zbig 1252 (by decide +kernel) rfl
theorem ww_1253 : Cond.code yX6_high cX6_high 5 (some .int) ∈ zBIG := zbig 1253 (by decide +kernel) rfl
theorem ww_1254 : Cond.methodLink RL 145 yX6_settle ∈ zBIG := zbig 1254 (by decide +kernel) rfl
theorem ww_1255 : Cond.instanceMethod yX6_settle ∈ zBIG := zbig 1255 (by decide +kernel) rfl
theorem ww_1256 : Cond.selects RX6 yX6_settle yX6_settle ∈ zBIG := zbig 1256 (by decide +kernel) rfl
theorem ww_1257 : Cond.code yX6_settle cX6_settle 5 (some .int) ∈ zBIG := zbig 1257 (by decide +kernel) rfl
theorem ww_1258 : Cond.methodLink RL 149 yX6_rings ∈ zBIG := zbig 1258 (by decide +kernel) rfl
theorem ww_1259 : Cond.instanceMethod yX6_rings ∈ zBIG := zbig 1259 (by decide +kernel) rfl
theorem ww_1260 : Cond.selects RX6 yX6_rings yX6_rings ∈ zBIG := zbig 1260 (by decide +kernel) rfl
theorem ww_1261 : Cond.code yX6_rings cX6_rings 6 (some .int) ∈ zBIG := zbig 1261 (by decide +kernel) rfl
theorem ww_1262 : Cond.methodLink RL 153 yX6_game ∈ zBIG := zbig 1262 (by decide +kernel) rfl
theorem ww_1263 : Cond.instanceMethod yX6_game ∈ zBIG := zbig 1263 (by decide +kernel) rfl
theorem ww_1264 : Cond.selects RX6 yX6_game yX6_game ∈ zBIG := zbig 1264 (by decide +kernel) rfl
theorem ww_1265 : Cond.code yX6_game cX6_game 3 (some .int) ∈ zBIG := zbig 1265 (by decide +kernel) rfl
theorem ww_1278 : Cond.methodLink RL 157 yX6_begin ∈ zBIG := zbig 1278 (by decide +kernel) rfl
theorem ww_1279 : Cond.instanceMethod yX6_begin ∈ zBIG := zbig 1279 (by decide +kernel) rfl
theorem ww_1280 : Cond.selects RX6 yX6_begin yX6_begin ∈ zBIG := zbig 1280 (by decide +kernel) rfl
theorem ww_1281 : Cond.code yX6_begin cX6_begin 5 (some .int) ∈ zBIG := zbig 1281 (by decide +kernel) rfl
theorem ww_1282 : Cond.methodLink RL 161 yX6_fog ∈ zBIG := zbig 1282 (by decide +kernel) rfl
theorem ww_1283 : Cond.instanceMethod yX6_fog ∈ zBIG := zbig 1283 (by decide +kernel) rfl
theorem ww_1284 : Cond.selects RX6 yX6_fog yX6_fog ∈ zBIG := zbig 1284 (by decide +kernel) rfl
theorem ww_1285 : Cond.code yX6_fog cX6_fog 6 (some .int) ∈ zBIG := zbig 1285 (by decide +kernel) rfl
theorem ww_1290 : Cond.methodLink RL 165 yX6_kinds ∈ zBIG := zbig 1290 (by decide +kernel) rfl
theorem ww_1291 : Cond.instanceMethod yX6_kinds ∈ zBIG := zbig 1291 (by decide +kernel) rfl
theorem ww_1292 : Cond.selects RX6 yX6_kinds yX6_kinds ∈ zBIG := zbig 1292 (by decide +kernel) rfl
theorem ww_1293 : Cond.code yX6_kinds cX6_kinds 7 (some .int) ∈ zBIG := zbig 1293 (by decide +kernel) rfl
theorem ww_1294 : Cond.methodLink RL 169 yX6_odds ∈ zBIG := zbig 1294 (by decide +kernel) rfl
theorem ww_1295 : Cond.instanceMethod yX6_odds ∈ zBIG := zbig 1295 (by decide +kernel) rfl
theorem ww_1296 : Cond.selects RX6 yX6_odds yX6_odds ∈ zBIG := zbig 1296 (by decide +kernel) rfl
theorem ww_1297 : Cond.code yX6_odds cX6_odds 4 (some .int) ∈ zBIG := zbig 1297 (by decide +kernel) rfl
theorem ww_1298 : Cond.methodLink RL 173 yX6_lots ∈ zBIG := zbig 1298 (by decide +kernel) rfl
theorem ww_1299 : Cond.instanceMethod yX6_lots ∈ zBIG := zbig 1299 (by decide +kernel) rfl
theorem ww_1300 : Cond.selects RX6 yX6_lots yX6_lots ∈ zBIG := zbig 1300 (by decide +kernel) rfl
theorem ww_1301 : Cond.code yX6_lots cX6_lots 8 (some .int) ∈ zBIG := zbig 1301 (by decide +kernel) rfl
theorem ww_1309 : Cond.methodLink RL 177 yX6_asked ∈ zBIG := zbig 1309 (by decide +kernel) rfl
theorem ww_1310 : Cond.instanceMethod yX6_asked ∈ zBIG := zbig 1310 (by decide +kernel) rfl
theorem ww_1311 : Cond.selects RX6 yX6_asked yX6_asked ∈ zBIG := zbig 1311 (by decide +kernel) rfl
theorem ww_1312 : Cond.code yX6_asked cX6_asked 1 (some .int) ∈ zBIG := zbig 1312 (by decide +kernel) rfl
theorem ww_1313 : Cond.methodLink RL 182 yX6_upper ∈ zBIG := zbig 1313 (by decide +kernel) rfl
theorem ww_1314 : Cond.instanceMethod yX6_upper ∈ zBIG := zbig 1314 (by decide +kernel) rfl
theorem ww_1315 : Cond.selects RX6 yX6_upper yX6_upper ∈ zBIG := zbig 1315 (by decide +kernel) rfl
theorem ww_1316 : Cond.code yX6_upper cX6_upper 1 (some .long) ∈ zBIG := zbig 1316 (by decide +kernel) rfl
theorem ww_1317 : Cond.methodLink RL 186 yX6_lower ∈ zBIG := zbig 1317 (by decide +kernel) rfl
theorem ww_1318 : Cond.instanceMethod yX6_lower ∈ zBIG := zbig 1318 (by decide +kernel) rfl
theorem ww_1319 : Cond.selects RX6 yX6_lower yX6_lower ∈ zBIG := zbig 1319 (by decide +kernel) rfl
theorem ww_1320 : Cond.code yX6_lower cX6_lower 1 (some .long) ∈ zBIG := zbig 1320 (by decide +kernel) rfl
theorem ww_1321 : Cond.methodLink RL 190 yX6_count ∈ zBIG := zbig 1321 (by decide +kernel) rfl
theorem ww_1336 : Cond.methodLink RL 194 yX6_finding ∈ zBIG := zbig 1336 (by decide +kernel) rfl
theorem ww_1337 : Cond.instanceMethod yX6_finding ∈ zBIG := zbig 1337 (by decide +kernel) rfl
theorem ww_1338 : Cond.selects RX6 yX6_finding yX6_finding ∈ zBIG := zbig 1338 (by decide +kernel) rfl
theorem ww_1339 : Cond.code yX6_finding cX6_finding 1 (some .int) ∈ zBIG := zbig 1339 (by decide +kernel) rfl
theorem ww_1340 : Cond.methodLink RL 198 yX6_findings ∈ zBIG := zbig 1340 (by decide +kernel) rfl
theorem ww_1341 : Cond.instanceMethod yX6_findings ∈ zBIG := zbig 1341 (by decide +kernel) rfl
theorem ww_1342 : Cond.selects RX6 yX6_findings yX6_findings ∈ zBIG := zbig 1342 (by decide +kernel) rfl
theorem ww_1343 : Cond.code yX6_findings cX6_findings 2 (some .int) ∈ zBIG := zbig 1343 (by decide +kernel) rfl
theorem ww_1344 : Cond.methodLink RL 202 yX6_digest ∈ zBIG := zbig 1344 (by decide +kernel) rfl
theorem ww_1345 : Cond.instanceMethod yX6_digest ∈ zBIG := zbig 1345 (by decide +kernel) rfl
theorem ww_1346 : Cond.selects RX6 yX6_digest yX6_digest ∈ zBIG := zbig 1346 (by decide +kernel) rfl
theorem ww_1347 : Cond.code yX6_digest cX6_digest 4 (some .long) ∈ zBIG := zbig 1347 (by decide +kernel) rfl
theorem ww_236 : Cond.methodLink RL 13 yX5_row ∈ zBIG := zbig 236 (by decide +kernel) rfl
theorem ww_237 : Cond.instanceMethod yX5_row ∈ zBIG := zbig 237 (by decide +kernel) rfl
theorem ww_238 : Cond.selects RX5 yX5_row yX5_row ∈ zBIG := zbig 238 (by decide +kernel) rfl
theorem ww_239 : Cond.code yX5_row cX5_row 3 (some .int) ∈ zBIG := zbig 239 (by decide +kernel) rfl
theorem ww_265 : Cond.methodLink RL 18 yX5_lay ∈ zBIG := zbig 265 (by decide +kernel) rfl
theorem ww_266 : Cond.instanceMethod yX5_lay ∈ zBIG := zbig 266 (by decide +kernel) rfl
theorem ww_267 : Cond.selects RX5 yX5_lay yX5_lay ∈ zBIG := zbig 267 (by decide +kernel) rfl
theorem ww_268 : Cond.code yX5_lay cX5_lay 4 (some .int) ∈ zBIG := zbig 268 (by decide +kernel) rfl
theorem ww_279 : Cond.methodLink RL 23 yX5_at ∈ zBIG := zbig 279 (by decide +kernel) rfl
theorem ww_280 : Cond.instanceMethod yX5_at ∈ zBIG := zbig 280 (by decide +kernel) rfl
theorem ww_281 : Cond.selects RX5 yX5_at yX5_at ∈ zBIG := zbig 281 (by decide +kernel) rfl
theorem ww_282 : Cond.code yX5_at cX5_at 3 (some .int) ∈ zBIG := zbig 282 (by decide +kernel) rfl
theorem ww_283 : Cond.methodLink RL 27 yX5_tear ∈ zBIG := zbig 283 (by decide +kernel) rfl
theorem ww_284 : Cond.instanceMethod yX5_tear ∈ zBIG := zbig 284 (by decide +kernel) rfl
theorem ww_285 : Cond.selects RX5 yX5_tear yX5_tear ∈ zBIG := zbig 285 (by decide +kernel) rfl
theorem ww_286 : Cond.code yX5_tear cX5_tear 2 (some .int) ∈ zBIG := zbig 286 (by decide +kernel) rfl
theorem ww_291 : Cond.methodLink RL 32 yX5_copy ∈ zBIG := zbig 291 (by decide +kernel) rfl
theorem ww_292 : Cond.instanceMethod yX5_copy ∈ zBIG := zbig 292 (by decide +kernel) rfl
theorem ww_293 : Cond.selects RX5 yX5_copy yX5_copy ∈ zBIG := zbig 293 (by decide +kernel) rfl
theorem ww_294 : Cond.code yX5_copy cX5_copy 6 (some .int) ∈ zBIG := zbig 294 (by decide +kernel) rfl
theorem ww_307 : Cond.methodLink RL 37 yX5_mean ∈ zBIG := zbig 307 (by decide +kernel) rfl
theorem ww_308 : Cond.instanceMethod yX5_mean ∈ zBIG := zbig 308 (by decide +kernel) rfl
theorem ww_309 : Cond.selects RX5 yX5_mean yX5_mean ∈ zBIG := zbig 309 (by decide +kernel) rfl
theorem ww_310 : Cond.code yX5_mean cX5_mean 3 (some .int) ∈ zBIG := zbig 310 (by decide +kernel) rfl
theorem ww_317 : Cond.methodLink RL 41 yX5_text ∈ zBIG := zbig 317 (by decide +kernel) rfl
theorem ww_318 : Cond.instanceMethod yX5_text ∈ zBIG := zbig 318 (by decide +kernel) rfl
theorem ww_319 : Cond.selects RX5 yX5_text yX5_text ∈ zBIG := zbig 319 (by decide +kernel) rfl
theorem ww_320 : Cond.code yX5_text cX5_text 3 (some .int) ∈ zBIG := zbig 320 (by decide +kernel) rfl
theorem ww_321 : Cond.methodLink RL 45 yX5_put ∈ zBIG := zbig 321 (by decide +kernel) rfl
theorem ww_322 : Cond.instanceMethod yX5_put ∈ zBIG := zbig 322 (by decide +kernel) rfl
theorem ww_323 : Cond.selects RX5 yX5_put yX5_put ∈ zBIG := zbig 323 (by decide +kernel) rfl
theorem ww_324 : Cond.code yX5_put cX5_put 5 (some .int) ∈ zBIG := zbig 324 (by decide +kernel) rfl
theorem ww_325 : Cond.methodLink RL 49 yX5_fault ∈ zBIG := zbig 325 (by decide +kernel) rfl
theorem ww_326 : Cond.instanceMethod yX5_fault ∈ zBIG := zbig 326 (by decide +kernel) rfl
theorem ww_327 : Cond.selects RX5 yX5_fault yX5_fault ∈ zBIG := zbig 327 (by decide +kernel) rfl
theorem ww_328 : Cond.code yX5_fault cX5_fault 2 (some .int) ∈ zBIG := zbig 328 (by decide +kernel) rfl
theorem ww_378 : Cond.methodLink RL 53 yX5_rock ∈ zBIG := zbig 378 (by decide +kernel) rfl
theorem ww_379 : Cond.instanceMethod yX5_rock ∈ zBIG := zbig 379 (by decide +kernel) rfl
theorem ww_380 : Cond.selects RX5 yX5_rock yX5_rock ∈ zBIG := zbig 380 (by decide +kernel) rfl
theorem ww_381 : Cond.code yX5_rock cX5_rock 2 (some .int) ∈ zBIG := zbig 381 (by decide +kernel) rfl
theorem ww_417 : Cond.methodLink RL 57 yX5_tower ∈ zBIG := zbig 417 (by decide +kernel) rfl
theorem ww_418 : Cond.instanceMethod yX5_tower ∈ zBIG := zbig 418 (by decide +kernel) rfl
theorem ww_419 : Cond.selects RX5 yX5_tower yX5_tower ∈ zBIG := zbig 419 (by decide +kernel) rfl
theorem ww_420 : Cond.code yX5_tower cX5_tower 2 (some .int) ∈ zBIG := zbig 420 (by decide +kernel) rfl
theorem ww_423 : Cond.methodLink RL 61 yX5_house ∈ zBIG := zbig 423 (by decide +kernel) rfl
theorem ww_424 : Cond.instanceMethod yX5_house ∈ zBIG := zbig 424 (by decide +kernel) rfl
theorem ww_425 : Cond.selects RX5 yX5_house yX5_house ∈ zBIG := zbig 425 (by decide +kernel) rfl
theorem ww_426 : Cond.code yX5_house cX5_house 4 (some .int) ∈ zBIG := zbig 426 (by decide +kernel) rfl
theorem ww_519 : Cond.methodLink RL 65 yX5_mark ∈ zBIG := zbig 519 (by decide +kernel) rfl
theorem ww_520 : Cond.instanceMethod yX5_mark ∈ zBIG := zbig 520 (by decide +kernel) rfl
theorem ww_521 : Cond.selects RX5 yX5_mark yX5_mark ∈ zBIG := zbig 521 (by decide +kernel) rfl
theorem ww_522 : Cond.code yX5_mark cX5_mark 4 (some .int) ∈ zBIG := zbig 522 (by decide +kernel) rfl
theorem ww_552 : Cond.methodLink RL 69 yX5_bear ∈ zBIG := zbig 552 (by decide +kernel) rfl
theorem ww_553 : Cond.instanceMethod yX5_bear ∈ zBIG := zbig 553 (by decide +kernel) rfl
theorem ww_554 : Cond.selects RX5 yX5_bear yX5_bear ∈ zBIG := zbig 554 (by decide +kernel) rfl
theorem ww_555 : Cond.code yX5_bear cX5_bear 5 (some .int) ∈ zBIG := zbig 555 (by decide +kernel) rfl
theorem ww_556 : Cond.methodLink RL 73 yX5_build ∈ zBIG := zbig 556 (by decide +kernel) rfl
theorem ww_574 : Cond.methodLink RL 77 yX5_leave ∈ zBIG := zbig 574 (by decide +kernel) rfl
theorem ww_575 : Cond.instanceMethod yX5_leave ∈ zBIG := zbig 575 (by decide +kernel) rfl
theorem ww_576 : Cond.selects RX5 yX5_leave yX5_leave ∈ zBIG := zbig 576 (by decide +kernel) rfl
theorem ww_577 : Cond.code yX5_leave cX5_leave 3 (some .int) ∈ zBIG := zbig 577 (by decide +kernel) rfl
theorem ww_582 : Cond.methodLink RL 81 yX5_undo ∈ zBIG := zbig 582 (by decide +kernel) rfl
theorem ww_583 : Cond.instanceMethod yX5_undo ∈ zBIG := zbig 583 (by decide +kernel) rfl
theorem ww_584 : Cond.selects RX5 yX5_undo yX5_undo ∈ zBIG := zbig 584 (by decide +kernel) rfl
theorem ww_585 : Cond.code yX5_undo cX5_undo 3 (some .int) ∈ zBIG := zbig 585 (by decide +kernel) rfl
theorem ww_598 : Cond.methodLink RL 85 yX5_keep ∈ zBIG := zbig 598 (by decide +kernel) rfl
theorem ww_599 : Cond.instanceMethod yX5_keep ∈ zBIG := zbig 599 (by decide +kernel) rfl
theorem ww_600 : Cond.selects RX5 yX5_keep yX5_keep ∈ zBIG := zbig 600 (by decide +kernel) rfl
theorem ww_601 : Cond.code yX5_keep cX5_keep 3 (some .int) ∈ zBIG := zbig 601 (by decide +kernel) rfl
theorem ww_607 : Cond.methodLink RL 89 yX5_on ∈ zBIG := zbig 607 (by decide +kernel) rfl
theorem ww_608 : Cond.instanceMethod yX5_on ∈ zBIG := zbig 608 (by decide +kernel) rfl
theorem ww_609 : Cond.selects RX5 yX5_on yX5_on ∈ zBIG := zbig 609 (by decide +kernel) rfl
theorem ww_610 : Cond.code yX5_on cX5_on 3 (some .int) ∈ zBIG := zbig 610 (by decide +kernel) rfl
theorem ww_615 : Cond.methodLink RL 93 yX5_shades ∈ zBIG := zbig 615 (by decide +kernel) rfl
theorem ww_616 : Cond.instanceMethod yX5_shades ∈ zBIG := zbig 616 (by decide +kernel) rfl
theorem ww_617 : Cond.selects RX5 yX5_shades yX5_shades ∈ zBIG := zbig 617 (by decide +kernel) rfl
theorem ww_618 : Cond.code yX5_shades cX5_shades 4 (some .int) ∈ zBIG := zbig 618 (by decide +kernel) rfl
theorem ww_620 : Cond.methodLink RL 97 yX5_sees ∈ zBIG := zbig 620 (by decide +kernel) rfl
theorem ww_621 : Cond.instanceMethod yX5_sees ∈ zBIG := zbig 621 (by decide +kernel) rfl
theorem ww_622 : Cond.selects RX5 yX5_sees yX5_sees ∈ zBIG := zbig 622 (by decide +kernel) rfl
theorem ww_623 : Cond.code yX5_sees cX5_sees 3 (some .int) ∈ zBIG := zbig 623 (by decide +kernel) rfl
theorem ww_624 : Cond.methodLink RL 101 yX5_owes ∈ zBIG := zbig 624 (by decide +kernel) rfl
theorem ww_625 : Cond.instanceMethod yX5_owes ∈ zBIG := zbig 625 (by decide +kernel) rfl
theorem ww_626 : Cond.selects RX5 yX5_owes yX5_owes ∈ zBIG := zbig 626 (by decide +kernel) rfl
theorem ww_627 : Cond.code yX5_owes cX5_owes 3 (some .int) ∈ zBIG := zbig 627 (by decide +kernel) rfl
theorem ww_636 : Cond.methodLink RL 105 yX5_debt ∈ zBIG := zbig 636 (by decide +kernel) rfl
theorem ww_637 : Cond.instanceMethod yX5_debt ∈ zBIG := zbig 637 (by decide +kernel) rfl
theorem ww_638 : Cond.selects RX5 yX5_debt yX5_debt ∈ zBIG := zbig 638 (by decide +kernel) rfl
theorem ww_639 : Cond.code yX5_debt cX5_debt 2 (some .int) ∈ zBIG := zbig 639 (by decide +kernel) rfl
theorem ww_646 : Cond.methodLink RL 109 yX5_light ∈ zBIG := zbig 646 (by decide +kernel) rfl
theorem ww_647 : Cond.instanceMethod yX5_light ∈ zBIG := zbig 647 (by decide +kernel) rfl
theorem ww_648 : Cond.selects RX5 yX5_light yX5_light ∈ zBIG := zbig 648 (by decide +kernel) rfl
theorem ww_649 : Cond.code yX5_light cX5_light 1 (some .int) ∈ zBIG := zbig 649 (by decide +kernel) rfl
theorem ww_655 : Cond.methodLink RL 114 yX5_ruined ∈ zBIG := zbig 655 (by decide +kernel) rfl
theorem ww_656 : Cond.instanceMethod yX5_ruined ∈ zBIG := zbig 656 (by decide +kernel) rfl
theorem ww_657 : Cond.selects RX5 yX5_ruined yX5_ruined ∈ zBIG := zbig 657 (by decide +kernel) rfl
theorem ww_658 : Cond.code yX5_ruined cX5_ruined 3 (some .int) ∈ zBIG := zbig 658 (by decide +kernel) rfl
theorem ww_660 : Cond.methodLink RL 118 yX5_sways ∈ zBIG := zbig 660 (by decide +kernel) rfl
theorem ww_661 : Cond.instanceMethod yX5_sways ∈ zBIG := zbig 661 (by decide +kernel) rfl
theorem ww_662 : Cond.selects RX5 yX5_sways yX5_sways ∈ zBIG := zbig 662 (by decide +kernel) rfl
theorem ww_663 : Cond.code yX5_sways cX5_sways 6 (some .int) ∈ zBIG := zbig 663 (by decide +kernel) rfl
theorem ww_669 : Cond.methodLink RL 122 yX5_best ∈ zBIG := zbig 669 (by decide +kernel) rfl
theorem ww_670 : Cond.instanceMethod yX5_best ∈ zBIG := zbig 670 (by decide +kernel) rfl
theorem ww_671 : Cond.selects RX5 yX5_best yX5_best ∈ zBIG := zbig 671 (by decide +kernel) rfl
theorem ww_672 : Cond.code yX5_best cX5_best 7 (some .int) ∈ zBIG := zbig 672 (by decide +kernel) rfl
theorem ww_687 : Cond.methodLink RL 126 yX5_both ∈ zBIG := zbig 687 (by decide +kernel) rfl
theorem ww_688 : Cond.instanceMethod yX5_both ∈ zBIG := zbig 688 (by decide +kernel) rfl
theorem ww_689 : Cond.selects RX5 yX5_both yX5_both ∈ zBIG := zbig 689 (by decide +kernel) rfl
theorem ww_690 : Cond.code yX5_both cX5_both 10 (some .int) ∈ zBIG := zbig 690 (by decide +kernel) rfl
theorem ww_691 : Cond.methodLink RL 130 yX5_fewest ∈ zBIG := zbig 691 (by decide +kernel) rfl
theorem ww_692 : Cond.instanceMethod yX5_fewest ∈ zBIG := zbig 692 (by decide +kernel) rfl
theorem ww_693 : Cond.selects RX5 yX5_fewest yX5_fewest ∈ zBIG := zbig 693 (by decide +kernel) rfl
theorem ww_694 : Cond.code yX5_fewest cX5_fewest 6 (some .int) ∈ zBIG := zbig 694 (by decide +kernel) rfl
theorem ww_696 : Cond.methodLink RL 134 yX5_relief ∈ zBIG := zbig 696 (by decide +kernel) rfl
theorem ww_697 : Cond.instanceMethod yX5_relief ∈ zBIG := zbig 697 (by decide +kernel) rfl
theorem ww_698 : Cond.selects RX5 yX5_relief yX5_relief ∈ zBIG := zbig 698 (by decide +kernel) rfl
theorem ww_699 : Cond.code yX5_relief cX5_relief 7 (some .int) ∈ zBIG := zbig 699 (by decide +kernel) rfl
theorem ww_700 : Cond.methodLink RL 138 yX5_high ∈ zBIG := zbig 700 (by decide +kernel) rfl
theorem ww_701 : Cond.instanceMethod yX5_high ∈ zBIG := zbig 701 (by decide +kernel) rfl
theorem ww_702 : Cond.selects RX5 yX5_high yX5_high ∈ zBIG := zbig 702 (by decide +kernel) rfl
theorem ww_703 : Cond.code yX5_high cX5_high 4 (some .int) ∈ zBIG := zbig 703 (by decide +kernel) rfl
theorem ww_704 : Cond.methodLink RL 142 yX5_settle ∈ zBIG := zbig 704 (by decide +kernel) rfl
theorem ww_705 : Cond.instanceMethod yX5_settle ∈ zBIG := zbig 705 (by decide +kernel) rfl
theorem ww_706 : Cond.selects RX5 yX5_settle yX5_settle ∈ zBIG := zbig 706 (by decide +kernel) rfl
theorem ww_707 : Cond.code yX5_settle cX5_settle 2 (some .int) ∈ zBIG := zbig 707 (by decide +kernel) rfl
theorem ww_725 : Cond.methodLink RL 146 yX5_rings ∈ zBIG := zbig 725 (by decide +kernel) rfl
theorem ww_726 : Cond.instanceMethod yX5_rings ∈ zBIG := zbig 726 (by decide +kernel) rfl
theorem ww_727 : Cond.selects RX5 yX5_rings yX5_rings ∈ zBIG := zbig 727 (by decide +kernel) rfl
theorem ww_728 : Cond.code yX5_rings cX5_rings 1 (some .int) ∈ zBIG := zbig 728 (by decide +kernel) rfl
theorem ww_742 : Cond.methodLink RL 150 yX5_game ∈ zBIG := zbig 742 (by decide +kernel) rfl
theorem ww_743 : Cond.instanceMethod yX5_game ∈ zBIG := zbig 743 (by decide +kernel) rfl
theorem ww_744 : Cond.selects RX5 yX5_game yX5_game ∈ zBIG := zbig 744 (by decide +kernel) rfl
theorem ww_745 : Cond.code yX5_game cX5_game 3 (some .int) ∈ zBIG := zbig 745 (by decide +kernel) rfl
theorem ww_749 : Cond.methodLink RL 154 yX5_begin ∈ zBIG := zbig 749 (by decide +kernel) rfl
theorem ww_750 : Cond.instanceMethod yX5_begin ∈ zBIG := zbig 750 (by decide +kernel) rfl
theorem ww_751 : Cond.selects RX5 yX5_begin yX5_begin ∈ zBIG := zbig 751 (by decide +kernel) rfl
theorem ww_752 : Cond.code yX5_begin cX5_begin 3 (some .int) ∈ zBIG := zbig 752 (by decide +kernel) rfl
theorem ww_753 : Cond.methodLink RL 158 yX5_fog ∈ zBIG := zbig 753 (by decide +kernel) rfl
theorem ww_754 : Cond.instanceMethod yX5_fog ∈ zBIG := zbig 754 (by decide +kernel) rfl
theorem ww_755 : Cond.selects RX5 yX5_fog yX5_fog ∈ zBIG := zbig 755 (by decide +kernel) rfl
theorem ww_756 : Cond.code yX5_fog cX5_fog 5 (some .int) ∈ zBIG := zbig 756 (by decide +kernel) rfl
theorem ww_762 : Cond.methodLink RL 162 yX5_kinds ∈ zBIG := zbig 762 (by decide +kernel) rfl
theorem ww_763 : Cond.instanceMethod yX5_kinds ∈ zBIG := zbig 763 (by decide +kernel) rfl
theorem ww_764 : Cond.selects RX5 yX5_kinds yX5_kinds ∈ zBIG := zbig 764 (by decide +kernel) rfl
theorem ww_765 : Cond.code yX5_kinds cX5_kinds 6 (some .int) ∈ zBIG := zbig 765 (by decide +kernel) rfl
theorem ww_766 : Cond.methodLink RL 166 yX5_odds ∈ zBIG := zbig 766 (by decide +kernel) rfl
theorem ww_767 : Cond.instanceMethod yX5_odds ∈ zBIG := zbig 767 (by decide +kernel) rfl
theorem ww_768 : Cond.selects RX5 yX5_odds yX5_odds ∈ zBIG := zbig 768 (by decide +kernel) rfl
theorem ww_769 : Cond.code yX5_odds cX5_odds 5 (some .int) ∈ zBIG := zbig 769 (by decide +kernel) rfl
theorem ww_771 : Cond.methodLink RL 170 yX5_lots ∈ zBIG := zbig 771 (by decide +kernel) rfl
theorem ww_772 : Cond.instanceMethod yX5_lots ∈ zBIG := zbig 772 (by decide +kernel) rfl
theorem ww_773 : Cond.selects RX5 yX5_lots yX5_lots ∈ zBIG := zbig 773 (by decide +kernel) rfl
theorem ww_774 : Cond.code yX5_lots cX5_lots 9 (some .int) ∈ zBIG := zbig 774 (by decide +kernel) rfl
theorem ww_783 : Cond.methodLink RL 174 yX5_asked ∈ zBIG := zbig 783 (by decide +kernel) rfl
theorem ww_784 : Cond.instanceMethod yX5_asked ∈ zBIG := zbig 784 (by decide +kernel) rfl
theorem ww_785 : Cond.selects RX5 yX5_asked yX5_asked ∈ zBIG := zbig 785 (by decide +kernel) rfl
theorem ww_786 : Cond.code yX5_asked cX5_asked 1 (some .int) ∈ zBIG := zbig 786 (by decide +kernel) rfl
theorem ww_787 : Cond.methodLink RL 178 yX5_upper ∈ zBIG := zbig 787 (by decide +kernel) rfl
theorem ww_788 : Cond.instanceMethod yX5_upper ∈ zBIG := zbig 788 (by decide +kernel) rfl
theorem ww_789 : Cond.selects RX5 yX5_upper yX5_upper ∈ zBIG := zbig 789 (by decide +kernel) rfl
theorem ww_790 : Cond.code yX5_upper cX5_upper 1 (some .long) ∈ zBIG := zbig 790 (by decide +kernel) rfl
theorem ww_791 : Cond.methodLink RL 183 yX5_lower ∈ zBIG := zbig 791 (by decide +kernel) rfl
theorem ww_792 : Cond.instanceMethod yX5_lower ∈ zBIG := zbig 792 (by decide +kernel) rfl
theorem ww_793 : Cond.selects RX5 yX5_lower yX5_lower ∈ zBIG := zbig 793 (by decide +kernel) rfl
theorem ww_794 : Cond.code yX5_lower cX5_lower 1 (some .long) ∈ zBIG := zbig 794 (by decide +kernel) rfl
theorem ww_795 : Cond.methodLink RL 187 yX5_count ∈ zBIG := zbig 795 (by decide +kernel) rfl
theorem ww_821 : Cond.methodLink RL 191 yX5_finding ∈ zBIG := zbig 821 (by decide +kernel) rfl
theorem ww_822 : Cond.instanceMethod yX5_finding ∈ zBIG := zbig 822 (by decide +kernel) rfl
theorem ww_823 : Cond.selects RX5 yX5_finding yX5_finding ∈ zBIG := zbig 823 (by decide +kernel) rfl
theorem ww_824 : Cond.code yX5_finding cX5_finding 1 (some .int) ∈ zBIG := zbig 824 (by decide +kernel) rfl
theorem ww_825 : Cond.methodLink RL 195 yX5_findings ∈ zBIG := zbig 825 (by decide +kernel) rfl
theorem ww_826 : Cond.instanceMethod yX5_findings ∈ zBIG := zbig 826 (by decide +kernel) rfl
theorem ww_827 : Cond.selects RX5 yX5_findings yX5_findings ∈ zBIG := zbig 827 (by decide +kernel) rfl
theorem ww_828 : Cond.code yX5_findings cX5_findings 2 (some .int) ∈ zBIG := zbig 828 (by decide +kernel) rfl
theorem ww_829 : Cond.methodLink RL 199 yX5_digest ∈ zBIG := zbig 829 (by decide +kernel) rfl
theorem ww_830 : Cond.instanceMethod yX5_digest ∈ zBIG := zbig 830 (by decide +kernel) rfl
theorem ww_831 : Cond.selects RX5 yX5_digest yX5_digest ∈ zBIG := zbig 831 (by decide +kernel) rfl
theorem ww_832 : Cond.code yX5_digest cX5_digest 4 (some .long) ∈ zBIG := zbig 832 (by decide +kernel) rfl
theorem ww_910 : Cond.methodLink RL 17 yX6_row ∈ zBIG := zbig 910 (by decide +kernel) rfl
theorem ww_911 : Cond.instanceMethod yX6_row ∈ zBIG := zbig 911 (by decide +kernel) rfl
theorem ww_912 : Cond.selects RX6 yX6_row yX6_row ∈ zBIG := zbig 912 (by decide +kernel) rfl
theorem ww_913 : Cond.code yX6_row cX6_row 4 (some .int) ∈ zBIG := zbig 913 (by decide +kernel) rfl
theorem ww_925 : Cond.methodLink RL 22 yX6_lay ∈ zBIG := zbig 925 (by decide +kernel) rfl
theorem ww_926 : Cond.instanceMethod yX6_lay ∈ zBIG := zbig 926 (by decide +kernel) rfl
theorem ww_927 : Cond.selects RX6 yX6_lay yX6_lay ∈ zBIG := zbig 927 (by decide +kernel) rfl
theorem ww_928 : Cond.code yX6_lay cX6_lay 5 (some .int) ∈ zBIG := zbig 928 (by decide +kernel) rfl
theorem ww_937 : Cond.methodLink RL 26 yX6_at ∈ zBIG := zbig 937 (by decide +kernel) rfl
theorem ww_938 : Cond.methodLink RL 31 yX6_tear ∈ zBIG := zbig 938 (by decide +kernel) rfl
theorem ww_939 : Cond.instanceMethod yX6_tear ∈ zBIG := zbig 939 (by decide +kernel) rfl
theorem ww_940 : Cond.selects RX6 yX6_tear yX6_tear ∈ zBIG := zbig 940 (by decide +kernel) rfl
theorem ww_941 : Cond.code yX6_tear cX6_tear 2 (some .int) ∈ zBIG := zbig 941 (by decide +kernel) rfl
theorem ww_942 : Cond.methodLink RL 36 yX6_copy ∈ zBIG := zbig 942 (by decide +kernel) rfl
theorem ww_943 : Cond.instanceMethod yX6_copy ∈ zBIG := zbig 943 (by decide +kernel) rfl
theorem ww_944 : Cond.selects RX6 yX6_copy yX6_copy ∈ zBIG := zbig 944 (by decide +kernel) rfl
theorem ww_945 : Cond.code yX6_copy cX6_copy 7 (some .int) ∈ zBIG := zbig 945 (by decide +kernel) rfl
theorem ww_949 : Cond.methodLink RL 40 yX6_mean ∈ zBIG := zbig 949 (by decide +kernel) rfl
theorem ww_950 : Cond.instanceMethod yX6_mean ∈ zBIG := zbig 950 (by decide +kernel) rfl
theorem ww_951 : Cond.selects RX6 yX6_mean yX6_mean ∈ zBIG := zbig 951 (by decide +kernel) rfl
theorem ww_952 : Cond.code yX6_mean cX6_mean 5 (some .int) ∈ zBIG := zbig 952 (by decide +kernel) rfl
theorem ww_953 : Cond.methodLink RL 44 yX6_text ∈ zBIG := zbig 953 (by decide +kernel) rfl
theorem ww_954 : Cond.instanceMethod yX6_text ∈ zBIG := zbig 954 (by decide +kernel) rfl
theorem ww_955 : Cond.selects RX6 yX6_text yX6_text ∈ zBIG := zbig 955 (by decide +kernel) rfl
theorem ww_956 : Cond.code yX6_text cX6_text 4 (some .int) ∈ zBIG := zbig 956 (by decide +kernel) rfl
theorem ww_961 : Cond.methodLink RL 48 yX6_put ∈ zBIG := zbig 961 (by decide +kernel) rfl
theorem ww_962 : Cond.instanceMethod yX6_put ∈ zBIG := zbig 962 (by decide +kernel) rfl
theorem ww_963 : Cond.selects RX6 yX6_put yX6_put ∈ zBIG := zbig 963 (by decide +kernel) rfl
theorem ww_964 : Cond.code yX6_put cX6_put 5 (some .int) ∈ zBIG := zbig 964 (by decide +kernel) rfl
theorem ww_965 : Cond.methodLink RL 52 yX6_fault ∈ zBIG := zbig 965 (by decide +kernel) rfl
theorem ww_966 : Cond.instanceMethod yX6_fault ∈ zBIG := zbig 966 (by decide +kernel) rfl
theorem ww_967 : Cond.selects RX6 yX6_fault yX6_fault ∈ zBIG := zbig 967 (by decide +kernel) rfl
theorem ww_968 : Cond.code yX6_fault cX6_fault 2 (some .int) ∈ zBIG := zbig 968 (by decide +kernel) rfl
theorem ww_990 : Cond.methodLink RL 56 yX6_rock ∈ zBIG := zbig 990 (by decide +kernel) rfl
theorem ww_991 : Cond.instanceMethod yX6_rock ∈ zBIG := zbig 991 (by decide +kernel) rfl
theorem ww_992 : Cond.selects RX6 yX6_rock yX6_rock ∈ zBIG := zbig 992 (by decide +kernel) rfl
theorem ww_993 : Cond.code yX6_rock cX6_rock 3 (some .int) ∈ zBIG := zbig 993 (by decide +kernel) rfl
theorem ww_998 : Cond.methodLink RL 60 yX6_tower ∈ zBIG := zbig 998 (by decide +kernel) rfl
theorem ww_999 : Cond.instanceMethod yX6_tower ∈ zBIG := zbig 999 (by decide +kernel) rfl
/-! the law, from its loop on: sc tells the script, N how long it is -/
noncomputable def b_W_law (sc : Nat → Int) (N : Int) (v3 : Int) (μ : zM) : Option ((Int × zM) ⊕ Int) :=
  if z32 (N - 6) < v3 then
    some (.inr 1)
  else
    if 0 ≤ v3 ∧ v3 < N then
      if zand (sc v3.toNat) 63 = 0 then
        if 0 ≤ z32 (v3 + 1) ∧ z32 (v3 + 1) < N then
          if 0 ≤ z32 (v3 + 2) ∧ z32 (v3 + 2) < N then
            (f_X_row (sc (z32 (v3 + 1)).toNat) (sc (z32 (v3 + 2)).toNat) μ).bind fun q2 =>
            if 0 ≤ z32 (v3 + 1) ∧ z32 (v3 + 1) < N then
              if 0 ≤ z32 (v3 + 2) ∧ z32 (v3 + 2) < N then
                (f_M_row (sc (z32 (v3 + 1)).toNat) (sc (z32 (v3 + 2)).toNat) q2.2).bind fun q3 =>
                if q2.1 = q3.1 then
                  some (.inl (z32 (v3 + 6), q3.2))
                else
                  some (.inr 0)
              else none
            else none
          else none
        else none
      else if zand (sc v3.toNat) 63 = 1 then
        if 0 ≤ z32 (v3 + 1) ∧ z32 (v3 + 1) < N then
          if 0 ≤ z32 (v3 + 2) ∧ z32 (v3 + 2) < N then
            if 0 ≤ z32 (v3 + 3) ∧ z32 (v3 + 3) < N then
              (f_X_lay (sc (z32 (v3 + 1)).toNat) (sc (z32 (v3 + 2)).toNat) (sc (z32 (v3 + 3)).toNat) μ).bind fun q5 =>
              if 0 ≤ z32 (v3 + 1) ∧ z32 (v3 + 1) < N then
                if 0 ≤ z32 (v3 + 2) ∧ z32 (v3 + 2) < N then
                  if 0 ≤ z32 (v3 + 3) ∧ z32 (v3 + 3) < N then
                    (f_M_lay (sc (z32 (v3 + 1)).toNat) (sc (z32 (v3 + 2)).toNat) (sc (z32 (v3 + 3)).toNat) q5.2).bind fun q6 =>
                    if q5.1 = q6.1 then
                      some (.inl (z32 (v3 + 6), q6.2))
                    else
                      some (.inr 0)
                  else none
                else none
              else none
            else none
          else none
        else none
      else if zand (sc v3.toNat) 63 = 2 then
        if 0 ≤ z32 (v3 + 1) ∧ z32 (v3 + 1) < N then
          if 0 ≤ z32 (v3 + 2) ∧ z32 (v3 + 2) < N then
            (f_X_at (sc (z32 (v3 + 1)).toNat) (sc (z32 (v3 + 2)).toNat) μ).bind fun q8 =>
            if 0 ≤ z32 (v3 + 1) ∧ z32 (v3 + 1) < N then
              if 0 ≤ z32 (v3 + 2) ∧ z32 (v3 + 2) < N then
                (f_M_at (sc (z32 (v3 + 1)).toNat) (sc (z32 (v3 + 2)).toNat) q8.2).bind fun q9 =>
                if q8.1 = q9.1 then
                  some (.inl (z32 (v3 + 6), q9.2))
                else
                  some (.inr 0)
              else none
            else none
          else none
        else none
      else if zand (sc v3.toNat) 63 = 3 then
        if 0 ≤ z32 (v3 + 1) ∧ z32 (v3 + 1) < N then
          (f_X_tear (sc (z32 (v3 + 1)).toNat) μ).bind fun q11 =>
          if 0 ≤ z32 (v3 + 1) ∧ z32 (v3 + 1) < N then
            (f_M_tear (sc (z32 (v3 + 1)).toNat) q11.2).bind fun q12 =>
            if q11.1 = q12.1 then
              some (.inl (z32 (v3 + 6), q12.2))
            else
              some (.inr 0)
          else none
        else none
      else if zand (sc v3.toNat) 63 = 4 then
        if 0 ≤ z32 (v3 + 1) ∧ z32 (v3 + 1) < N then
          if 0 ≤ z32 (v3 + 2) ∧ z32 (v3 + 2) < N then
            if 0 ≤ z32 (v3 + 3) ∧ z32 (v3 + 3) < N then
              if 0 ≤ z32 (v3 + 4) ∧ z32 (v3 + 4) < N then
                if 0 ≤ z32 (v3 + 5) ∧ z32 (v3 + 5) < N then
                  (f_X_copy (sc (z32 (v3 + 1)).toNat) (sc (z32 (v3 + 2)).toNat) (sc (z32 (v3 + 3)).toNat) (sc (z32 (v3 + 4)).toNat) (sc (z32 (v3 + 5)).toNat) μ).bind fun q14 =>
                  if 0 ≤ z32 (v3 + 1) ∧ z32 (v3 + 1) < N then
                    if 0 ≤ z32 (v3 + 2) ∧ z32 (v3 + 2) < N then
                      if 0 ≤ z32 (v3 + 3) ∧ z32 (v3 + 3) < N then
                        if 0 ≤ z32 (v3 + 4) ∧ z32 (v3 + 4) < N then
                          if 0 ≤ z32 (v3 + 5) ∧ z32 (v3 + 5) < N then
                            (f_M_copy (sc (z32 (v3 + 1)).toNat) (sc (z32 (v3 + 2)).toNat) (sc (z32 (v3 + 3)).toNat) (sc (z32 (v3 + 4)).toNat) (sc (z32 (v3 + 5)).toNat) q14.2).bind fun q15 =>
                            if q14.1 = q15.1 then
                              some (.inl (z32 (v3 + 6), q15.2))
                            else
                              some (.inr 0)
                          else none
                        else none
                      else none
                    else none
                  else none
                else none
              else none
            else none
          else none
        else none
      else if zand (sc v3.toNat) 63 = 5 then
        if 0 ≤ z32 (v3 + 1) ∧ z32 (v3 + 1) < N then
          (f_X_mean (sc (z32 (v3 + 1)).toNat) μ).bind fun q17 =>
          if 0 ≤ z32 (v3 + 1) ∧ z32 (v3 + 1) < N then
            (f_M_mean (sc (z32 (v3 + 1)).toNat) q17.2).bind fun q18 =>
            if q17.1 = q18.1 then
              some (.inl (z32 (v3 + 6), q18.2))
            else
              some (.inr 0)
          else none
        else none
      else if zand (sc v3.toNat) 63 = 6 then
        if 0 ≤ z32 (v3 + 1) ∧ z32 (v3 + 1) < N then
          if 0 ≤ z32 (v3 + 2) ∧ z32 (v3 + 2) < N then
            (f_X_text (sc (z32 (v3 + 1)).toNat) (sc (z32 (v3 + 2)).toNat) μ).bind fun q20 =>
            if 0 ≤ z32 (v3 + 1) ∧ z32 (v3 + 1) < N then
              if 0 ≤ z32 (v3 + 2) ∧ z32 (v3 + 2) < N then
                (f_M_text (sc (z32 (v3 + 1)).toNat) (sc (z32 (v3 + 2)).toNat) q20.2).bind fun q21 =>
                if q20.1 = q21.1 then
                  some (.inl (z32 (v3 + 6), q21.2))
                else
                  some (.inr 0)
              else none
            else none
          else none
        else none
      else if zand (sc v3.toNat) 63 = 7 then
        if 0 ≤ z32 (v3 + 1) ∧ z32 (v3 + 1) < N then
          if 0 ≤ z32 (v3 + 2) ∧ z32 (v3 + 2) < N then
            if 0 ≤ z32 (v3 + 3) ∧ z32 (v3 + 3) < N then
              (f_X_put (sc (z32 (v3 + 1)).toNat) (sc (z32 (v3 + 2)).toNat) (sc (z32 (v3 + 3)).toNat) μ).bind fun q23 =>
              if 0 ≤ z32 (v3 + 1) ∧ z32 (v3 + 1) < N then
                if 0 ≤ z32 (v3 + 2) ∧ z32 (v3 + 2) < N then
                  if 0 ≤ z32 (v3 + 3) ∧ z32 (v3 + 3) < N then
                    (f_M_put (sc (z32 (v3 + 1)).toNat) (sc (z32 (v3 + 2)).toNat) (sc (z32 (v3 + 3)).toNat) q23.2).bind fun q24 =>
                    if q23.1 = q24.1 then
                      some (.inl (z32 (v3 + 6), q24.2))
                    else
                      some (.inr 0)
                  else none
                else none
              else none
            else none
          else none
        else none
      else if zand (sc v3.toNat) 63 = 8 then
        if 0 ≤ z32 (v3 + 1) ∧ z32 (v3 + 1) < N then
          (f_X_fault (sc (z32 (v3 + 1)).toNat) μ).bind fun q26 =>
          if 0 ≤ z32 (v3 + 1) ∧ z32 (v3 + 1) < N then
            (f_M_fault (sc (z32 (v3 + 1)).toNat) q26.2).bind fun q27 =>
            if q26.1 = q27.1 then
              some (.inl (z32 (v3 + 6), q27.2))
            else
              some (.inr 0)
          else none
        else none
      else if zand (sc v3.toNat) 63 = 9 then
        if 0 ≤ z32 (v3 + 1) ∧ z32 (v3 + 1) < N then
          (f_X_rock (sc (z32 (v3 + 1)).toNat) μ).bind fun q29 =>
          if 0 ≤ z32 (v3 + 1) ∧ z32 (v3 + 1) < N then
            (f_M_rock (sc (z32 (v3 + 1)).toNat) q29.2).bind fun q30 =>
            if q29.1 = q30.1 then
              some (.inl (z32 (v3 + 6), q30.2))
            else
              some (.inr 0)
          else none
        else none
      else if zand (sc v3.toNat) 63 = 10 then
        if 0 ≤ z32 (v3 + 1) ∧ z32 (v3 + 1) < N then
          (f_X_tower (sc (z32 (v3 + 1)).toNat) μ).bind fun q32 =>
          if 0 ≤ z32 (v3 + 1) ∧ z32 (v3 + 1) < N then
            (f_M_tower (sc (z32 (v3 + 1)).toNat) μ).bind fun q33 =>
            if q32 = q33 then
              some (.inl (z32 (v3 + 6), μ))
            else
              some (.inr 0)
          else none
        else none
      else if zand (sc v3.toNat) 63 = 11 then
        if 0 ≤ z32 (v3 + 1) ∧ z32 (v3 + 1) < N then
          if 0 ≤ z32 (v3 + 2) ∧ z32 (v3 + 2) < N then
            if 0 ≤ z32 (v3 + 3) ∧ z32 (v3 + 3) < N then
              (f_X_house (sc (z32 (v3 + 1)).toNat) (sc (z32 (v3 + 2)).toNat) (sc (z32 (v3 + 3)).toNat) μ).bind fun q35 =>
              if 0 ≤ z32 (v3 + 1) ∧ z32 (v3 + 1) < N then
                if 0 ≤ z32 (v3 + 2) ∧ z32 (v3 + 2) < N then
                  if 0 ≤ z32 (v3 + 3) ∧ z32 (v3 + 3) < N then
                    (f_M_house (sc (z32 (v3 + 1)).toNat) (sc (z32 (v3 + 2)).toNat) (sc (z32 (v3 + 3)).toNat) q35.2).bind fun q36 =>
                    if q35.1 = q36.1 then
                      some (.inl (z32 (v3 + 6), q36.2))
                    else
                      some (.inr 0)
                  else none
                else none
              else none
            else none
          else none
        else none
      else if zand (sc v3.toNat) 63 = 12 then
        if 0 ≤ z32 (v3 + 1) ∧ z32 (v3 + 1) < N then
          if 0 ≤ z32 (v3 + 2) ∧ z32 (v3 + 2) < N then
            if 0 ≤ z32 (v3 + 3) ∧ z32 (v3 + 3) < N then
              (f_X_mark (sc (z32 (v3 + 1)).toNat) (sc (z32 (v3 + 2)).toNat) (sc (z32 (v3 + 3)).toNat) μ).bind fun q38 =>
              if 0 ≤ z32 (v3 + 1) ∧ z32 (v3 + 1) < N then
                if 0 ≤ z32 (v3 + 2) ∧ z32 (v3 + 2) < N then
                  if 0 ≤ z32 (v3 + 3) ∧ z32 (v3 + 3) < N then
                    (f_M_mark (sc (z32 (v3 + 1)).toNat) (sc (z32 (v3 + 2)).toNat) (sc (z32 (v3 + 3)).toNat) q38.2).bind fun q39 =>
                    if q38.1 = q39.1 then
                      some (.inl (z32 (v3 + 6), q39.2))
                    else
                      some (.inr 0)
                  else none
                else none
              else none
            else none
          else none
        else none
      else if zand (sc v3.toNat) 63 = 13 then
        if 0 ≤ z32 (v3 + 1) ∧ z32 (v3 + 1) < N then
          if 0 ≤ z32 (v3 + 2) ∧ z32 (v3 + 2) < N then
            if 0 ≤ z32 (v3 + 3) ∧ z32 (v3 + 3) < N then
              (f_X_bear (sc (z32 (v3 + 1)).toNat) (sc (z32 (v3 + 2)).toNat) (sc (z32 (v3 + 3)).toNat) μ).bind fun q41 =>
              if 0 ≤ z32 (v3 + 1) ∧ z32 (v3 + 1) < N then
                if 0 ≤ z32 (v3 + 2) ∧ z32 (v3 + 2) < N then
                  if 0 ≤ z32 (v3 + 3) ∧ z32 (v3 + 3) < N then
                    (f_M_bear (sc (z32 (v3 + 1)).toNat) (sc (z32 (v3 + 2)).toNat) (sc (z32 (v3 + 3)).toNat) q41.2).bind fun q42 =>
                    if q41.1 = q42.1 then
                      some (.inl (z32 (v3 + 6), q42.2))
                    else
                      some (.inr 0)
                  else none
                else none
              else none
            else none
          else none
        else none
      else if zand (sc v3.toNat) 63 = 14 then
        if 0 ≤ z32 (v3 + 1) ∧ z32 (v3 + 1) < N then
          if 0 ≤ z32 (v3 + 2) ∧ z32 (v3 + 2) < N then
            if 0 ≤ z32 (v3 + 3) ∧ z32 (v3 + 3) < N then
              (f_X_build (sc (z32 (v3 + 1)).toNat) (sc (z32 (v3 + 2)).toNat) (sc (z32 (v3 + 3)).toNat) μ).bind fun q44 =>
              if 0 ≤ z32 (v3 + 1) ∧ z32 (v3 + 1) < N then
                if 0 ≤ z32 (v3 + 2) ∧ z32 (v3 + 2) < N then
                  if 0 ≤ z32 (v3 + 3) ∧ z32 (v3 + 3) < N then
                    (f_M_build (sc (z32 (v3 + 1)).toNat) (sc (z32 (v3 + 2)).toNat) (sc (z32 (v3 + 3)).toNat) q44.2).bind fun q45 =>
                    if q44.1 = q45.1 then
                      some (.inl (z32 (v3 + 6), q45.2))
                    else
                      some (.inr 0)
                  else none
                else none
              else none
            else none
          else none
        else none
      else if zand (sc v3.toNat) 63 = 15 then
        if 0 ≤ z32 (v3 + 1) ∧ z32 (v3 + 1) < N then
          if 0 ≤ z32 (v3 + 2) ∧ z32 (v3 + 2) < N then
            (f_X_leave (sc (z32 (v3 + 1)).toNat) (sc (z32 (v3 + 2)).toNat) μ).bind fun q47 =>
            if 0 ≤ z32 (v3 + 1) ∧ z32 (v3 + 1) < N then
              if 0 ≤ z32 (v3 + 2) ∧ z32 (v3 + 2) < N then
                (f_M_leave (sc (z32 (v3 + 1)).toNat) (sc (z32 (v3 + 2)).toNat) q47.2).bind fun q48 =>
                if q47.1 = q48.1 then
                  some (.inl (z32 (v3 + 6), q48.2))
                else
                  some (.inr 0)
              else none
            else none
          else none
        else none
      else if zand (sc v3.toNat) 63 = 16 then
        if 0 ≤ z32 (v3 + 1) ∧ z32 (v3 + 1) < N then
          (f_X_undo (sc (z32 (v3 + 1)).toNat) μ).bind fun q50 =>
          if 0 ≤ z32 (v3 + 1) ∧ z32 (v3 + 1) < N then
            (f_M_undo (sc (z32 (v3 + 1)).toNat) q50.2).bind fun q51 =>
            if q50.1 = q51.1 then
              some (.inl (z32 (v3 + 6), q51.2))
            else
              some (.inr 0)
          else none
        else none
      else if zand (sc v3.toNat) 63 = 17 then
        if 0 ≤ z32 (v3 + 1) ∧ z32 (v3 + 1) < N then
          (f_X_keep (sc (z32 (v3 + 1)).toNat) μ).bind fun q53 =>
          if 0 ≤ z32 (v3 + 1) ∧ z32 (v3 + 1) < N then
            (f_M_keep (sc (z32 (v3 + 1)).toNat) q53.2).bind fun q54 =>
            if q53.1 = q54.1 then
              some (.inl (z32 (v3 + 6), q54.2))
            else
              some (.inr 0)
          else none
        else none
      else if zand (sc v3.toNat) 63 = 18 then
        if 0 ≤ z32 (v3 + 1) ∧ z32 (v3 + 1) < N then
          (f_X_on (sc (z32 (v3 + 1)).toNat) μ).bind fun q56 =>
          if 0 ≤ z32 (v3 + 1) ∧ z32 (v3 + 1) < N then
            (f_M_on (sc (z32 (v3 + 1)).toNat) q56.2).bind fun q57 =>
            if q56.1 = q57.1 then
              some (.inl (z32 (v3 + 6), q57.2))
            else
              some (.inr 0)
          else none
        else none
      else if zand (sc v3.toNat) 63 = 19 then
        if 0 ≤ z32 (v3 + 1) ∧ z32 (v3 + 1) < N then
          if 0 ≤ z32 (v3 + 2) ∧ z32 (v3 + 2) < N then
            if 0 ≤ z32 (v3 + 3) ∧ z32 (v3 + 3) < N then
              (f_X_shades (sc (z32 (v3 + 1)).toNat) (sc (z32 (v3 + 2)).toNat) (sc (z32 (v3 + 3)).toNat) μ).bind fun q59 =>
              if 0 ≤ z32 (v3 + 1) ∧ z32 (v3 + 1) < N then
                if 0 ≤ z32 (v3 + 2) ∧ z32 (v3 + 2) < N then
                  if 0 ≤ z32 (v3 + 3) ∧ z32 (v3 + 3) < N then
                    (f_M_shades (sc (z32 (v3 + 1)).toNat) (sc (z32 (v3 + 2)).toNat) (sc (z32 (v3 + 3)).toNat) q59.2).bind fun q60 =>
                    if q59.1 = q60.1 then
                      some (.inl (z32 (v3 + 6), q60.2))
                    else
                      some (.inr 0)
                  else none
                else none
              else none
            else none
          else none
        else none
      else if zand (sc v3.toNat) 63 = 20 then
        if 0 ≤ z32 (v3 + 1) ∧ z32 (v3 + 1) < N then
          if 0 ≤ z32 (v3 + 2) ∧ z32 (v3 + 2) < N then
            (f_X_sees (sc (z32 (v3 + 1)).toNat) (sc (z32 (v3 + 2)).toNat) μ).bind fun q62 =>
            if 0 ≤ z32 (v3 + 1) ∧ z32 (v3 + 1) < N then
              if 0 ≤ z32 (v3 + 2) ∧ z32 (v3 + 2) < N then
                (f_M_sees (sc (z32 (v3 + 1)).toNat) (sc (z32 (v3 + 2)).toNat) q62.2).bind fun q63 =>
                if q62.1 = q63.1 then
                  some (.inl (z32 (v3 + 6), q63.2))
                else
                  some (.inr 0)
              else none
            else none
          else none
        else none
      else if zand (sc v3.toNat) 63 = 21 then
        if 0 ≤ z32 (v3 + 1) ∧ z32 (v3 + 1) < N then
          if 0 ≤ z32 (v3 + 2) ∧ z32 (v3 + 2) < N then
            (f_X_owes (sc (z32 (v3 + 1)).toNat) (sc (z32 (v3 + 2)).toNat) μ).bind fun q65 =>
            if 0 ≤ z32 (v3 + 1) ∧ z32 (v3 + 1) < N then
              if 0 ≤ z32 (v3 + 2) ∧ z32 (v3 + 2) < N then
                (f_M_owes (sc (z32 (v3 + 1)).toNat) (sc (z32 (v3 + 2)).toNat) q65.2).bind fun q66 =>
                if q65.1 = q66.1 then
                  some (.inl (z32 (v3 + 6), q66.2))
                else
                  some (.inr 0)
              else none
            else none
          else none
        else none
      else if zand (sc v3.toNat) 63 = 22 then
        if 0 ≤ z32 (v3 + 1) ∧ z32 (v3 + 1) < N then
          (f_X_debt (sc (z32 (v3 + 1)).toNat) μ).bind fun q68 =>
          if 0 ≤ z32 (v3 + 1) ∧ z32 (v3 + 1) < N then
            (f_M_debt (sc (z32 (v3 + 1)).toNat) q68.2).bind fun q69 =>
            if q68.1 = q69.1 then
              some (.inl (z32 (v3 + 6), q69.2))
            else
              some (.inr 0)
          else none
        else none
      else if zand (sc v3.toNat) 63 = 23 then
        (f_X_light  μ).bind fun q71 =>
        (f_M_light  q71.2).bind fun q72 =>
        if q71.1 = q72.1 then
          some (.inl (z32 (v3 + 6), q72.2))
        else
          some (.inr 0)
      else if zand (sc v3.toNat) 63 = 24 then
        (f_X_ruined  μ).bind fun q74 =>
        (f_M_ruined  q74.2).bind fun q75 =>
        if q74.1 = q75.1 then
          some (.inl (z32 (v3 + 6), q75.2))
        else
          some (.inr 0)
      else if zand (sc v3.toNat) 63 = 25 then
        (f_X_sways  μ).bind fun q77 =>
        (f_M_sways  q77.2).bind fun q78 =>
        if q77.1 = q78.1 then
          some (.inl (z32 (v3 + 6), q78.2))
        else
          some (.inr 0)
      else if zand (sc v3.toNat) 63 = 26 then
        if 0 ≤ z32 (v3 + 1) ∧ z32 (v3 + 1) < N then
          if 0 ≤ z32 (v3 + 2) ∧ z32 (v3 + 2) < N then
            (f_X_best (sc (z32 (v3 + 1)).toNat) (sc (z32 (v3 + 2)).toNat) μ).bind fun q80 =>
            if 0 ≤ z32 (v3 + 1) ∧ z32 (v3 + 1) < N then
              if 0 ≤ z32 (v3 + 2) ∧ z32 (v3 + 2) < N then
                (f_M_best (sc (z32 (v3 + 1)).toNat) (sc (z32 (v3 + 2)).toNat) q80.2).bind fun q81 =>
                if q80.1 = q81.1 then
                  some (.inl (z32 (v3 + 6), q81.2))
                else
                  some (.inr 0)
              else none
            else none
          else none
        else none
      else if zand (sc v3.toNat) 63 = 27 then
        if 0 ≤ z32 (v3 + 1) ∧ z32 (v3 + 1) < N then
          if 0 ≤ z32 (v3 + 2) ∧ z32 (v3 + 2) < N then
            if 0 ≤ z32 (v3 + 3) ∧ z32 (v3 + 3) < N then
              (f_X_both (sc (z32 (v3 + 1)).toNat) (sc (z32 (v3 + 2)).toNat) (sc (z32 (v3 + 3)).toNat) μ).bind fun q83 =>
              if 0 ≤ z32 (v3 + 1) ∧ z32 (v3 + 1) < N then
                if 0 ≤ z32 (v3 + 2) ∧ z32 (v3 + 2) < N then
                  if 0 ≤ z32 (v3 + 3) ∧ z32 (v3 + 3) < N then
                    (f_M_both (sc (z32 (v3 + 1)).toNat) (sc (z32 (v3 + 2)).toNat) (sc (z32 (v3 + 3)).toNat) q83.2).bind fun q84 =>
                    if q83.1 = q84.1 then
                      some (.inl (z32 (v3 + 6), q84.2))
                    else
                      some (.inr 0)
                  else none
                else none
              else none
            else none
          else none
        else none
      else if zand (sc v3.toNat) 63 = 28 then
        (f_X_fewest  μ).bind fun q86 =>
        (f_M_fewest  q86.2).bind fun q87 =>
        if q86.1 = q87.1 then
          some (.inl (z32 (v3 + 6), q87.2))
        else
          some (.inr 0)
      else if zand (sc v3.toNat) 63 = 29 then
        (f_X_relief  μ).bind fun q89 =>
        (f_M_relief  q89.2).bind fun q90 =>
        if q89.1 = q90.1 then
          some (.inl (z32 (v3 + 6), q90.2))
        else
          some (.inr 0)
      else if zand (sc v3.toNat) 63 = 30 then
        if 0 ≤ z32 (v3 + 1) ∧ z32 (v3 + 1) < N then
          if 0 ≤ z32 (v3 + 2) ∧ z32 (v3 + 2) < N then
            (f_X_high (sc (z32 (v3 + 1)).toNat) (sc (z32 (v3 + 2)).toNat) μ).bind fun q92 =>
            if 0 ≤ z32 (v3 + 1) ∧ z32 (v3 + 1) < N then
              if 0 ≤ z32 (v3 + 2) ∧ z32 (v3 + 2) < N then
                (f_M_high (sc (z32 (v3 + 1)).toNat) (sc (z32 (v3 + 2)).toNat) q92.2).bind fun q93 =>
                if q92.1 = q93.1 then
                  some (.inl (z32 (v3 + 6), q93.2))
                else
                  some (.inr 0)
              else none
            else none
          else none
        else none
      else if zand (sc v3.toNat) 63 = 31 then
        (f_X_settle  μ).bind fun q95 =>
        (f_M_settle  q95.2).bind fun q96 =>
        if q95.1 = q96.1 then
          some (.inl (z32 (v3 + 6), q96.2))
        else
          some (.inr 0)
      else if zand (sc v3.toNat) 63 = 32 then
        (f_X_rings  μ).bind fun q98 =>
        (f_M_rings  q98.2).bind fun q99 =>
        if q98.1 = q99.1 then
          some (.inl (z32 (v3 + 6), q99.2))
        else
          some (.inr 0)
      else if zand (sc v3.toNat) 63 = 33 then
        if 0 ≤ z32 (v3 + 1) ∧ z32 (v3 + 1) < N then
          if 0 ≤ z32 (v3 + 2) ∧ z32 (v3 + 2) < N then
            (f_X_game (sc (z32 (v3 + 1)).toNat) (sc (z32 (v3 + 2)).toNat) μ).bind fun q101 =>
            if 0 ≤ z32 (v3 + 1) ∧ z32 (v3 + 1) < N then
              if 0 ≤ z32 (v3 + 2) ∧ z32 (v3 + 2) < N then
                (f_M_game (sc (z32 (v3 + 1)).toNat) (sc (z32 (v3 + 2)).toNat) q101.2).bind fun q102 =>
                if q101.1 = q102.1 then
                  some (.inl (z32 (v3 + 6), q102.2))
                else
                  some (.inr 0)
              else none
            else none
          else none
        else none
      else if zand (sc v3.toNat) 63 = 34 then
        if 0 ≤ z32 (v3 + 1) ∧ z32 (v3 + 1) < N then
          if 0 ≤ z32 (v3 + 2) ∧ z32 (v3 + 2) < N then
            (f_X_begin (sc (z32 (v3 + 1)).toNat) (sc (z32 (v3 + 2)).toNat) μ).bind fun q104 =>
            if 0 ≤ z32 (v3 + 1) ∧ z32 (v3 + 1) < N then
              if 0 ≤ z32 (v3 + 2) ∧ z32 (v3 + 2) < N then
                (f_M_begin (sc (z32 (v3 + 1)).toNat) (sc (z32 (v3 + 2)).toNat) q104.2).bind fun q105 =>
                if q104.1 = q105.1 then
                  some (.inl (z32 (v3 + 6), q105.2))
                else
                  some (.inr 0)
              else none
            else none
          else none
        else none
      else if zand (sc v3.toNat) 63 = 35 then
        if 0 ≤ z32 (v3 + 1) ∧ z32 (v3 + 1) < N then
          (f_X_fog (sc (z32 (v3 + 1)).toNat) μ).bind fun q107 =>
          if 0 ≤ z32 (v3 + 1) ∧ z32 (v3 + 1) < N then
            (f_M_fog (sc (z32 (v3 + 1)).toNat) q107.2).bind fun q108 =>
            if q107.1 = q108.1 then
              some (.inl (z32 (v3 + 6), q108.2))
            else
              some (.inr 0)
          else none
        else none
      else if zand (sc v3.toNat) 63 = 36 then
        if 0 ≤ z32 (v3 + 1) ∧ z32 (v3 + 1) < N then
          if 0 ≤ z32 (v3 + 2) ∧ z32 (v3 + 2) < N then
            if 0 ≤ z32 (v3 + 3) ∧ z32 (v3 + 3) < N then
              (f_X_kinds (sc (z32 (v3 + 1)).toNat) (sc (z32 (v3 + 2)).toNat) (sc (z32 (v3 + 3)).toNat) μ).bind fun q110 =>
              if 0 ≤ z32 (v3 + 1) ∧ z32 (v3 + 1) < N then
                if 0 ≤ z32 (v3 + 2) ∧ z32 (v3 + 2) < N then
                  if 0 ≤ z32 (v3 + 3) ∧ z32 (v3 + 3) < N then
                    (f_M_kinds (sc (z32 (v3 + 1)).toNat) (sc (z32 (v3 + 2)).toNat) (sc (z32 (v3 + 3)).toNat) q110.2).bind fun q111 =>
                    if q110.1 = q111.1 then
                      some (.inl (z32 (v3 + 6), q111.2))
                    else
                      some (.inr 0)
                  else none
                else none
              else none
            else none
          else none
        else none
      else if zand (sc v3.toNat) 63 = 37 then
        if 0 ≤ z32 (v3 + 1) ∧ z32 (v3 + 1) < N then
          if 0 ≤ z32 (v3 + 2) ∧ z32 (v3 + 2) < N then
            (f_X_odds (sc (z32 (v3 + 1)).toNat) (sc (z32 (v3 + 2)).toNat) μ).bind fun q113 =>
            if 0 ≤ z32 (v3 + 1) ∧ z32 (v3 + 1) < N then
              if 0 ≤ z32 (v3 + 2) ∧ z32 (v3 + 2) < N then
                (f_M_odds (sc (z32 (v3 + 1)).toNat) (sc (z32 (v3 + 2)).toNat) q113.2).bind fun q114 =>
                if q113.1 = q114.1 then
                  some (.inl (z32 (v3 + 6), q114.2))
                else
                  some (.inr 0)
              else none
            else none
          else none
        else none
      else if zand (sc v3.toNat) 63 = 38 then
        if 0 ≤ z32 (v3 + 1) ∧ z32 (v3 + 1) < N then
          if 0 ≤ z32 (v3 + 2) ∧ z32 (v3 + 2) < N then
            (f_X_lots (sc (z32 (v3 + 1)).toNat) (sc (z32 (v3 + 2)).toNat) μ).bind fun q116 =>
            if 0 ≤ z32 (v3 + 1) ∧ z32 (v3 + 1) < N then
              if 0 ≤ z32 (v3 + 2) ∧ z32 (v3 + 2) < N then
                (f_M_lots (sc (z32 (v3 + 1)).toNat) (sc (z32 (v3 + 2)).toNat) q116.2).bind fun q117 =>
                if q116.1 = q117.1 then
                  some (.inl (z32 (v3 + 6), q117.2))
                else
                  some (.inr 0)
              else none
            else none
          else none
        else none
      else if zand (sc v3.toNat) 63 = 39 then
        if f_X_asked  μ = f_M_asked  μ then
          some (.inl (z32 (v3 + 6), μ))
        else
          some (.inr 0)
      else if zand (sc v3.toNat) 63 = 40 then
        if zlcmp (f_X_upper  μ) (f_M_upper  μ) = 0 then
          some (.inl (z32 (v3 + 6), μ))
        else
          some (.inr 0)
      else if zand (sc v3.toNat) 63 = 41 then
        if zlcmp (f_X_lower  μ) (f_M_lower  μ) = 0 then
          some (.inl (z32 (v3 + 6), μ))
        else
          some (.inr 0)
      else if zand (sc v3.toNat) 63 = 42 then
        if 0 ≤ z32 (v3 + 1) ∧ z32 (v3 + 1) < N then
          (f_X_count (sc (z32 (v3 + 1)).toNat) μ).bind fun q122 =>
          if 0 ≤ z32 (v3 + 1) ∧ z32 (v3 + 1) < N then
            (f_M_count (sc (z32 (v3 + 1)).toNat) μ).bind fun q123 =>
            if q122 = q123 then
              some (.inl (z32 (v3 + 6), μ))
            else
              some (.inr 0)
          else none
        else none
      else if zand (sc v3.toNat) 63 = 43 then
        if f_X_finding  μ = f_M_finding  μ then
          some (.inl (z32 (v3 + 6), μ))
        else
          some (.inr 0)
      else if zand (sc v3.toNat) 63 = 44 then
        if 0 ≤ z32 (v3 + 1) ∧ z32 (v3 + 1) < N then
          (f_X_findings (sc (z32 (v3 + 1)).toNat) μ).bind fun q126 =>
          if 0 ≤ z32 (v3 + 1) ∧ z32 (v3 + 1) < N then
            (f_M_findings (sc (z32 (v3 + 1)).toNat) μ).bind fun q127 =>
            if q126 = q127 then
              some (.inl (z32 (v3 + 6), μ))
            else
              some (.inr 0)
          else none
        else none
      else if zand (sc v3.toNat) 63 = 45 then
        (f_X_digest  μ).bind fun q129 =>
        (f_M_digest  q129.2).bind fun q130 =>
        if zlcmp q129.1 q130.1 = 0 then
          some (.inl (z32 (v3 + 6), q130.2))
        else
          some (.inr 0)
      else
        some (.inl (z32 (v3 + 6), μ))
    else none
noncomputable def t_W_law (sc : Nat → Int) (N : Int) : (Int × zM) → Option ((Int × zM) ⊕ Int) := fun s => b_W_law sc N s.1 s.2
def k_W_law (X : zX) (G : zG) : (Int × zM) → Prop := fun s => zW X G 4 18 [some (zR 70), some (zR 0), some (zR 42), some (zI s.1)] [] s.2
theorem k_W_law_18 {X : zX} {G : zG} {F : Int → Prop} {v3 : Int} {κ : zM} (h : zP (Sum.elim (k_W_law X G) F) (some (.inl (v3, κ)))) : zW X G 4 18 [some (zR 70), some (zR 0), some (zR 42), some (zI v3)] [] κ := h
set_option maxRecDepth 100000 in
set_option maxHeartbeats 16000000 in
theorem w_W_law {X : zX} {G : zG} {sc : Nat → Int} {L : Nat} {N : Int} {μ : zM} {v3 : Int} (hX : zOk X G cL_law RL 4 ret 1000) (hSc : zSc X G sc L) (hNL : (L : Int) = N) (hNr : zrI N) (hF : zFinL X ∧ ∀ q, zgA G q → (zXs X).heap.size ≤ q) (h : zP (Sum.elim (k_W_law X G) (fun r : Int => r = 1)) (b_W_law sc N v3 μ)) : zW X G 4 18 [some (zR 70), some (zR 0), some (zR 42), some (zI v3)] [] μ := by
  refine zr_iload_n hX dL_law_18 rfl rfl ?_
  refine zr_aload_n hX dL_law_19 rfl rfl ?_
  refine zr_sclen hX dL_law_20 hSc hNL hNr ?_
  refine zr_bipush hX dL_law_21 rfl ?_
  refine zr_isub hX dL_law_23 ?_
  refine zr_icmpgt (tgt := 1519) hX dL_law_24 rfl h (fun h => ?_) (fun h => ?_)
  · refine zr_iconst hX dL_law_1519 (zrl rfl) ?_
    exact zr_lawret hX dL_law_1520 hF h
  · refine zr_aload_n hX dL_law_27 rfl rfl ?_
    refine zr_iload_n hX dL_law_28 rfl rfl ?_
    refine zr_scl hX dL_law_29 hSc hNL h (fun h => ?_)
    refine zr_bipush hX dL_law_30 rfl ?_
    refine zr_iand hX dL_law_32 ?_
    refine zr_tsw hX 0 dL_law_33 (by decide) (zrl rfl) (t2 := 232) rfl rfl h (fun h => ?_) (fun hs1 h => ?_)
    · refine zr_aload_n hX dL_law_232 rfl rfl ?_
      refine zr_aload_n hX dL_law_233 rfl rfl ?_
      refine zr_iload_n hX dL_law_234 rfl rfl ?_
      refine zr_iconst hX dL_law_235 (zrl rfl) ?_
      refine zr_iadd hX dL_law_236 ?_
      refine zr_scl hX dL_law_237 hSc hNL h (fun h => ?_)
      refine zr_aload_n hX dL_law_238 rfl rfl ?_
      refine zr_iload_n hX dL_law_239 rfl rfl ?_
      refine zr_iconst hX dL_law_240 (zrl rfl) ?_
      refine zr_iadd hX dL_law_241 ?_
      refine zr_scl hX dL_law_242 hSc hNL h (fun h => ?_)
      refine zP_bind h (fun q2 hq2 h => ?_)
      refine zr_callV hX dL_law_243 (m_X_row hq2) rfl rfl rfl (z5 ww_236 ww_237 ww_238 ww_70 ww_239) hy_X5_row rfl (Nat.le_of_ble_eq_true rfl) (Nat.le_of_ble_eq_true rfl) (Nat.le_of_ble_eq_true rfl) ?_
      refine zr_aload_n hX dL_law_246 rfl rfl ?_
      refine zr_aload_n hX dL_law_247 rfl rfl ?_
      refine zr_iload_n hX dL_law_248 rfl rfl ?_
      refine zr_iconst hX dL_law_249 (zrl rfl) ?_
      refine zr_iadd hX dL_law_250 ?_
      refine zr_scl hX dL_law_251 hSc hNL h (fun h => ?_)
      refine zr_aload_n hX dL_law_252 rfl rfl ?_
      refine zr_iload_n hX dL_law_253 rfl rfl ?_
      refine zr_iconst hX dL_law_254 (zrl rfl) ?_
      refine zr_iadd hX dL_law_255 ?_
      refine zr_scl hX dL_law_256 hSc hNL h (fun h => ?_)
      refine zP_bind h (fun q3 hq3 h => ?_)
      refine zr_callV hX dL_law_257 (m_M_row hq3) rfl rfl rfl (z5 ww_910 ww_911 ww_912 ww_77 ww_913) hy_X6_row rfl (Nat.le_of_ble_eq_true rfl) (Nat.le_of_ble_eq_true rfl) (Nat.le_of_ble_eq_true rfl) ?_
      refine zr_icmpeq (tgt := 1513) hX dL_law_260 rfl h (fun h => ?_) (fun h => ?_)
      · refine zr_iinc hX dL_law_1513 rfl (Nat.le_of_ble_eq_true rfl) ?_
        refine zr_goto hX dL_law_1516 (tgt := 18) rfl ?_
        exact zW_lf (k_W_law_18 h) (And.intro rfl (And.intro rfl (And.intro rfl (And.intro rfl trivial))))
      · refine zr_iconst hX dL_law_263 (zrl rfl) ?_
        exact zr_lawret hX dL_law_264 hF h
    refine zr_tsw hX 1 dL_law_33 (by decide) (zrl rfl) (t2 := 265) rfl rfl h (fun h => ?_) (fun hs4 h => ?_)
    · refine zr_aload_n hX dL_law_265 rfl rfl ?_
      refine zr_aload_n hX dL_law_266 rfl rfl ?_
      refine zr_iload_n hX dL_law_267 rfl rfl ?_
      refine zr_iconst hX dL_law_268 (zrl rfl) ?_
      refine zr_iadd hX dL_law_269 ?_
      refine zr_scl hX dL_law_270 hSc hNL h (fun h => ?_)
      refine zr_aload_n hX dL_law_271 rfl rfl ?_
      refine zr_iload_n hX dL_law_272 rfl rfl ?_
      refine zr_iconst hX dL_law_273 (zrl rfl) ?_
      refine zr_iadd hX dL_law_274 ?_
      refine zr_scl hX dL_law_275 hSc hNL h (fun h => ?_)
      refine zr_aload_n hX dL_law_276 rfl rfl ?_
      refine zr_iload_n hX dL_law_277 rfl rfl ?_
      refine zr_iconst hX dL_law_278 (zrl rfl) ?_
      refine zr_iadd hX dL_law_279 ?_
      refine zr_scl hX dL_law_280 hSc hNL h (fun h => ?_)
      refine zP_bind h (fun q5 hq5 h => ?_)
      refine zr_callV hX dL_law_281 (m_X_lay hq5) rfl rfl rfl (z5 ww_265 ww_266 ww_267 ww_70 ww_268) hy_X5_lay rfl (Nat.le_of_ble_eq_true rfl) (Nat.le_of_ble_eq_true rfl) (Nat.le_of_ble_eq_true rfl) ?_
      refine zr_aload_n hX dL_law_284 rfl rfl ?_
      refine zr_aload_n hX dL_law_285 rfl rfl ?_
      refine zr_iload_n hX dL_law_286 rfl rfl ?_
      refine zr_iconst hX dL_law_287 (zrl rfl) ?_
      refine zr_iadd hX dL_law_288 ?_
      refine zr_scl hX dL_law_289 hSc hNL h (fun h => ?_)
      refine zr_aload_n hX dL_law_290 rfl rfl ?_
      refine zr_iload_n hX dL_law_291 rfl rfl ?_
      refine zr_iconst hX dL_law_292 (zrl rfl) ?_
      refine zr_iadd hX dL_law_293 ?_
      refine zr_scl hX dL_law_294 hSc hNL h (fun h => ?_)
      refine zr_aload_n hX dL_law_295 rfl rfl ?_
      refine zr_iload_n hX dL_law_296 rfl rfl ?_
      refine zr_iconst hX dL_law_297 (zrl rfl) ?_
      refine zr_iadd hX dL_law_298 ?_
      refine zr_scl hX dL_law_299 hSc hNL h (fun h => ?_)
      refine zP_bind h (fun q6 hq6 h => ?_)
      refine zr_callV hX dL_law_300 (m_M_lay hq6) rfl rfl rfl (z5 ww_925 ww_926 ww_927 ww_77 ww_928) hy_X6_lay rfl (Nat.le_of_ble_eq_true rfl) (Nat.le_of_ble_eq_true rfl) (Nat.le_of_ble_eq_true rfl) ?_
      refine zr_icmpeq (tgt := 1513) hX dL_law_303 rfl h (fun h => ?_) (fun h => ?_)
      · refine zr_iinc hX dL_law_1513 rfl (Nat.le_of_ble_eq_true rfl) ?_
        refine zr_goto hX dL_law_1516 (tgt := 18) rfl ?_
        exact zW_lf (k_W_law_18 h) (And.intro rfl (And.intro rfl (And.intro rfl (And.intro rfl trivial))))
      · refine zr_iconst hX dL_law_306 (zrl rfl) ?_
        exact zr_lawret hX dL_law_307 hF h
    refine zr_tsw hX 2 dL_law_33 (by decide) (zrl rfl) (t2 := 308) rfl rfl h (fun h => ?_) (fun hs7 h => ?_)
    · refine zr_aload_n hX dL_law_308 rfl rfl ?_
      refine zr_aload_n hX dL_law_309 rfl rfl ?_
      refine zr_iload_n hX dL_law_310 rfl rfl ?_
      refine zr_iconst hX dL_law_311 (zrl rfl) ?_
      refine zr_iadd hX dL_law_312 ?_
      refine zr_scl hX dL_law_313 hSc hNL h (fun h => ?_)
      refine zr_aload_n hX dL_law_314 rfl rfl ?_
      refine zr_iload_n hX dL_law_315 rfl rfl ?_
      refine zr_iconst hX dL_law_316 (zrl rfl) ?_
      refine zr_iadd hX dL_law_317 ?_
      refine zr_scl hX dL_law_318 hSc hNL h (fun h => ?_)
      refine zP_bind h (fun q8 hq8 h => ?_)
      refine zr_callV hX dL_law_319 (m_X_at hq8) rfl rfl rfl (z5 ww_279 ww_280 ww_281 ww_70 ww_282) hy_X5_at rfl (Nat.le_of_ble_eq_true rfl) (Nat.le_of_ble_eq_true rfl) (Nat.le_of_ble_eq_true rfl) ?_
      refine zr_aload_n hX dL_law_322 rfl rfl ?_
      refine zr_aload_n hX dL_law_323 rfl rfl ?_
      refine zr_iload_n hX dL_law_324 rfl rfl ?_
      refine zr_iconst hX dL_law_325 (zrl rfl) ?_
      refine zr_iadd hX dL_law_326 ?_
      refine zr_scl hX dL_law_327 hSc hNL h (fun h => ?_)
      refine zr_aload_n hX dL_law_328 rfl rfl ?_
      refine zr_iload_n hX dL_law_329 rfl rfl ?_
      refine zr_iconst hX dL_law_330 (zrl rfl) ?_
      refine zr_iadd hX dL_law_331 ?_
      refine zr_scl hX dL_law_332 hSc hNL h (fun h => ?_)
      refine zP_bind h (fun q9 hq9 h => ?_)
      refine zr_callV hX dL_law_333 (m_M_at hq9) rfl rfl rfl (z5 ww_937 ww_930 ww_931 ww_77 ww_932) hy_X6_at rfl (Nat.le_of_ble_eq_true rfl) (Nat.le_of_ble_eq_true rfl) (Nat.le_of_ble_eq_true rfl) ?_
      refine zr_icmpeq (tgt := 1513) hX dL_law_336 rfl h (fun h => ?_) (fun h => ?_)
      · refine zr_iinc hX dL_law_1513 rfl (Nat.le_of_ble_eq_true rfl) ?_
        refine zr_goto hX dL_law_1516 (tgt := 18) rfl ?_
        exact zW_lf (k_W_law_18 h) (And.intro rfl (And.intro rfl (And.intro rfl (And.intro rfl trivial))))
      · refine zr_iconst hX dL_law_339 (zrl rfl) ?_
        exact zr_lawret hX dL_law_340 hF h
    refine zr_tsw hX 3 dL_law_33 (by decide) (zrl rfl) (t2 := 341) rfl rfl h (fun h => ?_) (fun hs10 h => ?_)
    · refine zr_aload_n hX dL_law_341 rfl rfl ?_
      refine zr_aload_n hX dL_law_342 rfl rfl ?_
      refine zr_iload_n hX dL_law_343 rfl rfl ?_
      refine zr_iconst hX dL_law_344 (zrl rfl) ?_
      refine zr_iadd hX dL_law_345 ?_
      refine zr_scl hX dL_law_346 hSc hNL h (fun h => ?_)
      refine zP_bind h (fun q11 hq11 h => ?_)
      refine zr_callV hX dL_law_347 (m_X_tear hq11) rfl rfl rfl (z5 ww_283 ww_284 ww_285 ww_70 ww_286) hy_X5_tear rfl (Nat.le_of_ble_eq_true rfl) (Nat.le_of_ble_eq_true rfl) (Nat.le_of_ble_eq_true rfl) ?_
      refine zr_aload_n hX dL_law_350 rfl rfl ?_
      refine zr_aload_n hX dL_law_351 rfl rfl ?_
      refine zr_iload_n hX dL_law_352 rfl rfl ?_
      refine zr_iconst hX dL_law_353 (zrl rfl) ?_
      refine zr_iadd hX dL_law_354 ?_
      refine zr_scl hX dL_law_355 hSc hNL h (fun h => ?_)
      refine zP_bind h (fun q12 hq12 h => ?_)
      refine zr_callV hX dL_law_356 (m_M_tear hq12) rfl rfl rfl (z5 ww_938 ww_939 ww_940 ww_77 ww_941) hy_X6_tear rfl (Nat.le_of_ble_eq_true rfl) (Nat.le_of_ble_eq_true rfl) (Nat.le_of_ble_eq_true rfl) ?_
      refine zr_icmpeq (tgt := 1513) hX dL_law_359 rfl h (fun h => ?_) (fun h => ?_)
      · refine zr_iinc hX dL_law_1513 rfl (Nat.le_of_ble_eq_true rfl) ?_
        refine zr_goto hX dL_law_1516 (tgt := 18) rfl ?_
        exact zW_lf (k_W_law_18 h) (And.intro rfl (And.intro rfl (And.intro rfl (And.intro rfl trivial))))
      · refine zr_iconst hX dL_law_362 (zrl rfl) ?_
        exact zr_lawret hX dL_law_363 hF h
    refine zr_tsw hX 4 dL_law_33 (by decide) (zrl rfl) (t2 := 364) rfl rfl h (fun h => ?_) (fun hs13 h => ?_)
    · refine zr_aload_n hX dL_law_364 rfl rfl ?_
      refine zr_aload_n hX dL_law_365 rfl rfl ?_
      refine zr_iload_n hX dL_law_366 rfl rfl ?_
      refine zr_iconst hX dL_law_367 (zrl rfl) ?_
      refine zr_iadd hX dL_law_368 ?_
      refine zr_scl hX dL_law_369 hSc hNL h (fun h => ?_)
      refine zr_aload_n hX dL_law_370 rfl rfl ?_
      refine zr_iload_n hX dL_law_371 rfl rfl ?_
      refine zr_iconst hX dL_law_372 (zrl rfl) ?_
      refine zr_iadd hX dL_law_373 ?_
      refine zr_scl hX dL_law_374 hSc hNL h (fun h => ?_)
      refine zr_aload_n hX dL_law_375 rfl rfl ?_
      refine zr_iload_n hX dL_law_376 rfl rfl ?_
      refine zr_iconst hX dL_law_377 (zrl rfl) ?_
      refine zr_iadd hX dL_law_378 ?_
      refine zr_scl hX dL_law_379 hSc hNL h (fun h => ?_)
      refine zr_aload_n hX dL_law_380 rfl rfl ?_
      refine zr_iload_n hX dL_law_381 rfl rfl ?_
      refine zr_iconst hX dL_law_382 (zrl rfl) ?_
      refine zr_iadd hX dL_law_383 ?_
      refine zr_scl hX dL_law_384 hSc hNL h (fun h => ?_)
      refine zr_aload_n hX dL_law_385 rfl rfl ?_
      refine zr_iload_n hX dL_law_386 rfl rfl ?_
      refine zr_iconst hX dL_law_387 (zrl rfl) ?_
      refine zr_iadd hX dL_law_388 ?_
      refine zr_scl hX dL_law_389 hSc hNL h (fun h => ?_)
      refine zP_bind h (fun q14 hq14 h => ?_)
      refine zr_callV hX dL_law_390 (m_X_copy hq14) rfl rfl rfl (z5 ww_291 ww_292 ww_293 ww_70 ww_294) hy_X5_copy rfl (Nat.le_of_ble_eq_true rfl) (Nat.le_of_ble_eq_true rfl) (Nat.le_of_ble_eq_true rfl) ?_
      refine zr_aload_n hX dL_law_393 rfl rfl ?_
      refine zr_aload_n hX dL_law_394 rfl rfl ?_
      refine zr_iload_n hX dL_law_395 rfl rfl ?_
      refine zr_iconst hX dL_law_396 (zrl rfl) ?_
      refine zr_iadd hX dL_law_397 ?_
      refine zr_scl hX dL_law_398 hSc hNL h (fun h => ?_)
      refine zr_aload_n hX dL_law_399 rfl rfl ?_
      refine zr_iload_n hX dL_law_400 rfl rfl ?_
      refine zr_iconst hX dL_law_401 (zrl rfl) ?_
      refine zr_iadd hX dL_law_402 ?_
      refine zr_scl hX dL_law_403 hSc hNL h (fun h => ?_)
      refine zr_aload_n hX dL_law_404 rfl rfl ?_
      refine zr_iload_n hX dL_law_405 rfl rfl ?_
      refine zr_iconst hX dL_law_406 (zrl rfl) ?_
      refine zr_iadd hX dL_law_407 ?_
      refine zr_scl hX dL_law_408 hSc hNL h (fun h => ?_)
      refine zr_aload_n hX dL_law_409 rfl rfl ?_
      refine zr_iload_n hX dL_law_410 rfl rfl ?_
      refine zr_iconst hX dL_law_411 (zrl rfl) ?_
      refine zr_iadd hX dL_law_412 ?_
      refine zr_scl hX dL_law_413 hSc hNL h (fun h => ?_)
      refine zr_aload_n hX dL_law_414 rfl rfl ?_
      refine zr_iload_n hX dL_law_415 rfl rfl ?_
      refine zr_iconst hX dL_law_416 (zrl rfl) ?_
      refine zr_iadd hX dL_law_417 ?_
      refine zr_scl hX dL_law_418 hSc hNL h (fun h => ?_)
      refine zP_bind h (fun q15 hq15 h => ?_)
      refine zr_callV hX dL_law_419 (m_M_copy hq15) rfl rfl rfl (z5 ww_942 ww_943 ww_944 ww_77 ww_945) hy_X6_copy rfl (Nat.le_of_ble_eq_true rfl) (Nat.le_of_ble_eq_true rfl) (Nat.le_of_ble_eq_true rfl) ?_
      refine zr_icmpeq (tgt := 1513) hX dL_law_422 rfl h (fun h => ?_) (fun h => ?_)
      · refine zr_iinc hX dL_law_1513 rfl (Nat.le_of_ble_eq_true rfl) ?_
        refine zr_goto hX dL_law_1516 (tgt := 18) rfl ?_
        exact zW_lf (k_W_law_18 h) (And.intro rfl (And.intro rfl (And.intro rfl (And.intro rfl trivial))))
      · refine zr_iconst hX dL_law_425 (zrl rfl) ?_
        exact zr_lawret hX dL_law_426 hF h
    refine zr_tsw hX 5 dL_law_33 (by decide) (zrl rfl) (t2 := 427) rfl rfl h (fun h => ?_) (fun hs16 h => ?_)
    · refine zr_aload_n hX dL_law_427 rfl rfl ?_
      refine zr_aload_n hX dL_law_428 rfl rfl ?_
      refine zr_iload_n hX dL_law_429 rfl rfl ?_
      refine zr_iconst hX dL_law_430 (zrl rfl) ?_
      refine zr_iadd hX dL_law_431 ?_
      refine zr_scl hX dL_law_432 hSc hNL h (fun h => ?_)
      refine zP_bind h (fun q17 hq17 h => ?_)
      refine zr_callV hX dL_law_433 (m_X_mean hq17) rfl rfl rfl (z5 ww_307 ww_308 ww_309 ww_70 ww_310) hy_X5_mean rfl (Nat.le_of_ble_eq_true rfl) (Nat.le_of_ble_eq_true rfl) (Nat.le_of_ble_eq_true rfl) ?_
      refine zr_aload_n hX dL_law_436 rfl rfl ?_
      refine zr_aload_n hX dL_law_437 rfl rfl ?_
      refine zr_iload_n hX dL_law_438 rfl rfl ?_
      refine zr_iconst hX dL_law_439 (zrl rfl) ?_
      refine zr_iadd hX dL_law_440 ?_
      refine zr_scl hX dL_law_441 hSc hNL h (fun h => ?_)
      refine zP_bind h (fun q18 hq18 h => ?_)
      refine zr_callV hX dL_law_442 (m_M_mean hq18) rfl rfl rfl (z5 ww_949 ww_950 ww_951 ww_77 ww_952) hy_X6_mean rfl (Nat.le_of_ble_eq_true rfl) (Nat.le_of_ble_eq_true rfl) (Nat.le_of_ble_eq_true rfl) ?_
      refine zr_icmpeq (tgt := 1513) hX dL_law_445 rfl h (fun h => ?_) (fun h => ?_)
      · refine zr_iinc hX dL_law_1513 rfl (Nat.le_of_ble_eq_true rfl) ?_
        refine zr_goto hX dL_law_1516 (tgt := 18) rfl ?_
        exact zW_lf (k_W_law_18 h) (And.intro rfl (And.intro rfl (And.intro rfl (And.intro rfl trivial))))
      · refine zr_iconst hX dL_law_448 (zrl rfl) ?_
        exact zr_lawret hX dL_law_449 hF h
    refine zr_tsw hX 6 dL_law_33 (by decide) (zrl rfl) (t2 := 450) rfl rfl h (fun h => ?_) (fun hs19 h => ?_)
    · refine zr_aload_n hX dL_law_450 rfl rfl ?_
      refine zr_aload_n hX dL_law_451 rfl rfl ?_
      refine zr_iload_n hX dL_law_452 rfl rfl ?_
      refine zr_iconst hX dL_law_453 (zrl rfl) ?_
      refine zr_iadd hX dL_law_454 ?_
      refine zr_scl hX dL_law_455 hSc hNL h (fun h => ?_)
      refine zr_aload_n hX dL_law_456 rfl rfl ?_
      refine zr_iload_n hX dL_law_457 rfl rfl ?_
      refine zr_iconst hX dL_law_458 (zrl rfl) ?_
      refine zr_iadd hX dL_law_459 ?_
      refine zr_scl hX dL_law_460 hSc hNL h (fun h => ?_)
      refine zP_bind h (fun q20 hq20 h => ?_)
      refine zr_callV hX dL_law_461 (m_X_text hq20) rfl rfl rfl (z5 ww_317 ww_318 ww_319 ww_70 ww_320) hy_X5_text rfl (Nat.le_of_ble_eq_true rfl) (Nat.le_of_ble_eq_true rfl) (Nat.le_of_ble_eq_true rfl) ?_
      refine zr_aload_n hX dL_law_464 rfl rfl ?_
      refine zr_aload_n hX dL_law_465 rfl rfl ?_
      refine zr_iload_n hX dL_law_466 rfl rfl ?_
      refine zr_iconst hX dL_law_467 (zrl rfl) ?_
      refine zr_iadd hX dL_law_468 ?_
      refine zr_scl hX dL_law_469 hSc hNL h (fun h => ?_)
      refine zr_aload_n hX dL_law_470 rfl rfl ?_
      refine zr_iload_n hX dL_law_471 rfl rfl ?_
      refine zr_iconst hX dL_law_472 (zrl rfl) ?_
      refine zr_iadd hX dL_law_473 ?_
      refine zr_scl hX dL_law_474 hSc hNL h (fun h => ?_)
      refine zP_bind h (fun q21 hq21 h => ?_)
      refine zr_callV hX dL_law_475 (m_M_text hq21) rfl rfl rfl (z5 ww_953 ww_954 ww_955 ww_77 ww_956) hy_X6_text rfl (Nat.le_of_ble_eq_true rfl) (Nat.le_of_ble_eq_true rfl) (Nat.le_of_ble_eq_true rfl) ?_
      refine zr_icmpeq (tgt := 1513) hX dL_law_478 rfl h (fun h => ?_) (fun h => ?_)
      · refine zr_iinc hX dL_law_1513 rfl (Nat.le_of_ble_eq_true rfl) ?_
        refine zr_goto hX dL_law_1516 (tgt := 18) rfl ?_
        exact zW_lf (k_W_law_18 h) (And.intro rfl (And.intro rfl (And.intro rfl (And.intro rfl trivial))))
      · refine zr_iconst hX dL_law_481 (zrl rfl) ?_
        exact zr_lawret hX dL_law_482 hF h
    refine zr_tsw hX 7 dL_law_33 (by decide) (zrl rfl) (t2 := 483) rfl rfl h (fun h => ?_) (fun hs22 h => ?_)
    · refine zr_aload_n hX dL_law_483 rfl rfl ?_
      refine zr_aload_n hX dL_law_484 rfl rfl ?_
      refine zr_iload_n hX dL_law_485 rfl rfl ?_
      refine zr_iconst hX dL_law_486 (zrl rfl) ?_
      refine zr_iadd hX dL_law_487 ?_
      refine zr_scl hX dL_law_488 hSc hNL h (fun h => ?_)
      refine zr_aload_n hX dL_law_489 rfl rfl ?_
      refine zr_iload_n hX dL_law_490 rfl rfl ?_
      refine zr_iconst hX dL_law_491 (zrl rfl) ?_
      refine zr_iadd hX dL_law_492 ?_
      refine zr_scl hX dL_law_493 hSc hNL h (fun h => ?_)
      refine zr_aload_n hX dL_law_494 rfl rfl ?_
      refine zr_iload_n hX dL_law_495 rfl rfl ?_
      refine zr_iconst hX dL_law_496 (zrl rfl) ?_
      refine zr_iadd hX dL_law_497 ?_
      refine zr_scl hX dL_law_498 hSc hNL h (fun h => ?_)
      refine zP_bind h (fun q23 hq23 h => ?_)
      refine zr_callV hX dL_law_499 (m_X_put hq23) rfl rfl rfl (z5 ww_321 ww_322 ww_323 ww_70 ww_324) hy_X5_put rfl (Nat.le_of_ble_eq_true rfl) (Nat.le_of_ble_eq_true rfl) (Nat.le_of_ble_eq_true rfl) ?_
      refine zr_aload_n hX dL_law_502 rfl rfl ?_
      refine zr_aload_n hX dL_law_503 rfl rfl ?_
      refine zr_iload_n hX dL_law_504 rfl rfl ?_
      refine zr_iconst hX dL_law_505 (zrl rfl) ?_
      refine zr_iadd hX dL_law_506 ?_
      refine zr_scl hX dL_law_507 hSc hNL h (fun h => ?_)
      refine zr_aload_n hX dL_law_508 rfl rfl ?_
      refine zr_iload_n hX dL_law_509 rfl rfl ?_
      refine zr_iconst hX dL_law_510 (zrl rfl) ?_
      refine zr_iadd hX dL_law_511 ?_
      refine zr_scl hX dL_law_512 hSc hNL h (fun h => ?_)
      refine zr_aload_n hX dL_law_513 rfl rfl ?_
      refine zr_iload_n hX dL_law_514 rfl rfl ?_
      refine zr_iconst hX dL_law_515 (zrl rfl) ?_
      refine zr_iadd hX dL_law_516 ?_
      refine zr_scl hX dL_law_517 hSc hNL h (fun h => ?_)
      refine zP_bind h (fun q24 hq24 h => ?_)
      refine zr_callV hX dL_law_518 (m_M_put hq24) rfl rfl rfl (z5 ww_961 ww_962 ww_963 ww_77 ww_964) hy_X6_put rfl (Nat.le_of_ble_eq_true rfl) (Nat.le_of_ble_eq_true rfl) (Nat.le_of_ble_eq_true rfl) ?_
      refine zr_icmpeq (tgt := 1513) hX dL_law_521 rfl h (fun h => ?_) (fun h => ?_)
      · refine zr_iinc hX dL_law_1513 rfl (Nat.le_of_ble_eq_true rfl) ?_
        refine zr_goto hX dL_law_1516 (tgt := 18) rfl ?_
        exact zW_lf (k_W_law_18 h) (And.intro rfl (And.intro rfl (And.intro rfl (And.intro rfl trivial))))
      · refine zr_iconst hX dL_law_524 (zrl rfl) ?_
        exact zr_lawret hX dL_law_525 hF h
    refine zr_tsw hX 8 dL_law_33 (by decide) (zrl rfl) (t2 := 526) rfl rfl h (fun h => ?_) (fun hs25 h => ?_)
    · refine zr_aload_n hX dL_law_526 rfl rfl ?_
      refine zr_aload_n hX dL_law_527 rfl rfl ?_
      refine zr_iload_n hX dL_law_528 rfl rfl ?_
      refine zr_iconst hX dL_law_529 (zrl rfl) ?_
      refine zr_iadd hX dL_law_530 ?_
      refine zr_scl hX dL_law_531 hSc hNL h (fun h => ?_)
      refine zP_bind h (fun q26 hq26 h => ?_)
      refine zr_callV hX dL_law_532 (m_X_fault hq26) rfl rfl rfl (z5 ww_325 ww_326 ww_327 ww_70 ww_328) hy_X5_fault rfl (Nat.le_of_ble_eq_true rfl) (Nat.le_of_ble_eq_true rfl) (Nat.le_of_ble_eq_true rfl) ?_
      refine zr_aload_n hX dL_law_535 rfl rfl ?_
      refine zr_aload_n hX dL_law_536 rfl rfl ?_
      refine zr_iload_n hX dL_law_537 rfl rfl ?_
      refine zr_iconst hX dL_law_538 (zrl rfl) ?_
      refine zr_iadd hX dL_law_539 ?_
      refine zr_scl hX dL_law_540 hSc hNL h (fun h => ?_)
      refine zP_bind h (fun q27 hq27 h => ?_)
      refine zr_callV hX dL_law_541 (m_M_fault hq27) rfl rfl rfl (z5 ww_965 ww_966 ww_967 ww_77 ww_968) hy_X6_fault rfl (Nat.le_of_ble_eq_true rfl) (Nat.le_of_ble_eq_true rfl) (Nat.le_of_ble_eq_true rfl) ?_
      refine zr_icmpeq (tgt := 1513) hX dL_law_544 rfl h (fun h => ?_) (fun h => ?_)
      · refine zr_iinc hX dL_law_1513 rfl (Nat.le_of_ble_eq_true rfl) ?_
        refine zr_goto hX dL_law_1516 (tgt := 18) rfl ?_
        exact zW_lf (k_W_law_18 h) (And.intro rfl (And.intro rfl (And.intro rfl (And.intro rfl trivial))))
      · refine zr_iconst hX dL_law_547 (zrl rfl) ?_
        exact zr_lawret hX dL_law_548 hF h
    refine zr_tsw hX 9 dL_law_33 (by decide) (zrl rfl) (t2 := 549) rfl rfl h (fun h => ?_) (fun hs28 h => ?_)
    · refine zr_aload_n hX dL_law_549 rfl rfl ?_
      refine zr_aload_n hX dL_law_550 rfl rfl ?_
      refine zr_iload_n hX dL_law_551 rfl rfl ?_
      refine zr_iconst hX dL_law_552 (zrl rfl) ?_
      refine zr_iadd hX dL_law_553 ?_
      refine zr_scl hX dL_law_554 hSc hNL h (fun h => ?_)
      refine zP_bind h (fun q29 hq29 h => ?_)
      refine zr_callV hX dL_law_555 (m_X_rock hq29) rfl rfl rfl (z5 ww_378 ww_379 ww_380 ww_70 ww_381) hy_X5_rock rfl (Nat.le_of_ble_eq_true rfl) (Nat.le_of_ble_eq_true rfl) (Nat.le_of_ble_eq_true rfl) ?_
      refine zr_aload_n hX dL_law_558 rfl rfl ?_
      refine zr_aload_n hX dL_law_559 rfl rfl ?_
      refine zr_iload_n hX dL_law_560 rfl rfl ?_
      refine zr_iconst hX dL_law_561 (zrl rfl) ?_
      refine zr_iadd hX dL_law_562 ?_
      refine zr_scl hX dL_law_563 hSc hNL h (fun h => ?_)
      refine zP_bind h (fun q30 hq30 h => ?_)
      refine zr_callV hX dL_law_564 (m_M_rock hq30) rfl rfl rfl (z5 ww_990 ww_991 ww_992 ww_77 ww_993) hy_X6_rock rfl (Nat.le_of_ble_eq_true rfl) (Nat.le_of_ble_eq_true rfl) (Nat.le_of_ble_eq_true rfl) ?_
      refine zr_icmpeq (tgt := 1513) hX dL_law_567 rfl h (fun h => ?_) (fun h => ?_)
      · refine zr_iinc hX dL_law_1513 rfl (Nat.le_of_ble_eq_true rfl) ?_
        refine zr_goto hX dL_law_1516 (tgt := 18) rfl ?_
        exact zW_lf (k_W_law_18 h) (And.intro rfl (And.intro rfl (And.intro rfl (And.intro rfl trivial))))
      · refine zr_iconst hX dL_law_570 (zrl rfl) ?_
        exact zr_lawret hX dL_law_571 hF h
    refine zr_tsw hX 10 dL_law_33 (by decide) (zrl rfl) (t2 := 572) rfl rfl h (fun h => ?_) (fun hs31 h => ?_)
    · refine zr_aload_n hX dL_law_572 rfl rfl ?_
      refine zr_aload_n hX dL_law_573 rfl rfl ?_
      refine zr_iload_n hX dL_law_574 rfl rfl ?_
      refine zr_iconst hX dL_law_575 (zrl rfl) ?_
      refine zr_iadd hX dL_law_576 ?_
      refine zr_scl hX dL_law_577 hSc hNL h (fun h => ?_)
      refine zP_bind h (fun q32 hq32 h => ?_)
      refine zr_callV hX dL_law_578 (m_X_tower hq32) rfl rfl rfl (z5 ww_417 ww_418 ww_419 ww_70 ww_420) hy_X5_tower rfl (Nat.le_of_ble_eq_true rfl) (Nat.le_of_ble_eq_true rfl) (Nat.le_of_ble_eq_true rfl) ?_
      refine zr_aload_n hX dL_law_581 rfl rfl ?_
      refine zr_aload_n hX dL_law_582 rfl rfl ?_
      refine zr_iload_n hX dL_law_583 rfl rfl ?_
      refine zr_iconst hX dL_law_584 (zrl rfl) ?_
      refine zr_iadd hX dL_law_585 ?_
      refine zr_scl hX dL_law_586 hSc hNL h (fun h => ?_)
      refine zP_bind h (fun q33 hq33 h => ?_)
      refine zr_callV hX dL_law_587 (m_M_tower hq33) rfl rfl rfl (z5 ww_998 ww_999 ww_1000 ww_77 ww_1001) hy_X6_tower rfl (Nat.le_of_ble_eq_true rfl) (Nat.le_of_ble_eq_true rfl) (Nat.le_of_ble_eq_true rfl) ?_
      refine zr_icmpeq (tgt := 1513) hX dL_law_590 rfl h (fun h => ?_) (fun h => ?_)
      · refine zr_iinc hX dL_law_1513 rfl (Nat.le_of_ble_eq_true rfl) ?_
        refine zr_goto hX dL_law_1516 (tgt := 18) rfl ?_
        exact zW_lf (k_W_law_18 h) (And.intro rfl (And.intro rfl (And.intro rfl (And.intro rfl trivial))))
      · refine zr_iconst hX dL_law_593 (zrl rfl) ?_
        exact zr_lawret hX dL_law_594 hF h
    refine zr_tsw hX 11 dL_law_33 (by decide) (zrl rfl) (t2 := 595) rfl rfl h (fun h => ?_) (fun hs34 h => ?_)
    · refine zr_aload_n hX dL_law_595 rfl rfl ?_
      refine zr_aload_n hX dL_law_596 rfl rfl ?_
      refine zr_iload_n hX dL_law_597 rfl rfl ?_
      refine zr_iconst hX dL_law_598 (zrl rfl) ?_
      refine zr_iadd hX dL_law_599 ?_
      refine zr_scl hX dL_law_600 hSc hNL h (fun h => ?_)
      refine zr_aload_n hX dL_law_601 rfl rfl ?_
      refine zr_iload_n hX dL_law_602 rfl rfl ?_
      refine zr_iconst hX dL_law_603 (zrl rfl) ?_
      refine zr_iadd hX dL_law_604 ?_
      refine zr_scl hX dL_law_605 hSc hNL h (fun h => ?_)
      refine zr_aload_n hX dL_law_606 rfl rfl ?_
      refine zr_iload_n hX dL_law_607 rfl rfl ?_
      refine zr_iconst hX dL_law_608 (zrl rfl) ?_
      refine zr_iadd hX dL_law_609 ?_
      refine zr_scl hX dL_law_610 hSc hNL h (fun h => ?_)
      refine zP_bind h (fun q35 hq35 h => ?_)
      refine zr_callV hX dL_law_611 (m_X_house hq35) rfl rfl rfl (z5 ww_423 ww_424 ww_425 ww_70 ww_426) hy_X5_house rfl (Nat.le_of_ble_eq_true rfl) (Nat.le_of_ble_eq_true rfl) (Nat.le_of_ble_eq_true rfl) ?_
      refine zr_aload_n hX dL_law_614 rfl rfl ?_
      refine zr_aload_n hX dL_law_615 rfl rfl ?_
      refine zr_iload_n hX dL_law_616 rfl rfl ?_
      refine zr_iconst hX dL_law_617 (zrl rfl) ?_
      refine zr_iadd hX dL_law_618 ?_
      refine zr_scl hX dL_law_619 hSc hNL h (fun h => ?_)
      refine zr_aload_n hX dL_law_620 rfl rfl ?_
      refine zr_iload_n hX dL_law_621 rfl rfl ?_
      refine zr_iconst hX dL_law_622 (zrl rfl) ?_
      refine zr_iadd hX dL_law_623 ?_
      refine zr_scl hX dL_law_624 hSc hNL h (fun h => ?_)
      refine zr_aload_n hX dL_law_625 rfl rfl ?_
      refine zr_iload_n hX dL_law_626 rfl rfl ?_
      refine zr_iconst hX dL_law_627 (zrl rfl) ?_
      refine zr_iadd hX dL_law_628 ?_
      refine zr_scl hX dL_law_629 hSc hNL h (fun h => ?_)
      refine zP_bind h (fun q36 hq36 h => ?_)
      refine zr_callV hX dL_law_630 (m_M_house hq36) rfl rfl rfl (z5 ww_1006 ww_1007 ww_1008 ww_77 ww_1009) hy_X6_house rfl (Nat.le_of_ble_eq_true rfl) (Nat.le_of_ble_eq_true rfl) (Nat.le_of_ble_eq_true rfl) ?_
      refine zr_icmpeq (tgt := 1513) hX dL_law_633 rfl h (fun h => ?_) (fun h => ?_)
      · refine zr_iinc hX dL_law_1513 rfl (Nat.le_of_ble_eq_true rfl) ?_
        refine zr_goto hX dL_law_1516 (tgt := 18) rfl ?_
        exact zW_lf (k_W_law_18 h) (And.intro rfl (And.intro rfl (And.intro rfl (And.intro rfl trivial))))
      · refine zr_iconst hX dL_law_636 (zrl rfl) ?_
        exact zr_lawret hX dL_law_637 hF h
    refine zr_tsw hX 12 dL_law_33 (by decide) (zrl rfl) (t2 := 638) rfl rfl h (fun h => ?_) (fun hs37 h => ?_)
    · refine zr_aload_n hX dL_law_638 rfl rfl ?_
      refine zr_aload_n hX dL_law_639 rfl rfl ?_
      refine zr_iload_n hX dL_law_640 rfl rfl ?_
      refine zr_iconst hX dL_law_641 (zrl rfl) ?_
      refine zr_iadd hX dL_law_642 ?_
      refine zr_scl hX dL_law_643 hSc hNL h (fun h => ?_)
      refine zr_aload_n hX dL_law_644 rfl rfl ?_
      refine zr_iload_n hX dL_law_645 rfl rfl ?_
      refine zr_iconst hX dL_law_646 (zrl rfl) ?_
      refine zr_iadd hX dL_law_647 ?_
      refine zr_scl hX dL_law_648 hSc hNL h (fun h => ?_)
      refine zr_aload_n hX dL_law_649 rfl rfl ?_
      refine zr_iload_n hX dL_law_650 rfl rfl ?_
      refine zr_iconst hX dL_law_651 (zrl rfl) ?_
      refine zr_iadd hX dL_law_652 ?_
      refine zr_scl hX dL_law_653 hSc hNL h (fun h => ?_)
      refine zP_bind h (fun q38 hq38 h => ?_)
      refine zr_callV hX dL_law_654 (m_X_mark hq38) rfl rfl rfl (z5 ww_519 ww_520 ww_521 ww_70 ww_522) hy_X5_mark rfl (Nat.le_of_ble_eq_true rfl) (Nat.le_of_ble_eq_true rfl) (Nat.le_of_ble_eq_true rfl) ?_
      refine zr_aload_n hX dL_law_657 rfl rfl ?_
      refine zr_aload_n hX dL_law_658 rfl rfl ?_
      refine zr_iload_n hX dL_law_659 rfl rfl ?_
      refine zr_iconst hX dL_law_660 (zrl rfl) ?_
      refine zr_iadd hX dL_law_661 ?_
      refine zr_scl hX dL_law_662 hSc hNL h (fun h => ?_)
      refine zr_aload_n hX dL_law_663 rfl rfl ?_
      refine zr_iload_n hX dL_law_664 rfl rfl ?_
      refine zr_iconst hX dL_law_665 (zrl rfl) ?_
      refine zr_iadd hX dL_law_666 ?_
      refine zr_scl hX dL_law_667 hSc hNL h (fun h => ?_)
      refine zr_aload_n hX dL_law_668 rfl rfl ?_
      refine zr_iload_n hX dL_law_669 rfl rfl ?_
      refine zr_iconst hX dL_law_670 (zrl rfl) ?_
      refine zr_iadd hX dL_law_671 ?_
      refine zr_scl hX dL_law_672 hSc hNL h (fun h => ?_)
      refine zP_bind h (fun q39 hq39 h => ?_)
      refine zr_callV hX dL_law_673 (m_M_mark hq39) rfl rfl rfl (z5 ww_1105 ww_1106 ww_1107 ww_77 ww_1108) hy_X6_mark rfl (Nat.le_of_ble_eq_true rfl) (Nat.le_of_ble_eq_true rfl) (Nat.le_of_ble_eq_true rfl) ?_
      refine zr_icmpeq (tgt := 1513) hX dL_law_676 rfl h (fun h => ?_) (fun h => ?_)
      · refine zr_iinc hX dL_law_1513 rfl (Nat.le_of_ble_eq_true rfl) ?_
        refine zr_goto hX dL_law_1516 (tgt := 18) rfl ?_
        exact zW_lf (k_W_law_18 h) (And.intro rfl (And.intro rfl (And.intro rfl (And.intro rfl trivial))))
      · refine zr_iconst hX dL_law_679 (zrl rfl) ?_
        exact zr_lawret hX dL_law_680 hF h
    refine zr_tsw hX 13 dL_law_33 (by decide) (zrl rfl) (t2 := 681) rfl rfl h (fun h => ?_) (fun hs40 h => ?_)
    · refine zr_aload_n hX dL_law_681 rfl rfl ?_
      refine zr_aload_n hX dL_law_682 rfl rfl ?_
      refine zr_iload_n hX dL_law_683 rfl rfl ?_
      refine zr_iconst hX dL_law_684 (zrl rfl) ?_
      refine zr_iadd hX dL_law_685 ?_
      refine zr_scl hX dL_law_686 hSc hNL h (fun h => ?_)
      refine zr_aload_n hX dL_law_687 rfl rfl ?_
      refine zr_iload_n hX dL_law_688 rfl rfl ?_
      refine zr_iconst hX dL_law_689 (zrl rfl) ?_
      refine zr_iadd hX dL_law_690 ?_
      refine zr_scl hX dL_law_691 hSc hNL h (fun h => ?_)
      refine zr_aload_n hX dL_law_692 rfl rfl ?_
      refine zr_iload_n hX dL_law_693 rfl rfl ?_
      refine zr_iconst hX dL_law_694 (zrl rfl) ?_
      refine zr_iadd hX dL_law_695 ?_
      refine zr_scl hX dL_law_696 hSc hNL h (fun h => ?_)
      refine zP_bind h (fun q41 hq41 h => ?_)
      refine zr_callV hX dL_law_697 (m_X_bear hq41) rfl rfl rfl (z5 ww_552 ww_553 ww_554 ww_70 ww_555) hy_X5_bear rfl (Nat.le_of_ble_eq_true rfl) (Nat.le_of_ble_eq_true rfl) (Nat.le_of_ble_eq_true rfl) ?_
      refine zr_aload_n hX dL_law_700 rfl rfl ?_
      refine zr_aload_n hX dL_law_701 rfl rfl ?_
      refine zr_iload_n hX dL_law_702 rfl rfl ?_
      refine zr_iconst hX dL_law_703 (zrl rfl) ?_
      refine zr_iadd hX dL_law_704 ?_
      refine zr_scl hX dL_law_705 hSc hNL h (fun h => ?_)
      refine zr_aload_n hX dL_law_706 rfl rfl ?_
      refine zr_iload_n hX dL_law_707 rfl rfl ?_
      refine zr_iconst hX dL_law_708 (zrl rfl) ?_
      refine zr_iadd hX dL_law_709 ?_
      refine zr_scl hX dL_law_710 hSc hNL h (fun h => ?_)
      refine zr_aload_n hX dL_law_711 rfl rfl ?_
      refine zr_iload_n hX dL_law_712 rfl rfl ?_
      refine zr_iconst hX dL_law_713 (zrl rfl) ?_
      refine zr_iadd hX dL_law_714 ?_
      refine zr_scl hX dL_law_715 hSc hNL h (fun h => ?_)
      refine zP_bind h (fun q42 hq42 h => ?_)
      refine zr_callV hX dL_law_716 (m_M_bear hq42) rfl rfl rfl (z5 ww_1123 ww_1124 ww_1125 ww_77 ww_1126) hy_X6_bear rfl (Nat.le_of_ble_eq_true rfl) (Nat.le_of_ble_eq_true rfl) (Nat.le_of_ble_eq_true rfl) ?_
      refine zr_icmpeq (tgt := 1513) hX dL_law_719 rfl h (fun h => ?_) (fun h => ?_)
      · refine zr_iinc hX dL_law_1513 rfl (Nat.le_of_ble_eq_true rfl) ?_
        refine zr_goto hX dL_law_1516 (tgt := 18) rfl ?_
        exact zW_lf (k_W_law_18 h) (And.intro rfl (And.intro rfl (And.intro rfl (And.intro rfl trivial))))
      · refine zr_iconst hX dL_law_722 (zrl rfl) ?_
        exact zr_lawret hX dL_law_723 hF h
    refine zr_tsw hX 14 dL_law_33 (by decide) (zrl rfl) (t2 := 724) rfl rfl h (fun h => ?_) (fun hs43 h => ?_)
    · refine zr_aload_n hX dL_law_724 rfl rfl ?_
      refine zr_aload_n hX dL_law_725 rfl rfl ?_
      refine zr_iload_n hX dL_law_726 rfl rfl ?_
      refine zr_iconst hX dL_law_727 (zrl rfl) ?_
      refine zr_iadd hX dL_law_728 ?_
      refine zr_scl hX dL_law_729 hSc hNL h (fun h => ?_)
      refine zr_aload_n hX dL_law_730 rfl rfl ?_
      refine zr_iload_n hX dL_law_731 rfl rfl ?_
      refine zr_iconst hX dL_law_732 (zrl rfl) ?_
      refine zr_iadd hX dL_law_733 ?_
      refine zr_scl hX dL_law_734 hSc hNL h (fun h => ?_)
      refine zr_aload_n hX dL_law_735 rfl rfl ?_
      refine zr_iload_n hX dL_law_736 rfl rfl ?_
      refine zr_iconst hX dL_law_737 (zrl rfl) ?_
      refine zr_iadd hX dL_law_738 ?_
      refine zr_scl hX dL_law_739 hSc hNL h (fun h => ?_)
      refine zP_bind h (fun q44 hq44 h => ?_)
      refine zr_callV hX dL_law_740 (m_X_build hq44) rfl rfl rfl (z5 ww_556 ww_557 ww_558 ww_70 ww_559) hy_X5_build rfl (Nat.le_of_ble_eq_true rfl) (Nat.le_of_ble_eq_true rfl) (Nat.le_of_ble_eq_true rfl) ?_
      refine zr_aload_n hX dL_law_743 rfl rfl ?_
      refine zr_aload_n hX dL_law_744 rfl rfl ?_
      refine zr_iload_n hX dL_law_745 rfl rfl ?_
      refine zr_iconst hX dL_law_746 (zrl rfl) ?_
      refine zr_iadd hX dL_law_747 ?_
      refine zr_scl hX dL_law_748 hSc hNL h (fun h => ?_)
      refine zr_aload_n hX dL_law_749 rfl rfl ?_
      refine zr_iload_n hX dL_law_750 rfl rfl ?_
      refine zr_iconst hX dL_law_751 (zrl rfl) ?_
      refine zr_iadd hX dL_law_752 ?_
      refine zr_scl hX dL_law_753 hSc hNL h (fun h => ?_)
      refine zr_aload_n hX dL_law_754 rfl rfl ?_
      refine zr_iload_n hX dL_law_755 rfl rfl ?_
      refine zr_iconst hX dL_law_756 (zrl rfl) ?_
      refine zr_iadd hX dL_law_757 ?_
      refine zr_scl hX dL_law_758 hSc hNL h (fun h => ?_)
      refine zP_bind h (fun q45 hq45 h => ?_)
      refine zr_callV hX dL_law_759 (m_M_build hq45) rfl rfl rfl (z5 ww_1128 ww_1129 ww_1130 ww_77 ww_1131) hy_X6_build rfl (Nat.le_of_ble_eq_true rfl) (Nat.le_of_ble_eq_true rfl) (Nat.le_of_ble_eq_true rfl) ?_
      refine zr_icmpeq (tgt := 1513) hX dL_law_762 rfl h (fun h => ?_) (fun h => ?_)
      · refine zr_iinc hX dL_law_1513 rfl (Nat.le_of_ble_eq_true rfl) ?_
        refine zr_goto hX dL_law_1516 (tgt := 18) rfl ?_
        exact zW_lf (k_W_law_18 h) (And.intro rfl (And.intro rfl (And.intro rfl (And.intro rfl trivial))))
      · refine zr_iconst hX dL_law_765 (zrl rfl) ?_
        exact zr_lawret hX dL_law_766 hF h
    refine zr_tsw hX 15 dL_law_33 (by decide) (zrl rfl) (t2 := 767) rfl rfl h (fun h => ?_) (fun hs46 h => ?_)
    · refine zr_aload_n hX dL_law_767 rfl rfl ?_
      refine zr_aload_n hX dL_law_768 rfl rfl ?_
      refine zr_iload_n hX dL_law_769 rfl rfl ?_
      refine zr_iconst hX dL_law_770 (zrl rfl) ?_
      refine zr_iadd hX dL_law_771 ?_
      refine zr_scl hX dL_law_772 hSc hNL h (fun h => ?_)
      refine zr_aload_n hX dL_law_773 rfl rfl ?_
      refine zr_iload_n hX dL_law_774 rfl rfl ?_
      refine zr_iconst hX dL_law_775 (zrl rfl) ?_
      refine zr_iadd hX dL_law_776 ?_
      refine zr_scl hX dL_law_777 hSc hNL h (fun h => ?_)
      refine zP_bind h (fun q47 hq47 h => ?_)
      refine zr_callV hX dL_law_778 (m_X_leave hq47) rfl rfl rfl (z5 ww_574 ww_575 ww_576 ww_70 ww_577) hy_X5_leave rfl (Nat.le_of_ble_eq_true rfl) (Nat.le_of_ble_eq_true rfl) (Nat.le_of_ble_eq_true rfl) ?_
      refine zr_aload_n hX dL_law_781 rfl rfl ?_
      refine zr_aload_n hX dL_law_782 rfl rfl ?_
      refine zr_iload_n hX dL_law_783 rfl rfl ?_
      refine zr_iconst hX dL_law_784 (zrl rfl) ?_
      refine zr_iadd hX dL_law_785 ?_
      refine zr_scl hX dL_law_786 hSc hNL h (fun h => ?_)
      refine zr_aload_n hX dL_law_787 rfl rfl ?_
      refine zr_iload_n hX dL_law_788 rfl rfl ?_
      refine zr_iconst hX dL_law_789 (zrl rfl) ?_
      refine zr_iadd hX dL_law_790 ?_
      refine zr_scl hX dL_law_791 hSc hNL h (fun h => ?_)
      refine zP_bind h (fun q48 hq48 h => ?_)
      refine zr_callV hX dL_law_792 (m_M_leave hq48) rfl rfl rfl (z5 ww_1140 ww_1141 ww_1142 ww_77 ww_1143) hy_X6_leave rfl (Nat.le_of_ble_eq_true rfl) (Nat.le_of_ble_eq_true rfl) (Nat.le_of_ble_eq_true rfl) ?_
      refine zr_icmpeq (tgt := 1513) hX dL_law_795 rfl h (fun h => ?_) (fun h => ?_)
      · refine zr_iinc hX dL_law_1513 rfl (Nat.le_of_ble_eq_true rfl) ?_
        refine zr_goto hX dL_law_1516 (tgt := 18) rfl ?_
        exact zW_lf (k_W_law_18 h) (And.intro rfl (And.intro rfl (And.intro rfl (And.intro rfl trivial))))
      · refine zr_iconst hX dL_law_798 (zrl rfl) ?_
        exact zr_lawret hX dL_law_799 hF h
    refine zr_tsw hX 16 dL_law_33 (by decide) (zrl rfl) (t2 := 800) rfl rfl h (fun h => ?_) (fun hs49 h => ?_)
    · refine zr_aload_n hX dL_law_800 rfl rfl ?_
      refine zr_aload_n hX dL_law_801 rfl rfl ?_
      refine zr_iload_n hX dL_law_802 rfl rfl ?_
      refine zr_iconst hX dL_law_803 (zrl rfl) ?_
      refine zr_iadd hX dL_law_804 ?_
      refine zr_scl hX dL_law_805 hSc hNL h (fun h => ?_)
      refine zP_bind h (fun q50 hq50 h => ?_)
      refine zr_callV hX dL_law_806 (m_X_undo hq50) rfl rfl rfl (z5 ww_582 ww_583 ww_584 ww_70 ww_585) hy_X5_undo rfl (Nat.le_of_ble_eq_true rfl) (Nat.le_of_ble_eq_true rfl) (Nat.le_of_ble_eq_true rfl) ?_
      refine zr_aload_n hX dL_law_809 rfl rfl ?_
      refine zr_aload_n hX dL_law_810 rfl rfl ?_
      refine zr_iload_n hX dL_law_811 rfl rfl ?_
      refine zr_iconst hX dL_law_812 (zrl rfl) ?_
      refine zr_iadd hX dL_law_813 ?_
      refine zr_scl hX dL_law_814 hSc hNL h (fun h => ?_)
      refine zP_bind h (fun q51 hq51 h => ?_)
      refine zr_callV hX dL_law_815 (m_M_undo hq51) rfl rfl rfl (z5 ww_1148 ww_1149 ww_1150 ww_77 ww_1151) hy_X6_undo rfl (Nat.le_of_ble_eq_true rfl) (Nat.le_of_ble_eq_true rfl) (Nat.le_of_ble_eq_true rfl) ?_
      refine zr_icmpeq (tgt := 1513) hX dL_law_818 rfl h (fun h => ?_) (fun h => ?_)
      · refine zr_iinc hX dL_law_1513 rfl (Nat.le_of_ble_eq_true rfl) ?_
        refine zr_goto hX dL_law_1516 (tgt := 18) rfl ?_
        exact zW_lf (k_W_law_18 h) (And.intro rfl (And.intro rfl (And.intro rfl (And.intro rfl trivial))))
      · refine zr_iconst hX dL_law_821 (zrl rfl) ?_
        exact zr_lawret hX dL_law_822 hF h
    refine zr_tsw hX 17 dL_law_33 (by decide) (zrl rfl) (t2 := 823) rfl rfl h (fun h => ?_) (fun hs52 h => ?_)
    · refine zr_aload_n hX dL_law_823 rfl rfl ?_
      refine zr_aload_n hX dL_law_824 rfl rfl ?_
      refine zr_iload_n hX dL_law_825 rfl rfl ?_
      refine zr_iconst hX dL_law_826 (zrl rfl) ?_
      refine zr_iadd hX dL_law_827 ?_
      refine zr_scl hX dL_law_828 hSc hNL h (fun h => ?_)
      refine zP_bind h (fun q53 hq53 h => ?_)
      refine zr_callV hX dL_law_829 (m_X_keep hq53) rfl rfl rfl (z5 ww_598 ww_599 ww_600 ww_70 ww_601) hy_X5_keep rfl (Nat.le_of_ble_eq_true rfl) (Nat.le_of_ble_eq_true rfl) (Nat.le_of_ble_eq_true rfl) ?_
      refine zr_aload_n hX dL_law_832 rfl rfl ?_
      refine zr_aload_n hX dL_law_833 rfl rfl ?_
      refine zr_iload_n hX dL_law_834 rfl rfl ?_
      refine zr_iconst hX dL_law_835 (zrl rfl) ?_
      refine zr_iadd hX dL_law_836 ?_
      refine zr_scl hX dL_law_837 hSc hNL h (fun h => ?_)
      refine zP_bind h (fun q54 hq54 h => ?_)
      refine zr_callV hX dL_law_838 (m_M_keep hq54) rfl rfl rfl (z5 ww_1152 ww_1153 ww_1154 ww_77 ww_1155) hy_X6_keep rfl (Nat.le_of_ble_eq_true rfl) (Nat.le_of_ble_eq_true rfl) (Nat.le_of_ble_eq_true rfl) ?_
      refine zr_icmpeq (tgt := 1513) hX dL_law_841 rfl h (fun h => ?_) (fun h => ?_)
      · refine zr_iinc hX dL_law_1513 rfl (Nat.le_of_ble_eq_true rfl) ?_
        refine zr_goto hX dL_law_1516 (tgt := 18) rfl ?_
        exact zW_lf (k_W_law_18 h) (And.intro rfl (And.intro rfl (And.intro rfl (And.intro rfl trivial))))
      · refine zr_iconst hX dL_law_844 (zrl rfl) ?_
        exact zr_lawret hX dL_law_845 hF h
    refine zr_tsw hX 18 dL_law_33 (by decide) (zrl rfl) (t2 := 846) rfl rfl h (fun h => ?_) (fun hs55 h => ?_)
    · refine zr_aload_n hX dL_law_846 rfl rfl ?_
      refine zr_aload_n hX dL_law_847 rfl rfl ?_
      refine zr_iload_n hX dL_law_848 rfl rfl ?_
      refine zr_iconst hX dL_law_849 (zrl rfl) ?_
      refine zr_iadd hX dL_law_850 ?_
      refine zr_scl hX dL_law_851 hSc hNL h (fun h => ?_)
      refine zP_bind h (fun q56 hq56 h => ?_)
      refine zr_callV hX dL_law_852 (m_X_on hq56) rfl rfl rfl (z5 ww_607 ww_608 ww_609 ww_70 ww_610) hy_X5_on rfl (Nat.le_of_ble_eq_true rfl) (Nat.le_of_ble_eq_true rfl) (Nat.le_of_ble_eq_true rfl) ?_
      refine zr_aload_n hX dL_law_855 rfl rfl ?_
      refine zr_aload_n hX dL_law_856 rfl rfl ?_
      refine zr_iload_n hX dL_law_857 rfl rfl ?_
      refine zr_iconst hX dL_law_858 (zrl rfl) ?_
      refine zr_iadd hX dL_law_859 ?_
      refine zr_scl hX dL_law_860 hSc hNL h (fun h => ?_)
      refine zP_bind h (fun q57 hq57 h => ?_)
      refine zr_callV hX dL_law_861 (m_M_on hq57) rfl rfl rfl (z5 ww_1161 ww_1162 ww_1163 ww_77 ww_1164) hy_X6_on rfl (Nat.le_of_ble_eq_true rfl) (Nat.le_of_ble_eq_true rfl) (Nat.le_of_ble_eq_true rfl) ?_
      refine zr_icmpeq (tgt := 1513) hX dL_law_864 rfl h (fun h => ?_) (fun h => ?_)
      · refine zr_iinc hX dL_law_1513 rfl (Nat.le_of_ble_eq_true rfl) ?_
        refine zr_goto hX dL_law_1516 (tgt := 18) rfl ?_
        exact zW_lf (k_W_law_18 h) (And.intro rfl (And.intro rfl (And.intro rfl (And.intro rfl trivial))))
      · refine zr_iconst hX dL_law_867 (zrl rfl) ?_
        exact zr_lawret hX dL_law_868 hF h
    refine zr_tsw hX 19 dL_law_33 (by decide) (zrl rfl) (t2 := 869) rfl rfl h (fun h => ?_) (fun hs58 h => ?_)
    · refine zr_aload_n hX dL_law_869 rfl rfl ?_
      refine zr_aload_n hX dL_law_870 rfl rfl ?_
      refine zr_iload_n hX dL_law_871 rfl rfl ?_
      refine zr_iconst hX dL_law_872 (zrl rfl) ?_
      refine zr_iadd hX dL_law_873 ?_
      refine zr_scl hX dL_law_874 hSc hNL h (fun h => ?_)
      refine zr_aload_n hX dL_law_875 rfl rfl ?_
      refine zr_iload_n hX dL_law_876 rfl rfl ?_
      refine zr_iconst hX dL_law_877 (zrl rfl) ?_
      refine zr_iadd hX dL_law_878 ?_
      refine zr_scl hX dL_law_879 hSc hNL h (fun h => ?_)
      refine zr_aload_n hX dL_law_880 rfl rfl ?_
      refine zr_iload_n hX dL_law_881 rfl rfl ?_
      refine zr_iconst hX dL_law_882 (zrl rfl) ?_
      refine zr_iadd hX dL_law_883 ?_
      refine zr_scl hX dL_law_884 hSc hNL h (fun h => ?_)
      refine zP_bind h (fun q59 hq59 h => ?_)
      refine zr_callV hX dL_law_885 (m_X_shades hq59) rfl rfl rfl (z5 ww_615 ww_616 ww_617 ww_70 ww_618) hy_X5_shades rfl (Nat.le_of_ble_eq_true rfl) (Nat.le_of_ble_eq_true rfl) (Nat.le_of_ble_eq_true rfl) ?_
      refine zr_aload_n hX dL_law_888 rfl rfl ?_
      refine zr_aload_n hX dL_law_889 rfl rfl ?_
      refine zr_iload_n hX dL_law_890 rfl rfl ?_
      refine zr_iconst hX dL_law_891 (zrl rfl) ?_
      refine zr_iadd hX dL_law_892 ?_
      refine zr_scl hX dL_law_893 hSc hNL h (fun h => ?_)
      refine zr_aload_n hX dL_law_894 rfl rfl ?_
      refine zr_iload_n hX dL_law_895 rfl rfl ?_
      refine zr_iconst hX dL_law_896 (zrl rfl) ?_
      refine zr_iadd hX dL_law_897 ?_
      refine zr_scl hX dL_law_898 hSc hNL h (fun h => ?_)
      refine zr_aload_n hX dL_law_899 rfl rfl ?_
      refine zr_iload_n hX dL_law_900 rfl rfl ?_
      refine zr_iconst hX dL_law_901 (zrl rfl) ?_
      refine zr_iadd hX dL_law_902 ?_
      refine zr_scl hX dL_law_903 hSc hNL h (fun h => ?_)
      refine zP_bind h (fun q60 hq60 h => ?_)
      refine zr_callV hX dL_law_904 (m_M_shades hq60) rfl rfl rfl (z5 ww_1165 ww_1166 ww_1167 ww_77 ww_1168) hy_X6_shades rfl (Nat.le_of_ble_eq_true rfl) (Nat.le_of_ble_eq_true rfl) (Nat.le_of_ble_eq_true rfl) ?_
      refine zr_icmpeq (tgt := 1513) hX dL_law_907 rfl h (fun h => ?_) (fun h => ?_)
      · refine zr_iinc hX dL_law_1513 rfl (Nat.le_of_ble_eq_true rfl) ?_
        refine zr_goto hX dL_law_1516 (tgt := 18) rfl ?_
        exact zW_lf (k_W_law_18 h) (And.intro rfl (And.intro rfl (And.intro rfl (And.intro rfl trivial))))
      · refine zr_iconst hX dL_law_910 (zrl rfl) ?_
        exact zr_lawret hX dL_law_911 hF h
    refine zr_tsw hX 20 dL_law_33 (by decide) (zrl rfl) (t2 := 912) rfl rfl h (fun h => ?_) (fun hs61 h => ?_)
    · refine zr_aload_n hX dL_law_912 rfl rfl ?_
      refine zr_aload_n hX dL_law_913 rfl rfl ?_
      refine zr_iload_n hX dL_law_914 rfl rfl ?_
      refine zr_iconst hX dL_law_915 (zrl rfl) ?_
      refine zr_iadd hX dL_law_916 ?_
      refine zr_scl hX dL_law_917 hSc hNL h (fun h => ?_)
      refine zr_aload_n hX dL_law_918 rfl rfl ?_
      refine zr_iload_n hX dL_law_919 rfl rfl ?_
      refine zr_iconst hX dL_law_920 (zrl rfl) ?_
      refine zr_iadd hX dL_law_921 ?_
      refine zr_scl hX dL_law_922 hSc hNL h (fun h => ?_)
      refine zP_bind h (fun q62 hq62 h => ?_)
      refine zr_callV hX dL_law_923 (m_X_sees hq62) rfl rfl rfl (z5 ww_620 ww_621 ww_622 ww_70 ww_623) hy_X5_sees rfl (Nat.le_of_ble_eq_true rfl) (Nat.le_of_ble_eq_true rfl) (Nat.le_of_ble_eq_true rfl) ?_
      refine zr_aload_n hX dL_law_926 rfl rfl ?_
      refine zr_aload_n hX dL_law_927 rfl rfl ?_
      refine zr_iload_n hX dL_law_928 rfl rfl ?_
      refine zr_iconst hX dL_law_929 (zrl rfl) ?_
      refine zr_iadd hX dL_law_930 ?_
      refine zr_scl hX dL_law_931 hSc hNL h (fun h => ?_)
      refine zr_aload_n hX dL_law_932 rfl rfl ?_
      refine zr_iload_n hX dL_law_933 rfl rfl ?_
      refine zr_iconst hX dL_law_934 (zrl rfl) ?_
      refine zr_iadd hX dL_law_935 ?_
      refine zr_scl hX dL_law_936 hSc hNL h (fun h => ?_)
      refine zP_bind h (fun q63 hq63 h => ?_)
      refine zr_callV hX dL_law_937 (m_M_sees hq63) rfl rfl rfl (z5 ww_1170 ww_1171 ww_1172 ww_77 ww_1173) hy_X6_sees rfl (Nat.le_of_ble_eq_true rfl) (Nat.le_of_ble_eq_true rfl) (Nat.le_of_ble_eq_true rfl) ?_
      refine zr_icmpeq (tgt := 1513) hX dL_law_940 rfl h (fun h => ?_) (fun h => ?_)
      · refine zr_iinc hX dL_law_1513 rfl (Nat.le_of_ble_eq_true rfl) ?_
        refine zr_goto hX dL_law_1516 (tgt := 18) rfl ?_
        exact zW_lf (k_W_law_18 h) (And.intro rfl (And.intro rfl (And.intro rfl (And.intro rfl trivial))))
      · refine zr_iconst hX dL_law_943 (zrl rfl) ?_
        exact zr_lawret hX dL_law_944 hF h
    refine zr_tsw hX 21 dL_law_33 (by decide) (zrl rfl) (t2 := 945) rfl rfl h (fun h => ?_) (fun hs64 h => ?_)
    · refine zr_aload_n hX dL_law_945 rfl rfl ?_
      refine zr_aload_n hX dL_law_946 rfl rfl ?_
      refine zr_iload_n hX dL_law_947 rfl rfl ?_
      refine zr_iconst hX dL_law_948 (zrl rfl) ?_
      refine zr_iadd hX dL_law_949 ?_
      refine zr_scl hX dL_law_950 hSc hNL h (fun h => ?_)
      refine zr_aload_n hX dL_law_951 rfl rfl ?_
      refine zr_iload_n hX dL_law_952 rfl rfl ?_
      refine zr_iconst hX dL_law_953 (zrl rfl) ?_
      refine zr_iadd hX dL_law_954 ?_
      refine zr_scl hX dL_law_955 hSc hNL h (fun h => ?_)
      refine zP_bind h (fun q65 hq65 h => ?_)
      refine zr_callV hX dL_law_956 (m_X_owes hq65) rfl rfl rfl (z5 ww_624 ww_625 ww_626 ww_70 ww_627) hy_X5_owes rfl (Nat.le_of_ble_eq_true rfl) (Nat.le_of_ble_eq_true rfl) (Nat.le_of_ble_eq_true rfl) ?_
      refine zr_aload_n hX dL_law_959 rfl rfl ?_
      refine zr_aload_n hX dL_law_960 rfl rfl ?_
      refine zr_iload_n hX dL_law_961 rfl rfl ?_
      refine zr_iconst hX dL_law_962 (zrl rfl) ?_
      refine zr_iadd hX dL_law_963 ?_
      refine zr_scl hX dL_law_964 hSc hNL h (fun h => ?_)
      refine zr_aload_n hX dL_law_965 rfl rfl ?_
      refine zr_iload_n hX dL_law_966 rfl rfl ?_
      refine zr_iconst hX dL_law_967 (zrl rfl) ?_
      refine zr_iadd hX dL_law_968 ?_
      refine zr_scl hX dL_law_969 hSc hNL h (fun h => ?_)
      refine zP_bind h (fun q66 hq66 h => ?_)
      refine zr_callV hX dL_law_970 (m_M_owes hq66) rfl rfl rfl (z5 ww_1174 ww_1175 ww_1176 ww_77 ww_1177) hy_X6_owes rfl (Nat.le_of_ble_eq_true rfl) (Nat.le_of_ble_eq_true rfl) (Nat.le_of_ble_eq_true rfl) ?_
      refine zr_icmpeq (tgt := 1513) hX dL_law_973 rfl h (fun h => ?_) (fun h => ?_)
      · refine zr_iinc hX dL_law_1513 rfl (Nat.le_of_ble_eq_true rfl) ?_
        refine zr_goto hX dL_law_1516 (tgt := 18) rfl ?_
        exact zW_lf (k_W_law_18 h) (And.intro rfl (And.intro rfl (And.intro rfl (And.intro rfl trivial))))
      · refine zr_iconst hX dL_law_976 (zrl rfl) ?_
        exact zr_lawret hX dL_law_977 hF h
    refine zr_tsw hX 22 dL_law_33 (by decide) (zrl rfl) (t2 := 978) rfl rfl h (fun h => ?_) (fun hs67 h => ?_)
    · refine zr_aload_n hX dL_law_978 rfl rfl ?_
      refine zr_aload_n hX dL_law_979 rfl rfl ?_
      refine zr_iload_n hX dL_law_980 rfl rfl ?_
      refine zr_iconst hX dL_law_981 (zrl rfl) ?_
      refine zr_iadd hX dL_law_982 ?_
      refine zr_scl hX dL_law_983 hSc hNL h (fun h => ?_)
      refine zP_bind h (fun q68 hq68 h => ?_)
      refine zr_callV hX dL_law_984 (m_X_debt hq68) rfl rfl rfl (z5 ww_636 ww_637 ww_638 ww_70 ww_639) hy_X5_debt rfl (Nat.le_of_ble_eq_true rfl) (Nat.le_of_ble_eq_true rfl) (Nat.le_of_ble_eq_true rfl) ?_
      refine zr_aload_n hX dL_law_987 rfl rfl ?_
      refine zr_aload_n hX dL_law_988 rfl rfl ?_
      refine zr_iload_n hX dL_law_989 rfl rfl ?_
      refine zr_iconst hX dL_law_990 (zrl rfl) ?_
      refine zr_iadd hX dL_law_991 ?_
      refine zr_scl hX dL_law_992 hSc hNL h (fun h => ?_)
      refine zP_bind h (fun q69 hq69 h => ?_)
      refine zr_callV hX dL_law_993 (m_M_debt hq69) rfl rfl rfl (z5 ww_1182 ww_1183 ww_1184 ww_77 ww_1185) hy_X6_debt rfl (Nat.le_of_ble_eq_true rfl) (Nat.le_of_ble_eq_true rfl) (Nat.le_of_ble_eq_true rfl) ?_
      refine zr_icmpeq (tgt := 1513) hX dL_law_996 rfl h (fun h => ?_) (fun h => ?_)
      · refine zr_iinc hX dL_law_1513 rfl (Nat.le_of_ble_eq_true rfl) ?_
        refine zr_goto hX dL_law_1516 (tgt := 18) rfl ?_
        exact zW_lf (k_W_law_18 h) (And.intro rfl (And.intro rfl (And.intro rfl (And.intro rfl trivial))))
      · refine zr_iconst hX dL_law_999 (zrl rfl) ?_
        exact zr_lawret hX dL_law_1000 hF h
    refine zr_tsw hX 23 dL_law_33 (by decide) (zrl rfl) (t2 := 1001) rfl rfl h (fun h => ?_) (fun hs70 h => ?_)
    · refine zr_aload_n hX dL_law_1001 rfl rfl ?_
      refine zP_bind h (fun q71 hq71 h => ?_)
      refine zr_callV hX dL_law_1002 (m_X_light hq71) rfl rfl rfl (z5 ww_646 ww_647 ww_648 ww_70 ww_649) hy_X5_light rfl (Nat.le_of_ble_eq_true rfl) (Nat.le_of_ble_eq_true rfl) (Nat.le_of_ble_eq_true rfl) ?_
      refine zr_aload_n hX dL_law_1005 rfl rfl ?_
      refine zP_bind h (fun q72 hq72 h => ?_)
      refine zr_callV hX dL_law_1006 (m_M_light hq72) rfl rfl rfl (z5 ww_1186 ww_1187 ww_1188 ww_77 ww_1189) hy_X6_light rfl (Nat.le_of_ble_eq_true rfl) (Nat.le_of_ble_eq_true rfl) (Nat.le_of_ble_eq_true rfl) ?_
      refine zr_icmpeq (tgt := 1513) hX dL_law_1009 rfl h (fun h => ?_) (fun h => ?_)
      · refine zr_iinc hX dL_law_1513 rfl (Nat.le_of_ble_eq_true rfl) ?_
        refine zr_goto hX dL_law_1516 (tgt := 18) rfl ?_
        exact zW_lf (k_W_law_18 h) (And.intro rfl (And.intro rfl (And.intro rfl (And.intro rfl trivial))))
      · refine zr_iconst hX dL_law_1012 (zrl rfl) ?_
        exact zr_lawret hX dL_law_1013 hF h
    refine zr_tsw hX 24 dL_law_33 (by decide) (zrl rfl) (t2 := 1014) rfl rfl h (fun h => ?_) (fun hs73 h => ?_)
    · refine zr_aload_n hX dL_law_1014 rfl rfl ?_
      refine zP_bind h (fun q74 hq74 h => ?_)
      refine zr_callV hX dL_law_1015 (m_X_ruined hq74) rfl rfl rfl (z5 ww_655 ww_656 ww_657 ww_70 ww_658) hy_X5_ruined rfl (Nat.le_of_ble_eq_true rfl) (Nat.le_of_ble_eq_true rfl) (Nat.le_of_ble_eq_true rfl) ?_
      refine zr_aload_n hX dL_law_1018 rfl rfl ?_
      refine zP_bind h (fun q75 hq75 h => ?_)
      refine zr_callV hX dL_law_1019 (m_M_ruined hq75) rfl rfl rfl (z5 ww_1198 ww_1199 ww_1200 ww_77 ww_1201) hy_X6_ruined rfl (Nat.le_of_ble_eq_true rfl) (Nat.le_of_ble_eq_true rfl) (Nat.le_of_ble_eq_true rfl) ?_
      refine zr_icmpeq (tgt := 1513) hX dL_law_1022 rfl h (fun h => ?_) (fun h => ?_)
      · refine zr_iinc hX dL_law_1513 rfl (Nat.le_of_ble_eq_true rfl) ?_
        refine zr_goto hX dL_law_1516 (tgt := 18) rfl ?_
        exact zW_lf (k_W_law_18 h) (And.intro rfl (And.intro rfl (And.intro rfl (And.intro rfl trivial))))
      · refine zr_iconst hX dL_law_1025 (zrl rfl) ?_
        exact zr_lawret hX dL_law_1026 hF h
    refine zr_tsw hX 25 dL_law_33 (by decide) (zrl rfl) (t2 := 1027) rfl rfl h (fun h => ?_) (fun hs76 h => ?_)
    · refine zr_aload_n hX dL_law_1027 rfl rfl ?_
      refine zP_bind h (fun q77 hq77 h => ?_)
      refine zr_callV hX dL_law_1028 (m_X_sways hq77) rfl rfl rfl (z5 ww_660 ww_661 ww_662 ww_70 ww_663) hy_X5_sways rfl (Nat.le_of_ble_eq_true rfl) (Nat.le_of_ble_eq_true rfl) (Nat.le_of_ble_eq_true rfl) ?_
      refine zr_aload_n hX dL_law_1031 rfl rfl ?_
      refine zP_bind h (fun q78 hq78 h => ?_)
      refine zr_callV hX dL_law_1032 (m_M_sways hq78) rfl rfl rfl (z5 ww_1202 ww_1203 ww_1204 ww_77 ww_1205) hy_X6_sways rfl (Nat.le_of_ble_eq_true rfl) (Nat.le_of_ble_eq_true rfl) (Nat.le_of_ble_eq_true rfl) ?_
      refine zr_icmpeq (tgt := 1513) hX dL_law_1035 rfl h (fun h => ?_) (fun h => ?_)
      · refine zr_iinc hX dL_law_1513 rfl (Nat.le_of_ble_eq_true rfl) ?_
        refine zr_goto hX dL_law_1516 (tgt := 18) rfl ?_
        exact zW_lf (k_W_law_18 h) (And.intro rfl (And.intro rfl (And.intro rfl (And.intro rfl trivial))))
      · refine zr_iconst hX dL_law_1038 (zrl rfl) ?_
        exact zr_lawret hX dL_law_1039 hF h
    refine zr_tsw hX 26 dL_law_33 (by decide) (zrl rfl) (t2 := 1040) rfl rfl h (fun h => ?_) (fun hs79 h => ?_)
    · refine zr_aload_n hX dL_law_1040 rfl rfl ?_
      refine zr_aload_n hX dL_law_1041 rfl rfl ?_
      refine zr_iload_n hX dL_law_1042 rfl rfl ?_
      refine zr_iconst hX dL_law_1043 (zrl rfl) ?_
      refine zr_iadd hX dL_law_1044 ?_
      refine zr_scl hX dL_law_1045 hSc hNL h (fun h => ?_)
      refine zr_aload_n hX dL_law_1046 rfl rfl ?_
      refine zr_iload_n hX dL_law_1047 rfl rfl ?_
      refine zr_iconst hX dL_law_1048 (zrl rfl) ?_
      refine zr_iadd hX dL_law_1049 ?_
      refine zr_scl hX dL_law_1050 hSc hNL h (fun h => ?_)
      refine zP_bind h (fun q80 hq80 h => ?_)
      refine zr_callV hX dL_law_1051 (m_X_best hq80) rfl rfl rfl (z5 ww_669 ww_670 ww_671 ww_70 ww_672) hy_X5_best rfl (Nat.le_of_ble_eq_true rfl) (Nat.le_of_ble_eq_true rfl) (Nat.le_of_ble_eq_true rfl) ?_
      refine zr_aload_n hX dL_law_1054 rfl rfl ?_
      refine zr_aload_n hX dL_law_1055 rfl rfl ?_
      refine zr_iload_n hX dL_law_1056 rfl rfl ?_
      refine zr_iconst hX dL_law_1057 (zrl rfl) ?_
      refine zr_iadd hX dL_law_1058 ?_
      refine zr_scl hX dL_law_1059 hSc hNL h (fun h => ?_)
      refine zr_aload_n hX dL_law_1060 rfl rfl ?_
      refine zr_iload_n hX dL_law_1061 rfl rfl ?_
      refine zr_iconst hX dL_law_1062 (zrl rfl) ?_
      refine zr_iadd hX dL_law_1063 ?_
      refine zr_scl hX dL_law_1064 hSc hNL h (fun h => ?_)
      refine zP_bind h (fun q81 hq81 h => ?_)
      refine zr_callV hX dL_law_1065 (m_M_best hq81) rfl rfl rfl (z5 ww_1217 ww_1218 ww_1219 ww_77 ww_1220) hy_X6_best rfl (Nat.le_of_ble_eq_true rfl) (Nat.le_of_ble_eq_true rfl) (Nat.le_of_ble_eq_true rfl) ?_
      refine zr_icmpeq (tgt := 1513) hX dL_law_1068 rfl h (fun h => ?_) (fun h => ?_)
      · refine zr_iinc hX dL_law_1513 rfl (Nat.le_of_ble_eq_true rfl) ?_
        refine zr_goto hX dL_law_1516 (tgt := 18) rfl ?_
        exact zW_lf (k_W_law_18 h) (And.intro rfl (And.intro rfl (And.intro rfl (And.intro rfl trivial))))
      · refine zr_iconst hX dL_law_1071 (zrl rfl) ?_
        exact zr_lawret hX dL_law_1072 hF h
    refine zr_tsw hX 27 dL_law_33 (by decide) (zrl rfl) (t2 := 1073) rfl rfl h (fun h => ?_) (fun hs82 h => ?_)
    · refine zr_aload_n hX dL_law_1073 rfl rfl ?_
      refine zr_aload_n hX dL_law_1074 rfl rfl ?_
      refine zr_iload_n hX dL_law_1075 rfl rfl ?_
      refine zr_iconst hX dL_law_1076 (zrl rfl) ?_
      refine zr_iadd hX dL_law_1077 ?_
      refine zr_scl hX dL_law_1078 hSc hNL h (fun h => ?_)
      refine zr_aload_n hX dL_law_1079 rfl rfl ?_
      refine zr_iload_n hX dL_law_1080 rfl rfl ?_
      refine zr_iconst hX dL_law_1081 (zrl rfl) ?_
      refine zr_iadd hX dL_law_1082 ?_
      refine zr_scl hX dL_law_1083 hSc hNL h (fun h => ?_)
      refine zr_aload_n hX dL_law_1084 rfl rfl ?_
      refine zr_iload_n hX dL_law_1085 rfl rfl ?_
      refine zr_iconst hX dL_law_1086 (zrl rfl) ?_
      refine zr_iadd hX dL_law_1087 ?_
      refine zr_scl hX dL_law_1088 hSc hNL h (fun h => ?_)
      refine zP_bind h (fun q83 hq83 h => ?_)
      refine zr_callV hX dL_law_1089 (m_X_both hq83) rfl rfl rfl (z5 ww_687 ww_688 ww_689 ww_70 ww_690) hy_X5_both rfl (Nat.le_of_ble_eq_true rfl) (Nat.le_of_ble_eq_true rfl) (Nat.le_of_ble_eq_true rfl) ?_
      refine zr_aload_n hX dL_law_1092 rfl rfl ?_
      refine zr_aload_n hX dL_law_1093 rfl rfl ?_
      refine zr_iload_n hX dL_law_1094 rfl rfl ?_
      refine zr_iconst hX dL_law_1095 (zrl rfl) ?_
      refine zr_iadd hX dL_law_1096 ?_
      refine zr_scl hX dL_law_1097 hSc hNL h (fun h => ?_)
      refine zr_aload_n hX dL_law_1098 rfl rfl ?_
      refine zr_iload_n hX dL_law_1099 rfl rfl ?_
      refine zr_iconst hX dL_law_1100 (zrl rfl) ?_
      refine zr_iadd hX dL_law_1101 ?_
      refine zr_scl hX dL_law_1102 hSc hNL h (fun h => ?_)
      refine zr_aload_n hX dL_law_1103 rfl rfl ?_
      refine zr_iload_n hX dL_law_1104 rfl rfl ?_
      refine zr_iconst hX dL_law_1105 (zrl rfl) ?_
      refine zr_iadd hX dL_law_1106 ?_
      refine zr_scl hX dL_law_1107 hSc hNL h (fun h => ?_)
      refine zP_bind h (fun q84 hq84 h => ?_)
      refine zr_callV hX dL_law_1108 (m_M_both hq84) rfl rfl rfl (z5 ww_1233 ww_1234 ww_1235 ww_77 ww_1236) hy_X6_both rfl (Nat.le_of_ble_eq_true rfl) (Nat.le_of_ble_eq_true rfl) (Nat.le_of_ble_eq_true rfl) ?_
      refine zr_icmpeq (tgt := 1513) hX dL_law_1111 rfl h (fun h => ?_) (fun h => ?_)
      · refine zr_iinc hX dL_law_1513 rfl (Nat.le_of_ble_eq_true rfl) ?_
        refine zr_goto hX dL_law_1516 (tgt := 18) rfl ?_
        exact zW_lf (k_W_law_18 h) (And.intro rfl (And.intro rfl (And.intro rfl (And.intro rfl trivial))))
      · refine zr_iconst hX dL_law_1114 (zrl rfl) ?_
        exact zr_lawret hX dL_law_1115 hF h
    refine zr_tsw hX 28 dL_law_33 (by decide) (zrl rfl) (t2 := 1116) rfl rfl h (fun h => ?_) (fun hs85 h => ?_)
    · refine zr_aload_n hX dL_law_1116 rfl rfl ?_
      refine zP_bind h (fun q86 hq86 h => ?_)
      refine zr_callV hX dL_law_1117 (m_X_fewest hq86) rfl rfl rfl (z5 ww_691 ww_692 ww_693 ww_70 ww_694) hy_X5_fewest rfl (Nat.le_of_ble_eq_true rfl) (Nat.le_of_ble_eq_true rfl) (Nat.le_of_ble_eq_true rfl) ?_
      refine zr_aload_n hX dL_law_1120 rfl rfl ?_
      refine zP_bind h (fun q87 hq87 h => ?_)
      refine zr_callV hX dL_law_1121 (m_M_fewest hq87) rfl rfl rfl (z5 ww_1237 ww_1238 ww_1239 ww_77 ww_1240) hy_X6_fewest rfl (Nat.le_of_ble_eq_true rfl) (Nat.le_of_ble_eq_true rfl) (Nat.le_of_ble_eq_true rfl) ?_
      refine zr_icmpeq (tgt := 1513) hX dL_law_1124 rfl h (fun h => ?_) (fun h => ?_)
      · refine zr_iinc hX dL_law_1513 rfl (Nat.le_of_ble_eq_true rfl) ?_
        refine zr_goto hX dL_law_1516 (tgt := 18) rfl ?_
        exact zW_lf (k_W_law_18 h) (And.intro rfl (And.intro rfl (And.intro rfl (And.intro rfl trivial))))
      · refine zr_iconst hX dL_law_1127 (zrl rfl) ?_
        exact zr_lawret hX dL_law_1128 hF h
    refine zr_tsw hX 29 dL_law_33 (by decide) (zrl rfl) (t2 := 1129) rfl rfl h (fun h => ?_) (fun hs88 h => ?_)
    · refine zr_aload_n hX dL_law_1129 rfl rfl ?_
      refine zP_bind h (fun q89 hq89 h => ?_)
      refine zr_callV hX dL_law_1130 (m_X_relief hq89) rfl rfl rfl (z5 ww_696 ww_697 ww_698 ww_70 ww_699) hy_X5_relief rfl (Nat.le_of_ble_eq_true rfl) (Nat.le_of_ble_eq_true rfl) (Nat.le_of_ble_eq_true rfl) ?_
      refine zr_aload_n hX dL_law_1133 rfl rfl ?_
      refine zP_bind h (fun q90 hq90 h => ?_)
      refine zr_callV hX dL_law_1134 (m_M_relief hq90) rfl rfl rfl (z5 ww_1245 ww_1246 ww_1247 ww_77 ww_1248) hy_X6_relief rfl (Nat.le_of_ble_eq_true rfl) (Nat.le_of_ble_eq_true rfl) (Nat.le_of_ble_eq_true rfl) ?_
      refine zr_icmpeq (tgt := 1513) hX dL_law_1137 rfl h (fun h => ?_) (fun h => ?_)
      · refine zr_iinc hX dL_law_1513 rfl (Nat.le_of_ble_eq_true rfl) ?_
        refine zr_goto hX dL_law_1516 (tgt := 18) rfl ?_
        exact zW_lf (k_W_law_18 h) (And.intro rfl (And.intro rfl (And.intro rfl (And.intro rfl trivial))))
      · refine zr_iconst hX dL_law_1140 (zrl rfl) ?_
        exact zr_lawret hX dL_law_1141 hF h
    refine zr_tsw hX 30 dL_law_33 (by decide) (zrl rfl) (t2 := 1142) rfl rfl h (fun h => ?_) (fun hs91 h => ?_)
    · refine zr_aload_n hX dL_law_1142 rfl rfl ?_
      refine zr_aload_n hX dL_law_1143 rfl rfl ?_
      refine zr_iload_n hX dL_law_1144 rfl rfl ?_
      refine zr_iconst hX dL_law_1145 (zrl rfl) ?_
      refine zr_iadd hX dL_law_1146 ?_
      refine zr_scl hX dL_law_1147 hSc hNL h (fun h => ?_)
      refine zr_aload_n hX dL_law_1148 rfl rfl ?_
      refine zr_iload_n hX dL_law_1149 rfl rfl ?_
      refine zr_iconst hX dL_law_1150 (zrl rfl) ?_
      refine zr_iadd hX dL_law_1151 ?_
      refine zr_scl hX dL_law_1152 hSc hNL h (fun h => ?_)
      refine zP_bind h (fun q92 hq92 h => ?_)
      refine zr_callV hX dL_law_1153 (m_X_high hq92) rfl rfl rfl (z5 ww_700 ww_701 ww_702 ww_70 ww_703) hy_X5_high rfl (Nat.le_of_ble_eq_true rfl) (Nat.le_of_ble_eq_true rfl) (Nat.le_of_ble_eq_true rfl) ?_
      refine zr_aload_n hX dL_law_1156 rfl rfl ?_
      refine zr_aload_n hX dL_law_1157 rfl rfl ?_
      refine zr_iload_n hX dL_law_1158 rfl rfl ?_
      refine zr_iconst hX dL_law_1159 (zrl rfl) ?_
      refine zr_iadd hX dL_law_1160 ?_
      refine zr_scl hX dL_law_1161 hSc hNL h (fun h => ?_)
      refine zr_aload_n hX dL_law_1162 rfl rfl ?_
      refine zr_iload_n hX dL_law_1163 rfl rfl ?_
      refine zr_iconst hX dL_law_1164 (zrl rfl) ?_
      refine zr_iadd hX dL_law_1165 ?_
      refine zr_scl hX dL_law_1166 hSc hNL h (fun h => ?_)
      refine zP_bind h (fun q93 hq93 h => ?_)
      refine zr_callV hX dL_law_1167 (m_M_high hq93) rfl rfl rfl (z5 ww_1250 ww_1251 ww_1252 ww_77 ww_1253) hy_X6_high rfl (Nat.le_of_ble_eq_true rfl) (Nat.le_of_ble_eq_true rfl) (Nat.le_of_ble_eq_true rfl) ?_
      refine zr_icmpeq (tgt := 1513) hX dL_law_1170 rfl h (fun h => ?_) (fun h => ?_)
      · refine zr_iinc hX dL_law_1513 rfl (Nat.le_of_ble_eq_true rfl) ?_
        refine zr_goto hX dL_law_1516 (tgt := 18) rfl ?_
        exact zW_lf (k_W_law_18 h) (And.intro rfl (And.intro rfl (And.intro rfl (And.intro rfl trivial))))
      · refine zr_iconst hX dL_law_1173 (zrl rfl) ?_
        exact zr_lawret hX dL_law_1174 hF h
    refine zr_tsw hX 31 dL_law_33 (by decide) (zrl rfl) (t2 := 1175) rfl rfl h (fun h => ?_) (fun hs94 h => ?_)
    · refine zr_aload_n hX dL_law_1175 rfl rfl ?_
      refine zP_bind h (fun q95 hq95 h => ?_)
      refine zr_callV hX dL_law_1176 (m_X_settle hq95) rfl rfl rfl (z5 ww_704 ww_705 ww_706 ww_70 ww_707) hy_X5_settle rfl (Nat.le_of_ble_eq_true rfl) (Nat.le_of_ble_eq_true rfl) (Nat.le_of_ble_eq_true rfl) ?_
      refine zr_aload_n hX dL_law_1179 rfl rfl ?_
      refine zP_bind h (fun q96 hq96 h => ?_)
      refine zr_callV hX dL_law_1180 (m_M_settle hq96) rfl rfl rfl (z5 ww_1254 ww_1255 ww_1256 ww_77 ww_1257) hy_X6_settle rfl (Nat.le_of_ble_eq_true rfl) (Nat.le_of_ble_eq_true rfl) (Nat.le_of_ble_eq_true rfl) ?_
      refine zr_icmpeq (tgt := 1513) hX dL_law_1183 rfl h (fun h => ?_) (fun h => ?_)
      · refine zr_iinc hX dL_law_1513 rfl (Nat.le_of_ble_eq_true rfl) ?_
        refine zr_goto hX dL_law_1516 (tgt := 18) rfl ?_
        exact zW_lf (k_W_law_18 h) (And.intro rfl (And.intro rfl (And.intro rfl (And.intro rfl trivial))))
      · refine zr_iconst hX dL_law_1186 (zrl rfl) ?_
        exact zr_lawret hX dL_law_1187 hF h
    refine zr_tsw hX 32 dL_law_33 (by decide) (zrl rfl) (t2 := 1188) rfl rfl h (fun h => ?_) (fun hs97 h => ?_)
    · refine zr_aload_n hX dL_law_1188 rfl rfl ?_
      refine zP_bind h (fun q98 hq98 h => ?_)
      refine zr_callV hX dL_law_1189 (m_X_rings hq98) rfl rfl rfl (z5 ww_725 ww_726 ww_727 ww_70 ww_728) hy_X5_rings rfl (Nat.le_of_ble_eq_true rfl) (Nat.le_of_ble_eq_true rfl) (Nat.le_of_ble_eq_true rfl) ?_
      refine zr_aload_n hX dL_law_1192 rfl rfl ?_
      refine zP_bind h (fun q99 hq99 h => ?_)
      refine zr_callV hX dL_law_1193 (m_M_rings hq99) rfl rfl rfl (z5 ww_1258 ww_1259 ww_1260 ww_77 ww_1261) hy_X6_rings rfl (Nat.le_of_ble_eq_true rfl) (Nat.le_of_ble_eq_true rfl) (Nat.le_of_ble_eq_true rfl) ?_
      refine zr_icmpeq (tgt := 1513) hX dL_law_1196 rfl h (fun h => ?_) (fun h => ?_)
      · refine zr_iinc hX dL_law_1513 rfl (Nat.le_of_ble_eq_true rfl) ?_
        refine zr_goto hX dL_law_1516 (tgt := 18) rfl ?_
        exact zW_lf (k_W_law_18 h) (And.intro rfl (And.intro rfl (And.intro rfl (And.intro rfl trivial))))
      · refine zr_iconst hX dL_law_1199 (zrl rfl) ?_
        exact zr_lawret hX dL_law_1200 hF h
    refine zr_tsw hX 33 dL_law_33 (by decide) (zrl rfl) (t2 := 1201) rfl rfl h (fun h => ?_) (fun hs100 h => ?_)
    · refine zr_aload_n hX dL_law_1201 rfl rfl ?_
      refine zr_aload_n hX dL_law_1202 rfl rfl ?_
      refine zr_iload_n hX dL_law_1203 rfl rfl ?_
      refine zr_iconst hX dL_law_1204 (zrl rfl) ?_
      refine zr_iadd hX dL_law_1205 ?_
      refine zr_scl hX dL_law_1206 hSc hNL h (fun h => ?_)
      refine zr_aload_n hX dL_law_1207 rfl rfl ?_
      refine zr_iload_n hX dL_law_1208 rfl rfl ?_
      refine zr_iconst hX dL_law_1209 (zrl rfl) ?_
      refine zr_iadd hX dL_law_1210 ?_
      refine zr_scl hX dL_law_1211 hSc hNL h (fun h => ?_)
      refine zP_bind h (fun q101 hq101 h => ?_)
      refine zr_callV hX dL_law_1212 (m_X_game hq101) rfl rfl rfl (z5 ww_742 ww_743 ww_744 ww_70 ww_745) hy_X5_game rfl (Nat.le_of_ble_eq_true rfl) (Nat.le_of_ble_eq_true rfl) (Nat.le_of_ble_eq_true rfl) ?_
      refine zr_aload_n hX dL_law_1215 rfl rfl ?_
      refine zr_aload_n hX dL_law_1216 rfl rfl ?_
      refine zr_iload_n hX dL_law_1217 rfl rfl ?_
      refine zr_iconst hX dL_law_1218 (zrl rfl) ?_
      refine zr_iadd hX dL_law_1219 ?_
      refine zr_scl hX dL_law_1220 hSc hNL h (fun h => ?_)
      refine zr_aload_n hX dL_law_1221 rfl rfl ?_
      refine zr_iload_n hX dL_law_1222 rfl rfl ?_
      refine zr_iconst hX dL_law_1223 (zrl rfl) ?_
      refine zr_iadd hX dL_law_1224 ?_
      refine zr_scl hX dL_law_1225 hSc hNL h (fun h => ?_)
      refine zP_bind h (fun q102 hq102 h => ?_)
      refine zr_callV hX dL_law_1226 (m_M_game hq102) rfl rfl rfl (z5 ww_1262 ww_1263 ww_1264 ww_77 ww_1265) hy_X6_game rfl (Nat.le_of_ble_eq_true rfl) (Nat.le_of_ble_eq_true rfl) (Nat.le_of_ble_eq_true rfl) ?_
      refine zr_icmpeq (tgt := 1513) hX dL_law_1229 rfl h (fun h => ?_) (fun h => ?_)
      · refine zr_iinc hX dL_law_1513 rfl (Nat.le_of_ble_eq_true rfl) ?_
        refine zr_goto hX dL_law_1516 (tgt := 18) rfl ?_
        exact zW_lf (k_W_law_18 h) (And.intro rfl (And.intro rfl (And.intro rfl (And.intro rfl trivial))))
      · refine zr_iconst hX dL_law_1232 (zrl rfl) ?_
        exact zr_lawret hX dL_law_1233 hF h
    refine zr_tsw hX 34 dL_law_33 (by decide) (zrl rfl) (t2 := 1234) rfl rfl h (fun h => ?_) (fun hs103 h => ?_)
    · refine zr_aload_n hX dL_law_1234 rfl rfl ?_
      refine zr_aload_n hX dL_law_1235 rfl rfl ?_
      refine zr_iload_n hX dL_law_1236 rfl rfl ?_
      refine zr_iconst hX dL_law_1237 (zrl rfl) ?_
      refine zr_iadd hX dL_law_1238 ?_
      refine zr_scl hX dL_law_1239 hSc hNL h (fun h => ?_)
      refine zr_aload_n hX dL_law_1240 rfl rfl ?_
      refine zr_iload_n hX dL_law_1241 rfl rfl ?_
      refine zr_iconst hX dL_law_1242 (zrl rfl) ?_
      refine zr_iadd hX dL_law_1243 ?_
      refine zr_scl hX dL_law_1244 hSc hNL h (fun h => ?_)
      refine zP_bind h (fun q104 hq104 h => ?_)
      refine zr_callV hX dL_law_1245 (m_X_begin hq104) rfl rfl rfl (z5 ww_749 ww_750 ww_751 ww_70 ww_752) hy_X5_begin rfl (Nat.le_of_ble_eq_true rfl) (Nat.le_of_ble_eq_true rfl) (Nat.le_of_ble_eq_true rfl) ?_
      refine zr_aload_n hX dL_law_1248 rfl rfl ?_
      refine zr_aload_n hX dL_law_1249 rfl rfl ?_
      refine zr_iload_n hX dL_law_1250 rfl rfl ?_
      refine zr_iconst hX dL_law_1251 (zrl rfl) ?_
      refine zr_iadd hX dL_law_1252 ?_
      refine zr_scl hX dL_law_1253 hSc hNL h (fun h => ?_)
      refine zr_aload_n hX dL_law_1254 rfl rfl ?_
      refine zr_iload_n hX dL_law_1255 rfl rfl ?_
      refine zr_iconst hX dL_law_1256 (zrl rfl) ?_
      refine zr_iadd hX dL_law_1257 ?_
      refine zr_scl hX dL_law_1258 hSc hNL h (fun h => ?_)
      refine zP_bind h (fun q105 hq105 h => ?_)
      refine zr_callV hX dL_law_1259 (m_M_begin hq105) rfl rfl rfl (z5 ww_1278 ww_1279 ww_1280 ww_77 ww_1281) hy_X6_begin rfl (Nat.le_of_ble_eq_true rfl) (Nat.le_of_ble_eq_true rfl) (Nat.le_of_ble_eq_true rfl) ?_
      refine zr_icmpeq (tgt := 1513) hX dL_law_1262 rfl h (fun h => ?_) (fun h => ?_)
      · refine zr_iinc hX dL_law_1513 rfl (Nat.le_of_ble_eq_true rfl) ?_
        refine zr_goto hX dL_law_1516 (tgt := 18) rfl ?_
        exact zW_lf (k_W_law_18 h) (And.intro rfl (And.intro rfl (And.intro rfl (And.intro rfl trivial))))
      · refine zr_iconst hX dL_law_1265 (zrl rfl) ?_
        exact zr_lawret hX dL_law_1266 hF h
    refine zr_tsw hX 35 dL_law_33 (by decide) (zrl rfl) (t2 := 1267) rfl rfl h (fun h => ?_) (fun hs106 h => ?_)
    · refine zr_aload_n hX dL_law_1267 rfl rfl ?_
      refine zr_aload_n hX dL_law_1268 rfl rfl ?_
      refine zr_iload_n hX dL_law_1269 rfl rfl ?_
      refine zr_iconst hX dL_law_1270 (zrl rfl) ?_
      refine zr_iadd hX dL_law_1271 ?_
      refine zr_scl hX dL_law_1272 hSc hNL h (fun h => ?_)
      refine zP_bind h (fun q107 hq107 h => ?_)
      refine zr_callV hX dL_law_1273 (m_X_fog hq107) rfl rfl rfl (z5 ww_753 ww_754 ww_755 ww_70 ww_756) hy_X5_fog rfl (Nat.le_of_ble_eq_true rfl) (Nat.le_of_ble_eq_true rfl) (Nat.le_of_ble_eq_true rfl) ?_
      refine zr_aload_n hX dL_law_1276 rfl rfl ?_
      refine zr_aload_n hX dL_law_1277 rfl rfl ?_
      refine zr_iload_n hX dL_law_1278 rfl rfl ?_
      refine zr_iconst hX dL_law_1279 (zrl rfl) ?_
      refine zr_iadd hX dL_law_1280 ?_
      refine zr_scl hX dL_law_1281 hSc hNL h (fun h => ?_)
      refine zP_bind h (fun q108 hq108 h => ?_)
      refine zr_callV hX dL_law_1282 (m_M_fog hq108) rfl rfl rfl (z5 ww_1282 ww_1283 ww_1284 ww_77 ww_1285) hy_X6_fog rfl (Nat.le_of_ble_eq_true rfl) (Nat.le_of_ble_eq_true rfl) (Nat.le_of_ble_eq_true rfl) ?_
      refine zr_icmpeq (tgt := 1513) hX dL_law_1285 rfl h (fun h => ?_) (fun h => ?_)
      · refine zr_iinc hX dL_law_1513 rfl (Nat.le_of_ble_eq_true rfl) ?_
        refine zr_goto hX dL_law_1516 (tgt := 18) rfl ?_
        exact zW_lf (k_W_law_18 h) (And.intro rfl (And.intro rfl (And.intro rfl (And.intro rfl trivial))))
      · refine zr_iconst hX dL_law_1288 (zrl rfl) ?_
        exact zr_lawret hX dL_law_1289 hF h
    refine zr_tsw hX 36 dL_law_33 (by decide) (zrl rfl) (t2 := 1290) rfl rfl h (fun h => ?_) (fun hs109 h => ?_)
    · refine zr_aload_n hX dL_law_1290 rfl rfl ?_
      refine zr_aload_n hX dL_law_1291 rfl rfl ?_
      refine zr_iload_n hX dL_law_1292 rfl rfl ?_
      refine zr_iconst hX dL_law_1293 (zrl rfl) ?_
      refine zr_iadd hX dL_law_1294 ?_
      refine zr_scl hX dL_law_1295 hSc hNL h (fun h => ?_)
      refine zr_aload_n hX dL_law_1296 rfl rfl ?_
      refine zr_iload_n hX dL_law_1297 rfl rfl ?_
      refine zr_iconst hX dL_law_1298 (zrl rfl) ?_
      refine zr_iadd hX dL_law_1299 ?_
      refine zr_scl hX dL_law_1300 hSc hNL h (fun h => ?_)
      refine zr_aload_n hX dL_law_1301 rfl rfl ?_
      refine zr_iload_n hX dL_law_1302 rfl rfl ?_
      refine zr_iconst hX dL_law_1303 (zrl rfl) ?_
      refine zr_iadd hX dL_law_1304 ?_
      refine zr_scl hX dL_law_1305 hSc hNL h (fun h => ?_)
      refine zP_bind h (fun q110 hq110 h => ?_)
      refine zr_callV hX dL_law_1306 (m_X_kinds hq110) rfl rfl rfl (z5 ww_762 ww_763 ww_764 ww_70 ww_765) hy_X5_kinds rfl (Nat.le_of_ble_eq_true rfl) (Nat.le_of_ble_eq_true rfl) (Nat.le_of_ble_eq_true rfl) ?_
      refine zr_aload_n hX dL_law_1309 rfl rfl ?_
      refine zr_aload_n hX dL_law_1310 rfl rfl ?_
      refine zr_iload_n hX dL_law_1311 rfl rfl ?_
      refine zr_iconst hX dL_law_1312 (zrl rfl) ?_
      refine zr_iadd hX dL_law_1313 ?_
      refine zr_scl hX dL_law_1314 hSc hNL h (fun h => ?_)
      refine zr_aload_n hX dL_law_1315 rfl rfl ?_
      refine zr_iload_n hX dL_law_1316 rfl rfl ?_
      refine zr_iconst hX dL_law_1317 (zrl rfl) ?_
      refine zr_iadd hX dL_law_1318 ?_
      refine zr_scl hX dL_law_1319 hSc hNL h (fun h => ?_)
      refine zr_aload_n hX dL_law_1320 rfl rfl ?_
      refine zr_iload_n hX dL_law_1321 rfl rfl ?_
      refine zr_iconst hX dL_law_1322 (zrl rfl) ?_
      refine zr_iadd hX dL_law_1323 ?_
      refine zr_scl hX dL_law_1324 hSc hNL h (fun h => ?_)
      refine zP_bind h (fun q111 hq111 h => ?_)
      refine zr_callV hX dL_law_1325 (m_M_kinds hq111) rfl rfl rfl (z5 ww_1290 ww_1291 ww_1292 ww_77 ww_1293) hy_X6_kinds rfl (Nat.le_of_ble_eq_true rfl) (Nat.le_of_ble_eq_true rfl) (Nat.le_of_ble_eq_true rfl) ?_
      refine zr_icmpeq (tgt := 1513) hX dL_law_1328 rfl h (fun h => ?_) (fun h => ?_)
      · refine zr_iinc hX dL_law_1513 rfl (Nat.le_of_ble_eq_true rfl) ?_
        refine zr_goto hX dL_law_1516 (tgt := 18) rfl ?_
        exact zW_lf (k_W_law_18 h) (And.intro rfl (And.intro rfl (And.intro rfl (And.intro rfl trivial))))
      · refine zr_iconst hX dL_law_1331 (zrl rfl) ?_
        exact zr_lawret hX dL_law_1332 hF h
    refine zr_tsw hX 37 dL_law_33 (by decide) (zrl rfl) (t2 := 1333) rfl rfl h (fun h => ?_) (fun hs112 h => ?_)
    · refine zr_aload_n hX dL_law_1333 rfl rfl ?_
      refine zr_aload_n hX dL_law_1334 rfl rfl ?_
      refine zr_iload_n hX dL_law_1335 rfl rfl ?_
      refine zr_iconst hX dL_law_1336 (zrl rfl) ?_
      refine zr_iadd hX dL_law_1337 ?_
      refine zr_scl hX dL_law_1338 hSc hNL h (fun h => ?_)
      refine zr_aload_n hX dL_law_1339 rfl rfl ?_
      refine zr_iload_n hX dL_law_1340 rfl rfl ?_
      refine zr_iconst hX dL_law_1341 (zrl rfl) ?_
      refine zr_iadd hX dL_law_1342 ?_
      refine zr_scl hX dL_law_1343 hSc hNL h (fun h => ?_)
      refine zP_bind h (fun q113 hq113 h => ?_)
      refine zr_callV hX dL_law_1344 (m_X_odds hq113) rfl rfl rfl (z5 ww_766 ww_767 ww_768 ww_70 ww_769) hy_X5_odds rfl (Nat.le_of_ble_eq_true rfl) (Nat.le_of_ble_eq_true rfl) (Nat.le_of_ble_eq_true rfl) ?_
      refine zr_aload_n hX dL_law_1347 rfl rfl ?_
      refine zr_aload_n hX dL_law_1348 rfl rfl ?_
      refine zr_iload_n hX dL_law_1349 rfl rfl ?_
      refine zr_iconst hX dL_law_1350 (zrl rfl) ?_
      refine zr_iadd hX dL_law_1351 ?_
      refine zr_scl hX dL_law_1352 hSc hNL h (fun h => ?_)
      refine zr_aload_n hX dL_law_1353 rfl rfl ?_
      refine zr_iload_n hX dL_law_1354 rfl rfl ?_
      refine zr_iconst hX dL_law_1355 (zrl rfl) ?_
      refine zr_iadd hX dL_law_1356 ?_
      refine zr_scl hX dL_law_1357 hSc hNL h (fun h => ?_)
      refine zP_bind h (fun q114 hq114 h => ?_)
      refine zr_callV hX dL_law_1358 (m_M_odds hq114) rfl rfl rfl (z5 ww_1294 ww_1295 ww_1296 ww_77 ww_1297) hy_X6_odds rfl (Nat.le_of_ble_eq_true rfl) (Nat.le_of_ble_eq_true rfl) (Nat.le_of_ble_eq_true rfl) ?_
      refine zr_icmpeq (tgt := 1513) hX dL_law_1361 rfl h (fun h => ?_) (fun h => ?_)
      · refine zr_iinc hX dL_law_1513 rfl (Nat.le_of_ble_eq_true rfl) ?_
        refine zr_goto hX dL_law_1516 (tgt := 18) rfl ?_
        exact zW_lf (k_W_law_18 h) (And.intro rfl (And.intro rfl (And.intro rfl (And.intro rfl trivial))))
      · refine zr_iconst hX dL_law_1364 (zrl rfl) ?_
        exact zr_lawret hX dL_law_1365 hF h
    refine zr_tsw hX 38 dL_law_33 (by decide) (zrl rfl) (t2 := 1366) rfl rfl h (fun h => ?_) (fun hs115 h => ?_)
    · refine zr_aload_n hX dL_law_1366 rfl rfl ?_
      refine zr_aload_n hX dL_law_1367 rfl rfl ?_
      refine zr_iload_n hX dL_law_1368 rfl rfl ?_
      refine zr_iconst hX dL_law_1369 (zrl rfl) ?_
      refine zr_iadd hX dL_law_1370 ?_
      refine zr_scl hX dL_law_1371 hSc hNL h (fun h => ?_)
      refine zr_aload_n hX dL_law_1372 rfl rfl ?_
      refine zr_iload_n hX dL_law_1373 rfl rfl ?_
      refine zr_iconst hX dL_law_1374 (zrl rfl) ?_
      refine zr_iadd hX dL_law_1375 ?_
      refine zr_scl hX dL_law_1376 hSc hNL h (fun h => ?_)
      refine zP_bind h (fun q116 hq116 h => ?_)
      refine zr_callV hX dL_law_1377 (m_X_lots hq116) rfl rfl rfl (z5 ww_771 ww_772 ww_773 ww_70 ww_774) hy_X5_lots rfl (Nat.le_of_ble_eq_true rfl) (Nat.le_of_ble_eq_true rfl) (Nat.le_of_ble_eq_true rfl) ?_
      refine zr_aload_n hX dL_law_1380 rfl rfl ?_
      refine zr_aload_n hX dL_law_1381 rfl rfl ?_
      refine zr_iload_n hX dL_law_1382 rfl rfl ?_
      refine zr_iconst hX dL_law_1383 (zrl rfl) ?_
      refine zr_iadd hX dL_law_1384 ?_
      refine zr_scl hX dL_law_1385 hSc hNL h (fun h => ?_)
      refine zr_aload_n hX dL_law_1386 rfl rfl ?_
      refine zr_iload_n hX dL_law_1387 rfl rfl ?_
      refine zr_iconst hX dL_law_1388 (zrl rfl) ?_
      refine zr_iadd hX dL_law_1389 ?_
      refine zr_scl hX dL_law_1390 hSc hNL h (fun h => ?_)
      refine zP_bind h (fun q117 hq117 h => ?_)
      refine zr_callV hX dL_law_1391 (m_M_lots hq117) rfl rfl rfl (z5 ww_1298 ww_1299 ww_1300 ww_77 ww_1301) hy_X6_lots rfl (Nat.le_of_ble_eq_true rfl) (Nat.le_of_ble_eq_true rfl) (Nat.le_of_ble_eq_true rfl) ?_
      refine zr_icmpeq (tgt := 1513) hX dL_law_1394 rfl h (fun h => ?_) (fun h => ?_)
      · refine zr_iinc hX dL_law_1513 rfl (Nat.le_of_ble_eq_true rfl) ?_
        refine zr_goto hX dL_law_1516 (tgt := 18) rfl ?_
        exact zW_lf (k_W_law_18 h) (And.intro rfl (And.intro rfl (And.intro rfl (And.intro rfl trivial))))
      · refine zr_iconst hX dL_law_1397 (zrl rfl) ?_
        exact zr_lawret hX dL_law_1398 hF h
    refine zr_tsw hX 39 dL_law_33 (by decide) (zrl rfl) (t2 := 1399) rfl rfl h (fun h => ?_) (fun hs118 h => ?_)
    · refine zr_aload_n hX dL_law_1399 rfl rfl ?_
      refine zr_callV hX dL_law_1400 (m_X_asked) rfl rfl rfl (z5 ww_783 ww_784 ww_785 ww_70 ww_786) hy_X5_asked rfl (Nat.le_of_ble_eq_true rfl) (Nat.le_of_ble_eq_true rfl) (Nat.le_of_ble_eq_true rfl) ?_
      refine zr_aload_n hX dL_law_1403 rfl rfl ?_
      refine zr_callV hX dL_law_1404 (m_M_asked) rfl rfl rfl (z5 ww_1309 ww_1310 ww_1311 ww_77 ww_1312) hy_X6_asked rfl (Nat.le_of_ble_eq_true rfl) (Nat.le_of_ble_eq_true rfl) (Nat.le_of_ble_eq_true rfl) ?_
      refine zr_icmpeq (tgt := 1513) hX dL_law_1407 rfl h (fun h => ?_) (fun h => ?_)
      · refine zr_iinc hX dL_law_1513 rfl (Nat.le_of_ble_eq_true rfl) ?_
        refine zr_goto hX dL_law_1516 (tgt := 18) rfl ?_
        exact zW_lf (k_W_law_18 h) (And.intro rfl (And.intro rfl (And.intro rfl (And.intro rfl trivial))))
      · refine zr_iconst hX dL_law_1410 (zrl rfl) ?_
        exact zr_lawret hX dL_law_1411 hF h
    refine zr_tsw hX 40 dL_law_33 (by decide) (zrl rfl) (t2 := 1412) rfl rfl h (fun h => ?_) (fun hs119 h => ?_)
    · refine zr_aload_n hX dL_law_1412 rfl rfl ?_
      refine zr_callV hX dL_law_1413 (m_X_upper) rfl rfl rfl (z5 ww_787 ww_788 ww_789 ww_70 ww_790) hy_X5_upper rfl (Nat.le_of_ble_eq_true rfl) (Nat.le_of_ble_eq_true rfl) (Nat.le_of_ble_eq_true rfl) ?_
      refine zr_aload_n hX dL_law_1416 rfl rfl ?_
      refine zr_callV hX dL_law_1417 (m_M_upper) rfl rfl rfl (z5 ww_1313 ww_1314 ww_1315 ww_77 ww_1316) hy_X6_upper rfl (Nat.le_of_ble_eq_true rfl) (Nat.le_of_ble_eq_true rfl) (Nat.le_of_ble_eq_true rfl) ?_
      refine zr_lcmp hX dL_law_1420 ?_
      refine zr_ifeq (tgt := 1513) hX dL_law_1421 rfl h (fun h => ?_) (fun h => ?_)
      · refine zr_iinc hX dL_law_1513 rfl (Nat.le_of_ble_eq_true rfl) ?_
        refine zr_goto hX dL_law_1516 (tgt := 18) rfl ?_
        exact zW_lf (k_W_law_18 h) (And.intro rfl (And.intro rfl (And.intro rfl (And.intro rfl trivial))))
      · refine zr_iconst hX dL_law_1424 (zrl rfl) ?_
        exact zr_lawret hX dL_law_1425 hF h
    refine zr_tsw hX 41 dL_law_33 (by decide) (zrl rfl) (t2 := 1426) rfl rfl h (fun h => ?_) (fun hs120 h => ?_)
    · refine zr_aload_n hX dL_law_1426 rfl rfl ?_
      refine zr_callV hX dL_law_1427 (m_X_lower) rfl rfl rfl (z5 ww_791 ww_792 ww_793 ww_70 ww_794) hy_X5_lower rfl (Nat.le_of_ble_eq_true rfl) (Nat.le_of_ble_eq_true rfl) (Nat.le_of_ble_eq_true rfl) ?_
      refine zr_aload_n hX dL_law_1430 rfl rfl ?_
      refine zr_callV hX dL_law_1431 (m_M_lower) rfl rfl rfl (z5 ww_1317 ww_1318 ww_1319 ww_77 ww_1320) hy_X6_lower rfl (Nat.le_of_ble_eq_true rfl) (Nat.le_of_ble_eq_true rfl) (Nat.le_of_ble_eq_true rfl) ?_
      refine zr_lcmp hX dL_law_1434 ?_
      refine zr_ifeq (tgt := 1513) hX dL_law_1435 rfl h (fun h => ?_) (fun h => ?_)
      · refine zr_iinc hX dL_law_1513 rfl (Nat.le_of_ble_eq_true rfl) ?_
        refine zr_goto hX dL_law_1516 (tgt := 18) rfl ?_
        exact zW_lf (k_W_law_18 h) (And.intro rfl (And.intro rfl (And.intro rfl (And.intro rfl trivial))))
      · refine zr_iconst hX dL_law_1438 (zrl rfl) ?_
        exact zr_lawret hX dL_law_1439 hF h
    refine zr_tsw hX 42 dL_law_33 (by decide) (zrl rfl) (t2 := 1440) rfl rfl h (fun h => ?_) (fun hs121 h => ?_)
    · refine zr_aload_n hX dL_law_1440 rfl rfl ?_
      refine zr_aload_n hX dL_law_1441 rfl rfl ?_
      refine zr_iload_n hX dL_law_1442 rfl rfl ?_
      refine zr_iconst hX dL_law_1443 (zrl rfl) ?_
      refine zr_iadd hX dL_law_1444 ?_
      refine zr_scl hX dL_law_1445 hSc hNL h (fun h => ?_)
      refine zP_bind h (fun q122 hq122 h => ?_)
      refine zr_callV hX dL_law_1446 (m_X_count hq122) rfl rfl rfl (z5 ww_795 ww_796 ww_797 ww_70 ww_798) hy_X5_count rfl (Nat.le_of_ble_eq_true rfl) (Nat.le_of_ble_eq_true rfl) (Nat.le_of_ble_eq_true rfl) ?_
      refine zr_aload_n hX dL_law_1449 rfl rfl ?_
      refine zr_aload_n hX dL_law_1450 rfl rfl ?_
      refine zr_iload_n hX dL_law_1451 rfl rfl ?_
      refine zr_iconst hX dL_law_1452 (zrl rfl) ?_
      refine zr_iadd hX dL_law_1453 ?_
      refine zr_scl hX dL_law_1454 hSc hNL h (fun h => ?_)
      refine zP_bind h (fun q123 hq123 h => ?_)
      refine zr_callV hX dL_law_1455 (m_M_count hq123) rfl rfl rfl (z5 ww_1321 ww_1322 ww_1323 ww_77 ww_1324) hy_X6_count rfl (Nat.le_of_ble_eq_true rfl) (Nat.le_of_ble_eq_true rfl) (Nat.le_of_ble_eq_true rfl) ?_
      refine zr_icmpeq (tgt := 1513) hX dL_law_1458 rfl h (fun h => ?_) (fun h => ?_)
      · refine zr_iinc hX dL_law_1513 rfl (Nat.le_of_ble_eq_true rfl) ?_
        refine zr_goto hX dL_law_1516 (tgt := 18) rfl ?_
        exact zW_lf (k_W_law_18 h) (And.intro rfl (And.intro rfl (And.intro rfl (And.intro rfl trivial))))
      · refine zr_iconst hX dL_law_1461 (zrl rfl) ?_
        exact zr_lawret hX dL_law_1462 hF h
    refine zr_tsw hX 43 dL_law_33 (by decide) (zrl rfl) (t2 := 1463) rfl rfl h (fun h => ?_) (fun hs124 h => ?_)
    · refine zr_aload_n hX dL_law_1463 rfl rfl ?_
      refine zr_callV hX dL_law_1464 (m_X_finding) rfl rfl rfl (z5 ww_821 ww_822 ww_823 ww_70 ww_824) hy_X5_finding rfl (Nat.le_of_ble_eq_true rfl) (Nat.le_of_ble_eq_true rfl) (Nat.le_of_ble_eq_true rfl) ?_
      refine zr_aload_n hX dL_law_1467 rfl rfl ?_
      refine zr_callV hX dL_law_1468 (m_M_finding) rfl rfl rfl (z5 ww_1336 ww_1337 ww_1338 ww_77 ww_1339) hy_X6_finding rfl (Nat.le_of_ble_eq_true rfl) (Nat.le_of_ble_eq_true rfl) (Nat.le_of_ble_eq_true rfl) ?_
      refine zr_icmpeq (tgt := 1513) hX dL_law_1471 rfl h (fun h => ?_) (fun h => ?_)
      · refine zr_iinc hX dL_law_1513 rfl (Nat.le_of_ble_eq_true rfl) ?_
        refine zr_goto hX dL_law_1516 (tgt := 18) rfl ?_
        exact zW_lf (k_W_law_18 h) (And.intro rfl (And.intro rfl (And.intro rfl (And.intro rfl trivial))))
      · refine zr_iconst hX dL_law_1474 (zrl rfl) ?_
        exact zr_lawret hX dL_law_1475 hF h
    refine zr_tsw hX 44 dL_law_33 (by decide) (zrl rfl) (t2 := 1476) rfl rfl h (fun h => ?_) (fun hs125 h => ?_)
    · refine zr_aload_n hX dL_law_1476 rfl rfl ?_
      refine zr_aload_n hX dL_law_1477 rfl rfl ?_
      refine zr_iload_n hX dL_law_1478 rfl rfl ?_
      refine zr_iconst hX dL_law_1479 (zrl rfl) ?_
      refine zr_iadd hX dL_law_1480 ?_
      refine zr_scl hX dL_law_1481 hSc hNL h (fun h => ?_)
      refine zP_bind h (fun q126 hq126 h => ?_)
      refine zr_callV hX dL_law_1482 (m_X_findings hq126) rfl rfl rfl (z5 ww_825 ww_826 ww_827 ww_70 ww_828) hy_X5_findings rfl (Nat.le_of_ble_eq_true rfl) (Nat.le_of_ble_eq_true rfl) (Nat.le_of_ble_eq_true rfl) ?_
      refine zr_aload_n hX dL_law_1485 rfl rfl ?_
      refine zr_aload_n hX dL_law_1486 rfl rfl ?_
      refine zr_iload_n hX dL_law_1487 rfl rfl ?_
      refine zr_iconst hX dL_law_1488 (zrl rfl) ?_
      refine zr_iadd hX dL_law_1489 ?_
      refine zr_scl hX dL_law_1490 hSc hNL h (fun h => ?_)
      refine zP_bind h (fun q127 hq127 h => ?_)
      refine zr_callV hX dL_law_1491 (m_M_findings hq127) rfl rfl rfl (z5 ww_1340 ww_1341 ww_1342 ww_77 ww_1343) hy_X6_findings rfl (Nat.le_of_ble_eq_true rfl) (Nat.le_of_ble_eq_true rfl) (Nat.le_of_ble_eq_true rfl) ?_
      refine zr_icmpeq (tgt := 1513) hX dL_law_1494 rfl h (fun h => ?_) (fun h => ?_)
      · refine zr_iinc hX dL_law_1513 rfl (Nat.le_of_ble_eq_true rfl) ?_
        refine zr_goto hX dL_law_1516 (tgt := 18) rfl ?_
        exact zW_lf (k_W_law_18 h) (And.intro rfl (And.intro rfl (And.intro rfl (And.intro rfl trivial))))
      · refine zr_iconst hX dL_law_1497 (zrl rfl) ?_
        exact zr_lawret hX dL_law_1498 hF h
    refine zr_tsw hX 45 dL_law_33 (by decide) (zrl rfl) (t2 := 1499) rfl rfl h (fun h => ?_) (fun hs128 h => ?_)
    · refine zr_aload_n hX dL_law_1499 rfl rfl ?_
      refine zP_bind h (fun q129 hq129 h => ?_)
      refine zr_callV hX dL_law_1500 (m_X_digest hq129) rfl rfl rfl (z5 ww_829 ww_830 ww_831 ww_70 ww_832) hy_X5_digest rfl (Nat.le_of_ble_eq_true rfl) (Nat.le_of_ble_eq_true rfl) (Nat.le_of_ble_eq_true rfl) ?_
      refine zr_aload_n hX dL_law_1503 rfl rfl ?_
      refine zP_bind h (fun q130 hq130 h => ?_)
      refine zr_callV hX dL_law_1504 (m_M_digest hq130) rfl rfl rfl (z5 ww_1344 ww_1345 ww_1346 ww_77 ww_1347) hy_X6_digest rfl (Nat.le_of_ble_eq_true rfl) (Nat.le_of_ble_eq_true rfl) (Nat.le_of_ble_eq_true rfl) ?_
      refine zr_lcmp hX dL_law_1507 ?_
      refine zr_ifeq (tgt := 1513) hX dL_law_1508 rfl h (fun h => ?_) (fun h => ?_)
      · refine zr_iinc hX dL_law_1513 rfl (Nat.le_of_ble_eq_true rfl) ?_
        refine zr_goto hX dL_law_1516 (tgt := 18) rfl ?_
        exact zW_lf (k_W_law_18 h) (And.intro rfl (And.intro rfl (And.intro rfl (And.intro rfl trivial))))
      · refine zr_iconst hX dL_law_1511 (zrl rfl) ?_
        exact zr_lawret hX dL_law_1512 hF h
    refine zr_tswd (tgt := 1513) hX dL_law_33 (by omega) rfl ?_
    refine zr_iinc hX dL_law_1513 rfl (Nat.le_of_ble_eq_true rfl) ?_
    refine zr_goto hX dL_law_1516 (tgt := 18) rfl ?_
    exact zW_lf (k_W_law_18 h) (And.intro rfl (And.intro rfl (And.intro rfl (And.intro rfl trivial))))
