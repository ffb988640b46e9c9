theorem mw_fieldLink_RX0_9_MirrorDrill_Changes_plain_J : (.fieldLink RX0 9 "MirrorDrill$Changes" "plain" "[J" : Cond) ∈ BIG := big_tab (by decide +kernel) rfl
theorem mw_fieldLink_RX0_15_MirrorDrill_Changes_men_I : (.fieldLink RX0 15 "MirrorDrill$Changes" "men" "[I" : Cond) ∈ BIG := big_tab (by decide +kernel) rfl
theorem mw_fieldLink_RX0_19_MirrorDrill_Changes_moves_I : (.fieldLink RX0 19 "MirrorDrill$Changes" "moves" "[I" : Cond) ∈ BIG := big_tab (by decide +kernel) rfl
theorem mw_fieldLink_RX2_27_MirrorDrill_Drill_ring_Z : (.fieldLink RX2 27 "MirrorDrill$Drill" "ring" "Z" : Cond) ∈ BIG := big_tab (by decide +kernel) rfl
theorem mw_fieldLink_RX2_15_MirrorDrill_Drill_men_I : (.fieldLink RX2 15 "MirrorDrill$Drill" "men" "I" : Cond) ∈ BIG := big_tab (by decide +kernel) rfl
theorem mw_fieldLink_RX2_24_MirrorDrill_Drill_edge_I : (.fieldLink RX2 24 "MirrorDrill$Drill" "edge" "I" : Cond) ∈ BIG := big_tab (by decide +kernel) rfl
theorem mw_fieldLink_RX2_58_MirrorDrill_Drill_pairSteps_B : (.fieldLink RX2 58 "MirrorDrill$Drill" "pairSteps" "[B" : Cond) ∈ BIG := big_tab (by decide +kernel) rfl
theorem mw_fieldLink_RX0_22_MirrorDrill_Changes_drill_LMirrorDrill_Drill : (.fieldLink RX0 22 "MirrorDrill$Changes" "drill" "LMirrorDrill$Drill;" : Cond) ∈ BIG := big_tab (by decide +kernel) rfl
theorem mw_fieldLink_RX0_26_MirrorDrill_Changes_start_J : (.fieldLink RX0 26 "MirrorDrill$Changes" "start" "J" : Cond) ∈ BIG := big_tab (by decide +kernel) rfl
theorem mw_fieldLink_RX0_30_MirrorDrill_Changes_target_I : (.fieldLink RX0 30 "MirrorDrill$Changes" "target" "I" : Cond) ∈ BIG := big_tab (by decide +kernel) rfl
theorem mw_fieldLink_RX0_34_MirrorDrill_Changes_wanted_I : (.fieldLink RX0 34 "MirrorDrill$Changes" "wanted" "I" : Cond) ∈ BIG := big_tab (by decide +kernel) rfl
theorem mw_fieldLink_RX0_37_MirrorDrill_Changes_beats_I : (.fieldLink RX0 37 "MirrorDrill$Changes" "beats" "I" : Cond) ∈ BIG := big_tab (by decide +kernel) rfl
theorem mw_fieldLink_RX0_54_MirrorDrill_Changes_size_I : (.fieldLink RX0 54 "MirrorDrill$Changes" "size" "I" : Cond) ∈ BIG := big_tab (by decide +kernel) rfl
theorem mw_fieldLink_RX0_85_MirrorDrill_Drill_moves_I : (.fieldLink RX0 85 "MirrorDrill$Drill" "moves" "I" : Cond) ∈ BIG := big_tab (by decide +kernel) rfl
theorem mw_fieldLink_RX0_75_MirrorDrill_Drill_men_I : (.fieldLink RX0 75 "MirrorDrill$Drill" "men" "I" : Cond) ∈ BIG := big_tab (by decide +kernel) rfl
theorem mw_fieldLink_RX6_9_MirrorDrill_Pile_numbers_I : (.fieldLink RX6 9 "MirrorDrill$Pile" "numbers" "[I" : Cond) ∈ BIG := big_tab (by decide +kernel) rfl
theorem mw_fieldLink_RX6_15_MirrorDrill_Pile_count_I : (.fieldLink RX6 15 "MirrorDrill$Pile" "count" "I" : Cond) ∈ BIG := big_tab (by decide +kernel) rfl
theorem mw_fieldLink_RX1_9_MirrorDrill_Course_rows_J : (.fieldLink RX1 9 "MirrorDrill$Course" "rows" "[J" : Cond) ∈ BIG := big_tab (by decide +kernel) rfl
theorem mw_fieldLink_RX1_15_MirrorDrill_Course_known_Z : (.fieldLink RX1 15 "MirrorDrill$Course" "known" "Z" : Cond) ∈ BIG := big_tab (by decide +kernel) rfl
theorem mw_fieldLink_RX1_19_MirrorDrill_Course_tail_I : (.fieldLink RX1 19 "MirrorDrill$Course" "tail" "I" : Cond) ∈ BIG := big_tab (by decide +kernel) rfl
theorem mw_fieldLink_RX1_23_MirrorDrill_Course_loop_I : (.fieldLink RX1 23 "MirrorDrill$Course" "loop" "I" : Cond) ∈ BIG := big_tab (by decide +kernel) rfl
theorem mw_fieldLink_RX1_26_MirrorDrill_Course_knownRow_J : (.fieldLink RX1 26 "MirrorDrill$Course" "knownRow" "J" : Cond) ∈ BIG := big_tab (by decide +kernel) rfl
theorem mw_fieldLink_RX2_9_MirrorDrill_Drill_moves_I : (.fieldLink RX2 9 "MirrorDrill$Drill" "moves" "I" : Cond) ∈ BIG := big_tab (by decide +kernel) rfl
theorem mw_fieldLink_RX2_18_MirrorDrill_Drill_rules_I : (.fieldLink RX2 18 "MirrorDrill$Drill" "rules" "I" : Cond) ∈ BIG := big_tab (by decide +kernel) rfl
theorem mw_fieldLink_RX2_21_MirrorDrill_Drill_units_I : (.fieldLink RX2 21 "MirrorDrill$Drill" "units" "I" : Cond) ∈ BIG := big_tab (by decide +kernel) rfl
theorem mw_fieldLink_RX2_31_MirrorDrill_Drill_turned_I : (.fieldLink RX2 31 "MirrorDrill$Drill" "turned" "I" : Cond) ∈ BIG := big_tab (by decide +kernel) rfl
theorem mw_fieldLink_RX2_34_MirrorDrill_Drill_cracked_I : (.fieldLink RX2 34 "MirrorDrill$Drill" "cracked" "I" : Cond) ∈ BIG := big_tab (by decide +kernel) rfl
theorem mw_fieldLink_RX2_37_MirrorDrill_Drill_first_J : (.fieldLink RX2 37 "MirrorDrill$Drill" "first" "J" : Cond) ∈ BIG := big_tab (by decide +kernel) rfl
theorem mw_fieldLink_RX2_41_MirrorDrill_Drill_ruleOf_I : (.fieldLink RX2 41 "MirrorDrill$Drill" "ruleOf" "[I" : Cond) ∈ BIG := big_tab (by decide +kernel) rfl
theorem mw_fieldLink_RX2_45_MirrorDrill_Drill_windows_I : (.fieldLink RX2 45 "MirrorDrill$Drill" "windows" "[I" : Cond) ∈ BIG := big_tab (by decide +kernel) rfl
theorem mw_fieldLink_RX2_48_MirrorDrill_Drill_worths_I : (.fieldLink RX2 48 "MirrorDrill$Drill" "worths" "[I" : Cond) ∈ BIG := big_tab (by decide +kernel) rfl
theorem mw_fieldLink_RX2_51_MirrorDrill_Drill_table_B : (.fieldLink RX2 51 "MirrorDrill$Drill" "table" "[B" : Cond) ∈ BIG := big_tab (by decide +kernel) rfl
theorem mw_fieldLink_RX2_55_MirrorDrill_Drill_steps_B : (.fieldLink RX2 55 "MirrorDrill$Drill" "steps" "[B" : Cond) ∈ BIG := big_tab (by decide +kernel) rfl
theorem mw_fieldLink_RX3_9_MirrorDrill_Earnest_rows_J : (.fieldLink RX3 9 "MirrorDrill$Earnest" "rows" "[J" : Cond) ∈ BIG := big_tab (by decide +kernel) rfl
theorem mw_fieldLink_RX3_15_MirrorDrill_Earnest_beatsThen_I : (.fieldLink RX3 15 "MirrorDrill$Earnest" "beatsThen" "[I" : Cond) ∈ BIG := big_tab (by decide +kernel) rfl
theorem mw_fieldLink_RX3_19_MirrorDrill_Earnest_now_I : (.fieldLink RX3 19 "MirrorDrill$Earnest" "now" "I" : Cond) ∈ BIG := big_tab (by decide +kernel) rfl
theorem mw_fieldLink_RX3_23_MirrorDrill_Earnest_last_I : (.fieldLink RX3 23 "MirrorDrill$Earnest" "last" "I" : Cond) ∈ BIG := big_tab (by decide +kernel) rfl
theorem mw_fieldLink_RX4_11_MirrorDrill_Endless_leads_J : (.fieldLink RX4 11 "MirrorDrill$Endless" "leads" "[J" : Cond) ∈ BIG := big_tab (by decide +kernel) rfl
theorem mw_fieldLink_RX4_15_MirrorDrill_Endless_queue_I : (.fieldLink RX4 15 "MirrorDrill$Endless" "queue" "[I" : Cond) ∈ BIG := big_tab (by decide +kernel) rfl
theorem mw_fieldLink_RX4_19_MirrorDrill_Endless_met_I : (.fieldLink RX4 19 "MirrorDrill$Endless" "met" "[I" : Cond) ∈ BIG := big_tab (by decide +kernel) rfl
theorem mw_fieldLink_RX4_22_MirrorDrill_Endless_alike_I : (.fieldLink RX4 22 "MirrorDrill$Endless" "alike" "[I" : Cond) ∈ BIG := big_tab (by decide +kernel) rfl
theorem mw_fieldLink_RX4_25_MirrorDrill_Endless_gains_I : (.fieldLink RX4 25 "MirrorDrill$Endless" "gains" "[I" : Cond) ∈ BIG := big_tab (by decide +kernel) rfl
theorem mw_fieldLink_RX4_28_MirrorDrill_Endless_drill_LMirrorDrill_Drill : (.fieldLink RX4 28 "MirrorDrill$Endless" "drill" "LMirrorDrill$Drill;" : Cond) ∈ BIG := big_tab (by decide +kernel) rfl
theorem mw_fieldLink_RX4_32_MirrorDrill_Endless_rule_I : (.fieldLink RX4 32 "MirrorDrill$Endless" "rule" "I" : Cond) ∈ BIG := big_tab (by decide +kernel) rfl
theorem mw_fieldLink_RX4_36_MirrorDrill_Drill_moves_I : (.fieldLink RX4 36 "MirrorDrill$Drill" "moves" "I" : Cond) ∈ BIG := big_tab (by decide +kernel) rfl
theorem mw_fieldLink_RX4_41_MirrorDrill_Endless_moves_I : (.fieldLink RX4 41 "MirrorDrill$Endless" "moves" "I" : Cond) ∈ BIG := big_tab (by decide +kernel) rfl
theorem mw_fieldLink_RX4_42_MirrorDrill_Endless_pairs_I : (.fieldLink RX4 42 "MirrorDrill$Endless" "pairs" "I" : Cond) ∈ BIG := big_tab (by decide +kernel) rfl
theorem mw_fieldLink_RX4_63_MirrorDrill_Endless_queued_I : (.fieldLink RX4 63 "MirrorDrill$Endless" "queued" "I" : Cond) ∈ BIG := big_tab (by decide +kernel) rfl
theorem mw_fieldLink_RX4_133_MirrorDrill_Drill_worths_I : (.fieldLink RX4 133 "MirrorDrill$Drill" "worths" "[I" : Cond) ∈ BIG := big_tab (by decide +kernel) rfl
theorem mw_fieldLink_RX5_9_MirrorDrill_Forebears_ways_J : (.fieldLink RX5 9 "MirrorDrill$Forebears" "ways" "[J" : Cond) ∈ BIG := big_tab (by decide +kernel) rfl
theorem mw_fieldLink_RX5_15_MirrorDrill_Forebears_count_J : (.fieldLink RX5 15 "MirrorDrill$Forebears" "count" "J" : Cond) ∈ BIG := big_tab (by decide +kernel) rfl
theorem mw_fieldLink_RX5_19_MirrorDrill_Forebears_firstKey_J : (.fieldLink RX5 19 "MirrorDrill$Forebears" "firstKey" "J" : Cond) ∈ BIG := big_tab (by decide +kernel) rfl
theorem mw_fieldLink_RX5_22_MirrorDrill_Forebears_drill_LMirrorDrill_Drill : (.fieldLink RX5 22 "MirrorDrill$Forebears" "drill" "LMirrorDrill$Drill;" : Cond) ∈ BIG := big_tab (by decide +kernel) rfl
theorem mw_fieldLink_RX5_26_MirrorDrill_Drill_men_I : (.fieldLink RX5 26 "MirrorDrill$Drill" "men" "I" : Cond) ∈ BIG := big_tab (by decide +kernel) rfl
theorem mw_fieldLink_RX5_36_MirrorDrill_Forebears_goal_J : (.fieldLink RX5 36 "MirrorDrill$Forebears" "goal" "J" : Cond) ∈ BIG := big_tab (by decide +kernel) rfl
theorem mw_fieldLink_RX5_55_MirrorDrill_Drill_moves_I : (.fieldLink RX5 55 "MirrorDrill$Drill" "moves" "I" : Cond) ∈ BIG := big_tab (by decide +kernel) rfl
theorem mw_fieldLink_RX5_41_MirrorDrill_Drill_ring_Z : (.fieldLink RX5 41 "MirrorDrill$Drill" "ring" "Z" : Cond) ∈ BIG := big_tab (by decide +kernel) rfl
theorem mw_fieldLink_RX5_48_MirrorDrill_Drill_edge_I : (.fieldLink RX5 48 "MirrorDrill$Drill" "edge" "I" : Cond) ∈ BIG := big_tab (by decide +kernel) rfl
theorem mw_fieldLink_RX7_9_MirrorDrill_Reader_text_I : (.fieldLink RX7 9 "MirrorDrill$Reader" "text" "[I" : Cond) ∈ BIG := big_tab (by decide +kernel) rfl
theorem mw_fieldLink_RX7_15_MirrorDrill_Reader_names_J : (.fieldLink RX7 15 "MirrorDrill$Reader" "names" "[J" : Cond) ∈ BIG := big_tab (by decide +kernel) rfl
theorem mw_fieldLink_RX7_19_MirrorDrill_Reader_parts_I : (.fieldLink RX7 19 "MirrorDrill$Reader" "parts" "[I" : Cond) ∈ BIG := big_tab (by decide +kernel) rfl
theorem mw_fieldLink_RX7_22_MirrorDrill_Reader_fault_I : (.fieldLink RX7 22 "MirrorDrill$Reader" "fault" "I" : Cond) ∈ BIG := big_tab (by decide +kernel) rfl
theorem mw_fieldLink_RX7_26_MirrorDrill_Reader_faultPlace_I : (.fieldLink RX7 26 "MirrorDrill$Reader" "faultPlace" "I" : Cond) ∈ BIG := big_tab (by decide +kernel) rfl
theorem mw_fieldLink_RX7_75_MirrorDrill_Reader_name_J : (.fieldLink RX7 75 "MirrorDrill$Reader" "name" "J" : Cond) ∈ BIG := big_tab (by decide +kernel) rfl
theorem mw_fieldLink_RX7_42_MirrorDrill_Reader_at_I : (.fieldLink RX7 42 "MirrorDrill$Reader" "at" "I" : Cond) ∈ BIG := big_tab (by decide +kernel) rfl
theorem mw_fieldLink_RX7_35_MirrorDrill_Reader_length_I : (.fieldLink RX7 35 "MirrorDrill$Reader" "length" "I" : Cond) ∈ BIG := big_tab (by decide +kernel) rfl
theorem mw_fieldLink_RX7_99_MirrorDrill_Reader_value_I : (.fieldLink RX7 99 "MirrorDrill$Reader" "value" "I" : Cond) ∈ BIG := big_tab (by decide +kernel) rfl
theorem mw_fieldLink_RX7_62_MirrorDrill_Reader_place_I : (.fieldLink RX7 62 "MirrorDrill$Reader" "place" "I" : Cond) ∈ BIG := big_tab (by decide +kernel) rfl
theorem mw_fieldLink_RX7_59_MirrorDrill_Reader_token_I : (.fieldLink RX7 59 "MirrorDrill$Reader" "token" "I" : Cond) ∈ BIG := big_tab (by decide +kernel) rfl
theorem mw_fieldLink_RX7_38_MirrorDrill_Reader_target_LMirrorDrill_Drill : (.fieldLink RX7 38 "MirrorDrill$Reader" "target" "LMirrorDrill$Drill;" : Cond) ∈ BIG := big_tab (by decide +kernel) rfl
theorem mw_fieldLink_RX7_45_MirrorDrill_Reader_toldLines_I : (.fieldLink RX7 45 "MirrorDrill$Reader" "toldLines" "I" : Cond) ∈ BIG := big_tab (by decide +kernel) rfl
theorem mw_fieldLink_RX7_48_MirrorDrill_Reader_toldMen_I : (.fieldLink RX7 48 "MirrorDrill$Reader" "toldMen" "I" : Cond) ∈ BIG := big_tab (by decide +kernel) rfl
theorem mw_fieldLink_RX7_114_MirrorDrill_Drill_moves_I : (.fieldLink RX7 114 "MirrorDrill$Drill" "moves" "I" : Cond) ∈ BIG := big_tab (by decide +kernel) rfl
theorem mw_fieldLink_RX7_123_MirrorDrill_Drill_rules_I : (.fieldLink RX7 123 "MirrorDrill$Drill" "rules" "I" : Cond) ∈ BIG := big_tab (by decide +kernel) rfl
theorem mw_fieldLink_RX7_164_MirrorDrill_Reader_top_I : (.fieldLink RX7 164 "MirrorDrill$Reader" "top" "I" : Cond) ∈ BIG := big_tab (by decide +kernel) rfl
theorem mw_fieldLink_RX7_161_MirrorDrill_Reader_unitsInOne_I : (.fieldLink RX7 161 "MirrorDrill$Reader" "unitsInOne" "I" : Cond) ∈ BIG := big_tab (by decide +kernel) rfl
theorem mw_fieldLink_RX7_216_MirrorDrill_Drill_units_I : (.fieldLink RX7 216 "MirrorDrill$Drill" "units" "I" : Cond) ∈ BIG := big_tab (by decide +kernel) rfl
theorem mw_fieldLink_RX7_191_MirrorDrill_Drill_ruleOf_I : (.fieldLink RX7 191 "MirrorDrill$Drill" "ruleOf" "[I" : Cond) ∈ BIG := big_tab (by decide +kernel) rfl
theorem mw_fieldLink_RX7_194_MirrorDrill_Drill_turned_I : (.fieldLink RX7 194 "MirrorDrill$Drill" "turned" "I" : Cond) ∈ BIG := big_tab (by decide +kernel) rfl
theorem mw_fieldLink_RX7_197_MirrorDrill_Drill_cracked_I : (.fieldLink RX7 197 "MirrorDrill$Drill" "cracked" "I" : Cond) ∈ BIG := big_tab (by decide +kernel) rfl
theorem mw_fieldLink_RX7_200_MirrorDrill_Drill_windows_I : (.fieldLink RX7 200 "MirrorDrill$Drill" "windows" "[I" : Cond) ∈ BIG := big_tab (by decide +kernel) rfl
theorem mw_fieldLink_RX7_129_MirrorDrill_Drill_men_I : (.fieldLink RX7 129 "MirrorDrill$Drill" "men" "I" : Cond) ∈ BIG := big_tab (by decide +kernel) rfl
theorem mw_fieldLink_RX7_175_MirrorDrill_Drill_first_J : (.fieldLink RX7 175 "MirrorDrill$Drill" "first" "J" : Cond) ∈ BIG := big_tab (by decide +kernel) rfl
theorem mw_fieldLink_RX7_155_MirrorDrill_Drill_worths_I : (.fieldLink RX7 155 "MirrorDrill$Drill" "worths" "[I" : Cond) ∈ BIG := big_tab (by decide +kernel) rfl
theorem mw_fieldLink_RX7_135_MirrorDrill_Drill_edge_I : (.fieldLink RX7 135 "MirrorDrill$Drill" "edge" "I" : Cond) ∈ BIG := big_tab (by decide +kernel) rfl
theorem mw_fieldLink_RX7_148_MirrorDrill_Drill_ring_Z : (.fieldLink RX7 148 "MirrorDrill$Drill" "ring" "Z" : Cond) ∈ BIG := big_tab (by decide +kernel) rfl
theorem mw_fieldLink_RX8_9_MirrorDrill_Witness_beatOf_I : (.fieldLink RX8 9 "MirrorDrill$Witness" "beatOf" "[I" : Cond) ∈ BIG := big_tab (by decide +kernel) rfl
theorem mw_fieldLink_RX8_15_MirrorDrill_Witness_manOf_I : (.fieldLink RX8 15 "MirrorDrill$Witness" "manOf" "[I" : Cond) ∈ BIG := big_tab (by decide +kernel) rfl
theorem mw_fieldLink_RX8_18_MirrorDrill_Witness_moveOf_I : (.fieldLink RX8 18 "MirrorDrill$Witness" "moveOf" "[I" : Cond) ∈ BIG := big_tab (by decide +kernel) rfl
theorem mw_fieldLink_RX8_21_MirrorDrill_Witness_toldAt_I : (.fieldLink RX8 21 "MirrorDrill$Witness" "toldAt" "[I" : Cond) ∈ BIG := big_tab (by decide +kernel) rfl
theorem mw_fieldLink_RX8_24_MirrorDrill_Witness_untoldAt_I : (.fieldLink RX8 24 "MirrorDrill$Witness" "untoldAt" "[I" : Cond) ∈ BIG := big_tab (by decide +kernel) rfl
theorem mw_fieldLink_RX8_27_MirrorDrill_Witness_sights_I : (.fieldLink RX8 27 "MirrorDrill$Witness" "sights" "I" : Cond) ∈ BIG := big_tab (by decide +kernel) rfl
theorem mw_fieldLink_RX8_31_MirrorDrill_Witness_unsureMen_I : (.fieldLink RX8 31 "MirrorDrill$Witness" "unsureMen" "I" : Cond) ∈ BIG := big_tab (by decide +kernel) rfl
theorem mw_fieldLink_RX8_34_MirrorDrill_Witness_cells_J : (.fieldLink RX8 34 "MirrorDrill$Witness" "cells" "[J" : Cond) ∈ BIG := big_tab (by decide +kernel) rfl
theorem mw_fieldLink_RX8_38_MirrorDrill_Witness_contents_J : (.fieldLink RX8 38 "MirrorDrill$Witness" "contents" "[J" : Cond) ∈ BIG := big_tab (by decide +kernel) rfl
theorem mw_fieldLink_RX8_41_MirrorDrill_Witness_unsureOnes_I : (.fieldLink RX8 41 "MirrorDrill$Witness" "unsureOnes" "[I" : Cond) ∈ BIG := big_tab (by decide +kernel) rfl
theorem mw_fieldLink_RX8_44_MirrorDrill_Witness_known_Z : (.fieldLink RX8 44 "MirrorDrill$Witness" "known" "Z" : Cond) ∈ BIG := big_tab (by decide +kernel) rfl
theorem mw_fieldLink_RX8_48_MirrorDrill_Witness_movesFitting_I : (.fieldLink RX8 48 "MirrorDrill$Witness" "movesFitting" "[I" : Cond) ∈ BIG := big_tab (by decide +kernel) rfl
theorem mw_fieldLink_RX8_64_MirrorDrill_Witness_clash_Z : (.fieldLink RX8 64 "MirrorDrill$Witness" "clash" "Z" : Cond) ∈ BIG := big_tab (by decide +kernel) rfl
theorem mw_fieldLink_RX8_61_MirrorDrill_Witness_lastBeat_I : (.fieldLink RX8 61 "MirrorDrill$Witness" "lastBeat" "I" : Cond) ∈ BIG := big_tab (by decide +kernel) rfl
theorem mw_fieldLink_RX8_51_MirrorDrill_Witness_drill_LMirrorDrill_Drill : (.fieldLink RX8 51 "MirrorDrill$Witness" "drill" "LMirrorDrill$Drill;" : Cond) ∈ BIG := big_tab (by decide +kernel) rfl
theorem mw_fieldLink_RX8_116_MirrorDrill_Drill_men_I : (.fieldLink RX8 116 "MirrorDrill$Drill" "men" "I" : Cond) ∈ BIG := big_tab (by decide +kernel) rfl
theorem mw_fieldLink_RX8_145_MirrorDrill_Drill_first_J : (.fieldLink RX8 145 "MirrorDrill$Drill" "first" "J" : Cond) ∈ BIG := big_tab (by decide +kernel) rfl
theorem mw_fieldLink_RX8_127_MirrorDrill_Drill_moves_I : (.fieldLink RX8 127 "MirrorDrill$Drill" "moves" "I" : Cond) ∈ BIG := big_tab (by decide +kernel) rfl
theorem mw_fieldLink_RX8_113_MirrorDrill_Witness_fitting_I : (.fieldLink RX8 113 "MirrorDrill$Witness" "fitting" "I" : Cond) ∈ BIG := big_tab (by decide +kernel) rfl
theorem mw_fieldLink_RX8_107_MirrorDrill_Witness_knownSights_I : (.fieldLink RX8 107 "MirrorDrill$Witness" "knownSights" "I" : Cond) ∈ BIG := big_tab (by decide +kernel) rfl
theorem mw_fieldLink_RX8_152_MirrorDrill_Drill_windows_I : (.fieldLink RX8 152 "MirrorDrill$Drill" "windows" "[I" : Cond) ∈ BIG := big_tab (by decide +kernel) rfl
theorem mw_fieldLink_RX9_9_MirrorDrill_tape_I : (.fieldLink RX9 9 "MirrorDrill" "tape" "[I" : Cond) ∈ BIG := big_tab (by decide +kernel) rfl
theorem mw_fieldLink_RX9_13_MirrorDrill_taped_I : (.fieldLink RX9 13 "MirrorDrill" "taped" "I" : Cond) ∈ BIG := big_tab (by decide +kernel) rfl
theorem mw_fieldLink_RX9_20_MirrorDrill_reader_LMirrorDrill_Reader : (.fieldLink RX9 20 "MirrorDrill" "reader" "LMirrorDrill$Reader;" : Cond) ∈ BIG := big_tab (by decide +kernel) rfl
theorem mw_fieldLink_RX9_27_MirrorDrill_drill_LMirrorDrill_Drill : (.fieldLink RX9 27 "MirrorDrill" "drill" "LMirrorDrill$Drill;" : Cond) ∈ BIG := big_tab (by decide +kernel) rfl
theorem mw_fieldLink_RX9_31_MirrorDrill_spare_LMirrorDrill_Drill : (.fieldLink RX9 31 "MirrorDrill" "spare" "LMirrorDrill$Drill;" : Cond) ∈ BIG := big_tab (by decide +kernel) rfl
theorem mw_fieldLink_RX9_34_MirrorDrill_fault_I : (.fieldLink RX9 34 "MirrorDrill" "fault" "I" : Cond) ∈ BIG := big_tab (by decide +kernel) rfl
theorem mw_fieldLink_RX9_37_MirrorDrill_faultPlace_I : (.fieldLink RX9 37 "MirrorDrill" "faultPlace" "I" : Cond) ∈ BIG := big_tab (by decide +kernel) rfl
theorem mw_fieldLink_RX9_43_MirrorDrill_earnest_LMirrorDrill_Earnest : (.fieldLink RX9 43 "MirrorDrill" "earnest" "LMirrorDrill$Earnest;" : Cond) ∈ BIG := big_tab (by decide +kernel) rfl
theorem mw_fieldLink_RX9_47_MirrorDrill_boxRows_J : (.fieldLink RX9 47 "MirrorDrill" "boxRows" "[J" : Cond) ∈ BIG := big_tab (by decide +kernel) rfl
theorem mw_fieldLink_RX9_51_MirrorDrill_boxBeats_I : (.fieldLink RX9 51 "MirrorDrill" "boxBeats" "[I" : Cond) ∈ BIG := big_tab (by decide +kernel) rfl
theorem mw_fieldLink_RX9_57_MirrorDrill_pile_LMirrorDrill_Pile : (.fieldLink RX9 57 "MirrorDrill" "pile" "LMirrorDrill$Pile;" : Cond) ∈ BIG := big_tab (by decide +kernel) rfl
theorem mw_fieldLink_RX9_61_MirrorDrill_time_I : (.fieldLink RX9 61 "MirrorDrill" "time" "I" : Cond) ∈ BIG := big_tab (by decide +kernel) rfl
theorem mw_fieldLink_RX9_67_MirrorDrill_course_LMirrorDrill_Course : (.fieldLink RX9 67 "MirrorDrill" "course" "LMirrorDrill$Course;" : Cond) ∈ BIG := big_tab (by decide +kernel) rfl
theorem mw_fieldLink_RX9_74_MirrorDrill_forebears_LMirrorDrill_Forebears : (.fieldLink RX9 74 "MirrorDrill" "forebears" "LMirrorDrill$Forebears;" : Cond) ∈ BIG := big_tab (by decide +kernel) rfl
theorem mw_fieldLink_RX9_81_MirrorDrill_endless_LMirrorDrill_Endless : (.fieldLink RX9 81 "MirrorDrill" "endless" "LMirrorDrill$Endless;" : Cond) ∈ BIG := big_tab (by decide +kernel) rfl
theorem mw_fieldLink_RX9_88_MirrorDrill_changes_LMirrorDrill_Changes : (.fieldLink RX9 88 "MirrorDrill" "changes" "LMirrorDrill$Changes;" : Cond) ∈ BIG := big_tab (by decide +kernel) rfl
theorem mw_fieldLink_RX9_95_MirrorDrill_witness_LMirrorDrill_Witness : (.fieldLink RX9 95 "MirrorDrill" "witness" "LMirrorDrill$Witness;" : Cond) ∈ BIG := big_tab (by decide +kernel) rfl
theorem mw_fieldLink_RX9_124_MirrorDrill_Drill_first_J : (.fieldLink RX9 124 "MirrorDrill$Drill" "first" "J" : Cond) ∈ BIG := big_tab (by decide +kernel) rfl
theorem mw_fieldLink_RX9_144_MirrorDrill_Drill_men_I : (.fieldLink RX9 144 "MirrorDrill$Drill" "men" "I" : Cond) ∈ BIG := big_tab (by decide +kernel) rfl
theorem mw_fieldLink_RX9_285_MirrorDrill_Drill_moves_I : (.fieldLink RX9 285 "MirrorDrill$Drill" "moves" "I" : Cond) ∈ BIG := big_tab (by decide +kernel) rfl
theorem mw_fieldLink_RX9_297_MirrorDrill_Drill_rules_I : (.fieldLink RX9 297 "MirrorDrill$Drill" "rules" "I" : Cond) ∈ BIG := big_tab (by decide +kernel) rfl
theorem mw_fieldLink_RX9_309_MirrorDrill_Drill_units_I : (.fieldLink RX9 309 "MirrorDrill$Drill" "units" "I" : Cond) ∈ BIG := big_tab (by decide +kernel) rfl
theorem mw_fieldLink_RX9_312_MirrorDrill_Drill_ring_Z : (.fieldLink RX9 312 "MirrorDrill$Drill" "ring" "Z" : Cond) ∈ BIG := big_tab (by decide +kernel) rfl
theorem mw_fieldLink_RX10_20_MirrorDrillModel_moves_I : (.fieldLink RX10 20 "MirrorDrillModel" "moves" "[I" : Cond) ∈ BIG := big_tab (by decide +kernel) rfl
theorem mw_fieldLink_RX10_273_MirrorDrillModel_rb_I : (.fieldLink RX10 273 "MirrorDrillModel" "rb" "I" : Cond) ∈ BIG := big_tab (by decide +kernel) rfl
theorem mw_fieldLink_RX10_24_MirrorDrillModel_men_I : (.fieldLink RX10 24 "MirrorDrillModel" "men" "[I" : Cond) ∈ BIG := big_tab (by decide +kernel) rfl
theorem mw_fieldLink_RX10_27_MirrorDrillModel_rules_I : (.fieldLink RX10 27 "MirrorDrillModel" "rules" "[I" : Cond) ∈ BIG := big_tab (by decide +kernel) rfl
theorem mw_fieldLink_RX10_30_MirrorDrillModel_unitsOf_I : (.fieldLink RX10 30 "MirrorDrillModel" "unitsOf" "[I" : Cond) ∈ BIG := big_tab (by decide +kernel) rfl
theorem mw_fieldLink_RX10_33_MirrorDrillModel_edge_I : (.fieldLink RX10 33 "MirrorDrillModel" "edge" "[I" : Cond) ∈ BIG := big_tab (by decide +kernel) rfl
theorem mw_fieldLink_RX10_57_MirrorDrillModel_isMoves_Z : (.fieldLink RX10 57 "MirrorDrillModel" "isMoves" "[Z" : Cond) ∈ BIG := big_tab (by decide +kernel) rfl
theorem mw_fieldLink_RX10_61_MirrorDrillModel_isMen_Z : (.fieldLink RX10 61 "MirrorDrillModel" "isMen" "[Z" : Cond) ∈ BIG := big_tab (by decide +kernel) rfl
theorem mw_fieldLink_RX10_64_MirrorDrillModel_isRing_Z : (.fieldLink RX10 64 "MirrorDrillModel" "isRing" "[Z" : Cond) ∈ BIG := big_tab (by decide +kernel) rfl
theorem mw_fieldLink_RX10_67_MirrorDrillModel_isEdge_Z : (.fieldLink RX10 67 "MirrorDrillModel" "isEdge" "[Z" : Cond) ∈ BIG := big_tab (by decide +kernel) rfl
theorem mw_fieldLink_RX10_70_MirrorDrillModel_isWorth_Z : (.fieldLink RX10 70 "MirrorDrillModel" "isWorth" "[Z" : Cond) ∈ BIG := big_tab (by decide +kernel) rfl
theorem mw_fieldLink_RX10_276_MirrorDrillModel_codes_I : (.fieldLink RX10 276 "MirrorDrillModel" "codes" "I" : Cond) ∈ BIG := big_tab (by decide +kernel) rfl
theorem mw_fieldLink_RX10_36_MirrorDrillModel_worthOf_I : (.fieldLink RX10 36 "MirrorDrillModel" "worthOf" "[I" : Cond) ∈ BIG := big_tab (by decide +kernel) rfl
theorem mw_fieldLink_RX10_48_MirrorDrillModel_first_I : (.fieldLink RX10 48 "MirrorDrillModel" "first" "[I" : Cond) ∈ BIG := big_tab (by decide +kernel) rfl
theorem mw_fieldLink_RX10_51_MirrorDrillModel_byRule_I : (.fieldLink RX10 51 "MirrorDrillModel" "byRule" "[I" : Cond) ∈ BIG := big_tab (by decide +kernel) rfl
theorem mw_fieldLink_RX10_54_MirrorDrillModel_window_I : (.fieldLink RX10 54 "MirrorDrillModel" "window" "[I" : Cond) ∈ BIG := big_tab (by decide +kernel) rfl
theorem mw_fieldLink_RX10_73_MirrorDrillModel_isTurned_Z : (.fieldLink RX10 73 "MirrorDrillModel" "isTurned" "[Z" : Cond) ∈ BIG := big_tab (by decide +kernel) rfl
theorem mw_fieldLink_RX10_76_MirrorDrillModel_isCracked_Z : (.fieldLink RX10 76 "MirrorDrillModel" "isCracked" "[Z" : Cond) ∈ BIG := big_tab (by decide +kernel) rfl
theorem mw_fieldLink_RX10_79_MirrorDrillModel_isTold_Z : (.fieldLink RX10 79 "MirrorDrillModel" "isTold" "[Z" : Cond) ∈ BIG := big_tab (by decide +kernel) rfl
theorem mw_fieldLink_RX10_101_MirrorDrillModel_row_I : (.fieldLink RX10 101 "MirrorDrillModel" "row" "[I" : Cond) ∈ BIG := big_tab (by decide +kernel) rfl
theorem mw_fieldLink_RX10_282_MirrorDrillModel_bank_I : (.fieldLink RX10 282 "MirrorDrillModel" "bank" "I" : Cond) ∈ BIG := big_tab (by decide +kernel) rfl
theorem mw_fieldLink_RX10_107_MirrorDrillModel_now_I : (.fieldLink RX10 107 "MirrorDrillModel" "now" "[I" : Cond) ∈ BIG := big_tab (by decide +kernel) rfl
theorem mw_fieldLink_RX10_388_MirrorDrillModel_beats_I : (.fieldLink RX10 388 "MirrorDrillModel" "beats" "I" : Cond) ∈ BIG := big_tab (by decide +kernel) rfl
theorem mw_fieldLink_RX10_391_MirrorDrillModel_acts_I : (.fieldLink RX10 391 "MirrorDrillModel" "acts" "I" : Cond) ∈ BIG := big_tab (by decide +kernel) rfl
theorem mw_fieldLink_RX10_394_MirrorDrillModel_undone_I : (.fieldLink RX10 394 "MirrorDrillModel" "undone" "I" : Cond) ∈ BIG := big_tab (by decide +kernel) rfl
theorem mw_fieldLink_RX10_7_MirrorDrillModel_tape_B : (.fieldLink RX10 7 "MirrorDrillModel" "tape" "[B" : Cond) ∈ BIG := big_tab (by decide +kernel) rfl
theorem mw_fieldLink_RX10_13_MirrorDrillModel_text_B : (.fieldLink RX10 13 "MirrorDrillModel" "text" "[B" : Cond) ∈ BIG := big_tab (by decide +kernel) rfl
theorem mw_fieldLink_RX10_16_MirrorDrillModel_faultPlace_I : (.fieldLink RX10 16 "MirrorDrillModel" "faultPlace" "I" : Cond) ∈ BIG := big_tab (by decide +kernel) rfl
theorem mw_fieldLink_RX10_39_MirrorDrillModel_ruleFrom_I : (.fieldLink RX10 39 "MirrorDrillModel" "ruleFrom" "[I" : Cond) ∈ BIG := big_tab (by decide +kernel) rfl
theorem mw_fieldLink_RX10_42_MirrorDrillModel_ruleTo_I : (.fieldLink RX10 42 "MirrorDrillModel" "ruleTo" "[I" : Cond) ∈ BIG := big_tab (by decide +kernel) rfl
theorem mw_fieldLink_RX10_45_MirrorDrillModel_table_I : (.fieldLink RX10 45 "MirrorDrillModel" "table" "[I" : Cond) ∈ BIG := big_tab (by decide +kernel) rfl
theorem mw_fieldLink_RX10_82_MirrorDrillModel_rName_J : (.fieldLink RX10 82 "MirrorDrillModel" "rName" "[J" : Cond) ∈ BIG := big_tab (by decide +kernel) rfl
theorem mw_fieldLink_RX10_86_MirrorDrillModel_code_I : (.fieldLink RX10 86 "MirrorDrillModel" "code" "[I" : Cond) ∈ BIG := big_tab (by decide +kernel) rfl
theorem mw_fieldLink_RX10_89_MirrorDrillModel_codeNumber_I : (.fieldLink RX10 89 "MirrorDrillModel" "codeNumber" "[I" : Cond) ∈ BIG := big_tab (by decide +kernel) rfl
theorem mw_fieldLink_RX10_92_MirrorDrillModel_eWhat_I : (.fieldLink RX10 92 "MirrorDrillModel" "eWhat" "[I" : Cond) ∈ BIG := big_tab (by decide +kernel) rfl
theorem mw_fieldLink_RX10_95_MirrorDrillModel_eSign_I : (.fieldLink RX10 95 "MirrorDrillModel" "eSign" "[I" : Cond) ∈ BIG := big_tab (by decide +kernel) rfl
theorem mw_fieldLink_RX10_98_MirrorDrillModel_pile_I : (.fieldLink RX10 98 "MirrorDrillModel" "pile" "[I" : Cond) ∈ BIG := big_tab (by decide +kernel) rfl
theorem mw_fieldLink_RX10_104_MirrorDrillModel_next_I : (.fieldLink RX10 104 "MirrorDrillModel" "next" "[I" : Cond) ∈ BIG := big_tab (by decide +kernel) rfl
theorem mw_fieldLink_RX10_110_MirrorDrillModel_otherMan_I : (.fieldLink RX10 110 "MirrorDrillModel" "otherMan" "I" : Cond) ∈ BIG := big_tab (by decide +kernel) rfl
theorem mw_fieldLink_RX10_113_MirrorDrillModel_was_I : (.fieldLink RX10 113 "MirrorDrillModel" "was" "[I" : Cond) ∈ BIG := big_tab (by decide +kernel) rfl
theorem mw_fieldLink_RX10_116_MirrorDrillModel_seen_J : (.fieldLink RX10 116 "MirrorDrillModel" "seen" "[J" : Cond) ∈ BIG := big_tab (by decide +kernel) rfl
theorem mw_fieldLink_RX10_119_MirrorDrillModel_given_I : (.fieldLink RX10 119 "MirrorDrillModel" "given" "[I" : Cond) ∈ BIG := big_tab (by decide +kernel) rfl
theorem mw_fieldLink_RX10_122_MirrorDrillModel_ways_J : (.fieldLink RX10 122 "MirrorDrillModel" "ways" "[J" : Cond) ∈ BIG := big_tab (by decide +kernel) rfl
theorem mw_fieldLink_RX10_125_MirrorDrillModel_waysNext_J : (.fieldLink RX10 125 "MirrorDrillModel" "waysNext" "[J" : Cond) ∈ BIG := big_tab (by decide +kernel) rfl
theorem mw_fieldLink_RX10_128_MirrorDrillModel_laidRow_I : (.fieldLink RX10 128 "MirrorDrillModel" "laidRow" "[I" : Cond) ∈ BIG := big_tab (by decide +kernel) rfl
theorem mw_fieldLink_RX10_132_MirrorDrillModel_queue_I : (.fieldLink RX10 132 "MirrorDrillModel" "queue" "[I" : Cond) ∈ BIG := big_tab (by decide +kernel) rfl
theorem mw_fieldLink_RX10_135_MirrorDrillModel_cameFrom_I : (.fieldLink RX10 135 "MirrorDrillModel" "cameFrom" "[I" : Cond) ∈ BIG := big_tab (by decide +kernel) rfl
theorem mw_fieldLink_RX10_138_MirrorDrillModel_cameBy_B : (.fieldLink RX10 138 "MirrorDrillModel" "cameBy" "[B" : Cond) ∈ BIG := big_tab (by decide +kernel) rfl
theorem mw_fieldLink_RX10_141_MirrorDrillModel_isOn_Z : (.fieldLink RX10 141 "MirrorDrillModel" "isOn" "[Z" : Cond) ∈ BIG := big_tab (by decide +kernel) rfl
theorem mw_fieldLink_RX10_144_MirrorDrillModel_other_I : (.fieldLink RX10 144 "MirrorDrillModel" "other" "[I" : Cond) ∈ BIG := big_tab (by decide +kernel) rfl
theorem mw_fieldLink_RX10_147_MirrorDrillModel_pickMan_I : (.fieldLink RX10 147 "MirrorDrillModel" "pickMan" "[I" : Cond) ∈ BIG := big_tab (by decide +kernel) rfl
theorem mw_fieldLink_RX10_150_MirrorDrillModel_pickMove_I : (.fieldLink RX10 150 "MirrorDrillModel" "pickMove" "[I" : Cond) ∈ BIG := big_tab (by decide +kernel) rfl
theorem mw_fieldLink_RX10_153_MirrorDrillModel_gBeat_I : (.fieldLink RX10 153 "MirrorDrillModel" "gBeat" "[I" : Cond) ∈ BIG := big_tab (by decide +kernel) rfl
theorem mw_fieldLink_RX10_156_MirrorDrillModel_gMan_I : (.fieldLink RX10 156 "MirrorDrillModel" "gMan" "[I" : Cond) ∈ BIG := big_tab (by decide +kernel) rfl
theorem mw_fieldLink_RX10_159_MirrorDrillModel_gMove_I : (.fieldLink RX10 159 "MirrorDrillModel" "gMove" "[I" : Cond) ∈ BIG := big_tab (by decide +kernel) rfl
theorem mw_fieldLink_RX10_162_MirrorDrillModel_gTold_I : (.fieldLink RX10 162 "MirrorDrillModel" "gTold" "[I" : Cond) ∈ BIG := big_tab (by decide +kernel) rfl
theorem mw_fieldLink_RX10_165_MirrorDrillModel_gUntold_I : (.fieldLink RX10 165 "MirrorDrillModel" "gUntold" "[I" : Cond) ∈ BIG := big_tab (by decide +kernel) rfl
theorem mw_fieldLink_RX10_168_MirrorDrillModel_sureMoves_I : (.fieldLink RX10 168 "MirrorDrillModel" "sureMoves" "[I" : Cond) ∈ BIG := big_tab (by decide +kernel) rfl
theorem mw_fieldLink_RX10_171_MirrorDrillModel_boxBeats_I : (.fieldLink RX10 171 "MirrorDrillModel" "boxBeats" "[I" : Cond) ∈ BIG := big_tab (by decide +kernel) rfl
theorem mw_fieldLink_RX10_174_MirrorDrillModel_boxRow_I : (.fieldLink RX10 174 "MirrorDrillModel" "boxRow" "[I" : Cond) ∈ BIG := big_tab (by decide +kernel) rfl
theorem mw_fieldLink_RX10_183_MirrorDrillModel_size_I : (.fieldLink RX10 183 "MirrorDrillModel" "size" "I" : Cond) ∈ BIG := big_tab (by decide +kernel) rfl
theorem mw_fieldLink_RX10_186_MirrorDrillModel_faultKind_I : (.fieldLink RX10 186 "MirrorDrillModel" "faultKind" "I" : Cond) ∈ BIG := big_tab (by decide +kernel) rfl
theorem mw_fieldLink_RX10_225_MirrorDrillModel_end_I : (.fieldLink RX10 225 "MirrorDrillModel" "end" "I" : Cond) ∈ BIG := big_tab (by decide +kernel) rfl
theorem mw_fieldLink_RX10_228_MirrorDrillModel_at_I : (.fieldLink RX10 228 "MirrorDrillModel" "at" "I" : Cond) ∈ BIG := big_tab (by decide +kernel) rfl
theorem mw_fieldLink_RX10_235_MirrorDrillModel_token_I : (.fieldLink RX10 235 "MirrorDrillModel" "token" "I" : Cond) ∈ BIG := big_tab (by decide +kernel) rfl
theorem mw_fieldLink_RX10_242_MirrorDrillModel_name_J : (.fieldLink RX10 242 "MirrorDrillModel" "name" "J" : Cond) ∈ BIG := big_tab (by decide +kernel) rfl
theorem mw_fieldLink_RX10_253_MirrorDrillModel_number_I : (.fieldLink RX10 253 "MirrorDrillModel" "number" "I" : Cond) ∈ BIG := big_tab (by decide +kernel) rfl
theorem mw_fieldLink_RX10_340_MirrorDrillModel_piled_I : (.fieldLink RX10 340 "MirrorDrillModel" "piled" "I" : Cond) ∈ BIG := big_tab (by decide +kernel) rfl
theorem mw_fieldLink_RX10_327_MirrorDrillModel_unitsInRule_I : (.fieldLink RX10 327 "MirrorDrillModel" "unitsInRule" "I" : Cond) ∈ BIG := big_tab (by decide +kernel) rfl
theorem mw_fieldLink_RX10_343_MirrorDrillModel_within_I : (.fieldLink RX10 343 "MirrorDrillModel" "within" "I" : Cond) ∈ BIG := big_tab (by decide +kernel) rfl
theorem mw_fieldLink_RX10_279_MirrorDrillModel_taped_I : (.fieldLink RX10 279 "MirrorDrillModel" "taped" "I" : Cond) ∈ BIG := big_tab (by decide +kernel) rfl
theorem mw_fieldLink_RX10_291_MirrorDrillModel_sights_I : (.fieldLink RX10 291 "MirrorDrillModel" "sights" "I" : Cond) ∈ BIG := big_tab (by decide +kernel) rfl
theorem mw_fieldLink_RX10_294_MirrorDrillModel_unsureSet_I : (.fieldLink RX10 294 "MirrorDrillModel" "unsureSet" "I" : Cond) ∈ BIG := big_tab (by decide +kernel) rfl
theorem mw_fieldLink_RX10_297_MirrorDrillModel_laid_I : (.fieldLink RX10 297 "MirrorDrillModel" "laid" "I" : Cond) ∈ BIG := big_tab (by decide +kernel) rfl
theorem mw_fieldLink_RX10_397_MirrorDrillModel_otherWindow_I : (.fieldLink RX10 397 "MirrorDrillModel" "otherWindow" "I" : Cond) ∈ BIG := big_tab (by decide +kernel) rfl
theorem mw_fieldLink_RX10_400_MirrorDrillModel_moreCracked_I : (.fieldLink RX10 400 "MirrorDrillModel" "moreCracked" "I" : Cond) ∈ BIG := big_tab (by decide +kernel) rfl
theorem mw_fieldLink_RX10_450_MirrorDrillModel_tail_I : (.fieldLink RX10 450 "MirrorDrillModel" "tail" "I" : Cond) ∈ BIG := big_tab (by decide +kernel) rfl
theorem mw_fieldLink_RX10_453_MirrorDrillModel_loop_I : (.fieldLink RX10 453 "MirrorDrillModel" "loop" "I" : Cond) ∈ BIG := big_tab (by decide +kernel) rfl
theorem mw_fieldLink_RX10_476_MirrorDrillModel_isOrphan_Z : (.fieldLink RX10 476 "MirrorDrillModel" "isOrphan" "Z" : Cond) ∈ BIG := big_tab (by decide +kernel) rfl
theorem mw_fieldLink_RX10_524_MirrorDrillModel_time_I : (.fieldLink RX10 524 "MirrorDrillModel" "time" "I" : Cond) ∈ BIG := big_tab (by decide +kernel) rfl
theorem mw_methodLink_RX0_3_objectInit : (.methodLink RX0 3 objectInit : Cond) ∈ BIG := big_tab (by decide +kernel) rfl
theorem mw_methodLink_RX2_109_Lib : (.methodLink RX2 109 Lib : Cond) ∈ BIG := big_tab (by decide +kernel) rfl
theorem mw_methodLink_RX2_112_Lib : (.methodLink RX2 112 Lib : Cond) ∈ BIG := big_tab (by decide +kernel) rfl
theorem mw_methodLink_RX2_101_yX2_widened : (.methodLink RX2 101 yX2_widened : Cond) ∈ BIG := big_tab (by decide +kernel) rfl
theorem mw_methodLink_RX2_105_yX2_stepsOf : (.methodLink RX2 105 yX2_stepsOf : Cond) ∈ BIG := big_tab (by decide +kernel) rfl
theorem mw_methodLink_RX0_40_yX2_afterNear : (.methodLink RX0 40 yX2_afterNear : Cond) ∈ BIG := big_tab (by decide +kernel) rfl
theorem mw_methodLink_RX0_81_yX0_comesTrue : (.methodLink RX0 81 yX0_comesTrue : Cond) ∈ BIG := big_tab (by decide +kernel) rfl
theorem mw_methodLink_RX0_71_yX0_orderMoves : (.methodLink RX0 71 yX0_orderMoves : Cond) ∈ BIG := big_tab (by decide +kernel) rfl
theorem mw_methodLink_RX2_115_Lib : (.methodLink RX2 115 Lib : Cond) ∈ BIG := big_tab (by decide +kernel) rfl
theorem mw_methodLink_RX0_77_yX2_isNear : (.methodLink RX0 77 yX2_isNear : Cond) ∈ BIG := big_tab (by decide +kernel) rfl
theorem mw_methodLink_RX0_57_yX0_orderMen : (.methodLink RX0 57 yX0_orderMen : Cond) ∈ BIG := big_tab (by decide +kernel) rfl
theorem mw_methodLink_RX6_27_Lib : (.methodLink RX6 27 Lib : Cond) ∈ BIG := big_tab (by decide +kernel) rfl
theorem mw_methodLink_RX6_33_yJ7_copyOf_59c91 : (.methodLink RX6 33 yJ7_copyOf_59c91 : Cond) ∈ BIG := big_tab (by decide +kernel) rfl
theorem mw_methodLink_RX6_19_yX6_reserve : (.methodLink RX6 19 yX6_reserve : Cond) ∈ BIG := big_tab (by decide +kernel) rfl
theorem mw_methodLink_RX6_23_yX6_put : (.methodLink RX6 23 yX6_put : Cond) ∈ BIG := big_tab (by decide +kernel) rfl
theorem mw_methodLink_RX0_65_yX6_add : (.methodLink RX0 65 yX6_add : Cond) ∈ BIG := big_tab (by decide +kernel) rfl
theorem mw_methodLink_RX0_50_yX0_isSoAnyway : (.methodLink RX0 50 yX0_isSoAnyway : Cond) ∈ BIG := big_tab (by decide +kernel) rfl
theorem mw_methodLink_RX0_61_yX0_layMen : (.methodLink RX0 61 yX0_layMen : Cond) ∈ BIG := big_tab (by decide +kernel) rfl
theorem mw_methodLink_RX0_94_yX0_comesTrueCracked : (.methodLink RX0 94 yX0_comesTrueCracked : Cond) ∈ BIG := big_tab (by decide +kernel) rfl
theorem mw_methodLink_RX0_90_yX0_crackMen : (.methodLink RX0 90 yX0_crackMen : Cond) ∈ BIG := big_tab (by decide +kernel) rfl
theorem mw_methodLink_RX1_3_objectInit : (.methodLink RX1 3 objectInit : Cond) ∈ BIG := big_tab (by decide +kernel) rfl
theorem mw_methodLink_RX1_38_yX2_after : (.methodLink RX1 38 yX2_after : Cond) ∈ BIG := big_tab (by decide +kernel) rfl
theorem mw_methodLink_RX1_34_yX1_findLoop : (.methodLink RX1 34 yX1_findLoop : Cond) ∈ BIG := big_tab (by decide +kernel) rfl
theorem mw_methodLink_RX1_30_yX1_follow : (.methodLink RX1 30 yX1_follow : Cond) ∈ BIG := big_tab (by decide +kernel) rfl
theorem mw_methodLink_RX2_3_objectInit : (.methodLink RX2 3 objectInit : Cond) ∈ BIG := big_tab (by decide +kernel) rfl
theorem mw_methodLink_RX2_61_yJ7_fill_53178 : (.methodLink RX2 61 yJ7_fill_53178 : Cond) ∈ BIG := big_tab (by decide +kernel) rfl
theorem mw_methodLink_RX2_67_yJ9_floorMod_7cf53 : (.methodLink RX2 67 yJ9_floorMod_7cf53 : Cond) ∈ BIG := big_tab (by decide +kernel) rfl
theorem mw_methodLink_RX2_94_yX2_isCracked : (.methodLink RX2 94 yX2_isCracked : Cond) ∈ BIG := big_tab (by decide +kernel) rfl
theorem mw_methodLink_RX2_84_yX2_stays : (.methodLink RX2 84 yX2_stays : Cond) ∈ BIG := big_tab (by decide +kernel) rfl
theorem mw_methodLink_RX2_91_yX2_makes : (.methodLink RX2 91 yX2_makes : Cond) ∈ BIG := big_tab (by decide +kernel) rfl
theorem mw_methodLink_RX2_80_yX2_throughWindow : (.methodLink RX2 80 yX2_throughWindow : Cond) ∈ BIG := big_tab (by decide +kernel) rfl
theorem mw_methodLink_RX2_73_yX2_told : (.methodLink RX2 73 yX2_told : Cond) ∈ BIG := big_tab (by decide +kernel) rfl
theorem mw_methodLink_RX2_77_yX2_doesBy : (.methodLink RX2 77 yX2_doesBy : Cond) ∈ BIG := big_tab (by decide +kernel) rfl
theorem mw_methodLink_RX2_119_yX2_after : (.methodLink RX2 119 yX2_after : Cond) ∈ BIG := big_tab (by decide +kernel) rfl
theorem mw_methodLink_RX3_3_objectInit : (.methodLink RX3 3 objectInit : Cond) ∈ BIG := big_tab (by decide +kernel) rfl
theorem mw_methodLink_RX3_26_arraycopyName : (.methodLink RX3 26 arraycopyName : Cond) ∈ BIG := big_tab (by decide +kernel) rfl
theorem mw_methodLink_RX4_5_objectInit : (.methodLink RX4 5 objectInit : Cond) ∈ BIG := big_tab (by decide +kernel) rfl
theorem mw_methodLink_RX4_49_yX2_makes : (.methodLink RX4 49 yX2_makes : Cond) ∈ BIG := big_tab (by decide +kernel) rfl
theorem mw_methodLink_RX4_83_yX4_leftOf : (.methodLink RX4 83 yX4_leftOf : Cond) ∈ BIG := big_tab (by decide +kernel) rfl
theorem mw_methodLink_RX4_87_yX4_ownOf : (.methodLink RX4 87 yX4_ownOf : Cond) ∈ BIG := big_tab (by decide +kernel) rfl
theorem mw_methodLink_RX4_90_yX4_makes : (.methodLink RX4 90 yX4_makes : Cond) ∈ BIG := big_tab (by decide +kernel) rfl
theorem mw_methodLink_RX4_80_yX4_leadsOf : (.methodLink RX4 80 yX4_leadsOf : Cond) ∈ BIG := big_tab (by decide +kernel) rfl
theorem mw_methodLink_RX4_103_yJ7_copyOf_59c91 : (.methodLink RX4 103 yJ7_copyOf_59c91 : Cond) ∈ BIG := big_tab (by decide +kernel) rfl
theorem mw_methodLink_RX4_92_Lib : (.methodLink RX4 92 Lib : Cond) ∈ BIG := big_tab (by decide +kernel) rfl
theorem mw_methodLink_RX4_97_yJ7_fill_53178 : (.methodLink RX4 97 yJ7_fill_53178 : Cond) ∈ BIG := big_tab (by decide +kernel) rfl
theorem mw_methodLink_RX4_76_yX4_enqueue : (.methodLink RX4 76 yX4_enqueue : Cond) ∈ BIG := big_tab (by decide +kernel) rfl
theorem mw_methodLink_RX4_68_yX4_behind : (.methodLink RX4 68 yX4_behind : Cond) ∈ BIG := big_tab (by decide +kernel) rfl
theorem mw_methodLink_RX4_107_yX6_reserve : (.methodLink RX4 107 yX6_reserve : Cond) ∈ BIG := big_tab (by decide +kernel) rfl
theorem mw_methodLink_RX4_113_yX6_put : (.methodLink RX4 113 yX6_put : Cond) ∈ BIG := big_tab (by decide +kernel) rfl
theorem mw_methodLink_RX4_116_yX4_moveBetween : (.methodLink RX4 116 yX4_moveBetween : Cond) ∈ BIG := big_tab (by decide +kernel) rfl
theorem mw_methodLink_RX4_53_yX4_take : (.methodLink RX4 53 yX4_take : Cond) ∈ BIG := big_tab (by decide +kernel) rfl
theorem mw_methodLink_RX4_57_yX4_layLeads : (.methodLink RX4 57 yX4_layLeads : Cond) ∈ BIG := big_tab (by decide +kernel) rfl
theorem mw_methodLink_RX4_60_yX4_beginQueue : (.methodLink RX4 60 yX4_beginQueue : Cond) ∈ BIG := big_tab (by decide +kernel) rfl
theorem mw_methodLink_RX4_72_yX4_layWord : (.methodLink RX4 72 yX4_layWord : Cond) ∈ BIG := big_tab (by decide +kernel) rfl
theorem mw_methodLink_RX4_123_yX4_walkTogether : (.methodLink RX4 123 yX4_walkTogether : Cond) ∈ BIG := big_tab (by decide +kernel) rfl
theorem mw_methodLink_RX4_127_yX4_goesOn : (.methodLink RX4 127 yX4_goesOn : Cond) ∈ BIG := big_tab (by decide +kernel) rfl
theorem mw_methodLink_RX4_130_yX4_cameFrom : (.methodLink RX4 130 yX4_cameFrom : Cond) ∈ BIG := big_tab (by decide +kernel) rfl
theorem mw_methodLink_RX4_119_yX4_thinOut : (.methodLink RX4 119 yX4_thinOut : Cond) ∈ BIG := big_tab (by decide +kernel) rfl
theorem mw_methodLink_RX4_136_yX4_isRing : (.methodLink RX4 136 yX4_isRing : Cond) ∈ BIG := big_tab (by decide +kernel) rfl
theorem mw_methodLink_RX4_139_yX4_gainOf : (.methodLink RX4 139 yX4_gainOf : Cond) ∈ BIG := big_tab (by decide +kernel) rfl
theorem mw_methodLink_RX5_3_objectInit : (.methodLink RX5 3 objectInit : Cond) ∈ BIG := big_tab (by decide +kernel) rfl
theorem mw_methodLink_RX5_80_yX2_doesBy : (.methodLink RX5 80 yX2_doesBy : Cond) ∈ BIG := big_tab (by decide +kernel) rfl
theorem mw_methodLink_RX5_73_yX5_leads : (.methodLink RX5 73 yX5_leads : Cond) ∈ BIG := big_tab (by decide +kernel) rfl
theorem mw_methodLink_RX5_61_yX5_wayAt : (.methodLink RX5 61 yX5_wayAt : Cond) ∈ BIG := big_tab (by decide +kernel) rfl
theorem mw_methodLink_RX5_65_yX5_waysAtEnd : (.methodLink RX5 65 yX5_waysAtEnd : Cond) ∈ BIG := big_tab (by decide +kernel) rfl
theorem mw_methodLink_RX5_69_yX5_waysBehind : (.methodLink RX5 69 yX5_waysBehind : Cond) ∈ BIG := big_tab (by decide +kernel) rfl
theorem mw_methodLink_RX5_88_yX5_firstBehind : (.methodLink RX5 88 yX5_firstBehind : Cond) ∈ BIG := big_tab (by decide +kernel) rfl
theorem mw_methodLink_RX5_84_yX5_keyOfFirst : (.methodLink RX5 84 yX5_keyOfFirst : Cond) ∈ BIG := big_tab (by decide +kernel) rfl
theorem mw_methodLink_RX5_51_yX5_layWays : (.methodLink RX5 51 yX5_layWays : Cond) ∈ BIG := big_tab (by decide +kernel) rfl
theorem mw_methodLink_RX5_58_yX5_addUp : (.methodLink RX5 58 yX5_addUp : Cond) ∈ BIG := big_tab (by decide +kernel) rfl
theorem mw_methodLink_RX5_45_yX5_seekInRing : (.methodLink RX5 45 yX5_seekInRing : Cond) ∈ BIG := big_tab (by decide +kernel) rfl
theorem mw_methodLink_RX6_3_objectInit : (.methodLink RX6 3 objectInit : Cond) ∈ BIG := big_tab (by decide +kernel) rfl
theorem mw_methodLink_RX7_3_objectInit : (.methodLink RX7 3 objectInit : Cond) ∈ BIG := big_tab (by decide +kernel) rfl
theorem mw_methodLink_RX7_69_yX7_isLetter : (.methodLink RX7 69 yX7_isLetter : Cond) ∈ BIG := big_tab (by decide +kernel) rfl
theorem mw_methodLink_RX7_104_yJ0_length_8abf5 : (.methodLink RX7 104 yJ0_length_8abf5 : Cond) ∈ BIG := big_tab (by decide +kernel) rfl
theorem mw_methodLink_RX7_107_yJ0_charAt_5068e : (.methodLink RX7 107 yJ0_charAt_5068e : Cond) ∈ BIG := big_tab (by decide +kernel) rfl
theorem mw_methodLink_RX7_83_yX7_isDigit : (.methodLink RX7 83 yX7_isDigit : Cond) ∈ BIG := big_tab (by decide +kernel) rfl
theorem mw_methodLink_RX7_65_yX7_isBlank : (.methodLink RX7 65 yX7_isBlank : Cond) ∈ BIG := big_tab (by decide +kernel) rfl
theorem mw_methodLink_RX7_72_yX7_packWord : (.methodLink RX7 72 yX7_packWord : Cond) ∈ BIG := big_tab (by decide +kernel) rfl
theorem mw_methodLink_RX7_79_yX7_wordToken : (.methodLink RX7 79 yX7_wordToken : Cond) ∈ BIG := big_tab (by decide +kernel) rfl
theorem mw_methodLink_RX7_86_yX7_scanNumber : (.methodLink RX7 86 yX7_scanNumber : Cond) ∈ BIG := big_tab (by decide +kernel) rfl
theorem mw_methodLink_RX7_91_yJ0_indexOf_0f7a4 : (.methodLink RX7 91 yJ0_indexOf_0f7a4 : Cond) ∈ BIG := big_tab (by decide +kernel) rfl
theorem mw_methodLink_RX7_29_Lib : (.methodLink RX7 29 Lib : Cond) ∈ BIG := big_tab (by decide +kernel) rfl
theorem mw_methodLink_RX7_51_yX2_clear : (.methodLink RX7 51 yX2_clear : Cond) ∈ BIG := big_tab (by decide +kernel) rfl
theorem mw_methodLink_RX7_56_yX7_advance : (.methodLink RX7 56 yX7_advance : Cond) ∈ BIG := big_tab (by decide +kernel) rfl
theorem mw_methodLink_RX7_111_yX7_refuse : (.methodLink RX7 111 yX7_refuse : Cond) ∈ BIG := big_tab (by decide +kernel) rfl
theorem mw_methodLink_RX7_117_yX7_takeNumber : (.methodLink RX7 117 yX7_takeNumber : Cond) ∈ BIG := big_tab (by decide +kernel) rfl
theorem mw_methodLink_RX7_120_yX7_isTold : (.methodLink RX7 120 yX7_isTold : Cond) ∈ BIG := big_tab (by decide +kernel) rfl
theorem mw_methodLink_RX7_225_yX7_joined : (.methodLink RX7 225 yX7_joined : Cond) ∈ BIG := big_tab (by decide +kernel) rfl
theorem mw_methodLink_RX7_222_yX7_valueOf : (.methodLink RX7 222 yX7_valueOf : Cond) ∈ BIG := big_tab (by decide +kernel) rfl
theorem mw_methodLink_RX7_203_yX7_readUnit : (.methodLink RX7 203 yX7_readUnit : Cond) ∈ BIG := big_tab (by decide +kernel) rfl
theorem mw_methodLink_RX7_206_yX7_readNot : (.methodLink RX7 206 yX7_readNot : Cond) ∈ BIG := big_tab (by decide +kernel) rfl
theorem mw_methodLink_RX7_167_yX7_readFormula : (.methodLink RX7 167 yX7_readFormula : Cond) ∈ BIG := big_tab (by decide +kernel) rfl
theorem mw_methodLink_RX7_209_yX7_levelOf : (.methodLink RX7 209 yX7_levelOf : Cond) ∈ BIG := big_tab (by decide +kernel) rfl
theorem mw_methodLink_RX7_212_yX7_joinParts : (.methodLink RX7 212 yX7_joinParts : Cond) ∈ BIG := big_tab (by decide +kernel) rfl
theorem mw_methodLink_RX7_219_yX7_layPart : (.methodLink RX7 219 yX7_layPart : Cond) ∈ BIG := big_tab (by decide +kernel) rfl
theorem mw_methodLink_RX7_152_yX7_expect : (.methodLink RX7 152 yX7_expect : Cond) ∈ BIG := big_tab (by decide +kernel) rfl
theorem mw_methodLink_RX7_158_yX7_ruleNamed : (.methodLink RX7 158 yX7_ruleNamed : Cond) ∈ BIG := big_tab (by decide +kernel) rfl
theorem mw_methodLink_RX7_171_yX2_setMade : (.methodLink RX7 171 yX2_setMade : Cond) ∈ BIG := big_tab (by decide +kernel) rfl
theorem mw_methodLink_RX7_132_yX7_takeMove : (.methodLink RX7 132 yX7_takeMove : Cond) ∈ BIG := big_tab (by decide +kernel) rfl
theorem mw_methodLink_RX7_182_yX7_readBy : (.methodLink RX7 182 yX7_readBy : Cond) ∈ BIG := big_tab (by decide +kernel) rfl
theorem mw_methodLink_RX7_185_yX7_readMarks : (.methodLink RX7 185 yX7_readMarks : Cond) ∈ BIG := big_tab (by decide +kernel) rfl
theorem mw_methodLink_RX7_188_yX7_readWindow : (.methodLink RX7 188 yX7_readWindow : Cond) ∈ BIG := big_tab (by decide +kernel) rfl
theorem mw_methodLink_RX7_126_yX7_startsLine : (.methodLink RX7 126 yX7_startsLine : Cond) ∈ BIG := big_tab (by decide +kernel) rfl
theorem mw_methodLink_RX7_138_yX7_readRule : (.methodLink RX7 138 yX7_readRule : Cond) ∈ BIG := big_tab (by decide +kernel) rfl
theorem mw_methodLink_RX7_142_yX7_readMan : (.methodLink RX7 142 yX7_readMan : Cond) ∈ BIG := big_tab (by decide +kernel) rfl
theorem mw_methodLink_RX7_145_yX7_readWorths : (.methodLink RX7 145 yX7_readWorths : Cond) ∈ BIG := big_tab (by decide +kernel) rfl
theorem mw_methodLink_RX8_3_objectInit : (.methodLink RX8 3 objectInit : Cond) ∈ BIG := big_tab (by decide +kernel) rfl
theorem mw_methodLink_RX8_83_Lib : (.methodLink RX8 83 Lib : Cond) ∈ BIG := big_tab (by decide +kernel) rfl
theorem mw_methodLink_RX8_55_yJ7_fill_d0a16 : (.methodLink RX8 55 yJ7_fill_d0a16 : Cond) ∈ BIG := big_tab (by decide +kernel) rfl
theorem mw_methodLink_RX8_67_yX8_counts : (.methodLink RX8 67 yX8_counts : Cond) ∈ BIG := big_tab (by decide +kernel) rfl
theorem mw_methodLink_RX8_71_yX8_demand : (.methodLink RX8 71 yX8_demand : Cond) ∈ BIG := big_tab (by decide +kernel) rfl
theorem mw_methodLink_RX8_89_yX8_isAsSeen : (.methodLink RX8 89 yX8_isAsSeen : Cond) ∈ BIG := big_tab (by decide +kernel) rfl
theorem mw_methodLink_RX8_93_yX2_after : (.methodLink RX8 93 yX2_after : Cond) ∈ BIG := big_tab (by decide +kernel) rfl
theorem mw_methodLink_RX8_99_yX2_throughWindow : (.methodLink RX8 99 yX2_throughWindow : Cond) ∈ BIG := big_tab (by decide +kernel) rfl
theorem mw_methodLink_RX8_119_yX8_doubts : (.methodLink RX8 119 yX8_doubts : Cond) ∈ BIG := big_tab (by decide +kernel) rfl
theorem mw_methodLink_RX8_123_yX8_listUnsure : (.methodLink RX8 123 yX8_listUnsure : Cond) ∈ BIG := big_tab (by decide +kernel) rfl
theorem mw_methodLink_RX8_130_yJ7_fill_53178 : (.methodLink RX8 130 yJ7_fill_53178 : Cond) ∈ BIG := big_tab (by decide +kernel) rfl
theorem mw_methodLink_RX8_133_yX8_rowOfCase : (.methodLink RX8 133 yX8_rowOfCase : Cond) ∈ BIG := big_tab (by decide +kernel) rfl
theorem mw_methodLink_RX8_137_yX8_holds : (.methodLink RX8 137 yX8_holds : Cond) ∈ BIG := big_tab (by decide +kernel) rfl
theorem mw_methodLink_RX8_141_yX8_noteMoves : (.methodLink RX8 141 yX8_noteMoves : Cond) ∈ BIG := big_tab (by decide +kernel) rfl
theorem mw_methodLink_RX8_103_yX8_gather : (.methodLink RX8 103 yX8_gather : Cond) ∈ BIG := big_tab (by decide +kernel) rfl
theorem mw_methodLink_RX8_110_yX8_tryAll : (.methodLink RX8 110 yX8_tryAll : Cond) ∈ BIG := big_tab (by decide +kernel) rfl
theorem mw_methodLink_RX8_149_yX2_isCracked : (.methodLink RX8 149 yX2_isCracked : Cond) ∈ BIG := big_tab (by decide +kernel) rfl
theorem mw_methodLink_RX9_1_objectInit : (.methodLink RX9 1 objectInit : Cond) ∈ BIG := big_tab (by decide +kernel) rfl
theorem mw_methodLink_RX9_19_yX7_init : (.methodLink RX9 19 yX7_init : Cond) ∈ BIG := big_tab (by decide +kernel) rfl
theorem mw_methodLink_RX9_26_yX2_init : (.methodLink RX9 26 yX2_init : Cond) ∈ BIG := big_tab (by decide +kernel) rfl
theorem mw_methodLink_RX9_42_yX3_init : (.methodLink RX9 42 yX3_init : Cond) ∈ BIG := big_tab (by decide +kernel) rfl
theorem mw_methodLink_RX9_56_yX6_init : (.methodLink RX9 56 yX6_init : Cond) ∈ BIG := big_tab (by decide +kernel) rfl
theorem mw_methodLink_RX9_66_yX1_init : (.methodLink RX9 66 yX1_init : Cond) ∈ BIG := big_tab (by decide +kernel) rfl
theorem mw_methodLink_RX9_73_yX5_init : (.methodLink RX9 73 yX5_init : Cond) ∈ BIG := big_tab (by decide +kernel) rfl
theorem mw_methodLink_RX9_80_yX4_init : (.methodLink RX9 80 yX4_init : Cond) ∈ BIG := big_tab (by decide +kernel) rfl
theorem mw_methodLink_RX9_87_yX0_init : (.methodLink RX9 87 yX0_init : Cond) ∈ BIG := big_tab (by decide +kernel) rfl
theorem mw_methodLink_RX9_94_yX8_init : (.methodLink RX9 94 yX8_init : Cond) ∈ BIG := big_tab (by decide +kernel) rfl
theorem mw_methodLink_RX9_99_yX9_tapeNumber : (.methodLink RX9 99 yX9_tapeNumber : Cond) ∈ BIG := big_tab (by decide +kernel) rfl
theorem mw_methodLink_RX9_103_yX7_begin : (.methodLink RX9 103 yX7_begin : Cond) ∈ BIG := big_tab (by decide +kernel) rfl
theorem mw_methodLink_RX9_107_yX7_hasMore : (.methodLink RX9 107 yX7_hasMore : Cond) ∈ BIG := big_tab (by decide +kernel) rfl
theorem mw_methodLink_RX9_111_yX7_readLine : (.methodLink RX9 111 yX7_readLine : Cond) ∈ BIG := big_tab (by decide +kernel) rfl
theorem mw_methodLink_RX9_114_yX7_faultFound : (.methodLink RX9 114 yX7_faultFound : Cond) ∈ BIG := big_tab (by decide +kernel) rfl
theorem mw_methodLink_RX9_118_yX7_placeOfFault : (.methodLink RX9 118 yX7_placeOfFault : Cond) ∈ BIG := big_tab (by decide +kernel) rfl
theorem mw_methodLink_RX9_121_yX2_settle : (.methodLink RX9 121 yX2_settle : Cond) ∈ BIG := big_tab (by decide +kernel) rfl
theorem mw_methodLink_RX9_128_yX3_begin : (.methodLink RX9 128 yX3_begin : Cond) ∈ BIG := big_tab (by decide +kernel) rfl
theorem mw_methodLink_RX9_131_yJ7_fill_53178 : (.methodLink RX9 131 yJ7_fill_53178 : Cond) ∈ BIG := big_tab (by decide +kernel) rfl
theorem mw_methodLink_RX9_137_yX6_clear : (.methodLink RX9 137 yX6_clear : Cond) ∈ BIG := big_tab (by decide +kernel) rfl
theorem mw_methodLink_RX9_140_yX1_forget : (.methodLink RX9 140 yX1_forget : Cond) ∈ BIG := big_tab (by decide +kernel) rfl
theorem mw_methodLink_RX9_143_yX8_forget : (.methodLink RX9 143 yX8_forget : Cond) ∈ BIG := big_tab (by decide +kernel) rfl
theorem mw_methodLink_RX9_147_yX2_isMan : (.methodLink RX9 147 yX2_isMan : Cond) ∈ BIG := big_tab (by decide +kernel) rfl
theorem mw_methodLink_RX9_151_yX3_row : (.methodLink RX9 151 yX3_row : Cond) ∈ BIG := big_tab (by decide +kernel) rfl
theorem mw_methodLink_RX9_155_yX9_cell : (.methodLink RX9 155 yX9_cell : Cond) ∈ BIG := big_tab (by decide +kernel) rfl
theorem mw_methodLink_RX9_159_yX2_isRule : (.methodLink RX9 159 yX2_isRule : Cond) ∈ BIG := big_tab (by decide +kernel) rfl
theorem mw_methodLink_RX9_162_yX2_isMove : (.methodLink RX9 162 yX2_isMove : Cond) ∈ BIG := big_tab (by decide +kernel) rfl
theorem mw_methodLink_RX9_165_yX9_view : (.methodLink RX9 165 yX9_view : Cond) ∈ BIG := big_tab (by decide +kernel) rfl
theorem mw_methodLink_RX9_169_yX2_makes : (.methodLink RX9 169 yX2_makes : Cond) ∈ BIG := big_tab (by decide +kernel) rfl
theorem mw_methodLink_RX9_173_yX3_beats : (.methodLink RX9 173 yX3_beats : Cond) ∈ BIG := big_tab (by decide +kernel) rfl
theorem mw_methodLink_RX9_177_yX2_afterBeats : (.methodLink RX9 177 yX2_afterBeats : Cond) ∈ BIG := big_tab (by decide +kernel) rfl
theorem mw_methodLink_RX9_181_yX3_act : (.methodLink RX9 181 yX3_act : Cond) ∈ BIG := big_tab (by decide +kernel) rfl
theorem mw_methodLink_RX9_184_yX9_with : (.methodLink RX9 184 yX9_with : Cond) ∈ BIG := big_tab (by decide +kernel) rfl
theorem mw_methodLink_RX9_188_yX3_takeBack : (.methodLink RX9 188 yX3_takeBack : Cond) ∈ BIG := big_tab (by decide +kernel) rfl
theorem mw_methodLink_RX9_191_yX3_doAgain : (.methodLink RX9 191 yX3_doAgain : Cond) ∈ BIG := big_tab (by decide +kernel) rfl
theorem mw_methodLink_RX9_194_yX2_worthOf : (.methodLink RX9 194 yX2_worthOf : Cond) ∈ BIG := big_tab (by decide +kernel) rfl
theorem mw_methodLink_RX9_198_yX1_comesRound : (.methodLink RX9 198 yX1_comesRound : Cond) ∈ BIG := big_tab (by decide +kernel) rfl
theorem mw_methodLink_RX9_202_yX1_tail : (.methodLink RX9 202 yX1_tail : Cond) ∈ BIG := big_tab (by decide +kernel) rfl
theorem mw_methodLink_RX9_205_yX1_loop : (.methodLink RX9 205 yX1_loop : Cond) ∈ BIG := big_tab (by decide +kernel) rfl
theorem mw_methodLink_RX9_224_Lib : (.methodLink RX9 224 Lib : Cond) ∈ BIG := big_tab (by decide +kernel) rfl
theorem mw_methodLink_RX9_208_yX5_seek : (.methodLink RX9 208 yX5_seek : Cond) ∈ BIG := big_tab (by decide +kernel) rfl
theorem mw_methodLink_RX9_212_yX5_count : (.methodLink RX9 212 yX5_count : Cond) ∈ BIG := big_tab (by decide +kernel) rfl
theorem mw_methodLink_RX9_215_yX5_firstDoes : (.methodLink RX9 215 yX5_firstDoes : Cond) ∈ BIG := big_tab (by decide +kernel) rfl
theorem mw_methodLink_RX9_219_yX6_add : (.methodLink RX9 219 yX6_add : Cond) ∈ BIG := big_tab (by decide +kernel) rfl
theorem mw_methodLink_RX9_230_yX4_shortestUnmade : (.methodLink RX9 230 yX4_shortestUnmade : Cond) ∈ BIG := big_tab (by decide +kernel) rfl
theorem mw_methodLink_RX9_234_yX4_isOneToOne : (.methodLink RX9 234 yX4_isOneToOne : Cond) ∈ BIG := big_tab (by decide +kernel) rfl
theorem mw_methodLink_RX9_238_yX4_keepsWorth : (.methodLink RX9 238 yX4_keepsWorth : Cond) ∈ BIG := big_tab (by decide +kernel) rfl
theorem mw_methodLink_RX9_328_yJ13_bitCount_95d88 : (.methodLink RX9 328 yJ13_bitCount_95d88 : Cond) ∈ BIG := big_tab (by decide +kernel) rfl
theorem mw_methodLink_RX9_241_yX9_differing : (.methodLink RX9 241 yX9_differing : Cond) ∈ BIG := big_tab (by decide +kernel) rfl
theorem mw_methodLink_RX9_245_yX0_aim : (.methodLink RX9 245 yX0_aim : Cond) ∈ BIG := big_tab (by decide +kernel) rfl
theorem mw_methodLink_RX9_249_yX0_fewestOrdered : (.methodLink RX9 249 yX0_fewestOrdered : Cond) ∈ BIG := big_tab (by decide +kernel) rfl
theorem mw_methodLink_RX9_253_yX0_fewestCracked : (.methodLink RX9 253 yX0_fewestCracked : Cond) ∈ BIG := big_tab (by decide +kernel) rfl
theorem mw_methodLink_RX9_256_yX6_number : (.methodLink RX9 256 yX6_number : Cond) ∈ BIG := big_tab (by decide +kernel) rfl
theorem mw_methodLink_RX9_259_yX8_tell : (.methodLink RX9 259 yX8_tell : Cond) ∈ BIG := big_tab (by decide +kernel) rfl
theorem mw_methodLink_RX9_263_yX8_takeAway : (.methodLink RX9 263 yX8_takeAway : Cond) ∈ BIG := big_tab (by decide +kernel) rfl
theorem mw_methodLink_RX9_267_yJ6_bitCount_0f7a4 : (.methodLink RX9 267 yJ6_bitCount_0f7a4 : Cond) ∈ BIG := big_tab (by decide +kernel) rfl
theorem mw_methodLink_RX9_272_yX8_doubt : (.methodLink RX9 272 yX8_doubt : Cond) ∈ BIG := big_tab (by decide +kernel) rfl
theorem mw_methodLink_RX9_275_yX8_fitting : (.methodLink RX9 275 yX8_fitting : Cond) ∈ BIG := big_tab (by decide +kernel) rfl
theorem mw_methodLink_RX9_279_yX8_doubts : (.methodLink RX9 279 yX8_doubts : Cond) ∈ BIG := big_tab (by decide +kernel) rfl
theorem mw_methodLink_RX9_282_yX8_movesThatFit : (.methodLink RX9 282 yX8_movesThatFit : Cond) ∈ BIG := big_tab (by decide +kernel) rfl
theorem mw_methodLink_RX9_288_yX8_nothingWrong : (.methodLink RX9 288 yX8_nothingWrong : Cond) ∈ BIG := big_tab (by decide +kernel) rfl
theorem mw_methodLink_RX9_291_yX8_menMaybeCracked : (.methodLink RX9 291 yX8_menMaybeCracked : Cond) ∈ BIG := big_tab (by decide +kernel) rfl
theorem mw_methodLink_RX9_294_yX8_menMaybeWindowed : (.methodLink RX9 294 yX8_menMaybeWindowed : Cond) ∈ BIG := big_tab (by decide +kernel) rfl
theorem mw_methodLink_RX9_300_yX3_actsDone : (.methodLink RX9 300 yX3_actsDone : Cond) ∈ BIG := big_tab (by decide +kernel) rfl
theorem mw_methodLink_RX9_303_yX3_actsTakenBack : (.methodLink RX9 303 yX3_actsTakenBack : Cond) ∈ BIG := big_tab (by decide +kernel) rfl
theorem mw_methodLink_RX9_306_yX8_sights : (.methodLink RX9 306 yX8_sights : Cond) ∈ BIG := big_tab (by decide +kernel) rfl
theorem mw_methodLink_RX9_316_yX6_size : (.methodLink RX9 316 yX6_size : Cond) ∈ BIG := big_tab (by decide +kernel) rfl
theorem mw_methodLink_RX9_319_yX8_doubted : (.methodLink RX9 319 yX8_doubted : Cond) ∈ BIG := big_tab (by decide +kernel) rfl
theorem mw_methodLink_RX10_382_yX10_layFirst : (.methodLink RX10 382 yX10_layFirst : Cond) ∈ BIG := big_tab (by decide +kernel) rfl
theorem mw_methodLink_RX10_385_yX10_keepNow : (.methodLink RX10 385 yX10_keepNow : Cond) ∈ BIG := big_tab (by decide +kernel) rfl
theorem mw_methodLink_RX10_1_objectInit : (.methodLink RX10 1 objectInit : Cond) ∈ BIG := big_tab (by decide +kernel) rfl
theorem mw_methodLink_RX10_177_yX10_clearBank : (.methodLink RX10 177 yX10_clearBank : Cond) ∈ BIG := big_tab (by decide +kernel) rfl
theorem mw_methodLink_RX10_180_yX10_begin : (.methodLink RX10 180 yX10_begin : Cond) ∈ BIG := big_tab (by decide +kernel) rfl
theorem mw_methodLink_RX10_231_yX10_sign : (.methodLink RX10 231 yX10_sign : Cond) ∈ BIG := big_tab (by decide +kernel) rfl
theorem mw_methodLink_RX10_238_yX10_isLetter : (.methodLink RX10 238 yX10_isLetter : Cond) ∈ BIG := big_tab (by decide +kernel) rfl
theorem mw_methodLink_RX10_246_yX10_isKept : (.methodLink RX10 246 yX10_isKept : Cond) ∈ BIG := big_tab (by decide +kernel) rfl
theorem mw_methodLink_RX10_250_yX10_isDigit : (.methodLink RX10 250 yX10_isDigit : Cond) ∈ BIG := big_tab (by decide +kernel) rfl
theorem mw_methodLink_RX10_256_yX10_isSign : (.methodLink RX10 256 yX10_isSign : Cond) ∈ BIG := big_tab (by decide +kernel) rfl
theorem mw_methodLink_RX10_259_yX10_fails : (.methodLink RX10 259 yX10_fails : Cond) ∈ BIG := big_tab (by decide +kernel) rfl
theorem mw_methodLink_RX10_263_yX10_isGood : (.methodLink RX10 263 yX10_isGood : Cond) ∈ BIG := big_tab (by decide +kernel) rfl
theorem mw_methodLink_RX10_267_yX10_goOn : (.methodLink RX10 267 yX10_goOn : Cond) ∈ BIG := big_tab (by decide +kernel) rfl
theorem mw_methodLink_RX10_270_yX10_misplaced : (.methodLink RX10 270 yX10_misplaced : Cond) ∈ BIG := big_tab (by decide +kernel) rfl
theorem mw_methodLink_RX10_300_yX10_isWord : (.methodLink RX10 300 yX10_isWord : Cond) ∈ BIG := big_tab (by decide +kernel) rfl
theorem mw_methodLink_RX10_316_yX10_isSignHere : (.methodLink RX10 316 yX10_isSignHere : Cond) ∈ BIG := big_tab (by decide +kernel) rfl
theorem mw_methodLink_RX10_355_yX10_wordHere : (.methodLink RX10 355 yX10_wordHere : Cond) ∈ BIG := big_tab (by decide +kernel) rfl
theorem mw_methodLink_RX10_346_yX10_pushE : (.methodLink RX10 346 yX10_pushE : Cond) ∈ BIG := big_tab (by decide +kernel) rfl
theorem mw_methodLink_RX10_358_yX10_emit : (.methodLink RX10 358 yX10_emit : Cond) ∈ BIG := big_tab (by decide +kernel) rfl
theorem mw_methodLink_RX10_361_yX10_rankHere : (.methodLink RX10 361 yX10_rankHere : Cond) ∈ BIG := big_tab (by decide +kernel) rfl
theorem mw_methodLink_RX10_364_yX10_isCompared : (.methodLink RX10 364 yX10_isCompared : Cond) ∈ BIG := big_tab (by decide +kernel) rfl
theorem mw_methodLink_RX10_319_yX10_must : (.methodLink RX10 319 yX10_must : Cond) ∈ BIG := big_tab (by decide +kernel) rfl
theorem mw_methodLink_RX10_349_yX10_unit : (.methodLink RX10 349 yX10_unit : Cond) ∈ BIG := big_tab (by decide +kernel) rfl
theorem mw_methodLink_RX10_352_yX10_behindUnit : (.methodLink RX10 352 yX10_behindUnit : Cond) ∈ BIG := big_tab (by decide +kernel) rfl
theorem mw_methodLink_RX10_323_yX10_ruleHere : (.methodLink RX10 323 yX10_ruleHere : Cond) ∈ BIG := big_tab (by decide +kernel) rfl
theorem mw_methodLink_RX10_330_yX10_e : (.methodLink RX10 330 yX10_e : Cond) ∈ BIG := big_tab (by decide +kernel) rfl
theorem mw_methodLink_RX10_306_yX10_numeral : (.methodLink RX10 306 yX10_numeral : Cond) ∈ BIG := big_tab (by decide +kernel) rfl
theorem mw_methodLink_RX10_333_yX10_readBy : (.methodLink RX10 333 yX10_readBy : Cond) ∈ BIG := big_tab (by decide +kernel) rfl
theorem mw_methodLink_RX10_337_yX10_flag : (.methodLink RX10 337 yX10_flag : Cond) ∈ BIG := big_tab (by decide +kernel) rfl
theorem mw_methodLink_RX10_303_yX10_isFull : (.methodLink RX10 303 yX10_isFull : Cond) ∈ BIG := big_tab (by decide +kernel) rfl
theorem mw_methodLink_RX10_310_yX10_readRule : (.methodLink RX10 310 yX10_readRule : Cond) ∈ BIG := big_tab (by decide +kernel) rfl
theorem mw_methodLink_RX10_313_yX10_readMan : (.methodLink RX10 313 yX10_readMan : Cond) ∈ BIG := big_tab (by decide +kernel) rfl
theorem mw_methodLink_RX10_367_yX10_two : (.methodLink RX10 367 yX10_two : Cond) ∈ BIG := big_tab (by decide +kernel) rfl
theorem mw_methodLink_RX10_371_yX10_comes : (.methodLink RX10 371 yX10_comes : Cond) ∈ BIG := big_tab (by decide +kernel) rfl
theorem mw_methodLink_RX10_285_yX10_readLine : (.methodLink RX10 285 yX10_readLine : Cond) ∈ BIG := big_tab (by decide +kernel) rfl
theorem mw_methodLink_RX10_288_yX10_layTables : (.methodLink RX10 288 yX10_layTables : Cond) ∈ BIG := big_tab (by decide +kernel) rfl
theorem mw_methodLink_RX10_375_yX10_manyOf : (.methodLink RX10 375 yX10_manyOf : Cond) ∈ BIG := big_tab (by decide +kernel) rfl
theorem mw_methodLink_RX10_378_yX10_isIn : (.methodLink RX10 378 yX10_isIn : Cond) ∈ BIG := big_tab (by decide +kernel) rfl
theorem mw_methodLink_RX10_403_yX10_stays : (.methodLink RX10 403 yX10_stays : Cond) ∈ BIG := big_tab (by decide +kernel) rfl
theorem mw_methodLink_RX10_406_yX10_windowOf : (.methodLink RX10 406 yX10_windowOf : Cond) ∈ BIG := big_tab (by decide +kernel) rfl
theorem mw_methodLink_RX10_409_yX10_makes : (.methodLink RX10 409 yX10_makes : Cond) ∈ BIG := big_tab (by decide +kernel) rfl
theorem mw_methodLink_RX10_412_yX10_aheadOf : (.methodLink RX10 412 yX10_aheadOf : Cond) ∈ BIG := big_tab (by decide +kernel) rfl
theorem mw_methodLink_RX10_415_yX10_behindOf : (.methodLink RX10 415 yX10_behindOf : Cond) ∈ BIG := big_tab (by decide +kernel) rfl
theorem mw_methodLink_RX10_418_yX10_after : (.methodLink RX10 418 yX10_after : Cond) ∈ BIG := big_tab (by decide +kernel) rfl
theorem mw_methodLink_RX10_421_yX10_beat : (.methodLink RX10 421 yX10_beat : Cond) ∈ BIG := big_tab (by decide +kernel) rfl
theorem mw_methodLink_RX10_424_yX10_isMan : (.methodLink RX10 424 yX10_isMan : Cond) ∈ BIG := big_tab (by decide +kernel) rfl
theorem mw_methodLink_RX10_427_yX10_isRule : (.methodLink RX10 427 yX10_isRule : Cond) ∈ BIG := big_tab (by decide +kernel) rfl
theorem mw_methodLink_RX10_430_yX10_isMove : (.methodLink RX10 430 yX10_isMove : Cond) ∈ BIG := big_tab (by decide +kernel) rfl
theorem mw_methodLink_RX10_434_yX10_keepAct : (.methodLink RX10 434 yX10_keepAct : Cond) ∈ BIG := big_tab (by decide +kernel) rfl
theorem mw_methodLink_RX10_437_yX10_layNow : (.methodLink RX10 437 yX10_layNow : Cond) ∈ BIG := big_tab (by decide +kernel) rfl
theorem mw_methodLink_RX10_440_yX10_beatTimes : (.methodLink RX10 440 yX10_beatTimes : Cond) ∈ BIG := big_tab (by decide +kernel) rfl
theorem mw_methodLink_RX10_443_yX10_exchange : (.methodLink RX10 443 yX10_exchange : Cond) ∈ BIG := big_tab (by decide +kernel) rfl
theorem mw_methodLink_RX10_446_yX10_rowNumber : (.methodLink RX10 446 yX10_rowNumber : Cond) ∈ BIG := big_tab (by decide +kernel) rfl
theorem mw_methodLink_RX10_456_yX10_layRound : (.methodLink RX10 456 yX10_layRound : Cond) ∈ BIG := big_tab (by decide +kernel) rfl
theorem mw_methodLink_RX10_461_yX10_mayDo : (.methodLink RX10 461 yX10_mayDo : Cond) ∈ BIG := big_tab (by decide +kernel) rfl
theorem mw_methodLink_RX10_469_yX10_atMost : (.methodLink RX10 469 yX10_atMost : Cond) ∈ BIG := big_tab (by decide +kernel) rfl
theorem mw_methodLink_RX10_465_yX10_countFrom : (.methodLink RX10 465 yX10_countFrom : Cond) ∈ BIG := big_tab (by decide +kernel) rfl
theorem mw_methodLink_RX10_473_yX10_countAhead : (.methodLink RX10 473 yX10_countAhead : Cond) ∈ BIG := big_tab (by decide +kernel) rfl
theorem mw_methodLink_RX10_480_yX10_allPairs : (.methodLink RX10 480 yX10_allPairs : Cond) ∈ BIG := big_tab (by decide +kernel) rfl
theorem mw_methodLink_RX10_483_yX10_stepSet : (.methodLink RX10 483 yX10_stepSet : Cond) ∈ BIG := big_tab (by decide +kernel) rfl
theorem mw_methodLink_RX10_486_yX10_layOrphan : (.methodLink RX10 486 yX10_layOrphan : Cond) ∈ BIG := big_tab (by decide +kernel) rfl
theorem mw_methodLink_RX10_489_yX10_leads : (.methodLink RX10 489 yX10_leads : Cond) ∈ BIG := big_tab (by decide +kernel) rfl
theorem mw_methodLink_RX10_492_yX10_isPair : (.methodLink RX10 492 yX10_isPair : Cond) ∈ BIG := big_tab (by decide +kernel) rfl
theorem mw_methodLink_RX10_495_yX10_hasNext : (.methodLink RX10 495 yX10_hasNext : Cond) ∈ BIG := big_tab (by decide +kernel) rfl
theorem mw_methodLink_RX10_499_yX10_isSame : (.methodLink RX10 499 yX10_isSame : Cond) ∈ BIG := big_tab (by decide +kernel) rfl
theorem mw_methodLink_RX10_502_yX10_otherMove : (.methodLink RX10 502 yX10_otherMove : Cond) ∈ BIG := big_tab (by decide +kernel) rfl
theorem mw_methodLink_RX10_505_yX10_isSoBy : (.methodLink RX10 505 yX10_isSoBy : Cond) ∈ BIG := big_tab (by decide +kernel) rfl
theorem mw_methodLink_RX10_509_yX10_layGlint : (.methodLink RX10 509 yX10_layGlint : Cond) ∈ BIG := big_tab (by decide +kernel) rfl
theorem mw_methodLink_RX10_512_yX10_nextMoves : (.methodLink RX10 512 yX10_nextMoves : Cond) ∈ BIG := big_tab (by decide +kernel) rfl
theorem mw_methodLink_RX10_515_yX10_nextMen : (.methodLink RX10 515 yX10_nextMen : Cond) ∈ BIG := big_tab (by decide +kernel) rfl
theorem mw_methodLink_RX10_518_yX10_layCracks : (.methodLink RX10 518 yX10_layCracks : Cond) ∈ BIG := big_tab (by decide +kernel) rfl
theorem mw_methodLink_RX10_521_yX10_orphanAt : (.methodLink RX10 521 yX10_orphanAt : Cond) ∈ BIG := big_tab (by decide +kernel) rfl
theorem mw_methodLink_RX10_527_yX10_bitsOf : (.methodLink RX10 527 yX10_bitsOf : Cond) ∈ BIG := big_tab (by decide +kernel) rfl
theorem mw_methodLink_RX10_530_yX10_layCase : (.methodLink RX10 530 yX10_layCase : Cond) ∈ BIG := big_tab (by decide +kernel) rfl
theorem mw_methodLink_RX10_533_yX10_areSo : (.methodLink RX10 533 yX10_areSo : Cond) ∈ BIG := big_tab (by decide +kernel) rfl
theorem mw_methodLink_RX10_536_yX10_fits : (.methodLink RX10 536 yX10_fits : Cond) ∈ BIG := big_tab (by decide +kernel) rfl
theorem mw_methodLink_RX10_539_yX10_isCase : (.methodLink RX10 539 yX10_isCase : Cond) ∈ BIG := big_tab (by decide +kernel) rfl
theorem mw_methodLink_RX10_542_yX10_canCrack : (.methodLink RX10 542 yX10_canCrack : Cond) ∈ BIG := big_tab (by decide +kernel) rfl
theorem mw_methodLink_RX10_545_yX10_canSee : (.methodLink RX10 545 yX10_canSee : Cond) ∈ BIG := big_tab (by decide +kernel) rfl
theorem mw_methodLink_RL_9_yX9_init : (.methodLink RL 9 yX9_init : Cond) ∈ BIG := big_tab (by decide +kernel) rfl
theorem mw_methodLink_RL_12_yX10_init : (.methodLink RL 12 yX10_init : Cond) ∈ BIG := big_tab (by decide +kernel) rfl
theorem mw_methodLink_RL_13_yX9_feed : (.methodLink RL 13 yX9_feed : Cond) ∈ BIG := big_tab (by decide +kernel) rfl
theorem mw_methodLink_RL_17_yX10_feed : (.methodLink RL 17 yX10_feed : Cond) ∈ BIG := big_tab (by decide +kernel) rfl
theorem mw_methodLink_RL_18_yX9_end : (.methodLink RL 18 yX9_end : Cond) ∈ BIG := big_tab (by decide +kernel) rfl
theorem mw_methodLink_RL_22_yX10_end : (.methodLink RL 22 yX10_end : Cond) ∈ BIG := big_tab (by decide +kernel) rfl
theorem mw_methodLink_RL_23_yX9_drill : (.methodLink RL 23 yX9_drill : Cond) ∈ BIG := big_tab (by decide +kernel) rfl
theorem mw_methodLink_RL_27_yX10_drill : (.methodLink RL 27 yX10_drill : Cond) ∈ BIG := big_tab (by decide +kernel) rfl
theorem mw_methodLink_RL_28_yX9_fault : (.methodLink RL 28 yX9_fault : Cond) ∈ BIG := big_tab (by decide +kernel) rfl
theorem mw_methodLink_RL_31_yX10_fault : (.methodLink RL 31 yX10_fault : Cond) ∈ BIG := big_tab (by decide +kernel) rfl
theorem mw_methodLink_RL_32_yX9_does : (.methodLink RL 32 yX9_does : Cond) ∈ BIG := big_tab (by decide +kernel) rfl
theorem mw_methodLink_RL_35_yX10_does : (.methodLink RL 35 yX10_does : Cond) ∈ BIG := big_tab (by decide +kernel) rfl
theorem mw_methodLink_RL_36_yX9_made : (.methodLink RL 36 yX9_made : Cond) ∈ BIG := big_tab (by decide +kernel) rfl
theorem mw_methodLink_RL_40_yX10_made : (.methodLink RL 40 yX10_made : Cond) ∈ BIG := big_tab (by decide +kernel) rfl
theorem mw_methodLink_RL_41_yX9_run : (.methodLink RL 41 yX9_run : Cond) ∈ BIG := big_tab (by decide +kernel) rfl
theorem mw_methodLink_RL_44_yX10_run : (.methodLink RL 44 yX10_run : Cond) ∈ BIG := big_tab (by decide +kernel) rfl
theorem mw_methodLink_RL_45_yX9_order : (.methodLink RL 45 yX9_order : Cond) ∈ BIG := big_tab (by decide +kernel) rfl
theorem mw_methodLink_RL_49_yX10_order : (.methodLink RL 49 yX10_order : Cond) ∈ BIG := big_tab (by decide +kernel) rfl
theorem mw_methodLink_RL_50_yX9_undo : (.methodLink RL 50 yX9_undo : Cond) ∈ BIG := big_tab (by decide +kernel) rfl
theorem mw_methodLink_RL_54_yX10_undo : (.methodLink RL 54 yX10_undo : Cond) ∈ BIG := big_tab (by decide +kernel) rfl
theorem mw_methodLink_RL_55_yX9_redo : (.methodLink RL 55 yX9_redo : Cond) ∈ BIG := big_tab (by decide +kernel) rfl
theorem mw_methodLink_RL_58_yX10_redo : (.methodLink RL 58 yX10_redo : Cond) ∈ BIG := big_tab (by decide +kernel) rfl
theorem mw_methodLink_RL_59_yX9_worth : (.methodLink RL 59 yX9_worth : Cond) ∈ BIG := big_tab (by decide +kernel) rfl
theorem mw_methodLink_RL_62_yX10_worth : (.methodLink RL 62 yX10_worth : Cond) ∈ BIG := big_tab (by decide +kernel) rfl
theorem mw_methodLink_RL_63_yX9_round : (.methodLink RL 63 yX9_round : Cond) ∈ BIG := big_tab (by decide +kernel) rfl
theorem mw_methodLink_RL_66_yX10_round : (.methodLink RL 66 yX10_round : Cond) ∈ BIG := big_tab (by decide +kernel) rfl
theorem mw_methodLink_RL_67_yX9_before : (.methodLink RL 67 yX9_before : Cond) ∈ BIG := big_tab (by decide +kernel) rfl
theorem mw_methodLink_RL_71_yX10_before : (.methodLink RL 71 yX10_before : Cond) ∈ BIG := big_tab (by decide +kernel) rfl
theorem mw_methodLink_RL_72_yX9_orphan : (.methodLink RL 72 yX9_orphan : Cond) ∈ BIG := big_tab (by decide +kernel) rfl
theorem mw_methodLink_RL_75_yX10_orphan : (.methodLink RL 75 yX10_orphan : Cond) ∈ BIG := big_tab (by decide +kernel) rfl
theorem mw_methodLink_RL_76_yX9_one : (.methodLink RL 76 yX9_one : Cond) ∈ BIG := big_tab (by decide +kernel) rfl
theorem mw_methodLink_RL_79_yX10_one : (.methodLink RL 79 yX10_one : Cond) ∈ BIG := big_tab (by decide +kernel) rfl
theorem mw_methodLink_RL_80_yX9_keeps : (.methodLink RL 80 yX9_keeps : Cond) ∈ BIG := big_tab (by decide +kernel) rfl
theorem mw_methodLink_RL_83_yX10_keeps : (.methodLink RL 83 yX10_keeps : Cond) ∈ BIG := big_tab (by decide +kernel) rfl
theorem mw_methodLink_RL_84_yX9_spread : (.methodLink RL 84 yX9_spread : Cond) ∈ BIG := big_tab (by decide +kernel) rfl
theorem mw_methodLink_RL_88_yX10_spread : (.methodLink RL 88 yX10_spread : Cond) ∈ BIG := big_tab (by decide +kernel) rfl
theorem mw_methodLink_RL_89_yX9_glint : (.methodLink RL 89 yX9_glint : Cond) ∈ BIG := big_tab (by decide +kernel) rfl
theorem mw_methodLink_RL_92_yX10_glint : (.methodLink RL 92 yX10_glint : Cond) ∈ BIG := big_tab (by decide +kernel) rfl
theorem mw_methodLink_RL_93_yX9_cracks : (.methodLink RL 93 yX9_cracks : Cond) ∈ BIG := big_tab (by decide +kernel) rfl
theorem mw_methodLink_RL_96_yX10_cracks : (.methodLink RL 96 yX10_cracks : Cond) ∈ BIG := big_tab (by decide +kernel) rfl
theorem mw_methodLink_RL_97_yX9_lies : (.methodLink RL 97 yX9_lies : Cond) ∈ BIG := big_tab (by decide +kernel) rfl
theorem mw_methodLink_RL_100_yX10_lies : (.methodLink RL 100 yX10_lies : Cond) ∈ BIG := big_tab (by decide +kernel) rfl
theorem mw_methodLink_RL_101_yX9_sight : (.methodLink RL 101 yX9_sight : Cond) ∈ BIG := big_tab (by decide +kernel) rfl
theorem mw_methodLink_RL_104_yX10_sight : (.methodLink RL 104 yX10_sight : Cond) ∈ BIG := big_tab (by decide +kernel) rfl
theorem mw_methodLink_RL_105_yX9_untell : (.methodLink RL 105 yX9_untell : Cond) ∈ BIG := big_tab (by decide +kernel) rfl
theorem mw_methodLink_RL_109_yX10_untell : (.methodLink RL 109 yX10_untell : Cond) ∈ BIG := big_tab (by decide +kernel) rfl
theorem mw_methodLink_RL_110_yX9_later : (.methodLink RL 110 yX9_later : Cond) ∈ BIG := big_tab (by decide +kernel) rfl
theorem mw_methodLink_RL_113_yX10_later : (.methodLink RL 113 yX10_later : Cond) ∈ BIG := big_tab (by decide +kernel) rfl
theorem mw_methodLink_RL_114_yX9_unsure : (.methodLink RL 114 yX9_unsure : Cond) ∈ BIG := big_tab (by decide +kernel) rfl
theorem mw_methodLink_RL_117_yX10_unsure : (.methodLink RL 117 yX10_unsure : Cond) ∈ BIG := big_tab (by decide +kernel) rfl
theorem mw_methodLink_RL_118_yX9_fits : (.methodLink RL 118 yX9_fits : Cond) ∈ BIG := big_tab (by decide +kernel) rfl
theorem mw_methodLink_RL_121_yX10_fits : (.methodLink RL 121 yX10_fits : Cond) ∈ BIG := big_tab (by decide +kernel) rfl
theorem mw_methodLink_RL_122_yX9_sure : (.methodLink RL 122 yX9_sure : Cond) ∈ BIG := big_tab (by decide +kernel) rfl
theorem mw_methodLink_RL_125_yX10_sure : (.methodLink RL 125 yX10_sure : Cond) ∈ BIG := big_tab (by decide +kernel) rfl
theorem mw_methodLink_RL_126_yX9_wrong : (.methodLink RL 126 yX9_wrong : Cond) ∈ BIG := big_tab (by decide +kernel) rfl
theorem mw_methodLink_RL_129_yX10_wrong : (.methodLink RL 129 yX10_wrong : Cond) ∈ BIG := big_tab (by decide +kernel) rfl
theorem mw_methodLink_RL_130_yX9_image : (.methodLink RL 130 yX9_image : Cond) ∈ BIG := big_tab (by decide +kernel) rfl
theorem mw_methodLink_RL_133_yX10_image : (.methodLink RL 133 yX10_image : Cond) ∈ BIG := big_tab (by decide +kernel) rfl
theorem mw_methodLink_RL_134_yX9_back : (.methodLink RL 134 yX9_back : Cond) ∈ BIG := big_tab (by decide +kernel) rfl
theorem mw_methodLink_RL_137_yX10_back : (.methodLink RL 137 yX10_back : Cond) ∈ BIG := big_tab (by decide +kernel) rfl
theorem mw_methodLink_RL_138_yX9_about : (.methodLink RL 138 yX9_about : Cond) ∈ BIG := big_tab (by decide +kernel) rfl
theorem mw_methodLink_RL_141_yX10_about : (.methodLink RL 141 yX10_about : Cond) ∈ BIG := big_tab (by decide +kernel) rfl
theorem mw_classLink_RX9_17_RX7 : (.classLink RX9 17 RX7 : Cond) ∈ BIG := big_tab (by decide +kernel) rfl
theorem mw_classLink_RX9_24_RX2 : (.classLink RX9 24 RX2 : Cond) ∈ BIG := big_tab (by decide +kernel) rfl
theorem mw_classLink_RX9_40_RX3 : (.classLink RX9 40 RX3 : Cond) ∈ BIG := big_tab (by decide +kernel) rfl
theorem mw_classLink_RX9_54_RX6 : (.classLink RX9 54 RX6 : Cond) ∈ BIG := big_tab (by decide +kernel) rfl
theorem mw_classLink_RX9_64_RX1 : (.classLink RX9 64 RX1 : Cond) ∈ BIG := big_tab (by decide +kernel) rfl
theorem mw_classLink_RX9_71_RX5 : (.classLink RX9 71 RX5 : Cond) ∈ BIG := big_tab (by decide +kernel) rfl
theorem mw_classLink_RX9_78_RX4 : (.classLink RX9 78 RX4 : Cond) ∈ BIG := big_tab (by decide +kernel) rfl
theorem mw_classLink_RX9_85_RX0 : (.classLink RX9 85 RX0 : Cond) ∈ BIG := big_tab (by decide +kernel) rfl
theorem mw_classLink_RX9_92_RX8 : (.classLink RX9 92 RX8 : Cond) ∈ BIG := big_tab (by decide +kernel) rfl
theorem mw_classLink_RL_7_RX9 : (.classLink RL 7 RX9 : Cond) ∈ BIG := big_tab (by decide +kernel) rfl
theorem mw_classLink_RL_10_RX10 : (.classLink RL 10 RX10 : Cond) ∈ BIG := big_tab (by decide +kernel) rfl
theorem mw_constantLong_RX9_322_3 : (.constantLong RX9 322 (3) : Cond) ∈ BIG := big_tab (by decide +kernel) rfl
theorem mw_constantLong_RX9_324_1 : (.constantLong RX9 324 (-1) : Cond) ∈ BIG := big_tab (by decide +kernel) rfl
theorem mw_constantLong_RX0_99_1 : (.constantLong RX0 99 (-1) : Cond) ∈ BIG := big_tab (by decide +kernel) rfl
theorem mw_constantLong_RX0_97_3 : (.constantLong RX0 97 (3) : Cond) ∈ BIG := big_tab (by decide +kernel) rfl
theorem mw_constantLong_RX5_91_4 : (.constantLong RX5 91 (4) : Cond) ∈ BIG := big_tab (by decide +kernel) rfl
theorem mw_constantLong_RX5_39_1 : (.constantLong RX5 39 (-1) : Cond) ∈ BIG := big_tab (by decide +kernel) rfl
theorem mw_constantLong_RX7_97_32 : (.constantLong RX7 97 (32) : Cond) ∈ BIG := big_tab (by decide +kernel) rfl
theorem mw_constantLong_RX9_222_1000000000000000 : (.constantLong RX9 222 (1000000000000000) : Cond) ∈ BIG := big_tab (by decide +kernel) rfl
theorem mw_constantLong_RX9_326_6148914691236517205 : (.constantLong RX9 326 (6148914691236517205) : Cond) ∈ BIG := big_tab (by decide +kernel) rfl
theorem mw_constantLong_RX10_189_470021465459 : (.constantLong RX10 189 (470021465459) : Cond) ∈ BIG := big_tab (by decide +kernel) rfl
theorem mw_constantLong_RX10_191_7169390 : (.constantLong RX10 191 (7169390) : Cond) ∈ BIG := big_tab (by decide +kernel) rfl
theorem mw_constantLong_RX10_193_1919512167 : (.constantLong RX10 193 (1919512167) : Cond) ∈ BIG := big_tab (by decide +kernel) rfl
theorem mw_constantLong_RX10_195_1701078885 : (.constantLong RX10 195 (1701078885) : Cond) ∈ BIG := big_tab (by decide +kernel) rfl
theorem mw_constantLong_RX10_197_1920298085 : (.constantLong RX10 197 (1920298085) : Cond) ∈ BIG := big_tab (by decide +kernel) rfl
theorem mw_constantLong_RX10_199_7168366 : (.constantLong RX10 199 (7168366) : Cond) ∈ BIG := big_tab (by decide +kernel) rfl
theorem mw_constantLong_RX10_201_1685022067 : (.constantLong RX10 201 (1685022067) : Cond) ∈ BIG := big_tab (by decide +kernel) rfl
theorem mw_constantLong_RX10_203_25209 : (.constantLong RX10 203 (25209) : Cond) ∈ BIG := big_tab (by decide +kernel) rfl
theorem mw_constantLong_RX10_205_128047779833188 : (.constantLong RX10 205 (128047779833188) : Cond) ∈ BIG := big_tab (by decide +kernel) rfl
theorem mw_constantLong_RX10_207_27991785299731812 : (.constantLong RX10 207 (27991785299731812) : Cond) ∈ BIG := big_tab (by decide +kernel) rfl
theorem mw_constantLong_RX10_209_131294707347319 : (.constantLong RX10 209 (131294707347319) : Cond) ∈ BIG := big_tab (by decide +kernel) rfl
theorem mw_constantLong_RX10_211_512970880104 : (.constantLong RX10 211 (512970880104) : Cond) ∈ BIG := big_tab (by decide +kernel) rfl
theorem mw_constantLong_RX10_213_1818584692 : (.constantLong RX10 213 (1818584692) : Cond) ∈ BIG := big_tab (by decide +kernel) rfl
theorem mw_constantLong_RX10_215_7305070 : (.constantLong RX10 215 (7305070) : Cond) ∈ BIG := big_tab (by decide +kernel) rfl
theorem mw_constantLong_RX10_217_491394656372 : (.constantLong RX10 217 (491394656372) : Cond) ∈ BIG := big_tab (by decide +kernel) rfl
theorem mw_constantLong_RX10_219_6385252 : (.constantLong RX10 219 (6385252) : Cond) ∈ BIG := big_tab (by decide +kernel) rfl
theorem mw_constantLong_RX10_221_28530 : (.constantLong RX10 221 (28530) : Cond) ∈ BIG := big_tab (by decide +kernel) rfl
theorem mw_constantLong_RX10_223_7237492 : (.constantLong RX10 223 (7237492) : Cond) ∈ BIG := big_tab (by decide +kernel) rfl
theorem mw_constantLong_RX10_459_1000000000000000 : (.constantLong RX10 459 (1000000000000000) : Cond) ∈ BIG := big_tab (by decide +kernel) rfl
theorem mw_constant_RX4_67_65535 : (.constant RX4 67 (65535) : Cond) ∈ BIG := big_tab (by decide +kernel) rfl
theorem mw_constant_RX4_66_65536 : (.constant RX4 66 (65536) : Cond) ∈ BIG := big_tab (by decide +kernel) rfl
theorem mw_constant_RX9_176_100000 : (.constant RX9 176 (100000) : Cond) ∈ BIG := big_tab (by decide +kernel) rfl
theorem mw_constant_RX10_131_65536 : (.constant RX10 131 (65536) : Cond) ∈ BIG := big_tab (by decide +kernel) rfl
theorem mw_constant_RX10_433_100000 : (.constant RX10 433 (100000) : Cond) ∈ BIG := big_tab (by decide +kernel) rfl
theorem mw_arrayClass_int : (.arrayClass .int : Cond) ∈ BIG := big_tab (by decide +kernel) rfl
theorem mw_arrayClass_long : (.arrayClass .long : Cond) ∈ BIG := big_tab (by decide +kernel) rfl
theorem mw_arrayClass_byte : (.arrayClass .byte : Cond) ∈ BIG := big_tab (by decide +kernel) rfl
theorem mw_arrayClass_boolean : (.arrayClass .boolean : Cond) ∈ BIG := big_tab (by decide +kernel) rfl
theorem mw_initialized_RX0 : (.initialized RX0 : Cond) ∈ BIG := big_tab (by decide +kernel) rfl
theorem mw_instantiable_RX0_9 : (.instantiable RX0 9 : Cond) ∈ BIG := big_tab (by decide +kernel) rfl
theorem mw_initialized_RX1 : (.initialized RX1 : Cond) ∈ BIG := big_tab (by decide +kernel) rfl
theorem mw_instantiable_RX1_5 : (.instantiable RX1 5 : Cond) ∈ BIG := big_tab (by decide +kernel) rfl
theorem mw_initialized_RX2 : (.initialized RX2 : Cond) ∈ BIG := big_tab (by decide +kernel) rfl
theorem mw_instantiable_RX2_15 : (.instantiable RX2 15 : Cond) ∈ BIG := big_tab (by decide +kernel) rfl
theorem mw_initialized_RX3 : (.initialized RX3 : Cond) ∈ BIG := big_tab (by decide +kernel) rfl
theorem mw_instantiable_RX3_4 : (.instantiable RX3 4 : Cond) ∈ BIG := big_tab (by decide +kernel) rfl
theorem mw_initialized_RX4 : (.initialized RX4 : Cond) ∈ BIG := big_tab (by decide +kernel) rfl
theorem mw_instantiable_RX4_10 : (.instantiable RX4 10 : Cond) ∈ BIG := big_tab (by decide +kernel) rfl
theorem mw_initialized_RX5 : (.initialized RX5 : Cond) ∈ BIG := big_tab (by decide +kernel) rfl
theorem mw_instantiable_RX5_5 : (.instantiable RX5 5 : Cond) ∈ BIG := big_tab (by decide +kernel) rfl
theorem mw_initialized_RX6 : (.initialized RX6 : Cond) ∈ BIG := big_tab (by decide +kernel) rfl
theorem mw_instantiable_RX6_2 : (.instantiable RX6 2 : Cond) ∈ BIG := big_tab (by decide +kernel) rfl
theorem mw_initialized_RX7 : (.initialized RX7 : Cond) ∈ BIG := big_tab (by decide +kernel) rfl
theorem mw_instantiable_RX7_16 : (.instantiable RX7 16 : Cond) ∈ BIG := big_tab (by decide +kernel) rfl
theorem mw_initialized_RX8 : (.initialized RX8 : Cond) ∈ BIG := big_tab (by decide +kernel) rfl
theorem mw_instantiable_RX8_17 : (.instantiable RX8 17 : Cond) ∈ BIG := big_tab (by decide +kernel) rfl
theorem mw_initialized_RX9 : (.initialized RX9 : Cond) ∈ BIG := big_tab (by decide +kernel) rfl
theorem mw_instantiable_RX9_17 : (.instantiable RX9 17 : Cond) ∈ BIG := big_tab (by decide +kernel) rfl
theorem mw_initialized_RX10 : (.initialized RX10 : Cond) ∈ BIG := big_tab (by decide +kernel) rfl
theorem mw_instantiable_RX10_80 : (.instantiable RX10 80 : Cond) ∈ BIG := big_tab (by decide +kernel) rfl
theorem mw_instanceMethod_objectInit : (.instanceMethod objectInit : Cond) ∈ BIG := big_tab (by decide +kernel) rfl
theorem mw_code_objectInit_0xb1_1_none : (.code objectInit ⟨#[0xb1]⟩ 1 none : Cond) ∈ BIG := big_tab (by decide +kernel) rfl
theorem iX0 : ∀ w ∈ u_ws RX0 TX0 9, w ∈ BIG := fun w h => big_tab ((by decide +kernel : ∀ w ∈ u_ws RX0 TX0 9, w ∈ tables_1) w h) ((by decide +kernel : ∀ w ∈ u_ws RX0 TX0 9, goodWord w = true) w h)
theorem iX1 : ∀ w ∈ u_ws RX1 TX1 5, w ∈ BIG := fun w h => big_tab ((by decide +kernel : ∀ w ∈ u_ws RX1 TX1 5, w ∈ tables_1) w h) ((by decide +kernel : ∀ w ∈ u_ws RX1 TX1 5, goodWord w = true) w h)
theorem iX2 : ∀ w ∈ u_ws RX2 TX2 15, w ∈ BIG := fun w h => big_tab ((by decide +kernel : ∀ w ∈ u_ws RX2 TX2 15, w ∈ tables_1) w h) ((by decide +kernel : ∀ w ∈ u_ws RX2 TX2 15, goodWord w = true) w h)
theorem iX3 : ∀ w ∈ u_ws RX3 TX3 4, w ∈ BIG := fun w h => big_tab ((by decide +kernel : ∀ w ∈ u_ws RX3 TX3 4, w ∈ tables_1) w h) ((by decide +kernel : ∀ w ∈ u_ws RX3 TX3 4, goodWord w = true) w h)
theorem iX4 : ∀ w ∈ u_ws RX4 TX4 10, w ∈ BIG := fun w h => big_tab ((by decide +kernel : ∀ w ∈ u_ws RX4 TX4 10, w ∈ tables_1) w h) ((by decide +kernel : ∀ w ∈ u_ws RX4 TX4 10, goodWord w = true) w h)
theorem iX5 : ∀ w ∈ u_ws RX5 TX5 5, w ∈ BIG := fun w h => big_tab ((by decide +kernel : ∀ w ∈ u_ws RX5 TX5 5, w ∈ tables_1) w h) ((by decide +kernel : ∀ w ∈ u_ws RX5 TX5 5, goodWord w = true) w h)
theorem iX6 : ∀ w ∈ u_ws RX6 TX6 2, w ∈ BIG := fun w h => big_tab ((by decide +kernel : ∀ w ∈ u_ws RX6 TX6 2, w ∈ tables_1) w h) ((by decide +kernel : ∀ w ∈ u_ws RX6 TX6 2, goodWord w = true) w h)
theorem iX7 : ∀ w ∈ u_ws RX7 TX7 16, w ∈ BIG := fun w h => big_tab ((by decide +kernel : ∀ w ∈ u_ws RX7 TX7 16, w ∈ tables_1) w h) ((by decide +kernel : ∀ w ∈ u_ws RX7 TX7 16, goodWord w = true) w h)
theorem iX8 : ∀ w ∈ u_ws RX8 TX8 17, w ∈ BIG := fun w h => big_tab ((by decide +kernel : ∀ w ∈ u_ws RX8 TX8 17, w ∈ tables_1) w h) ((by decide +kernel : ∀ w ∈ u_ws RX8 TX8 17, goodWord w = true) w h)
theorem iX9 : ∀ w ∈ u_ws RX9 TX9 17, w ∈ BIG := fun w h => big_tab ((by decide +kernel : ∀ w ∈ u_ws RX9 TX9 17, w ∈ tables_1) w h) ((by decide +kernel : ∀ w ∈ u_ws RX9 TX9 17, goodWord w = true) w h)
theorem iX10 : ∀ w ∈ u_ws RX10 TX10 80, w ∈ BIG := fun w h => big_tab ((by decide +kernel : ∀ w ∈ u_ws RX10 TX10 80, w ∈ tables_1) w h) ((by decide +kernel : ∀ w ∈ u_ws RX10 TX10 80, goodWord w = true) w h)
theorem dflt_X0 : ∀ j, j < 9 → defaultValue (tyX0 j) = vp_V [.null, .long 0, .int 0, .int 0, .int 0, .null, .int 0, .null, .null] j := by decide +kernel
theorem dflt_X1 : ∀ j, j < 5 → defaultValue (tyX1 j) = vp_V [.null, .int 0, .long 0, .int 0, .int 0] j := by decide +kernel
theorem dflt_X2 : ∀ j, j < 15 → defaultValue (tyX2 j) = vp_V [.int 0, .int 0, .int 0, .int 0, .int 0, .int 0, .int 0, .int 0, .long 0, .null, .null, .null, .null, .null, .null] j := by decide +kernel
theorem dflt_X3 : ∀ j, j < 4 → defaultValue (tyX3 j) = vp_V [.null, .null, .int 0, .int 0] j := by decide +kernel
theorem dflt_X4 : ∀ j, j < 10 → defaultValue (tyX4 j) = vp_V [.null, .int 0, .int 0, .int 0, .null, .null, .int 0, .null, .null, .null] j := by decide +kernel
theorem dflt_X5 : ∀ j, j < 5 → defaultValue (tyX5 j) = vp_V [.null, .null, .long 0, .long 0, .long 0] j := by decide +kernel
theorem dflt_X6 : ∀ j, j < 2 → defaultValue (tyX6 j) = vp_V [.null, .int 0] j := by decide +kernel
theorem dflt_X7 : ∀ j, j < 16 → defaultValue (tyX7 j) = vp_V [.null, .int 0, .int 0, .int 0, .int 0, .int 0, .long 0, .null, .int 0, .int 0, .null, .int 0, .null, .int 0, .int 0, .int 0] j := by decide +kernel
theorem dflt_X8 : ∀ j, j < 17 → defaultValue (tyX8 j) = vp_V [.null, .null, .null, .null, .null, .int 0, .int 0, .null, .null, .int 0, .int 0, .null, .null, .int 0, .int 0, .int 0, .null] j := by decide +kernel
theorem dflt_X9 : ∀ j, j < 17 → defaultValue (tyX9 j) = vp_V [.null, .int 0, .null, .null, .null, .int 0, .int 0, .null, .null, .null, .null, .int 0, .null, .null, .null, .null, .null] j := by decide +kernel
theorem dflt_X10 : ∀ j, j < 80 → defaultValue (tyX10 j) = vp_V [.null, .null, .int 0, .int 0, .int 0, .int 0, .int 0, .int 0, .int 0, .int 0, .long 0, .null, .null, .null, .null, .null, .null, .null, .null, .null, .null, .null, .null, .null, .null, .null, .null, .null, .null, .null, .null, .null, .null, .null, .null, .null, .null, .int 0, .int 0, .int 0, .int 0, .int 0, .int 0, .null, .null, .null, .int 0, .int 0, .int 0, .int 0, .null, .int 0, .int 0, .null, .int 0, .int 0, .null, .null, .null, .null, .int 0, .null, .null, .null, .int 0, .null, .null, .null, .null, .null, .null, .null, .null, .null, .null, .int 0, .int 0, .int 0, .null, .null] j := by decide +kernel
theorem cI_X0_init : CIw yX0_init cX0_init 1 0 := ⟨big_tab (by decide +kernel) rfl, mw_initialized_RX0, big_tab (by decide +kernel) rfl, rfl, ⟨by decide +kernel, by decide +kernel, by decide +kernel⟩⟩
theorem cV_X0_aim : CVw yX0_aim cX0_aim 8 none 5 := ⟨big_tab (by decide +kernel) rfl, big_tab (by decide +kernel) rfl, mw_initialized_RX0, big_tab (by decide +kernel) rfl, ⟨by decide +kernel, by decide +kernel, by decide +kernel⟩⟩
theorem cV_X0_isSoAnyway : CVw yX0_isSoAnyway cX0_isSoAnyway 1 (some .boolean) 0 := ⟨big_tab (by decide +kernel) rfl, big_sel (q := (yX0_isSoAnyway, 9)) (by decide +kernel), mw_initialized_RX0, big_tab (by decide +kernel) rfl, ⟨by decide +kernel, by decide +kernel, by decide +kernel⟩⟩
theorem cV_X0_fewestOrdered : CVw yX0_fewestOrdered cX0_fewestOrdered 3 (some .int) 1 := ⟨big_tab (by decide +kernel) rfl, big_tab (by decide +kernel) rfl, mw_initialized_RX0, big_tab (by decide +kernel) rfl, ⟨by decide +kernel, by decide +kernel, by decide +kernel⟩⟩
theorem cV_X0_layMen : CVw yX0_layMen cX0_layMen 3 none 1 := ⟨big_tab (by decide +kernel) rfl, big_sel (q := (yX0_layMen, 9)) (by decide +kernel), mw_initialized_RX0, big_tab (by decide +kernel) rfl, ⟨by decide +kernel, by decide +kernel, by decide +kernel⟩⟩
theorem cV_X0_orderMen : CVw yX0_orderMen cX0_orderMen 4 (some .boolean) 2 := ⟨big_tab (by decide +kernel) rfl, big_sel (q := (yX0_orderMen, 9)) (by decide +kernel), mw_initialized_RX0, big_tab (by decide +kernel) rfl, ⟨by decide +kernel, by decide +kernel, by decide +kernel⟩⟩
theorem cV_X0_orderMoves : CVw yX0_orderMoves cX0_orderMoves 6 (some .boolean) 2 := ⟨big_tab (by decide +kernel) rfl, big_sel (q := (yX0_orderMoves, 9)) (by decide +kernel), mw_initialized_RX0, big_tab (by decide +kernel) rfl, ⟨by decide +kernel, by decide +kernel, by decide +kernel⟩⟩
theorem cV_X0_comesTrue : CVw yX0_comesTrue cX0_comesTrue 6 (some .boolean) 1 := ⟨big_tab (by decide +kernel) rfl, big_sel (q := (yX0_comesTrue, 9)) (by decide +kernel), mw_initialized_RX0, big_tab (by decide +kernel) rfl, ⟨by decide +kernel, by decide +kernel, by decide +kernel⟩⟩
theorem cV_X0_fewestCracked : CVw yX0_fewestCracked cX0_fewestCracked 2 (some .int) 1 := ⟨big_tab (by decide +kernel) rfl, big_tab (by decide +kernel) rfl, mw_initialized_RX0, big_tab (by decide +kernel) rfl, ⟨by decide +kernel, by decide +kernel, by decide +kernel⟩⟩
theorem cV_X0_crackMen : CVw yX0_crackMen cX0_crackMen 6 (some .boolean) 3 := ⟨big_tab (by decide +kernel) rfl, big_sel (q := (yX0_crackMen, 9)) (by decide +kernel), mw_initialized_RX0, big_tab (by decide +kernel) rfl, ⟨by decide +kernel, by decide +kernel, by decide +kernel⟩⟩
theorem cV_X0_comesTrueCracked : CVw yX0_comesTrueCracked cX0_comesTrueCracked 6 (some .boolean) 1 := ⟨big_tab (by decide +kernel) rfl, big_sel (q := (yX0_comesTrueCracked, 9)) (by decide +kernel), mw_initialized_RX0, big_tab (by decide +kernel) rfl, ⟨by decide +kernel, by decide +kernel, by decide +kernel⟩⟩
theorem cI_X1_init : CIw yX1_init cX1_init 1 0 := ⟨big_tab (by decide +kernel) rfl, mw_initialized_RX1, big_tab (by decide +kernel) rfl, rfl, ⟨by decide +kernel, by decide +kernel, by decide +kernel⟩⟩
theorem cV_X1_forget : CVw yX1_forget cX1_forget 1 none 0 := ⟨big_tab (by decide +kernel) rfl, big_tab (by decide +kernel) rfl, mw_initialized_RX1, big_tab (by decide +kernel) rfl, ⟨by decide +kernel, by decide +kernel, by decide +kernel⟩⟩
theorem cV_X1_tail : CVw yX1_tail cX1_tail 1 (some .int) 0 := ⟨big_tab (by decide +kernel) rfl, big_tab (by decide +kernel) rfl, mw_initialized_RX1, big_tab (by decide +kernel) rfl, ⟨by decide +kernel, by decide +kernel, by decide +kernel⟩⟩
theorem cV_X1_loop : CVw yX1_loop cX1_loop 1 (some .int) 0 := ⟨big_tab (by decide +kernel) rfl, big_tab (by decide +kernel) rfl, mw_initialized_RX1, big_tab (by decide +kernel) rfl, ⟨by decide +kernel, by decide +kernel, by decide +kernel⟩⟩
theorem cV_X1_comesRound : CVw yX1_comesRound cX1_comesRound 4 (some .boolean) 2 := ⟨big_tab (by decide +kernel) rfl, big_tab (by decide +kernel) rfl, mw_initialized_RX1, big_tab (by decide +kernel) rfl, ⟨by decide +kernel, by decide +kernel, by decide +kernel⟩⟩
theorem cV_X1_follow : CVw yX1_follow cX1_follow 4 none 2 := ⟨big_tab (by decide +kernel) rfl, big_sel (q := (yX1_follow, 5)) (by decide +kernel), mw_initialized_RX1, big_tab (by decide +kernel) rfl, ⟨by decide +kernel, by decide +kernel, by decide +kernel⟩⟩
theorem cV_X1_findLoop : CVw yX1_findLoop cX1_findLoop 6 (some .int) 2 := ⟨big_tab (by decide +kernel) rfl, big_sel (q := (yX1_findLoop, 5)) (by decide +kernel), mw_initialized_RX1, big_tab (by decide +kernel) rfl, ⟨by decide +kernel, by decide +kernel, by decide +kernel⟩⟩
theorem cI_X2_init : CIw yX2_init cX2_init 1 0 := ⟨big_tab (by decide +kernel) rfl, mw_initialized_RX2, big_tab (by decide +kernel) rfl, rfl, ⟨by decide +kernel, by decide +kernel, by decide +kernel⟩⟩
theorem cV_X2_clear : CVw yX2_clear cX2_clear 2 none 0 := ⟨big_tab (by decide +kernel) rfl, big_tab (by decide +kernel) rfl, mw_initialized_RX2, big_tab (by decide +kernel) rfl, ⟨by decide +kernel, by decide +kernel, by decide +kernel⟩⟩
theorem cV_X2_isMan : CVw yX2_isMan cX2_isMan 2 (some .boolean) 1 := ⟨big_tab (by decide +kernel) rfl, big_tab (by decide +kernel) rfl, mw_initialized_RX2, big_tab (by decide +kernel) rfl, ⟨by decide +kernel, by decide +kernel, by decide +kernel⟩⟩
theorem cV_X2_isMove : CVw yX2_isMove cX2_isMove 2 (some .boolean) 1 := ⟨big_tab (by decide +kernel) rfl, big_tab (by decide +kernel) rfl, mw_initialized_RX2, big_tab (by decide +kernel) rfl, ⟨by decide +kernel, by decide +kernel, by decide +kernel⟩⟩
theorem cV_X2_isRule : CVw yX2_isRule cX2_isRule 2 (some .boolean) 1 := ⟨big_tab (by decide +kernel) rfl, big_tab (by decide +kernel) rfl, mw_initialized_RX2, big_tab (by decide +kernel) rfl, ⟨by decide +kernel, by decide +kernel, by decide +kernel⟩⟩
theorem cV_X2_setMade : CVw yX2_setMade cX2_setMade 4 none 3 := ⟨big_tab (by decide +kernel) rfl, big_tab (by decide +kernel) rfl, mw_initialized_RX2, big_tab (by decide +kernel) rfl, ⟨by decide +kernel, by decide +kernel, by decide +kernel⟩⟩
theorem cV_X2_makes : CVw yX2_makes cX2_makes 3 (some .int) 2 := ⟨big_tab (by decide +kernel) rfl, big_tab (by decide +kernel) rfl, mw_initialized_RX2, big_tab (by decide +kernel) rfl, ⟨by decide +kernel, by decide +kernel, by decide +kernel⟩⟩
theorem cV_X2_settle : CVw yX2_settle cX2_settle 4 none 0 := ⟨big_tab (by decide +kernel) rfl, big_tab (by decide +kernel) rfl, mw_initialized_RX2, big_tab (by decide +kernel) rfl, ⟨by decide +kernel, by decide +kernel, by decide +kernel⟩⟩
theorem cV_X2_told : CVw yX2_told cX2_told 6 (some .int) 4 := ⟨big_tab (by decide +kernel) rfl, big_sel (q := (yX2_told, 15)) (by decide +kernel), mw_initialized_RX2, big_tab (by decide +kernel) rfl, ⟨by decide +kernel, by decide +kernel, by decide +kernel⟩⟩
theorem cV_X2_throughWindow : CVw yX2_throughWindow cX2_throughWindow 4 (some .int) 3 := ⟨big_tab (by decide +kernel) rfl, big_tab (by decide +kernel) rfl, mw_initialized_RX2, big_tab (by decide +kernel) rfl, ⟨by decide +kernel, by decide +kernel, by decide +kernel⟩⟩
theorem cV_X2_stays : CVw yX2_stays cX2_stays 2 (some .boolean) 1 := ⟨big_tab (by decide +kernel) rfl, big_sel (q := (yX2_stays, 15)) (by decide +kernel), mw_initialized_RX2, big_tab (by decide +kernel) rfl, ⟨by decide +kernel, by decide +kernel, by decide +kernel⟩⟩
theorem cV_X2_isCracked : CVw yX2_isCracked cX2_isCracked 2 (some .boolean) 1 := ⟨big_tab (by decide +kernel) rfl, big_tab (by decide +kernel) rfl, mw_initialized_RX2, big_tab (by decide +kernel) rfl, ⟨by decide +kernel, by decide +kernel, by decide +kernel⟩⟩
theorem cV_X2_widened : CVw yX2_widened cX2_widened 7 (some .long) 1 := ⟨big_tab (by decide +kernel) rfl, big_sel (q := (yX2_widened, 15)) (by decide +kernel), mw_initialized_RX2, big_tab (by decide +kernel) rfl, ⟨by decide +kernel, by decide +kernel, by decide +kernel⟩⟩
theorem cV_X2_doesBy : CVw yX2_doesBy cX2_doesBy 3 (some .int) 2 := ⟨big_tab (by decide +kernel) rfl, big_tab (by decide +kernel) rfl, mw_initialized_RX2, big_tab (by decide +kernel) rfl, ⟨by decide +kernel, by decide +kernel, by decide +kernel⟩⟩
theorem cV_X2_stepsOf : CVw yX2_stepsOf cX2_stepsOf 11 (some .long) 3 := ⟨big_tab (by decide +kernel) rfl, big_sel (q := (yX2_stepsOf, 15)) (by decide +kernel), mw_initialized_RX2, big_tab (by decide +kernel) rfl, ⟨by decide +kernel, by decide +kernel, by decide +kernel⟩⟩
theorem cV_X2_after : CVw yX2_after cX2_after 3 (some .long) 1 := ⟨big_tab (by decide +kernel) rfl, big_tab (by decide +kernel) rfl, mw_initialized_RX2, big_tab (by decide +kernel) rfl, ⟨by decide +kernel, by decide +kernel, by decide +kernel⟩⟩
theorem cV_X2_afterNear : CVw yX2_afterNear cX2_afterNear 11 (some .long) 3 := ⟨big_tab (by decide +kernel) rfl, big_tab (by decide +kernel) rfl, mw_initialized_RX2, big_tab (by decide +kernel) rfl, ⟨by decide +kernel, by decide +kernel, by decide +kernel⟩⟩
theorem cV_X2_isNear : CVw yX2_isNear cX2_isNear 5 (some .boolean) 3 := ⟨big_tab (by decide +kernel) rfl, big_tab (by decide +kernel) rfl, mw_initialized_RX2, big_tab (by decide +kernel) rfl, ⟨by decide +kernel, by decide +kernel, by decide +kernel⟩⟩
theorem cV_X2_afterBeats : CVw yX2_afterBeats cX2_afterBeats 7 (some .long) 2 := ⟨big_tab (by decide +kernel) rfl, big_tab (by decide +kernel) rfl, mw_initialized_RX2, big_tab (by decide +kernel) rfl, ⟨by decide +kernel, by decide +kernel, by decide +kernel⟩⟩
theorem cV_X2_worthOf : CVw yX2_worthOf cX2_worthOf 5 (some .int) 1 := ⟨big_tab (by decide +kernel) rfl, big_tab (by decide +kernel) rfl, mw_initialized_RX2, big_tab (by decide +kernel) rfl, ⟨by decide +kernel, by decide +kernel, by decide +kernel⟩⟩
theorem cI_X3_init : CIw yX3_init cX3_init 1 0 := ⟨big_tab (by decide +kernel) rfl, mw_initialized_RX3, big_tab (by decide +kernel) rfl, rfl, ⟨by decide +kernel, by decide +kernel, by decide +kernel⟩⟩
theorem cV_X3_begin : CVw yX3_begin cX3_begin 4 none 2 := ⟨big_tab (by decide +kernel) rfl, big_tab (by decide +kernel) rfl, mw_initialized_RX3, big_tab (by decide +kernel) rfl, ⟨by decide +kernel, by decide +kernel, by decide +kernel⟩⟩
theorem cV_X3_row : CVw yX3_row cX3_row 1 (some .long) 0 := ⟨big_tab (by decide +kernel) rfl, big_tab (by decide +kernel) rfl, mw_initialized_RX3, big_tab (by decide +kernel) rfl, ⟨by decide +kernel, by decide +kernel, by decide +kernel⟩⟩
theorem cV_X3_beats : CVw yX3_beats cX3_beats 1 (some .int) 0 := ⟨big_tab (by decide +kernel) rfl, big_tab (by decide +kernel) rfl, mw_initialized_RX3, big_tab (by decide +kernel) rfl, ⟨by decide +kernel, by decide +kernel, by decide +kernel⟩⟩
theorem cV_X3_act : CVw yX3_act cX3_act 4 none 2 := ⟨big_tab (by decide +kernel) rfl, big_tab (by decide +kernel) rfl, mw_initialized_RX3, big_tab (by decide +kernel) rfl, ⟨by decide +kernel, by decide +kernel, by decide +kernel⟩⟩
theorem cV_X3_takeBack : CVw yX3_takeBack cX3_takeBack 1 (some .boolean) 0 := ⟨big_tab (by decide +kernel) rfl, big_tab (by decide +kernel) rfl, mw_initialized_RX3, big_tab (by decide +kernel) rfl, ⟨by decide +kernel, by decide +kernel, by decide +kernel⟩⟩
theorem cV_X3_doAgain : CVw yX3_doAgain cX3_doAgain 1 (some .boolean) 0 := ⟨big_tab (by decide +kernel) rfl, big_tab (by decide +kernel) rfl, mw_initialized_RX3, big_tab (by decide +kernel) rfl, ⟨by decide +kernel, by decide +kernel, by decide +kernel⟩⟩
theorem cV_X3_actsDone : CVw yX3_actsDone cX3_actsDone 1 (some .int) 0 := ⟨big_tab (by decide +kernel) rfl, big_tab (by decide +kernel) rfl, mw_initialized_RX3, big_tab (by decide +kernel) rfl, ⟨by decide +kernel, by decide +kernel, by decide +kernel⟩⟩
theorem cV_X3_actsTakenBack : CVw yX3_actsTakenBack cX3_actsTakenBack 1 (some .int) 0 := ⟨big_tab (by decide +kernel) rfl, big_tab (by decide +kernel) rfl, mw_initialized_RX3, big_tab (by decide +kernel) rfl, ⟨by decide +kernel, by decide +kernel, by decide +kernel⟩⟩
theorem cI_X4_init : CIw yX4_init cX4_init 1 0 := ⟨big_tab (by decide +kernel) rfl, mw_initialized_RX4, big_tab (by decide +kernel) rfl, rfl, ⟨by decide +kernel, by decide +kernel, by decide +kernel⟩⟩
theorem cV_X4_take : CVw yX4_take cX4_take 3 none 2 := ⟨big_tab (by decide +kernel) rfl, big_sel (q := (yX4_take, 10)) (by decide +kernel), mw_initialized_RX4, big_tab (by decide +kernel) rfl, ⟨by decide +kernel, by decide +kernel, by decide +kernel⟩⟩
theorem cV_X4_makes : CVw yX4_makes cX4_makes 4 (some .int) 3 := ⟨big_tab (by decide +kernel) rfl, big_sel (q := (yX4_makes, 10)) (by decide +kernel), mw_initialized_RX4, big_tab (by decide +kernel) rfl, ⟨by decide +kernel, by decide +kernel, by decide +kernel⟩⟩
theorem cV_X4_leftOf : CVw yX4_leftOf cX4_leftOf 2 (some .int) 1 := ⟨big_tab (by decide +kernel) rfl, big_sel (q := (yX4_leftOf, 10)) (by decide +kernel), mw_initialized_RX4, big_tab (by decide +kernel) rfl, ⟨by decide +kernel, by decide +kernel, by decide +kernel⟩⟩
theorem cV_X4_ownOf : CVw yX4_ownOf cX4_ownOf 2 (some .int) 1 := ⟨big_tab (by decide +kernel) rfl, big_sel (q := (yX4_ownOf, 10)) (by decide +kernel), mw_initialized_RX4, big_tab (by decide +kernel) rfl, ⟨by decide +kernel, by decide +kernel, by decide +kernel⟩⟩
theorem cV_X4_shortestUnmade : CVw yX4_shortestUnmade cX4_shortestUnmade 9 (some .int) 3 := ⟨big_tab (by decide +kernel) rfl, big_tab (by decide +kernel) rfl, mw_initialized_RX4, big_tab (by decide +kernel) rfl, ⟨by decide +kernel, by decide +kernel, by decide +kernel⟩⟩
theorem cV_X4_layLeads : CVw yX4_layLeads cX4_layLeads 6 none 0 := ⟨big_tab (by decide +kernel) rfl, big_sel (q := (yX4_layLeads, 10)) (by decide +kernel), mw_initialized_RX4, big_tab (by decide +kernel) rfl, ⟨by decide +kernel, by decide +kernel, by decide +kernel⟩⟩
theorem cV_X4_leadsOf : CVw yX4_leadsOf cX4_leadsOf 7 (some .long) 1 := ⟨big_tab (by decide +kernel) rfl, big_sel (q := (yX4_leadsOf, 10)) (by decide +kernel), mw_initialized_RX4, big_tab (by decide +kernel) rfl, ⟨by decide +kernel, by decide +kernel, by decide +kernel⟩⟩
theorem cV_X4_behind : CVw yX4_behind cX4_behind 2 (some .long) 1 := ⟨big_tab (by decide +kernel) rfl, big_sel (q := (yX4_behind, 10)) (by decide +kernel), mw_initialized_RX4, big_tab (by decide +kernel) rfl, ⟨by decide +kernel, by decide +kernel, by decide +kernel⟩⟩
theorem cV_X4_beginQueue : CVw yX4_beginQueue cX4_beginQueue 2 none 0 := ⟨big_tab (by decide +kernel) rfl, big_sel (q := (yX4_beginQueue, 10)) (by decide +kernel), mw_initialized_RX4, big_tab (by decide +kernel) rfl, ⟨by decide +kernel, by decide +kernel, by decide +kernel⟩⟩
theorem cV_X4_enqueue : CVw yX4_enqueue cX4_enqueue 4 none 2 := ⟨big_tab (by decide +kernel) rfl, big_sel (q := (yX4_enqueue, 10)) (by decide +kernel), mw_initialized_RX4, big_tab (by decide +kernel) rfl, ⟨by decide +kernel, by decide +kernel, by decide +kernel⟩⟩
theorem cV_X4_layWord : CVw yX4_layWord cX4_layWord 8 (some .int) 3 := ⟨big_tab (by decide +kernel) rfl, big_sel (q := (yX4_layWord, 10)) (by decide +kernel), mw_initialized_RX4, big_tab (by decide +kernel) rfl, ⟨by decide +kernel, by decide +kernel, by decide +kernel⟩⟩
theorem cV_X4_moveBetween : CVw yX4_moveBetween cX4_moveBetween 6 (some .int) 2 := ⟨big_tab (by decide +kernel) rfl, big_sel (q := (yX4_moveBetween, 10)) (by decide +kernel), mw_initialized_RX4, big_tab (by decide +kernel) rfl, ⟨by decide +kernel, by decide +kernel, by decide +kernel⟩⟩
theorem cV_X4_isOneToOne : CVw yX4_isOneToOne cX4_isOneToOne 5 (some .boolean) 2 := ⟨big_tab (by decide +kernel) rfl, big_tab (by decide +kernel) rfl, mw_initialized_RX4, big_tab (by decide +kernel) rfl, ⟨by decide +kernel, by decide +kernel, by decide +kernel⟩⟩
theorem cV_X4_thinOut : CVw yX4_thinOut cX4_thinOut 4 (some .boolean) 0 := ⟨big_tab (by decide +kernel) rfl, big_sel (q := (yX4_thinOut, 10)) (by decide +kernel), mw_initialized_RX4, big_tab (by decide +kernel) rfl, ⟨by decide +kernel, by decide +kernel, by decide +kernel⟩⟩
theorem cV_X4_walkTogether : CVw yX4_walkTogether cX4_walkTogether 3 (some .boolean) 2 := ⟨big_tab (by decide +kernel) rfl, big_sel (q := (yX4_walkTogether, 10)) (by decide +kernel), mw_initialized_RX4, big_tab (by decide +kernel) rfl, ⟨by decide +kernel, by decide +kernel, by decide +kernel⟩⟩
theorem cV_X4_goesOn : CVw yX4_goesOn cX4_goesOn 6 (some .boolean) 2 := ⟨big_tab (by decide +kernel) rfl, big_sel (q := (yX4_goesOn, 10)) (by decide +kernel), mw_initialized_RX4, big_tab (by decide +kernel) rfl, ⟨by decide +kernel, by decide +kernel, by decide +kernel⟩⟩
theorem cV_X4_cameFrom : CVw yX4_cameFrom cX4_cameFrom 6 (some .boolean) 2 := ⟨big_tab (by decide +kernel) rfl, big_sel (q := (yX4_cameFrom, 10)) (by decide +kernel), mw_initialized_RX4, big_tab (by decide +kernel) rfl, ⟨by decide +kernel, by decide +kernel, by decide +kernel⟩⟩
theorem cV_X4_keepsWorth : CVw yX4_keepsWorth cX4_keepsWorth 5 (some .boolean) 2 := ⟨big_tab (by decide +kernel) rfl, big_tab (by decide +kernel) rfl, mw_initialized_RX4, big_tab (by decide +kernel) rfl, ⟨by decide +kernel, by decide +kernel, by decide +kernel⟩⟩
theorem cV_X4_isRing : CVw yX4_isRing cX4_isRing 4 (some .boolean) 2 := ⟨big_tab (by decide +kernel) rfl, big_sel (q := (yX4_isRing, 10)) (by decide +kernel), mw_initialized_RX4, big_tab (by decide +kernel) rfl, ⟨by decide +kernel, by decide +kernel, by decide +kernel⟩⟩
theorem cV_X4_gainOf : CVw yX4_gainOf cX4_gainOf 6 (some .int) 2 := ⟨big_tab (by decide +kernel) rfl, big_sel (q := (yX4_gainOf, 10)) (by decide +kernel), mw_initialized_RX4, big_tab (by decide +kernel) rfl, ⟨by decide +kernel, by decide +kernel, by decide +kernel⟩⟩
theorem cI_X5_init : CIw yX5_init cX5_init 1 0 := ⟨big_tab (by decide +kernel) rfl, mw_initialized_RX5, big_tab (by decide +kernel) rfl, rfl, ⟨by decide +kernel, by decide +kernel, by decide +kernel⟩⟩
theorem cV_X5_count : CVw yX5_count cX5_count 1 (some .long) 0 := ⟨big_tab (by decide +kernel) rfl, big_tab (by decide +kernel) rfl, mw_initialized_RX5, big_tab (by decide +kernel) rfl, ⟨by decide +kernel, by decide +kernel, by decide +kernel⟩⟩
theorem cV_X5_firstDoes : CVw yX5_firstDoes cX5_firstDoes 2 (some .int) 1 := ⟨big_tab (by decide +kernel) rfl, big_tab (by decide +kernel) rfl, mw_initialized_RX5, big_tab (by decide +kernel) rfl, ⟨by decide +kernel, by decide +kernel, by decide +kernel⟩⟩
theorem cV_X5_seek : CVw yX5_seek cX5_seek 5 none 2 := ⟨big_tab (by decide +kernel) rfl, big_tab (by decide +kernel) rfl, mw_initialized_RX5, big_tab (by decide +kernel) rfl, ⟨by decide +kernel, by decide +kernel, by decide +kernel⟩⟩
theorem cV_X5_seekInRing : CVw yX5_seekInRing cX5_seekInRing 3 none 0 := ⟨big_tab (by decide +kernel) rfl, big_sel (q := (yX5_seekInRing, 5)) (by decide +kernel), mw_initialized_RX5, big_tab (by decide +kernel) rfl, ⟨by decide +kernel, by decide +kernel, by decide +kernel⟩⟩
theorem cS_X5_wayAt : CSw yX5_wayAt cX5_wayAt 3 (some .int) 3 := ⟨big_tab (by decide +kernel) rfl, mw_initialized_RX5, big_tab (by decide +kernel) rfl, ⟨by decide +kernel, by decide +kernel, by decide +kernel⟩⟩
theorem cV_X5_layWays : CVw yX5_layWays cX5_layWays 6 none 2 := ⟨big_tab (by decide +kernel) rfl, big_sel (q := (yX5_layWays, 5)) (by decide +kernel), mw_initialized_RX5, big_tab (by decide +kernel) rfl, ⟨by decide +kernel, by decide +kernel, by decide +kernel⟩⟩
theorem cV_X5_waysAtEnd : CVw yX5_waysAtEnd cX5_waysAtEnd 6 (some .long) 4 := ⟨big_tab (by decide +kernel) rfl, big_sel (q := (yX5_waysAtEnd, 5)) (by decide +kernel), mw_initialized_RX5, big_tab (by decide +kernel) rfl, ⟨by decide +kernel, by decide +kernel, by decide +kernel⟩⟩
theorem cV_X5_waysBehind : CVw yX5_waysBehind cX5_waysBehind 8 (some .long) 3 := ⟨big_tab (by decide +kernel) rfl, big_sel (q := (yX5_waysBehind, 5)) (by decide +kernel), mw_initialized_RX5, big_tab (by decide +kernel) rfl, ⟨by decide +kernel, by decide +kernel, by decide +kernel⟩⟩
theorem cV_X5_leads : CVw yX5_leads cX5_leads 5 (some .boolean) 4 := ⟨big_tab (by decide +kernel) rfl, big_sel (q := (yX5_leads, 5)) (by decide +kernel), mw_initialized_RX5, big_tab (by decide +kernel) rfl, ⟨by decide +kernel, by decide +kernel, by decide +kernel⟩⟩
theorem cV_X5_addUp : CVw yX5_addUp cX5_addUp 7 none 2 := ⟨big_tab (by decide +kernel) rfl, big_sel (q := (yX5_addUp, 5)) (by decide +kernel), mw_initialized_RX5, big_tab (by decide +kernel) rfl, ⟨by decide +kernel, by decide +kernel, by decide +kernel⟩⟩
theorem cV_X5_keyOfFirst : CVw yX5_keyOfFirst cX5_keyOfFirst 9 (some .long) 2 := ⟨big_tab (by decide +kernel) rfl, big_sel (q := (yX5_keyOfFirst, 5)) (by decide +kernel), mw_initialized_RX5, big_tab (by decide +kernel) rfl, ⟨by decide +kernel, by decide +kernel, by decide +kernel⟩⟩
theorem cV_X5_firstBehind : CVw yX5_firstBehind cX5_firstBehind 5 (some .int) 3 := ⟨big_tab (by decide +kernel) rfl, big_sel (q := (yX5_firstBehind, 5)) (by decide +kernel), mw_initialized_RX5, big_tab (by decide +kernel) rfl, ⟨by decide +kernel, by decide +kernel, by decide +kernel⟩⟩
theorem cI_X6_init : CIw yX6_init cX6_init 1 0 := ⟨big_tab (by decide +kernel) rfl, mw_initialized_RX6, big_tab (by decide +kernel) rfl, rfl, ⟨by decide +kernel, by decide +kernel, by decide +kernel⟩⟩
theorem cV_X6_clear : CVw yX6_clear cX6_clear 1 none 0 := ⟨big_tab (by decide +kernel) rfl, big_tab (by decide +kernel) rfl, mw_initialized_RX6, big_tab (by decide +kernel) rfl, ⟨by decide +kernel, by decide +kernel, by decide +kernel⟩⟩
theorem cV_X6_size : CVw yX6_size cX6_size 1 (some .int) 0 := ⟨big_tab (by decide +kernel) rfl, big_tab (by decide +kernel) rfl, mw_initialized_RX6, big_tab (by decide +kernel) rfl, ⟨by decide +kernel, by decide +kernel, by decide +kernel⟩⟩
theorem cV_X6_number : CVw yX6_number cX6_number 2 (some .int) 1 := ⟨big_tab (by decide +kernel) rfl, big_tab (by decide +kernel) rfl, mw_initialized_RX6, big_tab (by decide +kernel) rfl, ⟨by decide +kernel, by decide +kernel, by decide +kernel⟩⟩
theorem cV_X6_add : CVw yX6_add cX6_add 2 none 1 := ⟨big_tab (by decide +kernel) rfl, big_tab (by decide +kernel) rfl, mw_initialized_RX6, big_tab (by decide +kernel) rfl, ⟨by decide +kernel, by decide +kernel, by decide +kernel⟩⟩
theorem cV_X6_reserve : CVw yX6_reserve cX6_reserve 2 none 1 := ⟨big_tab (by decide +kernel) rfl, big_tab (by decide +kernel) rfl, mw_initialized_RX6, big_tab (by decide +kernel) rfl, ⟨by decide +kernel, by decide +kernel, by decide +kernel⟩⟩
theorem cV_X6_put : CVw yX6_put cX6_put 3 none 2 := ⟨big_tab (by decide +kernel) rfl, big_tab (by decide +kernel) rfl, mw_initialized_RX6, big_tab (by decide +kernel) rfl, ⟨by decide +kernel, by decide +kernel, by decide +kernel⟩⟩
theorem cI_X7_init : CIw yX7_init cX7_init 1 0 := ⟨big_tab (by decide +kernel) rfl, mw_initialized_RX7, big_tab (by decide +kernel) rfl, rfl, ⟨by decide +kernel, by decide +kernel, by decide +kernel⟩⟩
theorem cV_X7_faultFound : CVw yX7_faultFound cX7_faultFound 1 (some .int) 0 := ⟨big_tab (by decide +kernel) rfl, big_tab (by decide +kernel) rfl, mw_initialized_RX7, big_tab (by decide +kernel) rfl, ⟨by decide +kernel, by decide +kernel, by decide +kernel⟩⟩
theorem cV_X7_placeOfFault : CVw yX7_placeOfFault cX7_placeOfFault 1 (some .int) 0 := ⟨big_tab (by decide +kernel) rfl, big_tab (by decide +kernel) rfl, mw_initialized_RX7, big_tab (by decide +kernel) rfl, ⟨by decide +kernel, by decide +kernel, by decide +kernel⟩⟩
theorem cV_X7_begin : CVw yX7_begin cX7_begin 4 none 3 := ⟨big_tab (by decide +kernel) rfl, big_tab (by decide +kernel) rfl, mw_initialized_RX7, big_tab (by decide +kernel) rfl, ⟨by decide +kernel, by decide +kernel, by decide +kernel⟩⟩
theorem cV_X7_hasMore : CVw yX7_hasMore cX7_hasMore 1 (some .boolean) 0 := ⟨big_tab (by decide +kernel) rfl, big_tab (by decide +kernel) rfl, mw_initialized_RX7, big_tab (by decide +kernel) rfl, ⟨by decide +kernel, by decide +kernel, by decide +kernel⟩⟩
theorem cV_X7_refuse : CVw yX7_refuse cX7_refuse 2 (some .boolean) 1 := ⟨big_tab (by decide +kernel) rfl, big_sel (q := (yX7_refuse, 16)) (by decide +kernel), mw_initialized_RX7, big_tab (by decide +kernel) rfl, ⟨by decide +kernel, by decide +kernel, by decide +kernel⟩⟩
theorem cV_X7_advance : CVw yX7_advance cX7_advance 1 none 0 := ⟨big_tab (by decide +kernel) rfl, big_sel (q := (yX7_advance, 16)) (by decide +kernel), mw_initialized_RX7, big_tab (by decide +kernel) rfl, ⟨by decide +kernel, by decide +kernel, by decide +kernel⟩⟩
theorem cS_X7_isBlank : CSw yX7_isBlank cX7_isBlank 1 (some .boolean) 1 := ⟨big_tab (by decide +kernel) rfl, mw_initialized_RX7, big_tab (by decide +kernel) rfl, ⟨by decide +kernel, by decide +kernel, by decide +kernel⟩⟩
theorem cS_X7_isLetter : CSw yX7_isLetter cX7_isLetter 1 (some .boolean) 1 := ⟨big_tab (by decide +kernel) rfl, mw_initialized_RX7, big_tab (by decide +kernel) rfl, ⟨by decide +kernel, by decide +kernel, by decide +kernel⟩⟩
theorem cS_X7_isDigit : CSw yX7_isDigit cX7_isDigit 1 (some .boolean) 1 := ⟨big_tab (by decide +kernel) rfl, mw_initialized_RX7, big_tab (by decide +kernel) rfl, ⟨by decide +kernel, by decide +kernel, by decide +kernel⟩⟩
theorem cV_X7_packWord : CVw yX7_packWord cX7_packWord 1 none 0 := ⟨big_tab (by decide +kernel) rfl, big_sel (q := (yX7_packWord, 16)) (by decide +kernel), mw_initialized_RX7, big_tab (by decide +kernel) rfl, ⟨by decide +kernel, by decide +kernel, by decide +kernel⟩⟩
theorem cV_X7_scanNumber : CVw yX7_scanNumber cX7_scanNumber 2 none 0 := ⟨big_tab (by decide +kernel) rfl, big_sel (q := (yX7_scanNumber, 16)) (by decide +kernel), mw_initialized_RX7, big_tab (by decide +kernel) rfl, ⟨by decide +kernel, by decide +kernel, by decide +kernel⟩⟩
theorem cS_X7_wordToken : CSw yX7_wordToken cX7_wordToken 7 (some .int) 1 := ⟨big_tab (by decide +kernel) rfl, mw_initialized_RX7, big_tab (by decide +kernel) rfl, ⟨by decide +kernel, by decide +kernel, by decide +kernel⟩⟩
theorem cV_X7_expect : CVw yX7_expect cX7_expect 2 (some .boolean) 1 := ⟨big_tab (by decide +kernel) rfl, big_sel (q := (yX7_expect, 16)) (by decide +kernel), mw_initialized_RX7, big_tab (by decide +kernel) rfl, ⟨by decide +kernel, by decide +kernel, by decide +kernel⟩⟩
theorem cV_X7_takeNumber : CVw yX7_takeNumber cX7_takeNumber 4 (some .int) 2 := ⟨big_tab (by decide +kernel) rfl, big_sel (q := (yX7_takeNumber, 16)) (by decide +kernel), mw_initialized_RX7, big_tab (by decide +kernel) rfl, ⟨by decide +kernel, by decide +kernel, by decide +kernel⟩⟩
theorem cV_X7_takeMove : CVw yX7_takeMove cX7_takeMove 1 (some .int) 0 := ⟨big_tab (by decide +kernel) rfl, big_sel (q := (yX7_takeMove, 16)) (by decide +kernel), mw_initialized_RX7, big_tab (by decide +kernel) rfl, ⟨by decide +kernel, by decide +kernel, by decide +kernel⟩⟩
theorem cV_X7_isTold : CVw yX7_isTold cX7_isTold 2 (some .boolean) 1 := ⟨big_tab (by decide +kernel) rfl, big_sel (q := (yX7_isTold, 16)) (by decide +kernel), mw_initialized_RX7, big_tab (by decide +kernel) rfl, ⟨by decide +kernel, by decide +kernel, by decide +kernel⟩⟩
theorem cV_X7_startsLine : CVw yX7_startsLine cX7_startsLine 2 (some .boolean) 1 := ⟨big_tab (by decide +kernel) rfl, big_sel (q := (yX7_startsLine, 16)) (by decide +kernel), mw_initialized_RX7, big_tab (by decide +kernel) rfl, ⟨by decide +kernel, by decide +kernel, by decide +kernel⟩⟩
theorem cV_X7_readLine : CVw yX7_readLine cX7_readLine 3 (some .boolean) 0 := ⟨big_tab (by decide +kernel) rfl, big_tab (by decide +kernel) rfl, mw_initialized_RX7, big_tab (by decide +kernel) rfl, ⟨by decide +kernel, by decide +kernel, by decide +kernel⟩⟩
theorem cV_X7_readWorths : CVw yX7_readWorths cX7_readWorths 2 (some .boolean) 0 := ⟨big_tab (by decide +kernel) rfl, big_sel (q := (yX7_readWorths, 16)) (by decide +kernel), mw_initialized_RX7, big_tab (by decide +kernel) rfl, ⟨by decide +kernel, by decide +kernel, by decide +kernel⟩⟩
theorem cV_X7_ruleNamed : CVw yX7_ruleNamed cX7_ruleNamed 4 (some .int) 1 := ⟨big_tab (by decide +kernel) rfl, big_sel (q := (yX7_ruleNamed, 16)) (by decide +kernel), mw_initialized_RX7, big_tab (by decide +kernel) rfl, ⟨by decide +kernel, by decide +kernel, by decide +kernel⟩⟩
theorem cV_X7_readRule : CVw yX7_readRule cX7_readRule 3 (some .boolean) 0 := ⟨big_tab (by decide +kernel) rfl, big_sel (q := (yX7_readRule, 16)) (by decide +kernel), mw_initialized_RX7, big_tab (by decide +kernel) rfl, ⟨by decide +kernel, by decide +kernel, by decide +kernel⟩⟩
theorem cV_X7_readMan : CVw yX7_readMan cX7_readMan 3 (some .boolean) 0 := ⟨big_tab (by decide +kernel) rfl, big_sel (q := (yX7_readMan, 16)) (by decide +kernel), mw_initialized_RX7, big_tab (by decide +kernel) rfl, ⟨by decide +kernel, by decide +kernel, by decide +kernel⟩⟩
theorem cV_X7_readBy : CVw yX7_readBy cX7_readBy 3 (some .boolean) 1 := ⟨big_tab (by decide +kernel) rfl, big_sel (q := (yX7_readBy, 16)) (by decide +kernel), mw_initialized_RX7, big_tab (by decide +kernel) rfl, ⟨by decide +kernel, by decide +kernel, by decide +kernel⟩⟩
theorem cV_X7_readMarks : CVw yX7_readMarks cX7_readMarks 2 (some .boolean) 1 := ⟨big_tab (by decide +kernel) rfl, big_sel (q := (yX7_readMarks, 16)) (by decide +kernel), mw_initialized_RX7, big_tab (by decide +kernel) rfl, ⟨by decide +kernel, by decide +kernel, by decide +kernel⟩⟩
theorem cV_X7_readWindow : CVw yX7_readWindow cX7_readWindow 2 (some .boolean) 1 := ⟨big_tab (by decide +kernel) rfl, big_sel (q := (yX7_readWindow, 16)) (by decide +kernel), mw_initialized_RX7, big_tab (by decide +kernel) rfl, ⟨by decide +kernel, by decide +kernel, by decide +kernel⟩⟩
theorem cV_X7_readFormula : CVw yX7_readFormula cX7_readFormula 6 (some .boolean) 2 := ⟨big_tab (by decide +kernel) rfl, big_sel (q := (yX7_readFormula, 16)) (by decide +kernel), mw_initialized_RX7, big_tab (by decide +kernel) rfl, ⟨by decide +kernel, by decide +kernel, by decide +kernel⟩⟩
theorem cS_X7_levelOf : CSw yX7_levelOf cX7_levelOf 1 (some .int) 1 := ⟨big_tab (by decide +kernel) rfl, mw_initialized_RX7, big_tab (by decide +kernel) rfl, ⟨by decide +kernel, by decide +kernel, by decide +kernel⟩⟩
theorem cV_X7_readNot : CVw yX7_readNot cX7_readNot 4 (some .boolean) 1 := ⟨big_tab (by decide +kernel) rfl, big_sel (q := (yX7_readNot, 16)) (by decide +kernel), mw_initialized_RX7, big_tab (by decide +kernel) rfl, ⟨by decide +kernel, by decide +kernel, by decide +kernel⟩⟩
theorem cV_X7_readUnit : CVw yX7_readUnit cX7_readUnit 4 (some .boolean) 1 := ⟨big_tab (by decide +kernel) rfl, big_sel (q := (yX7_readUnit, 16)) (by decide +kernel), mw_initialized_RX7, big_tab (by decide +kernel) rfl, ⟨by decide +kernel, by decide +kernel, by decide +kernel⟩⟩
theorem cV_X7_layPart : CVw yX7_layPart cX7_layPart 2 none 0 := ⟨big_tab (by decide +kernel) rfl, big_sel (q := (yX7_layPart, 16)) (by decide +kernel), mw_initialized_RX7, big_tab (by decide +kernel) rfl, ⟨by decide +kernel, by decide +kernel, by decide +kernel⟩⟩
theorem cV_X7_valueOf : CVw yX7_valueOf cX7_valueOf 2 (some .int) 1 := ⟨big_tab (by decide +kernel) rfl, big_sel (q := (yX7_valueOf, 16)) (by decide +kernel), mw_initialized_RX7, big_tab (by decide +kernel) rfl, ⟨by decide +kernel, by decide +kernel, by decide +kernel⟩⟩
theorem cV_X7_joinParts : CVw yX7_joinParts cX7_joinParts 4 none 1 := ⟨big_tab (by decide +kernel) rfl, big_sel (q := (yX7_joinParts, 16)) (by decide +kernel), mw_initialized_RX7, big_tab (by decide +kernel) rfl, ⟨by decide +kernel, by decide +kernel, by decide +kernel⟩⟩
theorem cS_X7_joined : CSw yX7_joined cX7_joined 3 (some .int) 3 := ⟨big_tab (by decide +kernel) rfl, mw_initialized_RX7, big_tab (by decide +kernel) rfl, ⟨by decide +kernel, by decide +kernel, by decide +kernel⟩⟩
theorem cI_X8_init : CIw yX8_init cX8_init 1 0 := ⟨big_tab (by decide +kernel) rfl, mw_initialized_RX8, big_tab (by decide +kernel) rfl, rfl, ⟨by decide +kernel, by decide +kernel, by decide +kernel⟩⟩
theorem cV_X8_forget : CVw yX8_forget cX8_forget 1 none 0 := ⟨big_tab (by decide +kernel) rfl, big_tab (by decide +kernel) rfl, mw_initialized_RX8, big_tab (by decide +kernel) rfl, ⟨by decide +kernel, by decide +kernel, by decide +kernel⟩⟩
theorem cV_X8_sights : CVw yX8_sights cX8_sights 1 (some .int) 0 := ⟨big_tab (by decide +kernel) rfl, big_tab (by decide +kernel) rfl, mw_initialized_RX8, big_tab (by decide +kernel) rfl, ⟨by decide +kernel, by decide +kernel, by decide +kernel⟩⟩
theorem cV_X8_tell : CVw yX8_tell cX8_tell 5 (some .int) 4 := ⟨big_tab (by decide +kernel) rfl, big_tab (by decide +kernel) rfl, mw_initialized_RX8, big_tab (by decide +kernel) rfl, ⟨by decide +kernel, by decide +kernel, by decide +kernel⟩⟩
theorem cV_X8_takeAway : CVw yX8_takeAway cX8_takeAway 3 (some .boolean) 2 := ⟨big_tab (by decide +kernel) rfl, big_tab (by decide +kernel) rfl, mw_initialized_RX8, big_tab (by decide +kernel) rfl, ⟨by decide +kernel, by decide +kernel, by decide +kernel⟩⟩
theorem cV_X8_doubt : CVw yX8_doubt cX8_doubt 2 none 1 := ⟨big_tab (by decide +kernel) rfl, big_tab (by decide +kernel) rfl, mw_initialized_RX8, big_tab (by decide +kernel) rfl, ⟨by decide +kernel, by decide +kernel, by decide +kernel⟩⟩
theorem cV_X8_doubted : CVw yX8_doubted cX8_doubted 1 (some .int) 0 := ⟨big_tab (by decide +kernel) rfl, big_tab (by decide +kernel) rfl, mw_initialized_RX8, big_tab (by decide +kernel) rfl, ⟨by decide +kernel, by decide +kernel, by decide +kernel⟩⟩
theorem cV_X8_doubts : CVw yX8_doubts cX8_doubts 2 (some .boolean) 1 := ⟨big_tab (by decide +kernel) rfl, big_tab (by decide +kernel) rfl, mw_initialized_RX8, big_tab (by decide +kernel) rfl, ⟨by decide +kernel, by decide +kernel, by decide +kernel⟩⟩
theorem cV_X8_counts : CVw yX8_counts cX8_counts 3 (some .boolean) 2 := ⟨big_tab (by decide +kernel) rfl, big_sel (q := (yX8_counts, 17)) (by decide +kernel), mw_initialized_RX8, big_tab (by decide +kernel) rfl, ⟨by decide +kernel, by decide +kernel, by decide +kernel⟩⟩
theorem cV_X8_gather : CVw yX8_gather cX8_gather 5 (some .int) 2 := ⟨big_tab (by decide +kernel) rfl, big_sel (q := (yX8_gather, 17)) (by decide +kernel), mw_initialized_RX8, big_tab (by decide +kernel) rfl, ⟨by decide +kernel, by decide +kernel, by decide +kernel⟩⟩
theorem cV_X8_demand : CVw yX8_demand cX8_demand 5 none 3 := ⟨big_tab (by decide +kernel) rfl, big_sel (q := (yX8_demand, 17)) (by decide +kernel), mw_initialized_RX8, big_tab (by decide +kernel) rfl, ⟨by decide +kernel, by decide +kernel, by decide +kernel⟩⟩
theorem cV_X8_holds : CVw yX8_holds cX8_holds 12 (some .boolean) 4 := ⟨big_tab (by decide +kernel) rfl, big_sel (q := (yX8_holds, 17)) (by decide +kernel), mw_initialized_RX8, big_tab (by decide +kernel) rfl, ⟨by decide +kernel, by decide +kernel, by decide +kernel⟩⟩
theorem cV_X8_isAsSeen : CVw yX8_isAsSeen cX8_isAsSeen 4 (some .boolean) 2 := ⟨big_tab (by decide +kernel) rfl, big_sel (q := (yX8_isAsSeen, 17)) (by decide +kernel), mw_initialized_RX8, big_tab (by decide +kernel) rfl, ⟨by decide +kernel, by decide +kernel, by decide +kernel⟩⟩
theorem cV_X8_fitting : CVw yX8_fitting cX8_fitting 4 (some .int) 2 := ⟨big_tab (by decide +kernel) rfl, big_tab (by decide +kernel) rfl, mw_initialized_RX8, big_tab (by decide +kernel) rfl, ⟨by decide +kernel, by decide +kernel, by decide +kernel⟩⟩
theorem cV_X8_movesThatFit : CVw yX8_movesThatFit cX8_movesThatFit 2 (some .int) 1 := ⟨big_tab (by decide +kernel) rfl, big_tab (by decide +kernel) rfl, mw_initialized_RX8, big_tab (by decide +kernel) rfl, ⟨by decide +kernel, by decide +kernel, by decide +kernel⟩⟩
theorem cV_X8_listUnsure : CVw yX8_listUnsure cX8_listUnsure 3 (some .int) 0 := ⟨big_tab (by decide +kernel) rfl, big_sel (q := (yX8_listUnsure, 17)) (by decide +kernel), mw_initialized_RX8, big_tab (by decide +kernel) rfl, ⟨by decide +kernel, by decide +kernel, by decide +kernel⟩⟩
theorem cV_X8_tryAll : CVw yX8_tryAll cX8_tryAll 6 none 0 := ⟨big_tab (by decide +kernel) rfl, big_sel (q := (yX8_tryAll, 17)) (by decide +kernel), mw_initialized_RX8, big_tab (by decide +kernel) rfl, ⟨by decide +kernel, by decide +kernel, by decide +kernel⟩⟩
theorem cV_X8_rowOfCase : CVw yX8_rowOfCase cX8_rowOfCase 7 (some .long) 2 := ⟨big_tab (by decide +kernel) rfl, big_sel (q := (yX8_rowOfCase, 17)) (by decide +kernel), mw_initialized_RX8, big_tab (by decide +kernel) rfl, ⟨by decide +kernel, by decide +kernel, by decide +kernel⟩⟩
theorem cV_X8_noteMoves : CVw yX8_noteMoves cX8_noteMoves 5 none 2 := ⟨big_tab (by decide +kernel) rfl, big_sel (q := (yX8_noteMoves, 17)) (by decide +kernel), mw_initialized_RX8, big_tab (by decide +kernel) rfl, ⟨by decide +kernel, by decide +kernel, by decide +kernel⟩⟩
theorem cV_X8_nothingWrong : CVw yX8_nothingWrong cX8_nothingWrong 3 (some .boolean) 2 := ⟨big_tab (by decide +kernel) rfl, big_tab (by decide +kernel) rfl, mw_initialized_RX8, big_tab (by decide +kernel) rfl, ⟨by decide +kernel, by decide +kernel, by decide +kernel⟩⟩
theorem cV_X8_menMaybeCracked : CVw yX8_menMaybeCracked cX8_menMaybeCracked 5 (some .int) 2 := ⟨big_tab (by decide +kernel) rfl, big_tab (by decide +kernel) rfl, mw_initialized_RX8, big_tab (by decide +kernel) rfl, ⟨by decide +kernel, by decide +kernel, by decide +kernel⟩⟩
theorem cV_X8_menMaybeWindowed : CVw yX8_menMaybeWindowed cX8_menMaybeWindowed 6 (some .int) 2 := ⟨big_tab (by decide +kernel) rfl, big_tab (by decide +kernel) rfl, mw_initialized_RX8, big_tab (by decide +kernel) rfl, ⟨by decide +kernel, by decide +kernel, by decide +kernel⟩⟩
theorem cI_X9_init : CIw yX9_init cX9_init 1 0 := ⟨big_tab (by decide +kernel) rfl, mw_initialized_RX9, big_tab (by decide +kernel) rfl, rfl, ⟨by decide +kernel, by decide +kernel, by decide +kernel⟩⟩
theorem cV_X9_feed : CVw yX9_feed cX9_feed 6 (some .int) 5 := ⟨big_tab (by decide +kernel) rfl, big_tab (by decide +kernel) rfl, mw_initialized_RX9, big_tab (by decide +kernel) rfl, ⟨by decide +kernel, by decide +kernel, by decide +kernel⟩⟩
theorem cV_X9_tapeNumber : CVw yX9_tapeNumber cX9_tapeNumber 3 none 1 := ⟨big_tab (by decide +kernel) rfl, big_sel (q := (yX9_tapeNumber, 17)) (by decide +kernel), mw_initialized_RX9, big_tab (by decide +kernel) rfl, ⟨by decide +kernel, by decide +kernel, by decide +kernel⟩⟩
theorem cV_X9_end : CVw yX9_end cX9_end 2 (some .int) 1 := ⟨big_tab (by decide +kernel) rfl, big_tab (by decide +kernel) rfl, mw_initialized_RX9, big_tab (by decide +kernel) rfl, ⟨by decide +kernel, by decide +kernel, by decide +kernel⟩⟩
theorem cV_X9_drill : CVw yX9_drill cX9_drill 3 (some .int) 0 := ⟨big_tab (by decide +kernel) rfl, big_tab (by decide +kernel) rfl, mw_initialized_RX9, big_tab (by decide +kernel) rfl, ⟨by decide +kernel, by decide +kernel, by decide +kernel⟩⟩
theorem cV_X9_fault : CVw yX9_fault cX9_fault 2 (some .int) 1 := ⟨big_tab (by decide +kernel) rfl, big_tab (by decide +kernel) rfl, mw_initialized_RX9, big_tab (by decide +kernel) rfl, ⟨by decide +kernel, by decide +kernel, by decide +kernel⟩⟩
theorem cV_X9_does : CVw yX9_does cX9_does 2 (some .int) 1 := ⟨big_tab (by decide +kernel) rfl, big_tab (by decide +kernel) rfl, mw_initialized_RX9, big_tab (by decide +kernel) rfl, ⟨by decide +kernel, by decide +kernel, by decide +kernel⟩⟩
theorem cV_X9_made : CVw yX9_made cX9_made 5 (some .int) 4 := ⟨big_tab (by decide +kernel) rfl, big_tab (by decide +kernel) rfl, mw_initialized_RX9, big_tab (by decide +kernel) rfl, ⟨by decide +kernel, by decide +kernel, by decide +kernel⟩⟩
theorem cV_X9_run : CVw yX9_run cX9_run 2 (some .int) 1 := ⟨big_tab (by decide +kernel) rfl, big_tab (by decide +kernel) rfl, mw_initialized_RX9, big_tab (by decide +kernel) rfl, ⟨by decide +kernel, by decide +kernel, by decide +kernel⟩⟩
theorem cV_X9_order : CVw yX9_order cX9_order 4 (some .int) 2 := ⟨big_tab (by decide +kernel) rfl, big_tab (by decide +kernel) rfl, mw_initialized_RX9, big_tab (by decide +kernel) rfl, ⟨by decide +kernel, by decide +kernel, by decide +kernel⟩⟩
theorem cV_X9_undo : CVw yX9_undo cX9_undo 1 (some .boolean) 0 := ⟨big_tab (by decide +kernel) rfl, big_tab (by decide +kernel) rfl, mw_initialized_RX9, big_tab (by decide +kernel) rfl, ⟨by decide +kernel, by decide +kernel, by decide +kernel⟩⟩
theorem cV_X9_redo : CVw yX9_redo cX9_redo 1 (some .boolean) 0 := ⟨big_tab (by decide +kernel) rfl, big_tab (by decide +kernel) rfl, mw_initialized_RX9, big_tab (by decide +kernel) rfl, ⟨by decide +kernel, by decide +kernel, by decide +kernel⟩⟩
theorem cV_X9_worth : CVw yX9_worth cX9_worth 1 (some .int) 0 := ⟨big_tab (by decide +kernel) rfl, big_tab (by decide +kernel) rfl, mw_initialized_RX9, big_tab (by decide +kernel) rfl, ⟨by decide +kernel, by decide +kernel, by decide +kernel⟩⟩
theorem cV_X9_round : CVw yX9_round cX9_round 2 (some .int) 1 := ⟨big_tab (by decide +kernel) rfl, big_tab (by decide +kernel) rfl, mw_initialized_RX9, big_tab (by decide +kernel) rfl, ⟨by decide +kernel, by decide +kernel, by decide +kernel⟩⟩
theorem cV_X9_before : CVw yX9_before cX9_before 2 (some .long) 0 := ⟨big_tab (by decide +kernel) rfl, big_tab (by decide +kernel) rfl, mw_initialized_RX9, big_tab (by decide +kernel) rfl, ⟨by decide +kernel, by decide +kernel, by decide +kernel⟩⟩
theorem cV_X9_orphan : CVw yX9_orphan cX9_orphan 2 (some .int) 1 := ⟨big_tab (by decide +kernel) rfl, big_tab (by decide +kernel) rfl, mw_initialized_RX9, big_tab (by decide +kernel) rfl, ⟨by decide +kernel, by decide +kernel, by decide +kernel⟩⟩
theorem cV_X9_one : CVw yX9_one cX9_one 2 (some .int) 1 := ⟨big_tab (by decide +kernel) rfl, big_tab (by decide +kernel) rfl, mw_initialized_RX9, big_tab (by decide +kernel) rfl, ⟨by decide +kernel, by decide +kernel, by decide +kernel⟩⟩
theorem cV_X9_keeps : CVw yX9_keeps cX9_keeps 2 (some .int) 1 := ⟨big_tab (by decide +kernel) rfl, big_tab (by decide +kernel) rfl, mw_initialized_RX9, big_tab (by decide +kernel) rfl, ⟨by decide +kernel, by decide +kernel, by decide +kernel⟩⟩
theorem cV_X9_spread : CVw yX9_spread cX9_spread 8 (some .int) 3 := ⟨big_tab (by decide +kernel) rfl, big_tab (by decide +kernel) rfl, mw_initialized_RX9, big_tab (by decide +kernel) rfl, ⟨by decide +kernel, by decide +kernel, by decide +kernel⟩⟩
theorem cV_X9_glint : CVw yX9_glint cX9_glint 4 (some .int) 3 := ⟨big_tab (by decide +kernel) rfl, big_tab (by decide +kernel) rfl, mw_initialized_RX9, big_tab (by decide +kernel) rfl, ⟨by decide +kernel, by decide +kernel, by decide +kernel⟩⟩
theorem cV_X9_cracks : CVw yX9_cracks cX9_cracks 4 (some .int) 3 := ⟨big_tab (by decide +kernel) rfl, big_tab (by decide +kernel) rfl, mw_initialized_RX9, big_tab (by decide +kernel) rfl, ⟨by decide +kernel, by decide +kernel, by decide +kernel⟩⟩
theorem cV_X9_lies : CVw yX9_lies cX9_lies 2 (some .int) 1 := ⟨big_tab (by decide +kernel) rfl, big_tab (by decide +kernel) rfl, mw_initialized_RX9, big_tab (by decide +kernel) rfl, ⟨by decide +kernel, by decide +kernel, by decide +kernel⟩⟩
theorem cV_X9_sight : CVw yX9_sight cX9_sight 4 (some .int) 3 := ⟨big_tab (by decide +kernel) rfl, big_tab (by decide +kernel) rfl, mw_initialized_RX9, big_tab (by decide +kernel) rfl, ⟨by decide +kernel, by decide +kernel, by decide +kernel⟩⟩
theorem cV_X9_untell : CVw yX9_untell cX9_untell 2 (some .boolean) 1 := ⟨big_tab (by decide +kernel) rfl, big_tab (by decide +kernel) rfl, mw_initialized_RX9, big_tab (by decide +kernel) rfl, ⟨by decide +kernel, by decide +kernel, by decide +kernel⟩⟩
theorem cV_X9_later : CVw yX9_later cX9_later 2 (some .int) 1 := ⟨big_tab (by decide +kernel) rfl, big_tab (by decide +kernel) rfl, mw_initialized_RX9, big_tab (by decide +kernel) rfl, ⟨by decide +kernel, by decide +kernel, by decide +kernel⟩⟩
theorem cV_X9_unsure : CVw yX9_unsure cX9_unsure 2 (some .int) 1 := ⟨big_tab (by decide +kernel) rfl, big_tab (by decide +kernel) rfl, mw_initialized_RX9, big_tab (by decide +kernel) rfl, ⟨by decide +kernel, by decide +kernel, by decide +kernel⟩⟩
theorem cV_X9_fits : CVw yX9_fits cX9_fits 2 (some .int) 1 := ⟨big_tab (by decide +kernel) rfl, big_tab (by decide +kernel) rfl, mw_initialized_RX9, big_tab (by decide +kernel) rfl, ⟨by decide +kernel, by decide +kernel, by decide +kernel⟩⟩
theorem cV_X9_sure : CVw yX9_sure cX9_sure 5 (some .int) 2 := ⟨big_tab (by decide +kernel) rfl, big_tab (by decide +kernel) rfl, mw_initialized_RX9, big_tab (by decide +kernel) rfl, ⟨by decide +kernel, by decide +kernel, by decide +kernel⟩⟩
theorem cV_X9_wrong : CVw yX9_wrong cX9_wrong 3 (some .int) 2 := ⟨big_tab (by decide +kernel) rfl, big_tab (by decide +kernel) rfl, mw_initialized_RX9, big_tab (by decide +kernel) rfl, ⟨by decide +kernel, by decide +kernel, by decide +kernel⟩⟩
theorem cV_X9_image : CVw yX9_image cX9_image 2 (some .int) 1 := ⟨big_tab (by decide +kernel) rfl, big_tab (by decide +kernel) rfl, mw_initialized_RX9, big_tab (by decide +kernel) rfl, ⟨by decide +kernel, by decide +kernel, by decide +kernel⟩⟩
theorem cV_X9_back : CVw yX9_back cX9_back 2 (some .int) 1 := ⟨big_tab (by decide +kernel) rfl, big_tab (by decide +kernel) rfl, mw_initialized_RX9, big_tab (by decide +kernel) rfl, ⟨by decide +kernel, by decide +kernel, by decide +kernel⟩⟩
theorem cV_X9_about : CVw yX9_about cX9_about 2 (some .int) 1 := ⟨big_tab (by decide +kernel) rfl, big_tab (by decide +kernel) rfl, mw_initialized_RX9, big_tab (by decide +kernel) rfl, ⟨by decide +kernel, by decide +kernel, by decide +kernel⟩⟩
theorem cS_X9_view : CSw yX9_view cX9_view 3 (some .int) 3 := ⟨big_tab (by decide +kernel) rfl, mw_initialized_RX9, big_tab (by decide +kernel) rfl, ⟨by decide +kernel, by decide +kernel, by decide +kernel⟩⟩
theorem cS_X9_cell : CSw yX9_cell cX9_cell 3 (some .int) 2 := ⟨big_tab (by decide +kernel) rfl, mw_initialized_RX9, big_tab (by decide +kernel) rfl, ⟨by decide +kernel, by decide +kernel, by decide +kernel⟩⟩
theorem cS_X9_with : CSw yX9_with cX9_with 5 (some .long) 3 := ⟨big_tab (by decide +kernel) rfl, mw_initialized_RX9, big_tab (by decide +kernel) rfl, ⟨by decide +kernel, by decide +kernel, by decide +kernel⟩⟩
theorem cS_X9_differing : CSw yX9_differing cX9_differing 6 (some .int) 2 := ⟨big_tab (by decide +kernel) rfl, mw_initialized_RX9, big_tab (by decide +kernel) rfl, ⟨by decide +kernel, by decide +kernel, by decide +kernel⟩⟩
theorem cI_X10_init : CIw yX10_init cX10_init 2 0 := ⟨big_tab (by decide +kernel) rfl, mw_initialized_RX10, big_tab (by decide +kernel) rfl, rfl, ⟨by decide +kernel, by decide +kernel, by decide +kernel⟩⟩
theorem cV_X10_sign : CVw yX10_sign cX10_sign 2 (some .int) 1 := ⟨big_tab (by decide +kernel) rfl, big_sel (q := (yX10_sign, 80)) (by decide +kernel), mw_initialized_RX10, big_tab (by decide +kernel) rfl, ⟨by decide +kernel, by decide +kernel, by decide +kernel⟩⟩
theorem cS_X10_isLetter : CSw yX10_isLetter cX10_isLetter 1 (some .boolean) 1 := ⟨big_tab (by decide +kernel) rfl, mw_initialized_RX10, big_tab (by decide +kernel) rfl, ⟨by decide +kernel, by decide +kernel, by decide +kernel⟩⟩
theorem cS_X10_isDigit : CSw yX10_isDigit cX10_isDigit 1 (some .boolean) 1 := ⟨big_tab (by decide +kernel) rfl, mw_initialized_RX10, big_tab (by decide +kernel) rfl, ⟨by decide +kernel, by decide +kernel, by decide +kernel⟩⟩
theorem cV_X10_fails : CVw yX10_fails cX10_fails 3 none 2 := ⟨big_tab (by decide +kernel) rfl, big_sel (q := (yX10_fails, 80)) (by decide +kernel), mw_initialized_RX10, big_tab (by decide +kernel) rfl, ⟨by decide +kernel, by decide +kernel, by decide +kernel⟩⟩
theorem cV_X10_isGood : CVw yX10_isGood cX10_isGood 1 (some .boolean) 0 := ⟨big_tab (by decide +kernel) rfl, big_sel (q := (yX10_isGood, 80)) (by decide +kernel), mw_initialized_RX10, big_tab (by decide +kernel) rfl, ⟨by decide +kernel, by decide +kernel, by decide +kernel⟩⟩
theorem cS_X10_isKept : CSw yX10_isKept cX10_isKept 3 (some .boolean) 1 := ⟨big_tab (by decide +kernel) rfl, mw_initialized_RX10, big_tab (by decide +kernel) rfl, ⟨by decide +kernel, by decide +kernel, by decide +kernel⟩⟩
theorem cS_X10_isSign : CSw yX10_isSign cX10_isSign 1 (some .boolean) 1 := ⟨big_tab (by decide +kernel) rfl, mw_initialized_RX10, big_tab (by decide +kernel) rfl, ⟨by decide +kernel, by decide +kernel, by decide +kernel⟩⟩
theorem cV_X10_goOn : CVw yX10_goOn cX10_goOn 3 none 0 := ⟨big_tab (by decide +kernel) rfl, big_sel (q := (yX10_goOn, 80)) (by decide +kernel), mw_initialized_RX10, big_tab (by decide +kernel) rfl, ⟨by decide +kernel, by decide +kernel, by decide +kernel⟩⟩
theorem cV_X10_isSignHere : CVw yX10_isSignHere cX10_isSignHere 2 (some .boolean) 1 := ⟨big_tab (by decide +kernel) rfl, big_sel (q := (yX10_isSignHere, 80)) (by decide +kernel), mw_initialized_RX10, big_tab (by decide +kernel) rfl, ⟨by decide +kernel, by decide +kernel, by decide +kernel⟩⟩
theorem cV_X10_isWord : CVw yX10_isWord cX10_isWord 3 (some .boolean) 1 := ⟨big_tab (by decide +kernel) rfl, big_sel (q := (yX10_isWord, 80)) (by decide +kernel), mw_initialized_RX10, big_tab (by decide +kernel) rfl, ⟨by decide +kernel, by decide +kernel, by decide +kernel⟩⟩
theorem cV_X10_misplaced : CVw yX10_misplaced cX10_misplaced 1 none 0 := ⟨big_tab (by decide +kernel) rfl, big_sel (q := (yX10_misplaced, 80)) (by decide +kernel), mw_initialized_RX10, big_tab (by decide +kernel) rfl, ⟨by decide +kernel, by decide +kernel, by decide +kernel⟩⟩
theorem cV_X10_must : CVw yX10_must cX10_must 2 none 1 := ⟨big_tab (by decide +kernel) rfl, big_sel (q := (yX10_must, 80)) (by decide +kernel), mw_initialized_RX10, big_tab (by decide +kernel) rfl, ⟨by decide +kernel, by decide +kernel, by decide +kernel⟩⟩
theorem cV_X10_numeral : CVw yX10_numeral cX10_numeral 4 (some .int) 2 := ⟨big_tab (by decide +kernel) rfl, big_sel (q := (yX10_numeral, 80)) (by decide +kernel), mw_initialized_RX10, big_tab (by decide +kernel) rfl, ⟨by decide +kernel, by decide +kernel, by decide +kernel⟩⟩
theorem cV_X10_clearBank : CVw yX10_clearBank cX10_clearBank 2 none 0 := ⟨big_tab (by decide +kernel) rfl, big_sel (q := (yX10_clearBank, 80)) (by decide +kernel), mw_initialized_RX10, big_tab (by decide +kernel) rfl, ⟨by decide +kernel, by decide +kernel, by decide +kernel⟩⟩
theorem cV_X10_drill : CVw yX10_drill cX10_drill 2 (some .int) 0 := ⟨big_tab (by decide +kernel) rfl, big_tab (by decide +kernel) rfl, mw_initialized_RX10, big_tab (by decide +kernel) rfl, ⟨by decide +kernel, by decide +kernel, by decide +kernel⟩⟩
theorem cV_X10_isFull : CVw yX10_isFull cX10_isFull 1 (some .boolean) 0 := ⟨big_tab (by decide +kernel) rfl, big_sel (q := (yX10_isFull, 80)) (by decide +kernel), mw_initialized_RX10, big_tab (by decide +kernel) rfl, ⟨by decide +kernel, by decide +kernel, by decide +kernel⟩⟩
theorem cV_X10_readLine : CVw yX10_readLine cX10_readLine 4 none 0 := ⟨big_tab (by decide +kernel) rfl, big_sel (q := (yX10_readLine, 80)) (by decide +kernel), mw_initialized_RX10, big_tab (by decide +kernel) rfl, ⟨by decide +kernel, by decide +kernel, by decide +kernel⟩⟩
theorem cV_X10_ruleHere : CVw yX10_ruleHere cX10_ruleHere 2 (some .int) 0 := ⟨big_tab (by decide +kernel) rfl, big_sel (q := (yX10_ruleHere, 80)) (by decide +kernel), mw_initialized_RX10, big_tab (by decide +kernel) rfl, ⟨by decide +kernel, by decide +kernel, by decide +kernel⟩⟩
theorem cV_X10_readRule : CVw yX10_readRule cX10_readRule 2 none 0 := ⟨big_tab (by decide +kernel) rfl, big_sel (q := (yX10_readRule, 80)) (by decide +kernel), mw_initialized_RX10, big_tab (by decide +kernel) rfl, ⟨by decide +kernel, by decide +kernel, by decide +kernel⟩⟩
theorem cV_X10_readMan : CVw yX10_readMan cX10_readMan 4 none 0 := ⟨big_tab (by decide +kernel) rfl, big_sel (q := (yX10_readMan, 80)) (by decide +kernel), mw_initialized_RX10, big_tab (by decide +kernel) rfl, ⟨by decide +kernel, by decide +kernel, by decide +kernel⟩⟩
theorem cV_X10_readBy : CVw yX10_readBy cX10_readBy 2 none 1 := ⟨big_tab (by decide +kernel) rfl, big_sel (q := (yX10_readBy, 80)) (by decide +kernel), mw_initialized_RX10, big_tab (by decide +kernel) rfl, ⟨by decide +kernel, by decide +kernel, by decide +kernel⟩⟩
theorem cV_X10_flag : CVw yX10_flag cX10_flag 4 (some .boolean) 1 := ⟨big_tab (by decide +kernel) rfl, big_sel (q := (yX10_flag, 80)) (by decide +kernel), mw_initialized_RX10, big_tab (by decide +kernel) rfl, ⟨by decide +kernel, by decide +kernel, by decide +kernel⟩⟩
theorem cV_X10_emit : CVw yX10_emit cX10_emit 3 none 2 := ⟨big_tab (by decide +kernel) rfl, big_sel (q := (yX10_emit, 80)) (by decide +kernel), mw_initialized_RX10, big_tab (by decide +kernel) rfl, ⟨by decide +kernel, by decide +kernel, by decide +kernel⟩⟩
theorem cV_X10_pushE : CVw yX10_pushE cX10_pushE 3 none 2 := ⟨big_tab (by decide +kernel) rfl, big_sel (q := (yX10_pushE, 80)) (by decide +kernel), mw_initialized_RX10, big_tab (by decide +kernel) rfl, ⟨by decide +kernel, by decide +kernel, by decide +kernel⟩⟩
theorem cV_X10_e : CVw yX10_e cX10_e 2 none 0 := ⟨big_tab (by decide +kernel) rfl, big_sel (q := (yX10_e, 80)) (by decide +kernel), mw_initialized_RX10, big_tab (by decide +kernel) rfl, ⟨by decide +kernel, by decide +kernel, by decide +kernel⟩⟩
theorem cV_X10_wordHere : CVw yX10_wordHere cX10_wordHere 1 (some .int) 0 := ⟨big_tab (by decide +kernel) rfl, big_sel (q := (yX10_wordHere, 80)) (by decide +kernel), mw_initialized_RX10, big_tab (by decide +kernel) rfl, ⟨by decide +kernel, by decide +kernel, by decide +kernel⟩⟩
theorem cV_X10_unit : CVw yX10_unit cX10_unit 7 (some .boolean) 0 := ⟨big_tab (by decide +kernel) rfl, big_sel (q := (yX10_unit, 80)) (by decide +kernel), mw_initialized_RX10, big_tab (by decide +kernel) rfl, ⟨by decide +kernel, by decide +kernel, by decide +kernel⟩⟩
theorem cV_X10_rankHere : CVw yX10_rankHere cX10_rankHere 1 (some .int) 0 := ⟨big_tab (by decide +kernel) rfl, big_sel (q := (yX10_rankHere, 80)) (by decide +kernel), mw_initialized_RX10, big_tab (by decide +kernel) rfl, ⟨by decide +kernel, by decide +kernel, by decide +kernel⟩⟩
theorem cV_X10_isCompared : CVw yX10_isCompared cX10_isCompared 2 (some .boolean) 0 := ⟨big_tab (by decide +kernel) rfl, big_sel (q := (yX10_isCompared, 80)) (by decide +kernel), mw_initialized_RX10, big_tab (by decide +kernel) rfl, ⟨by decide +kernel, by decide +kernel, by decide +kernel⟩⟩
theorem cV_X10_behindUnit : CVw yX10_behindUnit cX10_behindUnit 2 (some .boolean) 0 := ⟨big_tab (by decide +kernel) rfl, big_sel (q := (yX10_behindUnit, 80)) (by decide +kernel), mw_initialized_RX10, big_tab (by decide +kernel) rfl, ⟨by decide +kernel, by decide +kernel, by decide +kernel⟩⟩
theorem cS_X10_two : CSw yX10_two cX10_two 3 (some .int) 3 := ⟨big_tab (by decide +kernel) rfl, mw_initialized_RX10, big_tab (by decide +kernel) rfl, ⟨by decide +kernel, by decide +kernel, by decide +kernel⟩⟩
theorem cV_X10_comes : CVw yX10_comes cX10_comes 8 (some .int) 4 := ⟨big_tab (by decide +kernel) rfl, big_sel (q := (yX10_comes, 80)) (by decide +kernel), mw_initialized_RX10, big_tab (by decide +kernel) rfl, ⟨by decide +kernel, by decide +kernel, by decide +kernel⟩⟩
theorem cV_X10_layTables : CVw yX10_layTables cX10_layTables 6 none 0 := ⟨big_tab (by decide +kernel) rfl, big_sel (q := (yX10_layTables, 80)) (by decide +kernel), mw_initialized_RX10, big_tab (by decide +kernel) rfl, ⟨by decide +kernel, by decide +kernel, by decide +kernel⟩⟩
theorem cV_X10_makes : CVw yX10_makes cX10_makes 5 (some .int) 4 := ⟨big_tab (by decide +kernel) rfl, big_sel (q := (yX10_makes, 80)) (by decide +kernel), mw_initialized_RX10, big_tab (by decide +kernel) rfl, ⟨by decide +kernel, by decide +kernel, by decide +kernel⟩⟩
theorem cV_X10_fault : CVw yX10_fault cX10_fault 2 (some .int) 1 := ⟨big_tab (by decide +kernel) rfl, big_tab (by decide +kernel) rfl, mw_initialized_RX10, big_tab (by decide +kernel) rfl, ⟨by decide +kernel, by decide +kernel, by decide +kernel⟩⟩
theorem cS_X10_isIn : CSw yX10_isIn cX10_isIn 3 (some .boolean) 3 := ⟨big_tab (by decide +kernel) rfl, mw_initialized_RX10, big_tab (by decide +kernel) rfl, ⟨by decide +kernel, by decide +kernel, by decide +kernel⟩⟩
theorem cS_X10_bitsOf : CSw yX10_bitsOf cX10_bitsOf 3 (some .int) 1 := ⟨big_tab (by decide +kernel) rfl, mw_initialized_RX10, big_tab (by decide +kernel) rfl, ⟨by decide +kernel, by decide +kernel, by decide +kernel⟩⟩
theorem cV_X10_manyOf : CVw yX10_manyOf cX10_manyOf 1 (some .int) 0 := ⟨big_tab (by decide +kernel) rfl, big_sel (q := (yX10_manyOf, 80)) (by decide +kernel), mw_initialized_RX10, big_tab (by decide +kernel) rfl, ⟨by decide +kernel, by decide +kernel, by decide +kernel⟩⟩
theorem cV_X10_isMan : CVw yX10_isMan cX10_isMan 2 (some .boolean) 1 := ⟨big_tab (by decide +kernel) rfl, big_sel (q := (yX10_isMan, 80)) (by decide +kernel), mw_initialized_RX10, big_tab (by decide +kernel) rfl, ⟨by decide +kernel, by decide +kernel, by decide +kernel⟩⟩
theorem cV_X10_isMove : CVw yX10_isMove cX10_isMove 2 (some .boolean) 1 := ⟨big_tab (by decide +kernel) rfl, big_sel (q := (yX10_isMove, 80)) (by decide +kernel), mw_initialized_RX10, big_tab (by decide +kernel) rfl, ⟨by decide +kernel, by decide +kernel, by decide +kernel⟩⟩
theorem cV_X10_isRule : CVw yX10_isRule cX10_isRule 2 (some .boolean) 1 := ⟨big_tab (by decide +kernel) rfl, big_sel (q := (yX10_isRule, 80)) (by decide +kernel), mw_initialized_RX10, big_tab (by decide +kernel) rfl, ⟨by decide +kernel, by decide +kernel, by decide +kernel⟩⟩
theorem cV_X10_begin : CVw yX10_begin cX10_begin 1 none 0 := ⟨big_tab (by decide +kernel) rfl, big_sel (q := (yX10_begin, 80)) (by decide +kernel), mw_initialized_RX10, big_tab (by decide +kernel) rfl, ⟨by decide +kernel, by decide +kernel, by decide +kernel⟩⟩
theorem cV_X10_layFirst : CVw yX10_layFirst cX10_layFirst 2 none 0 := ⟨big_tab (by decide +kernel) rfl, big_sel (q := (yX10_layFirst, 80)) (by decide +kernel), mw_initialized_RX10, big_tab (by decide +kernel) rfl, ⟨by decide +kernel, by decide +kernel, by decide +kernel⟩⟩
theorem cV_X10_layNow : CVw yX10_layNow cX10_layNow 2 none 0 := ⟨big_tab (by decide +kernel) rfl, big_sel (q := (yX10_layNow, 80)) (by decide +kernel), mw_initialized_RX10, big_tab (by decide +kernel) rfl, ⟨by decide +kernel, by decide +kernel, by decide +kernel⟩⟩
theorem cV_X10_keepNow : CVw yX10_keepNow cX10_keepNow 2 none 0 := ⟨big_tab (by decide +kernel) rfl, big_sel (q := (yX10_keepNow, 80)) (by decide +kernel), mw_initialized_RX10, big_tab (by decide +kernel) rfl, ⟨by decide +kernel, by decide +kernel, by decide +kernel⟩⟩
theorem cV_X10_windowOf : CVw yX10_windowOf cX10_windowOf 2 (some .int) 1 := ⟨big_tab (by decide +kernel) rfl, big_sel (q := (yX10_windowOf, 80)) (by decide +kernel), mw_initialized_RX10, big_tab (by decide +kernel) rfl, ⟨by decide +kernel, by decide +kernel, by decide +kernel⟩⟩
theorem cV_X10_stays : CVw yX10_stays cX10_stays 2 (some .boolean) 1 := ⟨big_tab (by decide +kernel) rfl, big_sel (q := (yX10_stays, 80)) (by decide +kernel), mw_initialized_RX10, big_tab (by decide +kernel) rfl, ⟨by decide +kernel, by decide +kernel, by decide +kernel⟩⟩
theorem cV_X10_after : CVw yX10_after cX10_after 8 (some .int) 4 := ⟨big_tab (by decide +kernel) rfl, big_sel (q := (yX10_after, 80)) (by decide +kernel), mw_initialized_RX10, big_tab (by decide +kernel) rfl, ⟨by decide +kernel, by decide +kernel, by decide +kernel⟩⟩
theorem cV_X10_aheadOf : CVw yX10_aheadOf cX10_aheadOf 2 (some .int) 1 := ⟨big_tab (by decide +kernel) rfl, big_sel (q := (yX10_aheadOf, 80)) (by decide +kernel), mw_initialized_RX10, big_tab (by decide +kernel) rfl, ⟨by decide +kernel, by decide +kernel, by decide +kernel⟩⟩
theorem cV_X10_behindOf : CVw yX10_behindOf cX10_behindOf 2 (some .int) 1 := ⟨big_tab (by decide +kernel) rfl, big_sel (q := (yX10_behindOf, 80)) (by decide +kernel), mw_initialized_RX10, big_tab (by decide +kernel) rfl, ⟨by decide +kernel, by decide +kernel, by decide +kernel⟩⟩
theorem cV_X10_beat : CVw yX10_beat cX10_beat 2 none 0 := ⟨big_tab (by decide +kernel) rfl, big_sel (q := (yX10_beat, 80)) (by decide +kernel), mw_initialized_RX10, big_tab (by decide +kernel) rfl, ⟨by decide +kernel, by decide +kernel, by decide +kernel⟩⟩
theorem cV_X10_beatTimes : CVw yX10_beatTimes cX10_beatTimes 3 none 1 := ⟨big_tab (by decide +kernel) rfl, big_sel (q := (yX10_beatTimes, 80)) (by decide +kernel), mw_initialized_RX10, big_tab (by decide +kernel) rfl, ⟨by decide +kernel, by decide +kernel, by decide +kernel⟩⟩
theorem cV_X10_does : CVw yX10_does cX10_does 2 (some .int) 1 := ⟨big_tab (by decide +kernel) rfl, big_tab (by decide +kernel) rfl, mw_initialized_RX10, big_tab (by decide +kernel) rfl, ⟨by decide +kernel, by decide +kernel, by decide +kernel⟩⟩
theorem cV_X10_made : CVw yX10_made cX10_made 5 (some .int) 4 := ⟨big_tab (by decide +kernel) rfl, big_tab (by decide +kernel) rfl, mw_initialized_RX10, big_tab (by decide +kernel) rfl, ⟨by decide +kernel, by decide +kernel, by decide +kernel⟩⟩
theorem cV_X10_keepAct : CVw yX10_keepAct cX10_keepAct 2 none 0 := ⟨big_tab (by decide +kernel) rfl, big_sel (q := (yX10_keepAct, 80)) (by decide +kernel), mw_initialized_RX10, big_tab (by decide +kernel) rfl, ⟨by decide +kernel, by decide +kernel, by decide +kernel⟩⟩
theorem cV_X10_exchange : CVw yX10_exchange cX10_exchange 4 none 0 := ⟨big_tab (by decide +kernel) rfl, big_sel (q := (yX10_exchange, 80)) (by decide +kernel), mw_initialized_RX10, big_tab (by decide +kernel) rfl, ⟨by decide +kernel, by decide +kernel, by decide +kernel⟩⟩
theorem cV_X10_run : CVw yX10_run cX10_run 2 (some .int) 1 := ⟨big_tab (by decide +kernel) rfl, big_tab (by decide +kernel) rfl, mw_initialized_RX10, big_tab (by decide +kernel) rfl, ⟨by decide +kernel, by decide +kernel, by decide +kernel⟩⟩
theorem cV_X10_order : CVw yX10_order cX10_order 4 (some .int) 2 := ⟨big_tab (by decide +kernel) rfl, big_tab (by decide +kernel) rfl, mw_initialized_RX10, big_tab (by decide +kernel) rfl, ⟨by decide +kernel, by decide +kernel, by decide +kernel⟩⟩
theorem cV_X10_undo : CVw yX10_undo cX10_undo 1 (some .boolean) 0 := ⟨big_tab (by decide +kernel) rfl, big_tab (by decide +kernel) rfl, mw_initialized_RX10, big_tab (by decide +kernel) rfl, ⟨by decide +kernel, by decide +kernel, by decide +kernel⟩⟩
theorem cV_X10_redo : CVw yX10_redo cX10_redo 1 (some .boolean) 0 := ⟨big_tab (by decide +kernel) rfl, big_tab (by decide +kernel) rfl, mw_initialized_RX10, big_tab (by decide +kernel) rfl, ⟨by decide +kernel, by decide +kernel, by decide +kernel⟩⟩
theorem cV_X10_worth : CVw yX10_worth cX10_worth 3 (some .int) 0 := ⟨big_tab (by decide +kernel) rfl, big_tab (by decide +kernel) rfl, mw_initialized_RX10, big_tab (by decide +kernel) rfl, ⟨by decide +kernel, by decide +kernel, by decide +kernel⟩⟩
theorem cV_X10_rowNumber : CVw yX10_rowNumber cX10_rowNumber 4 (some .long) 0 := ⟨big_tab (by decide +kernel) rfl, big_sel (q := (yX10_rowNumber, 80)) (by decide +kernel), mw_initialized_RX10, big_tab (by decide +kernel) rfl, ⟨by decide +kernel, by decide +kernel, by decide +kernel⟩⟩
theorem cV_X10_layRound : CVw yX10_layRound cX10_layRound 3 (some .boolean) 0 := ⟨big_tab (by decide +kernel) rfl, big_sel (q := (yX10_layRound, 80)) (by decide +kernel), mw_initialized_RX10, big_tab (by decide +kernel) rfl, ⟨by decide +kernel, by decide +kernel, by decide +kernel⟩⟩
theorem cV_X10_round : CVw yX10_round cX10_round 2 (some .int) 1 := ⟨big_tab (by decide +kernel) rfl, big_tab (by decide +kernel) rfl, mw_initialized_RX10, big_tab (by decide +kernel) rfl, ⟨by decide +kernel, by decide +kernel, by decide +kernel⟩⟩
theorem cV_X10_mayDo : CVw yX10_mayDo cX10_mayDo 3 (some .boolean) 2 := ⟨big_tab (by decide +kernel) rfl, big_sel (q := (yX10_mayDo, 80)) (by decide +kernel), mw_initialized_RX10, big_tab (by decide +kernel) rfl, ⟨by decide +kernel, by decide +kernel, by decide +kernel⟩⟩
theorem cS_X10_atMost : CSw yX10_atMost cX10_atMost 2 (some .long) 1 := ⟨big_tab (by decide +kernel) rfl, mw_initialized_RX10, big_tab (by decide +kernel) rfl, ⟨by decide +kernel, by decide +kernel, by decide +kernel⟩⟩
theorem cV_X10_countAhead : CVw yX10_countAhead cX10_countAhead 6 (some .long) 0 := ⟨big_tab (by decide +kernel) rfl, big_sel (q := (yX10_countAhead, 80)) (by decide +kernel), mw_initialized_RX10, big_tab (by decide +kernel) rfl, ⟨by decide +kernel, by decide +kernel, by decide +kernel⟩⟩
theorem cV_X10_countFrom : CVw yX10_countFrom cX10_countFrom 10 (some .long) 2 := ⟨big_tab (by decide +kernel) rfl, big_sel (q := (yX10_countFrom, 80)) (by decide +kernel), mw_initialized_RX10, big_tab (by decide +kernel) rfl, ⟨by decide +kernel, by decide +kernel, by decide +kernel⟩⟩
theorem cV_X10_before : CVw yX10_before cX10_before 4 (some .long) 0 := ⟨big_tab (by decide +kernel) rfl, big_tab (by decide +kernel) rfl, mw_initialized_RX10, big_tab (by decide +kernel) rfl, ⟨by decide +kernel, by decide +kernel, by decide +kernel⟩⟩
theorem cV_X10_stepSet : CVw yX10_stepSet cX10_stepSet 9 (some .int) 3 := ⟨big_tab (by decide +kernel) rfl, big_sel (q := (yX10_stepSet, 80)) (by decide +kernel), mw_initialized_RX10, big_tab (by decide +kernel) rfl, ⟨by decide +kernel, by decide +kernel, by decide +kernel⟩⟩
theorem cV_X10_allPairs : CVw yX10_allPairs cX10_allPairs 4 (some .int) 0 := ⟨big_tab (by decide +kernel) rfl, big_sel (q := (yX10_allPairs, 80)) (by decide +kernel), mw_initialized_RX10, big_tab (by decide +kernel) rfl, ⟨by decide +kernel, by decide +kernel, by decide +kernel⟩⟩
theorem cV_X10_orphan : CVw yX10_orphan cX10_orphan 6 (some .int) 1 := ⟨big_tab (by decide +kernel) rfl, big_tab (by decide +kernel) rfl, mw_initialized_RX10, big_tab (by decide +kernel) rfl, ⟨by decide +kernel, by decide +kernel, by decide +kernel⟩⟩
theorem cV_X10_layOrphan : CVw yX10_layOrphan cX10_layOrphan 3 (some .int) 0 := ⟨big_tab (by decide +kernel) rfl, big_sel (q := (yX10_layOrphan, 80)) (by decide +kernel), mw_initialized_RX10, big_tab (by decide +kernel) rfl, ⟨by decide +kernel, by decide +kernel, by decide +kernel⟩⟩
theorem cV_X10_orphanAt : CVw yX10_orphanAt cX10_orphanAt 4 (some .int) 1 := ⟨big_tab (by decide +kernel) rfl, big_sel (q := (yX10_orphanAt, 80)) (by decide +kernel), mw_initialized_RX10, big_tab (by decide +kernel) rfl, ⟨by decide +kernel, by decide +kernel, by decide +kernel⟩⟩
theorem cV_X10_leads : CVw yX10_leads cX10_leads 10 (some .boolean) 3 := ⟨big_tab (by decide +kernel) rfl, big_sel (q := (yX10_leads, 80)) (by decide +kernel), mw_initialized_RX10, big_tab (by decide +kernel) rfl, ⟨by decide +kernel, by decide +kernel, by decide +kernel⟩⟩
theorem cV_X10_isPair : CVw yX10_isPair cX10_isPair 2 (some .boolean) 1 := ⟨big_tab (by decide +kernel) rfl, big_sel (q := (yX10_isPair, 80)) (by decide +kernel), mw_initialized_RX10, big_tab (by decide +kernel) rfl, ⟨by decide +kernel, by decide +kernel, by decide +kernel⟩⟩
theorem cV_X10_hasNext : CVw yX10_hasNext cX10_hasNext 5 (some .boolean) 3 := ⟨big_tab (by decide +kernel) rfl, big_sel (q := (yX10_hasNext, 80)) (by decide +kernel), mw_initialized_RX10, big_tab (by decide +kernel) rfl, ⟨by decide +kernel, by decide +kernel, by decide +kernel⟩⟩
theorem cV_X10_one : CVw yX10_one cX10_one 4 (some .int) 1 := ⟨big_tab (by decide +kernel) rfl, big_tab (by decide +kernel) rfl, mw_initialized_RX10, big_tab (by decide +kernel) rfl, ⟨by decide +kernel, by decide +kernel, by decide +kernel⟩⟩
theorem cV_X10_keeps : CVw yX10_keeps cX10_keeps 5 (some .int) 1 := ⟨big_tab (by decide +kernel) rfl, big_tab (by decide +kernel) rfl, mw_initialized_RX10, big_tab (by decide +kernel) rfl, ⟨by decide +kernel, by decide +kernel, by decide +kernel⟩⟩
theorem cV_X10_isSame : CVw yX10_isSame cX10_isSame 7 (some .boolean) 3 := ⟨big_tab (by decide +kernel) rfl, big_sel (q := (yX10_isSame, 80)) (by decide +kernel), mw_initialized_RX10, big_tab (by decide +kernel) rfl, ⟨by decide +kernel, by decide +kernel, by decide +kernel⟩⟩
theorem cV_X10_spread : CVw yX10_spread cX10_spread 6 (some .int) 3 := ⟨big_tab (by decide +kernel) rfl, big_tab (by decide +kernel) rfl, mw_initialized_RX10, big_tab (by decide +kernel) rfl, ⟨by decide +kernel, by decide +kernel, by decide +kernel⟩⟩
theorem cV_X10_isSoBy : CVw yX10_isSoBy cX10_isSoBy 6 (some .boolean) 4 := ⟨big_tab (by decide +kernel) rfl, big_sel (q := (yX10_isSoBy, 80)) (by decide +kernel), mw_initialized_RX10, big_tab (by decide +kernel) rfl, ⟨by decide +kernel, by decide +kernel, by decide +kernel⟩⟩
theorem cV_X10_nextMen : CVw yX10_nextMen cX10_nextMen 4 (some .boolean) 1 := ⟨big_tab (by decide +kernel) rfl, big_sel (q := (yX10_nextMen, 80)) (by decide +kernel), mw_initialized_RX10, big_tab (by decide +kernel) rfl, ⟨by decide +kernel, by decide +kernel, by decide +kernel⟩⟩
theorem cV_X10_otherMove : CVw yX10_otherMove cX10_otherMove 3 (some .int) 2 := ⟨big_tab (by decide +kernel) rfl, big_sel (q := (yX10_otherMove, 80)) (by decide +kernel), mw_initialized_RX10, big_tab (by decide +kernel) rfl, ⟨by decide +kernel, by decide +kernel, by decide +kernel⟩⟩
theorem cV_X10_nextMoves : CVw yX10_nextMoves cX10_nextMoves 3 (some .boolean) 1 := ⟨big_tab (by decide +kernel) rfl, big_sel (q := (yX10_nextMoves, 80)) (by decide +kernel), mw_initialized_RX10, big_tab (by decide +kernel) rfl, ⟨by decide +kernel, by decide +kernel, by decide +kernel⟩⟩
theorem cV_X10_glint : CVw yX10_glint cX10_glint 7 (some .int) 3 := ⟨big_tab (by decide +kernel) rfl, big_tab (by decide +kernel) rfl, mw_initialized_RX10, big_tab (by decide +kernel) rfl, ⟨by decide +kernel, by decide +kernel, by decide +kernel⟩⟩
theorem cV_X10_layGlint : CVw yX10_layGlint cX10_layGlint 3 (some .int) 1 := ⟨big_tab (by decide +kernel) rfl, big_sel (q := (yX10_layGlint, 80)) (by decide +kernel), mw_initialized_RX10, big_tab (by decide +kernel) rfl, ⟨by decide +kernel, by decide +kernel, by decide +kernel⟩⟩
theorem cV_X10_cracks : CVw yX10_cracks cX10_cracks 7 (some .int) 3 := ⟨big_tab (by decide +kernel) rfl, big_tab (by decide +kernel) rfl, mw_initialized_RX10, big_tab (by decide +kernel) rfl, ⟨by decide +kernel, by decide +kernel, by decide +kernel⟩⟩
theorem cV_X10_layCracks : CVw yX10_layCracks cX10_layCracks 3 (some .int) 1 := ⟨big_tab (by decide +kernel) rfl, big_sel (q := (yX10_layCracks, 80)) (by decide +kernel), mw_initialized_RX10, big_tab (by decide +kernel) rfl, ⟨by decide +kernel, by decide +kernel, by decide +kernel⟩⟩
theorem cV_X10_lies : CVw yX10_lies cX10_lies 2 (some .int) 1 := ⟨big_tab (by decide +kernel) rfl, big_tab (by decide +kernel) rfl, mw_initialized_RX10, big_tab (by decide +kernel) rfl, ⟨by decide +kernel, by decide +kernel, by decide +kernel⟩⟩
theorem cV_X10_sight : CVw yX10_sight cX10_sight 4 (some .int) 3 := ⟨big_tab (by decide +kernel) rfl, big_tab (by decide +kernel) rfl, mw_initialized_RX10, big_tab (by decide +kernel) rfl, ⟨by decide +kernel, by decide +kernel, by decide +kernel⟩⟩
theorem cV_X10_untell : CVw yX10_untell cX10_untell 2 (some .boolean) 1 := ⟨big_tab (by decide +kernel) rfl, big_tab (by decide +kernel) rfl, mw_initialized_RX10, big_tab (by decide +kernel) rfl, ⟨by decide +kernel, by decide +kernel, by decide +kernel⟩⟩
theorem cV_X10_later : CVw yX10_later cX10_later 2 (some .int) 1 := ⟨big_tab (by decide +kernel) rfl, big_tab (by decide +kernel) rfl, mw_initialized_RX10, big_tab (by decide +kernel) rfl, ⟨by decide +kernel, by decide +kernel, by decide +kernel⟩⟩
theorem cV_X10_unsure : CVw yX10_unsure cX10_unsure 2 (some .int) 1 := ⟨big_tab (by decide +kernel) rfl, big_tab (by decide +kernel) rfl, mw_initialized_RX10, big_tab (by decide +kernel) rfl, ⟨by decide +kernel, by decide +kernel, by decide +kernel⟩⟩
theorem cV_X10_areSo : CVw yX10_areSo cX10_areSo 4 (some .boolean) 1 := ⟨big_tab (by decide +kernel) rfl, big_sel (q := (yX10_areSo, 80)) (by decide +kernel), mw_initialized_RX10, big_tab (by decide +kernel) rfl, ⟨by decide +kernel, by decide +kernel, by decide +kernel⟩⟩
theorem cV_X10_layCase : CVw yX10_layCase cX10_layCase 4 none 1 := ⟨big_tab (by decide +kernel) rfl, big_sel (q := (yX10_layCase, 80)) (by decide +kernel), mw_initialized_RX10, big_tab (by decide +kernel) rfl, ⟨by decide +kernel, by decide +kernel, by decide +kernel⟩⟩
theorem cV_X10_fits : CVw yX10_fits cX10_fits 6 (some .int) 1 := ⟨big_tab (by decide +kernel) rfl, big_tab (by decide +kernel) rfl, mw_initialized_RX10, big_tab (by decide +kernel) rfl, ⟨by decide +kernel, by decide +kernel, by decide +kernel⟩⟩
theorem cV_X10_sure : CVw yX10_sure cX10_sure 4 (some .int) 2 := ⟨big_tab (by decide +kernel) rfl, big_tab (by decide +kernel) rfl, mw_initialized_RX10, big_tab (by decide +kernel) rfl, ⟨by decide +kernel, by decide +kernel, by decide +kernel⟩⟩
theorem cV_X10_isCase : CVw yX10_isCase cX10_isCase 2 (some .boolean) 1 := ⟨big_tab (by decide +kernel) rfl, big_sel (q := (yX10_isCase, 80)) (by decide +kernel), mw_initialized_RX10, big_tab (by decide +kernel) rfl, ⟨by decide +kernel, by decide +kernel, by decide +kernel⟩⟩
theorem cV_X10_wrong : CVw yX10_wrong cX10_wrong 5 (some .int) 2 := ⟨big_tab (by decide +kernel) rfl, big_tab (by decide +kernel) rfl, mw_initialized_RX10, big_tab (by decide +kernel) rfl, ⟨by decide +kernel, by decide +kernel, by decide +kernel⟩⟩
theorem cV_X10_canCrack : CVw yX10_canCrack cX10_canCrack 4 (some .boolean) 2 := ⟨big_tab (by decide +kernel) rfl, big_sel (q := (yX10_canCrack, 80)) (by decide +kernel), mw_initialized_RX10, big_tab (by decide +kernel) rfl, ⟨by decide +kernel, by decide +kernel, by decide +kernel⟩⟩
theorem cV_X10_canSee : CVw yX10_canSee cX10_canSee 5 (some .boolean) 2 := ⟨big_tab (by decide +kernel) rfl, big_sel (q := (yX10_canSee, 80)) (by decide +kernel), mw_initialized_RX10, big_tab (by decide +kernel) rfl, ⟨by decide +kernel, by decide +kernel, by decide +kernel⟩⟩
theorem cV_X10_image : CVw yX10_image cX10_image 3 (some .int) 1 := ⟨big_tab (by decide +kernel) rfl, big_tab (by decide +kernel) rfl, mw_initialized_RX10, big_tab (by decide +kernel) rfl, ⟨by decide +kernel, by decide +kernel, by decide +kernel⟩⟩
theorem cV_X10_back : CVw yX10_back cX10_back 3 (some .int) 1 := ⟨big_tab (by decide +kernel) rfl, big_tab (by decide +kernel) rfl, mw_initialized_RX10, big_tab (by decide +kernel) rfl, ⟨by decide +kernel, by decide +kernel, by decide +kernel⟩⟩
theorem cV_X10_about : CVw yX10_about cX10_about 2 (some .int) 1 := ⟨big_tab (by decide +kernel) rfl, big_tab (by decide +kernel) rfl, mw_initialized_RX10, big_tab (by decide +kernel) rfl, ⟨by decide +kernel, by decide +kernel, by decide +kernel⟩⟩
theorem cV_X10_feed : CVw yX10_feed cX10_feed 8 (some .int) 5 := ⟨big_tab (by decide +kernel) rfl, big_tab (by decide +kernel) rfl, mw_initialized_RX10, big_tab (by decide +kernel) rfl, ⟨by decide +kernel, by decide +kernel, by decide +kernel⟩⟩
theorem cV_X10_end : CVw yX10_end cX10_end 2 (some .int) 1 := ⟨big_tab (by decide +kernel) rfl, big_tab (by decide +kernel) rfl, mw_initialized_RX10, big_tab (by decide +kernel) rfl, ⟨by decide +kernel, by decide +kernel, by decide +kernel⟩⟩
theorem cS_J7_fill_d0a16 : CSw yJ7_fill_d0a16 cJ7_fill_d0a16 5 none 2 := ⟨big_tab (by decide +kernel) rfl, big_tab (by decide +kernel) rfl, big_tab (by decide +kernel) rfl, ⟨by decide +kernel, by decide +kernel, by decide +kernel⟩⟩
theorem cS_J7_fill_53178 : CSw yJ7_fill_53178 cJ7_fill_53178 4 none 2 := ⟨big_tab (by decide +kernel) rfl, big_tab (by decide +kernel) rfl, big_tab (by decide +kernel) rfl, ⟨by decide +kernel, by decide +kernel, by decide +kernel⟩⟩
theorem cV_J9_min_7cf53 : CVw yJ9_min_7cf53 cJ9_min_7cf53 2 (some .int) 2 := ⟨big_tab (by decide +kernel) rfl, big_tab (by decide +kernel) rfl, big_tab (by decide +kernel) rfl, big_tab (by decide +kernel) rfl, ⟨by decide +kernel, by decide +kernel, by decide +kernel⟩⟩
theorem cV_J9_min_f86c9 : CVw yJ9_min_f86c9 cJ9_min_f86c9 4 (some .long) 2 := ⟨big_tab (by decide +kernel) rfl, big_tab (by decide +kernel) rfl, big_tab (by decide +kernel) rfl, big_tab (by decide +kernel) rfl, ⟨by decide +kernel, by decide +kernel, by decide +kernel⟩⟩
theorem cS_J6_bitCount_0f7a4 : CSw yJ6_bitCount_0f7a4 cJ6_bitCount_0f7a4 1 (some .int) 1 := ⟨big_tab (by decide +kernel) rfl, big_tab (by decide +kernel) rfl, big_tab (by decide +kernel) rfl, ⟨by decide +kernel, by decide +kernel, by decide +kernel⟩⟩
