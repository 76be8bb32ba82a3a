theorem wml_L_9 : Cond.methodLink RL 9 yX10_init ∈ gw := gw_in (tin1 (List.mem_of_getElem? (i := 25) rfl)) rfl
theorem wml_L_12 : Cond.methodLink RL 12 yX11_init ∈ gw := gw_in (tin5 (List.mem_of_getElem? (i := 65) rfl)) rfl
theorem wml_L_13 : Cond.methodLink RL 13 yX10_terms ∈ gw := gw_in (tin2 (List.mem_of_getElem? (i := 188) rfl)) rfl
theorem winst_X10_terms : Cond.instanceMethod yX10_terms ∈ gw := gw_in (tin2 (List.mem_of_getElem? (i := 189) rfl)) rfl
theorem wsel_X10_terms : Cond.selects RX10 yX10_terms yX10_terms ∈ gw := gw_in (tin2 (List.mem_of_getElem? (i := 190) rfl)) rfl
theorem wml_L_17 : Cond.methodLink RL 17 yX11_terms ∈ gw := gw_in (tin5 (List.mem_of_getElem? (i := 188) rfl)) rfl
theorem winst_X11_terms : Cond.instanceMethod yX11_terms ∈ gw := gw_in (tin5 (List.mem_of_getElem? (i := 189) rfl)) rfl
theorem wsel_X11_terms : Cond.selects RX11 yX11_terms yX11_terms ∈ gw := gw_in (tin5 (List.mem_of_getElem? (i := 190) rfl)) rfl
theorem wml_L_18 : Cond.methodLink RL 18 yX10_feed ∈ gw := gw_in (tin2 (List.mem_of_getElem? (i := 204) rfl)) rfl
theorem winst_X10_feed : Cond.instanceMethod yX10_feed ∈ gw := gw_in (tin2 (List.mem_of_getElem? (i := 205) rfl)) rfl
theorem wsel_X10_feed : Cond.selects RX10 yX10_feed yX10_feed ∈ gw := gw_in (tin2 (List.mem_of_getElem? (i := 206) rfl)) rfl
theorem wml_L_22 : Cond.methodLink RL 22 yX11_feed ∈ gw := gw_in (tin5 (List.mem_of_getElem? (i := 192) rfl)) rfl
theorem winst_X11_feed : Cond.instanceMethod yX11_feed ∈ gw := gw_in (tin5 (List.mem_of_getElem? (i := 193) rfl)) rfl
theorem wsel_X11_feed : Cond.selects RX11 yX11_feed yX11_feed ∈ gw := gw_in (tin5 (List.mem_of_getElem? (i := 194) rfl)) rfl
theorem wml_L_23 : Cond.methodLink RL 23 yX10_end ∈ gw := gw_in (tin2 (List.mem_of_getElem? (i := 216) rfl)) rfl
theorem winst_X10_end : Cond.instanceMethod yX10_end ∈ gw := gw_in (tin2 (List.mem_of_getElem? (i := 217) rfl)) rfl
theorem wsel_X10_end : Cond.selects RX10 yX10_end yX10_end ∈ gw := gw_in (tin2 (List.mem_of_getElem? (i := 218) rfl)) rfl
theorem wml_L_27 : Cond.methodLink RL 27 yX11_end ∈ gw := gw_in (tin5 (List.mem_of_getElem? (i := 200) rfl)) rfl
theorem winst_X11_end : Cond.instanceMethod yX11_end ∈ gw := gw_in (tin5 (List.mem_of_getElem? (i := 201) rfl)) rfl
theorem wsel_X11_end : Cond.selects RX11 yX11_end yX11_end ∈ gw := gw_in (tin5 (List.mem_of_getElem? (i := 202) rfl)) rfl
theorem wml_L_28 : Cond.methodLink RL 28 yX10_read ∈ gw := gw_in (tin2 (List.mem_of_getElem? (i := 220) rfl)) rfl
theorem winst_X10_read : Cond.instanceMethod yX10_read ∈ gw := gw_in (tin2 (List.mem_of_getElem? (i := 221) rfl)) rfl
theorem wsel_X10_read : Cond.selects RX10 yX10_read yX10_read ∈ gw := gw_in (tin2 (List.mem_of_getElem? (i := 222) rfl)) rfl
theorem wml_L_32 : Cond.methodLink RL 32 yX11_read ∈ gw := gw_in (tin5 (List.mem_of_getElem? (i := 204) rfl)) rfl
theorem winst_X11_read : Cond.instanceMethod yX11_read ∈ gw := gw_in (tin5 (List.mem_of_getElem? (i := 205) rfl)) rfl
theorem wsel_X11_read : Cond.selects RX11 yX11_read yX11_read ∈ gw := gw_in (tin5 (List.mem_of_getElem? (i := 206) rfl)) rfl
theorem wml_L_33 : Cond.methodLink RL 33 yX10_fault ∈ gw := gw_in (tin3 (List.mem_of_getElem? (i := 146) rfl)) rfl
theorem winst_X10_fault : Cond.instanceMethod yX10_fault ∈ gw := gw_in (tin3 (List.mem_of_getElem? (i := 147) rfl)) rfl
theorem wsel_X10_fault : Cond.selects RX10 yX10_fault yX10_fault ∈ gw := gw_in (tin3 (List.mem_of_getElem? (i := 148) rfl)) rfl
theorem wml_L_36 : Cond.methodLink RL 36 yX11_fault ∈ gw := gw_in (tin6 (List.mem_of_getElem? (i := 33) rfl)) rfl
theorem winst_X11_fault : Cond.instanceMethod yX11_fault ∈ gw := gw_in (tin6 (List.mem_of_getElem? (i := 34) rfl)) rfl
theorem wsel_X11_fault : Cond.selects RX11 yX11_fault yX11_fault ∈ gw := gw_in (tin6 (List.mem_of_getElem? (i := 35) rfl)) rfl
theorem wml_L_37 : Cond.methodLink RL 37 yX10_plant ∈ gw := gw_in (tin3 (List.mem_of_getElem? (i := 150) rfl)) rfl
theorem winst_X10_plant : Cond.instanceMethod yX10_plant ∈ gw := gw_in (tin3 (List.mem_of_getElem? (i := 151) rfl)) rfl
theorem wsel_X10_plant : Cond.selects RX10 yX10_plant yX10_plant ∈ gw := gw_in (tin3 (List.mem_of_getElem? (i := 152) rfl)) rfl
theorem wml_L_41 : Cond.methodLink RL 41 yX11_plant ∈ gw := gw_in (tin6 (List.mem_of_getElem? (i := 37) rfl)) rfl
theorem winst_X11_plant : Cond.instanceMethod yX11_plant ∈ gw := gw_in (tin6 (List.mem_of_getElem? (i := 38) rfl)) rfl
theorem wsel_X11_plant : Cond.selects RX11 yX11_plant yX11_plant ∈ gw := gw_in (tin6 (List.mem_of_getElem? (i := 39) rfl)) rfl
theorem wml_L_42 : Cond.methodLink RL 42 yX10_site ∈ gw := gw_in (tin3 (List.mem_of_getElem? (i := 158) rfl)) rfl
theorem winst_X10_site : Cond.instanceMethod yX10_site ∈ gw := gw_in (tin3 (List.mem_of_getElem? (i := 159) rfl)) rfl
theorem wsel_X10_site : Cond.selects RX10 yX10_site yX10_site ∈ gw := gw_in (tin3 (List.mem_of_getElem? (i := 160) rfl)) rfl
theorem wml_L_45 : Cond.methodLink RL 45 yX11_site ∈ gw := gw_in (tin6 (List.mem_of_getElem? (i := 53) rfl)) rfl
theorem winst_X11_site : Cond.instanceMethod yX11_site ∈ gw := gw_in (tin6 (List.mem_of_getElem? (i := 54) rfl)) rfl
theorem wsel_X11_site : Cond.selects RX11 yX11_site yX11_site ∈ gw := gw_in (tin6 (List.mem_of_getElem? (i := 55) rfl)) rfl
theorem wml_L_46 : Cond.methodLink RL 46 yX10_road ∈ gw := gw_in (tin3 (List.mem_of_getElem? (i := 162) rfl)) rfl
theorem winst_X10_road : Cond.instanceMethod yX10_road ∈ gw := gw_in (tin3 (List.mem_of_getElem? (i := 163) rfl)) rfl
theorem wsel_X10_road : Cond.selects RX10 yX10_road yX10_road ∈ gw := gw_in (tin3 (List.mem_of_getElem? (i := 164) rfl)) rfl
theorem wml_L_49 : Cond.methodLink RL 49 yX11_road ∈ gw := gw_in (tin6 (List.mem_of_getElem? (i := 57) rfl)) rfl
theorem winst_X11_road : Cond.instanceMethod yX11_road ∈ gw := gw_in (tin6 (List.mem_of_getElem? (i := 58) rfl)) rfl
theorem wsel_X11_road : Cond.selects RX11 yX11_road yX11_road ∈ gw := gw_in (tin6 (List.mem_of_getElem? (i := 59) rfl)) rfl
theorem wml_L_50 : Cond.methodLink RL 50 yX10_scene ∈ gw := gw_in (tin3 (List.mem_of_getElem? (i := 174) rfl)) rfl
theorem winst_X10_scene : Cond.instanceMethod yX10_scene ∈ gw := gw_in (tin3 (List.mem_of_getElem? (i := 175) rfl)) rfl
theorem wsel_X10_scene : Cond.selects RX10 yX10_scene yX10_scene ∈ gw := gw_in (tin3 (List.mem_of_getElem? (i := 176) rfl)) rfl
theorem wml_L_53 : Cond.methodLink RL 53 yX11_scene ∈ gw := gw_in (tin6 (List.mem_of_getElem? (i := 69) rfl)) rfl
theorem winst_X11_scene : Cond.instanceMethod yX11_scene ∈ gw := gw_in (tin6 (List.mem_of_getElem? (i := 70) rfl)) rfl
theorem wsel_X11_scene : Cond.selects RX11 yX11_scene yX11_scene ∈ gw := gw_in (tin6 (List.mem_of_getElem? (i := 71) rfl)) rfl
theorem wml_L_54 : Cond.methodLink RL 54 yX10_need ∈ gw := gw_in (tin3 (List.mem_of_getElem? (i := 179) rfl)) rfl
theorem winst_X10_need : Cond.instanceMethod yX10_need ∈ gw := gw_in (tin3 (List.mem_of_getElem? (i := 180) rfl)) rfl
theorem wsel_X10_need : Cond.selects RX10 yX10_need yX10_need ∈ gw := gw_in (tin3 (List.mem_of_getElem? (i := 181) rfl)) rfl
theorem wml_L_57 : Cond.methodLink RL 57 yX11_need ∈ gw := gw_in (tin6 (List.mem_of_getElem? (i := 73) rfl)) rfl
theorem winst_X11_need : Cond.instanceMethod yX11_need ∈ gw := gw_in (tin6 (List.mem_of_getElem? (i := 74) rfl)) rfl
theorem wsel_X11_need : Cond.selects RX11 yX11_need yX11_need ∈ gw := gw_in (tin6 (List.mem_of_getElem? (i := 75) rfl)) rfl
theorem wml_L_58 : Cond.methodLink RL 58 yX10_change ∈ gw := gw_in (tin3 (List.mem_of_getElem? (i := 191) rfl)) rfl
theorem winst_X10_change : Cond.instanceMethod yX10_change ∈ gw := gw_in (tin3 (List.mem_of_getElem? (i := 192) rfl)) rfl
theorem wsel_X10_change : Cond.selects RX10 yX10_change yX10_change ∈ gw := gw_in (tin3 (List.mem_of_getElem? (i := 193) rfl)) rfl
theorem wml_L_61 : Cond.methodLink RL 61 yX11_change ∈ gw := gw_in (tin6 (List.mem_of_getElem? (i := 85) rfl)) rfl
theorem winst_X11_change : Cond.instanceMethod yX11_change ∈ gw := gw_in (tin6 (List.mem_of_getElem? (i := 86) rfl)) rfl
theorem wsel_X11_change : Cond.selects RX11 yX11_change yX11_change ∈ gw := gw_in (tin6 (List.mem_of_getElem? (i := 87) rfl)) rfl
theorem wml_L_62 : Cond.methodLink RL 62 yX10_round ∈ gw := gw_in (tin3 (List.mem_of_getElem? (i := 203) rfl)) rfl
theorem winst_X10_round : Cond.instanceMethod yX10_round ∈ gw := gw_in (tin3 (List.mem_of_getElem? (i := 204) rfl)) rfl
theorem wsel_X10_round : Cond.selects RX10 yX10_round yX10_round ∈ gw := gw_in (tin3 (List.mem_of_getElem? (i := 205) rfl)) rfl
theorem wml_L_65 : Cond.methodLink RL 65 yX11_round ∈ gw := gw_in (tin6 (List.mem_of_getElem? (i := 89) rfl)) rfl
theorem winst_X11_round : Cond.instanceMethod yX11_round ∈ gw := gw_in (tin6 (List.mem_of_getElem? (i := 90) rfl)) rfl
theorem wsel_X11_round : Cond.selects RX11 yX11_round yX11_round ∈ gw := gw_in (tin6 (List.mem_of_getElem? (i := 91) rfl)) rfl
theorem wml_L_66 : Cond.methodLink RL 66 yX10_go ∈ gw := gw_in (tin4 (List.mem_of_getElem? (i := 134) rfl)) rfl
theorem winst_X10_go : Cond.instanceMethod yX10_go ∈ gw := gw_in (tin4 (List.mem_of_getElem? (i := 135) rfl)) rfl
theorem wsel_X10_go : Cond.selects RX10 yX10_go yX10_go ∈ gw := gw_in (tin4 (List.mem_of_getElem? (i := 136) rfl)) rfl
theorem wml_L_69 : Cond.methodLink RL 69 yX11_go ∈ gw := gw_in (tin6 (List.mem_of_getElem? (i := 210) rfl)) rfl
theorem winst_X11_go : Cond.instanceMethod yX11_go ∈ gw := gw_in (tin6 (List.mem_of_getElem? (i := 211) rfl)) rfl
theorem wsel_X11_go : Cond.selects RX11 yX11_go yX11_go ∈ gw := gw_in (tin6 (List.mem_of_getElem? (i := 212) rfl)) rfl
theorem wml_L_70 : Cond.methodLink RL 70 yX10_clear ∈ gw := gw_in (tin4 (List.mem_of_getElem? (i := 144) rfl)) rfl
theorem winst_X10_clear : Cond.instanceMethod yX10_clear ∈ gw := gw_in (tin4 (List.mem_of_getElem? (i := 145) rfl)) rfl
theorem wsel_X10_clear : Cond.selects RX10 yX10_clear yX10_clear ∈ gw := gw_in (tin4 (List.mem_of_getElem? (i := 146) rfl)) rfl
theorem wml_L_73 : Cond.methodLink RL 73 yX11_clear ∈ gw := gw_in (tin6 (List.mem_of_getElem? (i := 214) rfl)) rfl
theorem winst_X11_clear : Cond.instanceMethod yX11_clear ∈ gw := gw_in (tin6 (List.mem_of_getElem? (i := 215) rfl)) rfl
theorem wsel_X11_clear : Cond.selects RX11 yX11_clear yX11_clear ∈ gw := gw_in (tin6 (List.mem_of_getElem? (i := 216) rfl)) rfl
theorem wml_L_74 : Cond.methodLink RL 74 yX10_undo ∈ gw := gw_in (tin4 (List.mem_of_getElem? (i := 148) rfl)) rfl
theorem winst_X10_undo : Cond.instanceMethod yX10_undo ∈ gw := gw_in (tin4 (List.mem_of_getElem? (i := 149) rfl)) rfl
theorem wsel_X10_undo : Cond.selects RX10 yX10_undo yX10_undo ∈ gw := gw_in (tin4 (List.mem_of_getElem? (i := 150) rfl)) rfl
theorem wml_L_77 : Cond.methodLink RL 77 yX11_undo ∈ gw := gw_in (tin5 (List.mem_of_getElem? (i := 165) rfl)) rfl
theorem winst_X11_undo : Cond.instanceMethod yX11_undo ∈ gw := gw_in (tin5 (List.mem_of_getElem? (i := 166) rfl)) rfl
theorem wsel_X11_undo : Cond.selects RX11 yX11_undo yX11_undo ∈ gw := gw_in (tin5 (List.mem_of_getElem? (i := 167) rfl)) rfl
theorem wml_L_78 : Cond.methodLink RL 78 yX10_of ∈ gw := gw_in (tin4 (List.mem_of_getElem? (i := 160) rfl)) rfl
theorem winst_X10_of : Cond.instanceMethod yX10_of ∈ gw := gw_in (tin4 (List.mem_of_getElem? (i := 161) rfl)) rfl
theorem wsel_X10_of : Cond.selects RX10 yX10_of yX10_of ∈ gw := gw_in (tin4 (List.mem_of_getElem? (i := 162) rfl)) rfl
theorem wml_L_81 : Cond.methodLink RL 81 yX11_of ∈ gw := gw_in (tin6 (List.mem_of_getElem? (i := 222) rfl)) rfl
theorem winst_X11_of : Cond.instanceMethod yX11_of ∈ gw := gw_in (tin6 (List.mem_of_getElem? (i := 223) rfl)) rfl
theorem wsel_X11_of : Cond.selects RX11 yX11_of yX11_of ∈ gw := gw_in (tin6 (List.mem_of_getElem? (i := 224) rfl)) rfl
theorem wml_L_82 : Cond.methodLink RL 82 yX10_told ∈ gw := gw_in (tin4 (List.mem_of_getElem? (i := 164) rfl)) rfl
theorem winst_X10_told : Cond.instanceMethod yX10_told ∈ gw := gw_in (tin4 (List.mem_of_getElem? (i := 165) rfl)) rfl
theorem wsel_X10_told : Cond.selects RX10 yX10_told yX10_told ∈ gw := gw_in (tin4 (List.mem_of_getElem? (i := 166) rfl)) rfl
theorem wml_L_85 : Cond.methodLink RL 85 yX11_told ∈ gw := gw_in (tin6 (List.mem_of_getElem? (i := 226) rfl)) rfl
theorem winst_X11_told : Cond.instanceMethod yX11_told ∈ gw := gw_in (tin6 (List.mem_of_getElem? (i := 227) rfl)) rfl
theorem wsel_X11_told : Cond.selects RX11 yX11_told yX11_told ∈ gw := gw_in (tin6 (List.mem_of_getElem? (i := 228) rfl)) rfl
theorem wml_L_86 : Cond.methodLink RL 86 yX10_now ∈ gw := gw_in (tin4 (List.mem_of_getElem? (i := 168) rfl)) rfl
theorem winst_X10_now : Cond.instanceMethod yX10_now ∈ gw := gw_in (tin4 (List.mem_of_getElem? (i := 169) rfl)) rfl
theorem wsel_X10_now : Cond.selects RX10 yX10_now yX10_now ∈ gw := gw_in (tin4 (List.mem_of_getElem? (i := 170) rfl)) rfl
theorem wml_L_89 : Cond.methodLink RL 89 yX11_now ∈ gw := gw_in (tin6 (List.mem_of_getElem? (i := 230) rfl)) rfl
theorem winst_X11_now : Cond.instanceMethod yX11_now ∈ gw := gw_in (tin6 (List.mem_of_getElem? (i := 231) rfl)) rfl
theorem wsel_X11_now : Cond.selects RX11 yX11_now yX11_now ∈ gw := gw_in (tin6 (List.mem_of_getElem? (i := 232) rfl)) rfl
theorem wml_L_90 : Cond.methodLink RL 90 yX10_gap ∈ gw := gw_in (tin4 (List.mem_of_getElem? (i := 176) rfl)) rfl
theorem winst_X10_gap : Cond.instanceMethod yX10_gap ∈ gw := gw_in (tin4 (List.mem_of_getElem? (i := 177) rfl)) rfl
theorem wsel_X10_gap : Cond.selects RX10 yX10_gap yX10_gap ∈ gw := gw_in (tin4 (List.mem_of_getElem? (i := 178) rfl)) rfl
theorem wml_L_93 : Cond.methodLink RL 93 yX11_gap ∈ gw := gw_in (tin6 (List.mem_of_getElem? (i := 238) rfl)) rfl
theorem winst_X11_gap : Cond.instanceMethod yX11_gap ∈ gw := gw_in (tin6 (List.mem_of_getElem? (i := 239) rfl)) rfl
theorem wsel_X11_gap : Cond.selects RX11 yX11_gap yX11_gap ∈ gw := gw_in (tin7 (List.mem_of_getElem? (i := 0) rfl)) rfl
theorem wml_L_94 : Cond.methodLink RL 94 yX10_cut ∈ gw := gw_in (tin4 (List.mem_of_getElem? (i := 186) rfl)) rfl
theorem winst_X10_cut : Cond.instanceMethod yX10_cut ∈ gw := gw_in (tin4 (List.mem_of_getElem? (i := 187) rfl)) rfl
theorem wsel_X10_cut : Cond.selects RX10 yX10_cut yX10_cut ∈ gw := gw_in (tin4 (List.mem_of_getElem? (i := 188) rfl)) rfl
theorem wml_L_97 : Cond.methodLink RL 97 yX11_cut ∈ gw := gw_in (tin7 (List.mem_of_getElem? (i := 12) rfl)) rfl
theorem winst_X11_cut : Cond.instanceMethod yX11_cut ∈ gw := gw_in (tin7 (List.mem_of_getElem? (i := 13) rfl)) rfl
theorem wsel_X11_cut : Cond.selects RX11 yX11_cut yX11_cut ∈ gw := gw_in (tin7 (List.mem_of_getElem? (i := 14) rfl)) rfl
theorem wml_L_98 : Cond.methodLink RL 98 yX10_tells ∈ gw := gw_in (tin4 (List.mem_of_getElem? (i := 190) rfl)) rfl
theorem winst_X10_tells : Cond.instanceMethod yX10_tells ∈ gw := gw_in (tin4 (List.mem_of_getElem? (i := 191) rfl)) rfl
theorem wsel_X10_tells : Cond.selects RX10 yX10_tells yX10_tells ∈ gw := gw_in (tin4 (List.mem_of_getElem? (i := 192) rfl)) rfl
theorem wml_L_101 : Cond.methodLink RL 101 yX11_tells_ ∈ gw := gw_in (tin7 (List.mem_of_getElem? (i := 20) rfl)) rfl
theorem winst_X11_tells_ : Cond.instanceMethod yX11_tells_ ∈ gw := gw_in (tin7 (List.mem_of_getElem? (i := 21) rfl)) rfl
theorem wsel_X11_tells_ : Cond.selects RX11 yX11_tells_ yX11_tells_ ∈ gw := gw_in (tin7 (List.mem_of_getElem? (i := 22) rfl)) rfl
theorem wml_L_102 : Cond.methodLink RL 102 yX10_exact ∈ gw := gw_in (tin4 (List.mem_of_getElem? (i := 197) rfl)) rfl
theorem winst_X10_exact : Cond.instanceMethod yX10_exact ∈ gw := gw_in (tin4 (List.mem_of_getElem? (i := 198) rfl)) rfl
theorem wsel_X10_exact : Cond.selects RX10 yX10_exact yX10_exact ∈ gw := gw_in (tin4 (List.mem_of_getElem? (i := 199) rfl)) rfl
theorem wml_L_105 : Cond.methodLink RL 105 yX11_exact ∈ gw := gw_in (tin7 (List.mem_of_getElem? (i := 25) rfl)) rfl
theorem winst_X11_exact : Cond.instanceMethod yX11_exact ∈ gw := gw_in (tin7 (List.mem_of_getElem? (i := 26) rfl)) rfl
theorem wsel_X11_exact : Cond.selects RX11 yX11_exact yX11_exact ∈ gw := gw_in (tin7 (List.mem_of_getElem? (i := 27) rfl)) rfl
theorem wml_L_106 : Cond.methodLink RL 106 yX10_price ∈ gw := gw_in (tin4 (List.mem_of_getElem? (i := 207) rfl)) rfl
theorem winst_X10_price : Cond.instanceMethod yX10_price ∈ gw := gw_in (tin4 (List.mem_of_getElem? (i := 208) rfl)) rfl
theorem wsel_X10_price : Cond.selects RX10 yX10_price yX10_price ∈ gw := gw_in (tin4 (List.mem_of_getElem? (i := 209) rfl)) rfl
theorem wml_L_109 : Cond.methodLink RL 109 yX11_price ∈ gw := gw_in (tin7 (List.mem_of_getElem? (i := 33) rfl)) rfl
theorem winst_X11_price : Cond.instanceMethod yX11_price ∈ gw := gw_in (tin7 (List.mem_of_getElem? (i := 34) rfl)) rfl
theorem wsel_X11_price : Cond.selects RX11 yX11_price yX11_price ∈ gw := gw_in (tin7 (List.mem_of_getElem? (i := 35) rfl)) rfl
theorem wml_L_110 : Cond.methodLink RL 110 yX10_lack ∈ gw := gw_in (tin4 (List.mem_of_getElem? (i := 211) rfl)) rfl
theorem winst_X10_lack : Cond.instanceMethod yX10_lack ∈ gw := gw_in (tin4 (List.mem_of_getElem? (i := 212) rfl)) rfl
theorem wsel_X10_lack : Cond.selects RX10 yX10_lack yX10_lack ∈ gw := gw_in (tin4 (List.mem_of_getElem? (i := 213) rfl)) rfl
theorem wml_L_113 : Cond.methodLink RL 113 yX11_lack ∈ gw := gw_in (tin7 (List.mem_of_getElem? (i := 37) rfl)) rfl
theorem winst_X11_lack : Cond.instanceMethod yX11_lack ∈ gw := gw_in (tin7 (List.mem_of_getElem? (i := 38) rfl)) rfl
theorem wsel_X11_lack : Cond.selects RX11 yX11_lack yX11_lack ∈ gw := gw_in (tin7 (List.mem_of_getElem? (i := 39) rfl)) rfl
theorem wml_L_114 : Cond.methodLink RL 114 yX10_rate ∈ gw := gw_in (tin4 (List.mem_of_getElem? (i := 215) rfl)) rfl
theorem winst_X10_rate : Cond.instanceMethod yX10_rate ∈ gw := gw_in (tin4 (List.mem_of_getElem? (i := 216) rfl)) rfl
theorem wsel_X10_rate : Cond.selects RX10 yX10_rate yX10_rate ∈ gw := gw_in (tin4 (List.mem_of_getElem? (i := 217) rfl)) rfl
theorem wml_L_117 : Cond.methodLink RL 117 yX11_rate ∈ gw := gw_in (tin7 (List.mem_of_getElem? (i := 41) rfl)) rfl
theorem winst_X11_rate : Cond.instanceMethod yX11_rate ∈ gw := gw_in (tin7 (List.mem_of_getElem? (i := 42) rfl)) rfl
theorem wsel_X11_rate : Cond.selects RX11 yX11_rate yX11_rate ∈ gw := gw_in (tin7 (List.mem_of_getElem? (i := 43) rfl)) rfl
theorem wml_L_118 : Cond.methodLink RL 118 yX10_floor ∈ gw := gw_in (tin4 (List.mem_of_getElem? (i := 220) rfl)) rfl
theorem winst_X10_floor : Cond.instanceMethod yX10_floor ∈ gw := gw_in (tin4 (List.mem_of_getElem? (i := 221) rfl)) rfl
theorem wsel_X10_floor : Cond.selects RX10 yX10_floor yX10_floor ∈ gw := gw_in (tin4 (List.mem_of_getElem? (i := 222) rfl)) rfl
theorem wml_L_121 : Cond.methodLink RL 121 yX11_floor ∈ gw := gw_in (tin7 (List.mem_of_getElem? (i := 45) rfl)) rfl
theorem winst_X11_floor : Cond.instanceMethod yX11_floor ∈ gw := gw_in (tin7 (List.mem_of_getElem? (i := 46) rfl)) rfl
theorem wsel_X11_floor : Cond.selects RX11 yX11_floor yX11_floor ∈ gw := gw_in (tin7 (List.mem_of_getElem? (i := 47) rfl)) rfl
theorem wml_L_122 : Cond.methodLink RL 122 yX10_total ∈ gw := gw_in (tin4 (List.mem_of_getElem? (i := 226) rfl)) rfl
theorem winst_X10_total : Cond.instanceMethod yX10_total ∈ gw := gw_in (tin4 (List.mem_of_getElem? (i := 227) rfl)) rfl
theorem wsel_X10_total : Cond.selects RX10 yX10_total yX10_total ∈ gw := gw_in (tin4 (List.mem_of_getElem? (i := 228) rfl)) rfl
theorem wml_L_125 : Cond.methodLink RL 125 yX11_total ∈ gw := gw_in (tin7 (List.mem_of_getElem? (i := 49) rfl)) rfl
theorem wml_L_126 : Cond.methodLink RL 126 yX10_least ∈ gw := gw_in (tin4 (List.mem_of_getElem? (i := 236) rfl)) rfl
theorem winst_X10_least : Cond.instanceMethod yX10_least ∈ gw := gw_in (tin4 (List.mem_of_getElem? (i := 237) rfl)) rfl
theorem wsel_X10_least : Cond.selects RX10 yX10_least yX10_least ∈ gw := gw_in (tin4 (List.mem_of_getElem? (i := 238) rfl)) rfl
theorem wml_L_129 : Cond.methodLink RL 129 yX11_least ∈ gw := gw_in (tin7 (List.mem_of_getElem? (i := 53) rfl)) rfl
theorem winst_X11_least : Cond.instanceMethod yX11_least ∈ gw := gw_in (tin7 (List.mem_of_getElem? (i := 54) rfl)) rfl
theorem wsel_X11_least : Cond.selects RX11 yX11_least yX11_least ∈ gw := gw_in (tin7 (List.mem_of_getElem? (i := 55) rfl)) rfl
theorem wml_L_130 : Cond.methodLink RL 130 yX10_regret ∈ gw := gw_in (tin5 (List.mem_of_getElem? (i := 6) rfl)) rfl
theorem winst_X10_regret : Cond.instanceMethod yX10_regret ∈ gw := gw_in (tin5 (List.mem_of_getElem? (i := 7) rfl)) rfl
theorem wsel_X10_regret : Cond.selects RX10 yX10_regret yX10_regret ∈ gw := gw_in (tin5 (List.mem_of_getElem? (i := 8) rfl)) rfl
theorem wml_L_133 : Cond.methodLink RL 133 yX11_regret ∈ gw := gw_in (tin7 (List.mem_of_getElem? (i := 57) rfl)) rfl
theorem winst_X11_regret : Cond.instanceMethod yX11_regret ∈ gw := gw_in (tin7 (List.mem_of_getElem? (i := 58) rfl)) rfl
theorem wsel_X11_regret : Cond.selects RX11 yX11_regret yX11_regret ∈ gw := gw_in (tin7 (List.mem_of_getElem? (i := 59) rfl)) rfl
theorem wml_L_134 : Cond.methodLink RL 134 yX10_mean ∈ gw := gw_in (tin5 (List.mem_of_getElem? (i := 17) rfl)) rfl
theorem winst_X10_mean : Cond.instanceMethod yX10_mean ∈ gw := gw_in (tin5 (List.mem_of_getElem? (i := 18) rfl)) rfl
theorem wsel_X10_mean : Cond.selects RX10 yX10_mean yX10_mean ∈ gw := gw_in (tin5 (List.mem_of_getElem? (i := 19) rfl)) rfl
theorem wml_L_138 : Cond.methodLink RL 138 yX11_mean ∈ gw := gw_in (tin7 (List.mem_of_getElem? (i := 66) rfl)) rfl
theorem winst_X11_mean : Cond.instanceMethod yX11_mean ∈ gw := gw_in (tin7 (List.mem_of_getElem? (i := 67) rfl)) rfl
theorem wsel_X11_mean : Cond.selects RX11 yX11_mean yX11_mean ∈ gw := gw_in (tin7 (List.mem_of_getElem? (i := 68) rfl)) rfl
theorem wml_L_139 : Cond.methodLink RL 139 yX10_would ∈ gw := gw_in (tin5 (List.mem_of_getElem? (i := 33) rfl)) rfl
theorem winst_X10_would : Cond.instanceMethod yX10_would ∈ gw := gw_in (tin5 (List.mem_of_getElem? (i := 34) rfl)) rfl
theorem wsel_X10_would : Cond.selects RX10 yX10_would yX10_would ∈ gw := gw_in (tin5 (List.mem_of_getElem? (i := 35) rfl)) rfl
theorem wml_L_142 : Cond.methodLink RL 142 yX11_would ∈ gw := gw_in (tin6 (List.mem_of_getElem? (i := 218) rfl)) rfl
theorem winst_X11_would : Cond.instanceMethod yX11_would ∈ gw := gw_in (tin6 (List.mem_of_getElem? (i := 219) rfl)) rfl
theorem wsel_X11_would : Cond.selects RX11 yX11_would yX11_would ∈ gw := gw_in (tin6 (List.mem_of_getElem? (i := 220) rfl)) rfl
theorem wml_L_143 : Cond.methodLink RL 143 yX10_image ∈ gw := gw_in (tin5 (List.mem_of_getElem? (i := 37) rfl)) rfl
theorem winst_X10_image : Cond.instanceMethod yX10_image ∈ gw := gw_in (tin5 (List.mem_of_getElem? (i := 38) rfl)) rfl
theorem wsel_X10_image : Cond.selects RX10 yX10_image yX10_image ∈ gw := gw_in (tin5 (List.mem_of_getElem? (i := 39) rfl)) rfl
theorem wml_L_146 : Cond.methodLink RL 146 yX11_image ∈ gw := gw_in (tin5 (List.mem_of_getElem? (i := 177) rfl)) rfl
theorem winst_X11_image : Cond.instanceMethod yX11_image ∈ gw := gw_in (tin5 (List.mem_of_getElem? (i := 178) rfl)) rfl
theorem wsel_X11_image : Cond.selects RX11 yX11_image yX11_image ∈ gw := gw_in (tin5 (List.mem_of_getElem? (i := 179) rfl)) rfl
theorem wml_L_147 : Cond.methodLink RL 147 yX10_back ∈ gw := gw_in (tin5 (List.mem_of_getElem? (i := 43) rfl)) rfl
theorem winst_X10_back : Cond.instanceMethod yX10_back ∈ gw := gw_in (tin5 (List.mem_of_getElem? (i := 44) rfl)) rfl
theorem wsel_X10_back : Cond.selects RX10 yX10_back yX10_back ∈ gw := gw_in (tin5 (List.mem_of_getElem? (i := 45) rfl)) rfl
theorem wml_L_150 : Cond.methodLink RL 150 yX11_back ∈ gw := gw_in (tin5 (List.mem_of_getElem? (i := 184) rfl)) rfl
theorem winst_X11_back : Cond.instanceMethod yX11_back ∈ gw := gw_in (tin5 (List.mem_of_getElem? (i := 185) rfl)) rfl
theorem wsel_X11_back : Cond.selects RX11 yX11_back yX11_back ∈ gw := gw_in (tin5 (List.mem_of_getElem? (i := 186) rfl)) rfl
theorem wml_L_151 : Cond.methodLink RL 151 yX10_count ∈ gw := gw_in (tin5 (List.mem_of_getElem? (i := 47) rfl)) rfl
theorem winst_X10_count : Cond.instanceMethod yX10_count ∈ gw := gw_in (tin5 (List.mem_of_getElem? (i := 48) rfl)) rfl
theorem wsel_X10_count : Cond.selects RX10 yX10_count yX10_count ∈ gw := gw_in (tin5 (List.mem_of_getElem? (i := 49) rfl)) rfl
theorem wml_L_154 : Cond.methodLink RL 154 yX11_count ∈ gw := gw_in (tin7 (List.mem_of_getElem? (i := 81) rfl)) rfl
theorem winst_X11_count : Cond.instanceMethod yX11_count ∈ gw := gw_in (tin7 (List.mem_of_getElem? (i := 82) rfl)) rfl
theorem wsel_X11_count : Cond.selects RX11 yX11_count yX11_count ∈ gw := gw_in (tin7 (List.mem_of_getElem? (i := 83) rfl)) rfl
theorem wml_L_155 : Cond.methodLink RL 155 yX10_status ∈ gw := gw_in (tin5 (List.mem_of_getElem? (i := 59) rfl)) rfl
theorem winst_X10_status : Cond.instanceMethod yX10_status ∈ gw := gw_in (tin5 (List.mem_of_getElem? (i := 60) rfl)) rfl
theorem wsel_X10_status : Cond.selects RX10 yX10_status yX10_status ∈ gw := gw_in (tin5 (List.mem_of_getElem? (i := 61) rfl)) rfl
theorem wml_L_158 : Cond.methodLink RL 158 yX11_status ∈ gw := gw_in (tin7 (List.mem_of_getElem? (i := 93) rfl)) rfl
theorem winst_X11_status : Cond.instanceMethod yX11_status ∈ gw := gw_in (tin7 (List.mem_of_getElem? (i := 94) rfl)) rfl
theorem wsel_X11_status : Cond.selects RX11 yX11_status yX11_status ∈ gw := gw_in (tin7 (List.mem_of_getElem? (i := 95) rfl)) rfl
theorem winst_X11_init : Cond.instanceMethod yX11_init ∈ gw := gw_in (tin5 (List.mem_of_getElem? (i := 66) rfl)) rfl
theorem wcl_L_10 : Cond.classLink RL 10 RX11 ∈ gw := gw_in (tin5 (List.mem_of_getElem? (i := 63) rfl)) rfl
theorem wins_X11 : Cond.instantiable RX11 29 ∈ gw := gw_in (tin5 (List.mem_of_getElem? (i := 64) rfl)) rfl
theorem winst_X10_init : Cond.instanceMethod yX10_init ∈ gw := gw_in (tin1 (List.mem_of_getElem? (i := 26) rfl)) rfl
theorem wcl_L_7 : Cond.classLink RL 7 RX10 ∈ gw := gw_in (tin1 (List.mem_of_getElem? (i := 23) rfl)) rfl
theorem wins_X10 : Cond.instantiable RX10 14 ∈ gw := gw_in (tin1 (List.mem_of_getElem? (i := 24) rfl)) rfl
abbrev kL_law : Cd := (yL_law, cL_law, 4, (some .boolean), 10, 247)
def L_law_j1134 (L : Nat) (xs : Nat → Int32) (v1 : Nat) (v2 : Nat) (v3 : Int32) (h : AHeap) : Option ((Int32 × AHeap) ⊕ ((Int32 × AHeap))) :=
  some (Sum.inl (v3 + 6, h))
theorem L_law_j1134_J {E : JE} {l : Launch} {G : GX} {r : Option Value} {h' : AHeap} {b L : Nat} {xs : Nat → Int32} (ok : JOK E l G kL_law 292 38409 r h') (hX : EX E b L xs) (v1 : Nat) (v2 : Nat) (v3 : Int32) (h : AHeap) {Y : (Int32 × AHeap) ⊕ ((Int32 × AHeap)) → Prop} (k1 : ∀ s' : Int32 × AHeap, Y (.inl s') → JW E kL_law 18 [some (.ref (FB + 11)), some (.ref v1), some (.ref v2), some (.int s'.1)] [] s'.2 292 38409) (kx1140 : ∀ q : Int32 × AHeap, Y (.inr q) → JW E kL_law 1140 [some (.ref (FB + 11)), some (.ref v1), some (.ref v2), some (.int q.1)] [] q.2 292 38409) : J E kL_law (L_law_j1134 L xs v1 v2 v3 h) Y 1134 [some (.ref (FB + 11)), some (.ref v1), some (.ref v2), some (.int v3)] [] h 292 38409 := by
  unfold L_law_j1134
  refine J_iinc (v := v3 + 6) (ls' := [some (.ref (FB + 11)), some (.ref v1), some (.ref v2), some (.int (v3 + 6))]) (pc' := 1137) ok (dOf dL_law_30 8 rfl) rfl rfl (by rfl) (Nat.le_of_ble_eq_true rfl) rfl rfl ?_
  refine J_goto (tgt := 18) ok (dOf dL_law_30 9 rfl) (by decide) ?_
  exact J_fin (k1 (v3 + 6, h))
def L_law_b18 (L : Nat) (xs : Nat → Int32) (v1 : Nat) (v2 : Nat) (s : Int32 × AHeap) : Option ((Int32 × AHeap) ⊕ ((Int32 × AHeap))) :=
  (if ((Int32.ofNat L) - 6) < s.1 then some (Sum.inr (s.1, s.2)) else (sld L xs s.1).bind fun x7 => swi (x7 &&& 63) 0 [(sld L xs (s.1 + 1)).bind fun x8 => (sld L xs (s.1 + 2)).bind fun x9 => (chk s.2 v1 10).bind fun _ => bnd2 (Sp_terms v1 x8 x9 s.2) fun x11 h10 => (sld L xs (s.1 + 1)).bind fun x12 => (sld L xs (s.1 + 2)).bind fun x13 => (chk h10 v2 11).bind fun _ => bnd2 (Mod_terms v2 x12 x13 h10) fun x15 h14 => (if x11 = x15 then L_law_j1134 L xs v1 v2 s.1 h14 else none), (sld L xs (s.1 + 1)).bind fun x16 => (sld L xs (s.1 + 2)).bind fun x17 => (sld L xs (s.1 + 3)).bind fun x18 => (sld L xs (s.1 + 4)).bind fun x19 => (sld L xs (s.1 + 5)).bind fun x20 => (chk s.2 v1 10).bind fun _ => bnd2 (Sp_feed v1 x16 x17 x18 x19 x20 s.2) fun x22 h21 => (sld L xs (s.1 + 1)).bind fun x23 => (sld L xs (s.1 + 2)).bind fun x24 => (sld L xs (s.1 + 3)).bind fun x25 => (sld L xs (s.1 + 4)).bind fun x26 => (sld L xs (s.1 + 5)).bind fun x27 => (chk h21 v2 11).bind fun _ => bnd2 (Mod_feed v2 x23 x24 x25 x26 x27 h21) fun x29 h28 => (if x22 = x29 then L_law_j1134 L xs v1 v2 s.1 h28 else none), (sld L xs (s.1 + 1)).bind fun x30 => (chk s.2 v1 10).bind fun _ => bnd2 (Sp_end v1 x30 s.2) fun x32 h31 => (sld L xs (s.1 + 1)).bind fun x33 => (chk h31 v2 11).bind fun _ => bnd2 (Mod_end v2 x33 h31) fun x35 h34 => (if x32 = x35 then L_law_j1134 L xs v1 v2 s.1 h34 else none), (chk s.2 v1 10).bind fun _ => bnd2 (Sp_read v1 s.2) fun x37 h36 => (chk h36 v2 11).bind fun _ => bnd2 (Mod_read v2 h36) fun x39 h38 => (if x37 = x39 then L_law_j1134 L xs v1 v2 s.1 h38 else none), (chk s.2 v1 10).bind fun _ => bnd2 (Sp_fault v1 s.2) fun x41 h40 => (chk h40 v2 11).bind fun _ => bnd2 (Mod_fault v2 h40) fun x43 h42 => (if x41 = x43 then L_law_j1134 L xs v1 v2 s.1 h42 else none), (sld L xs (s.1 + 1)).bind fun x44 => (sld L xs (s.1 + 2)).bind fun x45 => (sld L xs (s.1 + 3)).bind fun x46 => (chk s.2 v1 10).bind fun _ => bnd2 (Sp_plant v1 x44 x45 x46 s.2) fun x48 h47 => (sld L xs (s.1 + 1)).bind fun x49 => (sld L xs (s.1 + 2)).bind fun x50 => (sld L xs (s.1 + 3)).bind fun x51 => (chk h47 v2 11).bind fun _ => bnd2 (Mod_plant v2 x49 x50 x51 h47) fun x53 h52 => (if x48 = x53 then L_law_j1134 L xs v1 v2 s.1 h52 else none), (chk s.2 v1 10).bind fun _ => bnd2 (Sp_site v1 s.2) fun x55 h54 => (chk h54 v2 11).bind fun _ => bnd2 (Mod_site v2 h54) fun x57 h56 => (if x55 = x57 then L_law_j1134 L xs v1 v2 s.1 h56 else none), (sld L xs (s.1 + 1)).bind fun x58 => (sld L xs (s.1 + 2)).bind fun x59 => (sld L xs (s.1 + 3)).bind fun x60 => (chk s.2 v1 10).bind fun _ => bnd2 (Sp_road v1 x58 x59 x60 s.2) fun x62 h61 => (sld L xs (s.1 + 1)).bind fun x63 => (sld L xs (s.1 + 2)).bind fun x64 => (sld L xs (s.1 + 3)).bind fun x65 => (chk h61 v2 11).bind fun _ => bnd2 (Mod_road v2 x63 x64 x65 h61) fun x67 h66 => (if x62 = x67 then L_law_j1134 L xs v1 v2 s.1 h66 else none), (sld L xs (s.1 + 1)).bind fun x68 => (chk s.2 v1 10).bind fun _ => bnd2 (Sp_scene v1 x68 s.2) fun x70 h69 => (sld L xs (s.1 + 1)).bind fun x71 => (chk h69 v2 11).bind fun _ => bnd2 (Mod_scene v2 x71 h69) fun x73 h72 => (if x70 = x73 then L_law_j1134 L xs v1 v2 s.1 h72 else none), (sld L xs (s.1 + 1)).bind fun x74 => (sld L xs (s.1 + 2)).bind fun x75 => (sld L xs (s.1 + 3)).bind fun x76 => (chk s.2 v1 10).bind fun _ => bnd2 (Sp_need v1 x74 x75 x76 s.2) fun x78 h77 => (sld L xs (s.1 + 1)).bind fun x79 => (sld L xs (s.1 + 2)).bind fun x80 => (sld L xs (s.1 + 3)).bind fun x81 => (chk h77 v2 11).bind fun _ => bnd2 (Mod_need v2 x79 x80 x81 h77) fun x83 h82 => (if x78 = x83 then L_law_j1134 L xs v1 v2 s.1 h82 else none), (sld L xs (s.1 + 1)).bind fun x84 => (sld L xs (s.1 + 2)).bind fun x85 => (sld L xs (s.1 + 3)).bind fun x86 => (chk s.2 v1 10).bind fun _ => bnd2 (Sp_change v1 x84 x85 x86 s.2) fun x88 h87 => (sld L xs (s.1 + 1)).bind fun x89 => (sld L xs (s.1 + 2)).bind fun x90 => (sld L xs (s.1 + 3)).bind fun x91 => (chk h87 v2 11).bind fun _ => bnd2 (Mod_change v2 x89 x90 x91 h87) fun x93 h92 => (if x88 = x93 then L_law_j1134 L xs v1 v2 s.1 h92 else none), (chk s.2 v1 10).bind fun _ => bnd2 (Sp_round v1 s.2) fun x95 h94 => (chk h94 v2 11).bind fun _ => bnd2 (Mod_round v2 h94) fun x97 h96 => (if x95 = x97 then L_law_j1134 L xs v1 v2 s.1 h96 else none), (sld L xs (s.1 + 1)).bind fun x98 => (chk s.2 v1 10).bind fun _ => bnd2 (Sp_go v1 x98 s.2) fun x100 h99 => (sld L xs (s.1 + 1)).bind fun x101 => (chk h99 v2 11).bind fun _ => bnd2 (Mod_go v2 x101 h99) fun x103 h102 => (if x100 = x103 then L_law_j1134 L xs v1 v2 s.1 h102 else none), (chk s.2 v1 10).bind fun _ => bnd2 (Sp_clear v1 s.2) fun x105 h104 => (chk h104 v2 11).bind fun _ => bnd2 (Mod_clear v2 h104) fun x107 h106 => (if x105 = x107 then L_law_j1134 L xs v1 v2 s.1 h106 else none), (chk s.2 v1 10).bind fun _ => bnd2 (Sp_undo v1 s.2) fun x109 h108 => (chk h108 v2 11).bind fun _ => bnd2 (Mod_undo v2 h108) fun x111 h110 => (if x109 = x111 then L_law_j1134 L xs v1 v2 s.1 h110 else none), (sld L xs (s.1 + 1)).bind fun x112 => (sld L xs (s.1 + 2)).bind fun x113 => (chk s.2 v1 10).bind fun _ => bnd2 (Sp_of v1 x112 x113 s.2) fun x115 h114 => (sld L xs (s.1 + 1)).bind fun x116 => (sld L xs (s.1 + 2)).bind fun x117 => (chk h114 v2 11).bind fun _ => bnd2 (Mod_of v2 x116 x117 h114) fun x119 h118 => (if x115 = x119 then L_law_j1134 L xs v1 v2 s.1 h118 else none), (sld L xs (s.1 + 1)).bind fun x120 => (sld L xs (s.1 + 2)).bind fun x121 => (chk s.2 v1 10).bind fun _ => bnd2 (Sp_told v1 x120 x121 s.2) fun x123 h122 => (sld L xs (s.1 + 1)).bind fun x124 => (sld L xs (s.1 + 2)).bind fun x125 => (chk h122 v2 11).bind fun _ => bnd2 (Mod_told v2 x124 x125 h122) fun x127 h126 => (if x123 = x127 then L_law_j1134 L xs v1 v2 s.1 h126 else none), (sld L xs (s.1 + 1)).bind fun x128 => (chk s.2 v1 10).bind fun _ => bnd2 (Sp_now v1 x128 s.2) fun x130 h129 => (sld L xs (s.1 + 1)).bind fun x131 => (chk h129 v2 11).bind fun _ => bnd2 (Mod_now v2 x131 h129) fun x133 h132 => (if x130 = x133 then L_law_j1134 L xs v1 v2 s.1 h132 else none), (chk s.2 v1 10).bind fun _ => bnd2 (Sp_gap v1 s.2) fun x135 h134 => (chk h134 v2 11).bind fun _ => bnd2 (Mod_gap v2 h134) fun x137 h136 => (if x135 = x137 then L_law_j1134 L xs v1 v2 s.1 h136 else none), (sld L xs (s.1 + 1)).bind fun x138 => (sld L xs (s.1 + 2)).bind fun x139 => (chk s.2 v1 10).bind fun _ => bnd2 (Sp_cut v1 x138 x139 s.2) fun x141 h140 => (sld L xs (s.1 + 1)).bind fun x142 => (sld L xs (s.1 + 2)).bind fun x143 => (chk h140 v2 11).bind fun _ => bnd2 (Mod_cut v2 x142 x143 h140) fun x145 h144 => (if x141 = x145 then L_law_j1134 L xs v1 v2 s.1 h144 else none), (sld L xs (s.1 + 1)).bind fun x146 => (sld L xs (s.1 + 2)).bind fun x147 => (chk s.2 v1 10).bind fun _ => bnd2 (Sp_tells v1 x146 x147 s.2) fun x149 h148 => (sld L xs (s.1 + 1)).bind fun x150 => (sld L xs (s.1 + 2)).bind fun x151 => (chk h148 v2 11).bind fun _ => bnd2 (Mod_tells_ v2 x150 x151 h148) fun x153 h152 => (if x149 = x153 then L_law_j1134 L xs v1 v2 s.1 h152 else none), (sld L xs (s.1 + 1)).bind fun x154 => (chk s.2 v1 10).bind fun _ => bnd2 (Sp_exact v1 x154 s.2) fun x156 h155 => (sld L xs (s.1 + 1)).bind fun x157 => (chk h155 v2 11).bind fun _ => bnd2 (Mod_exact v2 x157 h155) fun x159 h158 => (if x156 = x159 then L_law_j1134 L xs v1 v2 s.1 h158 else none), (sld L xs (s.1 + 1)).bind fun x160 => (sld L xs (s.1 + 2)).bind fun x161 => (chk s.2 v1 10).bind fun _ => bnd2 (Sp_price v1 x160 x161 s.2) fun x163 h162 => (sld L xs (s.1 + 1)).bind fun x164 => (sld L xs (s.1 + 2)).bind fun x165 => (chk h162 v2 11).bind fun _ => bnd2 (Mod_price v2 x164 x165 h162) fun x167 h166 => (if x163 = x167 then L_law_j1134 L xs v1 v2 s.1 h166 else none), (sld L xs (s.1 + 1)).bind fun x168 => (sld L xs (s.1 + 2)).bind fun x169 => (chk s.2 v1 10).bind fun _ => bnd2 (Sp_lack v1 x168 x169 s.2) fun x171 h170 => (sld L xs (s.1 + 1)).bind fun x172 => (sld L xs (s.1 + 2)).bind fun x173 => (chk h170 v2 11).bind fun _ => bnd2 (Mod_lack v2 x172 x173 h170) fun x175 h174 => (if x171 = x175 then L_law_j1134 L xs v1 v2 s.1 h174 else none), (sld L xs (s.1 + 1)).bind fun x176 => (sld L xs (s.1 + 2)).bind fun x177 => (sld L xs (s.1 + 3)).bind fun x178 => (chk s.2 v1 10).bind fun _ => bnd2 (Sp_rate v1 x176 x177 x178 s.2) fun x180 h179 => (sld L xs (s.1 + 1)).bind fun x181 => (sld L xs (s.1 + 2)).bind fun x182 => (sld L xs (s.1 + 3)).bind fun x183 => (chk h179 v2 11).bind fun _ => bnd2 (Mod_rate v2 x181 x182 x183 h179) fun x185 h184 => (if x180 = x185 then L_law_j1134 L xs v1 v2 s.1 h184 else none), (sld L xs (s.1 + 1)).bind fun x186 => (chk s.2 v1 10).bind fun _ => bnd2 (Sp_floor v1 x186 s.2) fun x188 h187 => (sld L xs (s.1 + 1)).bind fun x189 => (chk h187 v2 11).bind fun _ => bnd2 (Mod_floor v2 x189 h187) fun x191 h190 => (if x188 = x191 then L_law_j1134 L xs v1 v2 s.1 h190 else none), (sld L xs (s.1 + 1)).bind fun x192 => (chk s.2 v1 10).bind fun _ => bnd2 (Sp_total v1 x192 s.2) fun x194 h193 => (sld L xs (s.1 + 1)).bind fun x195 => (chk h193 v2 11).bind fun _ => bnd2 (Mod_total v2 x195 h193) fun x197 h196 => (if x194 = x197 then L_law_j1134 L xs v1 v2 s.1 h196 else none), (sld L xs (s.1 + 1)).bind fun x198 => (chk s.2 v1 10).bind fun _ => bnd2 (Sp_least v1 x198 s.2) fun x200 h199 => (sld L xs (s.1 + 1)).bind fun x201 => (chk h199 v2 11).bind fun _ => bnd2 (Mod_least v2 x201 h199) fun x203 h202 => (if x200 = x203 then L_law_j1134 L xs v1 v2 s.1 h202 else none), (sld L xs (s.1 + 1)).bind fun x204 => (chk s.2 v1 10).bind fun _ => bnd2 (Sp_regret v1 x204 s.2) fun x206 h205 => (sld L xs (s.1 + 1)).bind fun x207 => (chk h205 v2 11).bind fun _ => bnd2 (Mod_regret v2 x207 h205) fun x209 h208 => (if x206 = x209 then L_law_j1134 L xs v1 v2 s.1 h208 else none), (sld L xs (s.1 + 1)).bind fun x210 => (chk s.2 v1 10).bind fun _ => bnd2 (Sp_mean v1 x210 s.2) fun x212 h211 => (sld L xs (s.1 + 1)).bind fun x213 => (chk h211 v2 11).bind fun _ => bnd2 (Mod_mean v2 x213 h211) fun x215 h214 => (if (lg_cmp x212 x215) = 0 then L_law_j1134 L xs v1 v2 s.1 h214 else none), (sld L xs (s.1 + 1)).bind fun x216 => (sld L xs (s.1 + 2)).bind fun x217 => (chk s.2 v1 10).bind fun _ => bnd2 (Sp_would v1 x216 x217 s.2) fun x219 h218 => (sld L xs (s.1 + 1)).bind fun x220 => (sld L xs (s.1 + 2)).bind fun x221 => (chk h218 v2 11).bind fun _ => bnd2 (Mod_would v2 x220 x221 h218) fun x223 h222 => (if x219 = x223 then L_law_j1134 L xs v1 v2 s.1 h222 else none), (sld L xs (s.1 + 1)).bind fun x224 => (chk s.2 v1 10).bind fun _ => bnd2 (Sp_image v1 x224 s.2) fun x226 h225 => (sld L xs (s.1 + 1)).bind fun x227 => (chk h225 v2 11).bind fun _ => bnd2 (Mod_image v2 x227 h225) fun x229 h228 => (if x226 = x229 then L_law_j1134 L xs v1 v2 s.1 h228 else none), (sld L xs (s.1 + 1)).bind fun x230 => (chk s.2 v1 10).bind fun _ => bnd2 (Sp_back v1 x230 s.2) fun x232 h231 => (sld L xs (s.1 + 1)).bind fun x233 => (chk h231 v2 11).bind fun _ => bnd2 (Mod_back v2 x233 h231) fun x235 h234 => (if x232 = x235 then L_law_j1134 L xs v1 v2 s.1 h234 else none), (sld L xs (s.1 + 1)).bind fun x236 => (chk s.2 v1 10).bind fun _ => bnd2 (Sp_count v1 x236 s.2) fun x238 h237 => (sld L xs (s.1 + 1)).bind fun x239 => (chk h237 v2 11).bind fun _ => bnd2 (Mod_count v2 x239 h237) fun x241 h240 => (if x238 = x241 then L_law_j1134 L xs v1 v2 s.1 h240 else none), (chk s.2 v1 10).bind fun _ => bnd2 (Sp_status v1 s.2) fun x243 h242 => (chk h242 v2 11).bind fun _ => bnd2 (Mod_status v2 h242) fun x245 h244 => (if x243 = x245 then L_law_j1134 L xs v1 v2 s.1 h244 else none)] (L_law_j1134 L xs v1 v2 s.1 s.2))
theorem L_law_b18_J {E : JE} {l : Launch} {G : GX} {r : Option Value} {h' : AHeap} {b L : Nat} {xs : Nat → Int32} (ok : JOK E l G kL_law 292 38409 r h') (hX : EX E b L xs) (v1 : Nat) (v2 : Nat) {Y : (Int32 × AHeap) ⊕ ((Int32 × AHeap)) → Prop} (k1 : ∀ s' : Int32 × AHeap, Y (.inl s') → JW E kL_law 18 [some (.ref (FB + 11)), some (.ref v1), some (.ref v2), some (.int s'.1)] [] s'.2 292 38409) (kx1140 : ∀ q : Int32 × AHeap, Y (.inr q) → JW E kL_law 1140 [some (.ref (FB + 11)), some (.ref v1), some (.ref v2), some (.int q.1)] [] q.2 292 38409) (s : Int32 × AHeap) : J E kL_law (L_law_b18 L xs v1 v2 s) Y 18 [some (.ref (FB + 11)), some (.ref v1), some (.ref v2), some (.int s.1)] [] s.2 292 38409 := by
  unfold L_law_b18
  refine J_iload_n (pc' := 19) ok (dOf dL_law_0 10 rfl) rfl rfl rfl ?_
  refine J_aload_n (pc' := 20) ok (dOf dL_law_0 11 rfl) rfl rfl rfl ?_
  refine J_slen hX (pc' := 21) ok (dOf dL_law_0 12 rfl) rfl ?_
  refine J_bipush (v := 6) (pc' := 23) ok (dOf dL_law_0 13 rfl) rfl (by decide) ?_
  refine J_isub (pc' := 24) ok (dOf dL_law_0 14 rfl) rfl ?_
  refine J_icmp_gt (tgt := 1140) (pc' := 27) ok (dOf dL_law_0 15 rfl) rfl (by decide) ?_ ?_
  · exact J_fin (kx1140 (s.1, s.2))
  · refine J_aload_n (pc' := 28) ok (dOf dL_law_0 16 rfl) rfl rfl rfl ?_
    refine J_iload_n (pc' := 29) ok (dOf dL_law_0 17 rfl) rfl rfl rfl ?_
    refine J_sld hX (pc' := 30) ok (dOf dL_law_0 18 rfl) rfl (fun x7 => ?_)
    refine J_bipush (v := 63) (pc' := 32) ok (dOf dL_law_0 19 rfl) rfl (by decide) ?_
    refine J_iand (pc' := 33) ok (dOf dL_law_0 20 rfl) rfl ?_
    refine J_tsw (tgd := 1134) ok [188, 221, 284, 307, 320, 333, 376, 389, 432, 455, 498, 541, 554, 577, 590, 603, 636, 669, 692, 705, 738, 771, 794, 827, 860, 903, 926, 949, 972, 995, 1019, 1052, 1075, 1098, 1121] (dOf dL_law_0 21 rfl) rfl rfl (by decide) rfl ?_ (allJ_at _ _ ⟨?_, ?_, ?_, ?_, ?_, ?_, ?_, ?_, ?_, ?_, ?_, ?_, ?_, ?_, ?_, ?_, ?_, ?_, ?_, ?_, ?_, ?_, ?_, ?_, ?_, ?_, ?_, ?_, ?_, ?_, ?_, ?_, ?_, ?_, ?_, trivial⟩)
    · exact L_law_j1134_J ok hX v1 v2 s.1 s.2 k1 kx1140
    · refine J_aload_n (pc' := 189) ok (dOf dL_law_0 22 rfl) rfl rfl rfl ?_
      refine J_aload_n (pc' := 190) ok (dOf dL_law_0 23 rfl) rfl rfl rfl ?_
      refine J_iload_n (pc' := 191) ok (dOf dL_law_0 24 rfl) rfl rfl rfl ?_
      refine J_iconst (v := 1) (pc' := 192) ok (dOf dL_law_1 0 rfl) rfl (by decide) ?_
      refine J_iadd (pc' := 193) ok (dOf dL_law_1 1 rfl) rfl ?_
      refine J_sld hX (pc' := 194) ok (dOf dL_law_1 2 rfl) rfl (fun x8 => ?_)
      refine J_aload_n (pc' := 195) ok (dOf dL_law_1 3 rfl) rfl rfl rfl ?_
      refine J_iload_n (pc' := 196) ok (dOf dL_law_1 4 rfl) rfl rfl rfl ?_
      refine J_iconst (v := 2) (pc' := 197) ok (dOf dL_law_1 5 rfl) rfl (by decide) ?_
      refine J_iadd (pc' := 198) ok (dOf dL_law_1 6 rfl) rfl ?_
      refine J_sld hX (pc' := 199) ok (dOf dL_law_1 7 rfl) rfl (fun x9 => ?_)
      refine J_callVi (k2 := kSp_terms) (ci := 10) (T := TX10) (N := 14) (as := [.int x8, .int x9]) (pc' := 202) ok (dOf dL_law_1 8 rfl) rfl (cw_Sp_terms (by decide) (by decide)) wml_L_13 winst_X10_terms wsel_X10_terms rfl ⟨by decide, by decide⟩ (Nat.le_of_ble_eq_true rfl) rfl (fun _ _ hf => t_Sp_terms hf) (fun x11 h10 => ?_)
      refine J_aload_n (pc' := 203) ok (dOf dL_law_1 9 rfl) rfl rfl rfl ?_
      refine J_aload_n (pc' := 204) ok (dOf dL_law_1 10 rfl) rfl rfl rfl ?_
      refine J_iload_n (pc' := 205) ok (dOf dL_law_1 11 rfl) rfl rfl rfl ?_
      refine J_iconst (v := 1) (pc' := 206) ok (dOf dL_law_1 12 rfl) rfl (by decide) ?_
      refine J_iadd (pc' := 207) ok (dOf dL_law_1 13 rfl) rfl ?_
      refine J_sld hX (pc' := 208) ok (dOf dL_law_1 14 rfl) rfl (fun x12 => ?_)
      refine J_aload_n (pc' := 209) ok (dOf dL_law_1 15 rfl) rfl rfl rfl ?_
      refine J_iload_n (pc' := 210) ok (dOf dL_law_1 16 rfl) rfl rfl rfl ?_
      refine J_iconst (v := 2) (pc' := 211) ok (dOf dL_law_1 17 rfl) rfl (by decide) ?_
      refine J_iadd (pc' := 212) ok (dOf dL_law_1 18 rfl) rfl ?_
      refine J_sld hX (pc' := 213) ok (dOf dL_law_1 19 rfl) rfl (fun x13 => ?_)
      refine J_callVi (k2 := kMod_terms) (ci := 11) (T := TX11) (N := 29) (as := [.int x12, .int x13]) (pc' := 216) ok (dOf dL_law_1 20 rfl) rfl (cw_Mod_terms (by decide) (by decide)) wml_L_17 winst_X11_terms wsel_X11_terms rfl ⟨by decide, by decide⟩ (Nat.le_of_ble_eq_true rfl) rfl (fun _ _ hf => t_Mod_terms hf) (fun x15 h14 => ?_)
      refine J_icmp_eq (tgt := 1134) (pc' := 219) ok (dOf dL_law_1 21 rfl) rfl (by decide) ?_ ?_
      · exact L_law_j1134_J ok hX v1 v2 s.1 h14 k1 kx1140
      · exact fun z hz _ => by cases hz
    · refine J_aload_n (pc' := 222) ok (dOf dL_law_1 24 rfl) rfl rfl rfl ?_
      refine J_aload_n (pc' := 223) ok (dOf dL_law_2 0 rfl) rfl rfl rfl ?_
      refine J_iload_n (pc' := 224) ok (dOf dL_law_2 1 rfl) rfl rfl rfl ?_
      refine J_iconst (v := 1) (pc' := 225) ok (dOf dL_law_2 2 rfl) rfl (by decide) ?_
      refine J_iadd (pc' := 226) ok (dOf dL_law_2 3 rfl) rfl ?_
      refine J_sld hX (pc' := 227) ok (dOf dL_law_2 4 rfl) rfl (fun x16 => ?_)
      refine J_aload_n (pc' := 228) ok (dOf dL_law_2 5 rfl) rfl rfl rfl ?_
      refine J_iload_n (pc' := 229) ok (dOf dL_law_2 6 rfl) rfl rfl rfl ?_
      refine J_iconst (v := 2) (pc' := 230) ok (dOf dL_law_2 7 rfl) rfl (by decide) ?_
      refine J_iadd (pc' := 231) ok (dOf dL_law_2 8 rfl) rfl ?_
      refine J_sld hX (pc' := 232) ok (dOf dL_law_2 9 rfl) rfl (fun x17 => ?_)
      refine J_aload_n (pc' := 233) ok (dOf dL_law_2 10 rfl) rfl rfl rfl ?_
      refine J_iload_n (pc' := 234) ok (dOf dL_law_2 11 rfl) rfl rfl rfl ?_
      refine J_iconst (v := 3) (pc' := 235) ok (dOf dL_law_2 12 rfl) rfl (by decide) ?_
      refine J_iadd (pc' := 236) ok (dOf dL_law_2 13 rfl) rfl ?_
      refine J_sld hX (pc' := 237) ok (dOf dL_law_2 14 rfl) rfl (fun x18 => ?_)
      refine J_aload_n (pc' := 238) ok (dOf dL_law_2 15 rfl) rfl rfl rfl ?_
      refine J_iload_n (pc' := 239) ok (dOf dL_law_2 16 rfl) rfl rfl rfl ?_
      refine J_iconst (v := 4) (pc' := 240) ok (dOf dL_law_2 17 rfl) rfl (by decide) ?_
      refine J_iadd (pc' := 241) ok (dOf dL_law_2 18 rfl) rfl ?_
      refine J_sld hX (pc' := 242) ok (dOf dL_law_2 19 rfl) rfl (fun x19 => ?_)
      refine J_aload_n (pc' := 243) ok (dOf dL_law_2 20 rfl) rfl rfl rfl ?_
      refine J_iload_n (pc' := 244) ok (dOf dL_law_2 21 rfl) rfl rfl rfl ?_
      refine J_iconst (v := 5) (pc' := 245) ok (dOf dL_law_2 22 rfl) rfl (by decide) ?_
      refine J_iadd (pc' := 246) ok (dOf dL_law_2 23 rfl) rfl ?_
      refine J_sld hX (pc' := 247) ok (dOf dL_law_2 24 rfl) rfl (fun x20 => ?_)
      refine J_callVi (k2 := kSp_feed) (ci := 10) (T := TX10) (N := 14) (as := [.int x16, .int x17, .int x18, .int x19, .int x20]) (pc' := 250) ok (dOf dL_law_3 0 rfl) rfl (cw_Sp_feed (by decide) (by decide)) wml_L_18 winst_X10_feed wsel_X10_feed rfl ⟨by decide, by decide⟩ (Nat.le_of_ble_eq_true rfl) rfl (fun _ _ hf => t_Sp_feed hf) (fun x22 h21 => ?_)
      refine J_aload_n (pc' := 251) ok (dOf dL_law_3 1 rfl) rfl rfl rfl ?_
      refine J_aload_n (pc' := 252) ok (dOf dL_law_3 2 rfl) rfl rfl rfl ?_
      refine J_iload_n (pc' := 253) ok (dOf dL_law_3 3 rfl) rfl rfl rfl ?_
      refine J_iconst (v := 1) (pc' := 254) ok (dOf dL_law_3 4 rfl) rfl (by decide) ?_
      refine J_iadd (pc' := 255) ok (dOf dL_law_3 5 rfl) rfl ?_
      refine J_sld hX (pc' := 256) ok (dOf dL_law_3 6 rfl) rfl (fun x23 => ?_)
      refine J_aload_n (pc' := 257) ok (dOf dL_law_3 7 rfl) rfl rfl rfl ?_
      refine J_iload_n (pc' := 258) ok (dOf dL_law_3 8 rfl) rfl rfl rfl ?_
      refine J_iconst (v := 2) (pc' := 259) ok (dOf dL_law_3 9 rfl) rfl (by decide) ?_
      refine J_iadd (pc' := 260) ok (dOf dL_law_3 10 rfl) rfl ?_
      refine J_sld hX (pc' := 261) ok (dOf dL_law_3 11 rfl) rfl (fun x24 => ?_)
      refine J_aload_n (pc' := 262) ok (dOf dL_law_3 12 rfl) rfl rfl rfl ?_
      refine J_iload_n (pc' := 263) ok (dOf dL_law_3 13 rfl) rfl rfl rfl ?_
      refine J_iconst (v := 3) (pc' := 264) ok (dOf dL_law_3 14 rfl) rfl (by decide) ?_
      refine J_iadd (pc' := 265) ok (dOf dL_law_3 15 rfl) rfl ?_
      refine J_sld hX (pc' := 266) ok (dOf dL_law_3 16 rfl) rfl (fun x25 => ?_)
      refine J_aload_n (pc' := 267) ok (dOf dL_law_3 17 rfl) rfl rfl rfl ?_
      refine J_iload_n (pc' := 268) ok (dOf dL_law_3 18 rfl) rfl rfl rfl ?_
      refine J_iconst (v := 4) (pc' := 269) ok (dOf dL_law_3 19 rfl) rfl (by decide) ?_
      refine J_iadd (pc' := 270) ok (dOf dL_law_3 20 rfl) rfl ?_
      refine J_sld hX (pc' := 271) ok (dOf dL_law_3 21 rfl) rfl (fun x26 => ?_)
      refine J_aload_n (pc' := 272) ok (dOf dL_law_3 22 rfl) rfl rfl rfl ?_
      refine J_iload_n (pc' := 273) ok (dOf dL_law_3 23 rfl) rfl rfl rfl ?_
      refine J_iconst (v := 5) (pc' := 274) ok (dOf dL_law_3 24 rfl) rfl (by decide) ?_
      refine J_iadd (pc' := 275) ok (dOf dL_law_4 0 rfl) rfl ?_
      refine J_sld hX (pc' := 276) ok (dOf dL_law_4 1 rfl) rfl (fun x27 => ?_)
      refine J_callVi (k2 := kMod_feed) (ci := 11) (T := TX11) (N := 29) (as := [.int x23, .int x24, .int x25, .int x26, .int x27]) (pc' := 279) ok (dOf dL_law_4 2 rfl) rfl (cw_Mod_feed (by decide) (by decide)) wml_L_22 winst_X11_feed wsel_X11_feed rfl ⟨by decide, by decide⟩ (Nat.le_of_ble_eq_true rfl) rfl (fun _ _ hf => t_Mod_feed hf) (fun x29 h28 => ?_)
      refine J_icmp_eq (tgt := 1134) (pc' := 282) ok (dOf dL_law_4 3 rfl) rfl (by decide) ?_ ?_
      · exact L_law_j1134_J ok hX v1 v2 s.1 h28 k1 kx1140
      · exact fun z hz _ => by cases hz
    · refine J_aload_n (pc' := 285) ok (dOf dL_law_4 6 rfl) rfl rfl rfl ?_
      refine J_aload_n (pc' := 286) ok (dOf dL_law_4 7 rfl) rfl rfl rfl ?_
      refine J_iload_n (pc' := 287) ok (dOf dL_law_4 8 rfl) rfl rfl rfl ?_
      refine J_iconst (v := 1) (pc' := 288) ok (dOf dL_law_4 9 rfl) rfl (by decide) ?_
      refine J_iadd (pc' := 289) ok (dOf dL_law_4 10 rfl) rfl ?_
      refine J_sld hX (pc' := 290) ok (dOf dL_law_4 11 rfl) rfl (fun x30 => ?_)
      refine J_callVi (k2 := kSp_end) (ci := 10) (T := TX10) (N := 14) (as := [.int x30]) (pc' := 293) ok (dOf dL_law_4 12 rfl) rfl (cw_Sp_end (by decide) (by decide)) wml_L_23 winst_X10_end wsel_X10_end rfl ⟨by decide, by decide⟩ (Nat.le_of_ble_eq_true rfl) rfl (fun _ _ hf => t_Sp_end hf) (fun x32 h31 => ?_)
      refine J_aload_n (pc' := 294) ok (dOf dL_law_4 13 rfl) rfl rfl rfl ?_
      refine J_aload_n (pc' := 295) ok (dOf dL_law_4 14 rfl) rfl rfl rfl ?_
      refine J_iload_n (pc' := 296) ok (dOf dL_law_4 15 rfl) rfl rfl rfl ?_
      refine J_iconst (v := 1) (pc' := 297) ok (dOf dL_law_4 16 rfl) rfl (by decide) ?_
      refine J_iadd (pc' := 298) ok (dOf dL_law_4 17 rfl) rfl ?_
      refine J_sld hX (pc' := 299) ok (dOf dL_law_4 18 rfl) rfl (fun x33 => ?_)
      refine J_callVi (k2 := kMod_end) (ci := 11) (T := TX11) (N := 29) (as := [.int x33]) (pc' := 302) ok (dOf dL_law_4 19 rfl) rfl (cw_Mod_end (by decide) (by decide)) wml_L_27 winst_X11_end wsel_X11_end rfl ⟨by decide, by decide⟩ (Nat.le_of_ble_eq_true rfl) rfl (fun _ _ hf => t_Mod_end hf) (fun x35 h34 => ?_)
      refine J_icmp_eq (tgt := 1134) (pc' := 305) ok (dOf dL_law_4 20 rfl) rfl (by decide) ?_ ?_
      · exact L_law_j1134_J ok hX v1 v2 s.1 h34 k1 kx1140
      · exact fun z hz _ => by cases hz
    · refine J_aload_n (pc' := 308) ok (dOf dL_law_4 23 rfl) rfl rfl rfl ?_
      refine J_callVi (k2 := kSp_read) (ci := 10) (T := TX10) (N := 14) (as := []) (pc' := 311) ok (dOf dL_law_4 24 rfl) rfl (cw_Sp_read (by decide) (by decide)) wml_L_28 winst_X10_read wsel_X10_read rfl ⟨by decide, by decide⟩ (Nat.le_of_ble_eq_true rfl) rfl (fun _ _ hf => t_Sp_read hf) (fun x37 h36 => ?_)
      refine J_aload_n (pc' := 312) ok (dOf dL_law_5 0 rfl) rfl rfl rfl ?_
      refine J_callVi (k2 := kMod_read) (ci := 11) (T := TX11) (N := 29) (as := []) (pc' := 315) ok (dOf dL_law_5 1 rfl) rfl (cw_Mod_read (by decide) (by decide)) wml_L_32 winst_X11_read wsel_X11_read rfl ⟨by decide, by decide⟩ (Nat.le_of_ble_eq_true rfl) rfl (fun _ _ hf => t_Mod_read hf) (fun x39 h38 => ?_)
      refine J_icmp_eq (tgt := 1134) (pc' := 318) ok (dOf dL_law_5 2 rfl) rfl (by decide) ?_ ?_
      · exact L_law_j1134_J ok hX v1 v2 s.1 h38 k1 kx1140
      · exact fun z hz _ => by cases hz
    · refine J_aload_n (pc' := 321) ok (dOf dL_law_5 5 rfl) rfl rfl rfl ?_
      refine J_callVi (k2 := kSp_fault) (ci := 10) (T := TX10) (N := 14) (as := []) (pc' := 324) ok (dOf dL_law_5 6 rfl) rfl (cw_Sp_fault (by decide) (by decide)) wml_L_33 winst_X10_fault wsel_X10_fault rfl ⟨by decide, by decide⟩ (Nat.le_of_ble_eq_true rfl) rfl (fun _ _ hf => t_Sp_fault hf) (fun x41 h40 => ?_)
      refine J_aload_n (pc' := 325) ok (dOf dL_law_5 7 rfl) rfl rfl rfl ?_
      refine J_callVi (k2 := kMod_fault) (ci := 11) (T := TX11) (N := 29) (as := []) (pc' := 328) ok (dOf dL_law_5 8 rfl) rfl (cw_Mod_fault (by decide) (by decide)) wml_L_36 winst_X11_fault wsel_X11_fault rfl ⟨by decide, by decide⟩ (Nat.le_of_ble_eq_true rfl) rfl (fun _ _ hf => t_Mod_fault hf) (fun x43 h42 => ?_)
      refine J_icmp_eq (tgt := 1134) (pc' := 331) ok (dOf dL_law_5 9 rfl) rfl (by decide) ?_ ?_
      · exact L_law_j1134_J ok hX v1 v2 s.1 h42 k1 kx1140
      · exact fun z hz _ => by cases hz
    · refine J_aload_n (pc' := 334) ok (dOf dL_law_5 12 rfl) rfl rfl rfl ?_
      refine J_aload_n (pc' := 335) ok (dOf dL_law_5 13 rfl) rfl rfl rfl ?_
      refine J_iload_n (pc' := 336) ok (dOf dL_law_5 14 rfl) rfl rfl rfl ?_
      refine J_iconst (v := 1) (pc' := 337) ok (dOf dL_law_5 15 rfl) rfl (by decide) ?_
      refine J_iadd (pc' := 338) ok (dOf dL_law_5 16 rfl) rfl ?_
      refine J_sld hX (pc' := 339) ok (dOf dL_law_5 17 rfl) rfl (fun x44 => ?_)
      refine J_aload_n (pc' := 340) ok (dOf dL_law_5 18 rfl) rfl rfl rfl ?_
      refine J_iload_n (pc' := 341) ok (dOf dL_law_5 19 rfl) rfl rfl rfl ?_
      refine J_iconst (v := 2) (pc' := 342) ok (dOf dL_law_5 20 rfl) rfl (by decide) ?_
      refine J_iadd (pc' := 343) ok (dOf dL_law_5 21 rfl) rfl ?_
      refine J_sld hX (pc' := 344) ok (dOf dL_law_5 22 rfl) rfl (fun x45 => ?_)
      refine J_aload_n (pc' := 345) ok (dOf dL_law_5 23 rfl) rfl rfl rfl ?_
      refine J_iload_n (pc' := 346) ok (dOf dL_law_5 24 rfl) rfl rfl rfl ?_
      refine J_iconst (v := 3) (pc' := 347) ok (dOf dL_law_6 0 rfl) rfl (by decide) ?_
      refine J_iadd (pc' := 348) ok (dOf dL_law_6 1 rfl) rfl ?_
      refine J_sld hX (pc' := 349) ok (dOf dL_law_6 2 rfl) rfl (fun x46 => ?_)
      refine J_callVi (k2 := kSp_plant) (ci := 10) (T := TX10) (N := 14) (as := [.int x44, .int x45, .int x46]) (pc' := 352) ok (dOf dL_law_6 3 rfl) rfl (cw_Sp_plant (by decide) (by decide)) wml_L_37 winst_X10_plant wsel_X10_plant rfl ⟨by decide, by decide⟩ (Nat.le_of_ble_eq_true rfl) rfl (fun _ _ hf => t_Sp_plant hf) (fun x48 h47 => ?_)
      refine J_aload_n (pc' := 353) ok (dOf dL_law_6 4 rfl) rfl rfl rfl ?_
      refine J_aload_n (pc' := 354) ok (dOf dL_law_6 5 rfl) rfl rfl rfl ?_
      refine J_iload_n (pc' := 355) ok (dOf dL_law_6 6 rfl) rfl rfl rfl ?_
      refine J_iconst (v := 1) (pc' := 356) ok (dOf dL_law_6 7 rfl) rfl (by decide) ?_
      refine J_iadd (pc' := 357) ok (dOf dL_law_6 8 rfl) rfl ?_
      refine J_sld hX (pc' := 358) ok (dOf dL_law_6 9 rfl) rfl (fun x49 => ?_)
      refine J_aload_n (pc' := 359) ok (dOf dL_law_6 10 rfl) rfl rfl rfl ?_
      refine J_iload_n (pc' := 360) ok (dOf dL_law_6 11 rfl) rfl rfl rfl ?_
      refine J_iconst (v := 2) (pc' := 361) ok (dOf dL_law_6 12 rfl) rfl (by decide) ?_
      refine J_iadd (pc' := 362) ok (dOf dL_law_6 13 rfl) rfl ?_
      refine J_sld hX (pc' := 363) ok (dOf dL_law_6 14 rfl) rfl (fun x50 => ?_)
      refine J_aload_n (pc' := 364) ok (dOf dL_law_6 15 rfl) rfl rfl rfl ?_
      refine J_iload_n (pc' := 365) ok (dOf dL_law_6 16 rfl) rfl rfl rfl ?_
      refine J_iconst (v := 3) (pc' := 366) ok (dOf dL_law_6 17 rfl) rfl (by decide) ?_
      refine J_iadd (pc' := 367) ok (dOf dL_law_6 18 rfl) rfl ?_
      refine J_sld hX (pc' := 368) ok (dOf dL_law_6 19 rfl) rfl (fun x51 => ?_)
      refine J_callVi (k2 := kMod_plant) (ci := 11) (T := TX11) (N := 29) (as := [.int x49, .int x50, .int x51]) (pc' := 371) ok (dOf dL_law_6 20 rfl) rfl (cw_Mod_plant (by decide) (by decide)) wml_L_41 winst_X11_plant wsel_X11_plant rfl ⟨by decide, by decide⟩ (Nat.le_of_ble_eq_true rfl) rfl (fun _ _ hf => t_Mod_plant hf) (fun x53 h52 => ?_)
      refine J_icmp_eq (tgt := 1134) (pc' := 374) ok (dOf dL_law_6 21 rfl) rfl (by decide) ?_ ?_
      · exact L_law_j1134_J ok hX v1 v2 s.1 h52 k1 kx1140
      · exact fun z hz _ => by cases hz
    · refine J_aload_n (pc' := 377) ok (dOf dL_law_6 24 rfl) rfl rfl rfl ?_
      refine J_callVi (k2 := kSp_site) (ci := 10) (T := TX10) (N := 14) (as := []) (pc' := 380) ok (dOf dL_law_7 0 rfl) rfl (cw_Sp_site (by decide) (by decide)) wml_L_42 winst_X10_site wsel_X10_site rfl ⟨by decide, by decide⟩ (Nat.le_of_ble_eq_true rfl) rfl (fun _ _ hf => t_Sp_site hf) (fun x55 h54 => ?_)
      refine J_aload_n (pc' := 381) ok (dOf dL_law_7 1 rfl) rfl rfl rfl ?_
      refine J_callVi (k2 := kMod_site) (ci := 11) (T := TX11) (N := 29) (as := []) (pc' := 384) ok (dOf dL_law_7 2 rfl) rfl (cw_Mod_site (by decide) (by decide)) wml_L_45 winst_X11_site wsel_X11_site rfl ⟨by decide, by decide⟩ (Nat.le_of_ble_eq_true rfl) rfl (fun _ _ hf => t_Mod_site hf) (fun x57 h56 => ?_)
      refine J_icmp_eq (tgt := 1134) (pc' := 387) ok (dOf dL_law_7 3 rfl) rfl (by decide) ?_ ?_
      · exact L_law_j1134_J ok hX v1 v2 s.1 h56 k1 kx1140
      · exact fun z hz _ => by cases hz
    · refine J_aload_n (pc' := 390) ok (dOf dL_law_7 6 rfl) rfl rfl rfl ?_
      refine J_aload_n (pc' := 391) ok (dOf dL_law_7 7 rfl) rfl rfl rfl ?_
      refine J_iload_n (pc' := 392) ok (dOf dL_law_7 8 rfl) rfl rfl rfl ?_
      refine J_iconst (v := 1) (pc' := 393) ok (dOf dL_law_7 9 rfl) rfl (by decide) ?_
      refine J_iadd (pc' := 394) ok (dOf dL_law_7 10 rfl) rfl ?_
      refine J_sld hX (pc' := 395) ok (dOf dL_law_7 11 rfl) rfl (fun x58 => ?_)
      refine J_aload_n (pc' := 396) ok (dOf dL_law_7 12 rfl) rfl rfl rfl ?_
      refine J_iload_n (pc' := 397) ok (dOf dL_law_7 13 rfl) rfl rfl rfl ?_
      refine J_iconst (v := 2) (pc' := 398) ok (dOf dL_law_7 14 rfl) rfl (by decide) ?_
      refine J_iadd (pc' := 399) ok (dOf dL_law_7 15 rfl) rfl ?_
      refine J_sld hX (pc' := 400) ok (dOf dL_law_7 16 rfl) rfl (fun x59 => ?_)
      refine J_aload_n (pc' := 401) ok (dOf dL_law_7 17 rfl) rfl rfl rfl ?_
      refine J_iload_n (pc' := 402) ok (dOf dL_law_7 18 rfl) rfl rfl rfl ?_
      refine J_iconst (v := 3) (pc' := 403) ok (dOf dL_law_7 19 rfl) rfl (by decide) ?_
      refine J_iadd (pc' := 404) ok (dOf dL_law_7 20 rfl) rfl ?_
      refine J_sld hX (pc' := 405) ok (dOf dL_law_7 21 rfl) rfl (fun x60 => ?_)
      refine J_callVi (k2 := kSp_road) (ci := 10) (T := TX10) (N := 14) (as := [.int x58, .int x59, .int x60]) (pc' := 408) ok (dOf dL_law_7 22 rfl) rfl (cw_Sp_road (by decide) (by decide)) wml_L_46 winst_X10_road wsel_X10_road rfl ⟨by decide, by decide⟩ (Nat.le_of_ble_eq_true rfl) rfl (fun _ _ hf => t_Sp_road hf) (fun x62 h61 => ?_)
      refine J_aload_n (pc' := 409) ok (dOf dL_law_7 23 rfl) rfl rfl rfl ?_
      refine J_aload_n (pc' := 410) ok (dOf dL_law_7 24 rfl) rfl rfl rfl ?_
      refine J_iload_n (pc' := 411) ok (dOf dL_law_8 0 rfl) rfl rfl rfl ?_
      refine J_iconst (v := 1) (pc' := 412) ok (dOf dL_law_8 1 rfl) rfl (by decide) ?_
      refine J_iadd (pc' := 413) ok (dOf dL_law_8 2 rfl) rfl ?_
      refine J_sld hX (pc' := 414) ok (dOf dL_law_8 3 rfl) rfl (fun x63 => ?_)
      refine J_aload_n (pc' := 415) ok (dOf dL_law_8 4 rfl) rfl rfl rfl ?_
      refine J_iload_n (pc' := 416) ok (dOf dL_law_8 5 rfl) rfl rfl rfl ?_
      refine J_iconst (v := 2) (pc' := 417) ok (dOf dL_law_8 6 rfl) rfl (by decide) ?_
      refine J_iadd (pc' := 418) ok (dOf dL_law_8 7 rfl) rfl ?_
      refine J_sld hX (pc' := 419) ok (dOf dL_law_8 8 rfl) rfl (fun x64 => ?_)
      refine J_aload_n (pc' := 420) ok (dOf dL_law_8 9 rfl) rfl rfl rfl ?_
      refine J_iload_n (pc' := 421) ok (dOf dL_law_8 10 rfl) rfl rfl rfl ?_
      refine J_iconst (v := 3) (pc' := 422) ok (dOf dL_law_8 11 rfl) rfl (by decide) ?_
      refine J_iadd (pc' := 423) ok (dOf dL_law_8 12 rfl) rfl ?_
      refine J_sld hX (pc' := 424) ok (dOf dL_law_8 13 rfl) rfl (fun x65 => ?_)
      refine J_callVi (k2 := kMod_road) (ci := 11) (T := TX11) (N := 29) (as := [.int x63, .int x64, .int x65]) (pc' := 427) ok (dOf dL_law_8 14 rfl) rfl (cw_Mod_road (by decide) (by decide)) wml_L_49 winst_X11_road wsel_X11_road rfl ⟨by decide, by decide⟩ (Nat.le_of_ble_eq_true rfl) rfl (fun _ _ hf => t_Mod_road hf) (fun x67 h66 => ?_)
      refine J_icmp_eq (tgt := 1134) (pc' := 430) ok (dOf dL_law_8 15 rfl) rfl (by decide) ?_ ?_
      · exact L_law_j1134_J ok hX v1 v2 s.1 h66 k1 kx1140
      · exact fun z hz _ => by cases hz
    · refine J_aload_n (pc' := 433) ok (dOf dL_law_8 18 rfl) rfl rfl rfl ?_
      refine J_aload_n (pc' := 434) ok (dOf dL_law_8 19 rfl) rfl rfl rfl ?_
      refine J_iload_n (pc' := 435) ok (dOf dL_law_8 20 rfl) rfl rfl rfl ?_
      refine J_iconst (v := 1) (pc' := 436) ok (dOf dL_law_8 21 rfl) rfl (by decide) ?_
      refine J_iadd (pc' := 437) ok (dOf dL_law_8 22 rfl) rfl ?_
      refine J_sld hX (pc' := 438) ok (dOf dL_law_8 23 rfl) rfl (fun x68 => ?_)
      refine J_callVi (k2 := kSp_scene) (ci := 10) (T := TX10) (N := 14) (as := [.int x68]) (pc' := 441) ok (dOf dL_law_8 24 rfl) rfl (cw_Sp_scene (by decide) (by decide)) wml_L_50 winst_X10_scene wsel_X10_scene rfl ⟨by decide, by decide⟩ (Nat.le_of_ble_eq_true rfl) rfl (fun _ _ hf => t_Sp_scene hf) (fun x70 h69 => ?_)
      refine J_aload_n (pc' := 442) ok (dOf dL_law_9 0 rfl) rfl rfl rfl ?_
      refine J_aload_n (pc' := 443) ok (dOf dL_law_9 1 rfl) rfl rfl rfl ?_
      refine J_iload_n (pc' := 444) ok (dOf dL_law_9 2 rfl) rfl rfl rfl ?_
      refine J_iconst (v := 1) (pc' := 445) ok (dOf dL_law_9 3 rfl) rfl (by decide) ?_
      refine J_iadd (pc' := 446) ok (dOf dL_law_9 4 rfl) rfl ?_
      refine J_sld hX (pc' := 447) ok (dOf dL_law_9 5 rfl) rfl (fun x71 => ?_)
      refine J_callVi (k2 := kMod_scene) (ci := 11) (T := TX11) (N := 29) (as := [.int x71]) (pc' := 450) ok (dOf dL_law_9 6 rfl) rfl (cw_Mod_scene (by decide) (by decide)) wml_L_53 winst_X11_scene wsel_X11_scene rfl ⟨by decide, by decide⟩ (Nat.le_of_ble_eq_true rfl) rfl (fun _ _ hf => t_Mod_scene hf) (fun x73 h72 => ?_)
      refine J_icmp_eq (tgt := 1134) (pc' := 453) ok (dOf dL_law_9 7 rfl) rfl (by decide) ?_ ?_
      · exact L_law_j1134_J ok hX v1 v2 s.1 h72 k1 kx1140
      · exact fun z hz _ => by cases hz
    · refine J_aload_n (pc' := 456) ok (dOf dL_law_9 10 rfl) rfl rfl rfl ?_
      refine J_aload_n (pc' := 457) ok (dOf dL_law_9 11 rfl) rfl rfl rfl ?_
      refine J_iload_n (pc' := 458) ok (dOf dL_law_9 12 rfl) rfl rfl rfl ?_
      refine J_iconst (v := 1) (pc' := 459) ok (dOf dL_law_9 13 rfl) rfl (by decide) ?_
      refine J_iadd (pc' := 460) ok (dOf dL_law_9 14 rfl) rfl ?_
      refine J_sld hX (pc' := 461) ok (dOf dL_law_9 15 rfl) rfl (fun x74 => ?_)
      refine J_aload_n (pc' := 462) ok (dOf dL_law_9 16 rfl) rfl rfl rfl ?_
      refine J_iload_n (pc' := 463) ok (dOf dL_law_9 17 rfl) rfl rfl rfl ?_
      refine J_iconst (v := 2) (pc' := 464) ok (dOf dL_law_9 18 rfl) rfl (by decide) ?_
      refine J_iadd (pc' := 465) ok (dOf dL_law_9 19 rfl) rfl ?_
      refine J_sld hX (pc' := 466) ok (dOf dL_law_9 20 rfl) rfl (fun x75 => ?_)
      refine J_aload_n (pc' := 467) ok (dOf dL_law_9 21 rfl) rfl rfl rfl ?_
      refine J_iload_n (pc' := 468) ok (dOf dL_law_9 22 rfl) rfl rfl rfl ?_
      refine J_iconst (v := 3) (pc' := 469) ok (dOf dL_law_9 23 rfl) rfl (by decide) ?_
      refine J_iadd (pc' := 470) ok (dOf dL_law_9 24 rfl) rfl ?_
      refine J_sld hX (pc' := 471) ok (dOf dL_law_10 0 rfl) rfl (fun x76 => ?_)
      refine J_callVi (k2 := kSp_need) (ci := 10) (T := TX10) (N := 14) (as := [.int x74, .int x75, .int x76]) (pc' := 474) ok (dOf dL_law_10 1 rfl) rfl (cw_Sp_need (by decide) (by decide)) wml_L_54 winst_X10_need wsel_X10_need rfl ⟨by decide, by decide⟩ (Nat.le_of_ble_eq_true rfl) rfl (fun _ _ hf => t_Sp_need hf) (fun x78 h77 => ?_)
      refine J_aload_n (pc' := 475) ok (dOf dL_law_10 2 rfl) rfl rfl rfl ?_
      refine J_aload_n (pc' := 476) ok (dOf dL_law_10 3 rfl) rfl rfl rfl ?_
      refine J_iload_n (pc' := 477) ok (dOf dL_law_10 4 rfl) rfl rfl rfl ?_
      refine J_iconst (v := 1) (pc' := 478) ok (dOf dL_law_10 5 rfl) rfl (by decide) ?_
      refine J_iadd (pc' := 479) ok (dOf dL_law_10 6 rfl) rfl ?_
      refine J_sld hX (pc' := 480) ok (dOf dL_law_10 7 rfl) rfl (fun x79 => ?_)
      refine J_aload_n (pc' := 481) ok (dOf dL_law_10 8 rfl) rfl rfl rfl ?_
      refine J_iload_n (pc' := 482) ok (dOf dL_law_10 9 rfl) rfl rfl rfl ?_
      refine J_iconst (v := 2) (pc' := 483) ok (dOf dL_law_10 10 rfl) rfl (by decide) ?_
      refine J_iadd (pc' := 484) ok (dOf dL_law_10 11 rfl) rfl ?_
      refine J_sld hX (pc' := 485) ok (dOf dL_law_10 12 rfl) rfl (fun x80 => ?_)
      refine J_aload_n (pc' := 486) ok (dOf dL_law_10 13 rfl) rfl rfl rfl ?_
      refine J_iload_n (pc' := 487) ok (dOf dL_law_10 14 rfl) rfl rfl rfl ?_
      refine J_iconst (v := 3) (pc' := 488) ok (dOf dL_law_10 15 rfl) rfl (by decide) ?_
      refine J_iadd (pc' := 489) ok (dOf dL_law_10 16 rfl) rfl ?_
      refine J_sld hX (pc' := 490) ok (dOf dL_law_10 17 rfl) rfl (fun x81 => ?_)
      refine J_callVi (k2 := kMod_need) (ci := 11) (T := TX11) (N := 29) (as := [.int x79, .int x80, .int x81]) (pc' := 493) ok (dOf dL_law_10 18 rfl) rfl (cw_Mod_need (by decide) (by decide)) wml_L_57 winst_X11_need wsel_X11_need rfl ⟨by decide, by decide⟩ (Nat.le_of_ble_eq_true rfl) rfl (fun _ _ hf => t_Mod_need hf) (fun x83 h82 => ?_)
      refine J_icmp_eq (tgt := 1134) (pc' := 496) ok (dOf dL_law_10 19 rfl) rfl (by decide) ?_ ?_
      · exact L_law_j1134_J ok hX v1 v2 s.1 h82 k1 kx1140
      · exact fun z hz _ => by cases hz
    · refine J_aload_n (pc' := 499) ok (dOf dL_law_10 22 rfl) rfl rfl rfl ?_
      refine J_aload_n (pc' := 500) ok (dOf dL_law_10 23 rfl) rfl rfl rfl ?_
      refine J_iload_n (pc' := 501) ok (dOf dL_law_10 24 rfl) rfl rfl rfl ?_
      refine J_iconst (v := 1) (pc' := 502) ok (dOf dL_law_11 0 rfl) rfl (by decide) ?_
      refine J_iadd (pc' := 503) ok (dOf dL_law_11 1 rfl) rfl ?_
      refine J_sld hX (pc' := 504) ok (dOf dL_law_11 2 rfl) rfl (fun x84 => ?_)
      refine J_aload_n (pc' := 505) ok (dOf dL_law_11 3 rfl) rfl rfl rfl ?_
      refine J_iload_n (pc' := 506) ok (dOf dL_law_11 4 rfl) rfl rfl rfl ?_
      refine J_iconst (v := 2) (pc' := 507) ok (dOf dL_law_11 5 rfl) rfl (by decide) ?_
      refine J_iadd (pc' := 508) ok (dOf dL_law_11 6 rfl) rfl ?_
      refine J_sld hX (pc' := 509) ok (dOf dL_law_11 7 rfl) rfl (fun x85 => ?_)
      refine J_aload_n (pc' := 510) ok (dOf dL_law_11 8 rfl) rfl rfl rfl ?_
      refine J_iload_n (pc' := 511) ok (dOf dL_law_11 9 rfl) rfl rfl rfl ?_
      refine J_iconst (v := 3) (pc' := 512) ok (dOf dL_law_11 10 rfl) rfl (by decide) ?_
      refine J_iadd (pc' := 513) ok (dOf dL_law_11 11 rfl) rfl ?_
      refine J_sld hX (pc' := 514) ok (dOf dL_law_11 12 rfl) rfl (fun x86 => ?_)
      refine J_callVi (k2 := kSp_change) (ci := 10) (T := TX10) (N := 14) (as := [.int x84, .int x85, .int x86]) (pc' := 517) ok (dOf dL_law_11 13 rfl) rfl (cw_Sp_change (by decide) (by decide)) wml_L_58 winst_X10_change wsel_X10_change rfl ⟨by decide, by decide⟩ (Nat.le_of_ble_eq_true rfl) rfl (fun _ _ hf => t_Sp_change hf) (fun x88 h87 => ?_)
      refine J_aload_n (pc' := 518) ok (dOf dL_law_11 14 rfl) rfl rfl rfl ?_
      refine J_aload_n (pc' := 519) ok (dOf dL_law_11 15 rfl) rfl rfl rfl ?_
      refine J_iload_n (pc' := 520) ok (dOf dL_law_11 16 rfl) rfl rfl rfl ?_
      refine J_iconst (v := 1) (pc' := 521) ok (dOf dL_law_11 17 rfl) rfl (by decide) ?_
      refine J_iadd (pc' := 522) ok (dOf dL_law_11 18 rfl) rfl ?_
      refine J_sld hX (pc' := 523) ok (dOf dL_law_11 19 rfl) rfl (fun x89 => ?_)
      refine J_aload_n (pc' := 524) ok (dOf dL_law_11 20 rfl) rfl rfl rfl ?_
      refine J_iload_n (pc' := 525) ok (dOf dL_law_11 21 rfl) rfl rfl rfl ?_
      refine J_iconst (v := 2) (pc' := 526) ok (dOf dL_law_11 22 rfl) rfl (by decide) ?_
      refine J_iadd (pc' := 527) ok (dOf dL_law_11 23 rfl) rfl ?_
      refine J_sld hX (pc' := 528) ok (dOf dL_law_11 24 rfl) rfl (fun x90 => ?_)
      refine J_aload_n (pc' := 529) ok (dOf dL_law_12 0 rfl) rfl rfl rfl ?_
      refine J_iload_n (pc' := 530) ok (dOf dL_law_12 1 rfl) rfl rfl rfl ?_
      refine J_iconst (v := 3) (pc' := 531) ok (dOf dL_law_12 2 rfl) rfl (by decide) ?_
      refine J_iadd (pc' := 532) ok (dOf dL_law_12 3 rfl) rfl ?_
      refine J_sld hX (pc' := 533) ok (dOf dL_law_12 4 rfl) rfl (fun x91 => ?_)
      refine J_callVi (k2 := kMod_change) (ci := 11) (T := TX11) (N := 29) (as := [.int x89, .int x90, .int x91]) (pc' := 536) ok (dOf dL_law_12 5 rfl) rfl (cw_Mod_change (by decide) (by decide)) wml_L_61 winst_X11_change wsel_X11_change rfl ⟨by decide, by decide⟩ (Nat.le_of_ble_eq_true rfl) rfl (fun _ _ hf => t_Mod_change hf) (fun x93 h92 => ?_)
      refine J_icmp_eq (tgt := 1134) (pc' := 539) ok (dOf dL_law_12 6 rfl) rfl (by decide) ?_ ?_
      · exact L_law_j1134_J ok hX v1 v2 s.1 h92 k1 kx1140
      · exact fun z hz _ => by cases hz
    · refine J_aload_n (pc' := 542) ok (dOf dL_law_12 9 rfl) rfl rfl rfl ?_
      refine J_callVi (k2 := kSp_round) (ci := 10) (T := TX10) (N := 14) (as := []) (pc' := 545) ok (dOf dL_law_12 10 rfl) rfl (cw_Sp_round (by decide) (by decide)) wml_L_62 winst_X10_round wsel_X10_round rfl ⟨by decide, by decide⟩ (Nat.le_of_ble_eq_true rfl) rfl (fun _ _ hf => t_Sp_round hf) (fun x95 h94 => ?_)
      refine J_aload_n (pc' := 546) ok (dOf dL_law_12 11 rfl) rfl rfl rfl ?_
      refine J_callVi (k2 := kMod_round) (ci := 11) (T := TX11) (N := 29) (as := []) (pc' := 549) ok (dOf dL_law_12 12 rfl) rfl (cw_Mod_round (by decide) (by decide)) wml_L_65 winst_X11_round wsel_X11_round rfl ⟨by decide, by decide⟩ (Nat.le_of_ble_eq_true rfl) rfl (fun _ _ hf => t_Mod_round hf) (fun x97 h96 => ?_)
      refine J_icmp_eq (tgt := 1134) (pc' := 552) ok (dOf dL_law_12 13 rfl) rfl (by decide) ?_ ?_
      · exact L_law_j1134_J ok hX v1 v2 s.1 h96 k1 kx1140
      · exact fun z hz _ => by cases hz
    · refine J_aload_n (pc' := 555) ok (dOf dL_law_12 16 rfl) rfl rfl rfl ?_
      refine J_aload_n (pc' := 556) ok (dOf dL_law_12 17 rfl) rfl rfl rfl ?_
      refine J_iload_n (pc' := 557) ok (dOf dL_law_12 18 rfl) rfl rfl rfl ?_
      refine J_iconst (v := 1) (pc' := 558) ok (dOf dL_law_12 19 rfl) rfl (by decide) ?_
      refine J_iadd (pc' := 559) ok (dOf dL_law_12 20 rfl) rfl ?_
      refine J_sld hX (pc' := 560) ok (dOf dL_law_12 21 rfl) rfl (fun x98 => ?_)
      refine J_callVi (k2 := kSp_go) (ci := 10) (T := TX10) (N := 14) (as := [.int x98]) (pc' := 563) ok (dOf dL_law_12 22 rfl) rfl (cw_Sp_go (by decide) (by decide)) wml_L_66 winst_X10_go wsel_X10_go rfl ⟨by decide, by decide⟩ (Nat.le_of_ble_eq_true rfl) rfl (fun _ _ hf => t_Sp_go hf) (fun x100 h99 => ?_)
      refine J_aload_n (pc' := 564) ok (dOf dL_law_12 23 rfl) rfl rfl rfl ?_
      refine J_aload_n (pc' := 565) ok (dOf dL_law_12 24 rfl) rfl rfl rfl ?_
      refine J_iload_n (pc' := 566) ok (dOf dL_law_13 0 rfl) rfl rfl rfl ?_
      refine J_iconst (v := 1) (pc' := 567) ok (dOf dL_law_13 1 rfl) rfl (by decide) ?_
      refine J_iadd (pc' := 568) ok (dOf dL_law_13 2 rfl) rfl ?_
      refine J_sld hX (pc' := 569) ok (dOf dL_law_13 3 rfl) rfl (fun x101 => ?_)
      refine J_callVi (k2 := kMod_go) (ci := 11) (T := TX11) (N := 29) (as := [.int x101]) (pc' := 572) ok (dOf dL_law_13 4 rfl) rfl (cw_Mod_go (by decide) (by decide)) wml_L_69 winst_X11_go wsel_X11_go rfl ⟨by decide, by decide⟩ (Nat.le_of_ble_eq_true rfl) rfl (fun _ _ hf => t_Mod_go hf) (fun x103 h102 => ?_)
      refine J_icmp_eq (tgt := 1134) (pc' := 575) ok (dOf dL_law_13 5 rfl) rfl (by decide) ?_ ?_
      · exact L_law_j1134_J ok hX v1 v2 s.1 h102 k1 kx1140
      · exact fun z hz _ => by cases hz
    · refine J_aload_n (pc' := 578) ok (dOf dL_law_13 8 rfl) rfl rfl rfl ?_
      refine J_callVi (k2 := kSp_clear) (ci := 10) (T := TX10) (N := 14) (as := []) (pc' := 581) ok (dOf dL_law_13 9 rfl) rfl (cw_Sp_clear (by decide) (by decide)) wml_L_70 winst_X10_clear wsel_X10_clear rfl ⟨by decide, by decide⟩ (Nat.le_of_ble_eq_true rfl) rfl (fun _ _ hf => t_Sp_clear hf) (fun x105 h104 => ?_)
      refine J_aload_n (pc' := 582) ok (dOf dL_law_13 10 rfl) rfl rfl rfl ?_
      refine J_callVi (k2 := kMod_clear) (ci := 11) (T := TX11) (N := 29) (as := []) (pc' := 585) ok (dOf dL_law_13 11 rfl) rfl (cw_Mod_clear (by decide) (by decide)) wml_L_73 winst_X11_clear wsel_X11_clear rfl ⟨by decide, by decide⟩ (Nat.le_of_ble_eq_true rfl) rfl (fun _ _ hf => t_Mod_clear hf) (fun x107 h106 => ?_)
      refine J_icmp_eq (tgt := 1134) (pc' := 588) ok (dOf dL_law_13 12 rfl) rfl (by decide) ?_ ?_
      · exact L_law_j1134_J ok hX v1 v2 s.1 h106 k1 kx1140
      · exact fun z hz _ => by cases hz
    · refine J_aload_n (pc' := 591) ok (dOf dL_law_13 15 rfl) rfl rfl rfl ?_
      refine J_callVi (k2 := kSp_undo) (ci := 10) (T := TX10) (N := 14) (as := []) (pc' := 594) ok (dOf dL_law_13 16 rfl) rfl (cw_Sp_undo (by decide) (by decide)) wml_L_74 winst_X10_undo wsel_X10_undo rfl ⟨by decide, by decide⟩ (Nat.le_of_ble_eq_true rfl) rfl (fun _ _ hf => t_Sp_undo hf) (fun x109 h108 => ?_)
      refine J_aload_n (pc' := 595) ok (dOf dL_law_13 17 rfl) rfl rfl rfl ?_
      refine J_callVi (k2 := kMod_undo) (ci := 11) (T := TX11) (N := 29) (as := []) (pc' := 598) ok (dOf dL_law_13 18 rfl) rfl (cw_Mod_undo (by decide) (by decide)) wml_L_77 winst_X11_undo wsel_X11_undo rfl ⟨by decide, by decide⟩ (Nat.le_of_ble_eq_true rfl) rfl (fun _ _ hf => t_Mod_undo hf) (fun x111 h110 => ?_)
      refine J_icmp_eq (tgt := 1134) (pc' := 601) ok (dOf dL_law_13 19 rfl) rfl (by decide) ?_ ?_
      · exact L_law_j1134_J ok hX v1 v2 s.1 h110 k1 kx1140
      · exact fun z hz _ => by cases hz
    · refine J_aload_n (pc' := 604) ok (dOf dL_law_13 22 rfl) rfl rfl rfl ?_
      refine J_aload_n (pc' := 605) ok (dOf dL_law_13 23 rfl) rfl rfl rfl ?_
      refine J_iload_n (pc' := 606) ok (dOf dL_law_13 24 rfl) rfl rfl rfl ?_
      refine J_iconst (v := 1) (pc' := 607) ok (dOf dL_law_14 0 rfl) rfl (by decide) ?_
      refine J_iadd (pc' := 608) ok (dOf dL_law_14 1 rfl) rfl ?_
      refine J_sld hX (pc' := 609) ok (dOf dL_law_14 2 rfl) rfl (fun x112 => ?_)
      refine J_aload_n (pc' := 610) ok (dOf dL_law_14 3 rfl) rfl rfl rfl ?_
      refine J_iload_n (pc' := 611) ok (dOf dL_law_14 4 rfl) rfl rfl rfl ?_
      refine J_iconst (v := 2) (pc' := 612) ok (dOf dL_law_14 5 rfl) rfl (by decide) ?_
      refine J_iadd (pc' := 613) ok (dOf dL_law_14 6 rfl) rfl ?_
      refine J_sld hX (pc' := 614) ok (dOf dL_law_14 7 rfl) rfl (fun x113 => ?_)
      refine J_callVi (k2 := kSp_of) (ci := 10) (T := TX10) (N := 14) (as := [.int x112, .int x113]) (pc' := 617) ok (dOf dL_law_14 8 rfl) rfl (cw_Sp_of (by decide) (by decide)) wml_L_78 winst_X10_of wsel_X10_of rfl ⟨by decide, by decide⟩ (Nat.le_of_ble_eq_true rfl) rfl (fun _ _ hf => t_Sp_of hf) (fun x115 h114 => ?_)
      refine J_aload_n (pc' := 618) ok (dOf dL_law_14 9 rfl) rfl rfl rfl ?_
      refine J_aload_n (pc' := 619) ok (dOf dL_law_14 10 rfl) rfl rfl rfl ?_
      refine J_iload_n (pc' := 620) ok (dOf dL_law_14 11 rfl) rfl rfl rfl ?_
      refine J_iconst (v := 1) (pc' := 621) ok (dOf dL_law_14 12 rfl) rfl (by decide) ?_
      refine J_iadd (pc' := 622) ok (dOf dL_law_14 13 rfl) rfl ?_
      refine J_sld hX (pc' := 623) ok (dOf dL_law_14 14 rfl) rfl (fun x116 => ?_)
      refine J_aload_n (pc' := 624) ok (dOf dL_law_14 15 rfl) rfl rfl rfl ?_
      refine J_iload_n (pc' := 625) ok (dOf dL_law_14 16 rfl) rfl rfl rfl ?_
      refine J_iconst (v := 2) (pc' := 626) ok (dOf dL_law_14 17 rfl) rfl (by decide) ?_
      refine J_iadd (pc' := 627) ok (dOf dL_law_14 18 rfl) rfl ?_
      refine J_sld hX (pc' := 628) ok (dOf dL_law_14 19 rfl) rfl (fun x117 => ?_)
      refine J_callVi (k2 := kMod_of) (ci := 11) (T := TX11) (N := 29) (as := [.int x116, .int x117]) (pc' := 631) ok (dOf dL_law_14 20 rfl) rfl (cw_Mod_of (by decide) (by decide)) wml_L_81 winst_X11_of wsel_X11_of rfl ⟨by decide, by decide⟩ (Nat.le_of_ble_eq_true rfl) rfl (fun _ _ hf => t_Mod_of hf) (fun x119 h118 => ?_)
      refine J_icmp_eq (tgt := 1134) (pc' := 634) ok (dOf dL_law_14 21 rfl) rfl (by decide) ?_ ?_
      · exact L_law_j1134_J ok hX v1 v2 s.1 h118 k1 kx1140
      · exact fun z hz _ => by cases hz
    · refine J_aload_n (pc' := 637) ok (dOf dL_law_14 24 rfl) rfl rfl rfl ?_
      refine J_aload_n (pc' := 638) ok (dOf dL_law_15 0 rfl) rfl rfl rfl ?_
      refine J_iload_n (pc' := 639) ok (dOf dL_law_15 1 rfl) rfl rfl rfl ?_
      refine J_iconst (v := 1) (pc' := 640) ok (dOf dL_law_15 2 rfl) rfl (by decide) ?_
      refine J_iadd (pc' := 641) ok (dOf dL_law_15 3 rfl) rfl ?_
      refine J_sld hX (pc' := 642) ok (dOf dL_law_15 4 rfl) rfl (fun x120 => ?_)
      refine J_aload_n (pc' := 643) ok (dOf dL_law_15 5 rfl) rfl rfl rfl ?_
      refine J_iload_n (pc' := 644) ok (dOf dL_law_15 6 rfl) rfl rfl rfl ?_
      refine J_iconst (v := 2) (pc' := 645) ok (dOf dL_law_15 7 rfl) rfl (by decide) ?_
      refine J_iadd (pc' := 646) ok (dOf dL_law_15 8 rfl) rfl ?_
      refine J_sld hX (pc' := 647) ok (dOf dL_law_15 9 rfl) rfl (fun x121 => ?_)
      refine J_callVi (k2 := kSp_told) (ci := 10) (T := TX10) (N := 14) (as := [.int x120, .int x121]) (pc' := 650) ok (dOf dL_law_15 10 rfl) rfl (cw_Sp_told (by decide) (by decide)) wml_L_82 winst_X10_told wsel_X10_told rfl ⟨by decide, by decide⟩ (Nat.le_of_ble_eq_true rfl) rfl (fun _ _ hf => t_Sp_told hf) (fun x123 h122 => ?_)
      refine J_aload_n (pc' := 651) ok (dOf dL_law_15 11 rfl) rfl rfl rfl ?_
      refine J_aload_n (pc' := 652) ok (dOf dL_law_15 12 rfl) rfl rfl rfl ?_
      refine J_iload_n (pc' := 653) ok (dOf dL_law_15 13 rfl) rfl rfl rfl ?_
      refine J_iconst (v := 1) (pc' := 654) ok (dOf dL_law_15 14 rfl) rfl (by decide) ?_
      refine J_iadd (pc' := 655) ok (dOf dL_law_15 15 rfl) rfl ?_
      refine J_sld hX (pc' := 656) ok (dOf dL_law_15 16 rfl) rfl (fun x124 => ?_)
      refine J_aload_n (pc' := 657) ok (dOf dL_law_15 17 rfl) rfl rfl rfl ?_
      refine J_iload_n (pc' := 658) ok (dOf dL_law_15 18 rfl) rfl rfl rfl ?_
      refine J_iconst (v := 2) (pc' := 659) ok (dOf dL_law_15 19 rfl) rfl (by decide) ?_
      refine J_iadd (pc' := 660) ok (dOf dL_law_15 20 rfl) rfl ?_
      refine J_sld hX (pc' := 661) ok (dOf dL_law_15 21 rfl) rfl (fun x125 => ?_)
      refine J_callVi (k2 := kMod_told) (ci := 11) (T := TX11) (N := 29) (as := [.int x124, .int x125]) (pc' := 664) ok (dOf dL_law_15 22 rfl) rfl (cw_Mod_told (by decide) (by decide)) wml_L_85 winst_X11_told wsel_X11_told rfl ⟨by decide, by decide⟩ (Nat.le_of_ble_eq_true rfl) rfl (fun _ _ hf => t_Mod_told hf) (fun x127 h126 => ?_)
      refine J_icmp_eq (tgt := 1134) (pc' := 667) ok (dOf dL_law_15 23 rfl) rfl (by decide) ?_ ?_
      · exact L_law_j1134_J ok hX v1 v2 s.1 h126 k1 kx1140
      · exact fun z hz _ => by cases hz
    · refine J_aload_n (pc' := 670) ok (dOf dL_law_16 1 rfl) rfl rfl rfl ?_
      refine J_aload_n (pc' := 671) ok (dOf dL_law_16 2 rfl) rfl rfl rfl ?_
      refine J_iload_n (pc' := 672) ok (dOf dL_law_16 3 rfl) rfl rfl rfl ?_
      refine J_iconst (v := 1) (pc' := 673) ok (dOf dL_law_16 4 rfl) rfl (by decide) ?_
      refine J_iadd (pc' := 674) ok (dOf dL_law_16 5 rfl) rfl ?_
      refine J_sld hX (pc' := 675) ok (dOf dL_law_16 6 rfl) rfl (fun x128 => ?_)
      refine J_callVi (k2 := kSp_now) (ci := 10) (T := TX10) (N := 14) (as := [.int x128]) (pc' := 678) ok (dOf dL_law_16 7 rfl) rfl (cw_Sp_now (by decide) (by decide)) wml_L_86 winst_X10_now wsel_X10_now rfl ⟨by decide, by decide⟩ (Nat.le_of_ble_eq_true rfl) rfl (fun _ _ hf => t_Sp_now hf) (fun x130 h129 => ?_)
      refine J_aload_n (pc' := 679) ok (dOf dL_law_16 8 rfl) rfl rfl rfl ?_
      refine J_aload_n (pc' := 680) ok (dOf dL_law_16 9 rfl) rfl rfl rfl ?_
      refine J_iload_n (pc' := 681) ok (dOf dL_law_16 10 rfl) rfl rfl rfl ?_
      refine J_iconst (v := 1) (pc' := 682) ok (dOf dL_law_16 11 rfl) rfl (by decide) ?_
      refine J_iadd (pc' := 683) ok (dOf dL_law_16 12 rfl) rfl ?_
      refine J_sld hX (pc' := 684) ok (dOf dL_law_16 13 rfl) rfl (fun x131 => ?_)
      refine J_callVi (k2 := kMod_now) (ci := 11) (T := TX11) (N := 29) (as := [.int x131]) (pc' := 687) ok (dOf dL_law_16 14 rfl) rfl (cw_Mod_now (by decide) (by decide)) wml_L_89 winst_X11_now wsel_X11_now rfl ⟨by decide, by decide⟩ (Nat.le_of_ble_eq_true rfl) rfl (fun _ _ hf => t_Mod_now hf) (fun x133 h132 => ?_)
      refine J_icmp_eq (tgt := 1134) (pc' := 690) ok (dOf dL_law_16 15 rfl) rfl (by decide) ?_ ?_
      · exact L_law_j1134_J ok hX v1 v2 s.1 h132 k1 kx1140
      · exact fun z hz _ => by cases hz
    · refine J_aload_n (pc' := 693) ok (dOf dL_law_16 18 rfl) rfl rfl rfl ?_
      refine J_callVi (k2 := kSp_gap) (ci := 10) (T := TX10) (N := 14) (as := []) (pc' := 696) ok (dOf dL_law_16 19 rfl) rfl (cw_Sp_gap (by decide) (by decide)) wml_L_90 winst_X10_gap wsel_X10_gap rfl ⟨by decide, by decide⟩ (Nat.le_of_ble_eq_true rfl) rfl (fun _ _ hf => t_Sp_gap hf) (fun x135 h134 => ?_)
      refine J_aload_n (pc' := 697) ok (dOf dL_law_16 20 rfl) rfl rfl rfl ?_
      refine J_callVi (k2 := kMod_gap) (ci := 11) (T := TX11) (N := 29) (as := []) (pc' := 700) ok (dOf dL_law_16 21 rfl) rfl (cw_Mod_gap (by decide) (by decide)) wml_L_93 winst_X11_gap wsel_X11_gap rfl ⟨by decide, by decide⟩ (Nat.le_of_ble_eq_true rfl) rfl (fun _ _ hf => t_Mod_gap hf) (fun x137 h136 => ?_)
      refine J_icmp_eq (tgt := 1134) (pc' := 703) ok (dOf dL_law_16 22 rfl) rfl (by decide) ?_ ?_
      · exact L_law_j1134_J ok hX v1 v2 s.1 h136 k1 kx1140
      · exact fun z hz _ => by cases hz
    · refine J_aload_n (pc' := 706) ok (dOf dL_law_17 0 rfl) rfl rfl rfl ?_
      refine J_aload_n (pc' := 707) ok (dOf dL_law_17 1 rfl) rfl rfl rfl ?_
      refine J_iload_n (pc' := 708) ok (dOf dL_law_17 2 rfl) rfl rfl rfl ?_
      refine J_iconst (v := 1) (pc' := 709) ok (dOf dL_law_17 3 rfl) rfl (by decide) ?_
      refine J_iadd (pc' := 710) ok (dOf dL_law_17 4 rfl) rfl ?_
      refine J_sld hX (pc' := 711) ok (dOf dL_law_17 5 rfl) rfl (fun x138 => ?_)
      refine J_aload_n (pc' := 712) ok (dOf dL_law_17 6 rfl) rfl rfl rfl ?_
      refine J_iload_n (pc' := 713) ok (dOf dL_law_17 7 rfl) rfl rfl rfl ?_
      refine J_iconst (v := 2) (pc' := 714) ok (dOf dL_law_17 8 rfl) rfl (by decide) ?_
      refine J_iadd (pc' := 715) ok (dOf dL_law_17 9 rfl) rfl ?_
      refine J_sld hX (pc' := 716) ok (dOf dL_law_17 10 rfl) rfl (fun x139 => ?_)
      refine J_callVi (k2 := kSp_cut) (ci := 10) (T := TX10) (N := 14) (as := [.int x138, .int x139]) (pc' := 719) ok (dOf dL_law_17 11 rfl) rfl (cw_Sp_cut (by decide) (by decide)) wml_L_94 winst_X10_cut wsel_X10_cut rfl ⟨by decide, by decide⟩ (Nat.le_of_ble_eq_true rfl) rfl (fun _ _ hf => t_Sp_cut hf) (fun x141 h140 => ?_)
      refine J_aload_n (pc' := 720) ok (dOf dL_law_17 12 rfl) rfl rfl rfl ?_
      refine J_aload_n (pc' := 721) ok (dOf dL_law_17 13 rfl) rfl rfl rfl ?_
      refine J_iload_n (pc' := 722) ok (dOf dL_law_17 14 rfl) rfl rfl rfl ?_
      refine J_iconst (v := 1) (pc' := 723) ok (dOf dL_law_17 15 rfl) rfl (by decide) ?_
      refine J_iadd (pc' := 724) ok (dOf dL_law_17 16 rfl) rfl ?_
      refine J_sld hX (pc' := 725) ok (dOf dL_law_17 17 rfl) rfl (fun x142 => ?_)
      refine J_aload_n (pc' := 726) ok (dOf dL_law_17 18 rfl) rfl rfl rfl ?_
      refine J_iload_n (pc' := 727) ok (dOf dL_law_17 19 rfl) rfl rfl rfl ?_
      refine J_iconst (v := 2) (pc' := 728) ok (dOf dL_law_17 20 rfl) rfl (by decide) ?_
      refine J_iadd (pc' := 729) ok (dOf dL_law_17 21 rfl) rfl ?_
      refine J_sld hX (pc' := 730) ok (dOf dL_law_17 22 rfl) rfl (fun x143 => ?_)
      refine J_callVi (k2 := kMod_cut) (ci := 11) (T := TX11) (N := 29) (as := [.int x142, .int x143]) (pc' := 733) ok (dOf dL_law_17 23 rfl) rfl (cw_Mod_cut (by decide) (by decide)) wml_L_97 winst_X11_cut wsel_X11_cut rfl ⟨by decide, by decide⟩ (Nat.le_of_ble_eq_true rfl) rfl (fun _ _ hf => t_Mod_cut hf) (fun x145 h144 => ?_)
      refine J_icmp_eq (tgt := 1134) (pc' := 736) ok (dOf dL_law_17 24 rfl) rfl (by decide) ?_ ?_
      · exact L_law_j1134_J ok hX v1 v2 s.1 h144 k1 kx1140
      · exact fun z hz _ => by cases hz
    · refine J_aload_n (pc' := 739) ok (dOf dL_law_18 2 rfl) rfl rfl rfl ?_
      refine J_aload_n (pc' := 740) ok (dOf dL_law_18 3 rfl) rfl rfl rfl ?_
      refine J_iload_n (pc' := 741) ok (dOf dL_law_18 4 rfl) rfl rfl rfl ?_
      refine J_iconst (v := 1) (pc' := 742) ok (dOf dL_law_18 5 rfl) rfl (by decide) ?_
      refine J_iadd (pc' := 743) ok (dOf dL_law_18 6 rfl) rfl ?_
      refine J_sld hX (pc' := 744) ok (dOf dL_law_18 7 rfl) rfl (fun x146 => ?_)
      refine J_aload_n (pc' := 745) ok (dOf dL_law_18 8 rfl) rfl rfl rfl ?_
      refine J_iload_n (pc' := 746) ok (dOf dL_law_18 9 rfl) rfl rfl rfl ?_
      refine J_iconst (v := 2) (pc' := 747) ok (dOf dL_law_18 10 rfl) rfl (by decide) ?_
      refine J_iadd (pc' := 748) ok (dOf dL_law_18 11 rfl) rfl ?_
      refine J_sld hX (pc' := 749) ok (dOf dL_law_18 12 rfl) rfl (fun x147 => ?_)
      refine J_callVi (k2 := kSp_tells) (ci := 10) (T := TX10) (N := 14) (as := [.int x146, .int x147]) (pc' := 752) ok (dOf dL_law_18 13 rfl) rfl (cw_Sp_tells (by decide) (by decide)) wml_L_98 winst_X10_tells wsel_X10_tells rfl ⟨by decide, by decide⟩ (Nat.le_of_ble_eq_true rfl) rfl (fun _ _ hf => t_Sp_tells hf) (fun x149 h148 => ?_)
      refine J_aload_n (pc' := 753) ok (dOf dL_law_18 14 rfl) rfl rfl rfl ?_
      refine J_aload_n (pc' := 754) ok (dOf dL_law_18 15 rfl) rfl rfl rfl ?_
      refine J_iload_n (pc' := 755) ok (dOf dL_law_18 16 rfl) rfl rfl rfl ?_
      refine J_iconst (v := 1) (pc' := 756) ok (dOf dL_law_18 17 rfl) rfl (by decide) ?_
      refine J_iadd (pc' := 757) ok (dOf dL_law_18 18 rfl) rfl ?_
      refine J_sld hX (pc' := 758) ok (dOf dL_law_18 19 rfl) rfl (fun x150 => ?_)
      refine J_aload_n (pc' := 759) ok (dOf dL_law_18 20 rfl) rfl rfl rfl ?_
      refine J_iload_n (pc' := 760) ok (dOf dL_law_18 21 rfl) rfl rfl rfl ?_
      refine J_iconst (v := 2) (pc' := 761) ok (dOf dL_law_18 22 rfl) rfl (by decide) ?_
      refine J_iadd (pc' := 762) ok (dOf dL_law_18 23 rfl) rfl ?_
      refine J_sld hX (pc' := 763) ok (dOf dL_law_18 24 rfl) rfl (fun x151 => ?_)
      refine J_callVi (k2 := kMod_tells_) (ci := 11) (T := TX11) (N := 29) (as := [.int x150, .int x151]) (pc' := 766) ok (dOf dL_law_19 0 rfl) rfl (cw_Mod_tells_ (by decide) (by decide)) wml_L_101 winst_X11_tells_ wsel_X11_tells_ rfl ⟨by decide, by decide⟩ (Nat.le_of_ble_eq_true rfl) rfl (fun _ _ hf => t_Mod_tells_ hf) (fun x153 h152 => ?_)
      refine J_icmp_eq (tgt := 1134) (pc' := 769) ok (dOf dL_law_19 1 rfl) rfl (by decide) ?_ ?_
      · exact L_law_j1134_J ok hX v1 v2 s.1 h152 k1 kx1140
      · exact fun z hz _ => by cases hz
    · refine J_aload_n (pc' := 772) ok (dOf dL_law_19 4 rfl) rfl rfl rfl ?_
      refine J_aload_n (pc' := 773) ok (dOf dL_law_19 5 rfl) rfl rfl rfl ?_
      refine J_iload_n (pc' := 774) ok (dOf dL_law_19 6 rfl) rfl rfl rfl ?_
      refine J_iconst (v := 1) (pc' := 775) ok (dOf dL_law_19 7 rfl) rfl (by decide) ?_
      refine J_iadd (pc' := 776) ok (dOf dL_law_19 8 rfl) rfl ?_
      refine J_sld hX (pc' := 777) ok (dOf dL_law_19 9 rfl) rfl (fun x154 => ?_)
      refine J_callVi (k2 := kSp_exact) (ci := 10) (T := TX10) (N := 14) (as := [.int x154]) (pc' := 780) ok (dOf dL_law_19 10 rfl) rfl (cw_Sp_exact (by decide) (by decide)) wml_L_102 winst_X10_exact wsel_X10_exact rfl ⟨by decide, by decide⟩ (Nat.le_of_ble_eq_true rfl) rfl (fun _ _ hf => t_Sp_exact hf) (fun x156 h155 => ?_)
      refine J_aload_n (pc' := 781) ok (dOf dL_law_19 11 rfl) rfl rfl rfl ?_
      refine J_aload_n (pc' := 782) ok (dOf dL_law_19 12 rfl) rfl rfl rfl ?_
      refine J_iload_n (pc' := 783) ok (dOf dL_law_19 13 rfl) rfl rfl rfl ?_
      refine J_iconst (v := 1) (pc' := 784) ok (dOf dL_law_19 14 rfl) rfl (by decide) ?_
      refine J_iadd (pc' := 785) ok (dOf dL_law_19 15 rfl) rfl ?_
      refine J_sld hX (pc' := 786) ok (dOf dL_law_19 16 rfl) rfl (fun x157 => ?_)
      refine J_callVi (k2 := kMod_exact) (ci := 11) (T := TX11) (N := 29) (as := [.int x157]) (pc' := 789) ok (dOf dL_law_19 17 rfl) rfl (cw_Mod_exact (by decide) (by decide)) wml_L_105 winst_X11_exact wsel_X11_exact rfl ⟨by decide, by decide⟩ (Nat.le_of_ble_eq_true rfl) rfl (fun _ _ hf => t_Mod_exact hf) (fun x159 h158 => ?_)
      refine J_icmp_eq (tgt := 1134) (pc' := 792) ok (dOf dL_law_19 18 rfl) rfl (by decide) ?_ ?_
      · exact L_law_j1134_J ok hX v1 v2 s.1 h158 k1 kx1140
      · exact fun z hz _ => by cases hz
    · refine J_aload_n (pc' := 795) ok (dOf dL_law_19 21 rfl) rfl rfl rfl ?_
      refine J_aload_n (pc' := 796) ok (dOf dL_law_19 22 rfl) rfl rfl rfl ?_
      refine J_iload_n (pc' := 797) ok (dOf dL_law_19 23 rfl) rfl rfl rfl ?_
      refine J_iconst (v := 1) (pc' := 798) ok (dOf dL_law_19 24 rfl) rfl (by decide) ?_
      refine J_iadd (pc' := 799) ok (dOf dL_law_20 0 rfl) rfl ?_
      refine J_sld hX (pc' := 800) ok (dOf dL_law_20 1 rfl) rfl (fun x160 => ?_)
      refine J_aload_n (pc' := 801) ok (dOf dL_law_20 2 rfl) rfl rfl rfl ?_
      refine J_iload_n (pc' := 802) ok (dOf dL_law_20 3 rfl) rfl rfl rfl ?_
      refine J_iconst (v := 2) (pc' := 803) ok (dOf dL_law_20 4 rfl) rfl (by decide) ?_
      refine J_iadd (pc' := 804) ok (dOf dL_law_20 5 rfl) rfl ?_
      refine J_sld hX (pc' := 805) ok (dOf dL_law_20 6 rfl) rfl (fun x161 => ?_)
      refine J_callVi (k2 := kSp_price) (ci := 10) (T := TX10) (N := 14) (as := [.int x160, .int x161]) (pc' := 808) ok (dOf dL_law_20 7 rfl) rfl (cw_Sp_price (by decide) (by decide)) wml_L_106 winst_X10_price wsel_X10_price rfl ⟨by decide, by decide⟩ (Nat.le_of_ble_eq_true rfl) rfl (fun _ _ hf => t_Sp_price hf) (fun x163 h162 => ?_)
      refine J_aload_n (pc' := 809) ok (dOf dL_law_20 8 rfl) rfl rfl rfl ?_
      refine J_aload_n (pc' := 810) ok (dOf dL_law_20 9 rfl) rfl rfl rfl ?_
      refine J_iload_n (pc' := 811) ok (dOf dL_law_20 10 rfl) rfl rfl rfl ?_
      refine J_iconst (v := 1) (pc' := 812) ok (dOf dL_law_20 11 rfl) rfl (by decide) ?_
      refine J_iadd (pc' := 813) ok (dOf dL_law_20 12 rfl) rfl ?_
      refine J_sld hX (pc' := 814) ok (dOf dL_law_20 13 rfl) rfl (fun x164 => ?_)
      refine J_aload_n (pc' := 815) ok (dOf dL_law_20 14 rfl) rfl rfl rfl ?_
      refine J_iload_n (pc' := 816) ok (dOf dL_law_20 15 rfl) rfl rfl rfl ?_
      refine J_iconst (v := 2) (pc' := 817) ok (dOf dL_law_20 16 rfl) rfl (by decide) ?_
      refine J_iadd (pc' := 818) ok (dOf dL_law_20 17 rfl) rfl ?_
      refine J_sld hX (pc' := 819) ok (dOf dL_law_20 18 rfl) rfl (fun x165 => ?_)
      refine J_callVi (k2 := kMod_price) (ci := 11) (T := TX11) (N := 29) (as := [.int x164, .int x165]) (pc' := 822) ok (dOf dL_law_20 19 rfl) rfl (cw_Mod_price (by decide) (by decide)) wml_L_109 winst_X11_price wsel_X11_price rfl ⟨by decide, by decide⟩ (Nat.le_of_ble_eq_true rfl) rfl (fun _ _ hf => t_Mod_price hf) (fun x167 h166 => ?_)
      refine J_icmp_eq (tgt := 1134) (pc' := 825) ok (dOf dL_law_20 20 rfl) rfl (by decide) ?_ ?_
      · exact L_law_j1134_J ok hX v1 v2 s.1 h166 k1 kx1140
      · exact fun z hz _ => by cases hz
    · refine J_aload_n (pc' := 828) ok (dOf dL_law_20 23 rfl) rfl rfl rfl ?_
      refine J_aload_n (pc' := 829) ok (dOf dL_law_20 24 rfl) rfl rfl rfl ?_
      refine J_iload_n (pc' := 830) ok (dOf dL_law_21 0 rfl) rfl rfl rfl ?_
      refine J_iconst (v := 1) (pc' := 831) ok (dOf dL_law_21 1 rfl) rfl (by decide) ?_
      refine J_iadd (pc' := 832) ok (dOf dL_law_21 2 rfl) rfl ?_
      refine J_sld hX (pc' := 833) ok (dOf dL_law_21 3 rfl) rfl (fun x168 => ?_)
      refine J_aload_n (pc' := 834) ok (dOf dL_law_21 4 rfl) rfl rfl rfl ?_
      refine J_iload_n (pc' := 835) ok (dOf dL_law_21 5 rfl) rfl rfl rfl ?_
      refine J_iconst (v := 2) (pc' := 836) ok (dOf dL_law_21 6 rfl) rfl (by decide) ?_
      refine J_iadd (pc' := 837) ok (dOf dL_law_21 7 rfl) rfl ?_
      refine J_sld hX (pc' := 838) ok (dOf dL_law_21 8 rfl) rfl (fun x169 => ?_)
      refine J_callVi (k2 := kSp_lack) (ci := 10) (T := TX10) (N := 14) (as := [.int x168, .int x169]) (pc' := 841) ok (dOf dL_law_21 9 rfl) rfl (cw_Sp_lack (by decide) (by decide)) wml_L_110 winst_X10_lack wsel_X10_lack rfl ⟨by decide, by decide⟩ (Nat.le_of_ble_eq_true rfl) rfl (fun _ _ hf => t_Sp_lack hf) (fun x171 h170 => ?_)
      refine J_aload_n (pc' := 842) ok (dOf dL_law_21 10 rfl) rfl rfl rfl ?_
      refine J_aload_n (pc' := 843) ok (dOf dL_law_21 11 rfl) rfl rfl rfl ?_
      refine J_iload_n (pc' := 844) ok (dOf dL_law_21 12 rfl) rfl rfl rfl ?_
      refine J_iconst (v := 1) (pc' := 845) ok (dOf dL_law_21 13 rfl) rfl (by decide) ?_
      refine J_iadd (pc' := 846) ok (dOf dL_law_21 14 rfl) rfl ?_
      refine J_sld hX (pc' := 847) ok (dOf dL_law_21 15 rfl) rfl (fun x172 => ?_)
      refine J_aload_n (pc' := 848) ok (dOf dL_law_21 16 rfl) rfl rfl rfl ?_
      refine J_iload_n (pc' := 849) ok (dOf dL_law_21 17 rfl) rfl rfl rfl ?_
      refine J_iconst (v := 2) (pc' := 850) ok (dOf dL_law_21 18 rfl) rfl (by decide) ?_
      refine J_iadd (pc' := 851) ok (dOf dL_law_21 19 rfl) rfl ?_
      refine J_sld hX (pc' := 852) ok (dOf dL_law_21 20 rfl) rfl (fun x173 => ?_)
      refine J_callVi (k2 := kMod_lack) (ci := 11) (T := TX11) (N := 29) (as := [.int x172, .int x173]) (pc' := 855) ok (dOf dL_law_21 21 rfl) rfl (cw_Mod_lack (by decide) (by decide)) wml_L_113 winst_X11_lack wsel_X11_lack rfl ⟨by decide, by decide⟩ (Nat.le_of_ble_eq_true rfl) rfl (fun _ _ hf => t_Mod_lack hf) (fun x175 h174 => ?_)
      refine J_icmp_eq (tgt := 1134) (pc' := 858) ok (dOf dL_law_21 22 rfl) rfl (by decide) ?_ ?_
      · exact L_law_j1134_J ok hX v1 v2 s.1 h174 k1 kx1140
      · exact fun z hz _ => by cases hz
    · refine J_aload_n (pc' := 861) ok (dOf dL_law_22 0 rfl) rfl rfl rfl ?_
      refine J_aload_n (pc' := 862) ok (dOf dL_law_22 1 rfl) rfl rfl rfl ?_
      refine J_iload_n (pc' := 863) ok (dOf dL_law_22 2 rfl) rfl rfl rfl ?_
      refine J_iconst (v := 1) (pc' := 864) ok (dOf dL_law_22 3 rfl) rfl (by decide) ?_
      refine J_iadd (pc' := 865) ok (dOf dL_law_22 4 rfl) rfl ?_
      refine J_sld hX (pc' := 866) ok (dOf dL_law_22 5 rfl) rfl (fun x176 => ?_)
      refine J_aload_n (pc' := 867) ok (dOf dL_law_22 6 rfl) rfl rfl rfl ?_
      refine J_iload_n (pc' := 868) ok (dOf dL_law_22 7 rfl) rfl rfl rfl ?_
      refine J_iconst (v := 2) (pc' := 869) ok (dOf dL_law_22 8 rfl) rfl (by decide) ?_
      refine J_iadd (pc' := 870) ok (dOf dL_law_22 9 rfl) rfl ?_
      refine J_sld hX (pc' := 871) ok (dOf dL_law_22 10 rfl) rfl (fun x177 => ?_)
      refine J_aload_n (pc' := 872) ok (dOf dL_law_22 11 rfl) rfl rfl rfl ?_
      refine J_iload_n (pc' := 873) ok (dOf dL_law_22 12 rfl) rfl rfl rfl ?_
      refine J_iconst (v := 3) (pc' := 874) ok (dOf dL_law_22 13 rfl) rfl (by decide) ?_
      refine J_iadd (pc' := 875) ok (dOf dL_law_22 14 rfl) rfl ?_
      refine J_sld hX (pc' := 876) ok (dOf dL_law_22 15 rfl) rfl (fun x178 => ?_)
      refine J_callVi (k2 := kSp_rate) (ci := 10) (T := TX10) (N := 14) (as := [.int x176, .int x177, .int x178]) (pc' := 879) ok (dOf dL_law_22 16 rfl) rfl (cw_Sp_rate (by decide) (by decide)) wml_L_114 winst_X10_rate wsel_X10_rate rfl ⟨by decide, by decide⟩ (Nat.le_of_ble_eq_true rfl) rfl (fun _ _ hf => t_Sp_rate hf) (fun x180 h179 => ?_)
      refine J_aload_n (pc' := 880) ok (dOf dL_law_22 17 rfl) rfl rfl rfl ?_
      refine J_aload_n (pc' := 881) ok (dOf dL_law_22 18 rfl) rfl rfl rfl ?_
      refine J_iload_n (pc' := 882) ok (dOf dL_law_22 19 rfl) rfl rfl rfl ?_
      refine J_iconst (v := 1) (pc' := 883) ok (dOf dL_law_22 20 rfl) rfl (by decide) ?_
      refine J_iadd (pc' := 884) ok (dOf dL_law_22 21 rfl) rfl ?_
      refine J_sld hX (pc' := 885) ok (dOf dL_law_22 22 rfl) rfl (fun x181 => ?_)
      refine J_aload_n (pc' := 886) ok (dOf dL_law_22 23 rfl) rfl rfl rfl ?_
      refine J_iload_n (pc' := 887) ok (dOf dL_law_22 24 rfl) rfl rfl rfl ?_
      refine J_iconst (v := 2) (pc' := 888) ok (dOf dL_law_23 0 rfl) rfl (by decide) ?_
      refine J_iadd (pc' := 889) ok (dOf dL_law_23 1 rfl) rfl ?_
      refine J_sld hX (pc' := 890) ok (dOf dL_law_23 2 rfl) rfl (fun x182 => ?_)
      refine J_aload_n (pc' := 891) ok (dOf dL_law_23 3 rfl) rfl rfl rfl ?_
      refine J_iload_n (pc' := 892) ok (dOf dL_law_23 4 rfl) rfl rfl rfl ?_
      refine J_iconst (v := 3) (pc' := 893) ok (dOf dL_law_23 5 rfl) rfl (by decide) ?_
      refine J_iadd (pc' := 894) ok (dOf dL_law_23 6 rfl) rfl ?_
      refine J_sld hX (pc' := 895) ok (dOf dL_law_23 7 rfl) rfl (fun x183 => ?_)
      refine J_callVi (k2 := kMod_rate) (ci := 11) (T := TX11) (N := 29) (as := [.int x181, .int x182, .int x183]) (pc' := 898) ok (dOf dL_law_23 8 rfl) rfl (cw_Mod_rate (by decide) (by decide)) wml_L_117 winst_X11_rate wsel_X11_rate rfl ⟨by decide, by decide⟩ (Nat.le_of_ble_eq_true rfl) rfl (fun _ _ hf => t_Mod_rate hf) (fun x185 h184 => ?_)
      refine J_icmp_eq (tgt := 1134) (pc' := 901) ok (dOf dL_law_23 9 rfl) rfl (by decide) ?_ ?_
      · exact L_law_j1134_J ok hX v1 v2 s.1 h184 k1 kx1140
      · exact fun z hz _ => by cases hz
    · refine J_aload_n (pc' := 904) ok (dOf dL_law_23 12 rfl) rfl rfl rfl ?_
      refine J_aload_n (pc' := 905) ok (dOf dL_law_23 13 rfl) rfl rfl rfl ?_
      refine J_iload_n (pc' := 906) ok (dOf dL_law_23 14 rfl) rfl rfl rfl ?_
      refine J_iconst (v := 1) (pc' := 907) ok (dOf dL_law_23 15 rfl) rfl (by decide) ?_
      refine J_iadd (pc' := 908) ok (dOf dL_law_23 16 rfl) rfl ?_
      refine J_sld hX (pc' := 909) ok (dOf dL_law_23 17 rfl) rfl (fun x186 => ?_)
      refine J_callVi (k2 := kSp_floor) (ci := 10) (T := TX10) (N := 14) (as := [.int x186]) (pc' := 912) ok (dOf dL_law_23 18 rfl) rfl (cw_Sp_floor (by decide) (by decide)) wml_L_118 winst_X10_floor wsel_X10_floor rfl ⟨by decide, by decide⟩ (Nat.le_of_ble_eq_true rfl) rfl (fun _ _ hf => t_Sp_floor hf) (fun x188 h187 => ?_)
      refine J_aload_n (pc' := 913) ok (dOf dL_law_23 19 rfl) rfl rfl rfl ?_
      refine J_aload_n (pc' := 914) ok (dOf dL_law_23 20 rfl) rfl rfl rfl ?_
      refine J_iload_n (pc' := 915) ok (dOf dL_law_23 21 rfl) rfl rfl rfl ?_
      refine J_iconst (v := 1) (pc' := 916) ok (dOf dL_law_23 22 rfl) rfl (by decide) ?_
      refine J_iadd (pc' := 917) ok (dOf dL_law_23 23 rfl) rfl ?_
      refine J_sld hX (pc' := 918) ok (dOf dL_law_23 24 rfl) rfl (fun x189 => ?_)
      refine J_callVi (k2 := kMod_floor) (ci := 11) (T := TX11) (N := 29) (as := [.int x189]) (pc' := 921) ok (dOf dL_law_24 0 rfl) rfl (cw_Mod_floor (by decide) (by decide)) wml_L_121 winst_X11_floor wsel_X11_floor rfl ⟨by decide, by decide⟩ (Nat.le_of_ble_eq_true rfl) rfl (fun _ _ hf => t_Mod_floor hf) (fun x191 h190 => ?_)
      refine J_icmp_eq (tgt := 1134) (pc' := 924) ok (dOf dL_law_24 1 rfl) rfl (by decide) ?_ ?_
      · exact L_law_j1134_J ok hX v1 v2 s.1 h190 k1 kx1140
      · exact fun z hz _ => by cases hz
    · refine J_aload_n (pc' := 927) ok (dOf dL_law_24 4 rfl) rfl rfl rfl ?_
      refine J_aload_n (pc' := 928) ok (dOf dL_law_24 5 rfl) rfl rfl rfl ?_
      refine J_iload_n (pc' := 929) ok (dOf dL_law_24 6 rfl) rfl rfl rfl ?_
      refine J_iconst (v := 1) (pc' := 930) ok (dOf dL_law_24 7 rfl) rfl (by decide) ?_
      refine J_iadd (pc' := 931) ok (dOf dL_law_24 8 rfl) rfl ?_
      refine J_sld hX (pc' := 932) ok (dOf dL_law_24 9 rfl) rfl (fun x192 => ?_)
      refine J_callVi (k2 := kSp_total) (ci := 10) (T := TX10) (N := 14) (as := [.int x192]) (pc' := 935) ok (dOf dL_law_24 10 rfl) rfl (cw_Sp_total (by decide) (by decide)) wml_L_122 winst_X10_total wsel_X10_total rfl ⟨by decide, by decide⟩ (Nat.le_of_ble_eq_true rfl) rfl (fun _ _ hf => t_Sp_total hf) (fun x194 h193 => ?_)
      refine J_aload_n (pc' := 936) ok (dOf dL_law_24 11 rfl) rfl rfl rfl ?_
      refine J_aload_n (pc' := 937) ok (dOf dL_law_24 12 rfl) rfl rfl rfl ?_
      refine J_iload_n (pc' := 938) ok (dOf dL_law_24 13 rfl) rfl rfl rfl ?_
      refine J_iconst (v := 1) (pc' := 939) ok (dOf dL_law_24 14 rfl) rfl (by decide) ?_
      refine J_iadd (pc' := 940) ok (dOf dL_law_24 15 rfl) rfl ?_
      refine J_sld hX (pc' := 941) ok (dOf dL_law_24 16 rfl) rfl (fun x195 => ?_)
      refine J_callVi (k2 := kMod_total) (ci := 11) (T := TX11) (N := 29) (as := [.int x195]) (pc' := 944) ok (dOf dL_law_24 17 rfl) rfl (cw_Mod_total (by decide) (by decide)) wml_L_125 winst_X11_total wsel_X11_total rfl ⟨by decide, by decide⟩ (Nat.le_of_ble_eq_true rfl) rfl (fun _ _ hf => t_Mod_total hf) (fun x197 h196 => ?_)
      refine J_icmp_eq (tgt := 1134) (pc' := 947) ok (dOf dL_law_24 18 rfl) rfl (by decide) ?_ ?_
      · exact L_law_j1134_J ok hX v1 v2 s.1 h196 k1 kx1140
      · exact fun z hz _ => by cases hz
    · refine J_aload_n (pc' := 950) ok (dOf dL_law_24 21 rfl) rfl rfl rfl ?_
      refine J_aload_n (pc' := 951) ok (dOf dL_law_24 22 rfl) rfl rfl rfl ?_
      refine J_iload_n (pc' := 952) ok (dOf dL_law_24 23 rfl) rfl rfl rfl ?_
      refine J_iconst (v := 1) (pc' := 953) ok (dOf dL_law_24 24 rfl) rfl (by decide) ?_
      refine J_iadd (pc' := 954) ok (dOf dL_law_25 0 rfl) rfl ?_
      refine J_sld hX (pc' := 955) ok (dOf dL_law_25 1 rfl) rfl (fun x198 => ?_)
      refine J_callVi (k2 := kSp_least) (ci := 10) (T := TX10) (N := 14) (as := [.int x198]) (pc' := 958) ok (dOf dL_law_25 2 rfl) rfl (cw_Sp_least (by decide) (by decide)) wml_L_126 winst_X10_least wsel_X10_least rfl ⟨by decide, by decide⟩ (Nat.le_of_ble_eq_true rfl) rfl (fun _ _ hf => t_Sp_least hf) (fun x200 h199 => ?_)
      refine J_aload_n (pc' := 959) ok (dOf dL_law_25 3 rfl) rfl rfl rfl ?_
      refine J_aload_n (pc' := 960) ok (dOf dL_law_25 4 rfl) rfl rfl rfl ?_
      refine J_iload_n (pc' := 961) ok (dOf dL_law_25 5 rfl) rfl rfl rfl ?_
      refine J_iconst (v := 1) (pc' := 962) ok (dOf dL_law_25 6 rfl) rfl (by decide) ?_
      refine J_iadd (pc' := 963) ok (dOf dL_law_25 7 rfl) rfl ?_
      refine J_sld hX (pc' := 964) ok (dOf dL_law_25 8 rfl) rfl (fun x201 => ?_)
      refine J_callVi (k2 := kMod_least) (ci := 11) (T := TX11) (N := 29) (as := [.int x201]) (pc' := 967) ok (dOf dL_law_25 9 rfl) rfl (cw_Mod_least (by decide) (by decide)) wml_L_129 winst_X11_least wsel_X11_least rfl ⟨by decide, by decide⟩ (Nat.le_of_ble_eq_true rfl) rfl (fun _ _ hf => t_Mod_least hf) (fun x203 h202 => ?_)
      refine J_icmp_eq (tgt := 1134) (pc' := 970) ok (dOf dL_law_25 10 rfl) rfl (by decide) ?_ ?_
      · exact L_law_j1134_J ok hX v1 v2 s.1 h202 k1 kx1140
      · exact fun z hz _ => by cases hz
    · refine J_aload_n (pc' := 973) ok (dOf dL_law_25 13 rfl) rfl rfl rfl ?_
      refine J_aload_n (pc' := 974) ok (dOf dL_law_25 14 rfl) rfl rfl rfl ?_
      refine J_iload_n (pc' := 975) ok (dOf dL_law_25 15 rfl) rfl rfl rfl ?_
      refine J_iconst (v := 1) (pc' := 976) ok (dOf dL_law_25 16 rfl) rfl (by decide) ?_
      refine J_iadd (pc' := 977) ok (dOf dL_law_25 17 rfl) rfl ?_
      refine J_sld hX (pc' := 978) ok (dOf dL_law_25 18 rfl) rfl (fun x204 => ?_)
      refine J_callVi (k2 := kSp_regret) (ci := 10) (T := TX10) (N := 14) (as := [.int x204]) (pc' := 981) ok (dOf dL_law_25 19 rfl) rfl (cw_Sp_regret (by decide) (by decide)) wml_L_130 winst_X10_regret wsel_X10_regret rfl ⟨by decide, by decide⟩ (Nat.le_of_ble_eq_true rfl) rfl (fun _ _ hf => t_Sp_regret hf) (fun x206 h205 => ?_)
      refine J_aload_n (pc' := 982) ok (dOf dL_law_25 20 rfl) rfl rfl rfl ?_
      refine J_aload_n (pc' := 983) ok (dOf dL_law_25 21 rfl) rfl rfl rfl ?_
      refine J_iload_n (pc' := 984) ok (dOf dL_law_25 22 rfl) rfl rfl rfl ?_
      refine J_iconst (v := 1) (pc' := 985) ok (dOf dL_law_25 23 rfl) rfl (by decide) ?_
      refine J_iadd (pc' := 986) ok (dOf dL_law_25 24 rfl) rfl ?_
      refine J_sld hX (pc' := 987) ok (dOf dL_law_26 0 rfl) rfl (fun x207 => ?_)
      refine J_callVi (k2 := kMod_regret) (ci := 11) (T := TX11) (N := 29) (as := [.int x207]) (pc' := 990) ok (dOf dL_law_26 1 rfl) rfl (cw_Mod_regret (by decide) (by decide)) wml_L_133 winst_X11_regret wsel_X11_regret rfl ⟨by decide, by decide⟩ (Nat.le_of_ble_eq_true rfl) rfl (fun _ _ hf => t_Mod_regret hf) (fun x209 h208 => ?_)
      refine J_icmp_eq (tgt := 1134) (pc' := 993) ok (dOf dL_law_26 2 rfl) rfl (by decide) ?_ ?_
      · exact L_law_j1134_J ok hX v1 v2 s.1 h208 k1 kx1140
      · exact fun z hz _ => by cases hz
    · refine J_aload_n (pc' := 996) ok (dOf dL_law_26 5 rfl) rfl rfl rfl ?_
      refine J_aload_n (pc' := 997) ok (dOf dL_law_26 6 rfl) rfl rfl rfl ?_
      refine J_iload_n (pc' := 998) ok (dOf dL_law_26 7 rfl) rfl rfl rfl ?_
      refine J_iconst (v := 1) (pc' := 999) ok (dOf dL_law_26 8 rfl) rfl (by decide) ?_
      refine J_iadd (pc' := 1000) ok (dOf dL_law_26 9 rfl) rfl ?_
      refine J_sld hX (pc' := 1001) ok (dOf dL_law_26 10 rfl) rfl (fun x210 => ?_)
      refine J_callVl (k2 := kSp_mean) (ci := 10) (T := TX10) (N := 14) (as := [.int x210]) (pc' := 1004) ok (dOf dL_law_26 11 rfl) rfl (cw_Sp_mean (by decide) (by decide)) wml_L_134 winst_X10_mean wsel_X10_mean rfl ⟨by decide, by decide⟩ (Nat.le_of_ble_eq_true rfl) rfl (fun _ _ hf => t_Sp_mean hf) (fun x212 h211 => ?_)
      refine J_aload_n (pc' := 1005) ok (dOf dL_law_26 12 rfl) rfl rfl rfl ?_
      refine J_aload_n (pc' := 1006) ok (dOf dL_law_26 13 rfl) rfl rfl rfl ?_
      refine J_iload_n (pc' := 1007) ok (dOf dL_law_26 14 rfl) rfl rfl rfl ?_
      refine J_iconst (v := 1) (pc' := 1008) ok (dOf dL_law_26 15 rfl) rfl (by decide) ?_
      refine J_iadd (pc' := 1009) ok (dOf dL_law_26 16 rfl) rfl ?_
      refine J_sld hX (pc' := 1010) ok (dOf dL_law_26 17 rfl) rfl (fun x213 => ?_)
      refine J_callVl (k2 := kMod_mean) (ci := 11) (T := TX11) (N := 29) (as := [.int x213]) (pc' := 1013) ok (dOf dL_law_26 18 rfl) rfl (cw_Mod_mean (by decide) (by decide)) wml_L_138 winst_X11_mean wsel_X11_mean rfl ⟨by decide, by decide⟩ (Nat.le_of_ble_eq_true rfl) rfl (fun _ _ hf => t_Mod_mean hf) (fun x215 h214 => ?_)
      refine J_lcmp (pc' := 1014) ok (dOf dL_law_26 19 rfl) rfl ?_
      refine J_if_eq (tgt := 1134) (pc' := 1017) ok (dOf dL_law_26 20 rfl) rfl (by decide) ?_ ?_
      · exact L_law_j1134_J ok hX v1 v2 s.1 h214 k1 kx1140
      · exact fun z hz _ => by cases hz
    · refine J_aload_n (pc' := 1020) ok (dOf dL_law_26 23 rfl) rfl rfl rfl ?_
      refine J_aload_n (pc' := 1021) ok (dOf dL_law_26 24 rfl) rfl rfl rfl ?_
      refine J_iload_n (pc' := 1022) ok (dOf dL_law_27 0 rfl) rfl rfl rfl ?_
      refine J_iconst (v := 1) (pc' := 1023) ok (dOf dL_law_27 1 rfl) rfl (by decide) ?_
      refine J_iadd (pc' := 1024) ok (dOf dL_law_27 2 rfl) rfl ?_
      refine J_sld hX (pc' := 1025) ok (dOf dL_law_27 3 rfl) rfl (fun x216 => ?_)
      refine J_aload_n (pc' := 1026) ok (dOf dL_law_27 4 rfl) rfl rfl rfl ?_
      refine J_iload_n (pc' := 1027) ok (dOf dL_law_27 5 rfl) rfl rfl rfl ?_
      refine J_iconst (v := 2) (pc' := 1028) ok (dOf dL_law_27 6 rfl) rfl (by decide) ?_
      refine J_iadd (pc' := 1029) ok (dOf dL_law_27 7 rfl) rfl ?_
      refine J_sld hX (pc' := 1030) ok (dOf dL_law_27 8 rfl) rfl (fun x217 => ?_)
      refine J_callVi (k2 := kSp_would) (ci := 10) (T := TX10) (N := 14) (as := [.int x216, .int x217]) (pc' := 1033) ok (dOf dL_law_27 9 rfl) rfl (cw_Sp_would (by decide) (by decide)) wml_L_139 winst_X10_would wsel_X10_would rfl ⟨by decide, by decide⟩ (Nat.le_of_ble_eq_true rfl) rfl (fun _ _ hf => t_Sp_would hf) (fun x219 h218 => ?_)
      refine J_aload_n (pc' := 1034) ok (dOf dL_law_27 10 rfl) rfl rfl rfl ?_
      refine J_aload_n (pc' := 1035) ok (dOf dL_law_27 11 rfl) rfl rfl rfl ?_
      refine J_iload_n (pc' := 1036) ok (dOf dL_law_27 12 rfl) rfl rfl rfl ?_
      refine J_iconst (v := 1) (pc' := 1037) ok (dOf dL_law_27 13 rfl) rfl (by decide) ?_
      refine J_iadd (pc' := 1038) ok (dOf dL_law_27 14 rfl) rfl ?_
      refine J_sld hX (pc' := 1039) ok (dOf dL_law_27 15 rfl) rfl (fun x220 => ?_)
      refine J_aload_n (pc' := 1040) ok (dOf dL_law_27 16 rfl) rfl rfl rfl ?_
      refine J_iload_n (pc' := 1041) ok (dOf dL_law_27 17 rfl) rfl rfl rfl ?_
      refine J_iconst (v := 2) (pc' := 1042) ok (dOf dL_law_27 18 rfl) rfl (by decide) ?_
      refine J_iadd (pc' := 1043) ok (dOf dL_law_27 19 rfl) rfl ?_
      refine J_sld hX (pc' := 1044) ok (dOf dL_law_27 20 rfl) rfl (fun x221 => ?_)
      refine J_callVi (k2 := kMod_would) (ci := 11) (T := TX11) (N := 29) (as := [.int x220, .int x221]) (pc' := 1047) ok (dOf dL_law_27 21 rfl) rfl (cw_Mod_would (by decide) (by decide)) wml_L_142 winst_X11_would wsel_X11_would rfl ⟨by decide, by decide⟩ (Nat.le_of_ble_eq_true rfl) rfl (fun _ _ hf => t_Mod_would hf) (fun x223 h222 => ?_)
      refine J_icmp_eq (tgt := 1134) (pc' := 1050) ok (dOf dL_law_27 22 rfl) rfl (by decide) ?_ ?_
      · exact L_law_j1134_J ok hX v1 v2 s.1 h222 k1 kx1140
      · exact fun z hz _ => by cases hz
    · refine J_aload_n (pc' := 1053) ok (dOf dL_law_28 0 rfl) rfl rfl rfl ?_
      refine J_aload_n (pc' := 1054) ok (dOf dL_law_28 1 rfl) rfl rfl rfl ?_
      refine J_iload_n (pc' := 1055) ok (dOf dL_law_28 2 rfl) rfl rfl rfl ?_
      refine J_iconst (v := 1) (pc' := 1056) ok (dOf dL_law_28 3 rfl) rfl (by decide) ?_
      refine J_iadd (pc' := 1057) ok (dOf dL_law_28 4 rfl) rfl ?_
      refine J_sld hX (pc' := 1058) ok (dOf dL_law_28 5 rfl) rfl (fun x224 => ?_)
      refine J_callVi (k2 := kSp_image) (ci := 10) (T := TX10) (N := 14) (as := [.int x224]) (pc' := 1061) ok (dOf dL_law_28 6 rfl) rfl (cw_Sp_image (by decide) (by decide)) wml_L_143 winst_X10_image wsel_X10_image rfl ⟨by decide, by decide⟩ (Nat.le_of_ble_eq_true rfl) rfl (fun _ _ hf => t_Sp_image hf) (fun x226 h225 => ?_)
      refine J_aload_n (pc' := 1062) ok (dOf dL_law_28 7 rfl) rfl rfl rfl ?_
      refine J_aload_n (pc' := 1063) ok (dOf dL_law_28 8 rfl) rfl rfl rfl ?_
      refine J_iload_n (pc' := 1064) ok (dOf dL_law_28 9 rfl) rfl rfl rfl ?_
      refine J_iconst (v := 1) (pc' := 1065) ok (dOf dL_law_28 10 rfl) rfl (by decide) ?_
      refine J_iadd (pc' := 1066) ok (dOf dL_law_28 11 rfl) rfl ?_
      refine J_sld hX (pc' := 1067) ok (dOf dL_law_28 12 rfl) rfl (fun x227 => ?_)
      refine J_callVi (k2 := kMod_image) (ci := 11) (T := TX11) (N := 29) (as := [.int x227]) (pc' := 1070) ok (dOf dL_law_28 13 rfl) rfl (cw_Mod_image (by decide) (by decide)) wml_L_146 winst_X11_image wsel_X11_image rfl ⟨by decide, by decide⟩ (Nat.le_of_ble_eq_true rfl) rfl (fun _ _ hf => t_Mod_image hf) (fun x229 h228 => ?_)
      refine J_icmp_eq (tgt := 1134) (pc' := 1073) ok (dOf dL_law_28 14 rfl) rfl (by decide) ?_ ?_
      · exact L_law_j1134_J ok hX v1 v2 s.1 h228 k1 kx1140
      · exact fun z hz _ => by cases hz
    · refine J_aload_n (pc' := 1076) ok (dOf dL_law_28 17 rfl) rfl rfl rfl ?_
      refine J_aload_n (pc' := 1077) ok (dOf dL_law_28 18 rfl) rfl rfl rfl ?_
      refine J_iload_n (pc' := 1078) ok (dOf dL_law_28 19 rfl) rfl rfl rfl ?_
      refine J_iconst (v := 1) (pc' := 1079) ok (dOf dL_law_28 20 rfl) rfl (by decide) ?_
      refine J_iadd (pc' := 1080) ok (dOf dL_law_28 21 rfl) rfl ?_
      refine J_sld hX (pc' := 1081) ok (dOf dL_law_28 22 rfl) rfl (fun x230 => ?_)
      refine J_callVi (k2 := kSp_back) (ci := 10) (T := TX10) (N := 14) (as := [.int x230]) (pc' := 1084) ok (dOf dL_law_28 23 rfl) rfl (cw_Sp_back (by decide) (by decide)) wml_L_147 winst_X10_back wsel_X10_back rfl ⟨by decide, by decide⟩ (Nat.le_of_ble_eq_true rfl) rfl (fun _ _ hf => t_Sp_back hf) (fun x232 h231 => ?_)
      refine J_aload_n (pc' := 1085) ok (dOf dL_law_28 24 rfl) rfl rfl rfl ?_
      refine J_aload_n (pc' := 1086) ok (dOf dL_law_29 0 rfl) rfl rfl rfl ?_
      refine J_iload_n (pc' := 1087) ok (dOf dL_law_29 1 rfl) rfl rfl rfl ?_
      refine J_iconst (v := 1) (pc' := 1088) ok (dOf dL_law_29 2 rfl) rfl (by decide) ?_
      refine J_iadd (pc' := 1089) ok (dOf dL_law_29 3 rfl) rfl ?_
      refine J_sld hX (pc' := 1090) ok (dOf dL_law_29 4 rfl) rfl (fun x233 => ?_)
      refine J_callVi (k2 := kMod_back) (ci := 11) (T := TX11) (N := 29) (as := [.int x233]) (pc' := 1093) ok (dOf dL_law_29 5 rfl) rfl (cw_Mod_back (by decide) (by decide)) wml_L_150 winst_X11_back wsel_X11_back rfl ⟨by decide, by decide⟩ (Nat.le_of_ble_eq_true rfl) rfl (fun _ _ hf => t_Mod_back hf) (fun x235 h234 => ?_)
      refine J_icmp_eq (tgt := 1134) (pc' := 1096) ok (dOf dL_law_29 6 rfl) rfl (by decide) ?_ ?_
      · exact L_law_j1134_J ok hX v1 v2 s.1 h234 k1 kx1140
      · exact fun z hz _ => by cases hz
    · refine J_aload_n (pc' := 1099) ok (dOf dL_law_29 9 rfl) rfl rfl rfl ?_
      refine J_aload_n (pc' := 1100) ok (dOf dL_law_29 10 rfl) rfl rfl rfl ?_
      refine J_iload_n (pc' := 1101) ok (dOf dL_law_29 11 rfl) rfl rfl rfl ?_
      refine J_iconst (v := 1) (pc' := 1102) ok (dOf dL_law_29 12 rfl) rfl (by decide) ?_
      refine J_iadd (pc' := 1103) ok (dOf dL_law_29 13 rfl) rfl ?_
      refine J_sld hX (pc' := 1104) ok (dOf dL_law_29 14 rfl) rfl (fun x236 => ?_)
      refine J_callVi (k2 := kSp_count) (ci := 10) (T := TX10) (N := 14) (as := [.int x236]) (pc' := 1107) ok (dOf dL_law_29 15 rfl) rfl (cw_Sp_count (by decide) (by decide)) wml_L_151 winst_X10_count wsel_X10_count rfl ⟨by decide, by decide⟩ (Nat.le_of_ble_eq_true rfl) rfl (fun _ _ hf => t_Sp_count hf) (fun x238 h237 => ?_)
      refine J_aload_n (pc' := 1108) ok (dOf dL_law_29 16 rfl) rfl rfl rfl ?_
      refine J_aload_n (pc' := 1109) ok (dOf dL_law_29 17 rfl) rfl rfl rfl ?_
      refine J_iload_n (pc' := 1110) ok (dOf dL_law_29 18 rfl) rfl rfl rfl ?_
      refine J_iconst (v := 1) (pc' := 1111) ok (dOf dL_law_29 19 rfl) rfl (by decide) ?_
      refine J_iadd (pc' := 1112) ok (dOf dL_law_29 20 rfl) rfl ?_
      refine J_sld hX (pc' := 1113) ok (dOf dL_law_29 21 rfl) rfl (fun x239 => ?_)
      refine J_callVi (k2 := kMod_count) (ci := 11) (T := TX11) (N := 29) (as := [.int x239]) (pc' := 1116) ok (dOf dL_law_29 22 rfl) rfl (cw_Mod_count (by decide) (by decide)) wml_L_154 winst_X11_count wsel_X11_count rfl ⟨by decide, by decide⟩ (Nat.le_of_ble_eq_true rfl) rfl (fun _ _ hf => t_Mod_count hf) (fun x241 h240 => ?_)
      refine J_icmp_eq (tgt := 1134) (pc' := 1119) ok (dOf dL_law_29 23 rfl) rfl (by decide) ?_ ?_
      · exact L_law_j1134_J ok hX v1 v2 s.1 h240 k1 kx1140
      · exact fun z hz _ => by cases hz
    · refine J_aload_n (pc' := 1122) ok (dOf dL_law_30 1 rfl) rfl rfl rfl ?_
      refine J_callVi (k2 := kSp_status) (ci := 10) (T := TX10) (N := 14) (as := []) (pc' := 1125) ok (dOf dL_law_30 2 rfl) rfl (cw_Sp_status (by decide) (by decide)) wml_L_155 winst_X10_status wsel_X10_status rfl ⟨by decide, by decide⟩ (Nat.le_of_ble_eq_true rfl) rfl (fun _ _ hf => t_Sp_status hf) (fun x243 h242 => ?_)
      refine J_aload_n (pc' := 1126) ok (dOf dL_law_30 3 rfl) rfl rfl rfl ?_
      refine J_callVi (k2 := kMod_status) (ci := 11) (T := TX11) (N := 29) (as := []) (pc' := 1129) ok (dOf dL_law_30 4 rfl) rfl (cw_Mod_status (by decide) (by decide)) wml_L_158 winst_X11_status wsel_X11_status rfl ⟨by decide, by decide⟩ (Nat.le_of_ble_eq_true rfl) rfl (fun _ _ hf => t_Mod_status hf) (fun x245 h244 => ?_)
      refine J_icmp_eq (tgt := 1134) (pc' := 1132) ok (dOf dL_law_30 5 rfl) rfl (by decide) ?_ ?_
      · exact L_law_j1134_J ok hX v1 v2 s.1 h244 k1 kx1140
      · exact fun z hz _ => by cases hz
def L_law_j1140 (L : Nat) (xs : Nat → Int32) (v1 : Nat) (v2 : Nat) (v3 : Int32) (h : AHeap) : Option (Int32 × AHeap) :=
  (bz 1).bind fun z => some (z, h)
theorem L_law_j1140_J {E : JE} {l : Launch} {G : GX} {v : Int32} {h' : AHeap} {b L : Nat} {xs : Nat → Int32} (ok : JOK E l G kL_law 292 38409 (some (.int v)) h') (hX : EX E b L xs) (v1 : Nat) (v2 : Nat) (v3 : Int32) (h : AHeap) : J E kL_law (L_law_j1140 L xs v1 v2 v3 h) (fun z => z = (v, h')) 1140 [some (.ref (FB + 11)), some (.ref v1), some (.ref v2), some (.int v3)] [] h 292 38409 := by
  unfold L_law_j1140
  refine J_iconst (v := 1) (pc' := 1141) ok (dOf dL_law_30 10 rfl) rfl (by decide) ?_
  exact J_zreturn ok (dOf dL_law_30 11 rfl) rfl (by decide) (by decide)
def L_law (L : Nat) (xs : Nat → Int32) (h : AHeap) : Option (Int32 × AHeap) :=
  bnd2 (alc h (.inl (10, [.null, .null, .null, .null, .null, .null, .null, .null, .null, .null, .null, .null, .null, .int 0]))) fun a1 h2 => bnd2 (Sp_init a1 h2) fun _ h3 => bnd2 (alc h3 (.inl (11, [.int 0, .null, .null, .null, .null, .null, .null, .null, .null, .int 0, .int 0, .null, .null, .int 0, .int 0, .null, .null, .int 0, .int 0, .int 0, .int 0, .int 0, .int 0, .null, .null, .null, .null, .int 0, .null]))) fun a4 h5 => bnd2 (Mod_init a4 h5) fun _ h6 => (iter (L_law_b18 L xs a1 a4) Lmax (0, h6)).bind (fun (q18 : Int32 × AHeap) => L_law_j1140 L xs a1 a4 q18.1 q18.2)
theorem t_L_law {E : JE} {l : Launch} {G : GX} {v : Int32} {h h' : AHeap} {b L : Nat} {xs : Nat → Int32} (ok : JOK E l G kL_law 292 38409 (some (.int v)) h') (hX : EX E b L xs) : J E kL_law (L_law L xs h) (fun z => z = (v, h')) 0 [some (.ref (FB + 11)), none, none, none] [] h 0 0 := by
  unfold L_law
  refine J_new (ci := 10) (C := RX10) (T := TX10) (N := 14) (fs := [.null, .null, .null, .null, .null, .null, .null, .null, .null, .null, .null, .null, .null, .int 0]) (pc' := 3) ok tyX10 (dOf dL_law_0 0 rfl) rfl rfl win_10 tyX10_ok wcl_L_7 wins_X10 wini_SplitProgram (by decide +kernel) (by decide +kernel) (by decide) (by decide) (fun a1 h2 => ?_)
  refine J_dup (pc' := 4) ok (dOf dL_law_0 1 rfl) rfl rfl ?_
  refine J_callIv (k2 := kSp_init) (mc2 := 273) (ms2 := 13594) (as := []) (pc' := 7) ok (dOf dL_law_0 2 rfl) rfl (cw_Sp_init (by decide) (by decide)) wml_L_9 winst_X10_init rfl rfl ⟨by decide, by decide⟩ (Nat.le_of_ble_eq_true rfl) rfl (fun _ _ hf => t_Sp_init hf) (fun _ h3 => ?_)
  refine J_astore_n (ls' := [some (.ref (FB + 11)), some (.ref a1), none, none]) (pc' := 8) ok (dOf dL_law_0 3 rfl) rfl rfl (Nat.le_of_ble_eq_true rfl) rfl rfl ?_
  refine J_new (ci := 11) (C := RX11) (T := TX11) (N := 29) (fs := [.int 0, .null, .null, .null, .null, .null, .null, .null, .null, .int 0, .int 0, .null, .null, .int 0, .int 0, .null, .null, .int 0, .int 0, .int 0, .int 0, .int 0, .int 0, .null, .null, .null, .null, .int 0, .null]) (pc' := 11) ok tyX11 (dOf dL_law_0 4 rfl) rfl rfl win_11 tyX11_ok wcl_L_10 wins_X11 wini_SplitProgramModel (by decide +kernel) (by decide +kernel) (by decide) (by decide) (fun a4 h5 => ?_)
  refine J_dup (pc' := 12) ok (dOf dL_law_0 5 rfl) rfl rfl ?_
  refine J_callIv (k2 := kMod_init) (mc2 := 17) (ms2 := 24772) (as := []) (pc' := 15) ok (dOf dL_law_0 6 rfl) rfl (cw_Mod_init (by decide) (by decide)) wml_L_12 winst_X11_init rfl rfl ⟨by decide, by decide⟩ (Nat.le_of_ble_eq_true rfl) rfl (fun _ _ hf => t_Mod_init hf) (fun _ h6 => ?_)
  refine J_astore_n (ls' := [some (.ref (FB + 11)), some (.ref a1), some (.ref a4), none]) (pc' := 16) ok (dOf dL_law_0 7 rfl) rfl rfl (Nat.le_of_ble_eq_true rfl) rfl rfl ?_
  refine J_iconst (v := 0) (pc' := 17) ok (dOf dL_law_0 8 rfl) rfl (by decide) ?_
  refine J_istore_n (ls' := [some (.ref (FB + 11)), some (.ref a1), some (.ref a4), some (.int 0)]) (pc' := 18) ok (dOf dL_law_0 9 rfl) rfl rfl (Nat.le_of_ble_eq_true rfl) rfl rfl ?_
  refine J_iter (lf := fun z18 => [some (.ref (FB + 11)), some (.ref a1), some (.ref a4), some (.int z18.1)]) (sf := fun _ => []) (hf := fun z18 => z18.2) (px := (fun (q18 : Int32 × AHeap) => 1140)) (lx := (fun (q18 : Int32 × AHeap) => [some (.ref (FB + 11)), some (.ref a1), some (.ref a4), some (.int q18.1)])) (sx := (fun (q18 : Int32 × AHeap) => [])) (hx := (fun (q18 : Int32 × AHeap) => q18.2)) (fun Y2 z18 m1 m2 => L_law_b18_J ok hX a1 a4 m1 m2 z18) (fun q18 => ?_) Lmax _
  exact L_law_j1140_J ok hX a1 a4 q18.1 q18.2
