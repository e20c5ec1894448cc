set_option maxRecDepth 20000 in
theorem ini_L : Cond.initialized RL ∈ lw_good := lw_in (List.mem_of_getElem? (i := 77) (by decide +kernel)) rfl
set_option maxRecDepth 20000 in
theorem ini_X7 : Cond.initialized RX7 ∈ lw_good := lw_in (List.mem_of_getElem? (i := 78) (by decide +kernel)) rfl
set_option maxRecDepth 20000 in
theorem ini_X2 : Cond.initialized RX2 ∈ lw_good := lw_in (List.mem_of_getElem? (i := 79) (by decide +kernel)) rfl
set_option maxRecDepth 20000 in
theorem ini_X1 : Cond.initialized RX1 ∈ lw_good := lw_in (List.mem_of_getElem? (i := 80) (by decide +kernel)) rfl
set_option maxRecDepth 20000 in
theorem ini_X3 : Cond.initialized RX3 ∈ lw_good := lw_in (List.mem_of_getElem? (i := 81) (by decide +kernel)) rfl
set_option maxRecDepth 20000 in
theorem ini_X5 : Cond.initialized RX5 ∈ lw_good := lw_in (List.mem_of_getElem? (i := 82) (by decide +kernel)) rfl
set_option maxRecDepth 20000 in
theorem ini_X4 : Cond.initialized RX4 ∈ lw_good := lw_in (List.mem_of_getElem? (i := 83) (by decide +kernel)) rfl
set_option maxRecDepth 20000 in
theorem ini_X6 : Cond.initialized RX6 ∈ lw_good := lw_in (List.mem_of_getElem? (i := 84) (by decide +kernel)) rfl
set_option maxRecDepth 20000 in
theorem ini_J9 : Cond.initialized RJ9 ∈ lw_good := lw_in (List.mem_of_getElem? (i := 85) (by decide +kernel)) rfl
set_option maxRecDepth 20000 in
theorem ini_X0 : Cond.initialized RX0 ∈ lw_good := lw_in (List.mem_of_getElem? (i := 86) (by decide +kernel)) rfl
set_option maxRecDepth 20000 in
theorem ini_X8 : Cond.initialized RX8 ∈ lw_good := lw_in (List.mem_of_getElem? (i := 87) (by decide +kernel)) rfl
set_option maxRecDepth 20000 in
theorem ini_J6 : Cond.initialized RJ6 ∈ lw_good := lw_in (List.mem_of_getElem? (i := 88) (by decide +kernel)) rfl
set_option maxRecDepth 20000 in
theorem lkM_L_9 : Cond.methodLink RL 9 yX7_init ∈ lw_good := lw_in (List.mem_of_getElem? (i := 91) (by decide +kernel)) rfl
set_option maxRecDepth 20000 in
theorem vi_yX7_init : Cond.instanceMethod yX7_init ∈ lw_good := lw_in (List.mem_of_getElem? (i := 92) (by decide +kernel)) rfl
set_option maxRecDepth 20000 in
theorem lkM_X7_1 : Cond.methodLink RX7 1 objectInit ∈ lw_good := lw_in (List.mem_of_getElem? (i := 94) (by decide +kernel)) rfl
set_option maxRecDepth 20000 in
theorem nkM_X7_9 : Cond.methodLinkNest RX7 9 yX2_init "SingleCopy" ∈ nestW := nest_in (List.mem_of_getElem? (i := 99) (by decide +kernel)) rfl
set_option maxRecDepth 20000 in
theorem vi_yX2_init : Cond.instanceMethod yX2_init ∈ lw_good := lw_in (List.mem_of_getElem? (i := 100) (by decide +kernel)) rfl
set_option maxRecDepth 20000 in
theorem lkM_X2_3 : Cond.methodLink RX2 3 objectInit ∈ lw_good := lw_in (List.mem_of_getElem? (i := 102) (by decide +kernel)) rfl
set_option maxRecDepth 20000 in
theorem lkF_X2_9 : Cond.fieldLink RX2 9 "SingleCopy$CityText" "letters" "[I" ∈ lw_good := lw_in (List.mem_of_getElem? (i := 103) (by decide +kernel)) rfl
set_option maxRecDepth 20000 in
theorem lkF_X2_15 : Cond.fieldLink RX2 15 "SingleCopy$CityText" "count" "I" ∈ lw_good := lw_in (List.mem_of_getElem? (i := 104) (by decide +kernel)) rfl
set_option maxRecDepth 20000 in
theorem nkF_X7_88 : Cond.fieldLinkNest RX7 88 "SingleCopy$CityText" "count" "I" "SingleCopy" ∈ nestW := nest_in (List.mem_of_getElem? (i := 105) (by decide +kernel)) rfl
set_option maxRecDepth 20000 in
theorem lkF_X2_34 : Cond.fieldLink RX2 34 "SingleCopy$CityText" "place" "I" ∈ lw_good := lw_in (List.mem_of_getElem? (i := 106) (by decide +kernel)) rfl
set_option maxRecDepth 20000 in
theorem lkF_X2_102 : Cond.fieldLink RX2 102 "SingleCopy$CityText" "numberPlace" "I" ∈ lw_good := lw_in (List.mem_of_getElem? (i := 107) (by decide +kernel)) rfl
set_option maxRecDepth 20000 in
theorem lkF_X2_19 : Cond.fieldLink RX2 19 "SingleCopy$CityText" "faultNumber" "I" ∈ lw_good := lw_in (List.mem_of_getElem? (i := 108) (by decide +kernel)) rfl
set_option maxRecDepth 20000 in
theorem lkF_X2_22 : Cond.fieldLink RX2 22 "SingleCopy$CityText" "faultPlace" "I" ∈ lw_good := lw_in (List.mem_of_getElem? (i := 109) (by decide +kernel)) rfl
set_option maxRecDepth 20000 in
theorem nkF_X7_110 : Cond.fieldLinkNest RX7 110 "SingleCopy$CityText" "faultPlace" "I" "SingleCopy" ∈ nestW := nest_in (List.mem_of_getElem? (i := 110) (by decide +kernel)) rfl
set_option maxRecDepth 20000 in
theorem lkF_X2_37 : Cond.fieldLink RX2 37 "SingleCopy$CityText" "convincedTold" "Z" ∈ lw_good := lw_in (List.mem_of_getElem? (i := 111) (by decide +kernel)) rfl
set_option maxRecDepth 20000 in
theorem nkM_X7_18 : Cond.methodLinkNest RX7 18 yX1_init "SingleCopy" ∈ nestW := nest_in (List.mem_of_getElem? (i := 130) (by decide +kernel)) rfl
set_option maxRecDepth 20000 in
theorem vi_yX1_init : Cond.instanceMethod yX1_init ∈ lw_good := lw_in (List.mem_of_getElem? (i := 131) (by decide +kernel)) rfl
set_option maxRecDepth 20000 in
theorem lkM_X1_3 : Cond.methodLink RX1 3 objectInit ∈ lw_good := lw_in (List.mem_of_getElem? (i := 133) (by decide +kernel)) rfl
set_option maxRecDepth 20000 in
theorem lkF_X1_34 : Cond.fieldLink RX1 34 "SingleCopy$City" "sheetSize" "I" ∈ lw_good := lw_in (List.mem_of_getElem? (i := 134) (by decide +kernel)) rfl
set_option maxRecDepth 20000 in
theorem nkF_X7_113 : Cond.fieldLinkNest RX7 113 "SingleCopy$City" "sheetSize" "I" "SingleCopy" ∈ nestW := nest_in (List.mem_of_getElem? (i := 135) (by decide +kernel)) rfl
set_option maxRecDepth 20000 in
theorem nkF_X2_87 : Cond.fieldLinkNest RX2 87 "SingleCopy$City" "sheetSize" "I" "SingleCopy" ∈ nestW := nest_in (List.mem_of_getElem? (i := 136) (by decide +kernel)) rfl
set_option maxRecDepth 20000 in
theorem lkF_X1_37 : Cond.fieldLink RX1 37 "SingleCopy$City" "opinions" "I" ∈ lw_good := lw_in (List.mem_of_getElem? (i := 137) (by decide +kernel)) rfl
set_option maxRecDepth 20000 in
theorem nkF_X3_54 : Cond.fieldLinkNest RX3 54 "SingleCopy$City" "opinions" "I" "SingleCopy" ∈ nestW := nest_in (List.mem_of_getElem? (i := 138) (by decide +kernel)) rfl
set_option maxRecDepth 20000 in
theorem nkF_X7_116 : Cond.fieldLinkNest RX7 116 "SingleCopy$City" "opinions" "I" "SingleCopy" ∈ nestW := nest_in (List.mem_of_getElem? (i := 139) (by decide +kernel)) rfl
set_option maxRecDepth 20000 in
theorem nkF_X2_56 : Cond.fieldLinkNest RX2 56 "SingleCopy$City" "opinions" "I" "SingleCopy" ∈ nestW := nest_in (List.mem_of_getElem? (i := 140) (by decide +kernel)) rfl
set_option maxRecDepth 20000 in
theorem lkF_X1_40 : Cond.fieldLink RX1 40 "SingleCopy$City" "facts" "I" ∈ lw_good := lw_in (List.mem_of_getElem? (i := 141) (by decide +kernel)) rfl
set_option maxRecDepth 20000 in
theorem nkF_X7_107 : Cond.fieldLinkNest RX7 107 "SingleCopy$City" "facts" "I" "SingleCopy" ∈ nestW := nest_in (List.mem_of_getElem? (i := 142) (by decide +kernel)) rfl
set_option maxRecDepth 20000 in
theorem nkF_X3_88 : Cond.fieldLinkNest RX3 88 "SingleCopy$City" "facts" "I" "SingleCopy" ∈ nestW := nest_in (List.mem_of_getElem? (i := 143) (by decide +kernel)) rfl
set_option maxRecDepth 20000 in
theorem nkF_X2_84 : Cond.fieldLinkNest RX2 84 "SingleCopy$City" "facts" "I" "SingleCopy" ∈ nestW := nest_in (List.mem_of_getElem? (i := 144) (by decide +kernel)) rfl
set_option maxRecDepth 20000 in
theorem lkF_X1_9 : Cond.fieldLink RX1 9 "SingleCopy$City" "convincedFrom" "I" ∈ lw_good := lw_in (List.mem_of_getElem? (i := 145) (by decide +kernel)) rfl
set_option maxRecDepth 20000 in
theorem nkF_X3_57 : Cond.fieldLinkNest RX3 57 "SingleCopy$City" "convincedFrom" "I" "SingleCopy" ∈ nestW := nest_in (List.mem_of_getElem? (i := 146) (by decide +kernel)) rfl
set_option maxRecDepth 20000 in
theorem nkF_X7_119 : Cond.fieldLinkNest RX7 119 "SingleCopy$City" "convincedFrom" "I" "SingleCopy" ∈ nestW := nest_in (List.mem_of_getElem? (i := 147) (by decide +kernel)) rfl
set_option maxRecDepth 20000 in
theorem nkF_X2_77 : Cond.fieldLinkNest RX2 77 "SingleCopy$City" "convincedFrom" "I" "SingleCopy" ∈ nestW := nest_in (List.mem_of_getElem? (i := 148) (by decide +kernel)) rfl
set_option maxRecDepth 20000 in
theorem lkF_X1_15 : Cond.fieldLink RX1 15 "SingleCopy$City" "firstBeliefs" "[I" ∈ lw_good := lw_in (List.mem_of_getElem? (i := 149) (by decide +kernel)) rfl
set_option maxRecDepth 20000 in
theorem nkF_X3_37 : Cond.fieldLinkNest RX3 37 "SingleCopy$City" "firstBeliefs" "[I" "SingleCopy" ∈ nestW := nest_in (List.mem_of_getElem? (i := 150) (by decide +kernel)) rfl
set_option maxRecDepth 20000 in
theorem nkF_X2_90 : Cond.fieldLinkNest RX2 90 "SingleCopy$City" "firstBeliefs" "[I" "SingleCopy" ∈ nestW := nest_in (List.mem_of_getElem? (i := 151) (by decide +kernel)) rfl
set_option maxRecDepth 20000 in
theorem lkF_X1_19 : Cond.fieldLink RX1 19 "SingleCopy$City" "moved" "[I" ∈ lw_good := lw_in (List.mem_of_getElem? (i := 152) (by decide +kernel)) rfl
set_option maxRecDepth 20000 in
theorem nkF_X3_64 : Cond.fieldLinkNest RX3 64 "SingleCopy$City" "moved" "[I" "SingleCopy" ∈ nestW := nest_in (List.mem_of_getElem? (i := 153) (by decide +kernel)) rfl
set_option maxRecDepth 20000 in
theorem nkF_X7_153 : Cond.fieldLinkNest RX7 153 "SingleCopy$City" "moved" "[I" "SingleCopy" ∈ nestW := nest_in (List.mem_of_getElem? (i := 154) (by decide +kernel)) rfl
set_option maxRecDepth 20000 in
theorem nkF_X2_93 : Cond.fieldLinkNest RX2 93 "SingleCopy$City" "moved" "[I" "SingleCopy" ∈ nestW := nest_in (List.mem_of_getElem? (i := 155) (by decide +kernel)) rfl
set_option maxRecDepth 20000 in
theorem lkF_X1_22 : Cond.fieldLink RX1 22 "SingleCopy$City" "moves" "[I" ∈ lw_good := lw_in (List.mem_of_getElem? (i := 156) (by decide +kernel)) rfl
set_option maxRecDepth 20000 in
theorem nkF_X3_73 : Cond.fieldLinkNest RX3 73 "SingleCopy$City" "moves" "[I" "SingleCopy" ∈ nestW := nest_in (List.mem_of_getElem? (i := 157) (by decide +kernel)) rfl
set_option maxRecDepth 20000 in
theorem nkF_X7_156 : Cond.fieldLinkNest RX7 156 "SingleCopy$City" "moves" "[I" "SingleCopy" ∈ nestW := nest_in (List.mem_of_getElem? (i := 158) (by decide +kernel)) rfl
set_option maxRecDepth 20000 in
theorem nkF_X2_96 : Cond.fieldLinkNest RX2 96 "SingleCopy$City" "moves" "[I" "SingleCopy" ∈ nestW := nest_in (List.mem_of_getElem? (i := 159) (by decide +kernel)) rfl
set_option maxRecDepth 20000 in
theorem lkF_X1_25 : Cond.fieldLink RX1 25 "SingleCopy$City" "asked" "[I" ∈ lw_good := lw_in (List.mem_of_getElem? (i := 160) (by decide +kernel)) rfl
set_option maxRecDepth 20000 in
theorem nkF_X3_67 : Cond.fieldLinkNest RX3 67 "SingleCopy$City" "asked" "[I" "SingleCopy" ∈ nestW := nest_in (List.mem_of_getElem? (i := 161) (by decide +kernel)) rfl
set_option maxRecDepth 20000 in
theorem nkF_X7_159 : Cond.fieldLinkNest RX7 159 "SingleCopy$City" "asked" "[I" "SingleCopy" ∈ nestW := nest_in (List.mem_of_getElem? (i := 162) (by decide +kernel)) rfl
set_option maxRecDepth 20000 in
theorem nkF_X2_105 : Cond.fieldLinkNest RX2 105 "SingleCopy$City" "asked" "[I" "SingleCopy" ∈ nestW := nest_in (List.mem_of_getElem? (i := 163) (by decide +kernel)) rfl
set_option maxRecDepth 20000 in
theorem lkF_X1_28 : Cond.fieldLink RX1 28 "SingleCopy$City" "askedFrom" "[I" ∈ lw_good := lw_in (List.mem_of_getElem? (i := 164) (by decide +kernel)) rfl
set_option maxRecDepth 20000 in
theorem nkF_X3_70 : Cond.fieldLinkNest RX3 70 "SingleCopy$City" "askedFrom" "[I" "SingleCopy" ∈ nestW := nest_in (List.mem_of_getElem? (i := 165) (by decide +kernel)) rfl
set_option maxRecDepth 20000 in
theorem nkF_X7_162 : Cond.fieldLinkNest RX7 162 "SingleCopy$City" "askedFrom" "[I" "SingleCopy" ∈ nestW := nest_in (List.mem_of_getElem? (i := 166) (by decide +kernel)) rfl
set_option maxRecDepth 20000 in
theorem nkF_X2_108 : Cond.fieldLinkNest RX2 108 "SingleCopy$City" "askedFrom" "[I" "SingleCopy" ∈ nestW := nest_in (List.mem_of_getElem? (i := 167) (by decide +kernel)) rfl
set_option maxRecDepth 20000 in
theorem lkF_X1_31 : Cond.fieldLink RX1 31 "SingleCopy$City" "costs" "[I" ∈ lw_good := lw_in (List.mem_of_getElem? (i := 168) (by decide +kernel)) rfl
set_option maxRecDepth 20000 in
theorem nkF_X3_51 : Cond.fieldLinkNest RX3 51 "SingleCopy$City" "costs" "[I" "SingleCopy" ∈ nestW := nest_in (List.mem_of_getElem? (i := 169) (by decide +kernel)) rfl
set_option maxRecDepth 20000 in
theorem nkF_X7_165 : Cond.fieldLinkNest RX7 165 "SingleCopy$City" "costs" "[I" "SingleCopy" ∈ nestW := nest_in (List.mem_of_getElem? (i := 170) (by decide +kernel)) rfl
set_option maxRecDepth 20000 in
theorem nkF_X2_111 : Cond.fieldLinkNest RX2 111 "SingleCopy$City" "costs" "[I" "SingleCopy" ∈ nestW := nest_in (List.mem_of_getElem? (i := 171) (by decide +kernel)) rfl
set_option maxRecDepth 20000 in
theorem nkM_X7_28 : Cond.methodLinkNest RX7 28 yX3_init "SingleCopy" ∈ nestW := nest_in (List.mem_of_getElem? (i := 195) (by decide +kernel)) rfl
set_option maxRecDepth 20000 in
theorem vi_yX3_init : Cond.instanceMethod yX3_init ∈ lw_good := lw_in (List.mem_of_getElem? (i := 196) (by decide +kernel)) rfl
set_option maxRecDepth 20000 in
theorem lkM_X3_3 : Cond.methodLink RX3 3 objectInit ∈ lw_good := lw_in (List.mem_of_getElem? (i := 198) (by decide +kernel)) rfl
set_option maxRecDepth 20000 in
theorem lkF_X3_9 : Cond.fieldLink RX3 9 "SingleCopy$Mind" "beliefs" "[I" ∈ lw_good := lw_in (List.mem_of_getElem? (i := 199) (by decide +kernel)) rfl
set_option maxRecDepth 20000 in
theorem nkF_X6_24 : Cond.fieldLinkNest RX6 24 "SingleCopy$Mind" "beliefs" "[I" "SingleCopy" ∈ nestW := nest_in (List.mem_of_getElem? (i := 200) (by decide +kernel)) rfl
set_option maxRecDepth 20000 in
theorem nkF_X0_32 : Cond.fieldLinkNest RX0 32 "SingleCopy$Mind" "beliefs" "[I" "SingleCopy" ∈ nestW := nest_in (List.mem_of_getElem? (i := 201) (by decide +kernel)) rfl
set_option maxRecDepth 20000 in
theorem nkF_X7_142 : Cond.fieldLinkNest RX7 142 "SingleCopy$Mind" "beliefs" "[I" "SingleCopy" ∈ nestW := nest_in (List.mem_of_getElem? (i := 202) (by decide +kernel)) rfl
set_option maxRecDepth 20000 in
theorem lkF_X3_15 : Cond.fieldLink RX3 15 "SingleCopy$Mind" "reads" "[I" ∈ lw_good := lw_in (List.mem_of_getElem? (i := 203) (by decide +kernel)) rfl
set_option maxRecDepth 20000 in
theorem nkF_X6_37 : Cond.fieldLinkNest RX6 37 "SingleCopy$Mind" "reads" "[I" "SingleCopy" ∈ nestW := nest_in (List.mem_of_getElem? (i := 204) (by decide +kernel)) rfl
set_option maxRecDepth 20000 in
theorem nkF_X7_172 : Cond.fieldLinkNest RX7 172 "SingleCopy$Mind" "reads" "[I" "SingleCopy" ∈ nestW := nest_in (List.mem_of_getElem? (i := 205) (by decide +kernel)) rfl
set_option maxRecDepth 20000 in
theorem lkF_X3_22 : Cond.fieldLink RX3 22 "SingleCopy$Mind" "so" "I" ∈ lw_good := lw_in (List.mem_of_getElem? (i := 206) (by decide +kernel)) rfl
set_option maxRecDepth 20000 in
theorem nkF_X6_40 : Cond.fieldLinkNest RX6 40 "SingleCopy$Mind" "so" "I" "SingleCopy" ∈ nestW := nest_in (List.mem_of_getElem? (i := 207) (by decide +kernel)) rfl
set_option maxRecDepth 20000 in
theorem nkF_X7_131 : Cond.fieldLinkNest RX7 131 "SingleCopy$Mind" "so" "I" "SingleCopy" ∈ nestW := nest_in (List.mem_of_getElem? (i := 208) (by decide +kernel)) rfl
set_option maxRecDepth 20000 in
theorem lkF_X3_25 : Cond.fieldLink RX3 25 "SingleCopy$Mind" "nights" "I" ∈ lw_good := lw_in (List.mem_of_getElem? (i := 209) (by decide +kernel)) rfl
set_option maxRecDepth 20000 in
theorem nkF_X6_44 : Cond.fieldLinkNest RX6 44 "SingleCopy$Mind" "nights" "I" "SingleCopy" ∈ nestW := nest_in (List.mem_of_getElem? (i := 210) (by decide +kernel)) rfl
set_option maxRecDepth 20000 in
theorem nkF_X7_122 : Cond.fieldLinkNest RX7 122 "SingleCopy$Mind" "nights" "I" "SingleCopy" ∈ nestW := nest_in (List.mem_of_getElem? (i := 211) (by decide +kernel)) rfl
set_option maxRecDepth 20000 in
theorem lkF_X3_28 : Cond.fieldLink RX3 28 "SingleCopy$Mind" "cost" "I" ∈ lw_good := lw_in (List.mem_of_getElem? (i := 212) (by decide +kernel)) rfl
set_option maxRecDepth 20000 in
theorem nkF_X6_47 : Cond.fieldLinkNest RX6 47 "SingleCopy$Mind" "cost" "I" "SingleCopy" ∈ nestW := nest_in (List.mem_of_getElem? (i := 213) (by decide +kernel)) rfl
set_option maxRecDepth 20000 in
theorem nkF_X7_125 : Cond.fieldLinkNest RX7 125 "SingleCopy$Mind" "cost" "I" "SingleCopy" ∈ nestW := nest_in (List.mem_of_getElem? (i := 214) (by decide +kernel)) rfl
set_option maxRecDepth 20000 in
theorem lkF_X3_18 : Cond.fieldLink RX3 18 "SingleCopy$Mind" "shown" "I" ∈ lw_good := lw_in (List.mem_of_getElem? (i := 215) (by decide +kernel)) rfl
set_option maxRecDepth 20000 in
theorem nkF_X6_50 : Cond.fieldLinkNest RX6 50 "SingleCopy$Mind" "shown" "I" "SingleCopy" ∈ nestW := nest_in (List.mem_of_getElem? (i := 216) (by decide +kernel)) rfl
set_option maxRecDepth 20000 in
theorem nkF_X7_134 : Cond.fieldLinkNest RX7 134 "SingleCopy$Mind" "shown" "I" "SingleCopy" ∈ nestW := nest_in (List.mem_of_getElem? (i := 217) (by decide +kernel)) rfl
set_option maxRecDepth 20000 in
theorem nkM_X7_41 : Cond.methodLinkNest RX7 41 yX5_init "SingleCopy" ∈ nestW := nest_in (List.mem_of_getElem? (i := 233) (by decide +kernel)) rfl
set_option maxRecDepth 20000 in
theorem vi_yX5_init : Cond.instanceMethod yX5_init ∈ lw_good := lw_in (List.mem_of_getElem? (i := 234) (by decide +kernel)) rfl
set_option maxRecDepth 20000 in
theorem lkM_X5_1 : Cond.methodLink RX5 1 objectInit ∈ lw_good := lw_in (List.mem_of_getElem? (i := 236) (by decide +kernel)) rfl
set_option maxRecDepth 20000 in
theorem lkF_X5_7 : Cond.fieldLink RX5 7 "SingleCopy$Row" "nights" "I" ∈ lw_good := lw_in (List.mem_of_getElem? (i := 237) (by decide +kernel)) rfl
set_option maxRecDepth 20000 in
theorem nkF_X7_218 : Cond.fieldLinkNest RX7 218 "SingleCopy$Row" "nights" "I" "SingleCopy" ∈ nestW := nest_in (List.mem_of_getElem? (i := 238) (by decide +kernel)) rfl
set_option maxRecDepth 20000 in
theorem lkF_X5_13 : Cond.fieldLink RX5 13 "SingleCopy$Row" "firstSheet" "I" ∈ lw_good := lw_in (List.mem_of_getElem? (i := 239) (by decide +kernel)) rfl
set_option maxRecDepth 20000 in
theorem nkF_X7_219 : Cond.fieldLinkNest RX7 219 "SingleCopy$Row" "firstSheet" "I" "SingleCopy" ∈ nestW := nest_in (List.mem_of_getElem? (i := 240) (by decide +kernel)) rfl
set_option maxRecDepth 20000 in
theorem lkF_X5_16 : Cond.fieldLink RX5 16 "SingleCopy$Row" "secondSheet" "I" ∈ lw_good := lw_in (List.mem_of_getElem? (i := 241) (by decide +kernel)) rfl
set_option maxRecDepth 20000 in
theorem nkF_X7_222 : Cond.fieldLinkNest RX7 222 "SingleCopy$Row" "secondSheet" "I" "SingleCopy" ∈ nestW := nest_in (List.mem_of_getElem? (i := 242) (by decide +kernel)) rfl
set_option maxRecDepth 20000 in
theorem nkM_X7_48 : Cond.methodLinkNest RX7 48 yX4_init "SingleCopy" ∈ nestW := nest_in (List.mem_of_getElem? (i := 252) (by decide +kernel)) rfl
set_option maxRecDepth 20000 in
theorem vi_yX4_init : Cond.instanceMethod yX4_init ∈ lw_good := lw_in (List.mem_of_getElem? (i := 253) (by decide +kernel)) rfl
set_option maxRecDepth 20000 in
theorem lkM_X4_3 : Cond.methodLink RX4 3 objectInit ∈ lw_good := lw_in (List.mem_of_getElem? (i := 255) (by decide +kernel)) rfl
set_option maxRecDepth 20000 in
theorem nkM_X4_11 : Cond.methodLinkNest RX4 11 yX6_init "SingleCopy" ∈ nestW := nest_in (List.mem_of_getElem? (i := 258) (by decide +kernel)) rfl
set_option maxRecDepth 20000 in
theorem vi_yX6_init : Cond.instanceMethod yX6_init ∈ lw_good := lw_in (List.mem_of_getElem? (i := 259) (by decide +kernel)) rfl
set_option maxRecDepth 20000 in
theorem lkM_X6_5 : Cond.methodLink RX6 5 objectInit ∈ lw_good := lw_in (List.mem_of_getElem? (i := 261) (by decide +kernel)) rfl
set_option maxRecDepth 20000 in
theorem lkM_X6_11 : Cond.methodLink RX6 11 Lib.Math.min.name ∈ lw_good := lw_in (List.mem_of_getElem? (i := 262) (by decide +kernel)) rfl
set_option maxRecDepth 20000 in
theorem st_Lib_Math_min_name : Cond.static Lib.Math.min.name ∈ lw_good := lw_in (List.mem_of_getElem? (i := 263) (by decide +kernel)) rfl
set_option maxRecDepth 20000 in
theorem lkM_X6_17 : Cond.methodLink RX6 17 Lib.Math.max.name ∈ lw_good := lw_in (List.mem_of_getElem? (i := 265) (by decide +kernel)) rfl
set_option maxRecDepth 20000 in
theorem st_Lib_Math_max_name : Cond.static Lib.Math.max.name ∈ lw_good := lw_in (List.mem_of_getElem? (i := 266) (by decide +kernel)) rfl
set_option maxRecDepth 20000 in
theorem lkF_X6_20 : Cond.fieldLink RX6 20 "SingleCopy$Shelf" "numbers" "[I" ∈ lw_good := lw_in (List.mem_of_getElem? (i := 268) (by decide +kernel)) rfl
set_option maxRecDepth 20000 in
theorem lkF_X4_14 : Cond.fieldLink RX4 14 "SingleCopy$Past" "shelf" "LSingleCopy$Shelf;" ∈ lw_good := lw_in (List.mem_of_getElem? (i := 272) (by decide +kernel)) rfl
set_option maxRecDepth 20000 in
theorem lkF_X4_20 : Cond.fieldLink RX4 20 "SingleCopy$Past" "next" "I" ∈ lw_good := lw_in (List.mem_of_getElem? (i := 273) (by decide +kernel)) rfl
set_option maxRecDepth 20000 in
theorem lkF_X4_24 : Cond.fieldLink RX4 24 "SingleCopy$Past" "count" "I" ∈ lw_good := lw_in (List.mem_of_getElem? (i := 274) (by decide +kernel)) rfl
set_option maxRecDepth 20000 in
theorem nkF_X7_138 : Cond.fieldLinkNest RX7 138 "SingleCopy$Past" "count" "I" "SingleCopy" ∈ nestW := nest_in (List.mem_of_getElem? (i := 275) (by decide +kernel)) rfl
set_option maxRecDepth 20000 in
theorem nkM_X7_55 : Cond.methodLinkNest RX7 55 yX6_init "SingleCopy" ∈ nestW := nest_in (List.mem_of_getElem? (i := 284) (by decide +kernel)) rfl
set_option maxRecDepth 20000 in
theorem nkM_X7_75 : Cond.methodLinkNest RX7 75 yX0_init "SingleCopy" ∈ nestW := nest_in (List.mem_of_getElem? (i := 287) (by decide +kernel)) rfl
set_option maxRecDepth 20000 in
theorem vi_yX0_init : Cond.instanceMethod yX0_init ∈ lw_good := lw_in (List.mem_of_getElem? (i := 288) (by decide +kernel)) rfl
set_option maxRecDepth 20000 in
theorem lkM_X0_3 : Cond.methodLink RX0 3 objectInit ∈ lw_good := lw_in (List.mem_of_getElem? (i := 290) (by decide +kernel)) rfl
set_option maxRecDepth 20000 in
theorem lkM_X0_15 : Cond.methodLink RX0 15 Lib.Math.max.name ∈ lw_good := lw_in (List.mem_of_getElem? (i := 291) (by decide +kernel)) rfl
set_option maxRecDepth 20000 in
theorem lkF_X0_21 : Cond.fieldLink RX0 21 "SingleCopy$Beliefs" "opinions" "[I" ∈ lw_good := lw_in (List.mem_of_getElem? (i := 292) (by decide +kernel)) rfl
set_option maxRecDepth 20000 in
theorem lkF_X0_25 : Cond.fieldLink RX0 25 "SingleCopy$Beliefs" "amounts" "[I" ∈ lw_good := lw_in (List.mem_of_getElem? (i := 293) (by decide +kernel)) rfl
set_option maxRecDepth 20000 in
theorem lkF_X0_9 : Cond.fieldLink RX0 9 "SingleCopy$Beliefs" "count" "I" ∈ lw_good := lw_in (List.mem_of_getElem? (i := 294) (by decide +kernel)) rfl
set_option maxRecDepth 20000 in
theorem nkF_X7_137 : Cond.fieldLinkNest RX7 137 "SingleCopy$Beliefs" "count" "I" "SingleCopy" ∈ nestW := nest_in (List.mem_of_getElem? (i := 295) (by decide +kernel)) rfl
set_option maxRecDepth 20000 in
theorem lkF_X7_10 : Cond.fieldLink RX7 10 "SingleCopy" "text" "LSingleCopy$CityText;" ∈ lw_good := lw_in (List.mem_of_getElem? (i := 303) (by decide +kernel)) rfl
set_option maxRecDepth 20000 in
theorem lkF_X7_19 : Cond.fieldLink RX7 19 "SingleCopy" "town" "LSingleCopy$City;" ∈ lw_good := lw_in (List.mem_of_getElem? (i := 304) (by decide +kernel)) rfl
set_option maxRecDepth 20000 in
theorem lkF_X7_23 : Cond.fieldLink RX7 23 "SingleCopy" "draft" "LSingleCopy$City;" ∈ lw_good := lw_in (List.mem_of_getElem? (i := 305) (by decide +kernel)) rfl
set_option maxRecDepth 20000 in
theorem lkF_X7_29 : Cond.fieldLink RX7 29 "SingleCopy" "now" "LSingleCopy$Mind;" ∈ lw_good := lw_in (List.mem_of_getElem? (i := 306) (by decide +kernel)) rfl
set_option maxRecDepth 20000 in
theorem lkF_X7_33 : Cond.fieldLink RX7 33 "SingleCopy" "behindFirst" "LSingleCopy$Mind;" ∈ lw_good := lw_in (List.mem_of_getElem? (i := 307) (by decide +kernel)) rfl
set_option maxRecDepth 20000 in
theorem lkF_X7_36 : Cond.fieldLink RX7 36 "SingleCopy" "behindSecond" "LSingleCopy$Mind;" ∈ lw_good := lw_in (List.mem_of_getElem? (i := 308) (by decide +kernel)) rfl
set_option maxRecDepth 20000 in
theorem lkF_X7_42 : Cond.fieldLink RX7 42 "SingleCopy" "soonestRow" "LSingleCopy$Row;" ∈ lw_good := lw_in (List.mem_of_getElem? (i := 309) (by decide +kernel)) rfl
set_option maxRecDepth 20000 in
theorem lkF_X7_49 : Cond.fieldLink RX7 49 "SingleCopy" "past" "LSingleCopy$Past;" ∈ lw_good := lw_in (List.mem_of_getElem? (i := 310) (by decide +kernel)) rfl
set_option maxRecDepth 20000 in
theorem lkF_X7_58 : Cond.fieldLink RX7 58 "SingleCopy" "images" "LSingleCopy$Shelf;" ∈ lw_good := lw_in (List.mem_of_getElem? (i := 311) (by decide +kernel)) rfl
set_option maxRecDepth 20000 in
theorem lkF_X7_62 : Cond.fieldLink RX7 62 "SingleCopy" "imageDraws" "[I" ∈ lw_good := lw_in (List.mem_of_getElem? (i := 312) (by decide +kernel)) rfl
set_option maxRecDepth 20000 in
theorem lkF_X7_66 : Cond.fieldLink RX7 66 "SingleCopy" "keptImages" "I" ∈ lw_good := lw_in (List.mem_of_getElem? (i := 313) (by decide +kernel)) rfl
set_option maxRecDepth 20000 in
theorem lkF_X7_70 : Cond.fieldLink RX7 70 "SingleCopy" "lastDraw" "I" ∈ lw_good := lw_in (List.mem_of_getElem? (i := 314) (by decide +kernel)) rfl
set_option maxRecDepth 20000 in
theorem lkF_X7_76 : Cond.fieldLink RX7 76 "SingleCopy" "thoughts" "LSingleCopy$Beliefs;" ∈ lw_good := lw_in (List.mem_of_getElem? (i := 315) (by decide +kernel)) rfl
set_option maxRecDepth 20000 in
theorem lkF_X7_80 : Cond.fieldLink RX7 80 "SingleCopy" "book" "LSingleCopy$Beliefs;" ∈ lw_good := lw_in (List.mem_of_getElem? (i := 316) (by decide +kernel)) rfl
set_option maxRecDepth 20000 in
theorem lkM_L_13 : Cond.methodLink RL 13 yX7_feed ∈ lw_good := lw_in (List.mem_of_getElem? (i := 346) (by decide +kernel)) rfl
set_option maxRecDepth 20000 in
theorem vi_yX7_feed : Cond.instanceMethod yX7_feed ∈ lw_good := lw_in (List.mem_of_getElem? (i := 347) (by decide +kernel)) rfl
set_option maxRecDepth 20000 in
theorem vs_yX7_feed : Cond.selects RX7 yX7_feed yX7_feed ∈ lw_good := lw_in (List.mem_of_getElem? (i := 348) (by decide +kernel)) rfl
set_option maxRecDepth 20000 in
theorem kc_X7_83 : Cond.constant RX7 83 (-1000000002) ∈ lw_good := lw_in (List.mem_of_getElem? (i := 350) (by decide +kernel)) rfl
set_option maxRecDepth 20000 in
theorem nkM_X7_84 : Cond.methodLinkNest RX7 84 yX2_append "SingleCopy" ∈ nestW := nest_in (List.mem_of_getElem? (i := 351) (by decide +kernel)) rfl
set_option maxRecDepth 20000 in
theorem vi_yX2_append : Cond.instanceMethod yX2_append ∈ lw_good := lw_in (List.mem_of_getElem? (i := 353) (by decide +kernel)) rfl
set_option maxRecDepth 20000 in
theorem nkM_X2_25 : Cond.methodLinkNest RX2 25 yX7_put "SingleCopy" ∈ nestW := nest_in (List.mem_of_getElem? (i := 355) (by decide +kernel)) rfl
set_option maxRecDepth 20000 in
theorem st_yX7_put : Cond.static yX7_put ∈ lw_good := lw_in (List.mem_of_getElem? (i := 356) (by decide +kernel)) rfl
set_option maxRecDepth 20000 in
theorem kc_X7_91 : Cond.constant RX7 91 (-1000000004) ∈ lw_good := lw_in (List.mem_of_getElem? (i := 358) (by decide +kernel)) rfl
set_option maxRecDepth 20000 in
theorem lkM_L_18 : Cond.methodLink RL 18 yX7_city ∈ lw_good := lw_in (List.mem_of_getElem? (i := 359) (by decide +kernel)) rfl
set_option maxRecDepth 20000 in
theorem vi_yX7_city : Cond.instanceMethod yX7_city ∈ lw_good := lw_in (List.mem_of_getElem? (i := 360) (by decide +kernel)) rfl
set_option maxRecDepth 20000 in
theorem vs_yX7_city : Cond.selects RX7 yX7_city yX7_city ∈ lw_good := lw_in (List.mem_of_getElem? (i := 361) (by decide +kernel)) rfl
set_option maxRecDepth 20000 in
theorem nkM_X7_92 : Cond.methodLinkNest RX7 92 yX2_readInto "SingleCopy" ∈ nestW := nest_in (List.mem_of_getElem? (i := 363) (by decide +kernel)) rfl
set_option maxRecDepth 20000 in
theorem vi_yX2_readInto : Cond.instanceMethod yX2_readInto ∈ lw_good := lw_in (List.mem_of_getElem? (i := 365) (by decide +kernel)) rfl
set_option maxRecDepth 20000 in
theorem nkM_X2_29 : Cond.methodLinkNest RX2 29 yX1_clear "SingleCopy" ∈ nestW := nest_in (List.mem_of_getElem? (i := 367) (by decide +kernel)) rfl
set_option maxRecDepth 20000 in
theorem vi_yX1_clear : Cond.instanceMethod yX1_clear ∈ lw_good := lw_in (List.mem_of_getElem? (i := 369) (by decide +kernel)) rfl
set_option maxRecDepth 20000 in
theorem lkM_X2_41 : Cond.methodLink RX2 41 yX2_skipBlanks ∈ lw_good := lw_in (List.mem_of_getElem? (i := 371) (by decide +kernel)) rfl
set_option maxRecDepth 20000 in
theorem vi_yX2_skipBlanks : Cond.instanceMethod yX2_skipBlanks ∈ lw_good := lw_in (List.mem_of_getElem? (i := 373) (by decide +kernel)) rfl
set_option maxRecDepth 20000 in
theorem lkM_X2_44 : Cond.methodLink RX2 44 yX2_next ∈ lw_good := lw_in (List.mem_of_getElem? (i := 375) (by decide +kernel)) rfl
set_option maxRecDepth 20000 in
theorem vi_yX2_next : Cond.instanceMethod yX2_next ∈ lw_good := lw_in (List.mem_of_getElem? (i := 377) (by decide +kernel)) rfl
set_option maxRecDepth 20000 in
theorem nkM_X2_52 : Cond.methodLinkNest RX2 52 yX7_at "SingleCopy" ∈ nestW := nest_in (List.mem_of_getElem? (i := 379) (by decide +kernel)) rfl
set_option maxRecDepth 20000 in
theorem st_yX7_at : Cond.static yX7_at ∈ lw_good := lw_in (List.mem_of_getElem? (i := 380) (by decide +kernel)) rfl
set_option maxRecDepth 20000 in
theorem lkM_X2_48 : Cond.methodLink RX2 48 yX2_readClause ∈ lw_good := lw_in (List.mem_of_getElem? (i := 382) (by decide +kernel)) rfl
set_option maxRecDepth 20000 in
theorem vi_yX2_readClause : Cond.instanceMethod yX2_readClause ∈ lw_good := lw_in (List.mem_of_getElem? (i := 384) (by decide +kernel)) rfl
set_option maxRecDepth 20000 in
theorem lkM_X2_59 : Cond.methodLink RX2 59 yX2_mark ∈ lw_good := lw_in (List.mem_of_getElem? (i := 386) (by decide +kernel)) rfl
set_option maxRecDepth 20000 in
theorem vi_yX2_mark : Cond.instanceMethod yX2_mark ∈ lw_good := lw_in (List.mem_of_getElem? (i := 388) (by decide +kernel)) rfl
set_option maxRecDepth 20000 in
theorem lkM_X2_63 : Cond.methodLink RX2 63 yX2_toldAlready ∈ lw_good := lw_in (List.mem_of_getElem? (i := 390) (by decide +kernel)) rfl
set_option maxRecDepth 20000 in
theorem vi_yX2_toldAlready : Cond.instanceMethod yX2_toldAlready ∈ lw_good := lw_in (List.mem_of_getElem? (i := 392) (by decide +kernel)) rfl
set_option maxRecDepth 20000 in
theorem lkM_X2_67 : Cond.methodLink RX2 67 yX2_readReader ∈ lw_good := lw_in (List.mem_of_getElem? (i := 394) (by decide +kernel)) rfl
set_option maxRecDepth 20000 in
theorem vi_yX2_readReader : Cond.instanceMethod yX2_readReader ∈ lw_good := lw_in (List.mem_of_getElem? (i := 396) (by decide +kernel)) rfl
set_option maxRecDepth 20000 in
theorem lkM_X2_73 : Cond.methodLink RX2 73 yX2_readNumber ∈ lw_good := lw_in (List.mem_of_getElem? (i := 398) (by decide +kernel)) rfl
set_option maxRecDepth 20000 in
theorem vi_yX2_readNumber : Cond.instanceMethod yX2_readNumber ∈ lw_good := lw_in (List.mem_of_getElem? (i := 400) (by decide +kernel)) rfl
set_option maxRecDepth 20000 in
theorem lkM_X2_114 : Cond.methodLink RX2 114 yX2_atFigure ∈ lw_good := lw_in (List.mem_of_getElem? (i := 402) (by decide +kernel)) rfl
set_option maxRecDepth 20000 in
theorem vi_yX2_atFigure : Cond.instanceMethod yX2_atFigure ∈ lw_good := lw_in (List.mem_of_getElem? (i := 404) (by decide +kernel)) rfl
set_option maxRecDepth 20000 in
theorem lkM_X2_118 : Cond.methodLink RX2 118 Lib.Math.min.name ∈ lw_good := lw_in (List.mem_of_getElem? (i := 406) (by decide +kernel)) rfl
set_option maxRecDepth 20000 in
theorem lkM_X2_80 : Cond.methodLink RX2 80 yX2_takes ∈ lw_good := lw_in (List.mem_of_getElem? (i := 407) (by decide +kernel)) rfl
set_option maxRecDepth 20000 in
theorem vi_yX2_takes : Cond.instanceMethod yX2_takes ∈ lw_good := lw_in (List.mem_of_getElem? (i := 409) (by decide +kernel)) rfl
set_option maxRecDepth 20000 in
theorem lkM_X2_70 : Cond.methodLink RX2 70 yX2_readFactOf ∈ lw_good := lw_in (List.mem_of_getElem? (i := 411) (by decide +kernel)) rfl
set_option maxRecDepth 20000 in
theorem vi_yX2_readFactOf : Cond.instanceMethod yX2_readFactOf ∈ lw_good := lw_in (List.mem_of_getElem? (i := 413) (by decide +kernel)) rfl
set_option maxRecDepth 20000 in
theorem nkM_X2_99 : Cond.methodLinkNest RX2 99 yX1_hasOpinion "SingleCopy" ∈ nestW := nest_in (List.mem_of_getElem? (i := 415) (by decide +kernel)) rfl
set_option maxRecDepth 20000 in
theorem vi_yX1_hasOpinion : Cond.instanceMethod yX1_hasOpinion ∈ lw_good := lw_in (List.mem_of_getElem? (i := 417) (by decide +kernel)) rfl
set_option maxRecDepth 20000 in
theorem nkM_X7_96 : Cond.methodLinkNest RX7 96 yX1_copyFrom "SingleCopy" ∈ nestW := nest_in (List.mem_of_getElem? (i := 419) (by decide +kernel)) rfl
set_option maxRecDepth 20000 in
theorem vi_yX1_copyFrom : Cond.instanceMethod yX1_copyFrom ∈ lw_good := lw_in (List.mem_of_getElem? (i := 421) (by decide +kernel)) rfl
set_option maxRecDepth 20000 in
theorem nkM_X1_43 : Cond.methodLinkNest RX1 43 yX7_at "SingleCopy" ∈ nestW := nest_in (List.mem_of_getElem? (i := 423) (by decide +kernel)) rfl
set_option maxRecDepth 20000 in
theorem nkM_X1_47 : Cond.methodLinkNest RX1 47 yX7_put "SingleCopy" ∈ nestW := nest_in (List.mem_of_getElem? (i := 424) (by decide +kernel)) rfl
set_option maxRecDepth 20000 in
theorem nkM_X7_100 : Cond.methodLinkNest RX7 100 yX3_begin "SingleCopy" ∈ nestW := nest_in (List.mem_of_getElem? (i := 425) (by decide +kernel)) rfl
set_option maxRecDepth 20000 in
theorem vi_yX3_begin : Cond.instanceMethod yX3_begin ∈ lw_good := lw_in (List.mem_of_getElem? (i := 427) (by decide +kernel)) rfl
set_option maxRecDepth 20000 in
theorem nkM_X3_31 : Cond.methodLinkNest RX3 31 yX1_hasOpinion "SingleCopy" ∈ nestW := nest_in (List.mem_of_getElem? (i := 429) (by decide +kernel)) rfl
set_option maxRecDepth 20000 in
theorem nkM_X3_40 : Cond.methodLinkNest RX3 40 yX7_at "SingleCopy" ∈ nestW := nest_in (List.mem_of_getElem? (i := 430) (by decide +kernel)) rfl
set_option maxRecDepth 20000 in
theorem nkM_X3_44 : Cond.methodLinkNest RX3 44 yX7_put "SingleCopy" ∈ nestW := nest_in (List.mem_of_getElem? (i := 431) (by decide +kernel)) rfl
set_option maxRecDepth 20000 in
theorem nkM_X3_48 : Cond.methodLinkNest RX3 48 yX1_hasFact "SingleCopy" ∈ nestW := nest_in (List.mem_of_getElem? (i := 432) (by decide +kernel)) rfl
set_option maxRecDepth 20000 in
theorem vi_yX1_hasFact : Cond.instanceMethod yX1_hasFact ∈ lw_good := lw_in (List.mem_of_getElem? (i := 434) (by decide +kernel)) rfl
set_option maxRecDepth 20000 in
theorem nkM_X7_103 : Cond.methodLinkNest RX7 103 yX4_clear "SingleCopy" ∈ nestW := nest_in (List.mem_of_getElem? (i := 436) (by decide +kernel)) rfl
set_option maxRecDepth 20000 in
theorem vi_yX4_clear : Cond.instanceMethod yX4_clear ∈ lw_good := lw_in (List.mem_of_getElem? (i := 438) (by decide +kernel)) rfl
set_option maxRecDepth 20000 in
theorem nkM_X7_106 : Cond.methodLinkNest RX7 106 yX0_clear "SingleCopy" ∈ nestW := nest_in (List.mem_of_getElem? (i := 440) (by decide +kernel)) rfl
set_option maxRecDepth 20000 in
theorem vi_yX0_clear : Cond.instanceMethod yX0_clear ∈ lw_good := lw_in (List.mem_of_getElem? (i := 442) (by decide +kernel)) rfl
set_option maxRecDepth 20000 in
theorem lkM_L_23 : Cond.methodLink RL 23 yX7_fault ∈ lw_good := lw_in (List.mem_of_getElem? (i := 444) (by decide +kernel)) rfl
set_option maxRecDepth 20000 in
theorem vi_yX7_fault : Cond.instanceMethod yX7_fault ∈ lw_good := lw_in (List.mem_of_getElem? (i := 445) (by decide +kernel)) rfl
set_option maxRecDepth 20000 in
theorem vs_yX7_fault : Cond.selects RX7 yX7_fault yX7_fault ∈ lw_good := lw_in (List.mem_of_getElem? (i := 446) (by decide +kernel)) rfl
set_option maxRecDepth 20000 in
theorem lkM_L_27 : Cond.methodLink RL 27 yX7_told ∈ lw_good := lw_in (List.mem_of_getElem? (i := 448) (by decide +kernel)) rfl
set_option maxRecDepth 20000 in
theorem vi_yX7_told : Cond.instanceMethod yX7_told ∈ lw_good := lw_in (List.mem_of_getElem? (i := 449) (by decide +kernel)) rfl
set_option maxRecDepth 20000 in
theorem vs_yX7_told : Cond.selects RX7 yX7_told yX7_told ∈ lw_good := lw_in (List.mem_of_getElem? (i := 450) (by decide +kernel)) rfl
set_option maxRecDepth 20000 in
theorem nkM_X7_128 : Cond.methodLinkNest RX7 128 yX3_convincedOf "SingleCopy" ∈ nestW := nest_in (List.mem_of_getElem? (i := 452) (by decide +kernel)) rfl
set_option maxRecDepth 20000 in
theorem vi_yX3_convincedOf : Cond.instanceMethod yX3_convincedOf ∈ lw_good := lw_in (List.mem_of_getElem? (i := 454) (by decide +kernel)) rfl
set_option maxRecDepth 20000 in
theorem lkM_L_31 : Cond.methodLink RL 31 yX7_belief ∈ lw_good := lw_in (List.mem_of_getElem? (i := 456) (by decide +kernel)) rfl
set_option maxRecDepth 20000 in
theorem vi_yX7_belief : Cond.instanceMethod yX7_belief ∈ lw_good := lw_in (List.mem_of_getElem? (i := 457) (by decide +kernel)) rfl
set_option maxRecDepth 20000 in
theorem vs_yX7_belief : Cond.selects RX7 yX7_belief yX7_belief ∈ lw_good := lw_in (List.mem_of_getElem? (i := 458) (by decide +kernel)) rfl
set_option maxRecDepth 20000 in
theorem nkM_X7_139 : Cond.methodLinkNest RX7 139 yX1_hasOpinion "SingleCopy" ∈ nestW := nest_in (List.mem_of_getElem? (i := 460) (by decide +kernel)) rfl
set_option maxRecDepth 20000 in
theorem lkM_X7_145 : Cond.methodLink RX7 145 yX7_at ∈ lw_good := lw_in (List.mem_of_getElem? (i := 461) (by decide +kernel)) rfl
set_option maxRecDepth 20000 in
theorem kc_X7_149 : Cond.constant RX7 149 (-1000000001) ∈ lw_good := lw_in (List.mem_of_getElem? (i := 462) (by decide +kernel)) rfl
set_option maxRecDepth 20000 in
theorem lkM_L_35 : Cond.methodLink RL 35 yX7_fact ∈ lw_good := lw_in (List.mem_of_getElem? (i := 463) (by decide +kernel)) rfl
set_option maxRecDepth 20000 in
theorem vi_yX7_fact : Cond.instanceMethod yX7_fact ∈ lw_good := lw_in (List.mem_of_getElem? (i := 464) (by decide +kernel)) rfl
set_option maxRecDepth 20000 in
theorem vs_yX7_fact : Cond.selects RX7 yX7_fact yX7_fact ∈ lw_good := lw_in (List.mem_of_getElem? (i := 465) (by decide +kernel)) rfl
set_option maxRecDepth 20000 in
theorem nkM_X7_150 : Cond.methodLinkNest RX7 150 yX1_hasFact "SingleCopy" ∈ nestW := nest_in (List.mem_of_getElem? (i := 467) (by decide +kernel)) rfl
set_option maxRecDepth 20000 in
theorem lkM_X7_168 : Cond.methodLink RX7 168 yX7_has ∈ lw_good := lw_in (List.mem_of_getElem? (i := 468) (by decide +kernel)) rfl
set_option maxRecDepth 20000 in
theorem st_yX7_has : Cond.static yX7_has ∈ lw_good := lw_in (List.mem_of_getElem? (i := 469) (by decide +kernel)) rfl
set_option maxRecDepth 20000 in
theorem lkM_L_40 : Cond.methodLink RL 40 yX7_night ∈ lw_good := lw_in (List.mem_of_getElem? (i := 471) (by decide +kernel)) rfl
set_option maxRecDepth 20000 in
theorem vi_yX7_night : Cond.instanceMethod yX7_night ∈ lw_good := lw_in (List.mem_of_getElem? (i := 472) (by decide +kernel)) rfl
set_option maxRecDepth 20000 in
theorem vs_yX7_night : Cond.selects RX7 yX7_night yX7_night ∈ lw_good := lw_in (List.mem_of_getElem? (i := 473) (by decide +kernel)) rfl
set_option maxRecDepth 20000 in
theorem nkM_X7_175 : Cond.methodLinkNest RX7 175 yX1_hasFacts "SingleCopy" ∈ nestW := nest_in (List.mem_of_getElem? (i := 475) (by decide +kernel)) rfl
set_option maxRecDepth 20000 in
theorem vi_yX1_hasFacts : Cond.instanceMethod yX1_hasFacts ∈ lw_good := lw_in (List.mem_of_getElem? (i := 477) (by decide +kernel)) rfl
set_option maxRecDepth 20000 in
theorem lkM_X7_178 : Cond.methodLink RX7 178 yX7_mayBe ∈ lw_good := lw_in (List.mem_of_getElem? (i := 479) (by decide +kernel)) rfl
set_option maxRecDepth 20000 in
theorem vi_yX7_mayBe : Cond.instanceMethod yX7_mayBe ∈ lw_good := lw_in (List.mem_of_getElem? (i := 481) (by decide +kernel)) rfl
set_option maxRecDepth 20000 in
theorem nkM_X7_232 : Cond.methodLinkNest RX7 232 yX1_fits "SingleCopy" ∈ nestW := nest_in (List.mem_of_getElem? (i := 483) (by decide +kernel)) rfl
set_option maxRecDepth 20000 in
theorem vi_yX1_fits : Cond.instanceMethod yX1_fits ∈ lw_good := lw_in (List.mem_of_getElem? (i := 485) (by decide +kernel)) rfl
set_option maxRecDepth 20000 in
theorem lkM_X1_51 : Cond.methodLink RX1 51 yJ6_bitCount_0f7a4 ∈ lw_good := lw_in (List.mem_of_getElem? (i := 487) (by decide +kernel)) rfl
set_option maxRecDepth 20000 in
theorem st_yJ6_bitCount_0f7a4 : Cond.static yJ6_bitCount_0f7a4 ∈ lw_good := lw_in (List.mem_of_getElem? (i := 488) (by decide +kernel)) rfl
set_option maxRecDepth 20000 in
theorem kc_J6_265 : Cond.constant RJ6 265 (1431655765) ∈ lw_good := lw_in (List.mem_of_getElem? (i := 490) (by decide +kernel)) rfl
set_option maxRecDepth 20000 in
theorem kc_J6_266 : Cond.constant RJ6 266 (858993459) ∈ lw_good := lw_in (List.mem_of_getElem? (i := 491) (by decide +kernel)) rfl
set_option maxRecDepth 20000 in
theorem kc_J6_267 : Cond.constant RJ6 267 (252645135) ∈ lw_good := lw_in (List.mem_of_getElem? (i := 492) (by decide +kernel)) rfl
set_option maxRecDepth 20000 in
theorem kc_X7_181 : Cond.constant RX7 181 (-1000000003) ∈ lw_good := lw_in (List.mem_of_getElem? (i := 493) (by decide +kernel)) rfl
set_option maxRecDepth 20000 in
theorem kc_X7_182 : Cond.constant RX7 182 (90000) ∈ lw_good := lw_in (List.mem_of_getElem? (i := 494) (by decide +kernel)) rfl
set_option maxRecDepth 20000 in
theorem nkM_X7_183 : Cond.methodLinkNest RX7 183 yX4_push "SingleCopy" ∈ nestW := nest_in (List.mem_of_getElem? (i := 495) (by decide +kernel)) rfl
set_option maxRecDepth 20000 in
theorem vi_yX4_push : Cond.instanceMethod yX4_push ∈ lw_good := lw_in (List.mem_of_getElem? (i := 497) (by decide +kernel)) rfl
set_option maxRecDepth 20000 in
theorem nkM_X4_27 : Cond.methodLinkNest RX4 27 yX6_store "SingleCopy" ∈ nestW := nest_in (List.mem_of_getElem? (i := 499) (by decide +kernel)) rfl
set_option maxRecDepth 20000 in
theorem vi_yX6_store : Cond.instanceMethod yX6_store ∈ lw_good := lw_in (List.mem_of_getElem? (i := 501) (by decide +kernel)) rfl
set_option maxRecDepth 20000 in
theorem nkM_X6_29 : Cond.methodLinkNest RX6 29 yX7_at "SingleCopy" ∈ nestW := nest_in (List.mem_of_getElem? (i := 503) (by decide +kernel)) rfl
set_option maxRecDepth 20000 in
theorem nkM_X6_33 : Cond.methodLinkNest RX6 33 yX7_put "SingleCopy" ∈ nestW := nest_in (List.mem_of_getElem? (i := 504) (by decide +kernel)) rfl
set_option maxRecDepth 20000 in
theorem lkM_X4_31 : Cond.methodLink RX4 31 Lib.Math.min.name ∈ lw_good := lw_in (List.mem_of_getElem? (i := 505) (by decide +kernel)) rfl
set_option maxRecDepth 20000 in
theorem nkM_X7_187 : Cond.methodLinkNest RX7 187 yX3_spendNight "SingleCopy" ∈ nestW := nest_in (List.mem_of_getElem? (i := 506) (by decide +kernel)) rfl
set_option maxRecDepth 20000 in
theorem vi_yX3_spendNight : Cond.instanceMethod yX3_spendNight ∈ lw_good := lw_in (List.mem_of_getElem? (i := 508) (by decide +kernel)) rfl
set_option maxRecDepth 20000 in
theorem nkM_X3_91 : Cond.methodLinkNest RX3 91 yX7_has "SingleCopy" ∈ nestW := nest_in (List.mem_of_getElem? (i := 510) (by decide +kernel)) rfl
set_option maxRecDepth 20000 in
theorem lkM_X3_95 : Cond.methodLink RX3 95 yX3_readFact ∈ lw_good := lw_in (List.mem_of_getElem? (i := 511) (by decide +kernel)) rfl
set_option maxRecDepth 20000 in
theorem vi_yX3_readFact : Cond.instanceMethod yX3_readFact ∈ lw_good := lw_in (List.mem_of_getElem? (i := 513) (by decide +kernel)) rfl
set_option maxRecDepth 20000 in
theorem nkM_X3_76 : Cond.methodLinkNest RX3 76 yX7_wornMove "SingleCopy" ∈ nestW := nest_in (List.mem_of_getElem? (i := 515) (by decide +kernel)) rfl
set_option maxRecDepth 20000 in
theorem st_yX7_wornMove : Cond.static yX7_wornMove ∈ lw_good := lw_in (List.mem_of_getElem? (i := 516) (by decide +kernel)) rfl
set_option maxRecDepth 20000 in
theorem lkM_X3_80 : Cond.methodLink RX3 80 Lib.Math.min.name ∈ lw_good := lw_in (List.mem_of_getElem? (i := 518) (by decide +kernel)) rfl
set_option maxRecDepth 20000 in
theorem lkM_X3_85 : Cond.methodLink RX3 85 Lib.Math.max.name ∈ lw_good := lw_in (List.mem_of_getElem? (i := 519) (by decide +kernel)) rfl
set_option maxRecDepth 20000 in
theorem lkM_L_44 : Cond.methodLink RL 44 yX7_meet ∈ lw_good := lw_in (List.mem_of_getElem? (i := 520) (by decide +kernel)) rfl
set_option maxRecDepth 20000 in
theorem vi_yX7_meet : Cond.instanceMethod yX7_meet ∈ lw_good := lw_in (List.mem_of_getElem? (i := 521) (by decide +kernel)) rfl
set_option maxRecDepth 20000 in
theorem vs_yX7_meet : Cond.selects RX7 yX7_meet yX7_meet ∈ lw_good := lw_in (List.mem_of_getElem? (i := 522) (by decide +kernel)) rfl
set_option maxRecDepth 20000 in
theorem lkM_X7_191 : Cond.methodLink RX7 191 yX7_isBelief ∈ lw_good := lw_in (List.mem_of_getElem? (i := 524) (by decide +kernel)) rfl
set_option maxRecDepth 20000 in
theorem st_yX7_isBelief : Cond.static yX7_isBelief ∈ lw_good := lw_in (List.mem_of_getElem? (i := 525) (by decide +kernel)) rfl
set_option maxRecDepth 20000 in
theorem lkM_X7_194 : Cond.methodLink RX7 194 yX7_behindMeeting ∈ lw_good := lw_in (List.mem_of_getElem? (i := 527) (by decide +kernel)) rfl
set_option maxRecDepth 20000 in
theorem st_yX7_behindMeeting : Cond.static yX7_behindMeeting ∈ lw_good := lw_in (List.mem_of_getElem? (i := 528) (by decide +kernel)) rfl
set_option maxRecDepth 20000 in
theorem lkM_X7_198 : Cond.methodLink RX7 198 yX7_put ∈ lw_good := lw_in (List.mem_of_getElem? (i := 530) (by decide +kernel)) rfl
set_option maxRecDepth 20000 in
theorem lkM_L_48 : Cond.methodLink RL 48 yX7_make ∈ lw_good := lw_in (List.mem_of_getElem? (i := 531) (by decide +kernel)) rfl
set_option maxRecDepth 20000 in
theorem vi_yX7_make : Cond.instanceMethod yX7_make ∈ lw_good := lw_in (List.mem_of_getElem? (i := 532) (by decide +kernel)) rfl
set_option maxRecDepth 20000 in
theorem vs_yX7_make : Cond.selects RX7 yX7_make yX7_make ∈ lw_good := lw_in (List.mem_of_getElem? (i := 533) (by decide +kernel)) rfl
set_option maxRecDepth 20000 in
theorem lkM_L_52 : Cond.methodLink RL 52 yX7_drift ∈ lw_good := lw_in (List.mem_of_getElem? (i := 535) (by decide +kernel)) rfl
set_option maxRecDepth 20000 in
theorem vi_yX7_drift : Cond.instanceMethod yX7_drift ∈ lw_good := lw_in (List.mem_of_getElem? (i := 536) (by decide +kernel)) rfl
set_option maxRecDepth 20000 in
theorem vs_yX7_drift : Cond.selects RX7 yX7_drift yX7_drift ∈ lw_good := lw_in (List.mem_of_getElem? (i := 537) (by decide +kernel)) rfl
set_option maxRecDepth 20000 in
theorem lkM_X7_202 : Cond.methodLink RX7 202 yX7_drawnSheet ∈ lw_good := lw_in (List.mem_of_getElem? (i := 539) (by decide +kernel)) rfl
set_option maxRecDepth 20000 in
theorem vi_yX7_drawnSheet : Cond.instanceMethod yX7_drawnSheet ∈ lw_good := lw_in (List.mem_of_getElem? (i := 541) (by decide +kernel)) rfl
set_option maxRecDepth 20000 in
theorem lkM_X7_275 : Cond.methodLink RX7 275 yX7_drawOf ∈ lw_good := lw_in (List.mem_of_getElem? (i := 543) (by decide +kernel)) rfl
set_option maxRecDepth 20000 in
theorem vi_yX7_drawOf : Cond.instanceMethod yX7_drawOf ∈ lw_good := lw_in (List.mem_of_getElem? (i := 545) (by decide +kernel)) rfl
set_option maxRecDepth 20000 in
theorem kc_X7_268 : Cond.constantLong RX7 268 (1103515245) ∈ lw_good := lw_in (List.mem_of_getElem? (i := 547) (by decide +kernel)) rfl
set_option maxRecDepth 20000 in
theorem kc_X7_270 : Cond.constantLong RX7 270 (12345) ∈ lw_good := lw_in (List.mem_of_getElem? (i := 548) (by decide +kernel)) rfl
set_option maxRecDepth 20000 in
theorem kc_X7_272 : Cond.constantLong RX7 272 (2147483647) ∈ lw_good := lw_in (List.mem_of_getElem? (i := 549) (by decide +kernel)) rfl
set_option maxRecDepth 20000 in
theorem kc_X7_274 : Cond.constant RX7 274 (65536) ∈ lw_good := lw_in (List.mem_of_getElem? (i := 550) (by decide +kernel)) rfl
set_option maxRecDepth 20000 in
theorem lkM_L_56 : Cond.methodLink RL 56 yX7_undo ∈ lw_good := lw_in (List.mem_of_getElem? (i := 551) (by decide +kernel)) rfl
set_option maxRecDepth 20000 in
theorem vi_yX7_undo : Cond.instanceMethod yX7_undo ∈ lw_good := lw_in (List.mem_of_getElem? (i := 552) (by decide +kernel)) rfl
set_option maxRecDepth 20000 in
theorem vs_yX7_undo : Cond.selects RX7 yX7_undo yX7_undo ∈ lw_good := lw_in (List.mem_of_getElem? (i := 553) (by decide +kernel)) rfl
set_option maxRecDepth 20000 in
theorem nkM_X7_206 : Cond.methodLinkNest RX7 206 yX4_pop "SingleCopy" ∈ nestW := nest_in (List.mem_of_getElem? (i := 555) (by decide +kernel)) rfl
set_option maxRecDepth 20000 in
theorem vi_yX4_pop : Cond.instanceMethod yX4_pop ∈ lw_good := lw_in (List.mem_of_getElem? (i := 557) (by decide +kernel)) rfl
set_option maxRecDepth 20000 in
theorem nkM_X4_37 : Cond.methodLinkNest RX4 37 yX6_fetch "SingleCopy" ∈ nestW := nest_in (List.mem_of_getElem? (i := 559) (by decide +kernel)) rfl
set_option maxRecDepth 20000 in
theorem vi_yX6_fetch : Cond.instanceMethod yX6_fetch ∈ lw_good := lw_in (List.mem_of_getElem? (i := 561) (by decide +kernel)) rfl
set_option maxRecDepth 20000 in
theorem lkM_L_60 : Cond.methodLink RL 60 yX7_thinks ∈ lw_good := lw_in (List.mem_of_getElem? (i := 563) (by decide +kernel)) rfl
set_option maxRecDepth 20000 in
theorem vi_yX7_thinks : Cond.instanceMethod yX7_thinks ∈ lw_good := lw_in (List.mem_of_getElem? (i := 564) (by decide +kernel)) rfl
set_option maxRecDepth 20000 in
theorem vs_yX7_thinks : Cond.selects RX7 yX7_thinks yX7_thinks ∈ lw_good := lw_in (List.mem_of_getElem? (i := 565) (by decide +kernel)) rfl
set_option maxRecDepth 20000 in
theorem nkM_X7_210 : Cond.methodLinkNest RX7 210 yX3_copyFrom "SingleCopy" ∈ nestW := nest_in (List.mem_of_getElem? (i := 567) (by decide +kernel)) rfl
set_option maxRecDepth 20000 in
theorem vi_yX3_copyFrom : Cond.instanceMethod yX3_copyFrom ∈ lw_good := lw_in (List.mem_of_getElem? (i := 569) (by decide +kernel)) rfl
set_option maxRecDepth 20000 in
theorem lkM_L_64 : Cond.methodLink RL 64 yX7_soonest ∈ lw_good := lw_in (List.mem_of_getElem? (i := 571) (by decide +kernel)) rfl
set_option maxRecDepth 20000 in
theorem vi_yX7_soonest : Cond.instanceMethod yX7_soonest ∈ lw_good := lw_in (List.mem_of_getElem? (i := 572) (by decide +kernel)) rfl
set_option maxRecDepth 20000 in
theorem vs_yX7_soonest : Cond.selects RX7 yX7_soonest yX7_soonest ∈ lw_good := lw_in (List.mem_of_getElem? (i := 573) (by decide +kernel)) rfl
set_option maxRecDepth 20000 in
theorem nkM_X7_212 : Cond.methodLinkNest RX7 212 yX1_hasOpinions "SingleCopy" ∈ nestW := nest_in (List.mem_of_getElem? (i := 575) (by decide +kernel)) rfl
set_option maxRecDepth 20000 in
theorem vi_yX1_hasOpinions : Cond.instanceMethod yX1_hasOpinions ∈ lw_good := lw_in (List.mem_of_getElem? (i := 577) (by decide +kernel)) rfl
set_option maxRecDepth 20000 in
theorem lkM_X7_215 : Cond.methodLink RX7 215 yX7_findSoonest ∈ lw_good := lw_in (List.mem_of_getElem? (i := 579) (by decide +kernel)) rfl
set_option maxRecDepth 20000 in
theorem vi_yX7_findSoonest : Cond.instanceMethod yX7_findSoonest ∈ lw_good := lw_in (List.mem_of_getElem? (i := 581) (by decide +kernel)) rfl
set_option maxRecDepth 20000 in
theorem nkM_X7_280 : Cond.methodLinkNest RX7 280 yX3_isConvinced "SingleCopy" ∈ nestW := nest_in (List.mem_of_getElem? (i := 583) (by decide +kernel)) rfl
set_option maxRecDepth 20000 in
theorem vi_yX3_isConvinced : Cond.instanceMethod yX3_isConvinced ∈ lw_good := lw_in (List.mem_of_getElem? (i := 585) (by decide +kernel)) rfl
set_option maxRecDepth 20000 in
theorem lkM_X3_60 : Cond.methodLink RX3 60 yX3_convincedOf ∈ lw_good := lw_in (List.mem_of_getElem? (i := 587) (by decide +kernel)) rfl
set_option maxRecDepth 20000 in
theorem nkM_X7_284 : Cond.methodLinkNest RX7 284 yX5_become "SingleCopy" ∈ nestW := nest_in (List.mem_of_getElem? (i := 588) (by decide +kernel)) rfl
set_option maxRecDepth 20000 in
theorem vi_yX5_become : Cond.instanceMethod yX5_become ∈ lw_good := lw_in (List.mem_of_getElem? (i := 590) (by decide +kernel)) rfl
set_option maxRecDepth 20000 in
theorem lkM_X7_288 : Cond.methodLink RX7 288 yX7_findOneNight ∈ lw_good := lw_in (List.mem_of_getElem? (i := 592) (by decide +kernel)) rfl
set_option maxRecDepth 20000 in
theorem vi_yX7_findOneNight : Cond.instanceMethod yX7_findOneNight ∈ lw_good := lw_in (List.mem_of_getElem? (i := 594) (by decide +kernel)) rfl
set_option maxRecDepth 20000 in
theorem lkM_X7_292 : Cond.methodLink RX7 292 yX7_findTwoNights ∈ lw_good := lw_in (List.mem_of_getElem? (i := 596) (by decide +kernel)) rfl
set_option maxRecDepth 20000 in
theorem vi_yX7_findTwoNights : Cond.instanceMethod yX7_findTwoNights ∈ lw_good := lw_in (List.mem_of_getElem? (i := 598) (by decide +kernel)) rfl
set_option maxRecDepth 20000 in
theorem lkM_L_69 : Cond.methodLink RL 69 yX7_cannot ∈ lw_good := lw_in (List.mem_of_getElem? (i := 600) (by decide +kernel)) rfl
set_option maxRecDepth 20000 in
theorem vi_yX7_cannot : Cond.instanceMethod yX7_cannot ∈ lw_good := lw_in (List.mem_of_getElem? (i := 601) (by decide +kernel)) rfl
set_option maxRecDepth 20000 in
theorem vs_yX7_cannot : Cond.selects RX7 yX7_cannot yX7_cannot ∈ lw_good := lw_in (List.mem_of_getElem? (i := 602) (by decide +kernel)) rfl
set_option maxRecDepth 20000 in
theorem lkM_X7_225 : Cond.methodLink RX7 225 yX7_reachedBehind ∈ lw_good := lw_in (List.mem_of_getElem? (i := 604) (by decide +kernel)) rfl
set_option maxRecDepth 20000 in
theorem vi_yX7_reachedBehind : Cond.instanceMethod yX7_reachedBehind ∈ lw_good := lw_in (List.mem_of_getElem? (i := 606) (by decide +kernel)) rfl
set_option maxRecDepth 20000 in
theorem lkM_L_73 : Cond.methodLink RL 73 yX7_least ∈ lw_good := lw_in (List.mem_of_getElem? (i := 608) (by decide +kernel)) rfl
set_option maxRecDepth 20000 in
theorem vi_yX7_least : Cond.instanceMethod yX7_least ∈ lw_good := lw_in (List.mem_of_getElem? (i := 609) (by decide +kernel)) rfl
set_option maxRecDepth 20000 in
theorem vs_yX7_least : Cond.selects RX7 yX7_least yX7_least ∈ lw_good := lw_in (List.mem_of_getElem? (i := 610) (by decide +kernel)) rfl
set_option maxRecDepth 20000 in
theorem nkM_X7_229 : Cond.methodLinkNest RX7 229 yX1_costOf "SingleCopy" ∈ nestW := nest_in (List.mem_of_getElem? (i := 612) (by decide +kernel)) rfl
set_option maxRecDepth 20000 in
theorem vi_yX1_costOf : Cond.instanceMethod yX1_costOf ∈ lw_good := lw_in (List.mem_of_getElem? (i := 614) (by decide +kernel)) rfl
set_option maxRecDepth 20000 in
theorem nkM_X1_57 : Cond.methodLinkNest RX1 57 yX7_has "SingleCopy" ∈ nestW := nest_in (List.mem_of_getElem? (i := 616) (by decide +kernel)) rfl
set_option maxRecDepth 20000 in
theorem lkM_X7_235 : Cond.methodLink RX7 235 yX7_convincesOf ∈ lw_good := lw_in (List.mem_of_getElem? (i := 617) (by decide +kernel)) rfl
set_option maxRecDepth 20000 in
theorem vi_yX7_convincesOf : Cond.instanceMethod yX7_convincesOf ∈ lw_good := lw_in (List.mem_of_getElem? (i := 619) (by decide +kernel)) rfl
set_option maxRecDepth 20000 in
theorem lkM_L_77 : Cond.methodLink RL 77 yX7_rivals ∈ lw_good := lw_in (List.mem_of_getElem? (i := 621) (by decide +kernel)) rfl
set_option maxRecDepth 20000 in
theorem vi_yX7_rivals : Cond.instanceMethod yX7_rivals ∈ lw_good := lw_in (List.mem_of_getElem? (i := 622) (by decide +kernel)) rfl
set_option maxRecDepth 20000 in
theorem vs_yX7_rivals : Cond.selects RX7 yX7_rivals yX7_rivals ∈ lw_good := lw_in (List.mem_of_getElem? (i := 623) (by decide +kernel)) rfl
set_option maxRecDepth 20000 in
theorem lkM_X7_238 : Cond.methodLink RX7 238 yX7_rivalsEnd ∈ lw_good := lw_in (List.mem_of_getElem? (i := 625) (by decide +kernel)) rfl
set_option maxRecDepth 20000 in
theorem st_yX7_rivalsEnd : Cond.static yX7_rivalsEnd ∈ lw_good := lw_in (List.mem_of_getElem? (i := 626) (by decide +kernel)) rfl
set_option maxRecDepth 20000 in
theorem nkM_X7_295 : Cond.methodLinkNest RX7 295 yX3_readFact "SingleCopy" ∈ nestW := nest_in (List.mem_of_getElem? (i := 628) (by decide +kernel)) rfl
set_option maxRecDepth 20000 in
theorem nkM_X7_298 : Cond.methodLinkNest RX7 298 yX3_unread "SingleCopy" ∈ nestW := nest_in (List.mem_of_getElem? (i := 629) (by decide +kernel)) rfl
set_option maxRecDepth 20000 in
theorem vi_yX3_unread : Cond.instanceMethod yX3_unread ∈ lw_good := lw_in (List.mem_of_getElem? (i := 631) (by decide +kernel)) rfl
set_option maxRecDepth 20000 in
theorem lkM_X7_301 : Cond.methodLink RX7 301 Lib.Math.max.name ∈ lw_good := lw_in (List.mem_of_getElem? (i := 633) (by decide +kernel)) rfl
set_option maxRecDepth 20000 in
theorem lkM_X7_306 : Cond.methodLink RX7 306 Lib.Math.min.name ∈ lw_good := lw_in (List.mem_of_getElem? (i := 634) (by decide +kernel)) rfl
set_option maxRecDepth 20000 in
theorem lkM_L_81 : Cond.methodLink RL 81 yX7_shun ∈ lw_good := lw_in (List.mem_of_getElem? (i := 635) (by decide +kernel)) rfl
set_option maxRecDepth 20000 in
theorem vi_yX7_shun : Cond.instanceMethod yX7_shun ∈ lw_good := lw_in (List.mem_of_getElem? (i := 636) (by decide +kernel)) rfl
set_option maxRecDepth 20000 in
theorem vs_yX7_shun : Cond.selects RX7 yX7_shun yX7_shun ∈ lw_good := lw_in (List.mem_of_getElem? (i := 637) (by decide +kernel)) rfl
set_option maxRecDepth 20000 in
theorem lkM_L_85 : Cond.methodLink RL 85 yX7_holds ∈ lw_good := lw_in (List.mem_of_getElem? (i := 639) (by decide +kernel)) rfl
set_option maxRecDepth 20000 in
theorem vi_yX7_holds : Cond.instanceMethod yX7_holds ∈ lw_good := lw_in (List.mem_of_getElem? (i := 640) (by decide +kernel)) rfl
set_option maxRecDepth 20000 in
theorem vs_yX7_holds : Cond.selects RX7 yX7_holds yX7_holds ∈ lw_good := lw_in (List.mem_of_getElem? (i := 641) (by decide +kernel)) rfl
set_option maxRecDepth 20000 in
theorem kc_X7_242 : Cond.constantLong RX7 242 (1000000000) ∈ lw_good := lw_in (List.mem_of_getElem? (i := 643) (by decide +kernel)) rfl
set_option maxRecDepth 20000 in
theorem kc_X7_244 : Cond.constantLong RX7 244 (100) ∈ lw_good := lw_in (List.mem_of_getElem? (i := 644) (by decide +kernel)) rfl
set_option maxRecDepth 20000 in
theorem lkM_L_89 : Cond.methodLink RL 89 yX7_worn ∈ lw_good := lw_in (List.mem_of_getElem? (i := 645) (by decide +kernel)) rfl
set_option maxRecDepth 20000 in
theorem vi_yX7_worn : Cond.instanceMethod yX7_worn ∈ lw_good := lw_in (List.mem_of_getElem? (i := 646) (by decide +kernel)) rfl
set_option maxRecDepth 20000 in
theorem vs_yX7_worn : Cond.selects RX7 yX7_worn yX7_worn ∈ lw_good := lw_in (List.mem_of_getElem? (i := 647) (by decide +kernel)) rfl
set_option maxRecDepth 20000 in
theorem lkM_X7_246 : Cond.methodLink RX7 246 yX7_wornMove ∈ lw_good := lw_in (List.mem_of_getElem? (i := 649) (by decide +kernel)) rfl
set_option maxRecDepth 20000 in
theorem lkM_L_93 : Cond.methodLink RL 93 yX7_thought ∈ lw_good := lw_in (List.mem_of_getElem? (i := 650) (by decide +kernel)) rfl
set_option maxRecDepth 20000 in
theorem vi_yX7_thought : Cond.instanceMethod yX7_thought ∈ lw_good := lw_in (List.mem_of_getElem? (i := 651) (by decide +kernel)) rfl
set_option maxRecDepth 20000 in
theorem vs_yX7_thought : Cond.selects RX7 yX7_thought yX7_thought ∈ lw_good := lw_in (List.mem_of_getElem? (i := 652) (by decide +kernel)) rfl
set_option maxRecDepth 20000 in
theorem lkM_X7_249 : Cond.methodLink RX7 249 yX7_noteIn ∈ lw_good := lw_in (List.mem_of_getElem? (i := 654) (by decide +kernel)) rfl
set_option maxRecDepth 20000 in
theorem vi_yX7_noteIn : Cond.instanceMethod yX7_noteIn ∈ lw_good := lw_in (List.mem_of_getElem? (i := 656) (by decide +kernel)) rfl
set_option maxRecDepth 20000 in
theorem nkM_X7_278 : Cond.methodLinkNest RX7 278 yX0_append "SingleCopy" ∈ nestW := nest_in (List.mem_of_getElem? (i := 658) (by decide +kernel)) rfl
set_option maxRecDepth 20000 in
theorem vi_yX0_append : Cond.instanceMethod yX0_append ∈ lw_good := lw_in (List.mem_of_getElem? (i := 660) (by decide +kernel)) rfl
set_option maxRecDepth 20000 in
theorem nkM_X0_28 : Cond.methodLinkNest RX0 28 yX7_put "SingleCopy" ∈ nestW := nest_in (List.mem_of_getElem? (i := 662) (by decide +kernel)) rfl
set_option maxRecDepth 20000 in
theorem lkM_L_97 : Cond.methodLink RL 97 yX7_leftOut ∈ lw_good := lw_in (List.mem_of_getElem? (i := 663) (by decide +kernel)) rfl
set_option maxRecDepth 20000 in
theorem vi_yX7_leftOut : Cond.instanceMethod yX7_leftOut ∈ lw_good := lw_in (List.mem_of_getElem? (i := 664) (by decide +kernel)) rfl
set_option maxRecDepth 20000 in
theorem vs_yX7_leftOut : Cond.selects RX7 yX7_leftOut yX7_leftOut ∈ lw_good := lw_in (List.mem_of_getElem? (i := 665) (by decide +kernel)) rfl
set_option maxRecDepth 20000 in
theorem lkM_X7_253 : Cond.methodLink RX7 253 yX7_thoughtBehind ∈ lw_good := lw_in (List.mem_of_getElem? (i := 667) (by decide +kernel)) rfl
set_option maxRecDepth 20000 in
theorem vi_yX7_thoughtBehind : Cond.instanceMethod yX7_thoughtBehind ∈ lw_good := lw_in (List.mem_of_getElem? (i := 669) (by decide +kernel)) rfl
set_option maxRecDepth 20000 in
theorem nkM_X7_257 : Cond.methodLinkNest RX7 257 yX0_firstOtherwise "SingleCopy" ∈ nestW := nest_in (List.mem_of_getElem? (i := 671) (by decide +kernel)) rfl
set_option maxRecDepth 20000 in
theorem vi_yX0_firstOtherwise : Cond.instanceMethod yX0_firstOtherwise ∈ lw_good := lw_in (List.mem_of_getElem? (i := 673) (by decide +kernel)) rfl
set_option maxRecDepth 20000 in
theorem nkM_X0_37 : Cond.methodLinkNest RX0 37 yX7_at "SingleCopy" ∈ nestW := nest_in (List.mem_of_getElem? (i := 675) (by decide +kernel)) rfl
set_option maxRecDepth 20000 in
theorem lkM_L_101 : Cond.methodLink RL 101 yX7_strengths ∈ lw_good := lw_in (List.mem_of_getElem? (i := 676) (by decide +kernel)) rfl
set_option maxRecDepth 20000 in
theorem vi_yX7_strengths : Cond.instanceMethod yX7_strengths ∈ lw_good := lw_in (List.mem_of_getElem? (i := 677) (by decide +kernel)) rfl
set_option maxRecDepth 20000 in
theorem vs_yX7_strengths : Cond.selects RX7 yX7_strengths yX7_strengths ∈ lw_good := lw_in (List.mem_of_getElem? (i := 678) (by decide +kernel)) rfl
set_option maxRecDepth 20000 in
theorem lkM_L_105 : Cond.methodLink RL 105 yX7_write ∈ lw_good := lw_in (List.mem_of_getElem? (i := 680) (by decide +kernel)) rfl
set_option maxRecDepth 20000 in
theorem vi_yX7_write : Cond.instanceMethod yX7_write ∈ lw_good := lw_in (List.mem_of_getElem? (i := 681) (by decide +kernel)) rfl
set_option maxRecDepth 20000 in
theorem vs_yX7_write : Cond.selects RX7 yX7_write yX7_write ∈ lw_good := lw_in (List.mem_of_getElem? (i := 682) (by decide +kernel)) rfl
set_option maxRecDepth 20000 in
theorem lkM_L_109 : Cond.methodLink RL 109 yX7_tear ∈ lw_good := lw_in (List.mem_of_getElem? (i := 684) (by decide +kernel)) rfl
set_option maxRecDepth 20000 in
theorem vi_yX7_tear : Cond.instanceMethod yX7_tear ∈ lw_good := lw_in (List.mem_of_getElem? (i := 685) (by decide +kernel)) rfl
set_option maxRecDepth 20000 in
theorem vs_yX7_tear : Cond.selects RX7 yX7_tear yX7_tear ∈ lw_good := lw_in (List.mem_of_getElem? (i := 686) (by decide +kernel)) rfl
set_option maxRecDepth 20000 in
theorem lkM_L_113 : Cond.methodLink RL 113 yX7_judge ∈ lw_good := lw_in (List.mem_of_getElem? (i := 688) (by decide +kernel)) rfl
set_option maxRecDepth 20000 in
theorem vi_yX7_judge : Cond.instanceMethod yX7_judge ∈ lw_good := lw_in (List.mem_of_getElem? (i := 689) (by decide +kernel)) rfl
set_option maxRecDepth 20000 in
theorem vs_yX7_judge : Cond.selects RX7 yX7_judge yX7_judge ∈ lw_good := lw_in (List.mem_of_getElem? (i := 690) (by decide +kernel)) rfl
set_option maxRecDepth 20000 in
theorem lkM_L_117 : Cond.methodLink RL 117 yX7_seed ∈ lw_good := lw_in (List.mem_of_getElem? (i := 692) (by decide +kernel)) rfl
set_option maxRecDepth 20000 in
theorem vi_yX7_seed : Cond.instanceMethod yX7_seed ∈ lw_good := lw_in (List.mem_of_getElem? (i := 693) (by decide +kernel)) rfl
set_option maxRecDepth 20000 in
theorem vs_yX7_seed : Cond.selects RX7 yX7_seed yX7_seed ∈ lw_good := lw_in (List.mem_of_getElem? (i := 694) (by decide +kernel)) rfl
set_option maxRecDepth 20000 in
theorem lkM_L_121 : Cond.methodLink RL 121 yX7_keep ∈ lw_good := lw_in (List.mem_of_getElem? (i := 696) (by decide +kernel)) rfl
set_option maxRecDepth 20000 in
theorem vi_yX7_keep : Cond.instanceMethod yX7_keep ∈ lw_good := lw_in (List.mem_of_getElem? (i := 697) (by decide +kernel)) rfl
set_option maxRecDepth 20000 in
theorem vs_yX7_keep : Cond.selects RX7 yX7_keep yX7_keep ∈ lw_good := lw_in (List.mem_of_getElem? (i := 698) (by decide +kernel)) rfl
set_option maxRecDepth 20000 in
theorem nkM_X7_261 : Cond.methodLinkNest RX7 261 yX6_store "SingleCopy" ∈ nestW := nest_in (List.mem_of_getElem? (i := 700) (by decide +kernel)) rfl
set_option maxRecDepth 20000 in
theorem lkM_L_125 : Cond.methodLink RL 125 yX7_goBack ∈ lw_good := lw_in (List.mem_of_getElem? (i := 701) (by decide +kernel)) rfl
set_option maxRecDepth 20000 in
theorem vi_yX7_goBack : Cond.instanceMethod yX7_goBack ∈ lw_good := lw_in (List.mem_of_getElem? (i := 702) (by decide +kernel)) rfl
set_option maxRecDepth 20000 in
theorem vs_yX7_goBack : Cond.selects RX7 yX7_goBack yX7_goBack ∈ lw_good := lw_in (List.mem_of_getElem? (i := 703) (by decide +kernel)) rfl
set_option maxRecDepth 20000 in
theorem nkM_X7_265 : Cond.methodLinkNest RX7 265 yX6_fetch "SingleCopy" ∈ nestW := nest_in (List.mem_of_getElem? (i := 705) (by decide +kernel)) rfl
set_option maxRecDepth 20000 in
theorem lkM_L_12 : Cond.methodLink RL 12 yX8_init ∈ lw_good := lw_in (List.mem_of_getElem? (i := 708) (by decide +kernel)) rfl
set_option maxRecDepth 20000 in
theorem vi_yX8_init : Cond.instanceMethod yX8_init ∈ lw_good := lw_in (List.mem_of_getElem? (i := 709) (by decide +kernel)) rfl
set_option maxRecDepth 20000 in
theorem lkM_X8_1 : Cond.methodLink RX8 1 objectInit ∈ lw_good := lw_in (List.mem_of_getElem? (i := 711) (by decide +kernel)) rfl
set_option maxRecDepth 20000 in
theorem lkM_X8_60 : Cond.methodLink RX8 60 yX8_begins ∈ lw_good := lw_in (List.mem_of_getElem? (i := 712) (by decide +kernel)) rfl
set_option maxRecDepth 20000 in
theorem vi_yX8_begins : Cond.instanceMethod yX8_begins ∈ lw_good := lw_in (List.mem_of_getElem? (i := 714) (by decide +kernel)) rfl
set_option maxRecDepth 20000 in
theorem lkF_X8_7 : Cond.fieldLink RX8 7 "SingleCopyModel" "city" "[I" ∈ lw_good := lw_in (List.mem_of_getElem? (i := 716) (by decide +kernel)) rfl
set_option maxRecDepth 20000 in
theorem lkF_X8_13 : Cond.fieldLink RX8 13 "SingleCopyModel" "read" "[I" ∈ lw_good := lw_in (List.mem_of_getElem? (i := 717) (by decide +kernel)) rfl
set_option maxRecDepth 20000 in
theorem lkF_X8_16 : Cond.fieldLink RX8 16 "SingleCopyModel" "now" "[I" ∈ lw_good := lw_in (List.mem_of_getElem? (i := 718) (by decide +kernel)) rfl
set_option maxRecDepth 20000 in
theorem lkF_X8_19 : Cond.fieldLink RX8 19 "SingleCopyModel" "past" "[I" ∈ lw_good := lw_in (List.mem_of_getElem? (i := 719) (by decide +kernel)) rfl
set_option maxRecDepth 20000 in
theorem lkF_X8_63 : Cond.fieldLink RX8 63 "SingleCopyModel" "undos" "I" ∈ lw_good := lw_in (List.mem_of_getElem? (i := 720) (by decide +kernel)) rfl
set_option maxRecDepth 20000 in
theorem lkF_X8_22 : Cond.fieldLink RX8 22 "SingleCopyModel" "images" "[I" ∈ lw_good := lw_in (List.mem_of_getElem? (i := 721) (by decide +kernel)) rfl
set_option maxRecDepth 20000 in
theorem lkF_X8_25 : Cond.fieldLink RX8 25 "SingleCopyModel" "kept" "[Z" ∈ lw_good := lw_in (List.mem_of_getElem? (i := 722) (by decide +kernel)) rfl
set_option maxRecDepth 20000 in
theorem lkF_X8_190 : Cond.fieldLink RX8 190 "SingleCopyModel" "seed" "J" ∈ lw_good := lw_in (List.mem_of_getElem? (i := 723) (by decide +kernel)) rfl
set_option maxRecDepth 20000 in
theorem lkF_X8_29 : Cond.fieldLink RX8 29 "SingleCopyModel" "text" "[I" ∈ lw_good := lw_in (List.mem_of_getElem? (i := 724) (by decide +kernel)) rfl
set_option maxRecDepth 20000 in
theorem lkF_X8_79 : Cond.fieldLink RX8 79 "SingleCopyModel" "size" "I" ∈ lw_good := lw_in (List.mem_of_getElem? (i := 725) (by decide +kernel)) rfl
set_option maxRecDepth 20000 in
theorem lkF_X8_32 : Cond.fieldLink RX8 32 "SingleCopyModel" "fault" "I" ∈ lw_good := lw_in (List.mem_of_getElem? (i := 726) (by decide +kernel)) rfl
set_option maxRecDepth 20000 in
theorem lkF_X8_36 : Cond.fieldLink RX8 36 "SingleCopyModel" "thoughts" "[I" ∈ lw_good := lw_in (List.mem_of_getElem? (i := 727) (by decide +kernel)) rfl
set_option maxRecDepth 20000 in
theorem lkF_X8_66 : Cond.fieldLink RX8 66 "SingleCopyModel" "thoughtMany" "I" ∈ lw_good := lw_in (List.mem_of_getElem? (i := 728) (by decide +kernel)) rfl
set_option maxRecDepth 20000 in
theorem lkF_X8_39 : Cond.fieldLink RX8 39 "SingleCopyModel" "book" "[I" ∈ lw_good := lw_in (List.mem_of_getElem? (i := 729) (by decide +kernel)) rfl
set_option maxRecDepth 20000 in
theorem lkF_X8_69 : Cond.fieldLink RX8 69 "SingleCopyModel" "bookMany" "I" ∈ lw_good := lw_in (List.mem_of_getElem? (i := 730) (by decide +kernel)) rfl
set_option maxRecDepth 20000 in
theorem lkF_X8_83 : Cond.fieldLink RX8 83 "SingleCopyModel" "at" "I" ∈ lw_good := lw_in (List.mem_of_getElem? (i := 731) (by decide +kernel)) rfl
set_option maxRecDepth 20000 in
theorem lkF_X8_90 : Cond.fieldLink RX8 90 "SingleCopyModel" "begin" "I" ∈ lw_good := lw_in (List.mem_of_getElem? (i := 732) (by decide +kernel)) rfl
set_option maxRecDepth 20000 in
theorem lkF_X8_93 : Cond.fieldLink RX8 93 "SingleCopyModel" "sign" "I" ∈ lw_good := lw_in (List.mem_of_getElem? (i := 733) (by decide +kernel)) rfl
set_option maxRecDepth 20000 in
theorem lkF_X8_96 : Cond.fieldLink RX8 96 "SingleCopyModel" "figures" "I" ∈ lw_good := lw_in (List.mem_of_getElem? (i := 734) (by decide +kernel)) rfl
set_option maxRecDepth 20000 in
theorem lkF_X8_99 : Cond.fieldLink RX8 99 "SingleCopyModel" "value" "I" ∈ lw_good := lw_in (List.mem_of_getElem? (i := 735) (by decide +kernel)) rfl
set_option maxRecDepth 20000 in
theorem lkF_X8_106 : Cond.fieldLink RX8 106 "SingleCopyModel" "wrong" "I" ∈ lw_good := lw_in (List.mem_of_getElem? (i := 736) (by decide +kernel)) rfl
set_option maxRecDepth 20000 in
theorem lkF_X8_42 : Cond.fieldLink RX8 42 "SingleCopyModel" "tonight" "[I" ∈ lw_good := lw_in (List.mem_of_getElem? (i := 737) (by decide +kernel)) rfl
set_option maxRecDepth 20000 in
theorem lkF_X8_45 : Cond.fieldLink RX8 45 "SingleCopyModel" "tomorrow" "[I" ∈ lw_good := lw_in (List.mem_of_getElem? (i := 738) (by decide +kernel)) rfl
set_option maxRecDepth 20000 in
theorem lkF_X8_213 : Cond.fieldLink RX8 213 "SingleCopyModel" "firstSheet" "I" ∈ lw_good := lw_in (List.mem_of_getElem? (i := 739) (by decide +kernel)) rfl
set_option maxRecDepth 20000 in
theorem lkF_X8_216 : Cond.fieldLink RX8 216 "SingleCopyModel" "secondSheet" "I" ∈ lw_good := lw_in (List.mem_of_getElem? (i := 740) (by decide +kernel)) rfl
set_option maxRecDepth 20000 in
theorem lkF_X8_48 : Cond.fieldLink RX8 48 "SingleCopyModel" "steps" "[I" ∈ lw_good := lw_in (List.mem_of_getElem? (i := 741) (by decide +kernel)) rfl
set_option maxRecDepth 20000 in
theorem lkF_X8_51 : Cond.fieldLink RX8 51 "SingleCopyModel" "printed" "[I" ∈ lw_good := lw_in (List.mem_of_getElem? (i := 742) (by decide +kernel)) rfl
set_option maxRecDepth 20000 in
theorem lkF_X8_54 : Cond.fieldLink RX8 54 "SingleCopyModel" "tried" "[I" ∈ lw_good := lw_in (List.mem_of_getElem? (i := 743) (by decide +kernel)) rfl
set_option maxRecDepth 20000 in
theorem lkF_X8_57 : Cond.fieldLink RX8 57 "SingleCopyModel" "best" "[I" ∈ lw_good := lw_in (List.mem_of_getElem? (i := 744) (by decide +kernel)) rfl
set_option maxRecDepth 20000 in
theorem lkM_L_17 : Cond.methodLink RL 17 yX8_feed ∈ lw_good := lw_in (List.mem_of_getElem? (i := 805) (by decide +kernel)) rfl
set_option maxRecDepth 20000 in
theorem vi_yX8_feed : Cond.instanceMethod yX8_feed ∈ lw_good := lw_in (List.mem_of_getElem? (i := 806) (by decide +kernel)) rfl
set_option maxRecDepth 20000 in
theorem vs_yX8_feed : Cond.selects RX8 yX8_feed yX8_feed ∈ lw_good := lw_in (List.mem_of_getElem? (i := 807) (by decide +kernel)) rfl
set_option maxRecDepth 20000 in
theorem kc_X8_72 : Cond.constantLong RX8 72 (255) ∈ lw_good := lw_in (List.mem_of_getElem? (i := 809) (by decide +kernel)) rfl
set_option maxRecDepth 20000 in
theorem lkM_X8_74 : Cond.methodLink RX8 74 yX8_in ∈ lw_good := lw_in (List.mem_of_getElem? (i := 810) (by decide +kernel)) rfl
set_option maxRecDepth 20000 in
theorem st_yX8_in : Cond.static yX8_in ∈ lw_good := lw_in (List.mem_of_getElem? (i := 811) (by decide +kernel)) rfl
set_option maxRecDepth 20000 in
theorem kc_X8_78 : Cond.constant RX8 78 (-1000000002) ∈ lw_good := lw_in (List.mem_of_getElem? (i := 813) (by decide +kernel)) rfl
set_option maxRecDepth 20000 in
theorem kc_X8_82 : Cond.constant RX8 82 (-1000000004) ∈ lw_good := lw_in (List.mem_of_getElem? (i := 814) (by decide +kernel)) rfl
set_option maxRecDepth 20000 in
theorem lkM_L_22 : Cond.methodLink RL 22 yX8_city ∈ lw_good := lw_in (List.mem_of_getElem? (i := 815) (by decide +kernel)) rfl
set_option maxRecDepth 20000 in
theorem vi_yX8_city : Cond.instanceMethod yX8_city ∈ lw_good := lw_in (List.mem_of_getElem? (i := 816) (by decide +kernel)) rfl
set_option maxRecDepth 20000 in
theorem vs_yX8_city : Cond.selects RX8 yX8_city yX8_city ∈ lw_good := lw_in (List.mem_of_getElem? (i := 817) (by decide +kernel)) rfl
set_option maxRecDepth 20000 in
theorem lkM_X8_109 : Cond.methodLink RX8 109 yX8_step ∈ lw_good := lw_in (List.mem_of_getElem? (i := 819) (by decide +kernel)) rfl
set_option maxRecDepth 20000 in
theorem vi_yX8_step : Cond.instanceMethod yX8_step ∈ lw_good := lw_in (List.mem_of_getElem? (i := 821) (by decide +kernel)) rfl
set_option maxRecDepth 20000 in
theorem lkM_X8_86 : Cond.methodLink RX8 86 yX8_here ∈ lw_good := lw_in (List.mem_of_getElem? (i := 823) (by decide +kernel)) rfl
set_option maxRecDepth 20000 in
theorem vi_yX8_here : Cond.instanceMethod yX8_here ∈ lw_good := lw_in (List.mem_of_getElem? (i := 825) (by decide +kernel)) rfl
set_option maxRecDepth 20000 in
theorem kc_X8_102 : Cond.constantLong RX8 102 (48) ∈ lw_good := lw_in (List.mem_of_getElem? (i := 827) (by decide +kernel)) rfl
set_option maxRecDepth 20000 in
theorem kc_X8_104 : Cond.constantLong RX8 104 (57) ∈ lw_good := lw_in (List.mem_of_getElem? (i := 828) (by decide +kernel)) rfl
set_option maxRecDepth 20000 in
theorem lkM_X8_133 : Cond.methodLink RX8 133 yX8_readsClause ∈ lw_good := lw_in (List.mem_of_getElem? (i := 829) (by decide +kernel)) rfl
set_option maxRecDepth 20000 in
theorem vi_yX8_readsClause : Cond.instanceMethod yX8_readsClause ∈ lw_good := lw_in (List.mem_of_getElem? (i := 831) (by decide +kernel)) rfl
set_option maxRecDepth 20000 in
theorem lkM_X8_124 : Cond.methodLink RX8 124 yX8_readsReader ∈ lw_good := lw_in (List.mem_of_getElem? (i := 833) (by decide +kernel)) rfl
set_option maxRecDepth 20000 in
theorem vi_yX8_readsReader : Cond.instanceMethod yX8_readsReader ∈ lw_good := lw_in (List.mem_of_getElem? (i := 835) (by decide +kernel)) rfl
set_option maxRecDepth 20000 in
theorem lkM_X8_112 : Cond.methodLink RX8 112 yX8_fails ∈ lw_good := lw_in (List.mem_of_getElem? (i := 837) (by decide +kernel)) rfl
set_option maxRecDepth 20000 in
theorem vi_yX8_fails : Cond.instanceMethod yX8_fails ∈ lw_good := lw_in (List.mem_of_getElem? (i := 839) (by decide +kernel)) rfl
set_option maxRecDepth 20000 in
theorem lkM_X8_116 : Cond.methodLink RX8 116 yX8_number ∈ lw_good := lw_in (List.mem_of_getElem? (i := 841) (by decide +kernel)) rfl
set_option maxRecDepth 20000 in
theorem vi_yX8_number : Cond.instanceMethod yX8_number ∈ lw_good := lw_in (List.mem_of_getElem? (i := 843) (by decide +kernel)) rfl
set_option maxRecDepth 20000 in
theorem lkM_X8_127 : Cond.methodLink RX8 127 yX8_readsFact ∈ lw_good := lw_in (List.mem_of_getElem? (i := 845) (by decide +kernel)) rfl
set_option maxRecDepth 20000 in
theorem vi_yX8_readsFact : Cond.instanceMethod yX8_readsFact ∈ lw_good := lw_in (List.mem_of_getElem? (i := 847) (by decide +kernel)) rfl
set_option maxRecDepth 20000 in
theorem lkM_X8_120 : Cond.methodLink RX8 120 yX8_ends ∈ lw_good := lw_in (List.mem_of_getElem? (i := 849) (by decide +kernel)) rfl
set_option maxRecDepth 20000 in
theorem vi_yX8_ends : Cond.instanceMethod yX8_ends ∈ lw_good := lw_in (List.mem_of_getElem? (i := 851) (by decide +kernel)) rfl
set_option maxRecDepth 20000 in
theorem lkM_X8_130 : Cond.methodLink RX8 130 yX8_readsSure ∈ lw_good := lw_in (List.mem_of_getElem? (i := 853) (by decide +kernel)) rfl
set_option maxRecDepth 20000 in
theorem vi_yX8_readsSure : Cond.instanceMethod yX8_readsSure ∈ lw_good := lw_in (List.mem_of_getElem? (i := 855) (by decide +kernel)) rfl
set_option maxRecDepth 20000 in
theorem lkM_L_26 : Cond.methodLink RL 26 yX8_fault ∈ lw_good := lw_in (List.mem_of_getElem? (i := 857) (by decide +kernel)) rfl
set_option maxRecDepth 20000 in
theorem vi_yX8_fault : Cond.instanceMethod yX8_fault ∈ lw_good := lw_in (List.mem_of_getElem? (i := 858) (by decide +kernel)) rfl
set_option maxRecDepth 20000 in
theorem vs_yX8_fault : Cond.selects RX8 yX8_fault yX8_fault ∈ lw_good := lw_in (List.mem_of_getElem? (i := 859) (by decide +kernel)) rfl
set_option maxRecDepth 20000 in
theorem lkM_L_30 : Cond.methodLink RL 30 yX8_told ∈ lw_good := lw_in (List.mem_of_getElem? (i := 861) (by decide +kernel)) rfl
set_option maxRecDepth 20000 in
theorem vi_yX8_told : Cond.instanceMethod yX8_told ∈ lw_good := lw_in (List.mem_of_getElem? (i := 862) (by decide +kernel)) rfl
set_option maxRecDepth 20000 in
theorem vs_yX8_told : Cond.selects RX8 yX8_told yX8_told ∈ lw_good := lw_in (List.mem_of_getElem? (i := 863) (by decide +kernel)) rfl
set_option maxRecDepth 20000 in
theorem lkM_X8_136 : Cond.methodLink RX8 136 yX8_convinced ∈ lw_good := lw_in (List.mem_of_getElem? (i := 865) (by decide +kernel)) rfl
set_option maxRecDepth 20000 in
theorem vi_yX8_convinced : Cond.instanceMethod yX8_convinced ∈ lw_good := lw_in (List.mem_of_getElem? (i := 867) (by decide +kernel)) rfl
set_option maxRecDepth 20000 in
theorem lkM_L_34 : Cond.methodLink RL 34 yX8_belief ∈ lw_good := lw_in (List.mem_of_getElem? (i := 869) (by decide +kernel)) rfl
set_option maxRecDepth 20000 in
theorem vi_yX8_belief : Cond.instanceMethod yX8_belief ∈ lw_good := lw_in (List.mem_of_getElem? (i := 870) (by decide +kernel)) rfl
set_option maxRecDepth 20000 in
theorem vs_yX8_belief : Cond.selects RX8 yX8_belief yX8_belief ∈ lw_good := lw_in (List.mem_of_getElem? (i := 871) (by decide +kernel)) rfl
set_option maxRecDepth 20000 in
theorem lkM_X8_140 : Cond.methodLink RX8 140 yX8_isOpinion ∈ lw_good := lw_in (List.mem_of_getElem? (i := 873) (by decide +kernel)) rfl
set_option maxRecDepth 20000 in
theorem vi_yX8_isOpinion : Cond.instanceMethod yX8_isOpinion ∈ lw_good := lw_in (List.mem_of_getElem? (i := 875) (by decide +kernel)) rfl
set_option maxRecDepth 20000 in
theorem kc_X8_143 : Cond.constant RX8 143 (-1000000001) ∈ lw_good := lw_in (List.mem_of_getElem? (i := 877) (by decide +kernel)) rfl
set_option maxRecDepth 20000 in
theorem lkM_L_39 : Cond.methodLink RL 39 yX8_fact ∈ lw_good := lw_in (List.mem_of_getElem? (i := 878) (by decide +kernel)) rfl
set_option maxRecDepth 20000 in
theorem vi_yX8_fact : Cond.instanceMethod yX8_fact ∈ lw_good := lw_in (List.mem_of_getElem? (i := 879) (by decide +kernel)) rfl
set_option maxRecDepth 20000 in
theorem vs_yX8_fact : Cond.selects RX8 yX8_fact yX8_fact ∈ lw_good := lw_in (List.mem_of_getElem? (i := 880) (by decide +kernel)) rfl
set_option maxRecDepth 20000 in
theorem lkM_X8_144 : Cond.methodLink RX8 144 yX8_isFact ∈ lw_good := lw_in (List.mem_of_getElem? (i := 882) (by decide +kernel)) rfl
set_option maxRecDepth 20000 in
theorem vi_yX8_isFact : Cond.instanceMethod yX8_isFact ∈ lw_good := lw_in (List.mem_of_getElem? (i := 884) (by decide +kernel)) rfl
set_option maxRecDepth 20000 in
theorem lkM_X8_147 : Cond.methodLink RX8 147 yX8_has ∈ lw_good := lw_in (List.mem_of_getElem? (i := 886) (by decide +kernel)) rfl
set_option maxRecDepth 20000 in
theorem st_yX8_has : Cond.static yX8_has ∈ lw_good := lw_in (List.mem_of_getElem? (i := 887) (by decide +kernel)) rfl
set_option maxRecDepth 20000 in
theorem lkM_L_43 : Cond.methodLink RL 43 yX8_night ∈ lw_good := lw_in (List.mem_of_getElem? (i := 889) (by decide +kernel)) rfl
set_option maxRecDepth 20000 in
theorem vi_yX8_night : Cond.instanceMethod yX8_night ∈ lw_good := lw_in (List.mem_of_getElem? (i := 890) (by decide +kernel)) rfl
set_option maxRecDepth 20000 in
theorem vs_yX8_night : Cond.selects RX8 yX8_night yX8_night ∈ lw_good := lw_in (List.mem_of_getElem? (i := 891) (by decide +kernel)) rfl
set_option maxRecDepth 20000 in
theorem lkM_X8_173 : Cond.methodLink RX8 173 yX8_areFacts ∈ lw_good := lw_in (List.mem_of_getElem? (i := 893) (by decide +kernel)) rfl
set_option maxRecDepth 20000 in
theorem vi_yX8_areFacts : Cond.instanceMethod yX8_areFacts ∈ lw_good := lw_in (List.mem_of_getElem? (i := 895) (by decide +kernel)) rfl
set_option maxRecDepth 20000 in
theorem lkM_X8_176 : Cond.methodLink RX8 176 yX8_maySheet ∈ lw_good := lw_in (List.mem_of_getElem? (i := 897) (by decide +kernel)) rfl
set_option maxRecDepth 20000 in
theorem vi_yX8_maySheet : Cond.instanceMethod yX8_maySheet ∈ lw_good := lw_in (List.mem_of_getElem? (i := 899) (by decide +kernel)) rfl
set_option maxRecDepth 20000 in
theorem lkM_X8_162 : Cond.methodLink RX8 162 yX8_bits ∈ lw_good := lw_in (List.mem_of_getElem? (i := 901) (by decide +kernel)) rfl
set_option maxRecDepth 20000 in
theorem st_yX8_bits : Cond.static yX8_bits ∈ lw_good := lw_in (List.mem_of_getElem? (i := 902) (by decide +kernel)) rfl
set_option maxRecDepth 20000 in
theorem kc_X8_179 : Cond.constant RX8 179 (-1000000003) ∈ lw_good := lw_in (List.mem_of_getElem? (i := 904) (by decide +kernel)) rfl
set_option maxRecDepth 20000 in
theorem kc_X8_180 : Cond.constant RX8 180 (90000) ∈ lw_good := lw_in (List.mem_of_getElem? (i := 905) (by decide +kernel)) rfl
set_option maxRecDepth 20000 in
theorem lkM_X8_181 : Cond.methodLink RX8 181 yX8_remember ∈ lw_good := lw_in (List.mem_of_getElem? (i := 906) (by decide +kernel)) rfl
set_option maxRecDepth 20000 in
theorem vi_yX8_remember : Cond.instanceMethod yX8_remember ∈ lw_good := lw_in (List.mem_of_getElem? (i := 908) (by decide +kernel)) rfl
set_option maxRecDepth 20000 in
theorem lkM_X8_165 : Cond.methodLink RX8 165 yX8_copies ∈ lw_good := lw_in (List.mem_of_getElem? (i := 910) (by decide +kernel)) rfl
set_option maxRecDepth 20000 in
theorem st_yX8_copies : Cond.static yX8_copies ∈ lw_good := lw_in (List.mem_of_getElem? (i := 911) (by decide +kernel)) rfl
set_option maxRecDepth 20000 in
theorem lkM_X8_184 : Cond.methodLink RX8 184 yX8_prints ∈ lw_good := lw_in (List.mem_of_getElem? (i := 913) (by decide +kernel)) rfl
set_option maxRecDepth 20000 in
theorem vi_yX8_prints : Cond.instanceMethod yX8_prints ∈ lw_good := lw_in (List.mem_of_getElem? (i := 915) (by decide +kernel)) rfl
set_option maxRecDepth 20000 in
theorem lkM_X8_169 : Cond.methodLink RX8 169 yX8_readsSheet ∈ lw_good := lw_in (List.mem_of_getElem? (i := 917) (by decide +kernel)) rfl
set_option maxRecDepth 20000 in
theorem vi_yX8_readsSheet : Cond.instanceMethod yX8_readsSheet ∈ lw_good := lw_in (List.mem_of_getElem? (i := 919) (by decide +kernel)) rfl
set_option maxRecDepth 20000 in
theorem lkM_X8_155 : Cond.methodLink RX8 155 yX8_byOf ∈ lw_good := lw_in (List.mem_of_getElem? (i := 921) (by decide +kernel)) rfl
set_option maxRecDepth 20000 in
theorem vi_yX8_byOf : Cond.instanceMethod yX8_byOf ∈ lw_good := lw_in (List.mem_of_getElem? (i := 923) (by decide +kernel)) rfl
set_option maxRecDepth 20000 in
theorem lkM_X8_158 : Cond.methodLink RX8 158 yX8_reads ∈ lw_good := lw_in (List.mem_of_getElem? (i := 925) (by decide +kernel)) rfl
set_option maxRecDepth 20000 in
theorem vi_yX8_reads : Cond.instanceMethod yX8_reads ∈ lw_good := lw_in (List.mem_of_getElem? (i := 927) (by decide +kernel)) rfl
set_option maxRecDepth 20000 in
theorem lkM_X8_151 : Cond.methodLink RX8 151 yX8_bound ∈ lw_good := lw_in (List.mem_of_getElem? (i := 929) (by decide +kernel)) rfl
set_option maxRecDepth 20000 in
theorem st_yX8_bound : Cond.static yX8_bound ∈ lw_good := lw_in (List.mem_of_getElem? (i := 930) (by decide +kernel)) rfl
set_option maxRecDepth 20000 in
theorem lkM_L_47 : Cond.methodLink RL 47 yX8_meet ∈ lw_good := lw_in (List.mem_of_getElem? (i := 932) (by decide +kernel)) rfl
set_option maxRecDepth 20000 in
theorem vi_yX8_meet : Cond.instanceMethod yX8_meet ∈ lw_good := lw_in (List.mem_of_getElem? (i := 933) (by decide +kernel)) rfl
set_option maxRecDepth 20000 in
theorem vs_yX8_meet : Cond.selects RX8 yX8_meet yX8_meet ∈ lw_good := lw_in (List.mem_of_getElem? (i := 934) (by decide +kernel)) rfl
set_option maxRecDepth 20000 in
theorem kc_X8_188 : Cond.constantLong RX8 188 (20) ∈ lw_good := lw_in (List.mem_of_getElem? (i := 936) (by decide +kernel)) rfl
set_option maxRecDepth 20000 in
theorem lkM_L_51 : Cond.methodLink RL 51 yX8_make ∈ lw_good := lw_in (List.mem_of_getElem? (i := 937) (by decide +kernel)) rfl
set_option maxRecDepth 20000 in
theorem vi_yX8_make : Cond.instanceMethod yX8_make ∈ lw_good := lw_in (List.mem_of_getElem? (i := 938) (by decide +kernel)) rfl
set_option maxRecDepth 20000 in
theorem vs_yX8_make : Cond.selects RX8 yX8_make yX8_make ∈ lw_good := lw_in (List.mem_of_getElem? (i := 939) (by decide +kernel)) rfl
set_option maxRecDepth 20000 in
theorem lkM_L_55 : Cond.methodLink RL 55 yX8_drift ∈ lw_good := lw_in (List.mem_of_getElem? (i := 941) (by decide +kernel)) rfl
set_option maxRecDepth 20000 in
theorem vi_yX8_drift : Cond.instanceMethod yX8_drift ∈ lw_good := lw_in (List.mem_of_getElem? (i := 942) (by decide +kernel)) rfl
set_option maxRecDepth 20000 in
theorem vs_yX8_drift : Cond.selects RX8 yX8_drift yX8_drift ∈ lw_good := lw_in (List.mem_of_getElem? (i := 943) (by decide +kernel)) rfl
set_option maxRecDepth 20000 in
theorem kc_X8_202 : Cond.constantLong RX8 202 (60) ∈ lw_good := lw_in (List.mem_of_getElem? (i := 945) (by decide +kernel)) rfl
set_option maxRecDepth 20000 in
theorem lkM_X8_204 : Cond.methodLink RX8 204 yX8_draw ∈ lw_good := lw_in (List.mem_of_getElem? (i := 946) (by decide +kernel)) rfl
set_option maxRecDepth 20000 in
theorem vi_yX8_draw : Cond.instanceMethod yX8_draw ∈ lw_good := lw_in (List.mem_of_getElem? (i := 948) (by decide +kernel)) rfl
set_option maxRecDepth 20000 in
theorem kc_X8_194 : Cond.constantLong RX8 194 (1103515245) ∈ lw_good := lw_in (List.mem_of_getElem? (i := 950) (by decide +kernel)) rfl
set_option maxRecDepth 20000 in
theorem kc_X8_196 : Cond.constantLong RX8 196 (12345) ∈ lw_good := lw_in (List.mem_of_getElem? (i := 951) (by decide +kernel)) rfl
set_option maxRecDepth 20000 in
theorem kc_X8_198 : Cond.constantLong RX8 198 (2147483648) ∈ lw_good := lw_in (List.mem_of_getElem? (i := 952) (by decide +kernel)) rfl
set_option maxRecDepth 20000 in
theorem kc_X8_200 : Cond.constantLong RX8 200 (65536) ∈ lw_good := lw_in (List.mem_of_getElem? (i := 953) (by decide +kernel)) rfl
set_option maxRecDepth 20000 in
theorem lkM_L_59 : Cond.methodLink RL 59 yX8_undo ∈ lw_good := lw_in (List.mem_of_getElem? (i := 954) (by decide +kernel)) rfl
set_option maxRecDepth 20000 in
theorem vi_yX8_undo : Cond.instanceMethod yX8_undo ∈ lw_good := lw_in (List.mem_of_getElem? (i := 955) (by decide +kernel)) rfl
set_option maxRecDepth 20000 in
theorem vs_yX8_undo : Cond.selects RX8 yX8_undo yX8_undo ∈ lw_good := lw_in (List.mem_of_getElem? (i := 956) (by decide +kernel)) rfl
set_option maxRecDepth 20000 in
theorem lkM_L_63 : Cond.methodLink RL 63 yX8_thinks ∈ lw_good := lw_in (List.mem_of_getElem? (i := 958) (by decide +kernel)) rfl
set_option maxRecDepth 20000 in
theorem vi_yX8_thinks : Cond.instanceMethod yX8_thinks ∈ lw_good := lw_in (List.mem_of_getElem? (i := 959) (by decide +kernel)) rfl
set_option maxRecDepth 20000 in
theorem vs_yX8_thinks : Cond.selects RX8 yX8_thinks yX8_thinks ∈ lw_good := lw_in (List.mem_of_getElem? (i := 960) (by decide +kernel)) rfl
set_option maxRecDepth 20000 in
theorem lkM_X8_207 : Cond.methodLink RX8 207 yX8_triesTonight ∈ lw_good := lw_in (List.mem_of_getElem? (i := 962) (by decide +kernel)) rfl
set_option maxRecDepth 20000 in
theorem vi_yX8_triesTonight : Cond.instanceMethod yX8_triesTonight ∈ lw_good := lw_in (List.mem_of_getElem? (i := 964) (by decide +kernel)) rfl
set_option maxRecDepth 20000 in
theorem lkM_L_68 : Cond.methodLink RL 68 yX8_soonest ∈ lw_good := lw_in (List.mem_of_getElem? (i := 966) (by decide +kernel)) rfl
set_option maxRecDepth 20000 in
theorem vi_yX8_soonest : Cond.instanceMethod yX8_soonest ∈ lw_good := lw_in (List.mem_of_getElem? (i := 967) (by decide +kernel)) rfl
set_option maxRecDepth 20000 in
theorem vs_yX8_soonest : Cond.selects RX8 yX8_soonest yX8_soonest ∈ lw_good := lw_in (List.mem_of_getElem? (i := 968) (by decide +kernel)) rfl
set_option maxRecDepth 20000 in
theorem lkM_X8_220 : Cond.methodLink RX8 220 yX8_areOpinions ∈ lw_good := lw_in (List.mem_of_getElem? (i := 970) (by decide +kernel)) rfl
set_option maxRecDepth 20000 in
theorem vi_yX8_areOpinions : Cond.instanceMethod yX8_areOpinions ∈ lw_good := lw_in (List.mem_of_getElem? (i := 972) (by decide +kernel)) rfl
set_option maxRecDepth 20000 in
theorem lkM_X8_223 : Cond.methodLink RX8 223 yX8_layNights ∈ lw_good := lw_in (List.mem_of_getElem? (i := 974) (by decide +kernel)) rfl
set_option maxRecDepth 20000 in
theorem vi_yX8_layNights : Cond.instanceMethod yX8_layNights ∈ lw_good := lw_in (List.mem_of_getElem? (i := 976) (by decide +kernel)) rfl
set_option maxRecDepth 20000 in
theorem lkM_X8_210 : Cond.methodLink RX8 210 yX8_isWanted ∈ lw_good := lw_in (List.mem_of_getElem? (i := 978) (by decide +kernel)) rfl
set_option maxRecDepth 20000 in
theorem vi_yX8_isWanted : Cond.instanceMethod yX8_isWanted ∈ lw_good := lw_in (List.mem_of_getElem? (i := 980) (by decide +kernel)) rfl
set_option maxRecDepth 20000 in
theorem kc_X8_219 : Cond.constant RX8 219 (1000000) ∈ lw_good := lw_in (List.mem_of_getElem? (i := 982) (by decide +kernel)) rfl
set_option maxRecDepth 20000 in
theorem lkM_L_72 : Cond.methodLink RL 72 yX8_cannot ∈ lw_good := lw_in (List.mem_of_getElem? (i := 983) (by decide +kernel)) rfl
set_option maxRecDepth 20000 in
theorem vi_yX8_cannot : Cond.instanceMethod yX8_cannot ∈ lw_good := lw_in (List.mem_of_getElem? (i := 984) (by decide +kernel)) rfl
set_option maxRecDepth 20000 in
theorem vs_yX8_cannot : Cond.selects RX8 yX8_cannot yX8_cannot ∈ lw_good := lw_in (List.mem_of_getElem? (i := 985) (by decide +kernel)) rfl
set_option maxRecDepth 20000 in
theorem lkM_L_76 : Cond.methodLink RL 76 yX8_least ∈ lw_good := lw_in (List.mem_of_getElem? (i := 987) (by decide +kernel)) rfl
set_option maxRecDepth 20000 in
theorem vi_yX8_least : Cond.instanceMethod yX8_least ∈ lw_good := lw_in (List.mem_of_getElem? (i := 988) (by decide +kernel)) rfl
set_option maxRecDepth 20000 in
theorem vs_yX8_least : Cond.selects RX8 yX8_least yX8_least ∈ lw_good := lw_in (List.mem_of_getElem? (i := 989) (by decide +kernel)) rfl
set_option maxRecDepth 20000 in
theorem lkM_X8_227 : Cond.methodLink RX8 227 yX8_costOf ∈ lw_good := lw_in (List.mem_of_getElem? (i := 991) (by decide +kernel)) rfl
set_option maxRecDepth 20000 in
theorem vi_yX8_costOf : Cond.instanceMethod yX8_costOf ∈ lw_good := lw_in (List.mem_of_getElem? (i := 993) (by decide +kernel)) rfl
set_option maxRecDepth 20000 in
theorem lkM_X8_230 : Cond.methodLink RX8 230 yX8_convinces ∈ lw_good := lw_in (List.mem_of_getElem? (i := 995) (by decide +kernel)) rfl
set_option maxRecDepth 20000 in
theorem vi_yX8_convinces : Cond.instanceMethod yX8_convinces ∈ lw_good := lw_in (List.mem_of_getElem? (i := 997) (by decide +kernel)) rfl
set_option maxRecDepth 20000 in
theorem lkM_L_80 : Cond.methodLink RL 80 yX8_rivals ∈ lw_good := lw_in (List.mem_of_getElem? (i := 999) (by decide +kernel)) rfl
set_option maxRecDepth 20000 in
theorem vi_yX8_rivals : Cond.instanceMethod yX8_rivals ∈ lw_good := lw_in (List.mem_of_getElem? (i := 1000) (by decide +kernel)) rfl
set_option maxRecDepth 20000 in
theorem vs_yX8_rivals : Cond.selects RX8 yX8_rivals yX8_rivals ∈ lw_good := lw_in (List.mem_of_getElem? (i := 1001) (by decide +kernel)) rfl
set_option maxRecDepth 20000 in
theorem kc_X8_233 : Cond.constantLong RX8 233 (4) ∈ lw_good := lw_in (List.mem_of_getElem? (i := 1003) (by decide +kernel)) rfl
set_option maxRecDepth 20000 in
theorem lkM_X8_235 : Cond.methodLink RX8 235 yX8_beginsStep ∈ lw_good := lw_in (List.mem_of_getElem? (i := 1004) (by decide +kernel)) rfl
set_option maxRecDepth 20000 in
theorem vi_yX8_beginsStep : Cond.instanceMethod yX8_beginsStep ∈ lw_good := lw_in (List.mem_of_getElem? (i := 1006) (by decide +kernel)) rfl
set_option maxRecDepth 20000 in
theorem lkM_X8_238 : Cond.methodLink RX8 238 yX8_weighs ∈ lw_good := lw_in (List.mem_of_getElem? (i := 1008) (by decide +kernel)) rfl
set_option maxRecDepth 20000 in
theorem vi_yX8_weighs : Cond.instanceMethod yX8_weighs ∈ lw_good := lw_in (List.mem_of_getElem? (i := 1010) (by decide +kernel)) rfl
set_option maxRecDepth 20000 in
theorem lkM_X8_242 : Cond.methodLink RX8 242 yX8_goes ∈ lw_good := lw_in (List.mem_of_getElem? (i := 1012) (by decide +kernel)) rfl
set_option maxRecDepth 20000 in
theorem vi_yX8_goes : Cond.instanceMethod yX8_goes ∈ lw_good := lw_in (List.mem_of_getElem? (i := 1014) (by decide +kernel)) rfl
set_option maxRecDepth 20000 in
theorem lkM_L_84 : Cond.methodLink RL 84 yX8_shun ∈ lw_good := lw_in (List.mem_of_getElem? (i := 1016) (by decide +kernel)) rfl
set_option maxRecDepth 20000 in
theorem vi_yX8_shun : Cond.instanceMethod yX8_shun ∈ lw_good := lw_in (List.mem_of_getElem? (i := 1017) (by decide +kernel)) rfl
set_option maxRecDepth 20000 in
theorem vs_yX8_shun : Cond.selects RX8 yX8_shun yX8_shun ∈ lw_good := lw_in (List.mem_of_getElem? (i := 1018) (by decide +kernel)) rfl
set_option maxRecDepth 20000 in
theorem lkM_L_88 : Cond.methodLink RL 88 yX8_holds ∈ lw_good := lw_in (List.mem_of_getElem? (i := 1020) (by decide +kernel)) rfl
set_option maxRecDepth 20000 in
theorem vi_yX8_holds : Cond.instanceMethod yX8_holds ∈ lw_good := lw_in (List.mem_of_getElem? (i := 1021) (by decide +kernel)) rfl
set_option maxRecDepth 20000 in
theorem vs_yX8_holds : Cond.selects RX8 yX8_holds yX8_holds ∈ lw_good := lw_in (List.mem_of_getElem? (i := 1022) (by decide +kernel)) rfl
set_option maxRecDepth 20000 in
theorem kc_X8_245 : Cond.constantLong RX8 245 (100) ∈ lw_good := lw_in (List.mem_of_getElem? (i := 1024) (by decide +kernel)) rfl
set_option maxRecDepth 20000 in
theorem kc_X8_247 : Cond.constantLong RX8 247 (1000000000) ∈ lw_good := lw_in (List.mem_of_getElem? (i := 1025) (by decide +kernel)) rfl
set_option maxRecDepth 20000 in
theorem lkM_L_92 : Cond.methodLink RL 92 yX8_worn ∈ lw_good := lw_in (List.mem_of_getElem? (i := 1026) (by decide +kernel)) rfl
set_option maxRecDepth 20000 in
theorem vi_yX8_worn : Cond.instanceMethod yX8_worn ∈ lw_good := lw_in (List.mem_of_getElem? (i := 1027) (by decide +kernel)) rfl
set_option maxRecDepth 20000 in
theorem vs_yX8_worn : Cond.selects RX8 yX8_worn yX8_worn ∈ lw_good := lw_in (List.mem_of_getElem? (i := 1028) (by decide +kernel)) rfl
set_option maxRecDepth 20000 in
theorem lkM_L_96 : Cond.methodLink RL 96 yX8_thought ∈ lw_good := lw_in (List.mem_of_getElem? (i := 1030) (by decide +kernel)) rfl
set_option maxRecDepth 20000 in
theorem vi_yX8_thought : Cond.instanceMethod yX8_thought ∈ lw_good := lw_in (List.mem_of_getElem? (i := 1031) (by decide +kernel)) rfl
set_option maxRecDepth 20000 in
theorem vs_yX8_thought : Cond.selects RX8 yX8_thought yX8_thought ∈ lw_good := lw_in (List.mem_of_getElem? (i := 1032) (by decide +kernel)) rfl
set_option maxRecDepth 20000 in
theorem lkM_L_100 : Cond.methodLink RL 100 yX8_leftOut ∈ lw_good := lw_in (List.mem_of_getElem? (i := 1034) (by decide +kernel)) rfl
set_option maxRecDepth 20000 in
theorem vi_yX8_leftOut : Cond.instanceMethod yX8_leftOut ∈ lw_good := lw_in (List.mem_of_getElem? (i := 1035) (by decide +kernel)) rfl
set_option maxRecDepth 20000 in
theorem vs_yX8_leftOut : Cond.selects RX8 yX8_leftOut yX8_leftOut ∈ lw_good := lw_in (List.mem_of_getElem? (i := 1036) (by decide +kernel)) rfl
set_option maxRecDepth 20000 in
theorem lkM_X8_249 : Cond.methodLink RX8 249 yX8_isThought ∈ lw_good := lw_in (List.mem_of_getElem? (i := 1038) (by decide +kernel)) rfl
set_option maxRecDepth 20000 in
theorem vi_yX8_isThought : Cond.instanceMethod yX8_isThought ∈ lw_good := lw_in (List.mem_of_getElem? (i := 1040) (by decide +kernel)) rfl
set_option maxRecDepth 20000 in
theorem lkM_L_104 : Cond.methodLink RL 104 yX8_strengths ∈ lw_good := lw_in (List.mem_of_getElem? (i := 1042) (by decide +kernel)) rfl
set_option maxRecDepth 20000 in
theorem vi_yX8_strengths : Cond.instanceMethod yX8_strengths ∈ lw_good := lw_in (List.mem_of_getElem? (i := 1043) (by decide +kernel)) rfl
set_option maxRecDepth 20000 in
theorem vs_yX8_strengths : Cond.selects RX8 yX8_strengths yX8_strengths ∈ lw_good := lw_in (List.mem_of_getElem? (i := 1044) (by decide +kernel)) rfl
set_option maxRecDepth 20000 in
theorem lkM_L_108 : Cond.methodLink RL 108 yX8_write ∈ lw_good := lw_in (List.mem_of_getElem? (i := 1046) (by decide +kernel)) rfl
set_option maxRecDepth 20000 in
theorem vi_yX8_write : Cond.instanceMethod yX8_write ∈ lw_good := lw_in (List.mem_of_getElem? (i := 1047) (by decide +kernel)) rfl
set_option maxRecDepth 20000 in
theorem vs_yX8_write : Cond.selects RX8 yX8_write yX8_write ∈ lw_good := lw_in (List.mem_of_getElem? (i := 1048) (by decide +kernel)) rfl
set_option maxRecDepth 20000 in
theorem lkM_L_112 : Cond.methodLink RL 112 yX8_tear ∈ lw_good := lw_in (List.mem_of_getElem? (i := 1050) (by decide +kernel)) rfl
set_option maxRecDepth 20000 in
theorem vi_yX8_tear : Cond.instanceMethod yX8_tear ∈ lw_good := lw_in (List.mem_of_getElem? (i := 1051) (by decide +kernel)) rfl
set_option maxRecDepth 20000 in
theorem vs_yX8_tear : Cond.selects RX8 yX8_tear yX8_tear ∈ lw_good := lw_in (List.mem_of_getElem? (i := 1052) (by decide +kernel)) rfl
set_option maxRecDepth 20000 in
theorem lkM_L_116 : Cond.methodLink RL 116 yX8_judge ∈ lw_good := lw_in (List.mem_of_getElem? (i := 1054) (by decide +kernel)) rfl
set_option maxRecDepth 20000 in
theorem vi_yX8_judge : Cond.instanceMethod yX8_judge ∈ lw_good := lw_in (List.mem_of_getElem? (i := 1055) (by decide +kernel)) rfl
set_option maxRecDepth 20000 in
theorem vs_yX8_judge : Cond.selects RX8 yX8_judge yX8_judge ∈ lw_good := lw_in (List.mem_of_getElem? (i := 1056) (by decide +kernel)) rfl
set_option maxRecDepth 20000 in
theorem lkM_L_120 : Cond.methodLink RL 120 yX8_seed ∈ lw_good := lw_in (List.mem_of_getElem? (i := 1058) (by decide +kernel)) rfl
set_option maxRecDepth 20000 in
theorem vi_yX8_seed : Cond.instanceMethod yX8_seed ∈ lw_good := lw_in (List.mem_of_getElem? (i := 1059) (by decide +kernel)) rfl
set_option maxRecDepth 20000 in
theorem vs_yX8_seed : Cond.selects RX8 yX8_seed yX8_seed ∈ lw_good := lw_in (List.mem_of_getElem? (i := 1060) (by decide +kernel)) rfl
set_option maxRecDepth 20000 in
theorem lkM_L_124 : Cond.methodLink RL 124 yX8_keep ∈ lw_good := lw_in (List.mem_of_getElem? (i := 1062) (by decide +kernel)) rfl
set_option maxRecDepth 20000 in
theorem vi_yX8_keep : Cond.instanceMethod yX8_keep ∈ lw_good := lw_in (List.mem_of_getElem? (i := 1063) (by decide +kernel)) rfl
set_option maxRecDepth 20000 in
theorem vs_yX8_keep : Cond.selects RX8 yX8_keep yX8_keep ∈ lw_good := lw_in (List.mem_of_getElem? (i := 1064) (by decide +kernel)) rfl
set_option maxRecDepth 20000 in
theorem lkM_L_128 : Cond.methodLink RL 128 yX8_goBack ∈ lw_good := lw_in (List.mem_of_getElem? (i := 1066) (by decide +kernel)) rfl
set_option maxRecDepth 20000 in
theorem vi_yX8_goBack : Cond.instanceMethod yX8_goBack ∈ lw_good := lw_in (List.mem_of_getElem? (i := 1067) (by decide +kernel)) rfl
set_option maxRecDepth 20000 in
theorem vs_yX8_goBack : Cond.selects RX8 yX8_goBack yX8_goBack ∈ lw_good := lw_in (List.mem_of_getElem? (i := 1068) (by decide +kernel)) rfl
set_option maxRecDepth 20000 in
theorem vs_yX2_append : Cond.selects RX2 yX2_append yX2_append ∈ lw_good := lw_in (List.mem_of_getElem? (i := 0) (by decide +kernel)) rfl
set_option maxRecDepth 20000 in
theorem vs_yX2_readInto : Cond.selects RX2 yX2_readInto yX2_readInto ∈ lw_good := lw_in (List.mem_of_getElem? (i := 1) (by decide +kernel)) rfl
set_option maxRecDepth 20000 in
theorem vs_yX1_clear : Cond.selects RX1 yX1_clear yX1_clear ∈ lw_good := lw_in (List.mem_of_getElem? (i := 2) (by decide +kernel)) rfl
set_option maxRecDepth 20000 in
theorem vs_yX2_skipBlanks : Cond.selects RX2 yX2_skipBlanks yX2_skipBlanks ∈ lw_good := lw_in (List.mem_of_getElem? (i := 3) (by decide +kernel)) rfl
set_option maxRecDepth 20000 in
theorem vs_yX2_next : Cond.selects RX2 yX2_next yX2_next ∈ lw_good := lw_in (List.mem_of_getElem? (i := 4) (by decide +kernel)) rfl
set_option maxRecDepth 20000 in
theorem vs_yX2_readClause : Cond.selects RX2 yX2_readClause yX2_readClause ∈ lw_good := lw_in (List.mem_of_getElem? (i := 5) (by decide +kernel)) rfl
set_option maxRecDepth 20000 in
theorem vs_yX2_mark : Cond.selects RX2 yX2_mark yX2_mark ∈ lw_good := lw_in (List.mem_of_getElem? (i := 6) (by decide +kernel)) rfl
set_option maxRecDepth 20000 in
theorem vs_yX2_toldAlready : Cond.selects RX2 yX2_toldAlready yX2_toldAlready ∈ lw_good := lw_in (List.mem_of_getElem? (i := 7) (by decide +kernel)) rfl
set_option maxRecDepth 20000 in
theorem vs_yX2_readReader : Cond.selects RX2 yX2_readReader yX2_readReader ∈ lw_good := lw_in (List.mem_of_getElem? (i := 8) (by decide +kernel)) rfl
set_option maxRecDepth 20000 in
theorem vs_yX2_readNumber : Cond.selects RX2 yX2_readNumber yX2_readNumber ∈ lw_good := lw_in (List.mem_of_getElem? (i := 9) (by decide +kernel)) rfl
set_option maxRecDepth 20000 in
theorem vs_yX2_atFigure : Cond.selects RX2 yX2_atFigure yX2_atFigure ∈ lw_good := lw_in (List.mem_of_getElem? (i := 10) (by decide +kernel)) rfl
set_option maxRecDepth 20000 in
theorem vs_yX2_takes : Cond.selects RX2 yX2_takes yX2_takes ∈ lw_good := lw_in (List.mem_of_getElem? (i := 11) (by decide +kernel)) rfl
set_option maxRecDepth 20000 in
theorem vs_yX2_readFactOf : Cond.selects RX2 yX2_readFactOf yX2_readFactOf ∈ lw_good := lw_in (List.mem_of_getElem? (i := 12) (by decide +kernel)) rfl
set_option maxRecDepth 20000 in
theorem vs_yX1_hasOpinion : Cond.selects RX1 yX1_hasOpinion yX1_hasOpinion ∈ lw_good := lw_in (List.mem_of_getElem? (i := 13) (by decide +kernel)) rfl
set_option maxRecDepth 20000 in
theorem vs_yX1_copyFrom : Cond.selects RX1 yX1_copyFrom yX1_copyFrom ∈ lw_good := lw_in (List.mem_of_getElem? (i := 14) (by decide +kernel)) rfl
set_option maxRecDepth 20000 in
theorem vs_yX3_begin : Cond.selects RX3 yX3_begin yX3_begin ∈ lw_good := lw_in (List.mem_of_getElem? (i := 15) (by decide +kernel)) rfl
set_option maxRecDepth 20000 in
theorem vs_yX1_hasFact : Cond.selects RX1 yX1_hasFact yX1_hasFact ∈ lw_good := lw_in (List.mem_of_getElem? (i := 16) (by decide +kernel)) rfl
set_option maxRecDepth 20000 in
theorem vs_yX4_clear : Cond.selects RX4 yX4_clear yX4_clear ∈ lw_good := lw_in (List.mem_of_getElem? (i := 17) (by decide +kernel)) rfl
set_option maxRecDepth 20000 in
theorem vs_yX0_clear : Cond.selects RX0 yX0_clear yX0_clear ∈ lw_good := lw_in (List.mem_of_getElem? (i := 18) (by decide +kernel)) rfl
set_option maxRecDepth 20000 in
theorem vs_yX3_convincedOf : Cond.selects RX3 yX3_convincedOf yX3_convincedOf ∈ lw_good := lw_in (List.mem_of_getElem? (i := 19) (by decide +kernel)) rfl
set_option maxRecDepth 20000 in
theorem vs_yX1_hasFacts : Cond.selects RX1 yX1_hasFacts yX1_hasFacts ∈ lw_good := lw_in (List.mem_of_getElem? (i := 20) (by decide +kernel)) rfl
set_option maxRecDepth 20000 in
theorem vs_yX7_mayBe : Cond.selects RX7 yX7_mayBe yX7_mayBe ∈ lw_good := lw_in (List.mem_of_getElem? (i := 21) (by decide +kernel)) rfl
set_option maxRecDepth 20000 in
theorem vs_yX1_fits : Cond.selects RX1 yX1_fits yX1_fits ∈ lw_good := lw_in (List.mem_of_getElem? (i := 22) (by decide +kernel)) rfl
set_option maxRecDepth 20000 in
theorem vs_yX4_push : Cond.selects RX4 yX4_push yX4_push ∈ lw_good := lw_in (List.mem_of_getElem? (i := 23) (by decide +kernel)) rfl
set_option maxRecDepth 20000 in
theorem vs_yX6_store : Cond.selects RX6 yX6_store yX6_store ∈ lw_good := lw_in (List.mem_of_getElem? (i := 24) (by decide +kernel)) rfl
set_option maxRecDepth 20000 in
theorem vs_yX3_spendNight : Cond.selects RX3 yX3_spendNight yX3_spendNight ∈ lw_good := lw_in (List.mem_of_getElem? (i := 25) (by decide +kernel)) rfl
set_option maxRecDepth 20000 in
theorem vs_yX3_readFact : Cond.selects RX3 yX3_readFact yX3_readFact ∈ lw_good := lw_in (List.mem_of_getElem? (i := 26) (by decide +kernel)) rfl
set_option maxRecDepth 20000 in
theorem vs_yX7_drawnSheet : Cond.selects RX7 yX7_drawnSheet yX7_drawnSheet ∈ lw_good := lw_in (List.mem_of_getElem? (i := 27) (by decide +kernel)) rfl
set_option maxRecDepth 20000 in
theorem vs_yX7_drawOf : Cond.selects RX7 yX7_drawOf yX7_drawOf ∈ lw_good := lw_in (List.mem_of_getElem? (i := 28) (by decide +kernel)) rfl
set_option maxRecDepth 20000 in
theorem vs_yX4_pop : Cond.selects RX4 yX4_pop yX4_pop ∈ lw_good := lw_in (List.mem_of_getElem? (i := 29) (by decide +kernel)) rfl
set_option maxRecDepth 20000 in
theorem vs_yX6_fetch : Cond.selects RX6 yX6_fetch yX6_fetch ∈ lw_good := lw_in (List.mem_of_getElem? (i := 30) (by decide +kernel)) rfl
set_option maxRecDepth 20000 in
theorem vs_yX3_copyFrom : Cond.selects RX3 yX3_copyFrom yX3_copyFrom ∈ lw_good := lw_in (List.mem_of_getElem? (i := 31) (by decide +kernel)) rfl
set_option maxRecDepth 20000 in
theorem vs_yX1_hasOpinions : Cond.selects RX1 yX1_hasOpinions yX1_hasOpinions ∈ lw_good := lw_in (List.mem_of_getElem? (i := 32) (by decide +kernel)) rfl
set_option maxRecDepth 20000 in
theorem vs_yX7_findSoonest : Cond.selects RX7 yX7_findSoonest yX7_findSoonest ∈ lw_good := lw_in (List.mem_of_getElem? (i := 33) (by decide +kernel)) rfl
set_option maxRecDepth 20000 in
theorem vs_yX3_isConvinced : Cond.selects RX3 yX3_isConvinced yX3_isConvinced ∈ lw_good := lw_in (List.mem_of_getElem? (i := 34) (by decide +kernel)) rfl
set_option maxRecDepth 20000 in
theorem vs_yX5_become : Cond.selects RX5 yX5_become yX5_become ∈ lw_good := lw_in (List.mem_of_getElem? (i := 35) (by decide +kernel)) rfl
set_option maxRecDepth 20000 in
theorem vs_yX7_findOneNight : Cond.selects RX7 yX7_findOneNight yX7_findOneNight ∈ lw_good := lw_in (List.mem_of_getElem? (i := 36) (by decide +kernel)) rfl
set_option maxRecDepth 20000 in
theorem vs_yX7_findTwoNights : Cond.selects RX7 yX7_findTwoNights yX7_findTwoNights ∈ lw_good := lw_in (List.mem_of_getElem? (i := 37) (by decide +kernel)) rfl
set_option maxRecDepth 20000 in
theorem vs_yX7_reachedBehind : Cond.selects RX7 yX7_reachedBehind yX7_reachedBehind ∈ lw_good := lw_in (List.mem_of_getElem? (i := 38) (by decide +kernel)) rfl
set_option maxRecDepth 20000 in
theorem vs_yX1_costOf : Cond.selects RX1 yX1_costOf yX1_costOf ∈ lw_good := lw_in (List.mem_of_getElem? (i := 39) (by decide +kernel)) rfl
set_option maxRecDepth 20000 in
theorem vs_yX7_convincesOf : Cond.selects RX7 yX7_convincesOf yX7_convincesOf ∈ lw_good := lw_in (List.mem_of_getElem? (i := 40) (by decide +kernel)) rfl
set_option maxRecDepth 20000 in
theorem vs_yX3_unread : Cond.selects RX3 yX3_unread yX3_unread ∈ lw_good := lw_in (List.mem_of_getElem? (i := 41) (by decide +kernel)) rfl
set_option maxRecDepth 20000 in
theorem vs_yX7_noteIn : Cond.selects RX7 yX7_noteIn yX7_noteIn ∈ lw_good := lw_in (List.mem_of_getElem? (i := 42) (by decide +kernel)) rfl
set_option maxRecDepth 20000 in
theorem vs_yX0_append : Cond.selects RX0 yX0_append yX0_append ∈ lw_good := lw_in (List.mem_of_getElem? (i := 43) (by decide +kernel)) rfl
set_option maxRecDepth 20000 in
theorem vs_yX7_thoughtBehind : Cond.selects RX7 yX7_thoughtBehind yX7_thoughtBehind ∈ lw_good := lw_in (List.mem_of_getElem? (i := 44) (by decide +kernel)) rfl
set_option maxRecDepth 20000 in
theorem vs_yX0_firstOtherwise : Cond.selects RX0 yX0_firstOtherwise yX0_firstOtherwise ∈ lw_good := lw_in (List.mem_of_getElem? (i := 45) (by decide +kernel)) rfl
set_option maxRecDepth 20000 in
theorem vs_yX8_begins : Cond.selects RX8 yX8_begins yX8_begins ∈ lw_good := lw_in (List.mem_of_getElem? (i := 46) (by decide +kernel)) rfl
set_option maxRecDepth 20000 in
theorem vs_yX8_step : Cond.selects RX8 yX8_step yX8_step ∈ lw_good := lw_in (List.mem_of_getElem? (i := 47) (by decide +kernel)) rfl
set_option maxRecDepth 20000 in
theorem vs_yX8_here : Cond.selects RX8 yX8_here yX8_here ∈ lw_good := lw_in (List.mem_of_getElem? (i := 48) (by decide +kernel)) rfl
set_option maxRecDepth 20000 in
theorem vs_yX8_readsClause : Cond.selects RX8 yX8_readsClause yX8_readsClause ∈ lw_good := lw_in (List.mem_of_getElem? (i := 49) (by decide +kernel)) rfl
set_option maxRecDepth 20000 in
theorem vs_yX8_readsReader : Cond.selects RX8 yX8_readsReader yX8_readsReader ∈ lw_good := lw_in (List.mem_of_getElem? (i := 50) (by decide +kernel)) rfl
set_option maxRecDepth 20000 in
theorem vs_yX8_fails : Cond.selects RX8 yX8_fails yX8_fails ∈ lw_good := lw_in (List.mem_of_getElem? (i := 51) (by decide +kernel)) rfl
set_option maxRecDepth 20000 in
theorem vs_yX8_number : Cond.selects RX8 yX8_number yX8_number ∈ lw_good := lw_in (List.mem_of_getElem? (i := 52) (by decide +kernel)) rfl
set_option maxRecDepth 20000 in
theorem vs_yX8_readsFact : Cond.selects RX8 yX8_readsFact yX8_readsFact ∈ lw_good := lw_in (List.mem_of_getElem? (i := 53) (by decide +kernel)) rfl
set_option maxRecDepth 20000 in
theorem vs_yX8_ends : Cond.selects RX8 yX8_ends yX8_ends ∈ lw_good := lw_in (List.mem_of_getElem? (i := 54) (by decide +kernel)) rfl
set_option maxRecDepth 20000 in
theorem vs_yX8_readsSure : Cond.selects RX8 yX8_readsSure yX8_readsSure ∈ lw_good := lw_in (List.mem_of_getElem? (i := 55) (by decide +kernel)) rfl
set_option maxRecDepth 20000 in
theorem vs_yX8_convinced : Cond.selects RX8 yX8_convinced yX8_convinced ∈ lw_good := lw_in (List.mem_of_getElem? (i := 56) (by decide +kernel)) rfl
set_option maxRecDepth 20000 in
theorem vs_yX8_isOpinion : Cond.selects RX8 yX8_isOpinion yX8_isOpinion ∈ lw_good := lw_in (List.mem_of_getElem? (i := 57) (by decide +kernel)) rfl
set_option maxRecDepth 20000 in
theorem vs_yX8_isFact : Cond.selects RX8 yX8_isFact yX8_isFact ∈ lw_good := lw_in (List.mem_of_getElem? (i := 58) (by decide +kernel)) rfl
set_option maxRecDepth 20000 in
theorem vs_yX8_areFacts : Cond.selects RX8 yX8_areFacts yX8_areFacts ∈ lw_good := lw_in (List.mem_of_getElem? (i := 59) (by decide +kernel)) rfl
set_option maxRecDepth 20000 in
theorem vs_yX8_maySheet : Cond.selects RX8 yX8_maySheet yX8_maySheet ∈ lw_good := lw_in (List.mem_of_getElem? (i := 60) (by decide +kernel)) rfl
set_option maxRecDepth 20000 in
theorem vs_yX8_remember : Cond.selects RX8 yX8_remember yX8_remember ∈ lw_good := lw_in (List.mem_of_getElem? (i := 61) (by decide +kernel)) rfl
set_option maxRecDepth 20000 in
theorem vs_yX8_prints : Cond.selects RX8 yX8_prints yX8_prints ∈ lw_good := lw_in (List.mem_of_getElem? (i := 62) (by decide +kernel)) rfl
set_option maxRecDepth 20000 in
theorem vs_yX8_readsSheet : Cond.selects RX8 yX8_readsSheet yX8_readsSheet ∈ lw_good := lw_in (List.mem_of_getElem? (i := 63) (by decide +kernel)) rfl
set_option maxRecDepth 20000 in
theorem vs_yX8_byOf : Cond.selects RX8 yX8_byOf yX8_byOf ∈ lw_good := lw_in (List.mem_of_getElem? (i := 64) (by decide +kernel)) rfl
set_option maxRecDepth 20000 in
theorem vs_yX8_reads : Cond.selects RX8 yX8_reads yX8_reads ∈ lw_good := lw_in (List.mem_of_getElem? (i := 65) (by decide +kernel)) rfl
set_option maxRecDepth 20000 in
theorem vs_yX8_draw : Cond.selects RX8 yX8_draw yX8_draw ∈ lw_good := lw_in (List.mem_of_getElem? (i := 66) (by decide +kernel)) rfl
set_option maxRecDepth 20000 in
theorem vs_yX8_triesTonight : Cond.selects RX8 yX8_triesTonight yX8_triesTonight ∈ lw_good := lw_in (List.mem_of_getElem? (i := 67) (by decide +kernel)) rfl
set_option maxRecDepth 20000 in
theorem vs_yX8_areOpinions : Cond.selects RX8 yX8_areOpinions yX8_areOpinions ∈ lw_good := lw_in (List.mem_of_getElem? (i := 68) (by decide +kernel)) rfl
set_option maxRecDepth 20000 in
theorem vs_yX8_layNights : Cond.selects RX8 yX8_layNights yX8_layNights ∈ lw_good := lw_in (List.mem_of_getElem? (i := 69) (by decide +kernel)) rfl
set_option maxRecDepth 20000 in
theorem vs_yX8_isWanted : Cond.selects RX8 yX8_isWanted yX8_isWanted ∈ lw_good := lw_in (List.mem_of_getElem? (i := 70) (by decide +kernel)) rfl
set_option maxRecDepth 20000 in
theorem vs_yX8_costOf : Cond.selects RX8 yX8_costOf yX8_costOf ∈ lw_good := lw_in (List.mem_of_getElem? (i := 71) (by decide +kernel)) rfl
set_option maxRecDepth 20000 in
theorem vs_yX8_convinces : Cond.selects RX8 yX8_convinces yX8_convinces ∈ lw_good := lw_in (List.mem_of_getElem? (i := 72) (by decide +kernel)) rfl
set_option maxRecDepth 20000 in
theorem vs_yX8_beginsStep : Cond.selects RX8 yX8_beginsStep yX8_beginsStep ∈ lw_good := lw_in (List.mem_of_getElem? (i := 73) (by decide +kernel)) rfl
set_option maxRecDepth 20000 in
theorem vs_yX8_weighs : Cond.selects RX8 yX8_weighs yX8_weighs ∈ lw_good := lw_in (List.mem_of_getElem? (i := 74) (by decide +kernel)) rfl
set_option maxRecDepth 20000 in
theorem vs_yX8_goes : Cond.selects RX8 yX8_goes yX8_goes ∈ lw_good := lw_in (List.mem_of_getElem? (i := 75) (by decide +kernel)) rfl
set_option maxRecDepth 20000 in
theorem vs_yX8_isThought : Cond.selects RX8 yX8_isThought yX8_isThought ∈ lw_good := lw_in (List.mem_of_getElem? (i := 76) (by decide +kernel)) rfl
set_option maxRecDepth 20000 in
theorem co_math_max : Cond.code Lib.Math.max.name Lib.Math.max.code 2 (some .int) ∈ lw_good := lw_in (List.mem_of_getElem? (i := 267) (by decide +kernel)) rfl
set_option maxRecDepth 20000 in
theorem co_math_min : Cond.code Lib.Math.min.name Lib.Math.min.code 2 (some .int) ∈ lw_good := lw_in (List.mem_of_getElem? (i := 264) (by decide +kernel)) rfl
set_option maxRecDepth 20000 in
theorem ck_yX7_init : gCK yX7_init cX7_init 1 none 0 := ⟨lw_in (List.mem_of_getElem? (i := 93) (by decide +kernel)) rfl, ini_X7, by decide +kernel, by decide +kernel⟩
set_option maxRecDepth 20000 in
theorem ck_yX2_init : gCK yX2_init cX2_init 1 none 0 := ⟨lw_in (List.mem_of_getElem? (i := 101) (by decide +kernel)) rfl, ini_X2, by decide +kernel, by decide +kernel⟩
set_option maxRecDepth 20000 in
theorem ck_yX1_init : gCK yX1_init cX1_init 1 none 0 := ⟨lw_in (List.mem_of_getElem? (i := 132) (by decide +kernel)) rfl, ini_X1, by decide +kernel, by decide +kernel⟩
set_option maxRecDepth 20000 in
theorem ck_yX3_init : gCK yX3_init cX3_init 1 none 0 := ⟨lw_in (List.mem_of_getElem? (i := 197) (by decide +kernel)) rfl, ini_X3, by decide +kernel, by decide +kernel⟩
set_option maxRecDepth 20000 in
theorem ck_yX5_init : gCK yX5_init cX5_init 1 none 0 := ⟨lw_in (List.mem_of_getElem? (i := 235) (by decide +kernel)) rfl, ini_X5, by decide +kernel, by decide +kernel⟩
set_option maxRecDepth 20000 in
theorem ck_yX4_init : gCK yX4_init cX4_init 1 none 0 := ⟨lw_in (List.mem_of_getElem? (i := 254) (by decide +kernel)) rfl, ini_X4, by decide +kernel, by decide +kernel⟩
set_option maxRecDepth 20000 in
theorem ck_yX6_init : gCK yX6_init cX6_init 2 none 1 := ⟨lw_in (List.mem_of_getElem? (i := 260) (by decide +kernel)) rfl, ini_X6, by decide +kernel, by decide +kernel⟩
set_option maxRecDepth 20000 in
theorem ck_yX0_init : gCK yX0_init cX0_init 2 none 1 := ⟨lw_in (List.mem_of_getElem? (i := 289) (by decide +kernel)) rfl, ini_X0, by decide +kernel, by decide +kernel⟩
set_option maxRecDepth 20000 in
theorem ck_yX7_feed : gCK yX7_feed cX7_feed 2 (some .int) 1 := ⟨lw_in (List.mem_of_getElem? (i := 349) (by decide +kernel)) rfl, ini_X7, by decide +kernel, by decide +kernel⟩
set_option maxRecDepth 20000 in
theorem ck_yX2_append : gCK yX2_append cX2_append 2 (some .boolean) 1 := ⟨lw_in (List.mem_of_getElem? (i := 354) (by decide +kernel)) rfl, ini_X2, by decide +kernel, by decide +kernel⟩
set_option maxRecDepth 20000 in
theorem ck_yX7_put : gCK yX7_put cX7_put 3 none 3 := ⟨lw_in (List.mem_of_getElem? (i := 357) (by decide +kernel)) rfl, ini_X7, by decide +kernel, by decide +kernel⟩
set_option maxRecDepth 20000 in
theorem ck_yX7_city : gCK yX7_city cX7_city 2 (some .int) 0 := ⟨lw_in (List.mem_of_getElem? (i := 362) (by decide +kernel)) rfl, ini_X7, by decide +kernel, by decide +kernel⟩
set_option maxRecDepth 20000 in
theorem ck_yX2_readInto : gCK yX2_readInto cX2_readInto 3 (some .int) 1 := ⟨lw_in (List.mem_of_getElem? (i := 366) (by decide +kernel)) rfl, ini_X2, by decide +kernel, by decide +kernel⟩
set_option maxRecDepth 20000 in
theorem ck_yX1_clear : gCK yX1_clear cX1_clear 1 none 0 := ⟨lw_in (List.mem_of_getElem? (i := 370) (by decide +kernel)) rfl, ini_X1, by decide +kernel, by decide +kernel⟩
set_option maxRecDepth 20000 in
theorem ck_yX2_skipBlanks : gCK yX2_skipBlanks cX2_skipBlanks 2 none 0 := ⟨lw_in (List.mem_of_getElem? (i := 374) (by decide +kernel)) rfl, ini_X2, by decide +kernel, by decide +kernel⟩
set_option maxRecDepth 20000 in
theorem ck_yX2_next : gCK yX2_next cX2_next 1 (some .int) 0 := ⟨lw_in (List.mem_of_getElem? (i := 378) (by decide +kernel)) rfl, ini_X2, by decide +kernel, by decide +kernel⟩
set_option maxRecDepth 20000 in
theorem ck_yX7_at : gCK yX7_at cX7_at 2 (some .int) 2 := ⟨lw_in (List.mem_of_getElem? (i := 381) (by decide +kernel)) rfl, ini_X7, by decide +kernel, by decide +kernel⟩
set_option maxRecDepth 20000 in
theorem ck_yX2_readClause : gCK yX2_readClause cX2_readClause 3 none 1 := ⟨lw_in (List.mem_of_getElem? (i := 385) (by decide +kernel)) rfl, ini_X2, by decide +kernel, by decide +kernel⟩
set_option maxRecDepth 20000 in
theorem ck_yX2_mark : gCK yX2_mark cX2_mark 3 none 2 := ⟨lw_in (List.mem_of_getElem? (i := 389) (by decide +kernel)) rfl, ini_X2, by decide +kernel, by decide +kernel⟩
set_option maxRecDepth 20000 in
theorem ck_yX2_toldAlready : gCK yX2_toldAlready cX2_toldAlready 3 (some .boolean) 2 := ⟨lw_in (List.mem_of_getElem? (i := 393) (by decide +kernel)) rfl, ini_X2, by decide +kernel, by decide +kernel⟩
set_option maxRecDepth 20000 in
theorem ck_yX2_readReader : gCK yX2_readReader cX2_readReader 3 none 1 := ⟨lw_in (List.mem_of_getElem? (i := 397) (by decide +kernel)) rfl, ini_X2, by decide +kernel, by decide +kernel⟩
set_option maxRecDepth 20000 in
theorem ck_yX2_readNumber : gCK yX2_readNumber cX2_readNumber 5 (some .int) 2 := ⟨lw_in (List.mem_of_getElem? (i := 401) (by decide +kernel)) rfl, ini_X2, by decide +kernel, by decide +kernel⟩
set_option maxRecDepth 20000 in
theorem ck_yX2_atFigure : gCK yX2_atFigure cX2_atFigure 1 (some .boolean) 0 := ⟨lw_in (List.mem_of_getElem? (i := 405) (by decide +kernel)) rfl, ini_X2, by decide +kernel, by decide +kernel⟩
set_option maxRecDepth 20000 in
theorem ck_yX2_takes : gCK yX2_takes cX2_takes 2 (some .boolean) 1 := ⟨lw_in (List.mem_of_getElem? (i := 410) (by decide +kernel)) rfl, ini_X2, by decide +kernel, by decide +kernel⟩
set_option maxRecDepth 20000 in
theorem ck_yX2_readFactOf : gCK yX2_readFactOf cX2_readFactOf 4 none 1 := ⟨lw_in (List.mem_of_getElem? (i := 414) (by decide +kernel)) rfl, ini_X2, by decide +kernel, by decide +kernel⟩
set_option maxRecDepth 20000 in
theorem ck_yX1_hasOpinion : gCK yX1_hasOpinion cX1_hasOpinion 2 (some .boolean) 1 := ⟨lw_in (List.mem_of_getElem? (i := 418) (by decide +kernel)) rfl, ini_X1, by decide +kernel, by decide +kernel⟩
set_option maxRecDepth 20000 in
theorem ck_yX1_copyFrom : gCK yX1_copyFrom cX1_copyFrom 3 none 1 := ⟨lw_in (List.mem_of_getElem? (i := 422) (by decide +kernel)) rfl, ini_X1, by decide +kernel, by decide +kernel⟩
set_option maxRecDepth 20000 in
theorem ck_yX3_begin : gCK yX3_begin cX3_begin 3 none 1 := ⟨lw_in (List.mem_of_getElem? (i := 428) (by decide +kernel)) rfl, ini_X3, by decide +kernel, by decide +kernel⟩
set_option maxRecDepth 20000 in
theorem ck_yX1_hasFact : gCK yX1_hasFact cX1_hasFact 2 (some .boolean) 1 := ⟨lw_in (List.mem_of_getElem? (i := 435) (by decide +kernel)) rfl, ini_X1, by decide +kernel, by decide +kernel⟩
set_option maxRecDepth 20000 in
theorem ck_yX4_clear : gCK yX4_clear cX4_clear 1 none 0 := ⟨lw_in (List.mem_of_getElem? (i := 439) (by decide +kernel)) rfl, ini_X4, by decide +kernel, by decide +kernel⟩
set_option maxRecDepth 20000 in
theorem ck_yX0_clear : gCK yX0_clear cX0_clear 1 none 0 := ⟨lw_in (List.mem_of_getElem? (i := 443) (by decide +kernel)) rfl, ini_X0, by decide +kernel, by decide +kernel⟩
set_option maxRecDepth 20000 in
theorem ck_yX7_fault : gCK yX7_fault cX7_fault 1 (some .int) 0 := ⟨lw_in (List.mem_of_getElem? (i := 447) (by decide +kernel)) rfl, ini_X7, by decide +kernel, by decide +kernel⟩
set_option maxRecDepth 20000 in
theorem ck_yX7_told : gCK yX7_told cX7_told 2 (some .int) 1 := ⟨lw_in (List.mem_of_getElem? (i := 451) (by decide +kernel)) rfl, ini_X7, by decide +kernel, by decide +kernel⟩
set_option maxRecDepth 20000 in
theorem ck_yX3_convincedOf : gCK yX3_convincedOf cX3_convincedOf 4 (some .int) 1 := ⟨lw_in (List.mem_of_getElem? (i := 455) (by decide +kernel)) rfl, ini_X3, by decide +kernel, by decide +kernel⟩
set_option maxRecDepth 20000 in
theorem ck_yX7_belief : gCK yX7_belief cX7_belief 2 (some .int) 1 := ⟨lw_in (List.mem_of_getElem? (i := 459) (by decide +kernel)) rfl, ini_X7, by decide +kernel, by decide +kernel⟩
set_option maxRecDepth 20000 in
theorem ck_yX7_fact : gCK yX7_fact cX7_fact 3 (some .int) 2 := ⟨lw_in (List.mem_of_getElem? (i := 466) (by decide +kernel)) rfl, ini_X7, by decide +kernel, by decide +kernel⟩
set_option maxRecDepth 20000 in
theorem ck_yX7_has : gCK yX7_has cX7_has 2 (some .boolean) 2 := ⟨lw_in (List.mem_of_getElem? (i := 470) (by decide +kernel)) rfl, ini_X7, by decide +kernel, by decide +kernel⟩
set_option maxRecDepth 20000 in
theorem ck_yX7_night : gCK yX7_night cX7_night 2 (some .int) 1 := ⟨lw_in (List.mem_of_getElem? (i := 474) (by decide +kernel)) rfl, ini_X7, by decide +kernel, by decide +kernel⟩
set_option maxRecDepth 20000 in
theorem ck_yX1_hasFacts : gCK yX1_hasFacts cX1_hasFacts 2 (some .boolean) 1 := ⟨lw_in (List.mem_of_getElem? (i := 478) (by decide +kernel)) rfl, ini_X1, by decide +kernel, by decide +kernel⟩
set_option maxRecDepth 20000 in
theorem ck_yX7_mayBe : gCK yX7_mayBe cX7_mayBe 2 (some .boolean) 1 := ⟨lw_in (List.mem_of_getElem? (i := 482) (by decide +kernel)) rfl, ini_X7, by decide +kernel, by decide +kernel⟩
set_option maxRecDepth 20000 in
theorem ck_yX1_fits : gCK yX1_fits cX1_fits 2 (some .boolean) 1 := ⟨lw_in (List.mem_of_getElem? (i := 486) (by decide +kernel)) rfl, ini_X1, by decide +kernel, by decide +kernel⟩
set_option maxRecDepth 20000 in
theorem ck_yJ6_bitCount_0f7a4 : gCK yJ6_bitCount_0f7a4 cJ6_bitCount_0f7a4 1 (some .int) 1 := ⟨lw_in (List.mem_of_getElem? (i := 489) (by decide +kernel)) rfl, ini_J6, by decide +kernel, by decide +kernel⟩
set_option maxRecDepth 20000 in
theorem ck_yX4_push : gCK yX4_push cX4_push 2 none 1 := ⟨lw_in (List.mem_of_getElem? (i := 498) (by decide +kernel)) rfl, ini_X4, by decide +kernel, by decide +kernel⟩
set_option maxRecDepth 20000 in
theorem ck_yX6_store : gCK yX6_store cX6_store 5 none 2 := ⟨lw_in (List.mem_of_getElem? (i := 502) (by decide +kernel)) rfl, ini_X6, by decide +kernel, by decide +kernel⟩
set_option maxRecDepth 20000 in
theorem ck_yX3_spendNight : gCK yX3_spendNight cX3_spendNight 4 none 2 := ⟨lw_in (List.mem_of_getElem? (i := 509) (by decide +kernel)) rfl, ini_X3, by decide +kernel, by decide +kernel⟩
set_option maxRecDepth 20000 in
theorem ck_yX3_readFact : gCK yX3_readFact cX3_readFact 8 (some .boolean) 2 := ⟨lw_in (List.mem_of_getElem? (i := 514) (by decide +kernel)) rfl, ini_X3, by decide +kernel, by decide +kernel⟩
set_option maxRecDepth 20000 in
theorem ck_yX7_wornMove : gCK yX7_wornMove cX7_wornMove 3 (some .int) 2 := ⟨lw_in (List.mem_of_getElem? (i := 517) (by decide +kernel)) rfl, ini_X7, by decide +kernel, by decide +kernel⟩
set_option maxRecDepth 20000 in
theorem ck_yX7_meet : gCK yX7_meet cX7_meet 4 (some .int) 2 := ⟨lw_in (List.mem_of_getElem? (i := 523) (by decide +kernel)) rfl, ini_X7, by decide +kernel, by decide +kernel⟩
set_option maxRecDepth 20000 in
theorem ck_yX7_isBelief : gCK yX7_isBelief cX7_isBelief 1 (some .boolean) 1 := ⟨lw_in (List.mem_of_getElem? (i := 526) (by decide +kernel)) rfl, ini_X7, by decide +kernel, by decide +kernel⟩
set_option maxRecDepth 20000 in
theorem ck_yX7_behindMeeting : gCK yX7_behindMeeting cX7_behindMeeting 2 (some .int) 2 := ⟨lw_in (List.mem_of_getElem? (i := 529) (by decide +kernel)) rfl, ini_X7, by decide +kernel, by decide +kernel⟩
set_option maxRecDepth 20000 in
theorem ck_yX7_make : gCK yX7_make cX7_make 2 (some .int) 1 := ⟨lw_in (List.mem_of_getElem? (i := 534) (by decide +kernel)) rfl, ini_X7, by decide +kernel, by decide +kernel⟩
set_option maxRecDepth 20000 in
theorem ck_yX7_drift : gCK yX7_drift cX7_drift 3 (some .int) 1 := ⟨lw_in (List.mem_of_getElem? (i := 538) (by decide +kernel)) rfl, ini_X7, by decide +kernel, by decide +kernel⟩
set_option maxRecDepth 20000 in
theorem ck_yX7_drawnSheet : gCK yX7_drawnSheet cX7_drawnSheet 4 (some .int) 0 := ⟨lw_in (List.mem_of_getElem? (i := 542) (by decide +kernel)) rfl, ini_X7, by decide +kernel, by decide +kernel⟩
set_option maxRecDepth 20000 in
theorem ck_yX7_drawOf : gCK yX7_drawOf cX7_drawOf 2 (some .int) 1 := ⟨lw_in (List.mem_of_getElem? (i := 546) (by decide +kernel)) rfl, ini_X7, by decide +kernel, by decide +kernel⟩
set_option maxRecDepth 20000 in
theorem ck_yX7_undo : gCK yX7_undo cX7_undo 1 (some .int) 0 := ⟨lw_in (List.mem_of_getElem? (i := 554) (by decide +kernel)) rfl, ini_X7, by decide +kernel, by decide +kernel⟩
set_option maxRecDepth 20000 in
theorem ck_yX4_pop : gCK yX4_pop cX4_pop 2 (some .boolean) 1 := ⟨lw_in (List.mem_of_getElem? (i := 558) (by decide +kernel)) rfl, ini_X4, by decide +kernel, by decide +kernel⟩
set_option maxRecDepth 20000 in
theorem ck_yX6_fetch : gCK yX6_fetch cX6_fetch 5 none 2 := ⟨lw_in (List.mem_of_getElem? (i := 562) (by decide +kernel)) rfl, ini_X6, by decide +kernel, by decide +kernel⟩
set_option maxRecDepth 20000 in
theorem ck_yX7_thinks : gCK yX7_thinks cX7_thinks 3 (some .int) 2 := ⟨lw_in (List.mem_of_getElem? (i := 566) (by decide +kernel)) rfl, ini_X7, by decide +kernel, by decide +kernel⟩
set_option maxRecDepth 20000 in
theorem ck_yX3_copyFrom : gCK yX3_copyFrom cX3_copyFrom 3 none 1 := ⟨lw_in (List.mem_of_getElem? (i := 570) (by decide +kernel)) rfl, ini_X3, by decide +kernel, by decide +kernel⟩
set_option maxRecDepth 20000 in
theorem ck_yX7_soonest : gCK yX7_soonest cX7_soonest 4 (some .int) 3 := ⟨lw_in (List.mem_of_getElem? (i := 574) (by decide +kernel)) rfl, ini_X7, by decide +kernel, by decide +kernel⟩
set_option maxRecDepth 20000 in
theorem ck_yX1_hasOpinions : gCK yX1_hasOpinions cX1_hasOpinions 2 (some .boolean) 1 := ⟨lw_in (List.mem_of_getElem? (i := 578) (by decide +kernel)) rfl, ini_X1, by decide +kernel, by decide +kernel⟩
set_option maxRecDepth 20000 in
theorem ck_yX7_findSoonest : gCK yX7_findSoonest cX7_findSoonest 3 (some .boolean) 2 := ⟨lw_in (List.mem_of_getElem? (i := 582) (by decide +kernel)) rfl, ini_X7, by decide +kernel, by decide +kernel⟩
set_option maxRecDepth 20000 in
theorem ck_yX3_isConvinced : gCK yX3_isConvinced cX3_isConvinced 5 (some .boolean) 3 := ⟨lw_in (List.mem_of_getElem? (i := 586) (by decide +kernel)) rfl, ini_X3, by decide +kernel, by decide +kernel⟩
set_option maxRecDepth 20000 in
theorem ck_yX5_become : gCK yX5_become cX5_become 4 none 3 := ⟨lw_in (List.mem_of_getElem? (i := 591) (by decide +kernel)) rfl, ini_X5, by decide +kernel, by decide +kernel⟩
set_option maxRecDepth 20000 in
theorem ck_yX7_findOneNight : gCK yX7_findOneNight cX7_findOneNight 7 (some .boolean) 5 := ⟨lw_in (List.mem_of_getElem? (i := 595) (by decide +kernel)) rfl, ini_X7, by decide +kernel, by decide +kernel⟩
set_option maxRecDepth 20000 in
theorem ck_yX7_findTwoNights : gCK yX7_findTwoNights cX7_findTwoNights 4 (some .boolean) 2 := ⟨lw_in (List.mem_of_getElem? (i := 599) (by decide +kernel)) rfl, ini_X7, by decide +kernel, by decide +kernel⟩
set_option maxRecDepth 20000 in
theorem ck_yX7_cannot : gCK yX7_cannot cX7_cannot 4 (some .int) 0 := ⟨lw_in (List.mem_of_getElem? (i := 603) (by decide +kernel)) rfl, ini_X7, by decide +kernel, by decide +kernel⟩
set_option maxRecDepth 20000 in
theorem ck_yX7_reachedBehind : gCK yX7_reachedBehind cX7_reachedBehind 4 (some .int) 1 := ⟨lw_in (List.mem_of_getElem? (i := 607) (by decide +kernel)) rfl, ini_X7, by decide +kernel, by decide +kernel⟩
set_option maxRecDepth 20000 in
theorem ck_yX7_least : gCK yX7_least cX7_least 9 (some .int) 2 := ⟨lw_in (List.mem_of_getElem? (i := 611) (by decide +kernel)) rfl, ini_X7, by decide +kernel, by decide +kernel⟩
set_option maxRecDepth 20000 in
theorem ck_yX1_costOf : gCK yX1_costOf cX1_costOf 4 (some .int) 1 := ⟨lw_in (List.mem_of_getElem? (i := 615) (by decide +kernel)) rfl, ini_X1, by decide +kernel, by decide +kernel⟩
set_option maxRecDepth 20000 in
theorem ck_yX7_convincesOf : gCK yX7_convincesOf cX7_convincesOf 3 (some .boolean) 2 := ⟨lw_in (List.mem_of_getElem? (i := 620) (by decide +kernel)) rfl, ini_X7, by decide +kernel, by decide +kernel⟩
set_option maxRecDepth 20000 in
theorem ck_yX7_rivals : gCK yX7_rivals cX7_rivals 3 (some .int) 2 := ⟨lw_in (List.mem_of_getElem? (i := 624) (by decide +kernel)) rfl, ini_X7, by decide +kernel, by decide +kernel⟩
set_option maxRecDepth 20000 in
theorem ck_yX7_rivalsEnd : gCK yX7_rivalsEnd cX7_rivalsEnd 12 (some .int) 6 := ⟨lw_in (List.mem_of_getElem? (i := 627) (by decide +kernel)) rfl, ini_X7, by decide +kernel, by decide +kernel⟩
set_option maxRecDepth 20000 in
theorem ck_yX3_unread : gCK yX3_unread cX3_unread 4 none 3 := ⟨lw_in (List.mem_of_getElem? (i := 632) (by decide +kernel)) rfl, ini_X3, by decide +kernel, by decide +kernel⟩
set_option maxRecDepth 20000 in
theorem ck_yX7_shun : gCK yX7_shun cX7_shun 7 (some .int) 2 := ⟨lw_in (List.mem_of_getElem? (i := 638) (by decide +kernel)) rfl, ini_X7, by decide +kernel, by decide +kernel⟩
set_option maxRecDepth 20000 in
theorem ck_yX7_holds : gCK yX7_holds cX7_holds 6 (some .int) 2 := ⟨lw_in (List.mem_of_getElem? (i := 642) (by decide +kernel)) rfl, ini_X7, by decide +kernel, by decide +kernel⟩
set_option maxRecDepth 20000 in
theorem ck_yX7_worn : gCK yX7_worn cX7_worn 3 (some .int) 0 := ⟨lw_in (List.mem_of_getElem? (i := 648) (by decide +kernel)) rfl, ini_X7, by decide +kernel, by decide +kernel⟩
set_option maxRecDepth 20000 in
theorem ck_yX7_thought : gCK yX7_thought cX7_thought 3 (some .int) 2 := ⟨lw_in (List.mem_of_getElem? (i := 653) (by decide +kernel)) rfl, ini_X7, by decide +kernel, by decide +kernel⟩
set_option maxRecDepth 20000 in
theorem ck_yX7_noteIn : gCK yX7_noteIn cX7_noteIn 4 (some .int) 3 := ⟨lw_in (List.mem_of_getElem? (i := 657) (by decide +kernel)) rfl, ini_X7, by decide +kernel, by decide +kernel⟩
set_option maxRecDepth 20000 in
theorem ck_yX0_append : gCK yX0_append cX0_append 3 (some .boolean) 2 := ⟨lw_in (List.mem_of_getElem? (i := 661) (by decide +kernel)) rfl, ini_X0, by decide +kernel, by decide +kernel⟩
set_option maxRecDepth 20000 in
theorem ck_yX7_leftOut : gCK yX7_leftOut cX7_leftOut 6 (some .int) 1 := ⟨lw_in (List.mem_of_getElem? (i := 666) (by decide +kernel)) rfl, ini_X7, by decide +kernel, by decide +kernel⟩
set_option maxRecDepth 20000 in
theorem ck_yX7_thoughtBehind : gCK yX7_thoughtBehind cX7_thoughtBehind 3 (some .boolean) 2 := ⟨lw_in (List.mem_of_getElem? (i := 670) (by decide +kernel)) rfl, ini_X7, by decide +kernel, by decide +kernel⟩
set_option maxRecDepth 20000 in
theorem ck_yX0_firstOtherwise : gCK yX0_firstOtherwise cX0_firstOtherwise 3 (some .int) 1 := ⟨lw_in (List.mem_of_getElem? (i := 674) (by decide +kernel)) rfl, ini_X0, by decide +kernel, by decide +kernel⟩
set_option maxRecDepth 20000 in
theorem ck_yX7_strengths : gCK yX7_strengths cX7_strengths 5 (some .int) 2 := ⟨lw_in (List.mem_of_getElem? (i := 679) (by decide +kernel)) rfl, ini_X7, by decide +kernel, by decide +kernel⟩
set_option maxRecDepth 20000 in
theorem ck_yX7_write : gCK yX7_write cX7_write 3 (some .int) 2 := ⟨lw_in (List.mem_of_getElem? (i := 683) (by decide +kernel)) rfl, ini_X7, by decide +kernel, by decide +kernel⟩
set_option maxRecDepth 20000 in
theorem ck_yX7_tear : gCK yX7_tear cX7_tear 2 (some .int) 0 := ⟨lw_in (List.mem_of_getElem? (i := 687) (by decide +kernel)) rfl, ini_X7, by decide +kernel, by decide +kernel⟩
set_option maxRecDepth 20000 in
theorem ck_yX7_judge : gCK yX7_judge cX7_judge 1 (some .int) 0 := ⟨lw_in (List.mem_of_getElem? (i := 691) (by decide +kernel)) rfl, ini_X7, by decide +kernel, by decide +kernel⟩
set_option maxRecDepth 20000 in
theorem ck_yX7_seed : gCK yX7_seed cX7_seed 3 (some .int) 1 := ⟨lw_in (List.mem_of_getElem? (i := 695) (by decide +kernel)) rfl, ini_X7, by decide +kernel, by decide +kernel⟩
set_option maxRecDepth 20000 in
theorem ck_yX7_keep : gCK yX7_keep cX7_keep 2 (some .int) 1 := ⟨lw_in (List.mem_of_getElem? (i := 699) (by decide +kernel)) rfl, ini_X7, by decide +kernel, by decide +kernel⟩
set_option maxRecDepth 20000 in
theorem ck_yX7_goBack : gCK yX7_goBack cX7_goBack 2 (some .int) 1 := ⟨lw_in (List.mem_of_getElem? (i := 704) (by decide +kernel)) rfl, ini_X7, by decide +kernel, by decide +kernel⟩
set_option maxRecDepth 20000 in
theorem ck_yX8_init : gCK yX8_init cX8_init 1 none 0 := ⟨lw_in (List.mem_of_getElem? (i := 710) (by decide +kernel)) rfl, ini_X8, by decide +kernel, by decide +kernel⟩
set_option maxRecDepth 20000 in
theorem ck_yX8_begins : gCK yX8_begins cX8_begins 2 none 0 := ⟨lw_in (List.mem_of_getElem? (i := 715) (by decide +kernel)) rfl, ini_X8, by decide +kernel, by decide +kernel⟩
set_option maxRecDepth 20000 in
theorem ck_yX8_feed : gCK yX8_feed cX8_feed 2 (some .int) 1 := ⟨lw_in (List.mem_of_getElem? (i := 808) (by decide +kernel)) rfl, ini_X8, by decide +kernel, by decide +kernel⟩
set_option maxRecDepth 20000 in
theorem ck_yX8_in : gCK yX8_in cX8_in 6 (some .boolean) 3 := ⟨lw_in (List.mem_of_getElem? (i := 812) (by decide +kernel)) rfl, ini_X8, by decide +kernel, by decide +kernel⟩
set_option maxRecDepth 20000 in
theorem ck_yX8_city : gCK yX8_city cX8_city 3 (some .int) 0 := ⟨lw_in (List.mem_of_getElem? (i := 818) (by decide +kernel)) rfl, ini_X8, by decide +kernel, by decide +kernel⟩
set_option maxRecDepth 20000 in
theorem ck_yX8_step : gCK yX8_step cX8_step 1 none 0 := ⟨lw_in (List.mem_of_getElem? (i := 822) (by decide +kernel)) rfl, ini_X8, by decide +kernel, by decide +kernel⟩
set_option maxRecDepth 20000 in
theorem ck_yX8_here : gCK yX8_here cX8_here 1 (some .int) 0 := ⟨lw_in (List.mem_of_getElem? (i := 826) (by decide +kernel)) rfl, ini_X8, by decide +kernel, by decide +kernel⟩
set_option maxRecDepth 20000 in
theorem ck_yX8_readsClause : gCK yX8_readsClause cX8_readsClause 2 (some .boolean) 0 := ⟨lw_in (List.mem_of_getElem? (i := 832) (by decide +kernel)) rfl, ini_X8, by decide +kernel, by decide +kernel⟩
set_option maxRecDepth 20000 in
theorem ck_yX8_readsReader : gCK yX8_readsReader cX8_readsReader 2 (some .boolean) 0 := ⟨lw_in (List.mem_of_getElem? (i := 836) (by decide +kernel)) rfl, ini_X8, by decide +kernel, by decide +kernel⟩
set_option maxRecDepth 20000 in
theorem ck_yX8_fails : gCK yX8_fails cX8_fails 2 (some .boolean) 1 := ⟨lw_in (List.mem_of_getElem? (i := 840) (by decide +kernel)) rfl, ini_X8, by decide +kernel, by decide +kernel⟩
set_option maxRecDepth 20000 in
theorem ck_yX8_number : gCK yX8_number cX8_number 4 (some .boolean) 3 := ⟨lw_in (List.mem_of_getElem? (i := 844) (by decide +kernel)) rfl, ini_X8, by decide +kernel, by decide +kernel⟩
set_option maxRecDepth 20000 in
theorem ck_yX8_readsFact : gCK yX8_readsFact cX8_readsFact 2 (some .boolean) 0 := ⟨lw_in (List.mem_of_getElem? (i := 848) (by decide +kernel)) rfl, ini_X8, by decide +kernel, by decide +kernel⟩
set_option maxRecDepth 20000 in
theorem ck_yX8_ends : gCK yX8_ends cX8_ends 1 (some .boolean) 0 := ⟨lw_in (List.mem_of_getElem? (i := 852) (by decide +kernel)) rfl, ini_X8, by decide +kernel, by decide +kernel⟩
set_option maxRecDepth 20000 in
theorem ck_yX8_readsSure : gCK yX8_readsSure cX8_readsSure 1 (some .boolean) 0 := ⟨lw_in (List.mem_of_getElem? (i := 856) (by decide +kernel)) rfl, ini_X8, by decide +kernel, by decide +kernel⟩
set_option maxRecDepth 20000 in
theorem ck_yX8_fault : gCK yX8_fault cX8_fault 1 (some .int) 0 := ⟨lw_in (List.mem_of_getElem? (i := 860) (by decide +kernel)) rfl, ini_X8, by decide +kernel, by decide +kernel⟩
set_option maxRecDepth 20000 in
theorem ck_yX8_told : gCK yX8_told cX8_told 2 (some .int) 1 := ⟨lw_in (List.mem_of_getElem? (i := 864) (by decide +kernel)) rfl, ini_X8, by decide +kernel, by decide +kernel⟩
set_option maxRecDepth 20000 in
theorem ck_yX8_convinced : gCK yX8_convinced cX8_convinced 4 (some .int) 1 := ⟨lw_in (List.mem_of_getElem? (i := 868) (by decide +kernel)) rfl, ini_X8, by decide +kernel, by decide +kernel⟩
set_option maxRecDepth 20000 in
theorem ck_yX8_belief : gCK yX8_belief cX8_belief 2 (some .int) 1 := ⟨lw_in (List.mem_of_getElem? (i := 872) (by decide +kernel)) rfl, ini_X8, by decide +kernel, by decide +kernel⟩
set_option maxRecDepth 20000 in
theorem ck_yX8_isOpinion : gCK yX8_isOpinion cX8_isOpinion 2 (some .boolean) 1 := ⟨lw_in (List.mem_of_getElem? (i := 876) (by decide +kernel)) rfl, ini_X8, by decide +kernel, by decide +kernel⟩
set_option maxRecDepth 20000 in
theorem ck_yX8_fact : gCK yX8_fact cX8_fact 3 (some .int) 2 := ⟨lw_in (List.mem_of_getElem? (i := 881) (by decide +kernel)) rfl, ini_X8, by decide +kernel, by decide +kernel⟩
set_option maxRecDepth 20000 in
theorem ck_yX8_isFact : gCK yX8_isFact cX8_isFact 2 (some .boolean) 1 := ⟨lw_in (List.mem_of_getElem? (i := 885) (by decide +kernel)) rfl, ini_X8, by decide +kernel, by decide +kernel⟩
set_option maxRecDepth 20000 in
theorem ck_yX8_has : gCK yX8_has cX8_has 2 (some .boolean) 2 := ⟨lw_in (List.mem_of_getElem? (i := 888) (by decide +kernel)) rfl, ini_X8, by decide +kernel, by decide +kernel⟩
set_option maxRecDepth 20000 in
theorem ck_yX8_night : gCK yX8_night cX8_night 2 (some .int) 1 := ⟨lw_in (List.mem_of_getElem? (i := 892) (by decide +kernel)) rfl, ini_X8, by decide +kernel, by decide +kernel⟩
set_option maxRecDepth 20000 in
theorem ck_yX8_areFacts : gCK yX8_areFacts cX8_areFacts 2 (some .boolean) 1 := ⟨lw_in (List.mem_of_getElem? (i := 896) (by decide +kernel)) rfl, ini_X8, by decide +kernel, by decide +kernel⟩
set_option maxRecDepth 20000 in
theorem ck_yX8_maySheet : gCK yX8_maySheet cX8_maySheet 3 (some .boolean) 2 := ⟨lw_in (List.mem_of_getElem? (i := 900) (by decide +kernel)) rfl, ini_X8, by decide +kernel, by decide +kernel⟩
set_option maxRecDepth 20000 in
theorem ck_yX8_bits : gCK yX8_bits cX8_bits 3 (some .int) 1 := ⟨lw_in (List.mem_of_getElem? (i := 903) (by decide +kernel)) rfl, ini_X8, by decide +kernel, by decide +kernel⟩
set_option maxRecDepth 20000 in
theorem ck_yX8_remember : gCK yX8_remember cX8_remember 2 none 0 := ⟨lw_in (List.mem_of_getElem? (i := 909) (by decide +kernel)) rfl, ini_X8, by decide +kernel, by decide +kernel⟩
set_option maxRecDepth 20000 in
theorem ck_yX8_copies : gCK yX8_copies cX8_copies 6 none 5 := ⟨lw_in (List.mem_of_getElem? (i := 912) (by decide +kernel)) rfl, ini_X8, by decide +kernel, by decide +kernel⟩
set_option maxRecDepth 20000 in
theorem ck_yX8_prints : gCK yX8_prints cX8_prints 2 none 1 := ⟨lw_in (List.mem_of_getElem? (i := 916) (by decide +kernel)) rfl, ini_X8, by decide +kernel, by decide +kernel⟩
set_option maxRecDepth 20000 in
theorem ck_yX8_readsSheet : gCK yX8_readsSheet cX8_readsSheet 6 (some .int) 2 := ⟨lw_in (List.mem_of_getElem? (i := 920) (by decide +kernel)) rfl, ini_X8, by decide +kernel, by decide +kernel⟩
set_option maxRecDepth 20000 in
theorem ck_yX8_byOf : gCK yX8_byOf cX8_byOf 2 (some .int) 1 := ⟨lw_in (List.mem_of_getElem? (i := 924) (by decide +kernel)) rfl, ini_X8, by decide +kernel, by decide +kernel⟩
set_option maxRecDepth 20000 in
theorem ck_yX8_reads : gCK yX8_reads cX8_reads 7 (some .boolean) 3 := ⟨lw_in (List.mem_of_getElem? (i := 928) (by decide +kernel)) rfl, ini_X8, by decide +kernel, by decide +kernel⟩
set_option maxRecDepth 20000 in
theorem ck_yX8_bound : gCK yX8_bound cX8_bound 1 (some .int) 1 := ⟨lw_in (List.mem_of_getElem? (i := 931) (by decide +kernel)) rfl, ini_X8, by decide +kernel, by decide +kernel⟩
set_option maxRecDepth 20000 in
theorem ck_yX8_meet : gCK yX8_meet cX8_meet 3 (some .int) 2 := ⟨lw_in (List.mem_of_getElem? (i := 935) (by decide +kernel)) rfl, ini_X8, by decide +kernel, by decide +kernel⟩
set_option maxRecDepth 20000 in
theorem ck_yX8_make : gCK yX8_make cX8_make 2 (some .int) 1 := ⟨lw_in (List.mem_of_getElem? (i := 940) (by decide +kernel)) rfl, ini_X8, by decide +kernel, by decide +kernel⟩
set_option maxRecDepth 20000 in
theorem ck_yX8_drift : gCK yX8_drift cX8_drift 5 (some .int) 1 := ⟨lw_in (List.mem_of_getElem? (i := 944) (by decide +kernel)) rfl, ini_X8, by decide +kernel, by decide +kernel⟩
set_option maxRecDepth 20000 in
theorem ck_yX8_draw : gCK yX8_draw cX8_draw 2 (some .int) 1 := ⟨lw_in (List.mem_of_getElem? (i := 949) (by decide +kernel)) rfl, ini_X8, by decide +kernel, by decide +kernel⟩
set_option maxRecDepth 20000 in
theorem ck_yX8_undo : gCK yX8_undo cX8_undo 1 (some .int) 0 := ⟨lw_in (List.mem_of_getElem? (i := 957) (by decide +kernel)) rfl, ini_X8, by decide +kernel, by decide +kernel⟩
set_option maxRecDepth 20000 in
theorem ck_yX8_thinks : gCK yX8_thinks cX8_thinks 4 (some .int) 2 := ⟨lw_in (List.mem_of_getElem? (i := 961) (by decide +kernel)) rfl, ini_X8, by decide +kernel, by decide +kernel⟩
set_option maxRecDepth 20000 in
theorem ck_yX8_triesTonight : gCK yX8_triesTonight cX8_triesTonight 2 (some .int) 1 := ⟨lw_in (List.mem_of_getElem? (i := 965) (by decide +kernel)) rfl, ini_X8, by decide +kernel, by decide +kernel⟩
set_option maxRecDepth 20000 in
theorem ck_yX8_soonest : gCK yX8_soonest cX8_soonest 5 (some .int) 3 := ⟨lw_in (List.mem_of_getElem? (i := 969) (by decide +kernel)) rfl, ini_X8, by decide +kernel, by decide +kernel⟩
set_option maxRecDepth 20000 in
theorem ck_yX8_areOpinions : gCK yX8_areOpinions cX8_areOpinions 2 (some .boolean) 1 := ⟨lw_in (List.mem_of_getElem? (i := 973) (by decide +kernel)) rfl, ini_X8, by decide +kernel, by decide +kernel⟩
set_option maxRecDepth 20000 in
theorem ck_yX8_layNights : gCK yX8_layNights cX8_layNights 8 (some .int) 2 := ⟨lw_in (List.mem_of_getElem? (i := 977) (by decide +kernel)) rfl, ini_X8, by decide +kernel, by decide +kernel⟩
set_option maxRecDepth 20000 in
theorem ck_yX8_isWanted : gCK yX8_isWanted cX8_isWanted 5 (some .boolean) 3 := ⟨lw_in (List.mem_of_getElem? (i := 981) (by decide +kernel)) rfl, ini_X8, by decide +kernel, by decide +kernel⟩
set_option maxRecDepth 20000 in
theorem ck_yX8_cannot : gCK yX8_cannot cX8_cannot 7 (some .int) 0 := ⟨lw_in (List.mem_of_getElem? (i := 986) (by decide +kernel)) rfl, ini_X8, by decide +kernel, by decide +kernel⟩
set_option maxRecDepth 20000 in
theorem ck_yX8_least : gCK yX8_least cX8_least 6 (some .int) 2 := ⟨lw_in (List.mem_of_getElem? (i := 990) (by decide +kernel)) rfl, ini_X8, by decide +kernel, by decide +kernel⟩
set_option maxRecDepth 20000 in
theorem ck_yX8_costOf : gCK yX8_costOf cX8_costOf 4 (some .int) 1 := ⟨lw_in (List.mem_of_getElem? (i := 994) (by decide +kernel)) rfl, ini_X8, by decide +kernel, by decide +kernel⟩
set_option maxRecDepth 20000 in
theorem ck_yX8_convinces : gCK yX8_convinces cX8_convinces 5 (some .boolean) 2 := ⟨lw_in (List.mem_of_getElem? (i := 998) (by decide +kernel)) rfl, ini_X8, by decide +kernel, by decide +kernel⟩
set_option maxRecDepth 20000 in
theorem ck_yX8_rivals : gCK yX8_rivals cX8_rivals 4 (some .int) 2 := ⟨lw_in (List.mem_of_getElem? (i := 1002) (by decide +kernel)) rfl, ini_X8, by decide +kernel, by decide +kernel⟩
set_option maxRecDepth 20000 in
theorem ck_yX8_beginsStep : gCK yX8_beginsStep cX8_beginsStep 2 none 1 := ⟨lw_in (List.mem_of_getElem? (i := 1007) (by decide +kernel)) rfl, ini_X8, by decide +kernel, by decide +kernel⟩
set_option maxRecDepth 20000 in
theorem ck_yX8_weighs : gCK yX8_weighs cX8_weighs 4 none 2 := ⟨lw_in (List.mem_of_getElem? (i := 1011) (by decide +kernel)) rfl, ini_X8, by decide +kernel, by decide +kernel⟩
set_option maxRecDepth 20000 in
theorem ck_yX8_goes : gCK yX8_goes cX8_goes 5 (some .boolean) 1 := ⟨lw_in (List.mem_of_getElem? (i := 1015) (by decide +kernel)) rfl, ini_X8, by decide +kernel, by decide +kernel⟩
set_option maxRecDepth 20000 in
theorem ck_yX8_shun : gCK yX8_shun cX8_shun 6 (some .int) 2 := ⟨lw_in (List.mem_of_getElem? (i := 1019) (by decide +kernel)) rfl, ini_X8, by decide +kernel, by decide +kernel⟩
set_option maxRecDepth 20000 in
theorem ck_yX8_holds : gCK yX8_holds cX8_holds 6 (some .int) 2 := ⟨lw_in (List.mem_of_getElem? (i := 1023) (by decide +kernel)) rfl, ini_X8, by decide +kernel, by decide +kernel⟩
set_option maxRecDepth 20000 in
theorem ck_yX8_worn : gCK yX8_worn cX8_worn 3 (some .int) 0 := ⟨lw_in (List.mem_of_getElem? (i := 1029) (by decide +kernel)) rfl, ini_X8, by decide +kernel, by decide +kernel⟩
set_option maxRecDepth 20000 in
theorem ck_yX8_thought : gCK yX8_thought cX8_thought 3 (some .int) 2 := ⟨lw_in (List.mem_of_getElem? (i := 1033) (by decide +kernel)) rfl, ini_X8, by decide +kernel, by decide +kernel⟩
set_option maxRecDepth 20000 in
theorem ck_yX8_leftOut : gCK yX8_leftOut cX8_leftOut 8 (some .int) 1 := ⟨lw_in (List.mem_of_getElem? (i := 1037) (by decide +kernel)) rfl, ini_X8, by decide +kernel, by decide +kernel⟩
set_option maxRecDepth 20000 in
theorem ck_yX8_isThought : gCK yX8_isThought cX8_isThought 3 (some .boolean) 0 := ⟨lw_in (List.mem_of_getElem? (i := 1041) (by decide +kernel)) rfl, ini_X8, by decide +kernel, by decide +kernel⟩
set_option maxRecDepth 20000 in
theorem ck_yX8_strengths : gCK yX8_strengths cX8_strengths 7 (some .int) 2 := ⟨lw_in (List.mem_of_getElem? (i := 1045) (by decide +kernel)) rfl, ini_X8, by decide +kernel, by decide +kernel⟩
set_option maxRecDepth 20000 in
theorem ck_yX8_write : gCK yX8_write cX8_write 3 (some .int) 2 := ⟨lw_in (List.mem_of_getElem? (i := 1049) (by decide +kernel)) rfl, ini_X8, by decide +kernel, by decide +kernel⟩
set_option maxRecDepth 20000 in
theorem ck_yX8_tear : gCK yX8_tear cX8_tear 2 (some .int) 0 := ⟨lw_in (List.mem_of_getElem? (i := 1053) (by decide +kernel)) rfl, ini_X8, by decide +kernel, by decide +kernel⟩
set_option maxRecDepth 20000 in
theorem ck_yX8_judge : gCK yX8_judge cX8_judge 2 (some .int) 0 := ⟨lw_in (List.mem_of_getElem? (i := 1057) (by decide +kernel)) rfl, ini_X8, by decide +kernel, by decide +kernel⟩
set_option maxRecDepth 20000 in
theorem ck_yX8_seed : gCK yX8_seed cX8_seed 3 (some .int) 1 := ⟨lw_in (List.mem_of_getElem? (i := 1061) (by decide +kernel)) rfl, ini_X8, by decide +kernel, by decide +kernel⟩
set_option maxRecDepth 20000 in
theorem ck_yX8_keep : gCK yX8_keep cX8_keep 2 (some .int) 1 := ⟨lw_in (List.mem_of_getElem? (i := 1065) (by decide +kernel)) rfl, ini_X8, by decide +kernel, by decide +kernel⟩
set_option maxRecDepth 20000 in
theorem ck_yX8_goBack : gCK yX8_goBack cX8_goBack 2 (some .int) 1 := ⟨lw_in (List.mem_of_getElem? (i := 1069) (by decide +kernel)) rfl, ini_X8, by decide +kernel, by decide +kernel⟩
set_option maxRecDepth 20000 in
theorem inT_X0 : ∀ w ∈ u_ws RX0 TX0 3, w ∈ lw_tbl := by
  intro w hw
  have h : (u_ws RX0 TX0 3).map some = ([296, 298, 300] : List Nat).map (fun i => lw_tbl[i]?) := by decide +kernel
  obtain ⟨k, hk⟩ := List.mem_iff_getElem?.mp hw
  have h2 : ((u_ws RX0 TX0 3).map some)[k]? = some (some w) := by rw [List.getElem?_map, hk]; rfl
  rw [h, List.getElem?_map] at h2
  obtain ⟨i, _, hi⟩ := Option.map_eq_some_iff.mp h2
  exact List.mem_of_getElem? hi
theorem inX0 : ∀ w ∈ u_ws RX0 TX0 3, w ∈ lw_good := fun w hw => lw_in (inT_X0 w hw) (List.all_eq_true.mp (show (u_ws RX0 TX0 3).all goodWord = true by decide +kernel) w hw)
set_option maxRecDepth 20000 in
theorem inT_X1 : ∀ w ∈ u_ws RX1 TX1 10, w ∈ lw_tbl := by
  intro w hw
  have h : (u_ws RX1 TX1 10).map some = ([172, 174, 176, 178, 180, 182, 184, 186, 188, 190] : List Nat).map (fun i => lw_tbl[i]?) := by decide +kernel
  obtain ⟨k, hk⟩ := List.mem_iff_getElem?.mp hw
  have h2 : ((u_ws RX1 TX1 10).map some)[k]? = some (some w) := by rw [List.getElem?_map, hk]; rfl
  rw [h, List.getElem?_map] at h2
  obtain ⟨i, _, hi⟩ := Option.map_eq_some_iff.mp h2
  exact List.mem_of_getElem? hi
theorem inX1 : ∀ w ∈ u_ws RX1 TX1 10, w ∈ lw_good := fun w hw => lw_in (inT_X1 w hw) (List.all_eq_true.mp (show (u_ws RX1 TX1 10).all goodWord = true by decide +kernel) w hw)
set_option maxRecDepth 20000 in
theorem inT_X2 : ∀ w ∈ u_ws RX2 TX2 7, w ∈ lw_tbl := by
  intro w hw
  have h : (u_ws RX2 TX2 7).map some = ([112, 114, 116, 118, 120, 122, 124] : List Nat).map (fun i => lw_tbl[i]?) := by decide +kernel
  obtain ⟨k, hk⟩ := List.mem_iff_getElem?.mp hw
  have h2 : ((u_ws RX2 TX2 7).map some)[k]? = some (some w) := by rw [List.getElem?_map, hk]; rfl
  rw [h, List.getElem?_map] at h2
  obtain ⟨i, _, hi⟩ := Option.map_eq_some_iff.mp h2
  exact List.mem_of_getElem? hi
theorem inX2 : ∀ w ∈ u_ws RX2 TX2 7, w ∈ lw_good := fun w hw => lw_in (inT_X2 w hw) (List.all_eq_true.mp (show (u_ws RX2 TX2 7).all goodWord = true by decide +kernel) w hw)
set_option maxRecDepth 20000 in
theorem inT_X3 : ∀ w ∈ u_ws RX3 TX3 6, w ∈ lw_tbl := by
  intro w hw
  have h : (u_ws RX3 TX3 6).map some = ([218, 220, 222, 224, 226, 228] : List Nat).map (fun i => lw_tbl[i]?) := by decide +kernel
  obtain ⟨k, hk⟩ := List.mem_iff_getElem?.mp hw
  have h2 : ((u_ws RX3 TX3 6).map some)[k]? = some (some w) := by rw [List.getElem?_map, hk]; rfl
  rw [h, List.getElem?_map] at h2
  obtain ⟨i, _, hi⟩ := Option.map_eq_some_iff.mp h2
  exact List.mem_of_getElem? hi
theorem inX3 : ∀ w ∈ u_ws RX3 TX3 6, w ∈ lw_good := fun w hw => lw_in (inT_X3 w hw) (List.all_eq_true.mp (show (u_ws RX3 TX3 6).all goodWord = true by decide +kernel) w hw)
set_option maxRecDepth 20000 in
theorem inT_X4 : ∀ w ∈ u_ws RX4 TX4 3, w ∈ lw_tbl := by
  intro w hw
  have h : (u_ws RX4 TX4 3).map some = ([276, 278, 280] : List Nat).map (fun i => lw_tbl[i]?) := by decide +kernel
  obtain ⟨k, hk⟩ := List.mem_iff_getElem?.mp hw
  have h2 : ((u_ws RX4 TX4 3).map some)[k]? = some (some w) := by rw [List.getElem?_map, hk]; rfl
  rw [h, List.getElem?_map] at h2
  obtain ⟨i, _, hi⟩ := Option.map_eq_some_iff.mp h2
  exact List.mem_of_getElem? hi
theorem inX4 : ∀ w ∈ u_ws RX4 TX4 3, w ∈ lw_good := fun w hw => lw_in (inT_X4 w hw) (List.all_eq_true.mp (show (u_ws RX4 TX4 3).all goodWord = true by decide +kernel) w hw)
set_option maxRecDepth 20000 in
theorem inT_X5 : ∀ w ∈ u_ws RX5 TX5 3, w ∈ lw_tbl := by
  intro w hw
  have h : (u_ws RX5 TX5 3).map some = ([243, 245, 247] : List Nat).map (fun i => lw_tbl[i]?) := by decide +kernel
  obtain ⟨k, hk⟩ := List.mem_iff_getElem?.mp hw
  have h2 : ((u_ws RX5 TX5 3).map some)[k]? = some (some w) := by rw [List.getElem?_map, hk]; rfl
  rw [h, List.getElem?_map] at h2
  obtain ⟨i, _, hi⟩ := Option.map_eq_some_iff.mp h2
  exact List.mem_of_getElem? hi
theorem inX5 : ∀ w ∈ u_ws RX5 TX5 3, w ∈ lw_good := fun w hw => lw_in (inT_X5 w hw) (List.all_eq_true.mp (show (u_ws RX5 TX5 3).all goodWord = true by decide +kernel) w hw)
set_option maxRecDepth 20000 in
theorem inT_X6 : ∀ w ∈ u_ws RX6 TX6 1, w ∈ lw_tbl := by
  intro w hw
  have h : (u_ws RX6 TX6 1).map some = ([269] : List Nat).map (fun i => lw_tbl[i]?) := by decide +kernel
  obtain ⟨k, hk⟩ := List.mem_iff_getElem?.mp hw
  have h2 : ((u_ws RX6 TX6 1).map some)[k]? = some (some w) := by rw [List.getElem?_map, hk]; rfl
  rw [h, List.getElem?_map] at h2
  obtain ⟨i, _, hi⟩ := Option.map_eq_some_iff.mp h2
  exact List.mem_of_getElem? hi
theorem inX6 : ∀ w ∈ u_ws RX6 TX6 1, w ∈ lw_good := fun w hw => lw_in (inT_X6 w hw) (List.all_eq_true.mp (show (u_ws RX6 TX6 1).all goodWord = true by decide +kernel) w hw)
set_option maxRecDepth 20000 in
theorem inT_X7 : ∀ w ∈ u_ws RX7 TX7 14, w ∈ lw_tbl := by
  intro w hw
  have h : (u_ws RX7 TX7 14).map some = ([317, 319, 321, 323, 325, 327, 329, 331, 333, 335, 337, 339, 341, 343] : List Nat).map (fun i => lw_tbl[i]?) := by decide +kernel
  obtain ⟨k, hk⟩ := List.mem_iff_getElem?.mp hw
  have h2 : ((u_ws RX7 TX7 14).map some)[k]? = some (some w) := by rw [List.getElem?_map, hk]; rfl
  rw [h, List.getElem?_map] at h2
  obtain ⟨i, _, hi⟩ := Option.map_eq_some_iff.mp h2
  exact List.mem_of_getElem? hi
theorem inX7 : ∀ w ∈ u_ws RX7 TX7 14, w ∈ lw_good := fun w hw => lw_in (inT_X7 w hw) (List.all_eq_true.mp (show (u_ws RX7 TX7 14).all goodWord = true by decide +kernel) w hw)
set_option maxRecDepth 20000 in
theorem inT_X8 : ∀ w ∈ u_ws RX8 TX8 29, w ∈ lw_tbl := by
  intro w hw
  have h : (u_ws RX8 TX8 29).map some = ([745, 747, 749, 751, 753, 755, 757, 759, 761, 763, 765, 767, 769, 771, 773, 775, 777, 779, 781, 783, 785, 787, 789, 791, 793, 795, 797, 799, 801] : List Nat).map (fun i => lw_tbl[i]?) := by decide +kernel
  obtain ⟨k, hk⟩ := List.mem_iff_getElem?.mp hw
  have h2 : ((u_ws RX8 TX8 29).map some)[k]? = some (some w) := by rw [List.getElem?_map, hk]; rfl
  rw [h, List.getElem?_map] at h2
  obtain ⟨i, _, hi⟩ := Option.map_eq_some_iff.mp h2
  exact List.mem_of_getElem? hi
theorem inX8 : ∀ w ∈ u_ws RX8 TX8 29, w ∈ lw_good := fun w hw => lw_in (inT_X8 w hw) (List.all_eq_true.mp (show (u_ws RX8 TX8 29).all goodWord = true by decide +kernel) w hw)
