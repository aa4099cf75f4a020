/-! words, by their places -/
theorem wd_5_77 : Cond.code ⟨"WaxedPartners$Acts", "add", "(IIII)V"⟩ prog_2_method_2_code 5 none ∈ gT := gT_in (tb_5 _ (List.mem_of_getElem? (i := 77) (by decide +kernel))) rfl
theorem wd_1_5 : Cond.initialized "WaxedPartners$Acts" ∈ gT := gT_in (tb_1 _ (List.mem_of_getElem? (i := 5) (by decide +kernel))) rfl
theorem wd_5_81 : Cond.code ⟨"WaxedPartners$Acts", "takeBack", "()V"⟩ prog_2_method_3_code 1 none ∈ gT := gT_in (tb_5 _ (List.mem_of_getElem? (i := 81) (by decide +kernel))) rfl
theorem wd_3_128 : Cond.code ⟨"WaxedPartners$Acts", "cutOf", "(IIII)I"⟩ prog_2_method_4_code 8 (some .int) ∈ gT := gT_in (tb_3 _ (List.mem_of_getElem? (i := 128) (by decide +kernel))) rfl
theorem wd_3_132 : Cond.code ⟨"WaxedPartners$Acts", "isOf", "(III)Z"⟩ prog_2_method_5_code 4 (some .boolean) ∈ gT := gT_in (tb_3 _ (List.mem_of_getElem? (i := 132) (by decide +kernel))) rfl
theorem wd_5_178 : Cond.code ⟨"WaxedPartners$Acts", "copyFrom", "(LWaxedPartners$Acts;)V"⟩ prog_2_method_6_code 2 none ∈ gT := gT_in (tb_5 _ (List.mem_of_getElem? (i := 178) (by decide +kernel))) rfl
theorem wd_4_88 : Cond.code ⟨"WaxedPartners$Crowd", "fits", "(LWaxedPartners$Town;II)Z"⟩ prog_3_method_2_code 3 (some .boolean) ∈ gT := gT_in (tb_4 _ (List.mem_of_getElem? (i := 88) (by decide +kernel))) rfl
theorem wd_1_8 : Cond.initialized "WaxedPartners$Crowd" ∈ gT := gT_in (tb_1 _ (List.mem_of_getElem? (i := 8) (by decide +kernel))) rfl
theorem wd_4_85 : Cond.code ⟨"WaxedPartners$Crowd", "setWorth", "(LWaxedPartners$Town;II)I"⟩ prog_3_method_3_code 3 (some .int) ∈ gT := gT_in (tb_4 _ (List.mem_of_getElem? (i := 85) (by decide +kernel))) rfl
theorem wd_4_82 : Cond.code ⟨"WaxedPartners$Crowd", "bestSet", "(LWaxedPartners$Town;I)I"⟩ prog_3_method_4_code 6 (some .int) ∈ gT := gT_in (tb_4 _ (List.mem_of_getElem? (i := 82) (by decide +kernel))) rfl
theorem wd_4_107 : Cond.code ⟨"WaxedPartners$Crowd", "part", "(LWaxedPartners$Town;I)V"⟩ prog_3_method_5_code 7 none ∈ gT := gT_in (tb_4 _ (List.mem_of_getElem? (i := 107) (by decide +kernel))) rfl
theorem wd_4_111 : Cond.code ⟨"WaxedPartners$Crowd", "addParting", "(II)V"⟩ prog_3_method_6_code 4 none ∈ gT := gT_in (tb_4 _ (List.mem_of_getElem? (i := 111) (by decide +kernel))) rfl
theorem wd_4_127 : Cond.code ⟨"WaxedPartners$Crowd", "gainOverOrders", "(LWaxedPartners$Town;II)J"⟩ prog_3_method_7_code 9 (some .long) ∈ gT := gT_in (tb_4 _ (List.mem_of_getElem? (i := 127) (by decide +kernel))) rfl
theorem wd_4_168 : Cond.code ⟨"WaxedPartners$Crowd", "firstLeaver", "(LWaxedPartners$Town;ILWaxedPartners$Numbers;)I"⟩ prog_3_method_8_code 4 (some .int) ∈ gT := gT_in (tb_4 _ (List.mem_of_getElem? (i := 168) (by decide +kernel))) rfl
theorem wd_3_109 : Cond.code ⟨"WaxedPartners$Decade", "supposeNothing", "()V"⟩ prog_4_method_2_code 1 none ∈ gT := gT_in (tb_3 _ (List.mem_of_getElem? (i := 109) (by decide +kernel))) rfl
theorem wd_1_7 : Cond.initialized "WaxedPartners$Decade" ∈ gT := gT_in (tb_1 _ (List.mem_of_getElem? (i := 7) (by decide +kernel))) rfl
theorem wd_3_113 : Cond.code ⟨"WaxedPartners$Decade", "live", "(LWaxedPartners$Town;I)V"⟩ prog_4_method_3_code 6 none ∈ gT := gT_in (tb_3 _ (List.mem_of_getElem? (i := 113) (by decide +kernel))) rfl
theorem wd_3_117 : Cond.code ⟨"WaxedPartners$Decade", "gatherJoins", "(LWaxedPartners$Town;)V"⟩ prog_4_method_4_code 5 none ∈ gT := gT_in (tb_3 _ (List.mem_of_getElem? (i := 117) (by decide +kernel))) rfl
theorem wd_3_124 : Cond.code ⟨"WaxedPartners$Decade", "gather", "(LWaxedPartners$Town;IIIII)V"⟩ prog_4_method_5_code 8 none ∈ gT := gT_in (tb_3 _ (List.mem_of_getElem? (i := 124) (by decide +kernel))) rfl
theorem wd_3_138 : Cond.code ⟨"WaxedPartners$Decade", "tellWorths", "(LWaxedPartners$Town;I)V"⟩ prog_4_method_6_code 4 none ∈ gT := gT_in (tb_3 _ (List.mem_of_getElem? (i := 138) (by decide +kernel))) rfl
theorem wd_3_142 : Cond.code ⟨"WaxedPartners$Decade", "change", "(LWaxedPartners$Town;II)I"⟩ prog_4_method_7_code 4 (some .int) ∈ gT := gT_in (tb_3 _ (List.mem_of_getElem? (i := 142) (by decide +kernel))) rfl
theorem wd_3_150 : Cond.code ⟨"WaxedPartners$Decade", "holdsIn", "(III)Z"⟩ prog_4_method_8_code 5 (some .boolean) ∈ gT := gT_in (tb_3 _ (List.mem_of_getElem? (i := 150) (by decide +kernel))) rfl
theorem wd_3_146 : Cond.code ⟨"WaxedPartners$Decade", "joinUp", "(LWaxedPartners$Town;II)V"⟩ prog_4_method_9_code 7 none ∈ gT := gT_in (tb_3 _ (List.mem_of_getElem? (i := 146) (by decide +kernel))) rfl
theorem wd_3_159 : Cond.code ⟨"WaxedPartners$Decade", "giveFirm", "([II)V"⟩ prog_4_method_10_code 3 none ∈ gT := gT_in (tb_3 _ (List.mem_of_getElem? (i := 159) (by decide +kernel))) rfl
theorem wd_3_153 : Cond.code ⟨"WaxedPartners$Decade", "reach", "([II)I"⟩ prog_4_method_11_code 5 (some .int) ∈ gT := gT_in (tb_3 _ (List.mem_of_getElem? (i := 153) (by decide +kernel))) rfl
theorem wd_3_156 : Cond.code ⟨"WaxedPartners$Decade", "tiedTo", "([II)I"⟩ prog_4_method_12_code 4 (some .int) ∈ gT := gT_in (tb_3 _ (List.mem_of_getElem? (i := 156) (by decide +kernel))) rfl
theorem wd_3_163 : Cond.code ⟨"WaxedPartners$Decade", "failingIn", "(LWaxedPartners$Town;I)I"⟩ prog_4_method_13_code 6 (some .int) ∈ gT := gT_in (tb_3 _ (List.mem_of_getElem? (i := 163) (by decide +kernel))) rfl
theorem wd_3_178 : Cond.code ⟨"WaxedPartners$Decade", "toldHeld", "(LWaxedPartners$Town;II)I"⟩ prog_4_method_14_code 6 (some .int) ∈ gT := gT_in (tb_3 _ (List.mem_of_getElem? (i := 178) (by decide +kernel))) rfl
theorem wd_3_182 : Cond.code ⟨"WaxedPartners$Decade", "catching", "(LWaxedPartners$Town;I)I"⟩ prog_4_method_15_code 5 (some .int) ∈ gT := gT_in (tb_3 _ (List.mem_of_getElem? (i := 182) (by decide +kernel))) rfl
theorem wd_3_174 : Cond.code ⟨"WaxedPartners$Decade", "worthOf", "(II)I"⟩ prog_4_method_16_code 5 (some .int) ∈ gT := gT_in (tb_3 _ (List.mem_of_getElem? (i := 174) (by decide +kernel))) rfl
theorem wd_3_195 : Cond.code ⟨"WaxedPartners$Decade", "areTied", "(III)Z"⟩ prog_4_method_17_code 4 (some .boolean) ∈ gT := gT_in (tb_3 _ (List.mem_of_getElem? (i := 195) (by decide +kernel))) rfl
theorem wd_3_167 : Cond.code ⟨"WaxedPartners$Decade", "isFirstOfFirm", "(II)Z"⟩ prog_4_method_18_code 4 (some .boolean) ∈ gT := gT_in (tb_3 _ (List.mem_of_getElem? (i := 167) (by decide +kernel))) rfl
theorem wd_3_207 : Cond.code ⟨"WaxedPartners$Decade", "firmCount", "(LWaxedPartners$Town;I)I"⟩ prog_4_method_19_code 5 (some .int) ∈ gT := gT_in (tb_3 _ (List.mem_of_getElem? (i := 207) (by decide +kernel))) rfl
theorem wd_3_215 : Cond.code ⟨"WaxedPartners$Decade", "firmWidth", "(LWaxedPartners$Town;III)I"⟩ prog_4_method_20_code 6 (some .int) ∈ gT := gT_in (tb_3 _ (List.mem_of_getElem? (i := 215) (by decide +kernel))) rfl
theorem wd_3_219 : Cond.code ⟨"WaxedPartners$Decade", "joinsAmong", "(II)I"⟩ prog_4_method_21_code 6 (some .int) ∈ gT := gT_in (tb_3 _ (List.mem_of_getElem? (i := 219) (by decide +kernel))) rfl
theorem wd_4_1 : Cond.code ⟨"WaxedPartners$Decade", "doorsOf", "(LWaxedPartners$Town;III)I"⟩ prog_4_method_22_code 8 (some .int) ∈ gT := gT_in (tb_4 _ (List.mem_of_getElem? (i := 1) (by decide +kernel))) rfl
theorem wd_4_16 : Cond.code ⟨"WaxedPartners$Decade", "distance", "(III)I"⟩ prog_4_method_23_code 6 (some .int) ∈ gT := gT_in (tb_4 _ (List.mem_of_getElem? (i := 16) (by decide +kernel))) rfl
theorem wd_4_232 : Cond.code ⟨"WaxedPartners$Gum", "canRead", "(LWaxedPartners$Town;LWaxedPartners$Numbers;)Z"⟩ prog_5_method_2_code 4 (some .boolean) ∈ gT := gT_in (tb_4 _ (List.mem_of_getElem? (i := 232) (by decide +kernel))) rfl
theorem wd_1_9 : Cond.initialized "WaxedPartners$Gum" ∈ gT := gT_in (tb_1 _ (List.mem_of_getElem? (i := 9) (by decide +kernel))) rfl
theorem wd_4_235 : Cond.code ⟨"WaxedPartners$Gum", "isBelow", "(JI)Z"⟩ prog_5_method_3_code 3 (some .boolean) ∈ gT := gT_in (tb_4 _ (List.mem_of_getElem? (i := 235) (by decide +kernel))) rfl
theorem wd_5_5 : Cond.code ⟨"WaxedPartners$Gum", "agrees", "(LWaxedPartners$Town;LWaxedPartners$Decade;LWaxedPartners$Numbers;I)Z"⟩ prog_5_method_4_code 8 (some .boolean) ∈ gT := gT_in (tb_5 _ (List.mem_of_getElem? (i := 5) (by decide +kernel))) rfl
theorem wd_4_239 : Cond.code ⟨"WaxedPartners$Gum", "countSets", "(LWaxedPartners$Town;LWaxedPartners$Decade;LWaxedPartners$Numbers;)V"⟩ prog_5_method_5_code 6 none ∈ gT := gT_in (tb_4 _ (List.mem_of_getElem? (i := 239) (by decide +kernel))) rfl
theorem wd_5_13 : Cond.code ⟨"WaxedPartners$Gum", "countThroughs", "(LWaxedPartners$Town;LWaxedPartners$Decade;)V"⟩ prog_5_method_6_code 6 none ∈ gT := gT_in (tb_5 _ (List.mem_of_getElem? (i := 13) (by decide +kernel))) rfl
theorem wd_5_29 : Cond.code ⟨"WaxedPartners$Gum", "bestQuestion", "(LWaxedPartners$Town;)I"⟩ prog_5_method_7_code 8 (some .int) ∈ gT := gT_in (tb_5 _ (List.mem_of_getElem? (i := 29) (by decide +kernel))) rfl
theorem wd_5_33 : Cond.code ⟨"WaxedPartners$Gum", "leftAtWorst", "(I)I"⟩ prog_5_method_8_code 3 (some .int) ∈ gT := gT_in (tb_5 _ (List.mem_of_getElem? (i := 33) (by decide +kernel))) rfl
theorem wd_4_155 : Cond.code ⟨"WaxedPartners$Numbers", "isThere", "()Z"⟩ prog_6_method_2_code 1 (some .boolean) ∈ gT := gT_in (tb_4 _ (List.mem_of_getElem? (i := 155) (by decide +kernel))) rfl
theorem wd_1_6 : Cond.initialized "WaxedPartners$Numbers" ∈ gT := gT_in (tb_1 _ (List.mem_of_getElem? (i := 6) (by decide +kernel))) rfl
theorem wd_5_191 : Cond.code ⟨"WaxedPartners$Numbers", "begin", "(II)V"⟩ prog_6_method_3_code 4 none ∈ gT := gT_in (tb_5 _ (List.mem_of_getElem? (i := 191) (by decide +kernel))) rfl
theorem wd_5_201 : Cond.code ⟨"WaxedPartners$Numbers", "put", "(IJ)V"⟩ prog_6_method_4_code 4 none ∈ gT := gT_in (tb_5 _ (List.mem_of_getElem? (i := 201) (by decide +kernel))) rfl
theorem wd_5_209 : Cond.code ⟨"WaxedPartners$Numbers", "reaches", "(II)Z"⟩ prog_6_method_5_code 3 (some .boolean) ∈ gT := gT_in (tb_5 _ (List.mem_of_getElem? (i := 209) (by decide +kernel))) rfl
theorem wd_4_160 : Cond.code ⟨"WaxedPartners$Numbers", "compareTogether", "(II)I"⟩ prog_6_method_6_code 8 (some .int) ∈ gT := gT_in (tb_4 _ (List.mem_of_getElem? (i := 160) (by decide +kernel))) rfl
theorem wd_2_168 : Cond.code ⟨"WaxedPartners$Reader", "readTape", "()Z"⟩ prog_7_method_2_code 2 (some .boolean) ∈ gT := gT_in (tb_2 _ (List.mem_of_getElem? (i := 168) (by decide +kernel))) rfl
theorem wd_1_2 : Cond.initialized "WaxedPartners$Reader" ∈ gT := gT_in (tb_1 _ (List.mem_of_getElem? (i := 2) (by decide +kernel))) rfl
theorem wd_2_203 : Cond.code ⟨"WaxedPartners$Reader", "readLine", "()V"⟩ prog_7_method_3_code 1 none ∈ gT := gT_in (tb_2 _ (List.mem_of_getElem? (i := 203) (by decide +kernel))) rfl
theorem wd_2_207 : Cond.code ⟨"WaxedPartners$Reader", "readHead", "()V"⟩ prog_7_method_4_code 1 none ∈ gT := gT_in (tb_2 _ (List.mem_of_getElem? (i := 207) (by decide +kernel))) rfl
theorem wd_3_41 : Cond.code ⟨"WaxedPartners$Reader", "readPartner", "()V"⟩ prog_7_method_5_code 2 none ∈ gT := gT_in (tb_3 _ (List.mem_of_getElem? (i := 41) (by decide +kernel))) rfl
theorem wd_3_49 : Cond.code ⟨"WaxedPartners$Reader", "readJoin", "()V"⟩ prog_7_method_6_code 2 none ∈ gT := gT_in (tb_3 _ (List.mem_of_getElem? (i := 49) (by decide +kernel))) rfl
theorem wd_3_55 : Cond.code ⟨"WaxedPartners$Reader", "readDoor", "()V"⟩ prog_7_method_7_code 2 none ∈ gT := gT_in (tb_3 _ (List.mem_of_getElem? (i := 55) (by decide +kernel))) rfl
theorem wd_3_60 : Cond.code ⟨"WaxedPartners$Reader", "readCold", "()V"⟩ prog_7_method_8_code 2 none ∈ gT := gT_in (tb_3 _ (List.mem_of_getElem? (i := 60) (by decide +kernel))) rfl
theorem wd_3_28 : Cond.code ⟨"WaxedPartners$Reader", "refuse", "(I)V"⟩ prog_7_method_9_code 2 none ∈ gT := gT_in (tb_3 _ (List.mem_of_getElem? (i := 28) (by decide +kernel))) rfl
theorem wd_2_212 : Cond.code ⟨"WaxedPartners$Reader", "expectWord", "(Ljava/lang/String;)V"⟩ prog_7_method_10_code 2 none ∈ gT := gT_in (tb_2 _ (List.mem_of_getElem? (i := 212) (by decide +kernel))) rfl
theorem wd_3_33 : Cond.code ⟨"WaxedPartners$Reader", "expectNumber", "(II)I"⟩ prog_7_method_11_code 4 (some .int) ∈ gT := gT_in (tb_3 _ (List.mem_of_getElem? (i := 33) (by decide +kernel))) rfl
theorem wd_3_65 : Cond.code ⟨"WaxedPartners$Reader", "expectSign", "()V"⟩ prog_7_method_12_code 1 none ∈ gT := gT_in (tb_3 _ (List.mem_of_getElem? (i := 65) (by decide +kernel))) rfl
theorem wd_2_216 : Cond.code ⟨"WaxedPartners$Reader", "isWord", "(Ljava/lang/String;)Z"⟩ prog_7_method_13_code 3 (some .boolean) ∈ gT := gT_in (tb_2 _ (List.mem_of_getElem? (i := 216) (by decide +kernel))) rfl
theorem wd_2_176 : Cond.code ⟨"WaxedPartners$Reader", "advance", "()V"⟩ prog_7_method_14_code 1 none ∈ gT := gT_in (tb_2 _ (List.mem_of_getElem? (i := 176) (by decide +kernel))) rfl
theorem wd_2_196 : Cond.code ⟨"WaxedPartners$Reader", "readDigits", "()V"⟩ prog_7_method_15_code 1 none ∈ gT := gT_in (tb_2 _ (List.mem_of_getElem? (i := 196) (by decide +kernel))) rfl
theorem wd_2_186 : Cond.code ⟨"WaxedPartners$Reader", "kindOf", "(I)I"⟩ prog_7_method_16_code 1 (some .int) ∈ gT := gT_in (tb_2 _ (List.mem_of_getElem? (i := 186) (by decide +kernel))) rfl
theorem wd_2_183 : Cond.code ⟨"WaxedPartners$Reader", "isBlank", "(I)Z"⟩ prog_7_method_17_code 1 (some .boolean) ∈ gT := gT_in (tb_2 _ (List.mem_of_getElem? (i := 183) (by decide +kernel))) rfl
theorem wd_2_189 : Cond.code ⟨"WaxedPartners$Reader", "isLetter", "(I)Z"⟩ prog_7_method_18_code 1 (some .boolean) ∈ gT := gT_in (tb_2 _ (List.mem_of_getElem? (i := 189) (by decide +kernel))) rfl
theorem wd_2_192 : Cond.code ⟨"WaxedPartners$Reader", "isDigit", "(I)Z"⟩ prog_7_method_19_code 1 (some .boolean) ∈ gT := gT_in (tb_2 _ (List.mem_of_getElem? (i := 192) (by decide +kernel))) rfl
theorem wd_2_156 : Cond.code ⟨"WaxedPartners$Tape", "put", "(I)V"⟩ prog_8_method_2_code 3 none ∈ gT := gT_in (tb_2 _ (List.mem_of_getElem? (i := 156) (by decide +kernel))) rfl
theorem wd_1_3 : Cond.initialized "WaxedPartners$Tape" ∈ gT := gT_in (tb_1 _ (List.mem_of_getElem? (i := 3) (by decide +kernel))) rfl
theorem wd_2_180 : Cond.code ⟨"WaxedPartners$Tape", "at", "(I)I"⟩ prog_8_method_3_code 3 (some .int) ∈ gT := gT_in (tb_2 _ (List.mem_of_getElem? (i := 180) (by decide +kernel))) rfl
theorem wd_2_172 : Cond.code ⟨"WaxedPartners$Town", "clear", "()V"⟩ prog_9_method_2_code 1 none ∈ gT := gT_in (tb_2 _ (List.mem_of_getElem? (i := 172) (by decide +kernel))) rfl
theorem wd_1_4 : Cond.initialized "WaxedPartners$Town" ∈ gT := gT_in (tb_1 _ (List.mem_of_getElem? (i := 4) (by decide +kernel))) rfl
theorem wd_5_167 : Cond.code ⟨"WaxedPartners$Town", "copyFrom", "(LWaxedPartners$Town;)V"⟩ prog_9_method_3_code 2 none ∈ gT := gT_in (tb_5 _ (List.mem_of_getElem? (i := 167) (by decide +kernel))) rfl
theorem wd_5_170 : Cond.code ⟨"WaxedPartners$Town", "copy", "([I[I)V"⟩ prog_9_method_4_code 2 none ∈ gT := gT_in (tb_5 _ (List.mem_of_getElem? (i := 170) (by decide +kernel))) rfl
theorem wd_4_62 : Cond.code ⟨"WaxedPartners$Town", "isTold", "()Z"⟩ prog_9_method_5_code 1 (some .boolean) ∈ gT := gT_in (tb_4 _ (List.mem_of_getElem? (i := 62) (by decide +kernel))) rfl
theorem wd_3_101 : Cond.code ⟨"WaxedPartners$Town", "hasYear", "(I)Z"⟩ prog_9_method_6_code 2 (some .boolean) ∈ gT := gT_in (tb_3 _ (List.mem_of_getElem? (i := 101) (by decide +kernel))) rfl
theorem wd_3_77 : Cond.code ⟨"WaxedPartners$Town", "hasPartner", "(I)Z"⟩ prog_9_method_7_code 2 (some .boolean) ∈ gT := gT_in (tb_3 _ (List.mem_of_getElem? (i := 77) (by decide +kernel))) rfl
theorem wd_3_190 : Cond.code ⟨"WaxedPartners$Town", "hasPair", "(II)Z"⟩ prog_9_method_8_code 3 (some .boolean) ∈ gT := gT_in (tb_3 _ (List.mem_of_getElem? (i := 190) (by decide +kernel))) rfl
theorem wd_3_85 : Cond.code ⟨"WaxedPartners$Town", "hasJoin", "(I)Z"⟩ prog_9_method_9_code 2 (some .boolean) ∈ gT := gT_in (tb_3 _ (List.mem_of_getElem? (i := 85) (by decide +kernel))) rfl
theorem wd_3_93 : Cond.code ⟨"WaxedPartners$Town", "hasDoor", "(I)Z"⟩ prog_9_method_10_code 2 (some .boolean) ∈ gT := gT_in (tb_3 _ (List.mem_of_getElem? (i := 93) (by decide +kernel))) rfl
theorem wd_4_94 : Cond.code ⟨"WaxedPartners$Town", "toldWorth", "(I)I"⟩ prog_9_method_11_code 4 (some .int) ∈ gT := gT_in (tb_4 _ (List.mem_of_getElem? (i := 94) (by decide +kernel))) rfl
theorem wd_4_197 : Cond.code ⟨"WaxedPartners$Town", "waxOf", "(I)I"⟩ prog_9_method_12_code 4 (some .int) ∈ gT := gT_in (tb_4 _ (List.mem_of_getElem? (i := 197) (by decide +kernel))) rfl
theorem wd_3_223 : Cond.code ⟨"WaxedPartners$Town", "widthOf", "(III)I"⟩ prog_9_method_13_code 7 (some .int) ∈ gT := gT_in (tb_3 _ (List.mem_of_getElem? (i := 223) (by decide +kernel))) rfl
theorem wd_2_152 : Cond.code ⟨"WaxedPartners", "feed", "(IIIII)I"⟩ prog_1_method_2_code 7 (some .int) ∈ gT := gT_in (tb_2 _ (List.mem_of_getElem? (i := 152) (by decide +kernel))) rfl
theorem wd_1_1 : Cond.initialized "WaxedPartners" ∈ gT := gT_in (tb_1 _ (List.mem_of_getElem? (i := 1) (by decide +kernel))) rfl
theorem wd_2_160 : Cond.code ⟨"WaxedPartners", "end", "(I)I"⟩ prog_1_method_3_code 2 (some .int) ∈ gT := gT_in (tb_2 _ (List.mem_of_getElem? (i := 160) (by decide +kernel))) rfl
theorem wd_2_164 : Cond.code ⟨"WaxedPartners", "city", "()I"⟩ prog_1_method_4_code 3 (some .int) ∈ gT := gT_in (tb_2 _ (List.mem_of_getElem? (i := 164) (by decide +kernel))) rfl
theorem wd_3_69 : Cond.code ⟨"WaxedPartners", "fault", "(I)I"⟩ prog_1_method_5_code 2 (some .int) ∈ gT := gT_in (tb_3 _ (List.mem_of_getElem? (i := 69) (by decide +kernel))) rfl
theorem wd_3_73 : Cond.code ⟨"WaxedPartners", "partner", "(II)I"⟩ prog_1_method_6_code 3 (some .int) ∈ gT := gT_in (tb_3 _ (List.mem_of_getElem? (i := 73) (by decide +kernel))) rfl
theorem wd_3_81 : Cond.code ⟨"WaxedPartners", "join", "(II)I"⟩ prog_1_method_7_code 3 (some .int) ∈ gT := gT_in (tb_3 _ (List.mem_of_getElem? (i := 81) (by decide +kernel))) rfl
theorem wd_3_89 : Cond.code ⟨"WaxedPartners", "door", "(I)I"⟩ prog_1_method_8_code 2 (some .int) ∈ gT := gT_in (tb_3 _ (List.mem_of_getElem? (i := 89) (by decide +kernel))) rfl
theorem wd_3_97 : Cond.code ⟨"WaxedPartners", "holds", "(I)I"⟩ prog_1_method_9_code 2 (some .int) ∈ gT := gT_in (tb_3 _ (List.mem_of_getElem? (i := 97) (by decide +kernel))) rfl
theorem wd_3_186 : Cond.code ⟨"WaxedPartners", "tied", "(III)I"⟩ prog_1_method_10_code 4 (some .int) ∈ gT := gT_in (tb_3 _ (List.mem_of_getElem? (i := 186) (by decide +kernel))) rfl
theorem wd_3_199 : Cond.code ⟨"WaxedPartners", "firm", "(II)I"⟩ prog_1_method_11_code 3 (some .int) ∈ gT := gT_in (tb_3 _ (List.mem_of_getElem? (i := 199) (by decide +kernel))) rfl
theorem wd_3_203 : Cond.code ⟨"WaxedPartners", "firms", "(I)I"⟩ prog_1_method_12_code 2 (some .int) ∈ gT := gT_in (tb_3 _ (List.mem_of_getElem? (i := 203) (by decide +kernel))) rfl
theorem wd_3_211 : Cond.code ⟨"WaxedPartners", "wide", "(II)I"⟩ prog_1_method_13_code 3 (some .int) ∈ gT := gT_in (tb_3 _ (List.mem_of_getElem? (i := 211) (by decide +kernel))) rfl
theorem wd_3_237 : Cond.code ⟨"WaxedPartners", "passes", "(II)I"⟩ prog_1_method_14_code 3 (some .int) ∈ gT := gT_in (tb_3 _ (List.mem_of_getElem? (i := 237) (by decide +kernel))) rfl
theorem wd_4_6 : Cond.code ⟨"WaxedPartners", "largest", "(I)I"⟩ prog_1_method_15_code 4 (some .int) ∈ gT := gT_in (tb_4 _ (List.mem_of_getElem? (i := 6) (by decide +kernel))) rfl
theorem wd_4_12 : Cond.code ⟨"WaxedPartners", "hairs", "(III)I"⟩ prog_1_method_16_code 4 (some .int) ∈ gT := gT_in (tb_4 _ (List.mem_of_getElem? (i := 12) (by decide +kernel))) rfl
theorem wd_4_20 : Cond.code ⟨"WaxedPartners", "colds", "(I)I"⟩ prog_1_method_17_code 2 (some .int) ∈ gT := gT_in (tb_4 _ (List.mem_of_getElem? (i := 20) (by decide +kernel))) rfl
theorem wd_4_24 : Cond.code ⟨"WaxedPartners", "cold", "(I)I"⟩ prog_1_method_18_code 2 (some .int) ∈ gT := gT_in (tb_4 _ (List.mem_of_getElem? (i := 24) (by decide +kernel))) rfl
theorem wd_4_33 : Cond.code ⟨"WaxedPartners", "worth", "(II)I"⟩ prog_1_method_19_code 3 (some .int) ∈ gT := gT_in (tb_4 _ (List.mem_of_getElem? (i := 33) (by decide +kernel))) rfl
theorem wd_4_37 : Cond.code ⟨"WaxedPartners", "funds", "(II)I"⟩ prog_1_method_20_code 4 (some .int) ∈ gT := gT_in (tb_4 _ (List.mem_of_getElem? (i := 37) (by decide +kernel))) rfl
theorem wd_4_42 : Cond.code ⟨"WaxedPartners", "out", "(I)I"⟩ prog_1_method_21_code 2 (some .int) ∈ gT := gT_in (tb_4 _ (List.mem_of_getElem? (i := 42) (by decide +kernel))) rfl
theorem wd_4_46 : Cond.code ⟨"WaxedPartners", "fails", "(I)I"⟩ prog_1_method_22_code 2 (some .int) ∈ gT := gT_in (tb_4 _ (List.mem_of_getElem? (i := 46) (by decide +kernel))) rfl
theorem wd_4_50 : Cond.code ⟨"WaxedPartners", "richest", "(I)I"⟩ prog_1_method_23_code 7 (some .int) ∈ gT := gT_in (tb_4 _ (List.mem_of_getElem? (i := 50) (by decide +kernel))) rfl
theorem wd_4_54 : Cond.code ⟨"WaxedPartners", "parts", "(I)I"⟩ prog_1_method_24_code 3 (some .int) ∈ gT := gT_in (tb_4 _ (List.mem_of_getElem? (i := 54) (by decide +kernel))) rfl
theorem wd_4_58 : Cond.code ⟨"WaxedPartners", "merger", "()I"⟩ prog_1_method_25_code 2 (some .int) ∈ gT := gT_in (tb_4 _ (List.mem_of_getElem? (i := 58) (by decide +kernel))) rfl
theorem wd_4_67 : Cond.code ⟨"WaxedPartners", "apart", "(II)I"⟩ prog_1_method_26_code 4 (some .int) ∈ gT := gT_in (tb_4 _ (List.mem_of_getElem? (i := 67) (by decide +kernel))) rfl
theorem wd_4_71 : Cond.code ⟨"WaxedPartners", "singles", "(I)I"⟩ prog_1_method_27_code 4 (some .int) ∈ gT := gT_in (tb_4 _ (List.mem_of_getElem? (i := 71) (by decide +kernel))) rfl
theorem wd_4_75 : Cond.code ⟨"WaxedPartners", "total", "(I)I"⟩ prog_1_method_28_code 2 (some .int) ∈ gT := gT_in (tb_4 _ (List.mem_of_getElem? (i := 75) (by decide +kernel))) rfl
theorem wd_4_79 : Cond.code ⟨"WaxedPartners", "best", "(I)I"⟩ prog_1_method_29_code 2 (some .int) ∈ gT := gT_in (tb_4 _ (List.mem_of_getElem? (i := 79) (by decide +kernel))) rfl
theorem wd_4_99 : Cond.code ⟨"WaxedPartners", "bests", "(I)I"⟩ prog_1_method_30_code 2 (some .int) ∈ gT := gT_in (tb_4 _ (List.mem_of_getElem? (i := 99) (by decide +kernel))) rfl
theorem wd_4_103 : Cond.code ⟨"WaxedPartners", "sets", "(I)I"⟩ prog_1_method_31_code 2 (some .int) ∈ gT := gT_in (tb_4 _ (List.mem_of_getElem? (i := 103) (by decide +kernel))) rfl
theorem wd_4_115 : Cond.code ⟨"WaxedPartners", "ways", "(I)I"⟩ prog_1_method_32_code 3 (some .int) ∈ gT := gT_in (tb_4 _ (List.mem_of_getElem? (i := 115) (by decide +kernel))) rfl
theorem wd_4_119 : Cond.code ⟨"WaxedPartners", "share", "(III)I"⟩ prog_1_method_33_code 5 (some .int) ∈ gT := gT_in (tb_4 _ (List.mem_of_getElem? (i := 119) (by decide +kernel))) rfl
theorem wd_4_143 : Cond.code ⟨"WaxedPartners", "fair", "(II)I"⟩ prog_1_method_34_code 7 (some .int) ∈ gT := gT_in (tb_4 _ (List.mem_of_getElem? (i := 143) (by decide +kernel))) rfl
theorem wd_4_173 : Cond.code ⟨"WaxedPartners", "leave", "(II)I"⟩ prog_1_method_35_code 5 (some .int) ∈ gT := gT_in (tb_4 _ (List.mem_of_getElem? (i := 173) (by decide +kernel))) rfl
theorem wd_4_177 : Cond.code ⟨"WaxedPartners", "snips", "(II)I"⟩ prog_1_method_36_code 4 (some .int) ∈ gT := gT_in (tb_4 _ (List.mem_of_getElem? (i := 177) (by decide +kernel))) rfl
theorem wd_4_189 : Cond.code ⟨"WaxedPartners", "snipped", "(II)I"⟩ prog_1_method_37_code 3 (some .int) ∈ gT := gT_in (tb_4 _ (List.mem_of_getElem? (i := 189) (by decide +kernel))) rfl
theorem wd_4_193 : Cond.code ⟨"WaxedPartners", "wax", "(II)I"⟩ prog_1_method_38_code 6 (some .int) ∈ gT := gT_in (tb_4 _ (List.mem_of_getElem? (i := 193) (by decide +kernel))) rfl
theorem wd_4_201 : Cond.code ⟨"WaxedPartners", "guards", "(I)I"⟩ prog_1_method_39_code 3 (some .int) ∈ gT := gT_in (tb_4 _ (List.mem_of_getElem? (i := 201) (by decide +kernel))) rfl
theorem wd_4_213 : Cond.code ⟨"WaxedPartners", "guarded", "(I)I"⟩ prog_1_method_40_code 2 (some .int) ∈ gT := gT_in (tb_4 _ (List.mem_of_getElem? (i := 213) (by decide +kernel))) rfl
theorem wd_4_217 : Cond.code ⟨"WaxedPartners", "sneezer", "()I"⟩ prog_1_method_41_code 5 (some .int) ∈ gT := gT_in (tb_4 _ (List.mem_of_getElem? (i := 217) (by decide +kernel))) rfl
theorem wd_4_221 : Cond.code ⟨"WaxedPartners", "trues", "(I)I"⟩ prog_1_method_42_code 3 (some .int) ∈ gT := gT_in (tb_4 _ (List.mem_of_getElem? (i := 221) (by decide +kernel))) rfl
theorem wd_5_17 : Cond.code ⟨"WaxedPartners", "surely", "(I)I"⟩ prog_1_method_43_code 3 (some .int) ∈ gT := gT_in (tb_5 _ (List.mem_of_getElem? (i := 17) (by decide +kernel))) rfl
theorem wd_5_21 : Cond.code ⟨"WaxedPartners", "never", "(I)I"⟩ prog_1_method_44_code 3 (some .int) ∈ gT := gT_in (tb_5 _ (List.mem_of_getElem? (i := 21) (by decide +kernel))) rfl
theorem wd_5_25 : Cond.code ⟨"WaxedPartners", "ask", "(I)I"⟩ prog_1_method_45_code 3 (some .int) ∈ gT := gT_in (tb_5 _ (List.mem_of_getElem? (i := 25) (by decide +kernel))) rfl
theorem wd_5_38 : Cond.code ⟨"WaxedPartners", "leaves", "(I)I"⟩ prog_1_method_46_code 3 (some .int) ∈ gT := gT_in (tb_5 _ (List.mem_of_getElem? (i := 38) (by decide +kernel))) rfl
theorem wd_5_43 : Cond.code ⟨"WaxedPartners", "laws", "(I)I"⟩ prog_1_method_47_code 6 (some .int) ∈ gT := gT_in (tb_5 _ (List.mem_of_getElem? (i := 43) (by decide +kernel))) rfl
theorem wd_5_48 : Cond.code ⟨"WaxedPartners", "by", "(II)I"⟩ prog_1_method_48_code 5 (some .int) ∈ gT := gT_in (tb_5 _ (List.mem_of_getElem? (i := 48) (by decide +kernel))) rfl
theorem wd_5_53 : Cond.code ⟨"WaxedPartners", "rests", "(II)I"⟩ prog_1_method_49_code 9 (some .int) ∈ gT := gT_in (tb_5 _ (List.mem_of_getElem? (i := 53) (by decide +kernel))) rfl
theorem wd_5_65 : Cond.code ⟨"WaxedPartners", "gets", "(IIII)I"⟩ prog_1_method_50_code 5 (some .int) ∈ gT := gT_in (tb_5 _ (List.mem_of_getElem? (i := 65) (by decide +kernel))) rfl
theorem wd_5_69 : Cond.code ⟨"WaxedPartners", "when", "(II)I"⟩ prog_1_method_51_code 7 (some .int) ∈ gT := gT_in (tb_5 _ (List.mem_of_getElem? (i := 69) (by decide +kernel))) rfl
theorem wd_5_86 : Cond.code ⟨"WaxedPartners", "chance", "(III)I"⟩ prog_1_method_52_code 4 (some .int) ∈ gT := gT_in (tb_5 _ (List.mem_of_getElem? (i := 86) (by decide +kernel))) rfl
theorem wd_5_102 : Cond.code ⟨"WaxedPartners", "through", "(III)I"⟩ prog_1_method_53_code 4 (some .int) ∈ gT := gT_in (tb_5 _ (List.mem_of_getElem? (i := 102) (by decide +kernel))) rfl
theorem wd_5_106 : Cond.code ⟨"WaxedPartners", "mean", "(I)I"⟩ prog_1_method_54_code 2 (some .int) ∈ gT := gT_in (tb_5 _ (List.mem_of_getElem? (i := 106) (by decide +kernel))) rfl
theorem wd_5_110 : Cond.code ⟨"WaxedPartners", "weld", "(IIII)I"⟩ prog_1_method_55_code 6 (some .int) ∈ gT := gT_in (tb_5 _ (List.mem_of_getElem? (i := 110) (by decide +kernel))) rfl
theorem wd_5_114 : Cond.code ⟨"WaxedPartners", "snip", "(III)I"⟩ prog_1_method_56_code 4 (some .int) ∈ gT := gT_in (tb_5 _ (List.mem_of_getElem? (i := 114) (by decide +kernel))) rfl
theorem wd_5_118 : Cond.code ⟨"WaxedPartners", "undo", "()I"⟩ prog_1_method_57_code 1 (some .int) ∈ gT := gT_in (tb_5 _ (List.mem_of_getElem? (i := 118) (by decide +kernel))) rfl
theorem wd_5_122 : Cond.code ⟨"WaxedPartners", "anew", "()I"⟩ prog_1_method_58_code 2 (some .int) ∈ gT := gT_in (tb_5 _ (List.mem_of_getElem? (i := 122) (by decide +kernel))) rfl
theorem wd_5_126 : Cond.code ⟨"WaxedPartners", "drawn", "(II)I"⟩ prog_1_method_59_code 4 (some .int) ∈ gT := gT_in (tb_5 _ (List.mem_of_getElem? (i := 126) (by decide +kernel))) rfl
theorem wd_5_147 : Cond.code ⟨"WaxedPartners", "luck", "(III)I"⟩ prog_1_method_60_code 6 (some .int) ∈ gT := gT_in (tb_5 _ (List.mem_of_getElem? (i := 147) (by decide +kernel))) rfl
theorem wd_5_151 : Cond.code ⟨"WaxedPartners", "rate", "(I)I"⟩ prog_1_method_61_code 3 (some .int) ∈ gT := gT_in (tb_5 _ (List.mem_of_getElem? (i := 151) (by decide +kernel))) rfl
theorem wd_5_155 : Cond.code ⟨"WaxedPartners", "count", "(I)I"⟩ prog_1_method_62_code 2 (some .int) ∈ gT := gT_in (tb_5 _ (List.mem_of_getElem? (i := 155) (by decide +kernel))) rfl
theorem wd_5_163 : Cond.code ⟨"WaxedPartners", "image", "(I)I"⟩ prog_1_method_63_code 2 (some .int) ∈ gT := gT_in (tb_5 _ (List.mem_of_getElem? (i := 163) (by decide +kernel))) rfl
theorem wd_5_183 : Cond.code ⟨"WaxedPartners", "back", "(I)I"⟩ prog_1_method_64_code 2 (some .int) ∈ gT := gT_in (tb_5 _ (List.mem_of_getElem? (i := 183) (by decide +kernel))) rfl
theorem wd_5_187 : Cond.code ⟨"WaxedPartners", "row", "(III)I"⟩ prog_1_method_65_code 5 (some .int) ∈ gT := gT_in (tb_5 _ (List.mem_of_getElem? (i := 187) (by decide +kernel))) rfl
theorem wd_5_197 : Cond.code ⟨"WaxedPartners", "write", "(IIJ)I"⟩ prog_1_method_66_code 6 (some .int) ∈ gT := gT_in (tb_5 _ (List.mem_of_getElem? (i := 197) (by decide +kernel))) rfl
theorem wd_5_205 : Cond.code ⟨"WaxedPartners", "paste", "(IIIII)I"⟩ prog_1_method_67_code 8 (some .int) ∈ gT := gT_in (tb_5 _ (List.mem_of_getElem? (i := 205) (by decide +kernel))) rfl
theorem wd_3_120 : Cond.code ⟨"WaxedPartners", "has", "(II)Z"⟩ prog_1_method_68_code 2 (some .boolean) ∈ gT := gT_in (tb_3 _ (List.mem_of_getElem? (i := 120) (by decide +kernel))) rfl
theorem wd_3_170 : Cond.code ⟨"WaxedPartners", "allOf", "(I)I"⟩ prog_1_method_69_code 1 (some .int) ∈ gT := gT_in (tb_3 _ (List.mem_of_getElem? (i := 170) (by decide +kernel))) rfl
theorem wd_4_122 : Cond.code ⟨"WaxedPartners", "isEither", "(I)Z"⟩ prog_1_method_70_code 1 (some .boolean) ∈ gT := gT_in (tb_4 _ (List.mem_of_getElem? (i := 122) (by decide +kernel))) rfl
theorem wd_5_129 : Cond.code ⟨"WaxedPartners", "isSeed", "(I)Z"⟩ prog_1_method_71_code 1 (some .boolean) ∈ gT := gT_in (tb_5 _ (List.mem_of_getElem? (i := 129) (by decide +kernel))) rfl
theorem wd_4_147 : Cond.code ⟨"WaxedPartners", "slotAt", "(I)LWaxedPartners$Numbers;"⟩ prog_1_method_72_code 2 (Option.some (.object "WaxedPartners$Numbers")) ∈ gT := gT_in (tb_4 _ (List.mem_of_getElem? (i := 147) (by decide +kernel))) rfl
theorem wd_5_159 : Cond.code ⟨"WaxedPartners", "rowCount", "()I"⟩ prog_1_method_73_code 3 (some .int) ∈ gT := gT_in (tb_5 _ (List.mem_of_getElem? (i := 159) (by decide +kernel))) rfl
theorem wd_3_105 : Cond.code ⟨"WaxedPartners", "liveAsNow", "()V"⟩ prog_1_method_74_code 1 none ∈ gT := gT_in (tb_3 _ (List.mem_of_getElem? (i := 105) (by decide +kernel))) rfl
theorem wd_4_28 : Cond.code ⟨"WaxedPartners", "firstYearWith", "([II)I"⟩ prog_1_method_75_code 4 (some .int) ∈ gT := gT_in (tb_4 _ (List.mem_of_getElem? (i := 28) (by decide +kernel))) rfl
theorem wd_4_151 : Cond.code ⟨"WaxedPartners", "refusalOfGifts", "(LWaxedPartners$Numbers;I)I"⟩ prog_1_method_76_code 3 (some .int) ∈ gT := gT_in (tb_4 _ (List.mem_of_getElem? (i := 151) (by decide +kernel))) rfl
theorem wd_4_229 : Cond.code ⟨"WaxedPartners", "refusalOfSightings", "(LWaxedPartners$Numbers;)I"⟩ prog_1_method_77_code 2 (some .int) ∈ gT := gT_in (tb_4 _ (List.mem_of_getElem? (i := 229) (by decide +kernel))) rfl
theorem wd_4_225 : Cond.code ⟨"WaxedPartners", "chew", "(I)I"⟩ prog_1_method_78_code 4 (some .int) ∈ gT := gT_in (tb_4 _ (List.mem_of_getElem? (i := 225) (by decide +kernel))) rfl
theorem wd_4_185 : Cond.code ⟨"WaxedPartners", "cutsApart", "(III)Z"⟩ prog_1_method_79_code 4 (some .boolean) ∈ gT := gT_in (tb_4 _ (List.mem_of_getElem? (i := 185) (by decide +kernel))) rfl
theorem wd_4_181 : Cond.code ⟨"WaxedPartners", "fewestCut", "(II)I"⟩ prog_1_method_80_code 6 (some .int) ∈ gT := gT_in (tb_4 _ (List.mem_of_getElem? (i := 181) (by decide +kernel))) rfl
theorem wd_4_209 : Cond.code ⟨"WaxedPartners", "staysWell", "(II)Z"⟩ prog_1_method_81_code 3 (some .boolean) ∈ gT := gT_in (tb_4 _ (List.mem_of_getElem? (i := 209) (by decide +kernel))) rfl
theorem wd_4_205 : Cond.code ⟨"WaxedPartners", "fewestGuards", "(I)I"⟩ prog_1_method_82_code 5 (some .int) ∈ gT := gT_in (tb_4 _ (List.mem_of_getElem? (i := 205) (by decide +kernel))) rfl
theorem wd_5_61 : Cond.code ⟨"WaxedPartners", "lastWorth", "(I)I"⟩ prog_1_method_83_code 3 (some .int) ∈ gT := gT_in (tb_5 _ (List.mem_of_getElem? (i := 61) (by decide +kernel))) rfl
theorem wd_5_57 : Cond.code ⟨"WaxedPartners", "payOf", "(IIII)I"⟩ prog_1_method_84_code 5 (some .int) ∈ gT := gT_in (tb_5 _ (List.mem_of_getElem? (i := 57) (by decide +kernel))) rfl
theorem wd_5_73 : Cond.code ⟨"WaxedPartners", "lastWorthOfBoth", "(II)I"⟩ prog_1_method_85_code 3 (some .int) ∈ gT := gT_in (tb_5 _ (List.mem_of_getElem? (i := 73) (by decide +kernel))) rfl
theorem wd_5_94 : Cond.code ⟨"WaxedPartners", "casesOf", "(I)J"⟩ prog_1_method_86_code 5 (some .long) ∈ gT := gT_in (tb_5 _ (List.mem_of_getElem? (i := 94) (by decide +kernel))) rfl
theorem wd_5_98 : Cond.code ⟨"WaxedPartners", "measure", "(III)I"⟩ prog_1_method_87_code 4 (some .int) ∈ gT := gT_in (tb_5 _ (List.mem_of_getElem? (i := 98) (by decide +kernel))) rfl
theorem wd_5_90 : Cond.code ⟨"WaxedPartners", "meanOf", "(IIII)I"⟩ prog_1_method_88_code 12 (some .int) ∈ gT := gT_in (tb_5 _ (List.mem_of_getElem? (i := 90) (by decide +kernel))) rfl
theorem wd_4_139 : Cond.code ⟨"WaxedPartners", "commonDivisor", "(JJ)J"⟩ prog_1_method_89_code 11 (some .long) ∈ gT := gT_in (tb_4 _ (List.mem_of_getElem? (i := 139) (by decide +kernel))) rfl
theorem wd_4_133 : Cond.code ⟨"WaxedPartners", "lowest", "(JJI)I"⟩ prog_1_method_90_code 7 (some .int) ∈ gT := gT_in (tb_4 _ (List.mem_of_getElem? (i := 133) (by decide +kernel))) rfl
theorem wd_5_134 : Cond.code ⟨"WaxedPartners", "drawFalseJoins", "(I)I"⟩ prog_1_method_91_code 6 (some .int) ∈ gT := gT_in (tb_5 _ (List.mem_of_getElem? (i := 134) (by decide +kernel))) rfl
theorem wd_5_143 : Cond.code ⟨"WaxedPartners", "outAtLast", "(I)I"⟩ prog_1_method_92_code 3 (some .int) ∈ gT := gT_in (tb_5 _ (List.mem_of_getElem? (i := 143) (by decide +kernel))) rfl
theorem wd_6_136 : Cond.code ⟨"WaxedPartnersModel", "in", "(JJJ)Z"⟩ prog_11_method_3_code 6 (some .boolean) ∈ gT := gT_in (tb_6 _ (List.mem_of_getElem? (i := 136) (by decide +kernel))) rfl
theorem wd_1_10 : Cond.initialized "WaxedPartnersModel" ∈ gT := gT_in (tb_1 _ (List.mem_of_getElem? (i := 10) (by decide +kernel))) rfl
theorem wd_6_132 : Cond.code ⟨"WaxedPartnersModel", "isSlot", "(I)Z"⟩ prog_11_method_4_code 1 (some .boolean) ∈ gT := gT_in (tb_6 _ (List.mem_of_getElem? (i := 132) (by decide +kernel))) rfl
theorem wd_6_129 : Cond.code ⟨"WaxedPartnersModel", "row", "(III)I"⟩ prog_11_method_5_code 5 (some .int) ∈ gT := gT_in (tb_6 _ (List.mem_of_getElem? (i := 129) (by decide +kernel))) rfl
theorem wd_6_143 : Cond.code ⟨"WaxedPartnersModel", "cut", "(JI)J"⟩ prog_11_method_6_code 3 (some .long) ∈ gT := gT_in (tb_6 _ (List.mem_of_getElem? (i := 143) (by decide +kernel))) rfl
theorem wd_6_140 : Cond.code ⟨"WaxedPartnersModel", "write", "(IIJ)I"⟩ prog_11_method_7_code 5 (some .int) ∈ gT := gT_in (tb_6 _ (List.mem_of_getElem? (i := 140) (by decide +kernel))) rfl
theorem wd_6_147 : Cond.code ⟨"WaxedPartnersModel", "paste", "(IIIII)I"⟩ prog_11_method_8_code 7 (some .int) ∈ gT := gT_in (tb_6 _ (List.mem_of_getElem? (i := 147) (by decide +kernel))) rfl
theorem wd_6_151 : Cond.code ⟨"WaxedPartnersModel", "feed", "(IIIII)I"⟩ prog_11_method_9_code 6 (some .int) ∈ gT := gT_in (tb_6 _ (List.mem_of_getElem? (i := 151) (by decide +kernel))) rfl
theorem wd_6_155 : Cond.code ⟨"WaxedPartnersModel", "four", "(I)V"⟩ prog_11_method_10_code 3 none ∈ gT := gT_in (tb_6 _ (List.mem_of_getElem? (i := 155) (by decide +kernel))) rfl
theorem wd_6_159 : Cond.code ⟨"WaxedPartnersModel", "end", "(I)I"⟩ prog_11_method_11_code 2 (some .int) ∈ gT := gT_in (tb_6 _ (List.mem_of_getElem? (i := 159) (by decide +kernel))) rfl
theorem wd_6_187 : Cond.code ⟨"WaxedPartnersModel", "isByte", "(III)Z"⟩ prog_11_method_12_code 4 (some .boolean) ∈ gT := gT_in (tb_6 _ (List.mem_of_getElem? (i := 187) (by decide +kernel))) rfl
theorem wd_6_183 : Cond.code ⟨"WaxedPartnersModel", "next", "()V"⟩ prog_11_method_13_code 2 none ∈ gT := gT_in (tb_6 _ (List.mem_of_getElem? (i := 183) (by decide +kernel))) rfl
theorem wd_6_196 : Cond.code ⟨"WaxedPartnersModel", "isGood", "()Z"⟩ prog_11_method_14_code 1 (some .boolean) ∈ gT := gT_in (tb_6 _ (List.mem_of_getElem? (i := 196) (by decide +kernel))) rfl
theorem wd_6_213 : Cond.code ⟨"WaxedPartnersModel", "errs", "(I)V"⟩ prog_11_method_15_code 2 none ∈ gT := gT_in (tb_6 _ (List.mem_of_getElem? (i := 213) (by decide +kernel))) rfl
theorem wd_6_209 : Cond.code ⟨"WaxedPartnersModel", "is", "(J)Z"⟩ prog_11_method_16_code 3 (some .boolean) ∈ gT := gT_in (tb_6 _ (List.mem_of_getElem? (i := 209) (by decide +kernel))) rfl
theorem wd_6_205 : Cond.code ⟨"WaxedPartnersModel", "takes", "(J)Z"⟩ prog_11_method_17_code 3 (some .boolean) ∈ gT := gT_in (tb_6 _ (List.mem_of_getElem? (i := 205) (by decide +kernel))) rfl
theorem wd_6_201 : Cond.code ⟨"WaxedPartnersModel", "asks", "(J)V"⟩ prog_11_method_18_code 3 none ∈ gT := gT_in (tb_6 _ (List.mem_of_getElem? (i := 201) (by decide +kernel))) rfl
theorem wd_6_222 : Cond.code ⟨"WaxedPartnersModel", "number", "(II)I"⟩ prog_11_method_19_code 4 (some .int) ∈ gT := gT_in (tb_6 _ (List.mem_of_getElem? (i := 222) (by decide +kernel))) rfl
theorem wd_6_218 : Cond.code ⟨"WaxedPartnersModel", "number", "(JII)I"⟩ prog_11_method_20_code 5 (some .int) ∈ gT := gT_in (tb_6 _ (List.mem_of_getElem? (i := 218) (by decide +kernel))) rfl
theorem wd_7_30 : Cond.code ⟨"WaxedPartnersModel", "ends", "()V"⟩ prog_11_method_21_code 1 none ∈ gT := gT_in (tb_7 _ (List.mem_of_getElem? (i := 30) (by decide +kernel))) rfl
theorem wd_6_179 : Cond.code ⟨"WaxedPartnersModel", "begins", "()V"⟩ prog_11_method_22_code 1 none ∈ gT := gT_in (tb_6 _ (List.mem_of_getElem? (i := 179) (by decide +kernel))) rfl
theorem wd_7_34 : Cond.code ⟨"WaxedPartnersModel", "isOver", "()V"⟩ prog_11_method_23_code 1 none ∈ gT := gT_in (tb_7 _ (List.mem_of_getElem? (i := 34) (by decide +kernel))) rfl
theorem wd_6_163 : Cond.code ⟨"WaxedPartnersModel", "fault", "(I)I"⟩ prog_11_method_24_code 2 (some .int) ∈ gT := gT_in (tb_6 _ (List.mem_of_getElem? (i := 163) (by decide +kernel))) rfl
theorem wd_6_238 : Cond.code ⟨"WaxedPartnersModel", "hasRead", "(I)I"⟩ prog_11_method_25_code 2 (some .int) ∈ gT := gT_in (tb_6 _ (List.mem_of_getElem? (i := 238) (by decide +kernel))) rfl
theorem wd_6_175 : Cond.code ⟨"WaxedPartnersModel", "tells", "(II)V"⟩ prog_11_method_26_code 3 none ∈ gT := gT_in (tb_6 _ (List.mem_of_getElem? (i := 175) (by decide +kernel))) rfl
theorem wd_7_2 : Cond.code ⟨"WaxedPartnersModel", "partnerLine", "()V"⟩ prog_11_method_27_code 2 none ∈ gT := gT_in (tb_7 _ (List.mem_of_getElem? (i := 2) (by decide +kernel))) rfl
theorem wd_7_14 : Cond.code ⟨"WaxedPartnersModel", "personHere", "()I"⟩ prog_11_method_28_code 1 (some .int) ∈ gT := gT_in (tb_7 _ (List.mem_of_getElem? (i := 14) (by decide +kernel))) rfl
theorem wd_7_10 : Cond.code ⟨"WaxedPartnersModel", "joinLine", "()V"⟩ prog_11_method_29_code 2 none ∈ gT := gT_in (tb_7 _ (List.mem_of_getElem? (i := 10) (by decide +kernel))) rfl
theorem wd_7_20 : Cond.code ⟨"WaxedPartnersModel", "doorLine", "()V"⟩ prog_11_method_30_code 1 none ∈ gT := gT_in (tb_7 _ (List.mem_of_getElem? (i := 20) (by decide +kernel))) rfl
theorem wd_7_25 : Cond.code ⟨"WaxedPartnersModel", "coldLine", "()V"⟩ prog_11_method_31_code 2 none ∈ gT := gT_in (tb_7 _ (List.mem_of_getElem? (i := 25) (by decide +kernel))) rfl
theorem wd_6_234 : Cond.code ⟨"WaxedPartnersModel", "isRoom", "(ZII)Z"⟩ prog_11_method_32_code 4 (some .boolean) ∈ gT := gT_in (tb_6 _ (List.mem_of_getElem? (i := 234) (by decide +kernel))) rfl
theorem wd_6_229 : Cond.code ⟨"WaxedPartnersModel", "lineHere", "()V"⟩ prog_11_method_33_code 1 none ∈ gT := gT_in (tb_6 _ (List.mem_of_getElem? (i := 229) (by decide +kernel))) rfl
theorem wd_6_171 : Cond.code ⟨"WaxedPartnersModel", "clears", "()V"⟩ prog_11_method_34_code 2 none ∈ gT := gT_in (tb_6 _ (List.mem_of_getElem? (i := 171) (by decide +kernel))) rfl
theorem wd_6_167 : Cond.code ⟨"WaxedPartnersModel", "city", "()I"⟩ prog_11_method_35_code 1 (some .int) ∈ gT := gT_in (tb_6 _ (List.mem_of_getElem? (i := 167) (by decide +kernel))) rfl
theorem wd_7_41 : Cond.code ⟨"WaxedPartnersModel", "copyRow", "([IIII)V"⟩ prog_11_method_36_code 5 none ∈ gT := gT_in (tb_7 _ (List.mem_of_getElem? (i := 41) (by decide +kernel))) rfl
theorem wd_7_38 : Cond.code ⟨"WaxedPartnersModel", "copyCity", "(II)V"⟩ prog_11_method_37_code 3 none ∈ gT := gT_in (tb_7 _ (List.mem_of_getElem? (i := 38) (by decide +kernel))) rfl
theorem wd_8_20 : Cond.code ⟨"WaxedPartnersModel", "isCity", "()Z"⟩ prog_11_method_38_code 1 (some .boolean) ∈ gT := gT_in (tb_8 _ (List.mem_of_getElem? (i := 20) (by decide +kernel))) rfl
theorem wd_7_86 : Cond.code ⟨"WaxedPartnersModel", "years", "()I"⟩ prog_11_method_39_code 1 (some .int) ∈ gT := gT_in (tb_7 _ (List.mem_of_getElem? (i := 86) (by decide +kernel))) rfl
theorem wd_7_53 : Cond.code ⟨"WaxedPartnersModel", "people", "()I"⟩ prog_11_method_40_code 1 (some .int) ∈ gT := gT_in (tb_7 _ (List.mem_of_getElem? (i := 53) (by decide +kernel))) rfl
theorem wd_7_66 : Cond.code ⟨"WaxedPartnersModel", "joins", "()I"⟩ prog_11_method_41_code 1 (some .int) ∈ gT := gT_in (tb_7 _ (List.mem_of_getElem? (i := 66) (by decide +kernel))) rfl
theorem wd_7_49 : Cond.code ⟨"WaxedPartnersModel", "isPerson", "(J)Z"⟩ prog_11_method_42_code 3 (some .boolean) ∈ gT := gT_in (tb_7 _ (List.mem_of_getElem? (i := 49) (by decide +kernel))) rfl
theorem wd_7_161 : Cond.code ⟨"WaxedPartnersModel", "areTwo", "(II)Z"⟩ prog_11_method_43_code 3 (some .boolean) ∈ gT := gT_in (tb_7 _ (List.mem_of_getElem? (i := 161) (by decide +kernel))) rfl
theorem wd_7_62 : Cond.code ⟨"WaxedPartnersModel", "isJoin", "(I)Z"⟩ prog_11_method_44_code 2 (some .boolean) ∈ gT := gT_in (tb_7 _ (List.mem_of_getElem? (i := 62) (by decide +kernel))) rfl
theorem wd_7_74 : Cond.code ⟨"WaxedPartnersModel", "isDoor", "(J)Z"⟩ prog_11_method_45_code 3 (some .boolean) ∈ gT := gT_in (tb_7 _ (List.mem_of_getElem? (i := 74) (by decide +kernel))) rfl
theorem wd_7_82 : Cond.code ⟨"WaxedPartnersModel", "isYear", "(I)Z"⟩ prog_11_method_46_code 2 (some .boolean) ∈ gT := gT_in (tb_7 _ (List.mem_of_getElem? (i := 82) (by decide +kernel))) rfl
theorem wd_7_169 : Cond.code ⟨"WaxedPartnersModel", "isThen", "(II)Z"⟩ prog_11_method_47_code 3 (some .boolean) ∈ gT := gT_in (tb_7 _ (List.mem_of_getElem? (i := 169) (by decide +kernel))) rfl
theorem wd_8_71 : Cond.code ⟨"WaxedPartnersModel", "isHalf", "(I)Z"⟩ prog_11_method_48_code 1 (some .boolean) ∈ gT := gT_in (tb_8 _ (List.mem_of_getElem? (i := 71) (by decide +kernel))) rfl
theorem wd_7_117 : Cond.code ⟨"WaxedPartnersModel", "isBit", "(II)Z"⟩ prog_11_method_49_code 2 (some .boolean) ∈ gT := gT_in (tb_7 _ (List.mem_of_getElem? (i := 117) (by decide +kernel))) rfl
theorem wd_7_200 : Cond.code ⟨"WaxedPartnersModel", "sizeOf", "(I)I"⟩ prog_11_method_50_code 3 (some .int) ∈ gT := gT_in (tb_7 _ (List.mem_of_getElem? (i := 200) (by decide +kernel))) rfl
theorem wd_7_94 : Cond.code ⟨"WaxedPartnersModel", "lays", "()V"⟩ prog_11_method_51_code 1 none ∈ gT := gT_in (tb_7 _ (List.mem_of_getElem? (i := 94) (by decide +kernel))) rfl
theorem wd_7_125 : Cond.code ⟨"WaxedPartnersModel", "isPair", "(III)Z"⟩ prog_11_method_52_code 4 (some .boolean) ∈ gT := gT_in (tb_7 _ (List.mem_of_getElem? (i := 125) (by decide +kernel))) rfl
theorem wd_7_121 : Cond.code ⟨"WaxedPartnersModel", "isHolding", "(IIIIII)Z"⟩ prog_11_method_53_code 9 (some .boolean) ∈ gT := gT_in (tb_7 _ (List.mem_of_getElem? (i := 121) (by decide +kernel))) rfl
theorem wd_7_114 : Cond.code ⟨"WaxedPartnersModel", "isTold", "(II)Z"⟩ prog_11_method_54_code 3 (some .boolean) ∈ gT := gT_in (tb_7 _ (List.mem_of_getElem? (i := 114) (by decide +kernel))) rfl
theorem wd_7_129 : Cond.code ⟨"WaxedPartnersModel", "tiesTwo", "(III)V"⟩ prog_11_method_55_code 4 none ∈ gT := gT_in (tb_7 _ (List.mem_of_getElem? (i := 129) (by decide +kernel))) rfl
theorem wd_7_133 : Cond.code ⟨"WaxedPartnersModel", "isOut", "(II)Z"⟩ prog_11_method_56_code 3 (some .boolean) ∈ gT := gT_in (tb_7 _ (List.mem_of_getElem? (i := 133) (by decide +kernel))) rfl
theorem wd_7_110 : Cond.code ⟨"WaxedPartnersModel", "laysTies", "(I)V"⟩ prog_11_method_57_code 3 none ∈ gT := gT_in (tb_7 _ (List.mem_of_getElem? (i := 110) (by decide +kernel))) rfl
theorem wd_7_137 : Cond.code ⟨"WaxedPartnersModel", "firmOf", "(II)I"⟩ prog_11_method_58_code 7 (some .int) ∈ gT := gT_in (tb_7 _ (List.mem_of_getElem? (i := 137) (by decide +kernel))) rfl
theorem wd_7_141 : Cond.code ⟨"WaxedPartnersModel", "fundsOf", "(II)I"⟩ prog_11_method_59_code 5 (some .int) ∈ gT := gT_in (tb_7 _ (List.mem_of_getElem? (i := 141) (by decide +kernel))) rfl
theorem wd_7_145 : Cond.code ⟨"WaxedPartnersModel", "isToldCold", "(II)Z"⟩ prog_11_method_60_code 4 (some .boolean) ∈ gT := gT_in (tb_7 _ (List.mem_of_getElem? (i := 145) (by decide +kernel))) rfl
theorem wd_7_149 : Cond.code ⟨"WaxedPartnersModel", "isCaught", "(II)Z"⟩ prog_11_method_61_code 4 (some .boolean) ∈ gT := gT_in (tb_7 _ (List.mem_of_getElem? (i := 149) (by decide +kernel))) rfl
theorem wd_7_106 : Cond.code ⟨"WaxedPartnersModel", "year", "(I)V"⟩ prog_11_method_62_code 5 none ∈ gT := gT_in (tb_7 _ (List.mem_of_getElem? (i := 106) (by decide +kernel))) rfl
theorem wd_7_102 : Cond.code ⟨"WaxedPartnersModel", "runs", "(I)V"⟩ prog_11_method_63_code 3 none ∈ gT := gT_in (tb_7 _ (List.mem_of_getElem? (i := 102) (by decide +kernel))) rfl
theorem wd_7_98 : Cond.code ⟨"WaxedPartnersModel", "runs", "()V"⟩ prog_11_method_64_code 1 none ∈ gT := gT_in (tb_7 _ (List.mem_of_getElem? (i := 98) (by decide +kernel))) rfl
theorem wd_7_90 : Cond.code ⟨"WaxedPartnersModel", "laysNow", "()V"⟩ prog_11_method_65_code 1 none ∈ gT := gT_in (tb_7 _ (List.mem_of_getElem? (i := 90) (by decide +kernel))) rfl
theorem wd_8_0 : Cond.code ⟨"WaxedPartnersModel", "outBits", "(I)I"⟩ prog_11_method_66_code 4 (some .int) ∈ gT := gT_in (tb_8 _ (List.mem_of_getElem? (i := 0) (by decide +kernel))) rfl
theorem wd_7_197 : Cond.code ⟨"WaxedPartnersModel", "wideOf", "(II)I"⟩ prog_11_method_67_code 6 (some .int) ∈ gT := gT_in (tb_7 _ (List.mem_of_getElem? (i := 197) (by decide +kernel))) rfl
theorem wd_7_193 : Cond.code ⟨"WaxedPartnersModel", "joinsIn", "(II)I"⟩ prog_11_method_68_code 6 (some .int) ∈ gT := gT_in (tb_7 _ (List.mem_of_getElem? (i := 193) (by decide +kernel))) rfl
theorem wd_7_189 : Cond.code ⟨"WaxedPartnersModel", "wideThen", "(II)I"⟩ prog_11_method_69_code 4 (some .int) ∈ gT := gT_in (tb_7 _ (List.mem_of_getElem? (i := 189) (by decide +kernel))) rfl
theorem wd_7_208 : Cond.code ⟨"WaxedPartnersModel", "goesThrough", "(III)Z"⟩ prog_11_method_70_code 4 (some .boolean) ∈ gT := gT_in (tb_7 _ (List.mem_of_getElem? (i := 208) (by decide +kernel))) rfl
theorem wd_7_181 : Cond.code ⟨"WaxedPartnersModel", "isHead", "(II)Z"⟩ prog_11_method_71_code 4 (some .boolean) ∈ gT := gT_in (tb_7 _ (List.mem_of_getElem? (i := 181) (by decide +kernel))) rfl
theorem wd_7_45 : Cond.code ⟨"WaxedPartnersModel", "partner", "(II)I"⟩ prog_11_method_72_code 3 (some .int) ∈ gT := gT_in (tb_7 _ (List.mem_of_getElem? (i := 45) (by decide +kernel))) rfl
theorem wd_7_58 : Cond.code ⟨"WaxedPartnersModel", "join", "(II)I"⟩ prog_11_method_73_code 3 (some .int) ∈ gT := gT_in (tb_7 _ (List.mem_of_getElem? (i := 58) (by decide +kernel))) rfl
theorem wd_7_70 : Cond.code ⟨"WaxedPartnersModel", "door", "(I)I"⟩ prog_11_method_74_code 2 (some .int) ∈ gT := gT_in (tb_7 _ (List.mem_of_getElem? (i := 70) (by decide +kernel))) rfl
theorem wd_7_153 : Cond.code ⟨"WaxedPartnersModel", "isToldThen", "(II)Z"⟩ prog_11_method_75_code 3 (some .boolean) ∈ gT := gT_in (tb_7 _ (List.mem_of_getElem? (i := 153) (by decide +kernel))) rfl
theorem wd_7_78 : Cond.code ⟨"WaxedPartnersModel", "holds", "(I)I"⟩ prog_11_method_76_code 4 (some .int) ∈ gT := gT_in (tb_7 _ (List.mem_of_getElem? (i := 78) (by decide +kernel))) rfl
theorem wd_7_157 : Cond.code ⟨"WaxedPartnersModel", "tied", "(III)I"⟩ prog_11_method_77_code 4 (some .int) ∈ gT := gT_in (tb_7 _ (List.mem_of_getElem? (i := 157) (by decide +kernel))) rfl
theorem wd_7_165 : Cond.code ⟨"WaxedPartnersModel", "firm", "(II)I"⟩ prog_11_method_78_code 3 (some .int) ∈ gT := gT_in (tb_7 _ (List.mem_of_getElem? (i := 165) (by decide +kernel))) rfl
theorem wd_7_177 : Cond.code ⟨"WaxedPartnersModel", "firmsAt", "(I)I"⟩ prog_11_method_79_code 4 (some .int) ∈ gT := gT_in (tb_7 _ (List.mem_of_getElem? (i := 177) (by decide +kernel))) rfl
theorem wd_7_173 : Cond.code ⟨"WaxedPartnersModel", "firms", "(I)I"⟩ prog_11_method_80_code 2 (some .int) ∈ gT := gT_in (tb_7 _ (List.mem_of_getElem? (i := 173) (by decide +kernel))) rfl
theorem wd_7_185 : Cond.code ⟨"WaxedPartnersModel", "wide", "(II)I"⟩ prog_11_method_81_code 3 (some .int) ∈ gT := gT_in (tb_7 _ (List.mem_of_getElem? (i := 185) (by decide +kernel))) rfl
theorem wd_7_204 : Cond.code ⟨"WaxedPartnersModel", "passes", "(II)I"⟩ prog_11_method_82_code 5 (some .int) ∈ gT := gT_in (tb_7 _ (List.mem_of_getElem? (i := 204) (by decide +kernel))) rfl
theorem wd_7_212 : Cond.code ⟨"WaxedPartnersModel", "largest", "(I)I"⟩ prog_11_method_83_code 4 (some .int) ∈ gT := gT_in (tb_7 _ (List.mem_of_getElem? (i := 212) (by decide +kernel))) rfl
theorem wd_7_216 : Cond.code ⟨"WaxedPartnersModel", "hairs", "(III)I"⟩ prog_11_method_84_code 9 (some .int) ∈ gT := gT_in (tb_7 _ (List.mem_of_getElem? (i := 216) (by decide +kernel))) rfl
theorem wd_7_220 : Cond.code ⟨"WaxedPartnersModel", "colds", "(I)I"⟩ prog_11_method_85_code 4 (some .int) ∈ gT := gT_in (tb_7 _ (List.mem_of_getElem? (i := 220) (by decide +kernel))) rfl
theorem wd_7_224 : Cond.code ⟨"WaxedPartnersModel", "cold", "(I)I"⟩ prog_11_method_86_code 2 (some .int) ∈ gT := gT_in (tb_7 _ (List.mem_of_getElem? (i := 224) (by decide +kernel))) rfl
theorem wd_7_228 : Cond.code ⟨"WaxedPartnersModel", "worth", "(II)I"⟩ prog_11_method_87_code 3 (some .int) ∈ gT := gT_in (tb_7 _ (List.mem_of_getElem? (i := 228) (by decide +kernel))) rfl
theorem wd_7_232 : Cond.code ⟨"WaxedPartnersModel", "funds", "(II)I"⟩ prog_11_method_88_code 3 (some .int) ∈ gT := gT_in (tb_7 _ (List.mem_of_getElem? (i := 232) (by decide +kernel))) rfl
theorem wd_7_236 : Cond.code ⟨"WaxedPartnersModel", "out", "(I)I"⟩ prog_11_method_89_code 2 (some .int) ∈ gT := gT_in (tb_7 _ (List.mem_of_getElem? (i := 236) (by decide +kernel))) rfl
theorem wd_8_4 : Cond.code ⟨"WaxedPartnersModel", "fails", "(I)I"⟩ prog_11_method_90_code 2 (some .int) ∈ gT := gT_in (tb_8 _ (List.mem_of_getElem? (i := 4) (by decide +kernel))) rfl
theorem wd_8_8 : Cond.code ⟨"WaxedPartnersModel", "richest", "(I)I"⟩ prog_11_method_91_code 4 (some .int) ∈ gT := gT_in (tb_8 _ (List.mem_of_getElem? (i := 8) (by decide +kernel))) rfl
theorem wd_8_12 : Cond.code ⟨"WaxedPartnersModel", "parts", "(I)I"⟩ prog_11_method_92_code 3 (some .int) ∈ gT := gT_in (tb_8 _ (List.mem_of_getElem? (i := 12) (by decide +kernel))) rfl
theorem wd_8_16 : Cond.code ⟨"WaxedPartnersModel", "merger", "()I"⟩ prog_11_method_93_code 2 (some .int) ∈ gT := gT_in (tb_8 _ (List.mem_of_getElem? (i := 16) (by decide +kernel))) rfl
theorem wd_8_24 : Cond.code ⟨"WaxedPartnersModel", "apart", "(II)I"⟩ prog_11_method_94_code 4 (some .int) ∈ gT := gT_in (tb_8 _ (List.mem_of_getElem? (i := 24) (by decide +kernel))) rfl
theorem wd_8_28 : Cond.code ⟨"WaxedPartnersModel", "singles", "(I)I"⟩ prog_11_method_95_code 4 (some .int) ∈ gT := gT_in (tb_8 _ (List.mem_of_getElem? (i := 28) (by decide +kernel))) rfl
theorem wd_8_32 : Cond.code ⟨"WaxedPartnersModel", "total", "(I)I"⟩ prog_11_method_96_code 2 (some .int) ∈ gT := gT_in (tb_8 _ (List.mem_of_getElem? (i := 32) (by decide +kernel))) rfl
theorem wd_8_44 : Cond.code ⟨"WaxedPartnersModel", "isThrough", "(II)Z"⟩ prog_11_method_97_code 3 (some .boolean) ∈ gT := gT_in (tb_8 _ (List.mem_of_getElem? (i := 44) (by decide +kernel))) rfl
theorem wd_8_48 : Cond.code ⟨"WaxedPartnersModel", "worthOf", "(I)I"⟩ prog_11_method_98_code 4 (some .int) ∈ gT := gT_in (tb_8 _ (List.mem_of_getElem? (i := 48) (by decide +kernel))) rfl
theorem wd_8_40 : Cond.code ⟨"WaxedPartnersModel", "bestSet", "(I)I"⟩ prog_11_method_99_code 4 (some .int) ∈ gT := gT_in (tb_8 _ (List.mem_of_getElem? (i := 40) (by decide +kernel))) rfl
theorem wd_8_36 : Cond.code ⟨"WaxedPartnersModel", "best", "(I)I"⟩ prog_11_method_100_code 2 (some .int) ∈ gT := gT_in (tb_8 _ (List.mem_of_getElem? (i := 36) (by decide +kernel))) rfl
theorem wd_8_52 : Cond.code ⟨"WaxedPartnersModel", "bests", "(I)I"⟩ prog_11_method_101_code 2 (some .int) ∈ gT := gT_in (tb_8 _ (List.mem_of_getElem? (i := 52) (by decide +kernel))) rfl
theorem wd_8_60 : Cond.code ⟨"WaxedPartnersModel", "laysSets", "(I)V"⟩ prog_11_method_102_code 6 none ∈ gT := gT_in (tb_8 _ (List.mem_of_getElem? (i := 60) (by decide +kernel))) rfl
theorem wd_8_56 : Cond.code ⟨"WaxedPartnersModel", "sets", "(I)I"⟩ prog_11_method_103_code 3 (some .int) ∈ gT := gT_in (tb_8 _ (List.mem_of_getElem? (i := 56) (by decide +kernel))) rfl
theorem wd_8_64 : Cond.code ⟨"WaxedPartnersModel", "ways", "(I)I"⟩ prog_11_method_104_code 3 (some .int) ∈ gT := gT_in (tb_8 _ (List.mem_of_getElem? (i := 64) (by decide +kernel))) rfl
theorem wd_8_78 : Cond.code ⟨"WaxedPartnersModel", "valueOf", "(II)I"⟩ prog_11_method_105_code 3 (some .int) ∈ gT := gT_in (tb_8 _ (List.mem_of_getElem? (i := 78) (by decide +kernel))) rfl
theorem wd_8_74 : Cond.code ⟨"WaxedPartnersModel", "times", "(I)I"⟩ prog_11_method_106_code 1 (some .int) ∈ gT := gT_in (tb_8 _ (List.mem_of_getElem? (i := 74) (by decide +kernel))) rfl
theorem wd_8_84 : Cond.code ⟨"WaxedPartnersModel", "common", "(II)I"⟩ prog_11_method_107_code 2 (some .int) ∈ gT := gT_in (tb_8 _ (List.mem_of_getElem? (i := 84) (by decide +kernel))) rfl
theorem wd_8_81 : Cond.code ⟨"WaxedPartnersModel", "part", "(III)I"⟩ prog_11_method_108_code 3 (some .int) ∈ gT := gT_in (tb_8 _ (List.mem_of_getElem? (i := 81) (by decide +kernel))) rfl
theorem wd_8_68 : Cond.code ⟨"WaxedPartnersModel", "share", "(III)I"⟩ prog_11_method_109_code 7 (some .int) ∈ gT := gT_in (tb_8 _ (List.mem_of_getElem? (i := 68) (by decide +kernel))) rfl
theorem wd_8_92 : Cond.code ⟨"WaxedPartnersModel", "whyNotFair", "(II)I"⟩ prog_11_method_110_code 3 (some .int) ∈ gT := gT_in (tb_8 _ (List.mem_of_getElem? (i := 92) (by decide +kernel))) rfl
theorem wd_8_104 : Cond.code ⟨"WaxedPartnersModel", "laysGiven", "(II)V"⟩ prog_11_method_111_code 4 none ∈ gT := gT_in (tb_8 _ (List.mem_of_getElem? (i := 104) (by decide +kernel))) rfl
theorem wd_8_100 : Cond.code ⟨"WaxedPartnersModel", "isGivenLess", "(IIJ)Z"⟩ prog_11_method_112_code 5 (some .boolean) ∈ gT := gT_in (tb_8 _ (List.mem_of_getElem? (i := 100) (by decide +kernel))) rfl
theorem wd_8_109 : Cond.code ⟨"WaxedPartnersModel", "isGivenJust", "(IIJ)Z"⟩ prog_11_method_113_code 5 (some .boolean) ∈ gT := gT_in (tb_8 _ (List.mem_of_getElem? (i := 109) (by decide +kernel))) rfl
theorem wd_8_96 : Cond.code ⟨"WaxedPartnersModel", "leaveOf", "(II)I"⟩ prog_11_method_114_code 4 (some .int) ∈ gT := gT_in (tb_8 _ (List.mem_of_getElem? (i := 96) (by decide +kernel))) rfl
theorem wd_8_88 : Cond.code ⟨"WaxedPartnersModel", "fair", "(II)I"⟩ prog_11_method_115_code 5 (some .int) ∈ gT := gT_in (tb_8 _ (List.mem_of_getElem? (i := 88) (by decide +kernel))) rfl
theorem wd_8_113 : Cond.code ⟨"WaxedPartnersModel", "leave", "(II)I"⟩ prog_11_method_116_code 4 (some .int) ∈ gT := gT_in (tb_8 _ (List.mem_of_getElem? (i := 113) (by decide +kernel))) rfl
theorem wd_8_121 : Cond.code ⟨"WaxedPartnersModel", "laysSnips", "(II)V"⟩ prog_11_method_117_code 7 none ∈ gT := gT_in (tb_8 _ (List.mem_of_getElem? (i := 121) (by decide +kernel))) rfl
theorem wd_8_117 : Cond.code ⟨"WaxedPartnersModel", "snips", "(II)I"⟩ prog_11_method_118_code 3 (some .int) ∈ gT := gT_in (tb_8 _ (List.mem_of_getElem? (i := 117) (by decide +kernel))) rfl
theorem wd_8_125 : Cond.code ⟨"WaxedPartnersModel", "snipped", "(II)I"⟩ prog_11_method_119_code 3 (some .int) ∈ gT := gT_in (tb_8 _ (List.mem_of_getElem? (i := 125) (by decide +kernel))) rfl
theorem wd_8_129 : Cond.code ⟨"WaxedPartnersModel", "wax", "(II)I"⟩ prog_11_method_120_code 3 (some .int) ∈ gT := gT_in (tb_8 _ (List.mem_of_getElem? (i := 129) (by decide +kernel))) rfl
theorem wd_8_137 : Cond.code ⟨"WaxedPartnersModel", "guardsOf", "(I)I"⟩ prog_11_method_121_code 4 (some .int) ∈ gT := gT_in (tb_8 _ (List.mem_of_getElem? (i := 137) (by decide +kernel))) rfl
theorem wd_8_133 : Cond.code ⟨"WaxedPartnersModel", "guards", "(I)I"⟩ prog_11_method_122_code 3 (some .int) ∈ gT := gT_in (tb_8 _ (List.mem_of_getElem? (i := 133) (by decide +kernel))) rfl
theorem wd_8_141 : Cond.code ⟨"WaxedPartnersModel", "guarded", "(I)I"⟩ prog_11_method_123_code 2 (some .int) ∈ gT := gT_in (tb_8 _ (List.mem_of_getElem? (i := 141) (by decide +kernel))) rfl
theorem wd_8_149 : Cond.code ⟨"WaxedPartnersModel", "coldsAll", "()I"⟩ prog_11_method_124_code 3 (some .int) ∈ gT := gT_in (tb_8 _ (List.mem_of_getElem? (i := 149) (by decide +kernel))) rfl
theorem wd_8_145 : Cond.code ⟨"WaxedPartnersModel", "sneezer", "()I"⟩ prog_11_method_125_code 4 (some .int) ∈ gT := gT_in (tb_8 _ (List.mem_of_getElem? (i := 145) (by decide +kernel))) rfl
theorem wd_8_157 : Cond.code ⟨"WaxedPartnersModel", "whyNot", "(I)I"⟩ prog_11_method_126_code 4 (some .int) ∈ gT := gT_in (tb_8 _ (List.mem_of_getElem? (i := 157) (by decide +kernel))) rfl
theorem wd_8_165 : Cond.code ⟨"WaxedPartnersModel", "laysTrue", "(I)V"⟩ prog_11_method_127_code 2 none ∈ gT := gT_in (tb_8 _ (List.mem_of_getElem? (i := 165) (by decide +kernel))) rfl
theorem wd_8_169 : Cond.code ⟨"WaxedPartnersModel", "isSo", "(I)Z"⟩ prog_11_method_128_code 4 (some .boolean) ∈ gT := gT_in (tb_8 _ (List.mem_of_getElem? (i := 169) (by decide +kernel))) rfl
theorem wd_8_161 : Cond.code ⟨"WaxedPartnersModel", "laysTrues", "(I)V"⟩ prog_11_method_129_code 6 none ∈ gT := gT_in (tb_8 _ (List.mem_of_getElem? (i := 161) (by decide +kernel))) rfl
theorem wd_8_153 : Cond.code ⟨"WaxedPartnersModel", "trues", "(I)I"⟩ prog_11_method_130_code 3 (some .int) ∈ gT := gT_in (tb_8 _ (List.mem_of_getElem? (i := 153) (by decide +kernel))) rfl
theorem wd_8_173 : Cond.code ⟨"WaxedPartnersModel", "surely", "(I)I"⟩ prog_11_method_131_code 3 (some .int) ∈ gT := gT_in (tb_8 _ (List.mem_of_getElem? (i := 173) (by decide +kernel))) rfl
theorem wd_8_177 : Cond.code ⟨"WaxedPartnersModel", "never", "(I)I"⟩ prog_11_method_132_code 3 (some .int) ∈ gT := gT_in (tb_8 _ (List.mem_of_getElem? (i := 177) (by decide +kernel))) rfl
theorem wd_8_181 : Cond.code ⟨"WaxedPartnersModel", "ask", "(I)I"⟩ prog_11_method_133_code 3 (some .int) ∈ gT := gT_in (tb_8 _ (List.mem_of_getElem? (i := 181) (by decide +kernel))) rfl
theorem wd_8_185 : Cond.code ⟨"WaxedPartnersModel", "leaves", "(I)I"⟩ prog_11_method_134_code 3 (some .int) ∈ gT := gT_in (tb_8 _ (List.mem_of_getElem? (i := 185) (by decide +kernel))) rfl
theorem wd_8_189 : Cond.code ⟨"WaxedPartnersModel", "laws", "(I)I"⟩ prog_11_method_135_code 5 (some .int) ∈ gT := gT_in (tb_8 _ (List.mem_of_getElem? (i := 189) (by decide +kernel))) rfl
theorem wd_8_193 : Cond.code ⟨"WaxedPartnersModel", "by", "(II)I"⟩ prog_11_method_136_code 5 (some .int) ∈ gT := gT_in (tb_8 _ (List.mem_of_getElem? (i := 193) (by decide +kernel))) rfl
theorem wd_8_201 : Cond.code ⟨"WaxedPartnersModel", "getsBy", "(IIIII)I"⟩ prog_11_method_137_code 6 (some .int) ∈ gT := gT_in (tb_8 _ (List.mem_of_getElem? (i := 201) (by decide +kernel))) rfl
theorem wd_8_197 : Cond.code ⟨"WaxedPartnersModel", "rests", "(II)I"⟩ prog_11_method_138_code 8 (some .int) ∈ gT := gT_in (tb_8 _ (List.mem_of_getElem? (i := 197) (by decide +kernel))) rfl
theorem wd_8_205 : Cond.code ⟨"WaxedPartnersModel", "gets", "(IIII)I"⟩ prog_11_method_139_code 5 (some .int) ∈ gT := gT_in (tb_8 _ (List.mem_of_getElem? (i := 205) (by decide +kernel))) rfl
theorem wd_8_213 : Cond.code ⟨"WaxedPartnersModel", "bothAtLast", "(II)I"⟩ prog_11_method_140_code 3 (some .int) ∈ gT := gT_in (tb_8 _ (List.mem_of_getElem? (i := 213) (by decide +kernel))) rfl
theorem wd_8_209 : Cond.code ⟨"WaxedPartnersModel", "when", "(II)I"⟩ prog_11_method_141_code 6 (some .int) ∈ gT := gT_in (tb_8 _ (List.mem_of_getElem? (i := 209) (by decide +kernel))) rfl
theorem wd_8_225 : Cond.code ⟨"WaxedPartnersModel", "tens", "()I"⟩ prog_11_method_142_code 3 (some .int) ∈ gT := gT_in (tb_8 _ (List.mem_of_getElem? (i := 225) (by decide +kernel))) rfl
theorem wd_8_221 : Cond.code ⟨"WaxedPartnersModel", "weightOf", "(III)I"⟩ prog_11_method_143_code 8 (some .int) ∈ gT := gT_in (tb_8 _ (List.mem_of_getElem? (i := 221) (by decide +kernel))) rfl
theorem wd_8_217 : Cond.code ⟨"WaxedPartnersModel", "chance", "(III)I"⟩ prog_11_method_144_code 4 (some .int) ∈ gT := gT_in (tb_8 _ (List.mem_of_getElem? (i := 217) (by decide +kernel))) rfl
theorem wd_8_229 : Cond.code ⟨"WaxedPartnersModel", "through", "(III)I"⟩ prog_11_method_145_code 4 (some .int) ∈ gT := gT_in (tb_8 _ (List.mem_of_getElem? (i := 229) (by decide +kernel))) rfl
theorem wd_8_233 : Cond.code ⟨"WaxedPartnersModel", "mean", "(I)I"⟩ prog_11_method_146_code 2 (some .int) ∈ gT := gT_in (tb_8 _ (List.mem_of_getElem? (i := 233) (by decide +kernel))) rfl
theorem wd_9_5 : Cond.code ⟨"WaxedPartnersModel", "draws", "(J)V"⟩ prog_11_method_147_code 6 none ∈ gT := gT_in (tb_9 _ (List.mem_of_getElem? (i := 5) (by decide +kernel))) rfl
theorem wd_9_0 : Cond.code ⟨"WaxedPartnersModel", "isSeed", "(I)Z"⟩ prog_11_method_148_code 1 (some .boolean) ∈ gT := gT_in (tb_9 _ (List.mem_of_getElem? (i := 0) (by decide +kernel))) rfl
theorem wd_8_237 : Cond.code ⟨"WaxedPartnersModel", "drawn", "(II)I"⟩ prog_11_method_149_code 3 (some .int) ∈ gT := gT_in (tb_8 _ (List.mem_of_getElem? (i := 237) (by decide +kernel))) rfl
theorem wd_9_14 : Cond.code ⟨"WaxedPartnersModel", "luck", "(III)I"⟩ prog_11_method_150_code 6 (some .int) ∈ gT := gT_in (tb_9 _ (List.mem_of_getElem? (i := 14) (by decide +kernel))) rfl
theorem wd_9_24 : Cond.code ⟨"WaxedPartnersModel", "does", "(IIII)V"⟩ prog_11_method_151_code 6 none ∈ gT := gT_in (tb_9 _ (List.mem_of_getElem? (i := 24) (by decide +kernel))) rfl
theorem wd_9_19 : Cond.code ⟨"WaxedPartnersModel", "weld", "(IIII)I"⟩ prog_11_method_152_code 5 (some .int) ∈ gT := gT_in (tb_9 _ (List.mem_of_getElem? (i := 19) (by decide +kernel))) rfl
theorem wd_9_28 : Cond.code ⟨"WaxedPartnersModel", "snip", "(III)I"⟩ prog_11_method_153_code 5 (some .int) ∈ gT := gT_in (tb_9 _ (List.mem_of_getElem? (i := 28) (by decide +kernel))) rfl
theorem wd_9_32 : Cond.code ⟨"WaxedPartnersModel", "undo", "()I"⟩ prog_11_method_154_code 1 (some .int) ∈ gT := gT_in (tb_9 _ (List.mem_of_getElem? (i := 32) (by decide +kernel))) rfl
theorem wd_9_36 : Cond.code ⟨"WaxedPartnersModel", "anew", "()I"⟩ prog_11_method_155_code 2 (some .int) ∈ gT := gT_in (tb_9 _ (List.mem_of_getElem? (i := 36) (by decide +kernel))) rfl
theorem wd_9_40 : Cond.code ⟨"WaxedPartnersModel", "rate", "(I)I"⟩ prog_11_method_156_code 3 (some .int) ∈ gT := gT_in (tb_9 _ (List.mem_of_getElem? (i := 40) (by decide +kernel))) rfl
theorem wd_9_44 : Cond.code ⟨"WaxedPartnersModel", "count", "(I)I"⟩ prog_11_method_157_code 4 (some .int) ∈ gT := gT_in (tb_9 _ (List.mem_of_getElem? (i := 44) (by decide +kernel))) rfl
theorem wd_9_49 : Cond.code ⟨"WaxedPartnersModel", "image", "(I)I"⟩ prog_11_method_158_code 2 (some .int) ∈ gT := gT_in (tb_9 _ (List.mem_of_getElem? (i := 49) (by decide +kernel))) rfl
theorem wd_9_53 : Cond.code ⟨"WaxedPartnersModel", "back", "(I)I"⟩ prog_11_method_159_code 2 (some .int) ∈ gT := gT_in (tb_9 _ (List.mem_of_getElem? (i := 53) (by decide +kernel))) rfl
theorem wd_3_230 : Cond.code ⟨"java/lang/Integer", "bitCount", "(I)I"⟩ prog_12_method_49_code 1 (some .int) ∈ gT := gT_in (tb_3 _ (List.mem_of_getElem? (i := 230) (by decide +kernel))) rfl
theorem wd_1_16 : Cond.initialized "java/lang/Integer" ∈ gT := gT_in (tb_1 _ (List.mem_of_getElem? (i := 16) (by decide +kernel))) rfl
theorem wd_4_165 : Cond.code ⟨"java/lang/Long", "compare", "(JJ)I"⟩ prog_13_method_42_code 4 (some .int) ∈ gT := gT_in (tb_4 _ (List.mem_of_getElem? (i := 165) (by decide +kernel))) rfl
theorem wd_1_17 : Cond.initialized "java/lang/Long" ∈ gT := gT_in (tb_1 _ (List.mem_of_getElem? (i := 17) (by decide +kernel))) rfl
theorem wd_2_220 : Cond.code ⟨"java/lang/String", "length", "()I"⟩ prog_15_method_54_code 1 (some .int) ∈ gT := gT_in (tb_2 _ (List.mem_of_getElem? (i := 220) (by decide +kernel))) rfl
theorem wd_1_12 : Cond.initialized "java/lang/String" ∈ gT := gT_in (tb_1 _ (List.mem_of_getElem? (i := 12) (by decide +kernel))) rfl
theorem wd_2_230 : Cond.code ⟨"java/lang/String", "charAt", "(I)C"⟩ prog_15_method_56_code 2 (some .char) ∈ gT := gT_in (tb_2 _ (List.mem_of_getElem? (i := 230) (by decide +kernel))) rfl
theorem wd_2_224 : Cond.code ⟨"java/lang/String", "coder", "()B"⟩ prog_15_method_152_code 1 (some .byte) ∈ gT := gT_in (tb_2 _ (List.mem_of_getElem? (i := 224) (by decide +kernel))) rfl
theorem wd_2_234 : Cond.code ⟨"java/lang/String", "isLatin1", "()Z"⟩ prog_15_method_154_code 1 (some .boolean) ∈ gT := gT_in (tb_2 _ (List.mem_of_getElem? (i := 234) (by decide +kernel))) rfl
theorem wd_3_0 : Cond.code ⟨"java/lang/String", "checkIndex", "(II)V"⟩ prog_15_method_155_code 2 none ∈ gT := gT_in (tb_3 _ (List.mem_of_getElem? (i := 0) (by decide +kernel))) rfl
theorem wd_2_237 : Cond.code ⟨"java/lang/StringLatin1", "charAt", "([BI)C"⟩ prog_16_method_2_code 2 (some .char) ∈ gT := gT_in (tb_2 _ (List.mem_of_getElem? (i := 237) (by decide +kernel))) rfl
theorem wd_1_13 : Cond.initialized "java/lang/StringLatin1" ∈ gT := gT_in (tb_1 _ (List.mem_of_getElem? (i := 13) (by decide +kernel))) rfl
theorem wd_3_5 : Cond.code ⟨"jdk/internal/util/Preconditions", "checkIndex", "(IILjava/util/function/BiFunction;)I"⟩ prog_19_method_11_code 3 (some .int) ∈ gT := gT_in (tb_3 _ (List.mem_of_getElem? (i := 5) (by decide +kernel))) rfl
theorem wd_1_14 : Cond.initialized "jdk/internal/util/Preconditions" ∈ gT := gT_in (tb_1 _ (List.mem_of_getElem? (i := 14) (by decide +kernel))) rfl
theorem wd_1_69 : Cond.fieldLink "WaxedPartners$Acts" 24 "WaxedPartners$Acts" "given" "I" ∈ gT := gT_in (tb_1 _ (List.mem_of_getElem? (i := 69) (by decide +kernel))) rfl
theorem wd_1_67 : Cond.fieldLink "WaxedPartners$Acts" 21 "WaxedPartners$Acts" "waxes" "[I" ∈ gT := gT_in (tb_1 _ (List.mem_of_getElem? (i := 67) (by decide +kernel))) rfl
theorem wd_1_61 : Cond.fieldLink "WaxedPartners$Acts" 9 "WaxedPartners$Acts" "firsts" "[I" ∈ gT := gT_in (tb_1 _ (List.mem_of_getElem? (i := 61) (by decide +kernel))) rfl
theorem wd_1_63 : Cond.fieldLink "WaxedPartners$Acts" 15 "WaxedPartners$Acts" "seconds" "[I" ∈ gT := gT_in (tb_1 _ (List.mem_of_getElem? (i := 63) (by decide +kernel))) rfl
theorem wd_1_65 : Cond.fieldLink "WaxedPartners$Acts" 18 "WaxedPartners$Acts" "years" "[I" ∈ gT := gT_in (tb_1 _ (List.mem_of_getElem? (i := 65) (by decide +kernel))) rfl
theorem wd_5_82 : Cond.methodLink "WaxedPartners$Acts" 28 ⟨"java/lang/Math", "max", "(II)I"⟩ ∈ gT := gT_in (tb_5 _ (List.mem_of_getElem? (i := 82) (by decide +kernel))) rfl
theorem wd_3_226 : Cond.static ⟨"java/lang/Math", "max", "(II)I"⟩ ∈ gT := gT_in (tb_3 _ (List.mem_of_getElem? (i := 226) (by decide +kernel))) rfl
theorem wd_1_11 : Cond.initialized "java/lang/Math" ∈ gT := gT_in (tb_1 _ (List.mem_of_getElem? (i := 11) (by decide +kernel))) rfl
theorem wd_3_227 : Cond.code ⟨"java/lang/Math", "max", "(II)I"⟩ prog_14_method_65_code 2 (some .int) ∈ gT := gT_in (tb_3 _ (List.mem_of_getElem? (i := 227) (by decide +kernel))) rfl
theorem wd_3_129 : Cond.methodLink "WaxedPartners$Acts" 34 ⟨"WaxedPartners$Acts", "isOf", "(III)Z"⟩ ∈ gT := gT_in (tb_3 _ (List.mem_of_getElem? (i := 129) (by decide +kernel))) rfl
theorem wd_3_131 : Cond.instanceMethod ⟨"WaxedPartners$Acts", "isOf", "(III)Z"⟩ ∈ gT := gT_in (tb_3 _ (List.mem_of_getElem? (i := 131) (by decide +kernel))) rfl
theorem wp_2_0 : Cond.selects "WaxedPartners$Acts" ⟨"WaxedPartners$Acts", "isOf", "(III)Z"⟩ ⟨"WaxedPartners$Acts", "isOf", "(III)Z"⟩ ∈ gT := gT_in (List.mem_append_left _ (List.mem_map.mpr ⟨(⟨"WaxedPartners$Acts", "isOf", "(III)Z"⟩, _), pv_2 _ (List.mem_of_getElem? (i := 0) rfl), rfl⟩)) rfl
theorem wd_3_133 : Cond.methodLink "WaxedPartners$Acts" 38 ⟨"java/lang/Math", "min", "(II)I"⟩ ∈ gT := gT_in (tb_3 _ (List.mem_of_getElem? (i := 133) (by decide +kernel))) rfl
theorem wd_2_198 : Cond.static ⟨"java/lang/Math", "min", "(II)I"⟩ ∈ gT := gT_in (tb_2 _ (List.mem_of_getElem? (i := 198) (by decide +kernel))) rfl
theorem wd_2_199 : Cond.code ⟨"java/lang/Math", "min", "(II)I"⟩ prog_14_method_69_code 2 (some .int) ∈ gT := gT_in (tb_2 _ (List.mem_of_getElem? (i := 199) (by decide +kernel))) rfl
theorem wd_5_179 : Cond.methodLink "WaxedPartners$Acts" 41 ⟨"WaxedPartners$Town", "copy", "([I[I)V"⟩ ∈ gT := gT_in (tb_5 _ (List.mem_of_getElem? (i := 179) (by decide +kernel))) rfl
theorem wd_5_169 : Cond.static ⟨"WaxedPartners$Town", "copy", "([I[I)V"⟩ ∈ gT := gT_in (tb_5 _ (List.mem_of_getElem? (i := 169) (by decide +kernel))) rfl
theorem wd_1_91 : Cond.fieldLink "WaxedPartners$Crowd" 18 "WaxedPartners$Town" "law" "I" ∈ gT := gT_in (tb_1 _ (List.mem_of_getElem? (i := 91) (by decide +kernel))) rfl
theorem wd_4_89 : Cond.methodLink "WaxedPartners$Crowd" 24 ⟨"java/lang/Integer", "bitCount", "(I)I"⟩ ∈ gT := gT_in (tb_4 _ (List.mem_of_getElem? (i := 89) (by decide +kernel))) rfl
theorem wd_3_229 : Cond.static ⟨"java/lang/Integer", "bitCount", "(I)I"⟩ ∈ gT := gT_in (tb_3 _ (List.mem_of_getElem? (i := 229) (by decide +kernel))) rfl
theorem wd_4_90 : Cond.methodLink "WaxedPartners$Crowd" 30 ⟨"WaxedPartners$Town", "widthOf", "(III)I"⟩ ∈ gT := gT_in (tb_4 _ (List.mem_of_getElem? (i := 90) (by decide +kernel))) rfl
theorem wd_3_221 : Cond.instanceMethod ⟨"WaxedPartners$Town", "widthOf", "(III)I"⟩ ∈ gT := gT_in (tb_3 _ (List.mem_of_getElem? (i := 221) (by decide +kernel))) rfl
theorem wd_3_222 : Cond.selects "WaxedPartners$Town" ⟨"WaxedPartners$Town", "widthOf", "(III)I"⟩ ⟨"WaxedPartners$Town", "widthOf", "(III)I"⟩ ∈ gT := gT_in (tb_3 _ (List.mem_of_getElem? (i := 222) (by decide +kernel))) rfl
theorem wd_1_147 : Cond.fieldLink "WaxedPartners$Crowd" 34 "WaxedPartners$Town" "doorWides" "[I" ∈ gT := gT_in (tb_1 _ (List.mem_of_getElem? (i := 147) (by decide +kernel))) rfl
theorem wd_4_86 : Cond.methodLink "WaxedPartners$Crowd" 37 ⟨"WaxedPartners$Crowd", "fits", "(LWaxedPartners$Town;II)Z"⟩ ∈ gT := gT_in (tb_4 _ (List.mem_of_getElem? (i := 86) (by decide +kernel))) rfl
theorem wd_4_87 : Cond.static ⟨"WaxedPartners$Crowd", "fits", "(LWaxedPartners$Town;II)Z"⟩ ∈ gT := gT_in (tb_4 _ (List.mem_of_getElem? (i := 87) (by decide +kernel))) rfl
theorem wd_4_91 : Cond.methodLink "WaxedPartners$Crowd" 41 ⟨"WaxedPartners$Town", "toldWorth", "(I)I"⟩ ∈ gT := gT_in (tb_4 _ (List.mem_of_getElem? (i := 91) (by decide +kernel))) rfl
theorem wd_4_92 : Cond.instanceMethod ⟨"WaxedPartners$Town", "toldWorth", "(I)I"⟩ ∈ gT := gT_in (tb_4 _ (List.mem_of_getElem? (i := 92) (by decide +kernel))) rfl
theorem wd_4_93 : Cond.selects "WaxedPartners$Town" ⟨"WaxedPartners$Town", "toldWorth", "(I)I"⟩ ⟨"WaxedPartners$Town", "toldWorth", "(I)I"⟩ ∈ gT := gT_in (tb_4 _ (List.mem_of_getElem? (i := 93) (by decide +kernel))) rfl
theorem wd_1_105 : Cond.fieldLink "WaxedPartners$Crowd" 44 "WaxedPartners$Town" "partners" "I" ∈ gT := gT_in (tb_1 _ (List.mem_of_getElem? (i := 105) (by decide +kernel))) rfl
theorem wd_4_83 : Cond.methodLink "WaxedPartners$Crowd" 47 ⟨"WaxedPartners$Crowd", "setWorth", "(LWaxedPartners$Town;II)I"⟩ ∈ gT := gT_in (tb_4 _ (List.mem_of_getElem? (i := 83) (by decide +kernel))) rfl
theorem wd_4_84 : Cond.static ⟨"WaxedPartners$Crowd", "setWorth", "(LWaxedPartners$Town;II)I"⟩ ∈ gT := gT_in (tb_4 _ (List.mem_of_getElem? (i := 84) (by decide +kernel))) rfl
theorem wd_2_93 : Cond.fieldLink "WaxedPartners$Crowd" 9 "WaxedPartners$Crowd" "fewest" "[I" ∈ gT := gT_in (tb_2 _ (List.mem_of_getElem? (i := 93) (by decide +kernel))) rfl
theorem wd_2_95 : Cond.fieldLink "WaxedPartners$Crowd" 15 "WaxedPartners$Crowd" "wayCounts" "[I" ∈ gT := gT_in (tb_2 _ (List.mem_of_getElem? (i := 95) (by decide +kernel))) rfl
theorem wd_4_108 : Cond.methodLink "WaxedPartners$Crowd" 51 ⟨"WaxedPartners$Crowd", "addParting", "(II)V"⟩ ∈ gT := gT_in (tb_4 _ (List.mem_of_getElem? (i := 108) (by decide +kernel))) rfl
theorem wd_4_110 : Cond.instanceMethod ⟨"WaxedPartners$Crowd", "addParting", "(II)V"⟩ ∈ gT := gT_in (tb_4 _ (List.mem_of_getElem? (i := 110) (by decide +kernel))) rfl
theorem wp_2_10 : Cond.selects "WaxedPartners$Crowd" ⟨"WaxedPartners$Crowd", "addParting", "(II)V"⟩ ⟨"WaxedPartners$Crowd", "addParting", "(II)V"⟩ ∈ gT := gT_in (List.mem_append_left _ (List.mem_map.mpr ⟨(⟨"WaxedPartners$Crowd", "addParting", "(II)V"⟩, _), pv_2 _ (List.mem_of_getElem? (i := 10) rfl), rfl⟩)) rfl
theorem wd_4_128 : Cond.methodLinkNest "WaxedPartners$Crowd" 55 ⟨"WaxedPartners", "has", "(II)Z"⟩ "WaxedPartners" ∈ gNst := List.mem_filter.mpr ⟨tb_4 _ (List.mem_of_getElem? (i := 128) (by decide +kernel)), rfl⟩
theorem wd_3_119 : Cond.static ⟨"WaxedPartners", "has", "(II)Z"⟩ ∈ gT := gT_in (tb_3 _ (List.mem_of_getElem? (i := 119) (by decide +kernel))) rfl
theorem wd_4_129 : Cond.methodLink "WaxedPartners$Crowd" 59 ⟨"java/lang/Math", "max", "(II)I"⟩ ∈ gT := gT_in (tb_4 _ (List.mem_of_getElem? (i := 129) (by decide +kernel))) rfl
theorem wd_4_130 : Cond.fieldLinkNest "WaxedPartners$Crowd" 65 "WaxedPartners" "FACTORIALS" "[I" "WaxedPartners" ∈ gNsf := List.mem_filter.mpr ⟨tb_4 _ (List.mem_of_getElem? (i := 130) (by decide +kernel)), rfl⟩
theorem wd_4_169 : Cond.methodLink "WaxedPartners$Crowd" 68 ⟨"WaxedPartners$Numbers", "compareTogether", "(II)I"⟩ ∈ gT := gT_in (tb_4 _ (List.mem_of_getElem? (i := 169) (by decide +kernel))) rfl
theorem wd_4_158 : Cond.instanceMethod ⟨"WaxedPartners$Numbers", "compareTogether", "(II)I"⟩ ∈ gT := gT_in (tb_4 _ (List.mem_of_getElem? (i := 158) (by decide +kernel))) rfl
theorem wd_4_159 : Cond.selects "WaxedPartners$Numbers" ⟨"WaxedPartners$Numbers", "compareTogether", "(II)I"⟩ ⟨"WaxedPartners$Numbers", "compareTogether", "(II)I"⟩ ∈ gT := gT_in (tb_4 _ (List.mem_of_getElem? (i := 159) (by decide +kernel))) rfl
theorem wd_2_22 : Cond.fieldLink "WaxedPartners$Decade" 44 "WaxedPartners$Decade" "falseJoins" "I" ∈ gT := gT_in (tb_2 _ (List.mem_of_getElem? (i := 22) (by decide +kernel))) rfl
theorem wd_2_25 : Cond.fieldLink "WaxedPartners$Decade" 48 "WaxedPartners$Decade" "actsAside" "Z" ∈ gT := gT_in (tb_2 _ (List.mem_of_getElem? (i := 25) (by decide +kernel))) rfl
theorem wd_2_28 : Cond.fieldLink "WaxedPartners$Decade" 52 "WaxedPartners$Decade" "keptIn" "I" ∈ gT := gT_in (tb_2 _ (List.mem_of_getElem? (i := 28) (by decide +kernel))) rfl
theorem wd_2_30 : Cond.fieldLink "WaxedPartners$Decade" 55 "WaxedPartners$Decade" "sickBesides" "I" ∈ gT := gT_in (tb_2 _ (List.mem_of_getElem? (i := 30) (by decide +kernel))) rfl
theorem wd_2_32 : Cond.fieldLink "WaxedPartners$Decade" 58 "WaxedPartners$Decade" "shaved" "I" ∈ gT := gT_in (tb_2 _ (List.mem_of_getElem? (i := 32) (by decide +kernel))) rfl
theorem wd_3_114 : Cond.methodLink "WaxedPartners$Decade" 61 ⟨"WaxedPartners$Decade", "gatherJoins", "(LWaxedPartners$Town;)V"⟩ ∈ gT := gT_in (tb_3 _ (List.mem_of_getElem? (i := 114) (by decide +kernel))) rfl
theorem wd_3_116 : Cond.instanceMethod ⟨"WaxedPartners$Decade", "gatherJoins", "(LWaxedPartners$Town;)V"⟩ ∈ gT := gT_in (tb_3 _ (List.mem_of_getElem? (i := 116) (by decide +kernel))) rfl
theorem wp_1_14 : Cond.selects "WaxedPartners$Decade" ⟨"WaxedPartners$Decade", "gatherJoins", "(LWaxedPartners$Town;)V"⟩ ⟨"WaxedPartners$Decade", "gatherJoins", "(LWaxedPartners$Town;)V"⟩ ∈ gT := gT_in (List.mem_append_left _ (List.mem_map.mpr ⟨(⟨"WaxedPartners$Decade", "gatherJoins", "(LWaxedPartners$Town;)V"⟩, _), pv_1 _ (List.mem_of_getElem? (i := 14) rfl), rfl⟩)) rfl
theorem wd_2_50 : Cond.fieldLink "WaxedPartners$Decade" 65 "WaxedPartners$Decade" "everSick" "I" ∈ gT := gT_in (tb_2 _ (List.mem_of_getElem? (i := 50) (by decide +kernel))) rfl
theorem wd_3_135 : Cond.methodLink "WaxedPartners$Decade" 68 ⟨"WaxedPartners$Decade", "tellWorths", "(LWaxedPartners$Town;I)V"⟩ ∈ gT := gT_in (tb_3 _ (List.mem_of_getElem? (i := 135) (by decide +kernel))) rfl
theorem wd_3_137 : Cond.instanceMethod ⟨"WaxedPartners$Decade", "tellWorths", "(LWaxedPartners$Town;I)V"⟩ ∈ gT := gT_in (tb_3 _ (List.mem_of_getElem? (i := 137) (by decide +kernel))) rfl
theorem wp_2_1 : Cond.selects "WaxedPartners$Decade" ⟨"WaxedPartners$Decade", "tellWorths", "(LWaxedPartners$Town;I)V"⟩ ⟨"WaxedPartners$Decade", "tellWorths", "(LWaxedPartners$Town;I)V"⟩ ∈ gT := gT_in (List.mem_append_left _ (List.mem_map.mpr ⟨(⟨"WaxedPartners$Decade", "tellWorths", "(LWaxedPartners$Town;I)V"⟩, _), pv_2 _ (List.mem_of_getElem? (i := 1) rfl), rfl⟩)) rfl
theorem wd_3_143 : Cond.methodLink "WaxedPartners$Decade" 72 ⟨"WaxedPartners$Decade", "joinUp", "(LWaxedPartners$Town;II)V"⟩ ∈ gT := gT_in (tb_3 _ (List.mem_of_getElem? (i := 143) (by decide +kernel))) rfl
theorem wd_3_145 : Cond.instanceMethod ⟨"WaxedPartners$Decade", "joinUp", "(LWaxedPartners$Town;II)V"⟩ ∈ gT := gT_in (tb_3 _ (List.mem_of_getElem? (i := 145) (by decide +kernel))) rfl
theorem wp_2_3 : Cond.selects "WaxedPartners$Decade" ⟨"WaxedPartners$Decade", "joinUp", "(LWaxedPartners$Town;II)V"⟩ ⟨"WaxedPartners$Decade", "joinUp", "(LWaxedPartners$Town;II)V"⟩ ∈ gT := gT_in (List.mem_append_left _ (List.mem_map.mpr ⟨(⟨"WaxedPartners$Decade", "joinUp", "(LWaxedPartners$Town;II)V"⟩, _), pv_2 _ (List.mem_of_getElem? (i := 3) rfl), rfl⟩)) rfl
