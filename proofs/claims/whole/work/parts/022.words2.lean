/-! words, by their places -/
theorem wd_5_189 : Cond.instanceMethod ⟨"WaxedPartners$Numbers", "begin", "(II)V"⟩ ∈ gT := gT_in (tb_5 _ (List.mem_of_getElem? (i := 189) (by decide +kernel))) rfl
theorem wd_5_190 : Cond.selects "WaxedPartners$Numbers" ⟨"WaxedPartners$Numbers", "begin", "(II)V"⟩ ⟨"WaxedPartners$Numbers", "begin", "(II)V"⟩ ∈ gT := gT_in (tb_5 _ (List.mem_of_getElem? (i := 190) (by decide +kernel))) rfl
theorem wd_4_152 : Cond.methodLink "WaxedPartners" 368 ⟨"WaxedPartners$Numbers", "isThere", "()Z"⟩ ∈ gT := gT_in (tb_4 _ (List.mem_of_getElem? (i := 152) (by decide +kernel))) rfl
theorem wd_4_153 : Cond.instanceMethod ⟨"WaxedPartners$Numbers", "isThere", "()Z"⟩ ∈ gT := gT_in (tb_4 _ (List.mem_of_getElem? (i := 153) (by decide +kernel))) rfl
theorem wd_4_154 : Cond.selects "WaxedPartners$Numbers" ⟨"WaxedPartners$Numbers", "isThere", "()Z"⟩ ⟨"WaxedPartners$Numbers", "isThere", "()Z"⟩ ∈ gT := gT_in (tb_4 _ (List.mem_of_getElem? (i := 154) (by decide +kernel))) rfl
theorem wd_2_2 : Cond.fieldLink "WaxedPartners" 371 "WaxedPartners$Numbers" "size" "I" ∈ gT := gT_in (tb_2 _ (List.mem_of_getElem? (i := 2) (by decide +kernel))) rfl
theorem wd_5_198 : Cond.methodLink "WaxedPartners" 372 ⟨"WaxedPartners$Numbers", "put", "(IJ)V"⟩ ∈ gT := gT_in (tb_5 _ (List.mem_of_getElem? (i := 198) (by decide +kernel))) rfl
theorem wd_5_199 : Cond.instanceMethod ⟨"WaxedPartners$Numbers", "put", "(IJ)V"⟩ ∈ gT := gT_in (tb_5 _ (List.mem_of_getElem? (i := 199) (by decide +kernel))) rfl
theorem wd_5_200 : Cond.selects "WaxedPartners$Numbers" ⟨"WaxedPartners$Numbers", "put", "(IJ)V"⟩ ⟨"WaxedPartners$Numbers", "put", "(IJ)V"⟩ ∈ gT := gT_in (tb_5 _ (List.mem_of_getElem? (i := 200) (by decide +kernel))) rfl
theorem wd_1_239 : Cond.fieldLink "WaxedPartners" 375 "WaxedPartners$Numbers" "width" "I" ∈ gT := gT_in (tb_1 _ (List.mem_of_getElem? (i := 239) (by decide +kernel))) rfl
theorem wd_5_206 : Cond.methodLink "WaxedPartners" 378 ⟨"WaxedPartners$Numbers", "reaches", "(II)Z"⟩ ∈ gT := gT_in (tb_5 _ (List.mem_of_getElem? (i := 206) (by decide +kernel))) rfl
theorem wd_5_207 : Cond.instanceMethod ⟨"WaxedPartners$Numbers", "reaches", "(II)Z"⟩ ∈ gT := gT_in (tb_5 _ (List.mem_of_getElem? (i := 207) (by decide +kernel))) rfl
theorem wd_5_208 : Cond.selects "WaxedPartners$Numbers" ⟨"WaxedPartners$Numbers", "reaches", "(II)Z"⟩ ⟨"WaxedPartners$Numbers", "reaches", "(II)Z"⟩ ∈ gT := gT_in (tb_5 _ (List.mem_of_getElem? (i := 208) (by decide +kernel))) rfl
theorem wd_1_237 : Cond.fieldLink "WaxedPartners" 381 "WaxedPartners$Numbers" "values" "[J" ∈ gT := gT_in (tb_1 _ (List.mem_of_getElem? (i := 237) (by decide +kernel))) rfl
theorem wd_5_210 : Cond.methodLink "WaxedPartners" 385 ⟨"java/lang/System", "arraycopy", "(Ljava/lang/Object;ILjava/lang/Object;II)V"⟩ ∈ gT := gT_in (tb_5 _ (List.mem_of_getElem? (i := 210) (by decide +kernel))) rfl
theorem wd_5_130 : Cond.constant "WaxedPartners" 391 (2000000000 : Int32) ∈ gT := gT_in (tb_5 _ (List.mem_of_getElem? (i := 130) (by decide +kernel))) rfl
theorem wd_2_125 : Cond.fieldLink "WaxedPartners" 18 "WaxedPartners" "slots" "[LWaxedPartners$Numbers;" ∈ gT := gT_in (tb_2 _ (List.mem_of_getElem? (i := 125) (by decide +kernel))) rfl
theorem wd_4_230 : Cond.methodLink "WaxedPartners" 392 ⟨"WaxedPartners$Gum", "canRead", "(LWaxedPartners$Town;LWaxedPartners$Numbers;)Z"⟩ ∈ gT := gT_in (tb_4 _ (List.mem_of_getElem? (i := 230) (by decide +kernel))) rfl
theorem wd_4_231 : Cond.static ⟨"WaxedPartners$Gum", "canRead", "(LWaxedPartners$Town;LWaxedPartners$Numbers;)Z"⟩ ∈ gT := gT_in (tb_4 _ (List.mem_of_getElem? (i := 231) (by decide +kernel))) rfl
theorem wd_4_236 : Cond.methodLink "WaxedPartners" 396 ⟨"WaxedPartners$Gum", "countSets", "(LWaxedPartners$Town;LWaxedPartners$Decade;LWaxedPartners$Numbers;)V"⟩ ∈ gT := gT_in (tb_4 _ (List.mem_of_getElem? (i := 236) (by decide +kernel))) rfl
theorem wd_4_237 : Cond.instanceMethod ⟨"WaxedPartners$Gum", "countSets", "(LWaxedPartners$Town;LWaxedPartners$Decade;LWaxedPartners$Numbers;)V"⟩ ∈ gT := gT_in (tb_4 _ (List.mem_of_getElem? (i := 237) (by decide +kernel))) rfl
theorem wd_4_238 : Cond.selects "WaxedPartners$Gum" ⟨"WaxedPartners$Gum", "countSets", "(LWaxedPartners$Town;LWaxedPartners$Decade;LWaxedPartners$Numbers;)V"⟩ ⟨"WaxedPartners$Gum", "countSets", "(LWaxedPartners$Town;LWaxedPartners$Decade;LWaxedPartners$Numbers;)V"⟩ ∈ gT := gT_in (tb_4 _ (List.mem_of_getElem? (i := 238) (by decide +kernel))) rfl
theorem wd_2_24 : Cond.fieldLink "WaxedPartners" 400 "WaxedPartners$Decade" "falseJoins" "I" ∈ gT := gT_in (tb_2 _ (List.mem_of_getElem? (i := 24) (by decide +kernel))) rfl
theorem wd_2_29 : Cond.fieldLink "WaxedPartners" 403 "WaxedPartners$Decade" "keptIn" "I" ∈ gT := gT_in (tb_2 _ (List.mem_of_getElem? (i := 29) (by decide +kernel))) rfl
theorem wd_4_206 : Cond.methodLink "WaxedPartners" 406 ⟨"WaxedPartners", "staysWell", "(II)Z"⟩ ∈ gT := gT_in (tb_4 _ (List.mem_of_getElem? (i := 206) (by decide +kernel))) rfl
theorem wd_4_208 : Cond.instanceMethod ⟨"WaxedPartners", "staysWell", "(II)Z"⟩ ∈ gT := gT_in (tb_4 _ (List.mem_of_getElem? (i := 208) (by decide +kernel))) rfl
theorem wp_3_0 : Cond.selects "WaxedPartners" ⟨"WaxedPartners", "staysWell", "(II)Z"⟩ ⟨"WaxedPartners", "staysWell", "(II)Z"⟩ ∈ gT := gT_in (List.mem_append_left _ (List.mem_map.mpr ⟨(⟨"WaxedPartners", "staysWell", "(II)Z"⟩, _), pv_3 _ (List.mem_of_getElem? (i := 0) rfl), rfl⟩)) rfl
theorem wd_2_33 : Cond.fieldLink "WaxedPartners" 409 "WaxedPartners$Decade" "shaved" "I" ∈ gT := gT_in (tb_2 _ (List.mem_of_getElem? (i := 33) (by decide +kernel))) rfl
theorem wd_5_58 : Cond.methodLink "WaxedPartners" 412 ⟨"WaxedPartners", "lastWorth", "(I)I"⟩ ∈ gT := gT_in (tb_5 _ (List.mem_of_getElem? (i := 58) (by decide +kernel))) rfl
theorem wd_5_60 : Cond.instanceMethod ⟨"WaxedPartners", "lastWorth", "(I)I"⟩ ∈ gT := gT_in (tb_5 _ (List.mem_of_getElem? (i := 60) (by decide +kernel))) rfl
theorem wp_3_5 : Cond.selects "WaxedPartners" ⟨"WaxedPartners", "lastWorth", "(I)I"⟩ ⟨"WaxedPartners", "lastWorth", "(I)I"⟩ ∈ gT := gT_in (List.mem_append_left _ (List.mem_map.mpr ⟨(⟨"WaxedPartners", "lastWorth", "(I)I"⟩, _), pv_3 _ (List.mem_of_getElem? (i := 5) rfl), rfl⟩)) rfl
theorem wd_5_91 : Cond.methodLink "WaxedPartners" 415 ⟨"WaxedPartners", "casesOf", "(I)J"⟩ ∈ gT := gT_in (tb_5 _ (List.mem_of_getElem? (i := 91) (by decide +kernel))) rfl
theorem wd_5_93 : Cond.instanceMethod ⟨"WaxedPartners", "casesOf", "(I)J"⟩ ∈ gT := gT_in (tb_5 _ (List.mem_of_getElem? (i := 93) (by decide +kernel))) rfl
theorem wp_3_8 : Cond.selects "WaxedPartners" ⟨"WaxedPartners", "casesOf", "(I)J"⟩ ⟨"WaxedPartners", "casesOf", "(I)J"⟩ ∈ gT := gT_in (List.mem_append_left _ (List.mem_map.mpr ⟨(⟨"WaxedPartners", "casesOf", "(I)J"⟩, _), pv_3 _ (List.mem_of_getElem? (i := 8) rfl), rfl⟩)) rfl
theorem wd_5_95 : Cond.methodLink "WaxedPartners" 419 ⟨"WaxedPartners", "measure", "(III)I"⟩ ∈ gT := gT_in (tb_5 _ (List.mem_of_getElem? (i := 95) (by decide +kernel))) rfl
theorem wd_5_97 : Cond.instanceMethod ⟨"WaxedPartners", "measure", "(III)I"⟩ ∈ gT := gT_in (tb_5 _ (List.mem_of_getElem? (i := 97) (by decide +kernel))) rfl
theorem wp_3_9 : Cond.selects "WaxedPartners" ⟨"WaxedPartners", "measure", "(III)I"⟩ ⟨"WaxedPartners", "measure", "(III)I"⟩ ∈ gT := gT_in (List.mem_append_left _ (List.mem_map.mpr ⟨(⟨"WaxedPartners", "measure", "(III)I"⟩, _), pv_3 _ (List.mem_of_getElem? (i := 9) rfl), rfl⟩)) rfl
theorem wd_4_134 : Cond.methodLink "WaxedPartners" 422 ⟨"java/lang/Math", "abs", "(J)J"⟩ ∈ gT := gT_in (tb_4 _ (List.mem_of_getElem? (i := 134) (by decide +kernel))) rfl
theorem wd_4_135 : Cond.static ⟨"java/lang/Math", "abs", "(J)J"⟩ ∈ gT := gT_in (tb_4 _ (List.mem_of_getElem? (i := 135) (by decide +kernel))) rfl
theorem wd_4_136 : Cond.code ⟨"java/lang/Math", "abs", "(J)J"⟩ prog_14_method_61_code 2 (some .long) ∈ gT := gT_in (tb_4 _ (List.mem_of_getElem? (i := 136) (by decide +kernel))) rfl
theorem wd_4_137 : Cond.methodLink "WaxedPartners" 426 ⟨"WaxedPartners", "commonDivisor", "(JJ)J"⟩ ∈ gT := gT_in (tb_4 _ (List.mem_of_getElem? (i := 137) (by decide +kernel))) rfl
theorem wd_4_138 : Cond.static ⟨"WaxedPartners", "commonDivisor", "(JJ)J"⟩ ∈ gT := gT_in (tb_4 _ (List.mem_of_getElem? (i := 138) (by decide +kernel))) rfl
theorem wd_5_135 : Cond.constantLong "WaxedPartners" 430 (1103515245 : Int64) ∈ gT := gT_in (tb_5 _ (List.mem_of_getElem? (i := 135) (by decide +kernel))) rfl
theorem wd_5_136 : Cond.constantLong "WaxedPartners" 432 (12345 : Int64) ∈ gT := gT_in (tb_5 _ (List.mem_of_getElem? (i := 136) (by decide +kernel))) rfl
theorem wd_5_137 : Cond.constantLong "WaxedPartners" 434 (2147483648 : Int64) ∈ gT := gT_in (tb_5 _ (List.mem_of_getElem? (i := 137) (by decide +kernel))) rfl
theorem wd_5_138 : Cond.constantLong "WaxedPartners" 436 (65536 : Int64) ∈ gT := gT_in (tb_5 _ (List.mem_of_getElem? (i := 138) (by decide +kernel))) rfl
theorem wd_5_139 : Cond.constantLong "WaxedPartners" 438 (10 : Int64) ∈ gT := gT_in (tb_5 _ (List.mem_of_getElem? (i := 139) (by decide +kernel))) rfl
theorem wd_6_133 : Cond.constantLong "WaxedPartnersModel" 80 (3 : Int64) ∈ gT := gT_in (tb_6 _ (List.mem_of_getElem? (i := 133) (by decide +kernel))) rfl
theorem wd_6_134 : Cond.methodLink "WaxedPartnersModel" 82 ⟨"WaxedPartnersModel", "in", "(JJJ)Z"⟩ ∈ gT := gT_in (tb_6 _ (List.mem_of_getElem? (i := 134) (by decide +kernel))) rfl
theorem wd_6_135 : Cond.static ⟨"WaxedPartnersModel", "in", "(JJJ)Z"⟩ ∈ gT := gT_in (tb_6 _ (List.mem_of_getElem? (i := 135) (by decide +kernel))) rfl
theorem wd_5_217 : Cond.fieldLink "WaxedPartnersModel" 77 "WaxedPartnersModel" "thrown" "I" ∈ gT := gT_in (tb_5 _ (List.mem_of_getElem? (i := 217) (by decide +kernel))) rfl
theorem wd_6_130 : Cond.methodLink "WaxedPartnersModel" 86 ⟨"WaxedPartnersModel", "isSlot", "(I)Z"⟩ ∈ gT := gT_in (tb_6 _ (List.mem_of_getElem? (i := 130) (by decide +kernel))) rfl
theorem wd_6_131 : Cond.static ⟨"WaxedPartnersModel", "isSlot", "(I)Z"⟩ ∈ gT := gT_in (tb_6 _ (List.mem_of_getElem? (i := 131) (by decide +kernel))) rfl
theorem wd_5_218 : Cond.fieldLink "WaxedPartnersModel" 7 "WaxedPartnersModel" "width" "[I" ∈ gT := gT_in (tb_5 _ (List.mem_of_getElem? (i := 218) (by decide +kernel))) rfl
theorem wd_5_219 : Cond.fieldLink "WaxedPartnersModel" 13 "WaxedPartnersModel" "many" "[I" ∈ gT := gT_in (tb_5 _ (List.mem_of_getElem? (i := 219) (by decide +kernel))) rfl
theorem wd_5_220 : Cond.fieldLink "WaxedPartnersModel" 16 "WaxedPartnersModel" "cells" "[J" ∈ gT := gT_in (tb_5 _ (List.mem_of_getElem? (i := 220) (by decide +kernel))) rfl
theorem wd_6_141 : Cond.methodLink "WaxedPartnersModel" 90 ⟨"WaxedPartnersModel", "cut", "(JI)J"⟩ ∈ gT := gT_in (tb_6 _ (List.mem_of_getElem? (i := 141) (by decide +kernel))) rfl
theorem wd_6_142 : Cond.static ⟨"WaxedPartnersModel", "cut", "(JI)J"⟩ ∈ gT := gT_in (tb_6 _ (List.mem_of_getElem? (i := 142) (by decide +kernel))) rfl
theorem wd_5_221 : Cond.fieldLink "WaxedPartnersModel" 20 "WaxedPartnersModel" "moved" "[J" ∈ gT := gT_in (tb_5 _ (List.mem_of_getElem? (i := 221) (by decide +kernel))) rfl
theorem wd_5_223 : Cond.fieldLink "WaxedPartnersModel" 94 "WaxedPartnersModel" "taped" "I" ∈ gT := gT_in (tb_5 _ (List.mem_of_getElem? (i := 223) (by decide +kernel))) rfl
theorem wd_6_152 : Cond.methodLink "WaxedPartnersModel" 97 ⟨"WaxedPartnersModel", "four", "(I)V"⟩ ∈ gT := gT_in (tb_6 _ (List.mem_of_getElem? (i := 152) (by decide +kernel))) rfl
theorem wd_6_154 : Cond.instanceMethod ⟨"WaxedPartnersModel", "four", "(I)V"⟩ ∈ gT := gT_in (tb_6 _ (List.mem_of_getElem? (i := 154) (by decide +kernel))) rfl
theorem wp_3_13 : Cond.selects "WaxedPartnersModel" ⟨"WaxedPartnersModel", "four", "(I)V"⟩ ⟨"WaxedPartnersModel", "four", "(I)V"⟩ ∈ gT := gT_in (List.mem_append_left _ (List.mem_map.mpr ⟨(⟨"WaxedPartnersModel", "four", "(I)V"⟩, _), pv_3 _ (List.mem_of_getElem? (i := 13) rfl), rfl⟩)) rfl
theorem wd_5_222 : Cond.fieldLink "WaxedPartnersModel" 23 "WaxedPartnersModel" "tape" "[B" ∈ gT := gT_in (tb_5 _ (List.mem_of_getElem? (i := 222) (by decide +kernel))) rfl
theorem wd_5_224 : Cond.fieldLink "WaxedPartnersModel" 101 "WaxedPartnersModel" "at" "I" ∈ gT := gT_in (tb_5 _ (List.mem_of_getElem? (i := 224) (by decide +kernel))) rfl
theorem wd_6_184 : Cond.methodLink "WaxedPartnersModel" 104 ⟨"WaxedPartnersModel", "isByte", "(III)Z"⟩ ∈ gT := gT_in (tb_6 _ (List.mem_of_getElem? (i := 184) (by decide +kernel))) rfl
theorem wd_6_186 : Cond.instanceMethod ⟨"WaxedPartnersModel", "isByte", "(III)Z"⟩ ∈ gT := gT_in (tb_6 _ (List.mem_of_getElem? (i := 186) (by decide +kernel))) rfl
theorem wp_4_2 : Cond.selects "WaxedPartnersModel" ⟨"WaxedPartnersModel", "isByte", "(III)Z"⟩ ⟨"WaxedPartnersModel", "isByte", "(III)Z"⟩ ∈ gT := gT_in (List.mem_append_left _ (List.mem_map.mpr ⟨(⟨"WaxedPartnersModel", "isByte", "(III)Z"⟩, _), pv_4 _ (List.mem_of_getElem? (i := 2) rfl), rfl⟩)) rfl
theorem wd_5_226 : Cond.fieldLink "WaxedPartnersModel" 108 "WaxedPartnersModel" "place" "I" ∈ gT := gT_in (tb_5 _ (List.mem_of_getElem? (i := 226) (by decide +kernel))) rfl
theorem wd_5_227 : Cond.fieldLink "WaxedPartnersModel" 111 "WaxedPartnersModel" "value" "I" ∈ gT := gT_in (tb_5 _ (List.mem_of_getElem? (i := 227) (by decide +kernel))) rfl
theorem wd_5_228 : Cond.fieldLink "WaxedPartnersModel" 114 "WaxedPartnersModel" "word" "J" ∈ gT := gT_in (tb_5 _ (List.mem_of_getElem? (i := 228) (by decide +kernel))) rfl
theorem wd_5_225 : Cond.fieldLink "WaxedPartnersModel" 118 "WaxedPartnersModel" "token" "I" ∈ gT := gT_in (tb_5 _ (List.mem_of_getElem? (i := 225) (by decide +kernel))) rfl
theorem wd_6_188 : Cond.constantLong "WaxedPartnersModel" 121 (-1 : Int64) ∈ gT := gT_in (tb_6 _ (List.mem_of_getElem? (i := 188) (by decide +kernel))) rfl
theorem wd_6_189 : Cond.constantLong "WaxedPartnersModel" 123 (27 : Int64) ∈ gT := gT_in (tb_6 _ (List.mem_of_getElem? (i := 189) (by decide +kernel))) rfl
theorem wd_6_190 : Cond.constantLong "WaxedPartnersModel" 125 (96 : Int64) ∈ gT := gT_in (tb_6 _ (List.mem_of_getElem? (i := 190) (by decide +kernel))) rfl
theorem wd_6_191 : Cond.constant "WaxedPartnersModel" 127 (100000 : Int32) ∈ gT := gT_in (tb_6 _ (List.mem_of_getElem? (i := 191) (by decide +kernel))) rfl
theorem wd_6_192 : Cond.constant "WaxedPartnersModel" 128 (1000000 : Int32) ∈ gT := gT_in (tb_6 _ (List.mem_of_getElem? (i := 192) (by decide +kernel))) rfl
theorem wd_5_229 : Cond.fieldLink "WaxedPartnersModel" 129 "WaxedPartnersModel" "bad" "I" ∈ gT := gT_in (tb_5 _ (List.mem_of_getElem? (i := 229) (by decide +kernel))) rfl
theorem wd_5_230 : Cond.fieldLink "WaxedPartnersModel" 132 "WaxedPartnersModel" "badPlace" "I" ∈ gT := gT_in (tb_5 _ (List.mem_of_getElem? (i := 230) (by decide +kernel))) rfl
theorem wd_6_206 : Cond.methodLink "WaxedPartnersModel" 135 ⟨"WaxedPartnersModel", "is", "(J)Z"⟩ ∈ gT := gT_in (tb_6 _ (List.mem_of_getElem? (i := 206) (by decide +kernel))) rfl
theorem wd_6_208 : Cond.instanceMethod ⟨"WaxedPartnersModel", "is", "(J)Z"⟩ ∈ gT := gT_in (tb_6 _ (List.mem_of_getElem? (i := 208) (by decide +kernel))) rfl
theorem wp_4_6 : Cond.selects "WaxedPartnersModel" ⟨"WaxedPartnersModel", "is", "(J)Z"⟩ ⟨"WaxedPartnersModel", "is", "(J)Z"⟩ ∈ gT := gT_in (List.mem_append_left _ (List.mem_map.mpr ⟨(⟨"WaxedPartnersModel", "is", "(J)Z"⟩, _), pv_4 _ (List.mem_of_getElem? (i := 6) rfl), rfl⟩)) rfl
theorem wd_6_180 : Cond.methodLink "WaxedPartnersModel" 139 ⟨"WaxedPartnersModel", "next", "()V"⟩ ∈ gT := gT_in (tb_6 _ (List.mem_of_getElem? (i := 180) (by decide +kernel))) rfl
theorem wd_6_182 : Cond.instanceMethod ⟨"WaxedPartnersModel", "next", "()V"⟩ ∈ gT := gT_in (tb_6 _ (List.mem_of_getElem? (i := 182) (by decide +kernel))) rfl
theorem wp_4_1 : Cond.selects "WaxedPartnersModel" ⟨"WaxedPartnersModel", "next", "()V"⟩ ⟨"WaxedPartnersModel", "next", "()V"⟩ ∈ gT := gT_in (List.mem_append_left _ (List.mem_map.mpr ⟨(⟨"WaxedPartnersModel", "next", "()V"⟩, _), pv_4 _ (List.mem_of_getElem? (i := 1) rfl), rfl⟩)) rfl
theorem wd_6_202 : Cond.methodLink "WaxedPartnersModel" 142 ⟨"WaxedPartnersModel", "takes", "(J)Z"⟩ ∈ gT := gT_in (tb_6 _ (List.mem_of_getElem? (i := 202) (by decide +kernel))) rfl
theorem wd_6_204 : Cond.instanceMethod ⟨"WaxedPartnersModel", "takes", "(J)Z"⟩ ∈ gT := gT_in (tb_6 _ (List.mem_of_getElem? (i := 204) (by decide +kernel))) rfl
theorem wp_4_5 : Cond.selects "WaxedPartnersModel" ⟨"WaxedPartnersModel", "takes", "(J)Z"⟩ ⟨"WaxedPartnersModel", "takes", "(J)Z"⟩ ∈ gT := gT_in (List.mem_append_left _ (List.mem_map.mpr ⟨(⟨"WaxedPartnersModel", "takes", "(J)Z"⟩, _), pv_4 _ (List.mem_of_getElem? (i := 5) rfl), rfl⟩)) rfl
theorem wd_6_210 : Cond.methodLink "WaxedPartnersModel" 145 ⟨"WaxedPartnersModel", "errs", "(I)V"⟩ ∈ gT := gT_in (tb_6 _ (List.mem_of_getElem? (i := 210) (by decide +kernel))) rfl
theorem wd_6_212 : Cond.instanceMethod ⟨"WaxedPartnersModel", "errs", "(I)V"⟩ ∈ gT := gT_in (tb_6 _ (List.mem_of_getElem? (i := 212) (by decide +kernel))) rfl
theorem wp_4_7 : Cond.selects "WaxedPartnersModel" ⟨"WaxedPartnersModel", "errs", "(I)V"⟩ ⟨"WaxedPartnersModel", "errs", "(I)V"⟩ ∈ gT := gT_in (List.mem_append_left _ (List.mem_map.mpr ⟨(⟨"WaxedPartnersModel", "errs", "(I)V"⟩, _), pv_4 _ (List.mem_of_getElem? (i := 7) rfl), rfl⟩)) rfl
theorem wd_6_198 : Cond.methodLink "WaxedPartnersModel" 148 ⟨"WaxedPartnersModel", "asks", "(J)V"⟩ ∈ gT := gT_in (tb_6 _ (List.mem_of_getElem? (i := 198) (by decide +kernel))) rfl
theorem wd_6_200 : Cond.instanceMethod ⟨"WaxedPartnersModel", "asks", "(J)V"⟩ ∈ gT := gT_in (tb_6 _ (List.mem_of_getElem? (i := 200) (by decide +kernel))) rfl
theorem wp_4_4 : Cond.selects "WaxedPartnersModel" ⟨"WaxedPartnersModel", "asks", "(J)V"⟩ ⟨"WaxedPartnersModel", "asks", "(J)V"⟩ ∈ gT := gT_in (List.mem_append_left _ (List.mem_map.mpr ⟨(⟨"WaxedPartnersModel", "asks", "(J)V"⟩, _), pv_4 _ (List.mem_of_getElem? (i := 4) rfl), rfl⟩)) rfl
theorem wd_6_219 : Cond.methodLink "WaxedPartnersModel" 152 ⟨"WaxedPartnersModel", "number", "(II)I"⟩ ∈ gT := gT_in (tb_6 _ (List.mem_of_getElem? (i := 219) (by decide +kernel))) rfl
theorem wd_6_221 : Cond.instanceMethod ⟨"WaxedPartnersModel", "number", "(II)I"⟩ ∈ gT := gT_in (tb_6 _ (List.mem_of_getElem? (i := 221) (by decide +kernel))) rfl
theorem wp_4_9 : Cond.selects "WaxedPartnersModel" ⟨"WaxedPartnersModel", "number", "(II)I"⟩ ⟨"WaxedPartnersModel", "number", "(II)I"⟩ ∈ gT := gT_in (List.mem_append_left _ (List.mem_map.mpr ⟨(⟨"WaxedPartnersModel", "number", "(II)I"⟩, _), pv_4 _ (List.mem_of_getElem? (i := 9) rfl), rfl⟩)) rfl
theorem wd_5_231 : Cond.fieldLink "WaxedPartnersModel" 156 "WaxedPartnersModel" "fault" "I" ∈ gT := gT_in (tb_5 _ (List.mem_of_getElem? (i := 231) (by decide +kernel))) rfl
theorem wd_5_232 : Cond.fieldLink "WaxedPartnersModel" 27 "WaxedPartnersModel" "faultPlace" "I" ∈ gT := gT_in (tb_5 _ (List.mem_of_getElem? (i := 232) (by decide +kernel))) rfl
theorem wd_5_234 : Cond.fieldLink "WaxedPartnersModel" 34 "WaxedPartnersModel" "has" "[I" ∈ gT := gT_in (tb_5 _ (List.mem_of_getElem? (i := 234) (by decide +kernel))) rfl
theorem wd_6_235 : Cond.methodLink "WaxedPartnersModel" 159 ⟨"WaxedPartnersModel", "hasRead", "(I)I"⟩ ∈ gT := gT_in (tb_6 _ (List.mem_of_getElem? (i := 235) (by decide +kernel))) rfl
theorem wd_6_237 : Cond.instanceMethod ⟨"WaxedPartnersModel", "hasRead", "(I)I"⟩ ∈ gT := gT_in (tb_6 _ (List.mem_of_getElem? (i := 237) (by decide +kernel))) rfl
theorem wp_4_12 : Cond.selects "WaxedPartnersModel" ⟨"WaxedPartnersModel", "hasRead", "(I)I"⟩ ⟨"WaxedPartnersModel", "hasRead", "(I)I"⟩ ∈ gT := gT_in (List.mem_append_left _ (List.mem_map.mpr ⟨(⟨"WaxedPartnersModel", "hasRead", "(I)I"⟩, _), pv_4 _ (List.mem_of_getElem? (i := 12) rfl), rfl⟩)) rfl
theorem wd_5_235 : Cond.fieldLink "WaxedPartnersModel" 37 "WaxedPartnersModel" "partner" "[I" ∈ gT := gT_in (tb_5 _ (List.mem_of_getElem? (i := 235) (by decide +kernel))) rfl
theorem wd_7_3 : Cond.constantLong "WaxedPartnersModel" 163 (459383 : Int64) ∈ gT := gT_in (tb_7 _ (List.mem_of_getElem? (i := 3) (by decide +kernel))) rfl
theorem wd_6_215 : Cond.methodLink "WaxedPartnersModel" 165 ⟨"WaxedPartnersModel", "number", "(JII)I"⟩ ∈ gT := gT_in (tb_6 _ (List.mem_of_getElem? (i := 215) (by decide +kernel))) rfl
theorem wd_6_217 : Cond.instanceMethod ⟨"WaxedPartnersModel", "number", "(JII)I"⟩ ∈ gT := gT_in (tb_6 _ (List.mem_of_getElem? (i := 217) (by decide +kernel))) rfl
theorem wp_4_8 : Cond.selects "WaxedPartnersModel" ⟨"WaxedPartnersModel", "number", "(JII)I"⟩ ⟨"WaxedPartnersModel", "number", "(JII)I"⟩ ∈ gT := gT_in (List.mem_append_left _ (List.mem_map.mpr ⟨(⟨"WaxedPartnersModel", "number", "(JII)I"⟩, _), pv_4 _ (List.mem_of_getElem? (i := 8) rfl), rfl⟩)) rfl
theorem wd_7_4 : Cond.constantLong "WaxedPartnersModel" 168 (12532058 : Int64) ∈ gT := gT_in (tb_7 _ (List.mem_of_getElem? (i := 4) (by decide +kernel))) rfl
theorem wd_7_5 : Cond.constantLong "WaxedPartnersModel" 170 (3746728 : Int64) ∈ gT := gT_in (tb_7 _ (List.mem_of_getElem? (i := 5) (by decide +kernel))) rfl
theorem wd_6_172 : Cond.methodLink "WaxedPartnersModel" 172 ⟨"WaxedPartnersModel", "tells", "(II)V"⟩ ∈ gT := gT_in (tb_6 _ (List.mem_of_getElem? (i := 172) (by decide +kernel))) rfl
theorem wd_6_174 : Cond.instanceMethod ⟨"WaxedPartnersModel", "tells", "(II)V"⟩ ∈ gT := gT_in (tb_6 _ (List.mem_of_getElem? (i := 174) (by decide +kernel))) rfl
theorem wp_3_15 : Cond.selects "WaxedPartnersModel" ⟨"WaxedPartnersModel", "tells", "(II)V"⟩ ⟨"WaxedPartnersModel", "tells", "(II)V"⟩ ∈ gT := gT_in (List.mem_append_left _ (List.mem_map.mpr ⟨(⟨"WaxedPartnersModel", "tells", "(II)V"⟩, _), pv_3 _ (List.mem_of_getElem? (i := 15) rfl), rfl⟩)) rfl
theorem wd_5_236 : Cond.fieldLink "WaxedPartnersModel" 40 "WaxedPartnersModel" "join" "[I" ∈ gT := gT_in (tb_5 _ (List.mem_of_getElem? (i := 236) (by decide +kernel))) rfl
theorem wd_7_11 : Cond.methodLink "WaxedPartnersModel" 176 ⟨"WaxedPartnersModel", "personHere", "()I"⟩ ∈ gT := gT_in (tb_7 _ (List.mem_of_getElem? (i := 11) (by decide +kernel))) rfl
theorem wd_7_13 : Cond.instanceMethod ⟨"WaxedPartnersModel", "personHere", "()I"⟩ ∈ gT := gT_in (tb_7 _ (List.mem_of_getElem? (i := 13) (by decide +kernel))) rfl
theorem wp_4_15 : Cond.selects "WaxedPartnersModel" ⟨"WaxedPartnersModel", "personHere", "()I"⟩ ⟨"WaxedPartnersModel", "personHere", "()I"⟩ ∈ gT := gT_in (List.mem_append_left _ (List.mem_map.mpr ⟨(⟨"WaxedPartnersModel", "personHere", "()I"⟩, _), pv_4 _ (List.mem_of_getElem? (i := 15) rfl), rfl⟩)) rfl
theorem wd_7_15 : Cond.constantLong "WaxedPartnersModel" 180 (16818 : Int64) ∈ gT := gT_in (tb_7 _ (List.mem_of_getElem? (i := 15) (by decide +kernel))) rfl
theorem wd_5_237 : Cond.fieldLink "WaxedPartnersModel" 43 "WaxedPartnersModel" "door" "[I" ∈ gT := gT_in (tb_5 _ (List.mem_of_getElem? (i := 237) (by decide +kernel))) rfl
theorem wd_5_238 : Cond.fieldLink "WaxedPartnersModel" 46 "WaxedPartnersModel" "cold" "[I" ∈ gT := gT_in (tb_5 _ (List.mem_of_getElem? (i := 238) (by decide +kernel))) rfl
theorem wd_7_26 : Cond.constantLong "WaxedPartnersModel" 182 (47 : Int64) ∈ gT := gT_in (tb_7 _ (List.mem_of_getElem? (i := 26) (by decide +kernel))) rfl
theorem wd_6_230 : Cond.constantLong "WaxedPartnersModel" 184 (6223046688 : Int64) ∈ gT := gT_in (tb_6 _ (List.mem_of_getElem? (i := 230) (by decide +kernel))) rfl
theorem wd_6_231 : Cond.methodLink "WaxedPartnersModel" 186 ⟨"WaxedPartnersModel", "isRoom", "(ZII)Z"⟩ ∈ gT := gT_in (tb_6 _ (List.mem_of_getElem? (i := 231) (by decide +kernel))) rfl
theorem wd_6_233 : Cond.instanceMethod ⟨"WaxedPartnersModel", "isRoom", "(ZII)Z"⟩ ∈ gT := gT_in (tb_6 _ (List.mem_of_getElem? (i := 233) (by decide +kernel))) rfl
theorem wp_4_11 : Cond.selects "WaxedPartnersModel" ⟨"WaxedPartnersModel", "isRoom", "(ZII)Z"⟩ ⟨"WaxedPartnersModel", "isRoom", "(ZII)Z"⟩ ∈ gT := gT_in (List.mem_append_left _ (List.mem_map.mpr ⟨(⟨"WaxedPartnersModel", "isRoom", "(ZII)Z"⟩, _), pv_4 _ (List.mem_of_getElem? (i := 11) rfl), rfl⟩)) rfl
theorem wd_6_239 : Cond.methodLink "WaxedPartnersModel" 190 ⟨"WaxedPartnersModel", "partnerLine", "()V"⟩ ∈ gT := gT_in (tb_6 _ (List.mem_of_getElem? (i := 239) (by decide +kernel))) rfl
theorem wd_7_1 : Cond.instanceMethod ⟨"WaxedPartnersModel", "partnerLine", "()V"⟩ ∈ gT := gT_in (tb_7 _ (List.mem_of_getElem? (i := 1) (by decide +kernel))) rfl
theorem wp_4_13 : Cond.selects "WaxedPartnersModel" ⟨"WaxedPartnersModel", "partnerLine", "()V"⟩ ⟨"WaxedPartnersModel", "partnerLine", "()V"⟩ ∈ gT := gT_in (List.mem_append_left _ (List.mem_map.mpr ⟨(⟨"WaxedPartnersModel", "partnerLine", "()V"⟩, _), pv_4 _ (List.mem_of_getElem? (i := 13) rfl), rfl⟩)) rfl
theorem wd_7_6 : Cond.constantLong "WaxedPartnersModel" 193 (208022 : Int64) ∈ gT := gT_in (tb_7 _ (List.mem_of_getElem? (i := 6) (by decide +kernel))) rfl
theorem wd_7_7 : Cond.methodLink "WaxedPartnersModel" 195 ⟨"WaxedPartnersModel", "joinLine", "()V"⟩ ∈ gT := gT_in (tb_7 _ (List.mem_of_getElem? (i := 7) (by decide +kernel))) rfl
theorem wd_7_9 : Cond.instanceMethod ⟨"WaxedPartnersModel", "joinLine", "()V"⟩ ∈ gT := gT_in (tb_7 _ (List.mem_of_getElem? (i := 9) (by decide +kernel))) rfl
theorem wp_4_14 : Cond.selects "WaxedPartnersModel" ⟨"WaxedPartnersModel", "joinLine", "()V"⟩ ⟨"WaxedPartnersModel", "joinLine", "()V"⟩ ∈ gT := gT_in (List.mem_append_left _ (List.mem_map.mpr ⟨(⟨"WaxedPartnersModel", "joinLine", "()V"⟩, _), pv_4 _ (List.mem_of_getElem? (i := 14) rfl), rfl⟩)) rfl
theorem wd_7_16 : Cond.constantLong "WaxedPartnersModel" 198 (90090 : Int64) ∈ gT := gT_in (tb_7 _ (List.mem_of_getElem? (i := 16) (by decide +kernel))) rfl
theorem wd_7_17 : Cond.methodLink "WaxedPartnersModel" 200 ⟨"WaxedPartnersModel", "doorLine", "()V"⟩ ∈ gT := gT_in (tb_7 _ (List.mem_of_getElem? (i := 17) (by decide +kernel))) rfl
theorem wd_7_19 : Cond.instanceMethod ⟨"WaxedPartnersModel", "doorLine", "()V"⟩ ∈ gT := gT_in (tb_7 _ (List.mem_of_getElem? (i := 19) (by decide +kernel))) rfl
theorem wp_5_0 : Cond.selects "WaxedPartnersModel" ⟨"WaxedPartnersModel", "doorLine", "()V"⟩ ⟨"WaxedPartnersModel", "doorLine", "()V"⟩ ∈ gT := gT_in (List.mem_append_left _ (List.mem_map.mpr ⟨(⟨"WaxedPartnersModel", "doorLine", "()V"⟩, _), pv_5 _ (List.mem_of_getElem? (i := 0) rfl), rfl⟩)) rfl
theorem wd_7_21 : Cond.constantLong "WaxedPartnersModel" 203 (70312 : Int64) ∈ gT := gT_in (tb_7 _ (List.mem_of_getElem? (i := 21) (by decide +kernel))) rfl
theorem wd_7_22 : Cond.methodLink "WaxedPartnersModel" 205 ⟨"WaxedPartnersModel", "coldLine", "()V"⟩ ∈ gT := gT_in (tb_7 _ (List.mem_of_getElem? (i := 22) (by decide +kernel))) rfl
theorem wd_7_24 : Cond.instanceMethod ⟨"WaxedPartnersModel", "coldLine", "()V"⟩ ∈ gT := gT_in (tb_7 _ (List.mem_of_getElem? (i := 24) (by decide +kernel))) rfl
theorem wp_5_1 : Cond.selects "WaxedPartnersModel" ⟨"WaxedPartnersModel", "coldLine", "()V"⟩ ⟨"WaxedPartnersModel", "coldLine", "()V"⟩ ∈ gT := gT_in (List.mem_append_left _ (List.mem_map.mpr ⟨(⟨"WaxedPartnersModel", "coldLine", "()V"⟩, _), pv_5 _ (List.mem_of_getElem? (i := 1) rfl), rfl⟩)) rfl
theorem wd_5_233 : Cond.fieldLink "WaxedPartnersModel" 31 "WaxedPartnersModel" "lines" "[I" ∈ gT := gT_in (tb_5 _ (List.mem_of_getElem? (i := 233) (by decide +kernel))) rfl
theorem wd_6_168 : Cond.methodLink "WaxedPartnersModel" 208 ⟨"WaxedPartnersModel", "clears", "()V"⟩ ∈ gT := gT_in (tb_6 _ (List.mem_of_getElem? (i := 168) (by decide +kernel))) rfl
theorem wd_6_170 : Cond.instanceMethod ⟨"WaxedPartnersModel", "clears", "()V"⟩ ∈ gT := gT_in (tb_6 _ (List.mem_of_getElem? (i := 170) (by decide +kernel))) rfl
theorem wp_3_14 : Cond.selects "WaxedPartnersModel" ⟨"WaxedPartnersModel", "clears", "()V"⟩ ⟨"WaxedPartnersModel", "clears", "()V"⟩ ∈ gT := gT_in (List.mem_append_left _ (List.mem_map.mpr ⟨(⟨"WaxedPartnersModel", "clears", "()V"⟩, _), pv_3 _ (List.mem_of_getElem? (i := 14) rfl), rfl⟩)) rfl
theorem wd_6_176 : Cond.methodLink "WaxedPartnersModel" 211 ⟨"WaxedPartnersModel", "begins", "()V"⟩ ∈ gT := gT_in (tb_6 _ (List.mem_of_getElem? (i := 176) (by decide +kernel))) rfl
theorem wd_6_178 : Cond.instanceMethod ⟨"WaxedPartnersModel", "begins", "()V"⟩ ∈ gT := gT_in (tb_6 _ (List.mem_of_getElem? (i := 178) (by decide +kernel))) rfl
theorem wp_4_0 : Cond.selects "WaxedPartnersModel" ⟨"WaxedPartnersModel", "begins", "()V"⟩ ⟨"WaxedPartnersModel", "begins", "()V"⟩ ∈ gT := gT_in (List.mem_append_left _ (List.mem_map.mpr ⟨(⟨"WaxedPartnersModel", "begins", "()V"⟩, _), pv_4 _ (List.mem_of_getElem? (i := 0) rfl), rfl⟩)) rfl
theorem wd_6_193 : Cond.methodLink "WaxedPartnersModel" 214 ⟨"WaxedPartnersModel", "isGood", "()Z"⟩ ∈ gT := gT_in (tb_6 _ (List.mem_of_getElem? (i := 193) (by decide +kernel))) rfl
theorem wd_6_195 : Cond.instanceMethod ⟨"WaxedPartnersModel", "isGood", "()Z"⟩ ∈ gT := gT_in (tb_6 _ (List.mem_of_getElem? (i := 195) (by decide +kernel))) rfl
theorem wp_4_3 : Cond.selects "WaxedPartnersModel" ⟨"WaxedPartnersModel", "isGood", "()Z"⟩ ⟨"WaxedPartnersModel", "isGood", "()Z"⟩ ∈ gT := gT_in (List.mem_append_left _ (List.mem_map.mpr ⟨(⟨"WaxedPartnersModel", "isGood", "()Z"⟩, _), pv_4 _ (List.mem_of_getElem? (i := 3) rfl), rfl⟩)) rfl
theorem wd_6_197 : Cond.constantLong "WaxedPartnersModel" 218 (66175 : Int64) ∈ gT := gT_in (tb_6 _ (List.mem_of_getElem? (i := 197) (by decide +kernel))) rfl
theorem wd_6_214 : Cond.constantLong "WaxedPartnersModel" 220 (13385674 : Int64) ∈ gT := gT_in (tb_6 _ (List.mem_of_getElem? (i := 214) (by decide +kernel))) rfl
theorem wd_6_223 : Cond.constantLong "WaxedPartnersModel" 222 (8798 : Int64) ∈ gT := gT_in (tb_6 _ (List.mem_of_getElem? (i := 223) (by decide +kernel))) rfl
theorem wd_6_224 : Cond.constantLong "WaxedPartnersModel" 224 (10349251 : Int64) ∈ gT := gT_in (tb_6 _ (List.mem_of_getElem? (i := 224) (by decide +kernel))) rfl
theorem wd_6_225 : Cond.constantLong "WaxedPartnersModel" 226 (298288 : Int64) ∈ gT := gT_in (tb_6 _ (List.mem_of_getElem? (i := 225) (by decide +kernel))) rfl
theorem wd_6_226 : Cond.methodLink "WaxedPartnersModel" 228 ⟨"WaxedPartnersModel", "lineHere", "()V"⟩ ∈ gT := gT_in (tb_6 _ (List.mem_of_getElem? (i := 226) (by decide +kernel))) rfl
theorem wd_6_228 : Cond.instanceMethod ⟨"WaxedPartnersModel", "lineHere", "()V"⟩ ∈ gT := gT_in (tb_6 _ (List.mem_of_getElem? (i := 228) (by decide +kernel))) rfl
theorem wp_4_10 : Cond.selects "WaxedPartnersModel" ⟨"WaxedPartnersModel", "lineHere", "()V"⟩ ⟨"WaxedPartnersModel", "lineHere", "()V"⟩ ∈ gT := gT_in (List.mem_append_left _ (List.mem_map.mpr ⟨(⟨"WaxedPartnersModel", "lineHere", "()V"⟩, _), pv_4 _ (List.mem_of_getElem? (i := 10) rfl), rfl⟩)) rfl
theorem wd_7_27 : Cond.methodLink "WaxedPartnersModel" 231 ⟨"WaxedPartnersModel", "ends", "()V"⟩ ∈ gT := gT_in (tb_7 _ (List.mem_of_getElem? (i := 27) (by decide +kernel))) rfl
theorem wd_7_29 : Cond.instanceMethod ⟨"WaxedPartnersModel", "ends", "()V"⟩ ∈ gT := gT_in (tb_7 _ (List.mem_of_getElem? (i := 29) (by decide +kernel))) rfl
theorem wp_5_2 : Cond.selects "WaxedPartnersModel" ⟨"WaxedPartnersModel", "ends", "()V"⟩ ⟨"WaxedPartnersModel", "ends", "()V"⟩ ∈ gT := gT_in (List.mem_append_left _ (List.mem_map.mpr ⟨(⟨"WaxedPartnersModel", "ends", "()V"⟩, _), pv_5 _ (List.mem_of_getElem? (i := 2) rfl), rfl⟩)) rfl
theorem wd_7_31 : Cond.methodLink "WaxedPartnersModel" 234 ⟨"WaxedPartnersModel", "isOver", "()V"⟩ ∈ gT := gT_in (tb_7 _ (List.mem_of_getElem? (i := 31) (by decide +kernel))) rfl
theorem wd_7_33 : Cond.instanceMethod ⟨"WaxedPartnersModel", "isOver", "()V"⟩ ∈ gT := gT_in (tb_7 _ (List.mem_of_getElem? (i := 33) (by decide +kernel))) rfl
theorem wp_5_3 : Cond.selects "WaxedPartnersModel" ⟨"WaxedPartnersModel", "isOver", "()V"⟩ ⟨"WaxedPartnersModel", "isOver", "()V"⟩ ∈ gT := gT_in (List.mem_append_left _ (List.mem_map.mpr ⟨(⟨"WaxedPartnersModel", "isOver", "()V"⟩, _), pv_5 _ (List.mem_of_getElem? (i := 3) rfl), rfl⟩)) rfl
theorem wd_7_35 : Cond.methodLink "WaxedPartnersModel" 237 ⟨"WaxedPartnersModel", "copyCity", "(II)V"⟩ ∈ gT := gT_in (tb_7 _ (List.mem_of_getElem? (i := 35) (by decide +kernel))) rfl
theorem wd_7_37 : Cond.instanceMethod ⟨"WaxedPartnersModel", "copyCity", "(II)V"⟩ ∈ gT := gT_in (tb_7 _ (List.mem_of_getElem? (i := 37) (by decide +kernel))) rfl
theorem wp_5_4 : Cond.selects "WaxedPartnersModel" ⟨"WaxedPartnersModel", "copyCity", "(II)V"⟩ ⟨"WaxedPartnersModel", "copyCity", "(II)V"⟩ ∈ gT := gT_in (List.mem_append_left _ (List.mem_map.mpr ⟨(⟨"WaxedPartnersModel", "copyCity", "(II)V"⟩, _), pv_5 _ (List.mem_of_getElem? (i := 4) rfl), rfl⟩)) rfl
theorem wd_7_39 : Cond.methodLink "WaxedPartnersModel" 240 ⟨"WaxedPartnersModel", "copyRow", "([IIII)V"⟩ ∈ gT := gT_in (tb_7 _ (List.mem_of_getElem? (i := 39) (by decide +kernel))) rfl
theorem wd_7_40 : Cond.static ⟨"WaxedPartnersModel", "copyRow", "([IIII)V"⟩ ∈ gT := gT_in (tb_7 _ (List.mem_of_getElem? (i := 40) (by decide +kernel))) rfl
theorem wd_5_239 : Cond.fieldLink "WaxedPartnersModel" 49 "WaxedPartnersModel" "act" "[I" ∈ gT := gT_in (tb_5 _ (List.mem_of_getElem? (i := 239) (by decide +kernel))) rfl
theorem wd_7_50 : Cond.methodLink "WaxedPartnersModel" 244 ⟨"WaxedPartnersModel", "people", "()I"⟩ ∈ gT := gT_in (tb_7 _ (List.mem_of_getElem? (i := 50) (by decide +kernel))) rfl
theorem wd_7_52 : Cond.instanceMethod ⟨"WaxedPartnersModel", "people", "()I"⟩ ∈ gT := gT_in (tb_7 _ (List.mem_of_getElem? (i := 52) (by decide +kernel))) rfl
theorem wp_5_6 : Cond.selects "WaxedPartnersModel" ⟨"WaxedPartnersModel", "people", "()I"⟩ ⟨"WaxedPartnersModel", "people", "()I"⟩ ∈ gT := gT_in (List.mem_append_left _ (List.mem_map.mpr ⟨(⟨"WaxedPartnersModel", "people", "()I"⟩, _), pv_5 _ (List.mem_of_getElem? (i := 6) rfl), rfl⟩)) rfl
theorem wd_7_46 : Cond.methodLink "WaxedPartnersModel" 247 ⟨"WaxedPartnersModel", "isPerson", "(J)Z"⟩ ∈ gT := gT_in (tb_7 _ (List.mem_of_getElem? (i := 46) (by decide +kernel))) rfl
theorem wd_7_48 : Cond.instanceMethod ⟨"WaxedPartnersModel", "isPerson", "(J)Z"⟩ ∈ gT := gT_in (tb_7 _ (List.mem_of_getElem? (i := 48) (by decide +kernel))) rfl
theorem wp_5_5 : Cond.selects "WaxedPartnersModel" ⟨"WaxedPartnersModel", "isPerson", "(J)Z"⟩ ⟨"WaxedPartnersModel", "isPerson", "(J)Z"⟩ ∈ gT := gT_in (List.mem_append_left _ (List.mem_map.mpr ⟨(⟨"WaxedPartnersModel", "isPerson", "(J)Z"⟩, _), pv_5 _ (List.mem_of_getElem? (i := 5) rfl), rfl⟩)) rfl
theorem wd_7_63 : Cond.methodLink "WaxedPartnersModel" 250 ⟨"WaxedPartnersModel", "joins", "()I"⟩ ∈ gT := gT_in (tb_7 _ (List.mem_of_getElem? (i := 63) (by decide +kernel))) rfl
theorem wd_7_65 : Cond.instanceMethod ⟨"WaxedPartnersModel", "joins", "()I"⟩ ∈ gT := gT_in (tb_7 _ (List.mem_of_getElem? (i := 65) (by decide +kernel))) rfl
theorem wp_5_8 : Cond.selects "WaxedPartnersModel" ⟨"WaxedPartnersModel", "joins", "()I"⟩ ⟨"WaxedPartnersModel", "joins", "()I"⟩ ∈ gT := gT_in (List.mem_append_left _ (List.mem_map.mpr ⟨(⟨"WaxedPartnersModel", "joins", "()I"⟩, _), pv_5 _ (List.mem_of_getElem? (i := 8) rfl), rfl⟩)) rfl
theorem wd_7_83 : Cond.methodLink "WaxedPartnersModel" 253 ⟨"WaxedPartnersModel", "years", "()I"⟩ ∈ gT := gT_in (tb_7 _ (List.mem_of_getElem? (i := 83) (by decide +kernel))) rfl
theorem wd_7_85 : Cond.instanceMethod ⟨"WaxedPartnersModel", "years", "()I"⟩ ∈ gT := gT_in (tb_7 _ (List.mem_of_getElem? (i := 85) (by decide +kernel))) rfl
theorem wp_5_11 : Cond.selects "WaxedPartnersModel" ⟨"WaxedPartnersModel", "years", "()I"⟩ ⟨"WaxedPartnersModel", "years", "()I"⟩ ∈ gT := gT_in (List.mem_append_left _ (List.mem_map.mpr ⟨(⟨"WaxedPartnersModel", "years", "()I"⟩, _), pv_5 _ (List.mem_of_getElem? (i := 11) rfl), rfl⟩)) rfl
theorem wd_7_79 : Cond.methodLink "WaxedPartnersModel" 256 ⟨"WaxedPartnersModel", "isYear", "(I)Z"⟩ ∈ gT := gT_in (tb_7 _ (List.mem_of_getElem? (i := 79) (by decide +kernel))) rfl
theorem wd_7_81 : Cond.instanceMethod ⟨"WaxedPartnersModel", "isYear", "(I)Z"⟩ ∈ gT := gT_in (tb_7 _ (List.mem_of_getElem? (i := 81) (by decide +kernel))) rfl
theorem wp_5_10 : Cond.selects "WaxedPartnersModel" ⟨"WaxedPartnersModel", "isYear", "(I)Z"⟩ ⟨"WaxedPartnersModel", "isYear", "(I)Z"⟩ ∈ gT := gT_in (List.mem_append_left _ (List.mem_map.mpr ⟨(⟨"WaxedPartnersModel", "isYear", "(I)Z"⟩, _), pv_5 _ (List.mem_of_getElem? (i := 10) rfl), rfl⟩)) rfl
theorem wd_6_1 : Cond.fieldLink "WaxedPartnersModel" 259 "WaxedPartnersModel" "law" "I" ∈ gT := gT_in (tb_6 _ (List.mem_of_getElem? (i := 1) (by decide +kernel))) rfl
theorem wd_6_2 : Cond.fieldLink "WaxedPartnersModel" 262 "WaxedPartnersModel" "falseJoins" "I" ∈ gT := gT_in (tb_6 _ (List.mem_of_getElem? (i := 2) (by decide +kernel))) rfl
theorem wd_6_3 : Cond.fieldLink "WaxedPartnersModel" 265 "WaxedPartnersModel" "shaves" "I" ∈ gT := gT_in (tb_6 _ (List.mem_of_getElem? (i := 3) (by decide +kernel))) rfl
theorem wd_6_4 : Cond.fieldLink "WaxedPartnersModel" 268 "WaxedPartnersModel" "keptIn" "I" ∈ gT := gT_in (tb_6 _ (List.mem_of_getElem? (i := 4) (by decide +kernel))) rfl
theorem wd_6_7 : Cond.fieldLink "WaxedPartnersModel" 271 "WaxedPartnersModel" "besideYear" "I" ∈ gT := gT_in (tb_6 _ (List.mem_of_getElem? (i := 7) (by decide +kernel))) rfl
theorem wd_6_8 : Cond.fieldLink "WaxedPartnersModel" 274 "WaxedPartnersModel" "coldBeside" "I" ∈ gT := gT_in (tb_6 _ (List.mem_of_getElem? (i := 8) (by decide +kernel))) rfl
theorem wd_6_9 : Cond.fieldLink "WaxedPartnersModel" 277 "WaxedPartnersModel" "areActs" "Z" ∈ gT := gT_in (tb_6 _ (List.mem_of_getElem? (i := 9) (by decide +kernel))) rfl
theorem wd_7_115 : Cond.methodLink "WaxedPartnersModel" 281 ⟨"WaxedPartnersModel", "isBit", "(II)Z"⟩ ∈ gT := gT_in (tb_7 _ (List.mem_of_getElem? (i := 115) (by decide +kernel))) rfl
theorem wd_7_116 : Cond.static ⟨"WaxedPartnersModel", "isBit", "(II)Z"⟩ ∈ gT := gT_in (tb_7 _ (List.mem_of_getElem? (i := 116) (by decide +kernel))) rfl
theorem wd_7_122 : Cond.methodLink "WaxedPartnersModel" 285 ⟨"WaxedPartnersModel", "isPair", "(III)Z"⟩ ∈ gT := gT_in (tb_7 _ (List.mem_of_getElem? (i := 122) (by decide +kernel))) rfl
theorem wd_7_124 : Cond.instanceMethod ⟨"WaxedPartnersModel", "isPair", "(III)Z"⟩ ∈ gT := gT_in (tb_7 _ (List.mem_of_getElem? (i := 124) (by decide +kernel))) rfl
theorem wp_6_4 : Cond.selects "WaxedPartnersModel" ⟨"WaxedPartnersModel", "isPair", "(III)Z"⟩ ⟨"WaxedPartnersModel", "isPair", "(III)Z"⟩ ∈ gT := gT_in (List.mem_append_left _ (List.mem_map.mpr ⟨(⟨"WaxedPartnersModel", "isPair", "(III)Z"⟩, _), pv_6 _ (List.mem_of_getElem? (i := 4) rfl), rfl⟩)) rfl
theorem wd_7_118 : Cond.methodLink "WaxedPartnersModel" 288 ⟨"WaxedPartnersModel", "isHolding", "(IIIIII)Z"⟩ ∈ gT := gT_in (tb_7 _ (List.mem_of_getElem? (i := 118) (by decide +kernel))) rfl
theorem wd_7_120 : Cond.instanceMethod ⟨"WaxedPartnersModel", "isHolding", "(IIIIII)Z"⟩ ∈ gT := gT_in (tb_7 _ (List.mem_of_getElem? (i := 120) (by decide +kernel))) rfl
theorem wp_6_3 : Cond.selects "WaxedPartnersModel" ⟨"WaxedPartnersModel", "isHolding", "(IIIIII)Z"⟩ ⟨"WaxedPartnersModel", "isHolding", "(IIIIII)Z"⟩ ∈ gT := gT_in (List.mem_append_left _ (List.mem_map.mpr ⟨(⟨"WaxedPartnersModel", "isHolding", "(IIIIII)Z"⟩, _), pv_6 _ (List.mem_of_getElem? (i := 3) rfl), rfl⟩)) rfl
theorem wd_7_130 : Cond.methodLink "WaxedPartnersModel" 292 ⟨"WaxedPartnersModel", "isOut", "(II)Z"⟩ ∈ gT := gT_in (tb_7 _ (List.mem_of_getElem? (i := 130) (by decide +kernel))) rfl
theorem wd_7_132 : Cond.instanceMethod ⟨"WaxedPartnersModel", "isOut", "(II)Z"⟩ ∈ gT := gT_in (tb_7 _ (List.mem_of_getElem? (i := 132) (by decide +kernel))) rfl
theorem wp_6_6 : Cond.selects "WaxedPartnersModel" ⟨"WaxedPartnersModel", "isOut", "(II)Z"⟩ ⟨"WaxedPartnersModel", "isOut", "(II)Z"⟩ ∈ gT := gT_in (List.mem_append_left _ (List.mem_map.mpr ⟨(⟨"WaxedPartnersModel", "isOut", "(II)Z"⟩, _), pv_6 _ (List.mem_of_getElem? (i := 6) rfl), rfl⟩)) rfl
theorem wd_6_10 : Cond.fieldLink "WaxedPartnersModel" 56 "WaxedPartnersModel" "ties" "[I" ∈ gT := gT_in (tb_6 _ (List.mem_of_getElem? (i := 10) (by decide +kernel))) rfl
theorem wd_6_11 : Cond.fieldLink "WaxedPartnersModel" 59 "WaxedPartnersModel" "outAt" "[I" ∈ gT := gT_in (tb_6 _ (List.mem_of_getElem? (i := 11) (by decide +kernel))) rfl
theorem wd_7_111 : Cond.methodLink "WaxedPartnersModel" 295 ⟨"WaxedPartnersModel", "isTold", "(II)Z"⟩ ∈ gT := gT_in (tb_7 _ (List.mem_of_getElem? (i := 111) (by decide +kernel))) rfl
theorem wd_7_113 : Cond.instanceMethod ⟨"WaxedPartnersModel", "isTold", "(II)Z"⟩ ∈ gT := gT_in (tb_7 _ (List.mem_of_getElem? (i := 113) (by decide +kernel))) rfl
theorem wp_6_2 : Cond.selects "WaxedPartnersModel" ⟨"WaxedPartnersModel", "isTold", "(II)Z"⟩ ⟨"WaxedPartnersModel", "isTold", "(II)Z"⟩ ∈ gT := gT_in (List.mem_append_left _ (List.mem_map.mpr ⟨(⟨"WaxedPartnersModel", "isTold", "(II)Z"⟩, _), pv_6 _ (List.mem_of_getElem? (i := 2) rfl), rfl⟩)) rfl
theorem wd_7_126 : Cond.methodLink "WaxedPartnersModel" 298 ⟨"WaxedPartnersModel", "tiesTwo", "(III)V"⟩ ∈ gT := gT_in (tb_7 _ (List.mem_of_getElem? (i := 126) (by decide +kernel))) rfl
theorem wd_7_128 : Cond.instanceMethod ⟨"WaxedPartnersModel", "tiesTwo", "(III)V"⟩ ∈ gT := gT_in (tb_7 _ (List.mem_of_getElem? (i := 128) (by decide +kernel))) rfl
theorem wp_6_5 : Cond.selects "WaxedPartnersModel" ⟨"WaxedPartnersModel", "tiesTwo", "(III)V"⟩ ⟨"WaxedPartnersModel", "tiesTwo", "(III)V"⟩ ∈ gT := gT_in (List.mem_append_left _ (List.mem_map.mpr ⟨(⟨"WaxedPartnersModel", "tiesTwo", "(III)V"⟩, _), pv_6 _ (List.mem_of_getElem? (i := 5) rfl), rfl⟩)) rfl
theorem wd_6_5 : Cond.fieldLink "WaxedPartnersModel" 302 "WaxedPartnersModel" "besideOne" "I" ∈ gT := gT_in (tb_6 _ (List.mem_of_getElem? (i := 5) (by decide +kernel))) rfl
theorem wd_6_6 : Cond.fieldLink "WaxedPartnersModel" 305 "WaxedPartnersModel" "besideOther" "I" ∈ gT := gT_in (tb_6 _ (List.mem_of_getElem? (i := 6) (by decide +kernel))) rfl
theorem wd_6_13 : Cond.fieldLink "WaxedPartnersModel" 65 "WaxedPartnersModel" "worthAt" "[I" ∈ gT := gT_in (tb_6 _ (List.mem_of_getElem? (i := 13) (by decide +kernel))) rfl
theorem wd_6_12 : Cond.fieldLink "WaxedPartnersModel" 62 "WaxedPartnersModel" "coldAt" "[I" ∈ gT := gT_in (tb_6 _ (List.mem_of_getElem? (i := 12) (by decide +kernel))) rfl
theorem wd_7_107 : Cond.methodLink "WaxedPartnersModel" 308 ⟨"WaxedPartnersModel", "laysTies", "(I)V"⟩ ∈ gT := gT_in (tb_7 _ (List.mem_of_getElem? (i := 107) (by decide +kernel))) rfl
theorem wd_7_109 : Cond.instanceMethod ⟨"WaxedPartnersModel", "laysTies", "(I)V"⟩ ∈ gT := gT_in (tb_7 _ (List.mem_of_getElem? (i := 109) (by decide +kernel))) rfl
theorem wp_6_1 : Cond.selects "WaxedPartnersModel" ⟨"WaxedPartnersModel", "laysTies", "(I)V"⟩ ⟨"WaxedPartnersModel", "laysTies", "(I)V"⟩ ∈ gT := gT_in (List.mem_append_left _ (List.mem_map.mpr ⟨(⟨"WaxedPartnersModel", "laysTies", "(I)V"⟩, _), pv_6 _ (List.mem_of_getElem? (i := 1) rfl), rfl⟩)) rfl
theorem wd_7_134 : Cond.methodLink "WaxedPartnersModel" 311 ⟨"WaxedPartnersModel", "firmOf", "(II)I"⟩ ∈ gT := gT_in (tb_7 _ (List.mem_of_getElem? (i := 134) (by decide +kernel))) rfl
theorem wd_7_136 : Cond.instanceMethod ⟨"WaxedPartnersModel", "firmOf", "(II)I"⟩ ∈ gT := gT_in (tb_7 _ (List.mem_of_getElem? (i := 136) (by decide +kernel))) rfl
theorem wp_6_7 : Cond.selects "WaxedPartnersModel" ⟨"WaxedPartnersModel", "firmOf", "(II)I"⟩ ⟨"WaxedPartnersModel", "firmOf", "(II)I"⟩ ∈ gT := gT_in (List.mem_append_left _ (List.mem_map.mpr ⟨(⟨"WaxedPartnersModel", "firmOf", "(II)I"⟩, _), pv_6 _ (List.mem_of_getElem? (i := 7) rfl), rfl⟩)) rfl
theorem wd_7_138 : Cond.methodLink "WaxedPartnersModel" 314 ⟨"WaxedPartnersModel", "fundsOf", "(II)I"⟩ ∈ gT := gT_in (tb_7 _ (List.mem_of_getElem? (i := 138) (by decide +kernel))) rfl
theorem wd_7_140 : Cond.instanceMethod ⟨"WaxedPartnersModel", "fundsOf", "(II)I"⟩ ∈ gT := gT_in (tb_7 _ (List.mem_of_getElem? (i := 140) (by decide +kernel))) rfl
theorem wp_6_8 : Cond.selects "WaxedPartnersModel" ⟨"WaxedPartnersModel", "fundsOf", "(II)I"⟩ ⟨"WaxedPartnersModel", "fundsOf", "(II)I"⟩ ∈ gT := gT_in (List.mem_append_left _ (List.mem_map.mpr ⟨(⟨"WaxedPartnersModel", "fundsOf", "(II)I"⟩, _), pv_6 _ (List.mem_of_getElem? (i := 8) rfl), rfl⟩)) rfl
theorem wd_7_142 : Cond.methodLink "WaxedPartnersModel" 317 ⟨"WaxedPartnersModel", "isToldCold", "(II)Z"⟩ ∈ gT := gT_in (tb_7 _ (List.mem_of_getElem? (i := 142) (by decide +kernel))) rfl
theorem wd_7_144 : Cond.instanceMethod ⟨"WaxedPartnersModel", "isToldCold", "(II)Z"⟩ ∈ gT := gT_in (tb_7 _ (List.mem_of_getElem? (i := 144) (by decide +kernel))) rfl
theorem wp_6_9 : Cond.selects "WaxedPartnersModel" ⟨"WaxedPartnersModel", "isToldCold", "(II)Z"⟩ ⟨"WaxedPartnersModel", "isToldCold", "(II)Z"⟩ ∈ gT := gT_in (List.mem_append_left _ (List.mem_map.mpr ⟨(⟨"WaxedPartnersModel", "isToldCold", "(II)Z"⟩, _), pv_6 _ (List.mem_of_getElem? (i := 9) rfl), rfl⟩)) rfl
theorem wd_7_146 : Cond.methodLink "WaxedPartnersModel" 320 ⟨"WaxedPartnersModel", "isCaught", "(II)Z"⟩ ∈ gT := gT_in (tb_7 _ (List.mem_of_getElem? (i := 146) (by decide +kernel))) rfl
theorem wd_7_148 : Cond.instanceMethod ⟨"WaxedPartnersModel", "isCaught", "(II)Z"⟩ ∈ gT := gT_in (tb_7 _ (List.mem_of_getElem? (i := 148) (by decide +kernel))) rfl
theorem wp_6_10 : Cond.selects "WaxedPartnersModel" ⟨"WaxedPartnersModel", "isCaught", "(II)Z"⟩ ⟨"WaxedPartnersModel", "isCaught", "(II)Z"⟩ ∈ gT := gT_in (List.mem_append_left _ (List.mem_map.mpr ⟨(⟨"WaxedPartnersModel", "isCaught", "(II)Z"⟩, _), pv_6 _ (List.mem_of_getElem? (i := 10) rfl), rfl⟩)) rfl
theorem wd_7_103 : Cond.methodLink "WaxedPartnersModel" 323 ⟨"WaxedPartnersModel", "year", "(I)V"⟩ ∈ gT := gT_in (tb_7 _ (List.mem_of_getElem? (i := 103) (by decide +kernel))) rfl
theorem wd_7_105 : Cond.instanceMethod ⟨"WaxedPartnersModel", "year", "(I)V"⟩ ∈ gT := gT_in (tb_7 _ (List.mem_of_getElem? (i := 105) (by decide +kernel))) rfl
theorem wp_6_0 : Cond.selects "WaxedPartnersModel" ⟨"WaxedPartnersModel", "year", "(I)V"⟩ ⟨"WaxedPartnersModel", "year", "(I)V"⟩ ∈ gT := gT_in (List.mem_append_left _ (List.mem_map.mpr ⟨(⟨"WaxedPartnersModel", "year", "(I)V"⟩, _), pv_6 _ (List.mem_of_getElem? (i := 0) rfl), rfl⟩)) rfl
theorem wd_7_99 : Cond.methodLink "WaxedPartnersModel" 326 ⟨"WaxedPartnersModel", "runs", "(I)V"⟩ ∈ gT := gT_in (tb_7 _ (List.mem_of_getElem? (i := 99) (by decide +kernel))) rfl
theorem wd_7_101 : Cond.instanceMethod ⟨"WaxedPartnersModel", "runs", "(I)V"⟩ ∈ gT := gT_in (tb_7 _ (List.mem_of_getElem? (i := 101) (by decide +kernel))) rfl
theorem wp_5_15 : Cond.selects "WaxedPartnersModel" ⟨"WaxedPartnersModel", "runs", "(I)V"⟩ ⟨"WaxedPartnersModel", "runs", "(I)V"⟩ ∈ gT := gT_in (List.mem_append_left _ (List.mem_map.mpr ⟨(⟨"WaxedPartnersModel", "runs", "(I)V"⟩, _), pv_5 _ (List.mem_of_getElem? (i := 15) rfl), rfl⟩)) rfl
theorem wd_7_91 : Cond.methodLink "WaxedPartnersModel" 329 ⟨"WaxedPartnersModel", "lays", "()V"⟩ ∈ gT := gT_in (tb_7 _ (List.mem_of_getElem? (i := 91) (by decide +kernel))) rfl
theorem wd_7_93 : Cond.instanceMethod ⟨"WaxedPartnersModel", "lays", "()V"⟩ ∈ gT := gT_in (tb_7 _ (List.mem_of_getElem? (i := 93) (by decide +kernel))) rfl
theorem wp_5_13 : Cond.selects "WaxedPartnersModel" ⟨"WaxedPartnersModel", "lays", "()V"⟩ ⟨"WaxedPartnersModel", "lays", "()V"⟩ ∈ gT := gT_in (List.mem_append_left _ (List.mem_map.mpr ⟨(⟨"WaxedPartnersModel", "lays", "()V"⟩, _), pv_5 _ (List.mem_of_getElem? (i := 13) rfl), rfl⟩)) rfl
theorem wd_7_95 : Cond.methodLink "WaxedPartnersModel" 332 ⟨"WaxedPartnersModel", "runs", "()V"⟩ ∈ gT := gT_in (tb_7 _ (List.mem_of_getElem? (i := 95) (by decide +kernel))) rfl
theorem wd_7_97 : Cond.instanceMethod ⟨"WaxedPartnersModel", "runs", "()V"⟩ ∈ gT := gT_in (tb_7 _ (List.mem_of_getElem? (i := 97) (by decide +kernel))) rfl
theorem wp_5_14 : Cond.selects "WaxedPartnersModel" ⟨"WaxedPartnersModel", "runs", "()V"⟩ ⟨"WaxedPartnersModel", "runs", "()V"⟩ ∈ gT := gT_in (List.mem_append_left _ (List.mem_map.mpr ⟨(⟨"WaxedPartnersModel", "runs", "()V"⟩, _), pv_5 _ (List.mem_of_getElem? (i := 14) rfl), rfl⟩)) rfl
theorem wd_7_198 : Cond.methodLink "WaxedPartnersModel" 334 ⟨"WaxedPartnersModel", "sizeOf", "(I)I"⟩ ∈ gT := gT_in (tb_7 _ (List.mem_of_getElem? (i := 198) (by decide +kernel))) rfl
theorem wd_7_199 : Cond.static ⟨"WaxedPartnersModel", "sizeOf", "(I)I"⟩ ∈ gT := gT_in (tb_7 _ (List.mem_of_getElem? (i := 199) (by decide +kernel))) rfl
theorem wd_7_190 : Cond.methodLink "WaxedPartnersModel" 337 ⟨"WaxedPartnersModel", "joinsIn", "(II)I"⟩ ∈ gT := gT_in (tb_7 _ (List.mem_of_getElem? (i := 190) (by decide +kernel))) rfl
theorem wd_7_192 : Cond.instanceMethod ⟨"WaxedPartnersModel", "joinsIn", "(II)I"⟩ ∈ gT := gT_in (tb_7 _ (List.mem_of_getElem? (i := 192) (by decide +kernel))) rfl
theorem wp_7_1 : Cond.selects "WaxedPartnersModel" ⟨"WaxedPartnersModel", "joinsIn", "(II)I"⟩ ⟨"WaxedPartnersModel", "joinsIn", "(II)I"⟩ ∈ gT := gT_in (List.mem_append_left _ (List.mem_map.mpr ⟨(⟨"WaxedPartnersModel", "joinsIn", "(II)I"⟩, _), pv_7 _ (List.mem_of_getElem? (i := 1) rfl), rfl⟩)) rfl
theorem wd_7_194 : Cond.methodLink "WaxedPartnersModel" 340 ⟨"WaxedPartnersModel", "wideOf", "(II)I"⟩ ∈ gT := gT_in (tb_7 _ (List.mem_of_getElem? (i := 194) (by decide +kernel))) rfl
theorem wd_7_196 : Cond.instanceMethod ⟨"WaxedPartnersModel", "wideOf", "(II)I"⟩ ∈ gT := gT_in (tb_7 _ (List.mem_of_getElem? (i := 196) (by decide +kernel))) rfl
theorem wp_7_2 : Cond.selects "WaxedPartnersModel" ⟨"WaxedPartnersModel", "wideOf", "(II)I"⟩ ⟨"WaxedPartnersModel", "wideOf", "(II)I"⟩ ∈ gT := gT_in (List.mem_append_left _ (List.mem_map.mpr ⟨(⟨"WaxedPartnersModel", "wideOf", "(II)I"⟩, _), pv_7 _ (List.mem_of_getElem? (i := 2) rfl), rfl⟩)) rfl
theorem wd_7_186 : Cond.methodLink "WaxedPartnersModel" 343 ⟨"WaxedPartnersModel", "wideThen", "(II)I"⟩ ∈ gT := gT_in (tb_7 _ (List.mem_of_getElem? (i := 186) (by decide +kernel))) rfl
theorem wd_7_188 : Cond.instanceMethod ⟨"WaxedPartnersModel", "wideThen", "(II)I"⟩ ∈ gT := gT_in (tb_7 _ (List.mem_of_getElem? (i := 188) (by decide +kernel))) rfl
theorem wp_7_0 : Cond.selects "WaxedPartnersModel" ⟨"WaxedPartnersModel", "wideThen", "(II)I"⟩ ⟨"WaxedPartnersModel", "wideThen", "(II)I"⟩ ∈ gT := gT_in (List.mem_append_left _ (List.mem_map.mpr ⟨(⟨"WaxedPartnersModel", "wideThen", "(II)I"⟩, _), pv_7 _ (List.mem_of_getElem? (i := 0) rfl), rfl⟩)) rfl
theorem wd_7_54 : Cond.constantLong "WaxedPartnersModel" 346 (2 : Int64) ∈ gT := gT_in (tb_7 _ (List.mem_of_getElem? (i := 54) (by decide +kernel))) rfl
theorem wd_7_59 : Cond.methodLink "WaxedPartnersModel" 348 ⟨"WaxedPartnersModel", "isJoin", "(I)Z"⟩ ∈ gT := gT_in (tb_7 _ (List.mem_of_getElem? (i := 59) (by decide +kernel))) rfl
theorem wd_7_61 : Cond.instanceMethod ⟨"WaxedPartnersModel", "isJoin", "(I)Z"⟩ ∈ gT := gT_in (tb_7 _ (List.mem_of_getElem? (i := 61) (by decide +kernel))) rfl
theorem wp_5_7 : Cond.selects "WaxedPartnersModel" ⟨"WaxedPartnersModel", "isJoin", "(I)Z"⟩ ⟨"WaxedPartnersModel", "isJoin", "(I)Z"⟩ ∈ gT := gT_in (List.mem_append_left _ (List.mem_map.mpr ⟨(⟨"WaxedPartnersModel", "isJoin", "(I)Z"⟩, _), pv_5 _ (List.mem_of_getElem? (i := 7) rfl), rfl⟩)) rfl
theorem wd_7_71 : Cond.methodLink "WaxedPartnersModel" 351 ⟨"WaxedPartnersModel", "isDoor", "(J)Z"⟩ ∈ gT := gT_in (tb_7 _ (List.mem_of_getElem? (i := 71) (by decide +kernel))) rfl
theorem wd_7_73 : Cond.instanceMethod ⟨"WaxedPartnersModel", "isDoor", "(J)Z"⟩ ∈ gT := gT_in (tb_7 _ (List.mem_of_getElem? (i := 73) (by decide +kernel))) rfl
theorem wp_5_9 : Cond.selects "WaxedPartnersModel" ⟨"WaxedPartnersModel", "isDoor", "(J)Z"⟩ ⟨"WaxedPartnersModel", "isDoor", "(J)Z"⟩ ∈ gT := gT_in (List.mem_append_left _ (List.mem_map.mpr ⟨(⟨"WaxedPartnersModel", "isDoor", "(J)Z"⟩, _), pv_5 _ (List.mem_of_getElem? (i := 9) rfl), rfl⟩)) rfl
theorem wd_7_87 : Cond.methodLink "WaxedPartnersModel" 354 ⟨"WaxedPartnersModel", "laysNow", "()V"⟩ ∈ gT := gT_in (tb_7 _ (List.mem_of_getElem? (i := 87) (by decide +kernel))) rfl
theorem wd_7_89 : Cond.instanceMethod ⟨"WaxedPartnersModel", "laysNow", "()V"⟩ ∈ gT := gT_in (tb_7 _ (List.mem_of_getElem? (i := 89) (by decide +kernel))) rfl
theorem wp_5_12 : Cond.selects "WaxedPartnersModel" ⟨"WaxedPartnersModel", "laysNow", "()V"⟩ ⟨"WaxedPartnersModel", "laysNow", "()V"⟩ ∈ gT := gT_in (List.mem_append_left _ (List.mem_map.mpr ⟨(⟨"WaxedPartnersModel", "laysNow", "()V"⟩, _), pv_5 _ (List.mem_of_getElem? (i := 12) rfl), rfl⟩)) rfl
theorem wd_7_150 : Cond.methodLink "WaxedPartnersModel" 357 ⟨"WaxedPartnersModel", "isToldThen", "(II)Z"⟩ ∈ gT := gT_in (tb_7 _ (List.mem_of_getElem? (i := 150) (by decide +kernel))) rfl
theorem wd_7_152 : Cond.instanceMethod ⟨"WaxedPartnersModel", "isToldThen", "(II)Z"⟩ ∈ gT := gT_in (tb_7 _ (List.mem_of_getElem? (i := 152) (by decide +kernel))) rfl
theorem wp_6_11 : Cond.selects "WaxedPartnersModel" ⟨"WaxedPartnersModel", "isToldThen", "(II)Z"⟩ ⟨"WaxedPartnersModel", "isToldThen", "(II)Z"⟩ ∈ gT := gT_in (List.mem_append_left _ (List.mem_map.mpr ⟨(⟨"WaxedPartnersModel", "isToldThen", "(II)Z"⟩, _), pv_6 _ (List.mem_of_getElem? (i := 11) rfl), rfl⟩)) rfl
theorem wd_7_158 : Cond.methodLink "WaxedPartnersModel" 360 ⟨"WaxedPartnersModel", "areTwo", "(II)Z"⟩ ∈ gT := gT_in (tb_7 _ (List.mem_of_getElem? (i := 158) (by decide +kernel))) rfl
theorem wd_7_160 : Cond.instanceMethod ⟨"WaxedPartnersModel", "areTwo", "(II)Z"⟩ ∈ gT := gT_in (tb_7 _ (List.mem_of_getElem? (i := 160) (by decide +kernel))) rfl
theorem wp_6_12 : Cond.selects "WaxedPartnersModel" ⟨"WaxedPartnersModel", "areTwo", "(II)Z"⟩ ⟨"WaxedPartnersModel", "areTwo", "(II)Z"⟩ ∈ gT := gT_in (List.mem_append_left _ (List.mem_map.mpr ⟨(⟨"WaxedPartnersModel", "areTwo", "(II)Z"⟩, _), pv_6 _ (List.mem_of_getElem? (i := 12) rfl), rfl⟩)) rfl
theorem wd_7_166 : Cond.methodLink "WaxedPartnersModel" 363 ⟨"WaxedPartnersModel", "isThen", "(II)Z"⟩ ∈ gT := gT_in (tb_7 _ (List.mem_of_getElem? (i := 166) (by decide +kernel))) rfl
theorem wd_7_168 : Cond.instanceMethod ⟨"WaxedPartnersModel", "isThen", "(II)Z"⟩ ∈ gT := gT_in (tb_7 _ (List.mem_of_getElem? (i := 168) (by decide +kernel))) rfl
theorem wp_6_13 : Cond.selects "WaxedPartnersModel" ⟨"WaxedPartnersModel", "isThen", "(II)Z"⟩ ⟨"WaxedPartnersModel", "isThen", "(II)Z"⟩ ∈ gT := gT_in (List.mem_append_left _ (List.mem_map.mpr ⟨(⟨"WaxedPartnersModel", "isThen", "(II)Z"⟩, _), pv_6 _ (List.mem_of_getElem? (i := 13) rfl), rfl⟩)) rfl
theorem wd_7_178 : Cond.methodLink "WaxedPartnersModel" 366 ⟨"WaxedPartnersModel", "isHead", "(II)Z"⟩ ∈ gT := gT_in (tb_7 _ (List.mem_of_getElem? (i := 178) (by decide +kernel))) rfl
theorem wd_7_180 : Cond.instanceMethod ⟨"WaxedPartnersModel", "isHead", "(II)Z"⟩ ∈ gT := gT_in (tb_7 _ (List.mem_of_getElem? (i := 180) (by decide +kernel))) rfl
theorem wp_6_15 : Cond.selects "WaxedPartnersModel" ⟨"WaxedPartnersModel", "isHead", "(II)Z"⟩ ⟨"WaxedPartnersModel", "isHead", "(II)Z"⟩ ∈ gT := gT_in (List.mem_append_left _ (List.mem_map.mpr ⟨(⟨"WaxedPartnersModel", "isHead", "(II)Z"⟩, _), pv_6 _ (List.mem_of_getElem? (i := 15) rfl), rfl⟩)) rfl
theorem wd_7_174 : Cond.methodLink "WaxedPartnersModel" 369 ⟨"WaxedPartnersModel", "firmsAt", "(I)I"⟩ ∈ gT := gT_in (tb_7 _ (List.mem_of_getElem? (i := 174) (by decide +kernel))) rfl
theorem wd_7_176 : Cond.instanceMethod ⟨"WaxedPartnersModel", "firmsAt", "(I)I"⟩ ∈ gT := gT_in (tb_7 _ (List.mem_of_getElem? (i := 176) (by decide +kernel))) rfl
theorem wp_6_14 : Cond.selects "WaxedPartnersModel" ⟨"WaxedPartnersModel", "firmsAt", "(I)I"⟩ ⟨"WaxedPartnersModel", "firmsAt", "(I)I"⟩ ∈ gT := gT_in (List.mem_append_left _ (List.mem_map.mpr ⟨(⟨"WaxedPartnersModel", "firmsAt", "(I)I"⟩, _), pv_6 _ (List.mem_of_getElem? (i := 14) rfl), rfl⟩)) rfl
theorem wd_7_205 : Cond.methodLink "WaxedPartnersModel" 372 ⟨"WaxedPartnersModel", "goesThrough", "(III)Z"⟩ ∈ gT := gT_in (tb_7 _ (List.mem_of_getElem? (i := 205) (by decide +kernel))) rfl
theorem wd_7_207 : Cond.instanceMethod ⟨"WaxedPartnersModel", "goesThrough", "(III)Z"⟩ ∈ gT := gT_in (tb_7 _ (List.mem_of_getElem? (i := 207) (by decide +kernel))) rfl
theorem wp_7_3 : Cond.selects "WaxedPartnersModel" ⟨"WaxedPartnersModel", "goesThrough", "(III)Z"⟩ ⟨"WaxedPartnersModel", "goesThrough", "(III)Z"⟩ ∈ gT := gT_in (List.mem_append_left _ (List.mem_map.mpr ⟨(⟨"WaxedPartnersModel", "goesThrough", "(III)Z"⟩, _), pv_7 _ (List.mem_of_getElem? (i := 3) rfl), rfl⟩)) rfl
theorem wd_7_237 : Cond.methodLink "WaxedPartnersModel" 375 ⟨"WaxedPartnersModel", "outBits", "(I)I"⟩ ∈ gT := gT_in (tb_7 _ (List.mem_of_getElem? (i := 237) (by decide +kernel))) rfl
theorem wd_7_239 : Cond.instanceMethod ⟨"WaxedPartnersModel", "outBits", "(I)I"⟩ ∈ gT := gT_in (tb_7 _ (List.mem_of_getElem? (i := 239) (by decide +kernel))) rfl
theorem wp_7_4 : Cond.selects "WaxedPartnersModel" ⟨"WaxedPartnersModel", "outBits", "(I)I"⟩ ⟨"WaxedPartnersModel", "outBits", "(I)I"⟩ ∈ gT := gT_in (List.mem_append_left _ (List.mem_map.mpr ⟨(⟨"WaxedPartnersModel", "outBits", "(I)I"⟩, _), pv_7 _ (List.mem_of_getElem? (i := 4) rfl), rfl⟩)) rfl
theorem wd_8_17 : Cond.methodLink "WaxedPartnersModel" 378 ⟨"WaxedPartnersModel", "isCity", "()Z"⟩ ∈ gT := gT_in (tb_8 _ (List.mem_of_getElem? (i := 17) (by decide +kernel))) rfl
theorem wd_8_19 : Cond.instanceMethod ⟨"WaxedPartnersModel", "isCity", "()Z"⟩ ∈ gT := gT_in (tb_8 _ (List.mem_of_getElem? (i := 19) (by decide +kernel))) rfl
theorem wp_7_5 : Cond.selects "WaxedPartnersModel" ⟨"WaxedPartnersModel", "isCity", "()Z"⟩ ⟨"WaxedPartnersModel", "isCity", "()Z"⟩ ∈ gT := gT_in (List.mem_append_left _ (List.mem_map.mpr ⟨(⟨"WaxedPartnersModel", "isCity", "()Z"⟩, _), pv_7 _ (List.mem_of_getElem? (i := 5) rfl), rfl⟩)) rfl
theorem wd_8_41 : Cond.methodLink "WaxedPartnersModel" 381 ⟨"WaxedPartnersModel", "isThrough", "(II)Z"⟩ ∈ gT := gT_in (tb_8 _ (List.mem_of_getElem? (i := 41) (by decide +kernel))) rfl
theorem wd_8_43 : Cond.instanceMethod ⟨"WaxedPartnersModel", "isThrough", "(II)Z"⟩ ∈ gT := gT_in (tb_8 _ (List.mem_of_getElem? (i := 43) (by decide +kernel))) rfl
theorem wp_7_7 : Cond.selects "WaxedPartnersModel" ⟨"WaxedPartnersModel", "isThrough", "(II)Z"⟩ ⟨"WaxedPartnersModel", "isThrough", "(II)Z"⟩ ∈ gT := gT_in (List.mem_append_left _ (List.mem_map.mpr ⟨(⟨"WaxedPartnersModel", "isThrough", "(II)Z"⟩, _), pv_7 _ (List.mem_of_getElem? (i := 7) rfl), rfl⟩)) rfl
theorem wd_8_45 : Cond.methodLink "WaxedPartnersModel" 384 ⟨"WaxedPartnersModel", "worthOf", "(I)I"⟩ ∈ gT := gT_in (tb_8 _ (List.mem_of_getElem? (i := 45) (by decide +kernel))) rfl
theorem wd_8_47 : Cond.instanceMethod ⟨"WaxedPartnersModel", "worthOf", "(I)I"⟩ ∈ gT := gT_in (tb_8 _ (List.mem_of_getElem? (i := 47) (by decide +kernel))) rfl
theorem wp_7_8 : Cond.selects "WaxedPartnersModel" ⟨"WaxedPartnersModel", "worthOf", "(I)I"⟩ ⟨"WaxedPartnersModel", "worthOf", "(I)I"⟩ ∈ gT := gT_in (List.mem_append_left _ (List.mem_map.mpr ⟨(⟨"WaxedPartnersModel", "worthOf", "(I)I"⟩, _), pv_7 _ (List.mem_of_getElem? (i := 8) rfl), rfl⟩)) rfl
theorem wd_8_37 : Cond.methodLink "WaxedPartnersModel" 387 ⟨"WaxedPartnersModel", "bestSet", "(I)I"⟩ ∈ gT := gT_in (tb_8 _ (List.mem_of_getElem? (i := 37) (by decide +kernel))) rfl
theorem wd_8_39 : Cond.instanceMethod ⟨"WaxedPartnersModel", "bestSet", "(I)I"⟩ ∈ gT := gT_in (tb_8 _ (List.mem_of_getElem? (i := 39) (by decide +kernel))) rfl
theorem wp_7_6 : Cond.selects "WaxedPartnersModel" ⟨"WaxedPartnersModel", "bestSet", "(I)I"⟩ ⟨"WaxedPartnersModel", "bestSet", "(I)I"⟩ ∈ gT := gT_in (List.mem_append_left _ (List.mem_map.mpr ⟨(⟨"WaxedPartnersModel", "bestSet", "(I)I"⟩, _), pv_7 _ (List.mem_of_getElem? (i := 6) rfl), rfl⟩)) rfl
theorem wd_6_14 : Cond.fieldLink "WaxedPartnersModel" 68 "WaxedPartnersModel" "fewest" "[I" ∈ gT := gT_in (tb_6 _ (List.mem_of_getElem? (i := 14) (by decide +kernel))) rfl
theorem wd_6_15 : Cond.fieldLink "WaxedPartnersModel" 71 "WaxedPartnersModel" "waysOf" "[I" ∈ gT := gT_in (tb_6 _ (List.mem_of_getElem? (i := 15) (by decide +kernel))) rfl
theorem wd_8_57 : Cond.methodLink "WaxedPartnersModel" 390 ⟨"WaxedPartnersModel", "laysSets", "(I)V"⟩ ∈ gT := gT_in (tb_8 _ (List.mem_of_getElem? (i := 57) (by decide +kernel))) rfl
theorem wd_8_59 : Cond.instanceMethod ⟨"WaxedPartnersModel", "laysSets", "(I)V"⟩ ∈ gT := gT_in (tb_8 _ (List.mem_of_getElem? (i := 59) (by decide +kernel))) rfl
theorem wp_7_9 : Cond.selects "WaxedPartnersModel" ⟨"WaxedPartnersModel", "laysSets", "(I)V"⟩ ⟨"WaxedPartnersModel", "laysSets", "(I)V"⟩ ∈ gT := gT_in (List.mem_append_left _ (List.mem_map.mpr ⟨(⟨"WaxedPartnersModel", "laysSets", "(I)V"⟩, _), pv_7 _ (List.mem_of_getElem? (i := 9) rfl), rfl⟩)) rfl
theorem wd_8_72 : Cond.methodLink "WaxedPartnersModel" 393 ⟨"WaxedPartnersModel", "times", "(I)I"⟩ ∈ gT := gT_in (tb_8 _ (List.mem_of_getElem? (i := 72) (by decide +kernel))) rfl
theorem wd_8_73 : Cond.static ⟨"WaxedPartnersModel", "times", "(I)I"⟩ ∈ gT := gT_in (tb_8 _ (List.mem_of_getElem? (i := 73) (by decide +kernel))) rfl
theorem wd_8_82 : Cond.methodLink "WaxedPartnersModel" 396 ⟨"WaxedPartnersModel", "common", "(II)I"⟩ ∈ gT := gT_in (tb_8 _ (List.mem_of_getElem? (i := 82) (by decide +kernel))) rfl
theorem wd_8_83 : Cond.static ⟨"WaxedPartnersModel", "common", "(II)I"⟩ ∈ gT := gT_in (tb_8 _ (List.mem_of_getElem? (i := 83) (by decide +kernel))) rfl
theorem wd_8_69 : Cond.methodLink "WaxedPartnersModel" 399 ⟨"WaxedPartnersModel", "isHalf", "(I)Z"⟩ ∈ gT := gT_in (tb_8 _ (List.mem_of_getElem? (i := 69) (by decide +kernel))) rfl
theorem wd_8_70 : Cond.static ⟨"WaxedPartnersModel", "isHalf", "(I)Z"⟩ ∈ gT := gT_in (tb_8 _ (List.mem_of_getElem? (i := 70) (by decide +kernel))) rfl
theorem wd_8_75 : Cond.methodLink "WaxedPartnersModel" 402 ⟨"WaxedPartnersModel", "valueOf", "(II)I"⟩ ∈ gT := gT_in (tb_8 _ (List.mem_of_getElem? (i := 75) (by decide +kernel))) rfl
theorem wd_8_77 : Cond.instanceMethod ⟨"WaxedPartnersModel", "valueOf", "(II)I"⟩ ∈ gT := gT_in (tb_8 _ (List.mem_of_getElem? (i := 77) (by decide +kernel))) rfl
theorem wp_7_10 : Cond.selects "WaxedPartnersModel" ⟨"WaxedPartnersModel", "valueOf", "(II)I"⟩ ⟨"WaxedPartnersModel", "valueOf", "(II)I"⟩ ∈ gT := gT_in (List.mem_append_left _ (List.mem_map.mpr ⟨(⟨"WaxedPartnersModel", "valueOf", "(II)I"⟩, _), pv_7 _ (List.mem_of_getElem? (i := 10) rfl), rfl⟩)) rfl
theorem wd_8_79 : Cond.methodLink "WaxedPartnersModel" 405 ⟨"WaxedPartnersModel", "part", "(III)I"⟩ ∈ gT := gT_in (tb_8 _ (List.mem_of_getElem? (i := 79) (by decide +kernel))) rfl
theorem wd_8_80 : Cond.static ⟨"WaxedPartnersModel", "part", "(III)I"⟩ ∈ gT := gT_in (tb_8 _ (List.mem_of_getElem? (i := 80) (by decide +kernel))) rfl
theorem wd_6_16 : Cond.fieldLink "WaxedPartnersModel" 409 "WaxedPartnersModel" "givenHigh" "J" ∈ gT := gT_in (tb_6 _ (List.mem_of_getElem? (i := 16) (by decide +kernel))) rfl
theorem wd_6_17 : Cond.fieldLink "WaxedPartnersModel" 412 "WaxedPartnersModel" "givenRest" "J" ∈ gT := gT_in (tb_6 _ (List.mem_of_getElem? (i := 17) (by decide +kernel))) rfl
theorem wd_8_105 : Cond.constantLong "WaxedPartnersModel" 415 (4294967295 : Int64) ∈ gT := gT_in (tb_8 _ (List.mem_of_getElem? (i := 105) (by decide +kernel))) rfl
theorem wd_8_101 : Cond.methodLink "WaxedPartnersModel" 417 ⟨"WaxedPartnersModel", "laysGiven", "(II)V"⟩ ∈ gT := gT_in (tb_8 _ (List.mem_of_getElem? (i := 101) (by decide +kernel))) rfl
theorem wd_8_103 : Cond.instanceMethod ⟨"WaxedPartnersModel", "laysGiven", "(II)V"⟩ ∈ gT := gT_in (tb_8 _ (List.mem_of_getElem? (i := 103) (by decide +kernel))) rfl
theorem wp_7_14 : Cond.selects "WaxedPartnersModel" ⟨"WaxedPartnersModel", "laysGiven", "(II)V"⟩ ⟨"WaxedPartnersModel", "laysGiven", "(II)V"⟩ ∈ gT := gT_in (List.mem_append_left _ (List.mem_map.mpr ⟨(⟨"WaxedPartnersModel", "laysGiven", "(II)V"⟩, _), pv_7 _ (List.mem_of_getElem? (i := 14) rfl), rfl⟩)) rfl
theorem wd_8_97 : Cond.methodLink "WaxedPartnersModel" 420 ⟨"WaxedPartnersModel", "isGivenLess", "(IIJ)Z"⟩ ∈ gT := gT_in (tb_8 _ (List.mem_of_getElem? (i := 97) (by decide +kernel))) rfl
theorem wd_8_99 : Cond.instanceMethod ⟨"WaxedPartnersModel", "isGivenLess", "(IIJ)Z"⟩ ∈ gT := gT_in (tb_8 _ (List.mem_of_getElem? (i := 99) (by decide +kernel))) rfl
theorem wp_7_13 : Cond.selects "WaxedPartnersModel" ⟨"WaxedPartnersModel", "isGivenLess", "(IIJ)Z"⟩ ⟨"WaxedPartnersModel", "isGivenLess", "(IIJ)Z"⟩ ∈ gT := gT_in (List.mem_append_left _ (List.mem_map.mpr ⟨(⟨"WaxedPartnersModel", "isGivenLess", "(IIJ)Z"⟩, _), pv_7 _ (List.mem_of_getElem? (i := 13) rfl), rfl⟩)) rfl
theorem wd_8_89 : Cond.methodLink "WaxedPartnersModel" 424 ⟨"WaxedPartnersModel", "whyNotFair", "(II)I"⟩ ∈ gT := gT_in (tb_8 _ (List.mem_of_getElem? (i := 89) (by decide +kernel))) rfl
theorem wd_8_91 : Cond.instanceMethod ⟨"WaxedPartnersModel", "whyNotFair", "(II)I"⟩ ∈ gT := gT_in (tb_8 _ (List.mem_of_getElem? (i := 91) (by decide +kernel))) rfl
theorem wp_7_11 : Cond.selects "WaxedPartnersModel" ⟨"WaxedPartnersModel", "whyNotFair", "(II)I"⟩ ⟨"WaxedPartnersModel", "whyNotFair", "(II)I"⟩ ∈ gT := gT_in (List.mem_append_left _ (List.mem_map.mpr ⟨(⟨"WaxedPartnersModel", "whyNotFair", "(II)I"⟩, _), pv_7 _ (List.mem_of_getElem? (i := 11) rfl), rfl⟩)) rfl
theorem wd_8_93 : Cond.methodLink "WaxedPartnersModel" 427 ⟨"WaxedPartnersModel", "leaveOf", "(II)I"⟩ ∈ gT := gT_in (tb_8 _ (List.mem_of_getElem? (i := 93) (by decide +kernel))) rfl
theorem wd_8_95 : Cond.instanceMethod ⟨"WaxedPartnersModel", "leaveOf", "(II)I"⟩ ∈ gT := gT_in (tb_8 _ (List.mem_of_getElem? (i := 95) (by decide +kernel))) rfl
theorem wp_7_12 : Cond.selects "WaxedPartnersModel" ⟨"WaxedPartnersModel", "leaveOf", "(II)I"⟩ ⟨"WaxedPartnersModel", "leaveOf", "(II)I"⟩ ∈ gT := gT_in (List.mem_append_left _ (List.mem_map.mpr ⟨(⟨"WaxedPartnersModel", "leaveOf", "(II)I"⟩, _), pv_7 _ (List.mem_of_getElem? (i := 12) rfl), rfl⟩)) rfl
theorem wd_8_106 : Cond.methodLink "WaxedPartnersModel" 430 ⟨"WaxedPartnersModel", "isGivenJust", "(IIJ)Z"⟩ ∈ gT := gT_in (tb_8 _ (List.mem_of_getElem? (i := 106) (by decide +kernel))) rfl
theorem wd_8_108 : Cond.instanceMethod ⟨"WaxedPartnersModel", "isGivenJust", "(IIJ)Z"⟩ ∈ gT := gT_in (tb_8 _ (List.mem_of_getElem? (i := 108) (by decide +kernel))) rfl
theorem wp_7_15 : Cond.selects "WaxedPartnersModel" ⟨"WaxedPartnersModel", "isGivenJust", "(IIJ)Z"⟩ ⟨"WaxedPartnersModel", "isGivenJust", "(IIJ)Z"⟩ ∈ gT := gT_in (List.mem_append_left _ (List.mem_map.mpr ⟨(⟨"WaxedPartnersModel", "isGivenJust", "(IIJ)Z"⟩, _), pv_7 _ (List.mem_of_getElem? (i := 15) rfl), rfl⟩)) rfl
theorem wd_6_18 : Cond.fieldLink "WaxedPartnersModel" 433 "WaxedPartnersModel" "snipSet" "I" ∈ gT := gT_in (tb_6 _ (List.mem_of_getElem? (i := 18) (by decide +kernel))) rfl
theorem wd_6_19 : Cond.fieldLink "WaxedPartnersModel" 436 "WaxedPartnersModel" "snipWax" "I" ∈ gT := gT_in (tb_6 _ (List.mem_of_getElem? (i := 19) (by decide +kernel))) rfl
theorem wd_8_118 : Cond.methodLink "WaxedPartnersModel" 439 ⟨"WaxedPartnersModel", "laysSnips", "(II)V"⟩ ∈ gT := gT_in (tb_8 _ (List.mem_of_getElem? (i := 118) (by decide +kernel))) rfl
theorem wd_8_120 : Cond.instanceMethod ⟨"WaxedPartnersModel", "laysSnips", "(II)V"⟩ ∈ gT := gT_in (tb_8 _ (List.mem_of_getElem? (i := 120) (by decide +kernel))) rfl
theorem wp_8_0 : Cond.selects "WaxedPartnersModel" ⟨"WaxedPartnersModel", "laysSnips", "(II)V"⟩ ⟨"WaxedPartnersModel", "laysSnips", "(II)V"⟩ ∈ gT := gT_in (List.mem_append_left _ (List.mem_map.mpr ⟨(⟨"WaxedPartnersModel", "laysSnips", "(II)V"⟩, _), pv_8 _ (List.mem_of_getElem? (i := 0) rfl), rfl⟩)) rfl
theorem wd_8_134 : Cond.methodLink "WaxedPartnersModel" 442 ⟨"WaxedPartnersModel", "guardsOf", "(I)I"⟩ ∈ gT := gT_in (tb_8 _ (List.mem_of_getElem? (i := 134) (by decide +kernel))) rfl
theorem wd_8_136 : Cond.instanceMethod ⟨"WaxedPartnersModel", "guardsOf", "(I)I"⟩ ∈ gT := gT_in (tb_8 _ (List.mem_of_getElem? (i := 136) (by decide +kernel))) rfl
theorem wp_8_1 : Cond.selects "WaxedPartnersModel" ⟨"WaxedPartnersModel", "guardsOf", "(I)I"⟩ ⟨"WaxedPartnersModel", "guardsOf", "(I)I"⟩ ∈ gT := gT_in (List.mem_append_left _ (List.mem_map.mpr ⟨(⟨"WaxedPartnersModel", "guardsOf", "(I)I"⟩, _), pv_8 _ (List.mem_of_getElem? (i := 1) rfl), rfl⟩)) rfl
theorem wd_8_146 : Cond.methodLink "WaxedPartnersModel" 445 ⟨"WaxedPartnersModel", "coldsAll", "()I"⟩ ∈ gT := gT_in (tb_8 _ (List.mem_of_getElem? (i := 146) (by decide +kernel))) rfl
theorem wd_8_148 : Cond.instanceMethod ⟨"WaxedPartnersModel", "coldsAll", "()I"⟩ ∈ gT := gT_in (tb_8 _ (List.mem_of_getElem? (i := 148) (by decide +kernel))) rfl
theorem wp_8_2 : Cond.selects "WaxedPartnersModel" ⟨"WaxedPartnersModel", "coldsAll", "()I"⟩ ⟨"WaxedPartnersModel", "coldsAll", "()I"⟩ ∈ gT := gT_in (List.mem_append_left _ (List.mem_map.mpr ⟨(⟨"WaxedPartnersModel", "coldsAll", "()I"⟩, _), pv_8 _ (List.mem_of_getElem? (i := 2) rfl), rfl⟩)) rfl
theorem wd_6_20 : Cond.fieldLink "WaxedPartnersModel" 448 "WaxedPartnersModel" "trueMany" "I" ∈ gT := gT_in (tb_6 _ (List.mem_of_getElem? (i := 20) (by decide +kernel))) rfl
theorem wd_6_21 : Cond.fieldLink "WaxedPartnersModel" 451 "WaxedPartnersModel" "trueAll" "I" ∈ gT := gT_in (tb_6 _ (List.mem_of_getElem? (i := 21) (by decide +kernel))) rfl
theorem wd_6_22 : Cond.fieldLink "WaxedPartnersModel" 454 "WaxedPartnersModel" "trueAny" "I" ∈ gT := gT_in (tb_6 _ (List.mem_of_getElem? (i := 22) (by decide +kernel))) rfl
theorem wd_6_25 : Cond.fieldLink "WaxedPartnersModel" 74 "WaxedPartnersModel" "often" "[I" ∈ gT := gT_in (tb_6 _ (List.mem_of_getElem? (i := 25) (by decide +kernel))) rfl
theorem wd_8_162 : Cond.methodLink "WaxedPartnersModel" 457 ⟨"WaxedPartnersModel", "laysTrue", "(I)V"⟩ ∈ gT := gT_in (tb_8 _ (List.mem_of_getElem? (i := 162) (by decide +kernel))) rfl
theorem wd_8_164 : Cond.instanceMethod ⟨"WaxedPartnersModel", "laysTrue", "(I)V"⟩ ∈ gT := gT_in (tb_8 _ (List.mem_of_getElem? (i := 164) (by decide +kernel))) rfl
theorem wp_8_5 : Cond.selects "WaxedPartnersModel" ⟨"WaxedPartnersModel", "laysTrue", "(I)V"⟩ ⟨"WaxedPartnersModel", "laysTrue", "(I)V"⟩ ∈ gT := gT_in (List.mem_append_left _ (List.mem_map.mpr ⟨(⟨"WaxedPartnersModel", "laysTrue", "(I)V"⟩, _), pv_8 _ (List.mem_of_getElem? (i := 5) rfl), rfl⟩)) rfl
theorem wd_8_166 : Cond.methodLink "WaxedPartnersModel" 460 ⟨"WaxedPartnersModel", "isSo", "(I)Z"⟩ ∈ gT := gT_in (tb_8 _ (List.mem_of_getElem? (i := 166) (by decide +kernel))) rfl
theorem wd_8_168 : Cond.instanceMethod ⟨"WaxedPartnersModel", "isSo", "(I)Z"⟩ ∈ gT := gT_in (tb_8 _ (List.mem_of_getElem? (i := 168) (by decide +kernel))) rfl
theorem wp_8_6 : Cond.selects "WaxedPartnersModel" ⟨"WaxedPartnersModel", "isSo", "(I)Z"⟩ ⟨"WaxedPartnersModel", "isSo", "(I)Z"⟩ ∈ gT := gT_in (List.mem_append_left _ (List.mem_map.mpr ⟨(⟨"WaxedPartnersModel", "isSo", "(I)Z"⟩, _), pv_8 _ (List.mem_of_getElem? (i := 6) rfl), rfl⟩)) rfl
theorem wd_6_23 : Cond.fieldLink "WaxedPartnersModel" 463 "WaxedPartnersModel" "askBest" "I" ∈ gT := gT_in (tb_6 _ (List.mem_of_getElem? (i := 23) (by decide +kernel))) rfl
theorem wd_6_24 : Cond.fieldLink "WaxedPartnersModel" 466 "WaxedPartnersModel" "askLeaves" "I" ∈ gT := gT_in (tb_6 _ (List.mem_of_getElem? (i := 24) (by decide +kernel))) rfl
theorem wd_8_154 : Cond.methodLink "WaxedPartnersModel" 469 ⟨"WaxedPartnersModel", "whyNot", "(I)I"⟩ ∈ gT := gT_in (tb_8 _ (List.mem_of_getElem? (i := 154) (by decide +kernel))) rfl
theorem wd_8_156 : Cond.instanceMethod ⟨"WaxedPartnersModel", "whyNot", "(I)I"⟩ ∈ gT := gT_in (tb_8 _ (List.mem_of_getElem? (i := 156) (by decide +kernel))) rfl
theorem wp_8_3 : Cond.selects "WaxedPartnersModel" ⟨"WaxedPartnersModel", "whyNot", "(I)I"⟩ ⟨"WaxedPartnersModel", "whyNot", "(I)I"⟩ ∈ gT := gT_in (List.mem_append_left _ (List.mem_map.mpr ⟨(⟨"WaxedPartnersModel", "whyNot", "(I)I"⟩, _), pv_8 _ (List.mem_of_getElem? (i := 3) rfl), rfl⟩)) rfl
theorem wd_8_158 : Cond.methodLink "WaxedPartnersModel" 472 ⟨"WaxedPartnersModel", "laysTrues", "(I)V"⟩ ∈ gT := gT_in (tb_8 _ (List.mem_of_getElem? (i := 158) (by decide +kernel))) rfl
theorem wd_8_160 : Cond.instanceMethod ⟨"WaxedPartnersModel", "laysTrues", "(I)V"⟩ ∈ gT := gT_in (tb_8 _ (List.mem_of_getElem? (i := 160) (by decide +kernel))) rfl
theorem wp_8_4 : Cond.selects "WaxedPartnersModel" ⟨"WaxedPartnersModel", "laysTrues", "(I)V"⟩ ⟨"WaxedPartnersModel", "laysTrues", "(I)V"⟩ ∈ gT := gT_in (List.mem_append_left _ (List.mem_map.mpr ⟨(⟨"WaxedPartnersModel", "laysTrues", "(I)V"⟩, _), pv_8 _ (List.mem_of_getElem? (i := 4) rfl), rfl⟩)) rfl
theorem wd_8_198 : Cond.methodLink "WaxedPartnersModel" 475 ⟨"WaxedPartnersModel", "getsBy", "(IIIII)I"⟩ ∈ gT := gT_in (tb_8 _ (List.mem_of_getElem? (i := 198) (by decide +kernel))) rfl
theorem wd_8_200 : Cond.instanceMethod ⟨"WaxedPartnersModel", "getsBy", "(IIIII)I"⟩ ∈ gT := gT_in (tb_8 _ (List.mem_of_getElem? (i := 200) (by decide +kernel))) rfl
theorem wp_8_7 : Cond.selects "WaxedPartnersModel" ⟨"WaxedPartnersModel", "getsBy", "(IIIII)I"⟩ ⟨"WaxedPartnersModel", "getsBy", "(IIIII)I"⟩ ∈ gT := gT_in (List.mem_append_left _ (List.mem_map.mpr ⟨(⟨"WaxedPartnersModel", "getsBy", "(IIIII)I"⟩, _), pv_8 _ (List.mem_of_getElem? (i := 7) rfl), rfl⟩)) rfl
theorem wd_8_210 : Cond.methodLink "WaxedPartnersModel" 479 ⟨"WaxedPartnersModel", "bothAtLast", "(II)I"⟩ ∈ gT := gT_in (tb_8 _ (List.mem_of_getElem? (i := 210) (by decide +kernel))) rfl
theorem wd_8_212 : Cond.instanceMethod ⟨"WaxedPartnersModel", "bothAtLast", "(II)I"⟩ ∈ gT := gT_in (tb_8 _ (List.mem_of_getElem? (i := 212) (by decide +kernel))) rfl
theorem wp_8_8 : Cond.selects "WaxedPartnersModel" ⟨"WaxedPartnersModel", "bothAtLast", "(II)I"⟩ ⟨"WaxedPartnersModel", "bothAtLast", "(II)I"⟩ ∈ gT := gT_in (List.mem_append_left _ (List.mem_map.mpr ⟨(⟨"WaxedPartnersModel", "bothAtLast", "(II)I"⟩, _), pv_8 _ (List.mem_of_getElem? (i := 8) rfl), rfl⟩)) rfl
theorem wd_8_218 : Cond.methodLink "WaxedPartnersModel" 482 ⟨"WaxedPartnersModel", "weightOf", "(III)I"⟩ ∈ gT := gT_in (tb_8 _ (List.mem_of_getElem? (i := 218) (by decide +kernel))) rfl
theorem wd_8_220 : Cond.instanceMethod ⟨"WaxedPartnersModel", "weightOf", "(III)I"⟩ ∈ gT := gT_in (tb_8 _ (List.mem_of_getElem? (i := 220) (by decide +kernel))) rfl
theorem wp_8_9 : Cond.selects "WaxedPartnersModel" ⟨"WaxedPartnersModel", "weightOf", "(III)I"⟩ ⟨"WaxedPartnersModel", "weightOf", "(III)I"⟩ ∈ gT := gT_in (List.mem_append_left _ (List.mem_map.mpr ⟨(⟨"WaxedPartnersModel", "weightOf", "(III)I"⟩, _), pv_8 _ (List.mem_of_getElem? (i := 9) rfl), rfl⟩)) rfl
theorem wd_8_222 : Cond.methodLink "WaxedPartnersModel" 485 ⟨"WaxedPartnersModel", "tens", "()I"⟩ ∈ gT := gT_in (tb_8 _ (List.mem_of_getElem? (i := 222) (by decide +kernel))) rfl
theorem wd_8_224 : Cond.instanceMethod ⟨"WaxedPartnersModel", "tens", "()I"⟩ ∈ gT := gT_in (tb_8 _ (List.mem_of_getElem? (i := 224) (by decide +kernel))) rfl
theorem wp_8_10 : Cond.selects "WaxedPartnersModel" ⟨"WaxedPartnersModel", "tens", "()I"⟩ ⟨"WaxedPartnersModel", "tens", "()I"⟩ ∈ gT := gT_in (List.mem_append_left _ (List.mem_map.mpr ⟨(⟨"WaxedPartnersModel", "tens", "()I"⟩, _), pv_8 _ (List.mem_of_getElem? (i := 10) rfl), rfl⟩)) rfl
theorem wd_9_6 : Cond.constantLong "WaxedPartnersModel" 488 (1103515245 : Int64) ∈ gT := gT_in (tb_9 _ (List.mem_of_getElem? (i := 6) (by decide +kernel))) rfl
theorem wd_9_7 : Cond.constantLong "WaxedPartnersModel" 490 (12345 : Int64) ∈ gT := gT_in (tb_9 _ (List.mem_of_getElem? (i := 7) (by decide +kernel))) rfl
theorem wd_9_8 : Cond.constantLong "WaxedPartnersModel" 492 (2147483648 : Int64) ∈ gT := gT_in (tb_9 _ (List.mem_of_getElem? (i := 8) (by decide +kernel))) rfl
theorem wd_9_9 : Cond.constantLong "WaxedPartnersModel" 494 (65536 : Int64) ∈ gT := gT_in (tb_9 _ (List.mem_of_getElem? (i := 9) (by decide +kernel))) rfl
theorem wd_9_10 : Cond.constantLong "WaxedPartnersModel" 496 (10 : Int64) ∈ gT := gT_in (tb_9 _ (List.mem_of_getElem? (i := 10) (by decide +kernel))) rfl
theorem wd_9_1 : Cond.constantLong "WaxedPartnersModel" 498 (2000000000 : Int64) ∈ gT := gT_in (tb_9 _ (List.mem_of_getElem? (i := 1) (by decide +kernel))) rfl
theorem wd_8_238 : Cond.methodLink "WaxedPartnersModel" 500 ⟨"WaxedPartnersModel", "isSeed", "(I)Z"⟩ ∈ gT := gT_in (tb_8 _ (List.mem_of_getElem? (i := 238) (by decide +kernel))) rfl
theorem wd_8_239 : Cond.static ⟨"WaxedPartnersModel", "isSeed", "(I)Z"⟩ ∈ gT := gT_in (tb_8 _ (List.mem_of_getElem? (i := 239) (by decide +kernel))) rfl
theorem wd_9_2 : Cond.methodLink "WaxedPartnersModel" 503 ⟨"WaxedPartnersModel", "draws", "(J)V"⟩ ∈ gT := gT_in (tb_9 _ (List.mem_of_getElem? (i := 2) (by decide +kernel))) rfl
theorem wd_9_4 : Cond.instanceMethod ⟨"WaxedPartnersModel", "draws", "(J)V"⟩ ∈ gT := gT_in (tb_9 _ (List.mem_of_getElem? (i := 4) (by decide +kernel))) rfl
theorem wp_8_11 : Cond.selects "WaxedPartnersModel" ⟨"WaxedPartnersModel", "draws", "(J)V"⟩ ⟨"WaxedPartnersModel", "draws", "(J)V"⟩ ∈ gT := gT_in (List.mem_append_left _ (List.mem_map.mpr ⟨(⟨"WaxedPartnersModel", "draws", "(J)V"⟩, _), pv_8 _ (List.mem_of_getElem? (i := 11) rfl), rfl⟩)) rfl
theorem wd_9_15 : Cond.constantLong "WaxedPartnersModel" 506 (20 : Int64) ∈ gT := gT_in (tb_9 _ (List.mem_of_getElem? (i := 15) (by decide +kernel))) rfl
theorem wd_9_20 : Cond.constantLong "WaxedPartnersModel" 508 (9 : Int64) ∈ gT := gT_in (tb_9 _ (List.mem_of_getElem? (i := 20) (by decide +kernel))) rfl
theorem wd_9_21 : Cond.methodLink "WaxedPartnersModel" 510 ⟨"WaxedPartnersModel", "does", "(IIII)V"⟩ ∈ gT := gT_in (tb_9 _ (List.mem_of_getElem? (i := 21) (by decide +kernel))) rfl
theorem wd_9_23 : Cond.instanceMethod ⟨"WaxedPartnersModel", "does", "(IIII)V"⟩ ∈ gT := gT_in (tb_9 _ (List.mem_of_getElem? (i := 23) (by decide +kernel))) rfl
theorem wp_8_12 : Cond.selects "WaxedPartnersModel" ⟨"WaxedPartnersModel", "does", "(IIII)V"⟩ ⟨"WaxedPartnersModel", "does", "(IIII)V"⟩ ∈ gT := gT_in (List.mem_append_left _ (List.mem_map.mpr ⟨(⟨"WaxedPartnersModel", "does", "(IIII)V"⟩, _), pv_8 _ (List.mem_of_getElem? (i := 12) rfl), rfl⟩)) rfl
theorem wd_9_45 : Cond.constantLong "WaxedPartnersModel" 514 (8 : Int64) ∈ gT := gT_in (tb_9 _ (List.mem_of_getElem? (i := 45) (by decide +kernel))) rfl
theorem wd_6_0 : Cond.fieldLink "WaxedPartnersModel" 52 "WaxedPartnersModel" "isKept" "[Z" ∈ gT := gT_in (tb_6 _ (List.mem_of_getElem? (i := 0) (by decide +kernel))) rfl
theorem wd_3_231 : Cond.constant "java/lang/Integer" 265 (1431655765 : Int32) ∈ gT := gT_in (tb_3 _ (List.mem_of_getElem? (i := 231) (by decide +kernel))) rfl
theorem wd_3_232 : Cond.constant "java/lang/Integer" 266 (858993459 : Int32) ∈ gT := gT_in (tb_3 _ (List.mem_of_getElem? (i := 232) (by decide +kernel))) rfl
theorem wd_3_233 : Cond.constant "java/lang/Integer" 267 (252645135 : Int32) ∈ gT := gT_in (tb_3 _ (List.mem_of_getElem? (i := 233) (by decide +kernel))) rfl
theorem wd_9_55 : Cond.fieldLink "java/lang/String" 9 "java/lang/String" "value" "[B" ∈ gT := gT_in (tb_9 _ (List.mem_of_getElem? (i := 55) (by decide +kernel))) rfl
theorem wd_2_221 : Cond.methodLink "java/lang/String" 335 ⟨"java/lang/String", "coder", "()B"⟩ ∈ gT := gT_in (tb_2 _ (List.mem_of_getElem? (i := 221) (by decide +kernel))) rfl
theorem wd_2_222 : Cond.instanceMethod ⟨"java/lang/String", "coder", "()B"⟩ ∈ gT := gT_in (tb_2 _ (List.mem_of_getElem? (i := 222) (by decide +kernel))) rfl
theorem wd_2_223 : Cond.selects "java/lang/String" ⟨"java/lang/String", "coder", "()B"⟩ ⟨"java/lang/String", "coder", "()B"⟩ ∈ gT := gT_in (tb_2 _ (List.mem_of_getElem? (i := 223) (by decide +kernel))) rfl
theorem wd_2_231 : Cond.methodLink "java/lang/String" 492 ⟨"java/lang/String", "isLatin1", "()Z"⟩ ∈ gT := gT_in (tb_2 _ (List.mem_of_getElem? (i := 231) (by decide +kernel))) rfl
theorem wd_2_232 : Cond.instanceMethod ⟨"java/lang/String", "isLatin1", "()Z"⟩ ∈ gT := gT_in (tb_2 _ (List.mem_of_getElem? (i := 232) (by decide +kernel))) rfl
theorem wd_2_233 : Cond.selects "java/lang/String" ⟨"java/lang/String", "isLatin1", "()Z"⟩ ⟨"java/lang/String", "isLatin1", "()Z"⟩ ∈ gT := gT_in (tb_2 _ (List.mem_of_getElem? (i := 233) (by decide +kernel))) rfl
theorem wd_2_235 : Cond.methodLink "java/lang/String" 495 ⟨"java/lang/StringLatin1", "charAt", "([BI)C"⟩ ∈ gT := gT_in (tb_2 _ (List.mem_of_getElem? (i := 235) (by decide +kernel))) rfl
theorem wd_2_236 : Cond.static ⟨"java/lang/StringLatin1", "charAt", "([BI)C"⟩ ∈ gT := gT_in (tb_2 _ (List.mem_of_getElem? (i := 236) (by decide +kernel))) rfl
theorem wd_2_225 : Cond.fieldLink "java/lang/String" 38 "java/lang/String" "COMPACT_STRINGS" "Z" ∈ gT := gT_in (tb_2 _ (List.mem_of_getElem? (i := 225) (by decide +kernel))) rfl
theorem wd_9_56 : Cond.fieldLink "java/lang/String" 15 "java/lang/String" "coder" "B" ∈ gT := gT_in (tb_9 _ (List.mem_of_getElem? (i := 56) (by decide +kernel))) rfl
theorem wd_3_1 : Cond.fieldLink "java/lang/String" 1053 "jdk/internal/util/Preconditions" "SIOOBE_FORMATTER" "Ljava/util/function/BiFunction;" ∈ gT := gT_in (tb_3 _ (List.mem_of_getElem? (i := 1) (by decide +kernel))) rfl
theorem wd_3_3 : Cond.methodLink "java/lang/String" 1059 ⟨"jdk/internal/util/Preconditions", "checkIndex", "(IILjava/util/function/BiFunction;)I"⟩ ∈ gT := gT_in (tb_3 _ (List.mem_of_getElem? (i := 3) (by decide +kernel))) rfl
theorem wd_3_4 : Cond.static ⟨"jdk/internal/util/Preconditions", "checkIndex", "(IILjava/util/function/BiFunction;)I"⟩ ∈ gT := gT_in (tb_3 _ (List.mem_of_getElem? (i := 4) (by decide +kernel))) rfl
theorem wd_2_238 : Cond.methodLink "java/lang/StringLatin1" 9 ⟨"java/lang/String", "checkIndex", "(II)V"⟩ ∈ gT := gT_in (tb_2 _ (List.mem_of_getElem? (i := 238) (by decide +kernel))) rfl
theorem wd_2_239 : Cond.static ⟨"java/lang/String", "checkIndex", "(II)V"⟩ ∈ gT := gT_in (tb_2 _ (List.mem_of_getElem? (i := 239) (by decide +kernel))) rfl
