/-! words, by their places -/
theorem wd_3_160 : Cond.methodLink "WaxedPartners$Decade" 76 ⟨"WaxedPartners$Decade", "failingIn", "(LWaxedPartners$Town;I)I"⟩ ∈ gT := gT_in (tb_3 _ (List.mem_of_getElem? (i := 160) (by decide +kernel))) rfl
theorem wd_3_162 : Cond.instanceMethod ⟨"WaxedPartners$Decade", "failingIn", "(LWaxedPartners$Town;I)I"⟩ ∈ gT := gT_in (tb_3 _ (List.mem_of_getElem? (i := 162) (by decide +kernel))) rfl
theorem wp_2_5 : Cond.selects "WaxedPartners$Decade" ⟨"WaxedPartners$Decade", "failingIn", "(LWaxedPartners$Town;I)I"⟩ ⟨"WaxedPartners$Decade", "failingIn", "(LWaxedPartners$Town;I)I"⟩ ∈ gT := gT_in (List.mem_append_left _ (List.mem_map.mpr ⟨(⟨"WaxedPartners$Decade", "failingIn", "(LWaxedPartners$Town;I)I"⟩, _), pv_2 _ (List.mem_of_getElem? (i := 5) rfl), rfl⟩)) rfl
theorem wd_2_41 : Cond.fieldLink "WaxedPartners$Decade" 27 "WaxedPartners$Decade" "outs" "[I" ∈ gT := gT_in (tb_2 _ (List.mem_of_getElem? (i := 41) (by decide +kernel))) rfl
theorem wd_2_39 : Cond.fieldLink "WaxedPartners$Decade" 24 "WaxedPartners$Decade" "helds" "[I" ∈ gT := gT_in (tb_2 _ (List.mem_of_getElem? (i := 39) (by decide +kernel))) rfl
theorem wd_3_175 : Cond.methodLink "WaxedPartners$Decade" 80 ⟨"WaxedPartners$Decade", "toldHeld", "(LWaxedPartners$Town;II)I"⟩ ∈ gT := gT_in (tb_3 _ (List.mem_of_getElem? (i := 175) (by decide +kernel))) rfl
theorem wd_3_177 : Cond.instanceMethod ⟨"WaxedPartners$Decade", "toldHeld", "(LWaxedPartners$Town;II)I"⟩ ∈ gT := gT_in (tb_3 _ (List.mem_of_getElem? (i := 177) (by decide +kernel))) rfl
theorem wp_2_6 : Cond.selects "WaxedPartners$Decade" ⟨"WaxedPartners$Decade", "toldHeld", "(LWaxedPartners$Town;II)I"⟩ ⟨"WaxedPartners$Decade", "toldHeld", "(LWaxedPartners$Town;II)I"⟩ ∈ gT := gT_in (List.mem_append_left _ (List.mem_map.mpr ⟨(⟨"WaxedPartners$Decade", "toldHeld", "(LWaxedPartners$Town;II)I"⟩, _), pv_2 _ (List.mem_of_getElem? (i := 6) rfl), rfl⟩)) rfl
theorem wd_2_43 : Cond.fieldLink "WaxedPartners$Decade" 30 "WaxedPartners$Decade" "sicks" "[I" ∈ gT := gT_in (tb_2 _ (List.mem_of_getElem? (i := 43) (by decide +kernel))) rfl
theorem wd_3_179 : Cond.methodLink "WaxedPartners$Decade" 84 ⟨"WaxedPartners$Decade", "catching", "(LWaxedPartners$Town;I)I"⟩ ∈ gT := gT_in (tb_3 _ (List.mem_of_getElem? (i := 179) (by decide +kernel))) rfl
theorem wd_3_181 : Cond.instanceMethod ⟨"WaxedPartners$Decade", "catching", "(LWaxedPartners$Town;I)I"⟩ ∈ gT := gT_in (tb_3 _ (List.mem_of_getElem? (i := 181) (by decide +kernel))) rfl
theorem wp_2_7 : Cond.selects "WaxedPartners$Decade" ⟨"WaxedPartners$Decade", "catching", "(LWaxedPartners$Town;I)I"⟩ ⟨"WaxedPartners$Decade", "catching", "(LWaxedPartners$Town;I)I"⟩ ∈ gT := gT_in (List.mem_append_left _ (List.mem_map.mpr ⟨(⟨"WaxedPartners$Decade", "catching", "(LWaxedPartners$Town;I)I"⟩, _), pv_2 _ (List.mem_of_getElem? (i := 7) rfl), rfl⟩)) rfl
theorem wd_2_34 : Cond.fieldLink "WaxedPartners$Decade" 87 "WaxedPartners$Decade" "joins" "I" ∈ gT := gT_in (tb_2 _ (List.mem_of_getElem? (i := 34) (by decide +kernel))) rfl
theorem wd_1_110 : Cond.fieldLink "WaxedPartners$Decade" 90 "WaxedPartners$Town" "joins" "I" ∈ gT := gT_in (tb_1 _ (List.mem_of_getElem? (i := 110) (by decide +kernel))) rfl
theorem wd_3_118 : Cond.methodLinkNest "WaxedPartners$Decade" 93 ⟨"WaxedPartners", "has", "(II)Z"⟩ "WaxedPartners" ∈ gNst := List.mem_filter.mpr ⟨tb_3 _ (List.mem_of_getElem? (i := 118) (by decide +kernel)), rfl⟩
theorem wd_1_143 : Cond.fieldLink "WaxedPartners$Decade" 97 "WaxedPartners$Town" "waxes" "[I" ∈ gT := gT_in (tb_1 _ (List.mem_of_getElem? (i := 143) (by decide +kernel))) rfl
theorem wd_1_135 : Cond.fieldLink "WaxedPartners$Decade" 100 "WaxedPartners$Town" "firsts" "[I" ∈ gT := gT_in (tb_1 _ (List.mem_of_getElem? (i := 135) (by decide +kernel))) rfl
theorem wd_1_139 : Cond.fieldLink "WaxedPartners$Decade" 101 "WaxedPartners$Town" "seconds" "[I" ∈ gT := gT_in (tb_1 _ (List.mem_of_getElem? (i := 139) (by decide +kernel))) rfl
theorem wd_3_121 : Cond.methodLink "WaxedPartners$Decade" 102 ⟨"WaxedPartners$Decade", "gather", "(LWaxedPartners$Town;IIIII)V"⟩ ∈ gT := gT_in (tb_3 _ (List.mem_of_getElem? (i := 121) (by decide +kernel))) rfl
theorem wd_3_123 : Cond.instanceMethod ⟨"WaxedPartners$Decade", "gather", "(LWaxedPartners$Town;IIIII)V"⟩ ∈ gT := gT_in (tb_3 _ (List.mem_of_getElem? (i := 123) (by decide +kernel))) rfl
theorem wp_1_15 : Cond.selects "WaxedPartners$Decade" ⟨"WaxedPartners$Decade", "gather", "(LWaxedPartners$Town;IIIII)V"⟩ ⟨"WaxedPartners$Decade", "gather", "(LWaxedPartners$Town;IIIII)V"⟩ ∈ gT := gT_in (List.mem_append_left _ (List.mem_map.mpr ⟨(⟨"WaxedPartners$Decade", "gather", "(LWaxedPartners$Town;IIIII)V"⟩, _), pv_1 _ (List.mem_of_getElem? (i := 15) rfl), rfl⟩)) rfl
theorem wd_1_158 : Cond.fieldLink "WaxedPartners$Decade" 106 "WaxedPartners$Town" "acts" "LWaxedPartners$Acts;" ∈ gT := gT_in (tb_1 _ (List.mem_of_getElem? (i := 158) (by decide +kernel))) rfl
theorem wd_1_71 : Cond.fieldLink "WaxedPartners$Decade" 110 "WaxedPartners$Acts" "given" "I" ∈ gT := gT_in (tb_1 _ (List.mem_of_getElem? (i := 71) (by decide +kernel))) rfl
theorem wd_1_68 : Cond.fieldLink "WaxedPartners$Decade" 115 "WaxedPartners$Acts" "waxes" "[I" ∈ gT := gT_in (tb_1 _ (List.mem_of_getElem? (i := 68) (by decide +kernel))) rfl
theorem wd_1_66 : Cond.fieldLink "WaxedPartners$Decade" 116 "WaxedPartners$Acts" "years" "[I" ∈ gT := gT_in (tb_1 _ (List.mem_of_getElem? (i := 66) (by decide +kernel))) rfl
theorem wd_1_62 : Cond.fieldLink "WaxedPartners$Decade" 119 "WaxedPartners$Acts" "firsts" "[I" ∈ gT := gT_in (tb_1 _ (List.mem_of_getElem? (i := 62) (by decide +kernel))) rfl
theorem wd_1_64 : Cond.fieldLink "WaxedPartners$Decade" 120 "WaxedPartners$Acts" "seconds" "[I" ∈ gT := gT_in (tb_1 _ (List.mem_of_getElem? (i := 64) (by decide +kernel))) rfl
theorem wd_3_125 : Cond.methodLink "WaxedPartners$Decade" 121 ⟨"WaxedPartners$Acts", "cutOf", "(IIII)I"⟩ ∈ gT := gT_in (tb_3 _ (List.mem_of_getElem? (i := 125) (by decide +kernel))) rfl
theorem wd_3_126 : Cond.instanceMethod ⟨"WaxedPartners$Acts", "cutOf", "(IIII)I"⟩ ∈ gT := gT_in (tb_3 _ (List.mem_of_getElem? (i := 126) (by decide +kernel))) rfl
theorem wd_3_127 : Cond.selects "WaxedPartners$Acts" ⟨"WaxedPartners$Acts", "cutOf", "(IIII)I"⟩ ⟨"WaxedPartners$Acts", "cutOf", "(IIII)I"⟩ ∈ gT := gT_in (tb_3 _ (List.mem_of_getElem? (i := 127) (by decide +kernel))) rfl
theorem wd_3_134 : Cond.methodLink "WaxedPartners$Decade" 125 ⟨"java/lang/Math", "min", "(II)I"⟩ ∈ gT := gT_in (tb_3 _ (List.mem_of_getElem? (i := 134) (by decide +kernel))) rfl
theorem wd_2_35 : Cond.fieldLink "WaxedPartners$Decade" 11 "WaxedPartners$Decade" "firsts" "[I" ∈ gT := gT_in (tb_2 _ (List.mem_of_getElem? (i := 35) (by decide +kernel))) rfl
theorem wd_2_36 : Cond.fieldLink "WaxedPartners$Decade" 15 "WaxedPartners$Decade" "seconds" "[I" ∈ gT := gT_in (tb_2 _ (List.mem_of_getElem? (i := 36) (by decide +kernel))) rfl
theorem wd_2_37 : Cond.fieldLink "WaxedPartners$Decade" 18 "WaxedPartners$Decade" "froms" "[I" ∈ gT := gT_in (tb_2 _ (List.mem_of_getElem? (i := 37) (by decide +kernel))) rfl
theorem wd_2_38 : Cond.fieldLink "WaxedPartners$Decade" 21 "WaxedPartners$Decade" "untils" "[I" ∈ gT := gT_in (tb_2 _ (List.mem_of_getElem? (i := 38) (by decide +kernel))) rfl
theorem wd_1_107 : Cond.fieldLink "WaxedPartners$Decade" 131 "WaxedPartners$Town" "partners" "I" ∈ gT := gT_in (tb_1 _ (List.mem_of_getElem? (i := 107) (by decide +kernel))) rfl
theorem wd_2_45 : Cond.fieldLink "WaxedPartners$Decade" 35 "WaxedPartners$Decade" "worths" "[[I" ∈ gT := gT_in (tb_2 _ (List.mem_of_getElem? (i := 45) (by decide +kernel))) rfl
theorem wd_1_128 : Cond.fieldLink "WaxedPartners$Decade" 134 "WaxedPartners$Town" "worths" "[I" ∈ gT := gT_in (tb_1 _ (List.mem_of_getElem? (i := 128) (by decide +kernel))) rfl
theorem wd_3_139 : Cond.methodLink "WaxedPartners$Decade" 136 ⟨"WaxedPartners$Decade", "change", "(LWaxedPartners$Town;II)I"⟩ ∈ gT := gT_in (tb_3 _ (List.mem_of_getElem? (i := 139) (by decide +kernel))) rfl
theorem wd_3_141 : Cond.instanceMethod ⟨"WaxedPartners$Decade", "change", "(LWaxedPartners$Town;II)I"⟩ ∈ gT := gT_in (tb_3 _ (List.mem_of_getElem? (i := 141) (by decide +kernel))) rfl
theorem wp_2_2 : Cond.selects "WaxedPartners$Decade" ⟨"WaxedPartners$Decade", "change", "(LWaxedPartners$Town;II)I"⟩ ⟨"WaxedPartners$Decade", "change", "(LWaxedPartners$Town;II)I"⟩ ∈ gT := gT_in (List.mem_append_left _ (List.mem_map.mpr ⟨(⟨"WaxedPartners$Decade", "change", "(LWaxedPartners$Town;II)I"⟩, _), pv_2 _ (List.mem_of_getElem? (i := 2) rfl), rfl⟩)) rfl
theorem wd_1_133 : Cond.fieldLink "WaxedPartners$Decade" 139 "WaxedPartners$Town" "gains" "[I" ∈ gT := gT_in (tb_1 _ (List.mem_of_getElem? (i := 133) (by decide +kernel))) rfl
theorem wd_1_98 : Cond.fieldLink "WaxedPartners$Decade" 142 "WaxedPartners$Town" "slump" "I" ∈ gT := gT_in (tb_1 _ (List.mem_of_getElem? (i := 98) (by decide +kernel))) rfl
theorem wd_2_47 : Cond.fieldLink "WaxedPartners$Decade" 38 "WaxedPartners$Decade" "ties" "[[I" ∈ gT := gT_in (tb_2 _ (List.mem_of_getElem? (i := 47) (by decide +kernel))) rfl
theorem wd_2_48 : Cond.fieldLink "WaxedPartners$Decade" 41 "WaxedPartners$Decade" "firmSets" "[[I" ∈ gT := gT_in (tb_2 _ (List.mem_of_getElem? (i := 48) (by decide +kernel))) rfl
theorem wd_3_147 : Cond.methodLink "WaxedPartners$Decade" 145 ⟨"WaxedPartners$Decade", "holdsIn", "(III)Z"⟩ ∈ gT := gT_in (tb_3 _ (List.mem_of_getElem? (i := 147) (by decide +kernel))) rfl
theorem wd_3_149 : Cond.instanceMethod ⟨"WaxedPartners$Decade", "holdsIn", "(III)Z"⟩ ∈ gT := gT_in (tb_3 _ (List.mem_of_getElem? (i := 149) (by decide +kernel))) rfl
theorem wp_2_4 : Cond.selects "WaxedPartners$Decade" ⟨"WaxedPartners$Decade", "holdsIn", "(III)Z"⟩ ⟨"WaxedPartners$Decade", "holdsIn", "(III)Z"⟩ ∈ gT := gT_in (List.mem_append_left _ (List.mem_map.mpr ⟨(⟨"WaxedPartners$Decade", "holdsIn", "(III)Z"⟩, _), pv_2 _ (List.mem_of_getElem? (i := 4) rfl), rfl⟩)) rfl
theorem wd_3_151 : Cond.methodLink "WaxedPartners$Decade" 149 ⟨"WaxedPartners$Decade", "reach", "([II)I"⟩ ∈ gT := gT_in (tb_3 _ (List.mem_of_getElem? (i := 151) (by decide +kernel))) rfl
theorem wd_3_152 : Cond.static ⟨"WaxedPartners$Decade", "reach", "([II)I"⟩ ∈ gT := gT_in (tb_3 _ (List.mem_of_getElem? (i := 152) (by decide +kernel))) rfl
theorem wd_3_157 : Cond.methodLink "WaxedPartners$Decade" 153 ⟨"WaxedPartners$Decade", "giveFirm", "([II)V"⟩ ∈ gT := gT_in (tb_3 _ (List.mem_of_getElem? (i := 157) (by decide +kernel))) rfl
theorem wd_3_158 : Cond.static ⟨"WaxedPartners$Decade", "giveFirm", "([II)V"⟩ ∈ gT := gT_in (tb_3 _ (List.mem_of_getElem? (i := 158) (by decide +kernel))) rfl
theorem wd_3_154 : Cond.methodLink "WaxedPartners$Decade" 157 ⟨"WaxedPartners$Decade", "tiedTo", "([II)I"⟩ ∈ gT := gT_in (tb_3 _ (List.mem_of_getElem? (i := 154) (by decide +kernel))) rfl
theorem wd_3_155 : Cond.static ⟨"WaxedPartners$Decade", "tiedTo", "([II)I"⟩ ∈ gT := gT_in (tb_3 _ (List.mem_of_getElem? (i := 155) (by decide +kernel))) rfl
theorem wd_3_164 : Cond.methodLink "WaxedPartners$Decade" 160 ⟨"WaxedPartners$Decade", "isFirstOfFirm", "(II)Z"⟩ ∈ gT := gT_in (tb_3 _ (List.mem_of_getElem? (i := 164) (by decide +kernel))) rfl
theorem wd_3_165 : Cond.instanceMethod ⟨"WaxedPartners$Decade", "isFirstOfFirm", "(II)Z"⟩ ∈ gT := gT_in (tb_3 _ (List.mem_of_getElem? (i := 165) (by decide +kernel))) rfl
theorem wd_3_166 : Cond.selects "WaxedPartners$Decade" ⟨"WaxedPartners$Decade", "isFirstOfFirm", "(II)Z"⟩ ⟨"WaxedPartners$Decade", "isFirstOfFirm", "(II)Z"⟩ ∈ gT := gT_in (tb_3 _ (List.mem_of_getElem? (i := 166) (by decide +kernel))) rfl
theorem wd_3_171 : Cond.methodLink "WaxedPartners$Decade" 163 ⟨"WaxedPartners$Decade", "worthOf", "(II)I"⟩ ∈ gT := gT_in (tb_3 _ (List.mem_of_getElem? (i := 171) (by decide +kernel))) rfl
theorem wd_3_172 : Cond.instanceMethod ⟨"WaxedPartners$Decade", "worthOf", "(II)I"⟩ ∈ gT := gT_in (tb_3 _ (List.mem_of_getElem? (i := 172) (by decide +kernel))) rfl
theorem wd_3_173 : Cond.selects "WaxedPartners$Decade" ⟨"WaxedPartners$Decade", "worthOf", "(II)I"⟩ ⟨"WaxedPartners$Decade", "worthOf", "(II)I"⟩ ∈ gT := gT_in (tb_3 _ (List.mem_of_getElem? (i := 173) (by decide +kernel))) rfl
theorem wd_1_121 : Cond.fieldLink "WaxedPartners$Decade" 166 "WaxedPartners$Town" "colds" "I" ∈ gT := gT_in (tb_1 _ (List.mem_of_getElem? (i := 121) (by decide +kernel))) rfl
theorem wd_1_156 : Cond.fieldLink "WaxedPartners$Decade" 169 "WaxedPartners$Town" "sickAt" "[I" ∈ gT := gT_in (tb_1 _ (List.mem_of_getElem? (i := 156) (by decide +kernel))) rfl
theorem wd_1_153 : Cond.fieldLink "WaxedPartners$Decade" 172 "WaxedPartners$Town" "sick" "[I" ∈ gT := gT_in (tb_1 _ (List.mem_of_getElem? (i := 153) (by decide +kernel))) rfl
theorem wd_3_168 : Cond.methodLinkNest "WaxedPartners$Decade" 175 ⟨"WaxedPartners", "allOf", "(I)I"⟩ "WaxedPartners" ∈ gNst := List.mem_filter.mpr ⟨tb_3 _ (List.mem_of_getElem? (i := 168) (by decide +kernel)), rfl⟩
theorem wd_3_169 : Cond.static ⟨"WaxedPartners", "allOf", "(I)I"⟩ ∈ gT := gT_in (tb_3 _ (List.mem_of_getElem? (i := 169) (by decide +kernel))) rfl
theorem wd_3_216 : Cond.methodLink "WaxedPartners$Decade" 179 ⟨"WaxedPartners$Decade", "joinsAmong", "(II)I"⟩ ∈ gT := gT_in (tb_3 _ (List.mem_of_getElem? (i := 216) (by decide +kernel))) rfl
theorem wd_3_218 : Cond.instanceMethod ⟨"WaxedPartners$Decade", "joinsAmong", "(II)I"⟩ ∈ gT := gT_in (tb_3 _ (List.mem_of_getElem? (i := 218) (by decide +kernel))) rfl
theorem wp_2_8 : Cond.selects "WaxedPartners$Decade" ⟨"WaxedPartners$Decade", "joinsAmong", "(II)I"⟩ ⟨"WaxedPartners$Decade", "joinsAmong", "(II)I"⟩ ∈ gT := gT_in (List.mem_append_left _ (List.mem_map.mpr ⟨(⟨"WaxedPartners$Decade", "joinsAmong", "(II)I"⟩, _), pv_2 _ (List.mem_of_getElem? (i := 8) rfl), rfl⟩)) rfl
theorem wd_3_220 : Cond.methodLink "WaxedPartners$Decade" 182 ⟨"WaxedPartners$Town", "widthOf", "(III)I"⟩ ∈ gT := gT_in (tb_3 _ (List.mem_of_getElem? (i := 220) (by decide +kernel))) rfl
theorem wd_4_2 : Cond.methodLink "WaxedPartners$Decade" 186 ⟨"WaxedPartners$Decade", "firmWidth", "(LWaxedPartners$Town;III)I"⟩ ∈ gT := gT_in (tb_4 _ (List.mem_of_getElem? (i := 2) (by decide +kernel))) rfl
theorem wd_3_213 : Cond.instanceMethod ⟨"WaxedPartners$Decade", "firmWidth", "(LWaxedPartners$Town;III)I"⟩ ∈ gT := gT_in (tb_3 _ (List.mem_of_getElem? (i := 213) (by decide +kernel))) rfl
theorem wd_3_214 : Cond.selects "WaxedPartners$Decade" ⟨"WaxedPartners$Decade", "firmWidth", "(LWaxedPartners$Town;III)I"⟩ ⟨"WaxedPartners$Decade", "firmWidth", "(LWaxedPartners$Town;III)I"⟩ ∈ gT := gT_in (tb_3 _ (List.mem_of_getElem? (i := 214) (by decide +kernel))) rfl
theorem wd_1_117 : Cond.fieldLink "WaxedPartners$Decade" 190 "WaxedPartners$Town" "doors" "I" ∈ gT := gT_in (tb_1 _ (List.mem_of_getElem? (i := 117) (by decide +kernel))) rfl
theorem wd_1_150 : Cond.fieldLink "WaxedPartners$Decade" 193 "WaxedPartners$Town" "doorWides" "[I" ∈ gT := gT_in (tb_1 _ (List.mem_of_getElem? (i := 150) (by decide +kernel))) rfl
theorem wd_2_0 : Cond.fieldLink "WaxedPartners$Gum" 15 "WaxedPartners$Numbers" "size" "I" ∈ gT := gT_in (tb_2 _ (List.mem_of_getElem? (i := 0) (by decide +kernel))) rfl
theorem wd_1_236 : Cond.fieldLink "WaxedPartners$Gum" 21 "WaxedPartners$Numbers" "values" "[J" ∈ gT := gT_in (tb_1 _ (List.mem_of_getElem? (i := 236) (by decide +kernel))) rfl
theorem wd_1_104 : Cond.fieldLink "WaxedPartners$Gum" 25 "WaxedPartners$Town" "partners" "I" ∈ gT := gT_in (tb_1 _ (List.mem_of_getElem? (i := 104) (by decide +kernel))) rfl
theorem wd_4_233 : Cond.methodLink "WaxedPartners$Gum" 30 ⟨"WaxedPartners$Gum", "isBelow", "(JI)Z"⟩ ∈ gT := gT_in (tb_4 _ (List.mem_of_getElem? (i := 233) (by decide +kernel))) rfl
theorem wd_4_234 : Cond.static ⟨"WaxedPartners$Gum", "isBelow", "(JI)Z"⟩ ∈ gT := gT_in (tb_4 _ (List.mem_of_getElem? (i := 234) (by decide +kernel))) rfl
theorem wd_1_115 : Cond.fieldLink "WaxedPartners$Gum" 34 "WaxedPartners$Town" "doors" "I" ∈ gT := gT_in (tb_1 _ (List.mem_of_getElem? (i := 115) (by decide +kernel))) rfl
theorem wd_5_6 : Cond.methodLink "WaxedPartners$Gum" 37 ⟨"WaxedPartners$Town", "hasPartner", "(I)Z"⟩ ∈ gT := gT_in (tb_5 _ (List.mem_of_getElem? (i := 6) (by decide +kernel))) rfl
theorem wd_3_75 : Cond.instanceMethod ⟨"WaxedPartners$Town", "hasPartner", "(I)Z"⟩ ∈ gT := gT_in (tb_3 _ (List.mem_of_getElem? (i := 75) (by decide +kernel))) rfl
theorem wd_3_76 : Cond.selects "WaxedPartners$Town" ⟨"WaxedPartners$Town", "hasPartner", "(I)Z"⟩ ⟨"WaxedPartners$Town", "hasPartner", "(I)Z"⟩ ∈ gT := gT_in (tb_3 _ (List.mem_of_getElem? (i := 76) (by decide +kernel))) rfl
theorem wd_5_7 : Cond.methodLink "WaxedPartners$Gum" 41 ⟨"WaxedPartners$Town", "hasDoor", "(I)Z"⟩ ∈ gT := gT_in (tb_5 _ (List.mem_of_getElem? (i := 7) (by decide +kernel))) rfl
theorem wd_3_91 : Cond.instanceMethod ⟨"WaxedPartners$Town", "hasDoor", "(I)Z"⟩ ∈ gT := gT_in (tb_3 _ (List.mem_of_getElem? (i := 91) (by decide +kernel))) rfl
theorem wd_3_92 : Cond.selects "WaxedPartners$Town" ⟨"WaxedPartners$Town", "hasDoor", "(I)Z"⟩ ⟨"WaxedPartners$Town", "hasDoor", "(I)Z"⟩ ∈ gT := gT_in (tb_3 _ (List.mem_of_getElem? (i := 92) (by decide +kernel))) rfl
theorem wd_5_8 : Cond.methodLink "WaxedPartners$Gum" 44 ⟨"WaxedPartners$Decade", "doorsOf", "(LWaxedPartners$Town;III)I"⟩ ∈ gT := gT_in (tb_5 _ (List.mem_of_getElem? (i := 8) (by decide +kernel))) rfl
theorem wd_3_239 : Cond.instanceMethod ⟨"WaxedPartners$Decade", "doorsOf", "(LWaxedPartners$Town;III)I"⟩ ∈ gT := gT_in (tb_3 _ (List.mem_of_getElem? (i := 239) (by decide +kernel))) rfl
theorem wd_4_0 : Cond.selects "WaxedPartners$Decade" ⟨"WaxedPartners$Decade", "doorsOf", "(LWaxedPartners$Town;III)I"⟩ ⟨"WaxedPartners$Decade", "doorsOf", "(LWaxedPartners$Town;III)I"⟩ ∈ gT := gT_in (tb_4 _ (List.mem_of_getElem? (i := 0) (by decide +kernel))) rfl
theorem wd_5_9 : Cond.methodLinkNest "WaxedPartners$Gum" 50 ⟨"WaxedPartners", "has", "(II)Z"⟩ "WaxedPartners" ∈ gNst := List.mem_filter.mpr ⟨tb_5 _ (List.mem_of_getElem? (i := 9) (by decide +kernel)), rfl⟩
theorem wd_1_111 : Cond.fieldLink "WaxedPartners$Gum" 54 "WaxedPartners$Town" "joins" "I" ∈ gT := gT_in (tb_1 _ (List.mem_of_getElem? (i := 111) (by decide +kernel))) rfl
theorem wd_5_0 : Cond.methodLinkNest "WaxedPartners$Gum" 57 ⟨"WaxedPartners", "allOf", "(I)I"⟩ "WaxedPartners" ∈ gNst := List.mem_filter.mpr ⟨tb_5 _ (List.mem_of_getElem? (i := 0) (by decide +kernel)), rfl⟩
theorem wd_2_108 : Cond.fieldLink "WaxedPartners$Gum" 61 "WaxedPartners$Gum" "setCount" "I" ∈ gT := gT_in (tb_2 _ (List.mem_of_getElem? (i := 108) (by decide +kernel))) rfl
theorem wd_2_110 : Cond.fieldLink "WaxedPartners$Gum" 64 "WaxedPartners$Gum" "inAll" "I" ∈ gT := gT_in (tb_2 _ (List.mem_of_getElem? (i := 110) (by decide +kernel))) rfl
theorem wd_2_112 : Cond.fieldLink "WaxedPartners$Gum" 67 "WaxedPartners$Gum" "inAny" "I" ∈ gT := gT_in (tb_2 _ (List.mem_of_getElem? (i := 112) (by decide +kernel))) rfl
theorem wd_2_114 : Cond.fieldLink "WaxedPartners$Gum" 9 "WaxedPartners$Gum" "throughs" "[I" ∈ gT := gT_in (tb_2 _ (List.mem_of_getElem? (i := 114) (by decide +kernel))) rfl
theorem wd_5_1 : Cond.methodLink "WaxedPartners$Gum" 70 ⟨"WaxedPartners$Decade", "supposeNothing", "()V"⟩ ∈ gT := gT_in (tb_5 _ (List.mem_of_getElem? (i := 1) (by decide +kernel))) rfl
theorem wd_3_107 : Cond.instanceMethod ⟨"WaxedPartners$Decade", "supposeNothing", "()V"⟩ ∈ gT := gT_in (tb_3 _ (List.mem_of_getElem? (i := 107) (by decide +kernel))) rfl
theorem wd_3_108 : Cond.selects "WaxedPartners$Decade" ⟨"WaxedPartners$Decade", "supposeNothing", "()V"⟩ ⟨"WaxedPartners$Decade", "supposeNothing", "()V"⟩ ∈ gT := gT_in (tb_3 _ (List.mem_of_getElem? (i := 108) (by decide +kernel))) rfl
theorem wd_2_26 : Cond.fieldLink "WaxedPartners$Gum" 73 "WaxedPartners$Decade" "actsAside" "Z" ∈ gT := gT_in (tb_2 _ (List.mem_of_getElem? (i := 26) (by decide +kernel))) rfl
theorem wd_2_23 : Cond.fieldLink "WaxedPartners$Gum" 77 "WaxedPartners$Decade" "falseJoins" "I" ∈ gT := gT_in (tb_2 _ (List.mem_of_getElem? (i := 23) (by decide +kernel))) rfl
theorem wd_5_2 : Cond.methodLink "WaxedPartners$Gum" 80 ⟨"WaxedPartners$Decade", "live", "(LWaxedPartners$Town;I)V"⟩ ∈ gT := gT_in (tb_5 _ (List.mem_of_getElem? (i := 2) (by decide +kernel))) rfl
theorem wd_3_111 : Cond.instanceMethod ⟨"WaxedPartners$Decade", "live", "(LWaxedPartners$Town;I)V"⟩ ∈ gT := gT_in (tb_3 _ (List.mem_of_getElem? (i := 111) (by decide +kernel))) rfl
theorem wd_3_112 : Cond.selects "WaxedPartners$Decade" ⟨"WaxedPartners$Decade", "live", "(LWaxedPartners$Town;I)V"⟩ ⟨"WaxedPartners$Decade", "live", "(LWaxedPartners$Town;I)V"⟩ ∈ gT := gT_in (tb_3 _ (List.mem_of_getElem? (i := 112) (by decide +kernel))) rfl
theorem wd_1_94 : Cond.fieldLink "WaxedPartners$Gum" 84 "WaxedPartners$Town" "law" "I" ∈ gT := gT_in (tb_1 _ (List.mem_of_getElem? (i := 94) (by decide +kernel))) rfl
theorem wd_5_3 : Cond.methodLink "WaxedPartners$Gum" 87 ⟨"WaxedPartners$Gum", "agrees", "(LWaxedPartners$Town;LWaxedPartners$Decade;LWaxedPartners$Numbers;I)Z"⟩ ∈ gT := gT_in (tb_5 _ (List.mem_of_getElem? (i := 3) (by decide +kernel))) rfl
theorem wd_5_4 : Cond.static ⟨"WaxedPartners$Gum", "agrees", "(LWaxedPartners$Town;LWaxedPartners$Decade;LWaxedPartners$Numbers;I)Z"⟩ ∈ gT := gT_in (tb_5 _ (List.mem_of_getElem? (i := 4) (by decide +kernel))) rfl
theorem wd_5_10 : Cond.methodLink "WaxedPartners$Gum" 91 ⟨"WaxedPartners$Gum", "countThroughs", "(LWaxedPartners$Town;LWaxedPartners$Decade;)V"⟩ ∈ gT := gT_in (tb_5 _ (List.mem_of_getElem? (i := 10) (by decide +kernel))) rfl
theorem wd_5_12 : Cond.instanceMethod ⟨"WaxedPartners$Gum", "countThroughs", "(LWaxedPartners$Town;LWaxedPartners$Decade;)V"⟩ ∈ gT := gT_in (tb_5 _ (List.mem_of_getElem? (i := 12) (by decide +kernel))) rfl
theorem wp_3_3 : Cond.selects "WaxedPartners$Gum" ⟨"WaxedPartners$Gum", "countThroughs", "(LWaxedPartners$Town;LWaxedPartners$Decade;)V"⟩ ⟨"WaxedPartners$Gum", "countThroughs", "(LWaxedPartners$Town;LWaxedPartners$Decade;)V"⟩ ∈ gT := gT_in (List.mem_append_left _ (List.mem_map.mpr ⟨(⟨"WaxedPartners$Gum", "countThroughs", "(LWaxedPartners$Town;LWaxedPartners$Decade;)V"⟩, _), pv_3 _ (List.mem_of_getElem? (i := 3) rfl), rfl⟩)) rfl
theorem wd_5_30 : Cond.methodLink "WaxedPartners$Gum" 95 ⟨"WaxedPartners$Gum", "leftAtWorst", "(I)I"⟩ ∈ gT := gT_in (tb_5 _ (List.mem_of_getElem? (i := 30) (by decide +kernel))) rfl
theorem wd_5_31 : Cond.instanceMethod ⟨"WaxedPartners$Gum", "leftAtWorst", "(I)I"⟩ ∈ gT := gT_in (tb_5 _ (List.mem_of_getElem? (i := 31) (by decide +kernel))) rfl
theorem wd_5_32 : Cond.selects "WaxedPartners$Gum" ⟨"WaxedPartners$Gum", "leftAtWorst", "(I)I"⟩ ⟨"WaxedPartners$Gum", "leftAtWorst", "(I)I"⟩ ∈ gT := gT_in (tb_5 _ (List.mem_of_getElem? (i := 32) (by decide +kernel))) rfl
theorem wd_5_34 : Cond.methodLink "WaxedPartners$Gum" 98 ⟨"java/lang/Math", "max", "(II)I"⟩ ∈ gT := gT_in (tb_5 _ (List.mem_of_getElem? (i := 34) (by decide +kernel))) rfl
theorem wd_1_238 : Cond.fieldLink "WaxedPartners$Numbers" 15 "WaxedPartners$Numbers" "width" "I" ∈ gT := gT_in (tb_1 _ (List.mem_of_getElem? (i := 238) (by decide +kernel))) rfl
theorem wd_1_235 : Cond.fieldLink "WaxedPartners$Numbers" 9 "WaxedPartners$Numbers" "values" "[J" ∈ gT := gT_in (tb_1 _ (List.mem_of_getElem? (i := 235) (by decide +kernel))) rfl
theorem wd_5_192 : Cond.methodLink "WaxedPartners$Numbers" 19 ⟨"java/lang/Math", "min", "(II)I"⟩ ∈ gT := gT_in (tb_5 _ (List.mem_of_getElem? (i := 192) (by decide +kernel))) rfl
theorem wd_5_193 : Cond.methodLink "WaxedPartners$Numbers" 25 ⟨"java/lang/Math", "max", "(II)I"⟩ ∈ gT := gT_in (tb_5 _ (List.mem_of_getElem? (i := 193) (by decide +kernel))) rfl
theorem wd_2_1 : Cond.fieldLink "WaxedPartners$Numbers" 28 "WaxedPartners$Numbers" "size" "I" ∈ gT := gT_in (tb_2 _ (List.mem_of_getElem? (i := 1) (by decide +kernel))) rfl
theorem wd_4_161 : Cond.methodLinkNest "WaxedPartners$Numbers" 31 ⟨"WaxedPartners", "has", "(II)Z"⟩ "WaxedPartners" ∈ gNst := List.mem_filter.mpr ⟨tb_4 _ (List.mem_of_getElem? (i := 161) (by decide +kernel)), rfl⟩
theorem wd_4_162 : Cond.constantLong "WaxedPartners$Numbers" 35 (4294967295 : Int64) ∈ gT := gT_in (tb_4 _ (List.mem_of_getElem? (i := 162) (by decide +kernel))) rfl
theorem wd_4_163 : Cond.methodLink "WaxedPartners$Numbers" 37 ⟨"java/lang/Long", "compare", "(JJ)I"⟩ ∈ gT := gT_in (tb_4 _ (List.mem_of_getElem? (i := 163) (by decide +kernel))) rfl
theorem wd_4_164 : Cond.static ⟨"java/lang/Long", "compare", "(JJ)I"⟩ ∈ gT := gT_in (tb_4 _ (List.mem_of_getElem? (i := 164) (by decide +kernel))) rfl
theorem wd_1_201 : Cond.fieldLink "WaxedPartners$Reader" 21 "WaxedPartners$Reader" "town" "LWaxedPartners$Town;" ∈ gT := gT_in (tb_1 _ (List.mem_of_getElem? (i := 201) (by decide +kernel))) rfl
theorem wd_2_169 : Cond.methodLink "WaxedPartners$Reader" 29 ⟨"WaxedPartners$Town", "clear", "()V"⟩ ∈ gT := gT_in (tb_2 _ (List.mem_of_getElem? (i := 169) (by decide +kernel))) rfl
theorem wd_2_170 : Cond.instanceMethod ⟨"WaxedPartners$Town", "clear", "()V"⟩ ∈ gT := gT_in (tb_2 _ (List.mem_of_getElem? (i := 170) (by decide +kernel))) rfl
theorem wd_2_171 : Cond.selects "WaxedPartners$Town" ⟨"WaxedPartners$Town", "clear", "()V"⟩ ⟨"WaxedPartners$Town", "clear", "()V"⟩ ∈ gT := gT_in (tb_2 _ (List.mem_of_getElem? (i := 171) (by decide +kernel))) rfl
theorem wd_1_203 : Cond.fieldLink "WaxedPartners$Reader" 32 "WaxedPartners$Reader" "fault" "I" ∈ gT := gT_in (tb_1 _ (List.mem_of_getElem? (i := 203) (by decide +kernel))) rfl
theorem wd_1_205 : Cond.fieldLink "WaxedPartners$Reader" 25 "WaxedPartners$Reader" "faultPlace" "I" ∈ gT := gT_in (tb_1 _ (List.mem_of_getElem? (i := 205) (by decide +kernel))) rfl
theorem wd_1_209 : Cond.fieldLink "WaxedPartners$Reader" 35 "WaxedPartners$Reader" "stop" "I" ∈ gT := gT_in (tb_1 _ (List.mem_of_getElem? (i := 209) (by decide +kernel))) rfl
theorem wd_2_173 : Cond.methodLink "WaxedPartners$Reader" 38 ⟨"WaxedPartners$Reader", "advance", "()V"⟩ ∈ gT := gT_in (tb_2 _ (List.mem_of_getElem? (i := 173) (by decide +kernel))) rfl
theorem wd_2_175 : Cond.instanceMethod ⟨"WaxedPartners$Reader", "advance", "()V"⟩ ∈ gT := gT_in (tb_2 _ (List.mem_of_getElem? (i := 175) (by decide +kernel))) rfl
theorem wp_1_0 : Cond.selects "WaxedPartners$Reader" ⟨"WaxedPartners$Reader", "advance", "()V"⟩ ⟨"WaxedPartners$Reader", "advance", "()V"⟩ ∈ gT := gT_in (List.mem_append_left _ (List.mem_map.mpr ⟨(⟨"WaxedPartners$Reader", "advance", "()V"⟩, _), pv_1 _ (List.mem_of_getElem? (i := 0) rfl), rfl⟩)) rfl
theorem wd_1_207 : Cond.fieldLink "WaxedPartners$Reader" 41 "WaxedPartners$Reader" "kind" "I" ∈ gT := gT_in (tb_1 _ (List.mem_of_getElem? (i := 207) (by decide +kernel))) rfl
theorem wd_2_200 : Cond.methodLink "WaxedPartners$Reader" 44 ⟨"WaxedPartners$Reader", "readLine", "()V"⟩ ∈ gT := gT_in (tb_2 _ (List.mem_of_getElem? (i := 200) (by decide +kernel))) rfl
theorem wd_2_202 : Cond.instanceMethod ⟨"WaxedPartners$Reader", "readLine", "()V"⟩ ∈ gT := gT_in (tb_2 _ (List.mem_of_getElem? (i := 202) (by decide +kernel))) rfl
theorem wp_1_2 : Cond.selects "WaxedPartners$Reader" ⟨"WaxedPartners$Reader", "readLine", "()V"⟩ ⟨"WaxedPartners$Reader", "readLine", "()V"⟩ ∈ gT := gT_in (List.mem_append_left _ (List.mem_map.mpr ⟨(⟨"WaxedPartners$Reader", "readLine", "()V"⟩, _), pv_1 _ (List.mem_of_getElem? (i := 2) rfl), rfl⟩)) rfl
theorem wd_1_86 : Cond.fieldLink "WaxedPartners$Reader" 47 "WaxedPartners$Town" "lines" "I" ∈ gT := gT_in (tb_1 _ (List.mem_of_getElem? (i := 86) (by decide +kernel))) rfl
theorem wd_2_204 : Cond.methodLink "WaxedPartners$Reader" 50 ⟨"WaxedPartners$Reader", "readHead", "()V"⟩ ∈ gT := gT_in (tb_2 _ (List.mem_of_getElem? (i := 204) (by decide +kernel))) rfl
theorem wd_2_206 : Cond.instanceMethod ⟨"WaxedPartners$Reader", "readHead", "()V"⟩ ∈ gT := gT_in (tb_2 _ (List.mem_of_getElem? (i := 206) (by decide +kernel))) rfl
theorem wp_1_3 : Cond.selects "WaxedPartners$Reader" ⟨"WaxedPartners$Reader", "readHead", "()V"⟩ ⟨"WaxedPartners$Reader", "readHead", "()V"⟩ ∈ gT := gT_in (List.mem_append_left _ (List.mem_map.mpr ⟨(⟨"WaxedPartners$Reader", "readHead", "()V"⟩, _), pv_1 _ (List.mem_of_getElem? (i := 3) rfl), rfl⟩)) rfl
theorem wd_2_213 : Cond.methodLink "WaxedPartners$Reader" 55 ⟨"WaxedPartners$Reader", "isWord", "(Ljava/lang/String;)Z"⟩ ∈ gT := gT_in (tb_2 _ (List.mem_of_getElem? (i := 213) (by decide +kernel))) rfl
theorem wd_2_215 : Cond.instanceMethod ⟨"WaxedPartners$Reader", "isWord", "(Ljava/lang/String;)Z"⟩ ∈ gT := gT_in (tb_2 _ (List.mem_of_getElem? (i := 215) (by decide +kernel))) rfl
theorem wp_1_5 : Cond.selects "WaxedPartners$Reader" ⟨"WaxedPartners$Reader", "isWord", "(Ljava/lang/String;)Z"⟩ ⟨"WaxedPartners$Reader", "isWord", "(Ljava/lang/String;)Z"⟩ ∈ gT := gT_in (List.mem_append_left _ (List.mem_map.mpr ⟨(⟨"WaxedPartners$Reader", "isWord", "(Ljava/lang/String;)Z"⟩, _), pv_1 _ (List.mem_of_getElem? (i := 5) rfl), rfl⟩)) rfl
theorem wd_3_38 : Cond.methodLink "WaxedPartners$Reader" 59 ⟨"WaxedPartners$Reader", "readPartner", "()V"⟩ ∈ gT := gT_in (tb_3 _ (List.mem_of_getElem? (i := 38) (by decide +kernel))) rfl
theorem wd_3_40 : Cond.instanceMethod ⟨"WaxedPartners$Reader", "readPartner", "()V"⟩ ∈ gT := gT_in (tb_3 _ (List.mem_of_getElem? (i := 40) (by decide +kernel))) rfl
theorem wp_1_8 : Cond.selects "WaxedPartners$Reader" ⟨"WaxedPartners$Reader", "readPartner", "()V"⟩ ⟨"WaxedPartners$Reader", "readPartner", "()V"⟩ ∈ gT := gT_in (List.mem_append_left _ (List.mem_map.mpr ⟨(⟨"WaxedPartners$Reader", "readPartner", "()V"⟩, _), pv_1 _ (List.mem_of_getElem? (i := 8) rfl), rfl⟩)) rfl
theorem wd_3_46 : Cond.methodLink "WaxedPartners$Reader" 64 ⟨"WaxedPartners$Reader", "readJoin", "()V"⟩ ∈ gT := gT_in (tb_3 _ (List.mem_of_getElem? (i := 46) (by decide +kernel))) rfl
theorem wd_3_48 : Cond.instanceMethod ⟨"WaxedPartners$Reader", "readJoin", "()V"⟩ ∈ gT := gT_in (tb_3 _ (List.mem_of_getElem? (i := 48) (by decide +kernel))) rfl
theorem wp_1_9 : Cond.selects "WaxedPartners$Reader" ⟨"WaxedPartners$Reader", "readJoin", "()V"⟩ ⟨"WaxedPartners$Reader", "readJoin", "()V"⟩ ∈ gT := gT_in (List.mem_append_left _ (List.mem_map.mpr ⟨(⟨"WaxedPartners$Reader", "readJoin", "()V"⟩, _), pv_1 _ (List.mem_of_getElem? (i := 9) rfl), rfl⟩)) rfl
theorem wd_3_52 : Cond.methodLink "WaxedPartners$Reader" 69 ⟨"WaxedPartners$Reader", "readDoor", "()V"⟩ ∈ gT := gT_in (tb_3 _ (List.mem_of_getElem? (i := 52) (by decide +kernel))) rfl
theorem wd_3_54 : Cond.instanceMethod ⟨"WaxedPartners$Reader", "readDoor", "()V"⟩ ∈ gT := gT_in (tb_3 _ (List.mem_of_getElem? (i := 54) (by decide +kernel))) rfl
theorem wp_1_10 : Cond.selects "WaxedPartners$Reader" ⟨"WaxedPartners$Reader", "readDoor", "()V"⟩ ⟨"WaxedPartners$Reader", "readDoor", "()V"⟩ ∈ gT := gT_in (List.mem_append_left _ (List.mem_map.mpr ⟨(⟨"WaxedPartners$Reader", "readDoor", "()V"⟩, _), pv_1 _ (List.mem_of_getElem? (i := 10) rfl), rfl⟩)) rfl
theorem wd_3_57 : Cond.methodLink "WaxedPartners$Reader" 74 ⟨"WaxedPartners$Reader", "readCold", "()V"⟩ ∈ gT := gT_in (tb_3 _ (List.mem_of_getElem? (i := 57) (by decide +kernel))) rfl
theorem wd_3_59 : Cond.instanceMethod ⟨"WaxedPartners$Reader", "readCold", "()V"⟩ ∈ gT := gT_in (tb_3 _ (List.mem_of_getElem? (i := 59) (by decide +kernel))) rfl
theorem wp_1_11 : Cond.selects "WaxedPartners$Reader" ⟨"WaxedPartners$Reader", "readCold", "()V"⟩ ⟨"WaxedPartners$Reader", "readCold", "()V"⟩ ∈ gT := gT_in (List.mem_append_left _ (List.mem_map.mpr ⟨(⟨"WaxedPartners$Reader", "readCold", "()V"⟩, _), pv_1 _ (List.mem_of_getElem? (i := 11) rfl), rfl⟩)) rfl
theorem wd_3_25 : Cond.methodLink "WaxedPartners$Reader" 77 ⟨"WaxedPartners$Reader", "refuse", "(I)V"⟩ ∈ gT := gT_in (tb_3 _ (List.mem_of_getElem? (i := 25) (by decide +kernel))) rfl
theorem wd_3_27 : Cond.instanceMethod ⟨"WaxedPartners$Reader", "refuse", "(I)V"⟩ ∈ gT := gT_in (tb_3 _ (List.mem_of_getElem? (i := 27) (by decide +kernel))) rfl
theorem wp_1_6 : Cond.selects "WaxedPartners$Reader" ⟨"WaxedPartners$Reader", "refuse", "(I)V"⟩ ⟨"WaxedPartners$Reader", "refuse", "(I)V"⟩ ∈ gT := gT_in (List.mem_append_left _ (List.mem_map.mpr ⟨(⟨"WaxedPartners$Reader", "refuse", "(I)V"⟩, _), pv_1 _ (List.mem_of_getElem? (i := 6) rfl), rfl⟩)) rfl
theorem wd_3_62 : Cond.methodLink "WaxedPartners$Reader" 81 ⟨"WaxedPartners$Reader", "expectSign", "()V"⟩ ∈ gT := gT_in (tb_3 _ (List.mem_of_getElem? (i := 62) (by decide +kernel))) rfl
theorem wd_3_64 : Cond.instanceMethod ⟨"WaxedPartners$Reader", "expectSign", "()V"⟩ ∈ gT := gT_in (tb_3 _ (List.mem_of_getElem? (i := 64) (by decide +kernel))) rfl
theorem wp_1_12 : Cond.selects "WaxedPartners$Reader" ⟨"WaxedPartners$Reader", "expectSign", "()V"⟩ ⟨"WaxedPartners$Reader", "expectSign", "()V"⟩ ∈ gT := gT_in (List.mem_append_left _ (List.mem_map.mpr ⟨(⟨"WaxedPartners$Reader", "expectSign", "()V"⟩, _), pv_1 _ (List.mem_of_getElem? (i := 12) rfl), rfl⟩)) rfl
theorem wd_2_209 : Cond.methodLink "WaxedPartners$Reader" 86 ⟨"WaxedPartners$Reader", "expectWord", "(Ljava/lang/String;)V"⟩ ∈ gT := gT_in (tb_2 _ (List.mem_of_getElem? (i := 209) (by decide +kernel))) rfl
theorem wd_2_211 : Cond.instanceMethod ⟨"WaxedPartners$Reader", "expectWord", "(Ljava/lang/String;)V"⟩ ∈ gT := gT_in (tb_2 _ (List.mem_of_getElem? (i := 211) (by decide +kernel))) rfl
theorem wp_1_4 : Cond.selects "WaxedPartners$Reader" ⟨"WaxedPartners$Reader", "expectWord", "(Ljava/lang/String;)V"⟩ ⟨"WaxedPartners$Reader", "expectWord", "(Ljava/lang/String;)V"⟩ ∈ gT := gT_in (List.mem_append_left _ (List.mem_map.mpr ⟨(⟨"WaxedPartners$Reader", "expectWord", "(Ljava/lang/String;)V"⟩, _), pv_1 _ (List.mem_of_getElem? (i := 4) rfl), rfl⟩)) rfl
theorem wd_3_30 : Cond.methodLink "WaxedPartners$Reader" 92 ⟨"WaxedPartners$Reader", "expectNumber", "(II)I"⟩ ∈ gT := gT_in (tb_3 _ (List.mem_of_getElem? (i := 30) (by decide +kernel))) rfl
theorem wd_3_32 : Cond.instanceMethod ⟨"WaxedPartners$Reader", "expectNumber", "(II)I"⟩ ∈ gT := gT_in (tb_3 _ (List.mem_of_getElem? (i := 32) (by decide +kernel))) rfl
theorem wp_1_7 : Cond.selects "WaxedPartners$Reader" ⟨"WaxedPartners$Reader", "expectNumber", "(II)I"⟩ ⟨"WaxedPartners$Reader", "expectNumber", "(II)I"⟩ ∈ gT := gT_in (List.mem_append_left _ (List.mem_map.mpr ⟨(⟨"WaxedPartners$Reader", "expectNumber", "(II)I"⟩, _), pv_1 _ (List.mem_of_getElem? (i := 7) rfl), rfl⟩)) rfl
theorem wd_1_89 : Cond.fieldLink "WaxedPartners$Reader" 96 "WaxedPartners$Town" "years" "I" ∈ gT := gT_in (tb_1 _ (List.mem_of_getElem? (i := 89) (by decide +kernel))) rfl
theorem wd_1_93 : Cond.fieldLink "WaxedPartners$Reader" 100 "WaxedPartners$Town" "law" "I" ∈ gT := gT_in (tb_1 _ (List.mem_of_getElem? (i := 93) (by decide +kernel))) rfl
theorem wd_1_97 : Cond.fieldLink "WaxedPartners$Reader" 104 "WaxedPartners$Town" "slump" "I" ∈ gT := gT_in (tb_1 _ (List.mem_of_getElem? (i := 97) (by decide +kernel))) rfl
theorem wd_1_101 : Cond.fieldLink "WaxedPartners$Reader" 108 "WaxedPartners$Town" "odds" "I" ∈ gT := gT_in (tb_1 _ (List.mem_of_getElem? (i := 101) (by decide +kernel))) rfl
theorem wd_1_106 : Cond.fieldLink "WaxedPartners$Reader" 110 "WaxedPartners$Town" "partners" "I" ∈ gT := gT_in (tb_1 _ (List.mem_of_getElem? (i := 106) (by decide +kernel))) rfl
theorem wd_1_124 : Cond.fieldLink "WaxedPartners$Reader" 115 "WaxedPartners$Town" "wides" "[I" ∈ gT := gT_in (tb_1 _ (List.mem_of_getElem? (i := 124) (by decide +kernel))) rfl
theorem wd_1_127 : Cond.fieldLink "WaxedPartners$Reader" 121 "WaxedPartners$Town" "worths" "[I" ∈ gT := gT_in (tb_1 _ (List.mem_of_getElem? (i := 127) (by decide +kernel))) rfl
theorem wd_1_131 : Cond.fieldLink "WaxedPartners$Reader" 126 "WaxedPartners$Town" "gains" "[I" ∈ gT := gT_in (tb_1 _ (List.mem_of_getElem? (i := 131) (by decide +kernel))) rfl
theorem wd_1_112 : Cond.fieldLink "WaxedPartners$Reader" 128 "WaxedPartners$Town" "joins" "I" ∈ gT := gT_in (tb_1 _ (List.mem_of_getElem? (i := 112) (by decide +kernel))) rfl
theorem wd_1_136 : Cond.fieldLink "WaxedPartners$Reader" 131 "WaxedPartners$Town" "firsts" "[I" ∈ gT := gT_in (tb_1 _ (List.mem_of_getElem? (i := 136) (by decide +kernel))) rfl
theorem wd_1_210 : Cond.fieldLink "WaxedPartners$Reader" 134 "WaxedPartners$Reader" "value" "I" ∈ gT := gT_in (tb_1 _ (List.mem_of_getElem? (i := 210) (by decide +kernel))) rfl
theorem wd_1_140 : Cond.fieldLink "WaxedPartners$Reader" 137 "WaxedPartners$Town" "seconds" "[I" ∈ gT := gT_in (tb_1 _ (List.mem_of_getElem? (i := 140) (by decide +kernel))) rfl
theorem wd_1_144 : Cond.fieldLink "WaxedPartners$Reader" 142 "WaxedPartners$Town" "waxes" "[I" ∈ gT := gT_in (tb_1 _ (List.mem_of_getElem? (i := 144) (by decide +kernel))) rfl
theorem wd_1_116 : Cond.fieldLink "WaxedPartners$Reader" 145 "WaxedPartners$Town" "doors" "I" ∈ gT := gT_in (tb_1 _ (List.mem_of_getElem? (i := 116) (by decide +kernel))) rfl
theorem wd_1_148 : Cond.fieldLink "WaxedPartners$Reader" 148 "WaxedPartners$Town" "doorWides" "[I" ∈ gT := gT_in (tb_1 _ (List.mem_of_getElem? (i := 148) (by decide +kernel))) rfl
theorem wd_1_120 : Cond.fieldLink "WaxedPartners$Reader" 151 "WaxedPartners$Town" "colds" "I" ∈ gT := gT_in (tb_1 _ (List.mem_of_getElem? (i := 120) (by decide +kernel))) rfl
theorem wd_1_152 : Cond.fieldLink "WaxedPartners$Reader" 154 "WaxedPartners$Town" "sick" "[I" ∈ gT := gT_in (tb_1 _ (List.mem_of_getElem? (i := 152) (by decide +kernel))) rfl
theorem wd_1_155 : Cond.fieldLink "WaxedPartners$Reader" 159 "WaxedPartners$Town" "sickAt" "[I" ∈ gT := gT_in (tb_1 _ (List.mem_of_getElem? (i := 155) (by decide +kernel))) rfl
theorem wd_1_208 : Cond.fieldLink "WaxedPartners$Reader" 162 "WaxedPartners$Reader" "start" "I" ∈ gT := gT_in (tb_1 _ (List.mem_of_getElem? (i := 208) (by decide +kernel))) rfl
theorem wd_2_217 : Cond.methodLink "WaxedPartners$Reader" 165 ⟨"java/lang/String", "length", "()I"⟩ ∈ gT := gT_in (tb_2 _ (List.mem_of_getElem? (i := 217) (by decide +kernel))) rfl
theorem wd_2_218 : Cond.instanceMethod ⟨"java/lang/String", "length", "()I"⟩ ∈ gT := gT_in (tb_2 _ (List.mem_of_getElem? (i := 218) (by decide +kernel))) rfl
theorem wd_2_219 : Cond.selects "java/lang/String" ⟨"java/lang/String", "length", "()I"⟩ ⟨"java/lang/String", "length", "()I"⟩ ∈ gT := gT_in (tb_2 _ (List.mem_of_getElem? (i := 219) (by decide +kernel))) rfl
theorem wd_1_199 : Cond.fieldLink "WaxedPartners$Reader" 12 "WaxedPartners$Reader" "tape" "LWaxedPartners$Tape;" ∈ gT := gT_in (tb_1 _ (List.mem_of_getElem? (i := 199) (by decide +kernel))) rfl
theorem wd_2_177 : Cond.methodLink "WaxedPartners$Reader" 171 ⟨"WaxedPartners$Tape", "at", "(I)I"⟩ ∈ gT := gT_in (tb_2 _ (List.mem_of_getElem? (i := 177) (by decide +kernel))) rfl
theorem wd_2_178 : Cond.instanceMethod ⟨"WaxedPartners$Tape", "at", "(I)I"⟩ ∈ gT := gT_in (tb_2 _ (List.mem_of_getElem? (i := 178) (by decide +kernel))) rfl
theorem wd_2_179 : Cond.selects "WaxedPartners$Tape" ⟨"WaxedPartners$Tape", "at", "(I)I"⟩ ⟨"WaxedPartners$Tape", "at", "(I)I"⟩ ∈ gT := gT_in (tb_2 _ (List.mem_of_getElem? (i := 179) (by decide +kernel))) rfl
theorem wd_2_227 : Cond.methodLink "WaxedPartners$Reader" 174 ⟨"java/lang/String", "charAt", "(I)C"⟩ ∈ gT := gT_in (tb_2 _ (List.mem_of_getElem? (i := 227) (by decide +kernel))) rfl
theorem wd_2_228 : Cond.instanceMethod ⟨"java/lang/String", "charAt", "(I)C"⟩ ∈ gT := gT_in (tb_2 _ (List.mem_of_getElem? (i := 228) (by decide +kernel))) rfl
theorem wd_2_229 : Cond.selects "java/lang/String" ⟨"java/lang/String", "charAt", "(I)C"⟩ ⟨"java/lang/String", "charAt", "(I)C"⟩ ∈ gT := gT_in (tb_2 _ (List.mem_of_getElem? (i := 229) (by decide +kernel))) rfl
theorem wd_1_42 : Cond.fieldLink "WaxedPartners$Reader" 178 "WaxedPartners$Tape" "size" "I" ∈ gT := gT_in (tb_1 _ (List.mem_of_getElem? (i := 42) (by decide +kernel))) rfl
theorem wd_2_181 : Cond.methodLink "WaxedPartners$Reader" 181 ⟨"WaxedPartners$Reader", "isBlank", "(I)Z"⟩ ∈ gT := gT_in (tb_2 _ (List.mem_of_getElem? (i := 181) (by decide +kernel))) rfl
theorem wd_2_182 : Cond.static ⟨"WaxedPartners$Reader", "isBlank", "(I)Z"⟩ ∈ gT := gT_in (tb_2 _ (List.mem_of_getElem? (i := 182) (by decide +kernel))) rfl
theorem wd_2_184 : Cond.methodLink "WaxedPartners$Reader" 185 ⟨"WaxedPartners$Reader", "kindOf", "(I)I"⟩ ∈ gT := gT_in (tb_2 _ (List.mem_of_getElem? (i := 184) (by decide +kernel))) rfl
theorem wd_2_185 : Cond.static ⟨"WaxedPartners$Reader", "kindOf", "(I)I"⟩ ∈ gT := gT_in (tb_2 _ (List.mem_of_getElem? (i := 185) (by decide +kernel))) rfl
theorem wd_2_187 : Cond.methodLink "WaxedPartners$Reader" 188 ⟨"WaxedPartners$Reader", "isLetter", "(I)Z"⟩ ∈ gT := gT_in (tb_2 _ (List.mem_of_getElem? (i := 187) (by decide +kernel))) rfl
theorem wd_2_188 : Cond.static ⟨"WaxedPartners$Reader", "isLetter", "(I)Z"⟩ ∈ gT := gT_in (tb_2 _ (List.mem_of_getElem? (i := 188) (by decide +kernel))) rfl
theorem wd_2_193 : Cond.methodLink "WaxedPartners$Reader" 191 ⟨"WaxedPartners$Reader", "readDigits", "()V"⟩ ∈ gT := gT_in (tb_2 _ (List.mem_of_getElem? (i := 193) (by decide +kernel))) rfl
theorem wd_2_195 : Cond.instanceMethod ⟨"WaxedPartners$Reader", "readDigits", "()V"⟩ ∈ gT := gT_in (tb_2 _ (List.mem_of_getElem? (i := 195) (by decide +kernel))) rfl
theorem wp_1_1 : Cond.selects "WaxedPartners$Reader" ⟨"WaxedPartners$Reader", "readDigits", "()V"⟩ ⟨"WaxedPartners$Reader", "readDigits", "()V"⟩ ∈ gT := gT_in (List.mem_append_left _ (List.mem_map.mpr ⟨(⟨"WaxedPartners$Reader", "readDigits", "()V"⟩, _), pv_1 _ (List.mem_of_getElem? (i := 1) rfl), rfl⟩)) rfl
theorem wd_2_190 : Cond.methodLink "WaxedPartners$Reader" 194 ⟨"WaxedPartners$Reader", "isDigit", "(I)Z"⟩ ∈ gT := gT_in (tb_2 _ (List.mem_of_getElem? (i := 190) (by decide +kernel))) rfl
theorem wd_2_191 : Cond.static ⟨"WaxedPartners$Reader", "isDigit", "(I)Z"⟩ ∈ gT := gT_in (tb_2 _ (List.mem_of_getElem? (i := 191) (by decide +kernel))) rfl
theorem wd_2_197 : Cond.methodLink "WaxedPartners$Reader" 197 ⟨"java/lang/Math", "min", "(II)I"⟩ ∈ gT := gT_in (tb_2 _ (List.mem_of_getElem? (i := 197) (by decide +kernel))) rfl
theorem wd_1_40 : Cond.fieldLink "WaxedPartners$Tape" 15 "WaxedPartners$Tape" "size" "I" ∈ gT := gT_in (tb_1 _ (List.mem_of_getElem? (i := 40) (by decide +kernel))) rfl
theorem wd_1_39 : Cond.fieldLink "WaxedPartners$Tape" 9 "WaxedPartners$Tape" "bytes" "[B" ∈ gT := gT_in (tb_1 _ (List.mem_of_getElem? (i := 39) (by decide +kernel))) rfl
theorem wd_1_85 : Cond.fieldLink "WaxedPartners$Town" 46 "WaxedPartners$Town" "lines" "I" ∈ gT := gT_in (tb_1 _ (List.mem_of_getElem? (i := 85) (by decide +kernel))) rfl
theorem wd_1_88 : Cond.fieldLink "WaxedPartners$Town" 50 "WaxedPartners$Town" "years" "I" ∈ gT := gT_in (tb_1 _ (List.mem_of_getElem? (i := 88) (by decide +kernel))) rfl
theorem wd_1_92 : Cond.fieldLink "WaxedPartners$Town" 53 "WaxedPartners$Town" "law" "I" ∈ gT := gT_in (tb_1 _ (List.mem_of_getElem? (i := 92) (by decide +kernel))) rfl
theorem wd_1_96 : Cond.fieldLink "WaxedPartners$Town" 56 "WaxedPartners$Town" "slump" "I" ∈ gT := gT_in (tb_1 _ (List.mem_of_getElem? (i := 96) (by decide +kernel))) rfl
theorem wd_1_100 : Cond.fieldLink "WaxedPartners$Town" 59 "WaxedPartners$Town" "odds" "I" ∈ gT := gT_in (tb_1 _ (List.mem_of_getElem? (i := 100) (by decide +kernel))) rfl
theorem wd_1_103 : Cond.fieldLink "WaxedPartners$Town" 62 "WaxedPartners$Town" "partners" "I" ∈ gT := gT_in (tb_1 _ (List.mem_of_getElem? (i := 103) (by decide +kernel))) rfl
theorem wd_1_109 : Cond.fieldLink "WaxedPartners$Town" 65 "WaxedPartners$Town" "joins" "I" ∈ gT := gT_in (tb_1 _ (List.mem_of_getElem? (i := 109) (by decide +kernel))) rfl
theorem wd_1_114 : Cond.fieldLink "WaxedPartners$Town" 68 "WaxedPartners$Town" "doors" "I" ∈ gT := gT_in (tb_1 _ (List.mem_of_getElem? (i := 114) (by decide +kernel))) rfl
theorem wd_1_119 : Cond.fieldLink "WaxedPartners$Town" 71 "WaxedPartners$Town" "colds" "I" ∈ gT := gT_in (tb_1 _ (List.mem_of_getElem? (i := 119) (by decide +kernel))) rfl
theorem wd_1_157 : Cond.fieldLink "WaxedPartners$Town" 42 "WaxedPartners$Town" "acts" "LWaxedPartners$Acts;" ∈ gT := gT_in (tb_1 _ (List.mem_of_getElem? (i := 157) (by decide +kernel))) rfl
theorem wd_1_70 : Cond.fieldLink "WaxedPartners$Town" 74 "WaxedPartners$Acts" "given" "I" ∈ gT := gT_in (tb_1 _ (List.mem_of_getElem? (i := 70) (by decide +kernel))) rfl
theorem wd_1_123 : Cond.fieldLink "WaxedPartners$Town" 9 "WaxedPartners$Town" "wides" "[I" ∈ gT := gT_in (tb_1 _ (List.mem_of_getElem? (i := 123) (by decide +kernel))) rfl
theorem wd_5_168 : Cond.methodLink "WaxedPartners$Town" 77 ⟨"WaxedPartners$Town", "copy", "([I[I)V"⟩ ∈ gT := gT_in (tb_5 _ (List.mem_of_getElem? (i := 168) (by decide +kernel))) rfl
theorem wd_1_126 : Cond.fieldLink "WaxedPartners$Town" 15 "WaxedPartners$Town" "worths" "[I" ∈ gT := gT_in (tb_1 _ (List.mem_of_getElem? (i := 126) (by decide +kernel))) rfl
theorem wd_1_130 : Cond.fieldLink "WaxedPartners$Town" 18 "WaxedPartners$Town" "gains" "[I" ∈ gT := gT_in (tb_1 _ (List.mem_of_getElem? (i := 130) (by decide +kernel))) rfl
theorem wd_1_134 : Cond.fieldLink "WaxedPartners$Town" 21 "WaxedPartners$Town" "firsts" "[I" ∈ gT := gT_in (tb_1 _ (List.mem_of_getElem? (i := 134) (by decide +kernel))) rfl
theorem wd_1_138 : Cond.fieldLink "WaxedPartners$Town" 24 "WaxedPartners$Town" "seconds" "[I" ∈ gT := gT_in (tb_1 _ (List.mem_of_getElem? (i := 138) (by decide +kernel))) rfl
theorem wd_1_142 : Cond.fieldLink "WaxedPartners$Town" 27 "WaxedPartners$Town" "waxes" "[I" ∈ gT := gT_in (tb_1 _ (List.mem_of_getElem? (i := 142) (by decide +kernel))) rfl
theorem wd_1_146 : Cond.fieldLink "WaxedPartners$Town" 30 "WaxedPartners$Town" "doorWides" "[I" ∈ gT := gT_in (tb_1 _ (List.mem_of_getElem? (i := 146) (by decide +kernel))) rfl
theorem wd_1_151 : Cond.fieldLink "WaxedPartners$Town" 33 "WaxedPartners$Town" "sick" "[I" ∈ gT := gT_in (tb_1 _ (List.mem_of_getElem? (i := 151) (by decide +kernel))) rfl
theorem wd_1_154 : Cond.fieldLink "WaxedPartners$Town" 36 "WaxedPartners$Town" "sickAt" "[I" ∈ gT := gT_in (tb_1 _ (List.mem_of_getElem? (i := 154) (by decide +kernel))) rfl
theorem wd_5_175 : Cond.methodLink "WaxedPartners$Town" 81 ⟨"WaxedPartners$Acts", "copyFrom", "(LWaxedPartners$Acts;)V"⟩ ∈ gT := gT_in (tb_5 _ (List.mem_of_getElem? (i := 175) (by decide +kernel))) rfl
theorem wd_5_176 : Cond.instanceMethod ⟨"WaxedPartners$Acts", "copyFrom", "(LWaxedPartners$Acts;)V"⟩ ∈ gT := gT_in (tb_5 _ (List.mem_of_getElem? (i := 176) (by decide +kernel))) rfl
theorem wd_5_177 : Cond.selects "WaxedPartners$Acts" ⟨"WaxedPartners$Acts", "copyFrom", "(LWaxedPartners$Acts;)V"⟩ ⟨"WaxedPartners$Acts", "copyFrom", "(LWaxedPartners$Acts;)V"⟩ ∈ gT := gT_in (tb_5 _ (List.mem_of_getElem? (i := 177) (by decide +kernel))) rfl
theorem wd_5_171 : Cond.methodLink "WaxedPartners$Town" 85 ⟨"java/lang/Math", "min", "(II)I"⟩ ∈ gT := gT_in (tb_5 _ (List.mem_of_getElem? (i := 171) (by decide +kernel))) rfl
theorem wd_5_172 : Cond.methodLink "WaxedPartners$Town" 91 ⟨"java/lang/System", "arraycopy", "(Ljava/lang/Object;ILjava/lang/Object;II)V"⟩ ∈ gT := gT_in (tb_5 _ (List.mem_of_getElem? (i := 172) (by decide +kernel))) rfl
theorem wd_5_174 : Cond.native ⟨"java/lang/System", "arraycopy", "(Ljava/lang/Object;ILjava/lang/Object;II)V"⟩ ∈ gT := gT_in (tb_5 _ (List.mem_of_getElem? (i := 174) (by decide +kernel))) rfl
theorem wd_5_173 : Cond.static ⟨"java/lang/System", "arraycopy", "(Ljava/lang/Object;ILjava/lang/Object;II)V"⟩ ∈ gT := gT_in (tb_5 _ (List.mem_of_getElem? (i := 173) (by decide +kernel))) rfl
theorem wd_1_18 : Cond.initialized "java/lang/System" ∈ gT := gT_in (tb_1 _ (List.mem_of_getElem? (i := 18) (by decide +kernel))) rfl
theorem wd_3_191 : Cond.methodLink "WaxedPartners$Town" 97 ⟨"WaxedPartners$Town", "hasPartner", "(I)Z"⟩ ∈ gT := gT_in (tb_3 _ (List.mem_of_getElem? (i := 191) (by decide +kernel))) rfl
theorem wd_3_224 : Cond.methodLinkNest "WaxedPartners$Town" 101 ⟨"WaxedPartners", "has", "(II)Z"⟩ "WaxedPartners" ∈ gNst := List.mem_filter.mpr ⟨tb_3 _ (List.mem_of_getElem? (i := 224) (by decide +kernel)), rfl⟩
theorem wd_3_225 : Cond.methodLink "WaxedPartners$Town" 105 ⟨"java/lang/Math", "max", "(II)I"⟩ ∈ gT := gT_in (tb_3 _ (List.mem_of_getElem? (i := 225) (by decide +kernel))) rfl
theorem wd_3_228 : Cond.methodLink "WaxedPartners$Town" 108 ⟨"java/lang/Integer", "bitCount", "(I)I"⟩ ∈ gT := gT_in (tb_3 _ (List.mem_of_getElem? (i := 228) (by decide +kernel))) rfl
theorem wd_2_124 : Cond.fieldLink "WaxedPartners" 10 "WaxedPartners" "reader" "LWaxedPartners$Reader;" ∈ gT := gT_in (tb_2 _ (List.mem_of_getElem? (i := 124) (by decide +kernel))) rfl
theorem wd_1_200 : Cond.fieldLink "WaxedPartners" 55 "WaxedPartners$Reader" "tape" "LWaxedPartners$Tape;" ∈ gT := gT_in (tb_1 _ (List.mem_of_getElem? (i := 200) (by decide +kernel))) rfl
theorem wd_1_41 : Cond.fieldLink "WaxedPartners" 59 "WaxedPartners$Tape" "size" "I" ∈ gT := gT_in (tb_1 _ (List.mem_of_getElem? (i := 41) (by decide +kernel))) rfl
theorem wd_2_153 : Cond.methodLink "WaxedPartners" 65 ⟨"WaxedPartners$Tape", "put", "(I)V"⟩ ∈ gT := gT_in (tb_2 _ (List.mem_of_getElem? (i := 153) (by decide +kernel))) rfl
theorem wd_2_154 : Cond.instanceMethod ⟨"WaxedPartners$Tape", "put", "(I)V"⟩ ∈ gT := gT_in (tb_2 _ (List.mem_of_getElem? (i := 154) (by decide +kernel))) rfl
theorem wd_2_155 : Cond.selects "WaxedPartners$Tape" ⟨"WaxedPartners$Tape", "put", "(I)V"⟩ ⟨"WaxedPartners$Tape", "put", "(I)V"⟩ ∈ gT := gT_in (tb_2 _ (List.mem_of_getElem? (i := 155) (by decide +kernel))) rfl
theorem wd_2_165 : Cond.methodLink "WaxedPartners" 69 ⟨"WaxedPartners$Reader", "readTape", "()Z"⟩ ∈ gT := gT_in (tb_2 _ (List.mem_of_getElem? (i := 165) (by decide +kernel))) rfl
theorem wd_2_166 : Cond.instanceMethod ⟨"WaxedPartners$Reader", "readTape", "()Z"⟩ ∈ gT := gT_in (tb_2 _ (List.mem_of_getElem? (i := 166) (by decide +kernel))) rfl
theorem wd_2_167 : Cond.selects "WaxedPartners$Reader" ⟨"WaxedPartners$Reader", "readTape", "()Z"⟩ ⟨"WaxedPartners$Reader", "readTape", "()Z"⟩ ∈ gT := gT_in (tb_2 _ (List.mem_of_getElem? (i := 167) (by decide +kernel))) rfl
theorem wd_2_130 : Cond.fieldLink "WaxedPartners" 51 "WaxedPartners" "town" "LWaxedPartners$Town;" ∈ gT := gT_in (tb_2 _ (List.mem_of_getElem? (i := 130) (by decide +kernel))) rfl
theorem wd_1_202 : Cond.fieldLink "WaxedPartners" 73 "WaxedPartners$Reader" "town" "LWaxedPartners$Town;" ∈ gT := gT_in (tb_1 _ (List.mem_of_getElem? (i := 202) (by decide +kernel))) rfl
theorem wd_1_87 : Cond.fieldLink "WaxedPartners" 74 "WaxedPartners$Town" "lines" "I" ∈ gT := gT_in (tb_1 _ (List.mem_of_getElem? (i := 87) (by decide +kernel))) rfl
theorem wd_1_204 : Cond.fieldLink "WaxedPartners" 77 "WaxedPartners$Reader" "fault" "I" ∈ gT := gT_in (tb_1 _ (List.mem_of_getElem? (i := 204) (by decide +kernel))) rfl
theorem wd_1_206 : Cond.fieldLink "WaxedPartners" 80 "WaxedPartners$Reader" "faultPlace" "I" ∈ gT := gT_in (tb_1 _ (List.mem_of_getElem? (i := 206) (by decide +kernel))) rfl
theorem wd_3_74 : Cond.methodLink "WaxedPartners" 83 ⟨"WaxedPartners$Town", "hasPartner", "(I)Z"⟩ ∈ gT := gT_in (tb_3 _ (List.mem_of_getElem? (i := 74) (by decide +kernel))) rfl
theorem wd_1_125 : Cond.fieldLink "WaxedPartners" 87 "WaxedPartners$Town" "wides" "[I" ∈ gT := gT_in (tb_1 _ (List.mem_of_getElem? (i := 125) (by decide +kernel))) rfl
theorem wd_1_129 : Cond.fieldLink "WaxedPartners" 91 "WaxedPartners$Town" "worths" "[I" ∈ gT := gT_in (tb_1 _ (List.mem_of_getElem? (i := 129) (by decide +kernel))) rfl
theorem wd_1_132 : Cond.fieldLink "WaxedPartners" 94 "WaxedPartners$Town" "gains" "[I" ∈ gT := gT_in (tb_1 _ (List.mem_of_getElem? (i := 132) (by decide +kernel))) rfl
theorem wd_3_82 : Cond.methodLink "WaxedPartners" 97 ⟨"WaxedPartners$Town", "hasJoin", "(I)Z"⟩ ∈ gT := gT_in (tb_3 _ (List.mem_of_getElem? (i := 82) (by decide +kernel))) rfl
theorem wd_3_83 : Cond.instanceMethod ⟨"WaxedPartners$Town", "hasJoin", "(I)Z"⟩ ∈ gT := gT_in (tb_3 _ (List.mem_of_getElem? (i := 83) (by decide +kernel))) rfl
theorem wd_3_84 : Cond.selects "WaxedPartners$Town" ⟨"WaxedPartners$Town", "hasJoin", "(I)Z"⟩ ⟨"WaxedPartners$Town", "hasJoin", "(I)Z"⟩ ∈ gT := gT_in (tb_3 _ (List.mem_of_getElem? (i := 84) (by decide +kernel))) rfl
theorem wd_1_137 : Cond.fieldLink "WaxedPartners" 100 "WaxedPartners$Town" "firsts" "[I" ∈ gT := gT_in (tb_1 _ (List.mem_of_getElem? (i := 137) (by decide +kernel))) rfl
theorem wd_1_141 : Cond.fieldLink "WaxedPartners" 103 "WaxedPartners$Town" "seconds" "[I" ∈ gT := gT_in (tb_1 _ (List.mem_of_getElem? (i := 141) (by decide +kernel))) rfl
theorem wd_1_145 : Cond.fieldLink "WaxedPartners" 106 "WaxedPartners$Town" "waxes" "[I" ∈ gT := gT_in (tb_1 _ (List.mem_of_getElem? (i := 145) (by decide +kernel))) rfl
theorem wd_3_90 : Cond.methodLink "WaxedPartners" 109 ⟨"WaxedPartners$Town", "hasDoor", "(I)Z"⟩ ∈ gT := gT_in (tb_3 _ (List.mem_of_getElem? (i := 90) (by decide +kernel))) rfl
theorem wd_1_149 : Cond.fieldLink "WaxedPartners" 112 "WaxedPartners$Town" "doorWides" "[I" ∈ gT := gT_in (tb_1 _ (List.mem_of_getElem? (i := 149) (by decide +kernel))) rfl
theorem wd_3_98 : Cond.methodLink "WaxedPartners" 115 ⟨"WaxedPartners$Town", "hasYear", "(I)Z"⟩ ∈ gT := gT_in (tb_3 _ (List.mem_of_getElem? (i := 98) (by decide +kernel))) rfl
theorem wd_3_99 : Cond.instanceMethod ⟨"WaxedPartners$Town", "hasYear", "(I)Z"⟩ ∈ gT := gT_in (tb_3 _ (List.mem_of_getElem? (i := 99) (by decide +kernel))) rfl
theorem wd_3_100 : Cond.selects "WaxedPartners$Town" ⟨"WaxedPartners$Town", "hasYear", "(I)Z"⟩ ⟨"WaxedPartners$Town", "hasYear", "(I)Z"⟩ ∈ gT := gT_in (tb_3 _ (List.mem_of_getElem? (i := 100) (by decide +kernel))) rfl
theorem wd_3_102 : Cond.methodLink "WaxedPartners" 118 ⟨"WaxedPartners", "liveAsNow", "()V"⟩ ∈ gT := gT_in (tb_3 _ (List.mem_of_getElem? (i := 102) (by decide +kernel))) rfl
theorem wd_3_104 : Cond.instanceMethod ⟨"WaxedPartners", "liveAsNow", "()V"⟩ ∈ gT := gT_in (tb_3 _ (List.mem_of_getElem? (i := 104) (by decide +kernel))) rfl
theorem wp_1_13 : Cond.selects "WaxedPartners" ⟨"WaxedPartners", "liveAsNow", "()V"⟩ ⟨"WaxedPartners", "liveAsNow", "()V"⟩ ∈ gT := gT_in (List.mem_append_left _ (List.mem_map.mpr ⟨(⟨"WaxedPartners", "liveAsNow", "()V"⟩, _), pv_1 _ (List.mem_of_getElem? (i := 13) rfl), rfl⟩)) rfl
theorem wd_2_127 : Cond.fieldLink "WaxedPartners" 33 "WaxedPartners" "decade" "LWaxedPartners$Decade;" ∈ gT := gT_in (tb_2 _ (List.mem_of_getElem? (i := 127) (by decide +kernel))) rfl
theorem wd_2_40 : Cond.fieldLink "WaxedPartners" 121 "WaxedPartners$Decade" "helds" "[I" ∈ gT := gT_in (tb_2 _ (List.mem_of_getElem? (i := 40) (by decide +kernel))) rfl
theorem wd_3_187 : Cond.methodLink "WaxedPartners" 124 ⟨"WaxedPartners$Town", "hasPair", "(II)Z"⟩ ∈ gT := gT_in (tb_3 _ (List.mem_of_getElem? (i := 187) (by decide +kernel))) rfl
theorem wd_3_188 : Cond.instanceMethod ⟨"WaxedPartners$Town", "hasPair", "(II)Z"⟩ ∈ gT := gT_in (tb_3 _ (List.mem_of_getElem? (i := 188) (by decide +kernel))) rfl
theorem wd_3_189 : Cond.selects "WaxedPartners$Town" ⟨"WaxedPartners$Town", "hasPair", "(II)Z"⟩ ⟨"WaxedPartners$Town", "hasPair", "(II)Z"⟩ ∈ gT := gT_in (tb_3 _ (List.mem_of_getElem? (i := 189) (by decide +kernel))) rfl
theorem wd_3_192 : Cond.methodLink "WaxedPartners" 128 ⟨"WaxedPartners$Decade", "areTied", "(III)Z"⟩ ∈ gT := gT_in (tb_3 _ (List.mem_of_getElem? (i := 192) (by decide +kernel))) rfl
theorem wd_3_193 : Cond.instanceMethod ⟨"WaxedPartners$Decade", "areTied", "(III)Z"⟩ ∈ gT := gT_in (tb_3 _ (List.mem_of_getElem? (i := 193) (by decide +kernel))) rfl
theorem wd_3_194 : Cond.selects "WaxedPartners$Decade" ⟨"WaxedPartners$Decade", "areTied", "(III)Z"⟩ ⟨"WaxedPartners$Decade", "areTied", "(III)Z"⟩ ∈ gT := gT_in (tb_3 _ (List.mem_of_getElem? (i := 194) (by decide +kernel))) rfl
theorem wd_2_49 : Cond.fieldLink "WaxedPartners" 132 "WaxedPartners$Decade" "firmSets" "[[I" ∈ gT := gT_in (tb_2 _ (List.mem_of_getElem? (i := 49) (by decide +kernel))) rfl
theorem wd_3_204 : Cond.methodLink "WaxedPartners" 136 ⟨"WaxedPartners$Decade", "firmCount", "(LWaxedPartners$Town;I)I"⟩ ∈ gT := gT_in (tb_3 _ (List.mem_of_getElem? (i := 204) (by decide +kernel))) rfl
theorem wd_3_205 : Cond.instanceMethod ⟨"WaxedPartners$Decade", "firmCount", "(LWaxedPartners$Town;I)I"⟩ ∈ gT := gT_in (tb_3 _ (List.mem_of_getElem? (i := 205) (by decide +kernel))) rfl
theorem wd_3_206 : Cond.selects "WaxedPartners$Decade" ⟨"WaxedPartners$Decade", "firmCount", "(LWaxedPartners$Town;I)I"⟩ ⟨"WaxedPartners$Decade", "firmCount", "(LWaxedPartners$Town;I)I"⟩ ∈ gT := gT_in (tb_3 _ (List.mem_of_getElem? (i := 206) (by decide +kernel))) rfl
theorem wd_1_95 : Cond.fieldLink "WaxedPartners" 140 "WaxedPartners$Town" "law" "I" ∈ gT := gT_in (tb_1 _ (List.mem_of_getElem? (i := 95) (by decide +kernel))) rfl
theorem wd_3_212 : Cond.methodLink "WaxedPartners" 143 ⟨"WaxedPartners$Decade", "firmWidth", "(LWaxedPartners$Town;III)I"⟩ ∈ gT := gT_in (tb_3 _ (List.mem_of_getElem? (i := 212) (by decide +kernel))) rfl
theorem wd_3_238 : Cond.methodLink "WaxedPartners" 147 ⟨"WaxedPartners$Decade", "doorsOf", "(LWaxedPartners$Town;III)I"⟩ ∈ gT := gT_in (tb_3 _ (List.mem_of_getElem? (i := 238) (by decide +kernel))) rfl
theorem wd_1_108 : Cond.fieldLink "WaxedPartners" 150 "WaxedPartners$Town" "partners" "I" ∈ gT := gT_in (tb_1 _ (List.mem_of_getElem? (i := 108) (by decide +kernel))) rfl
theorem wd_4_7 : Cond.methodLink "WaxedPartners" 153 ⟨"java/lang/Integer", "bitCount", "(I)I"⟩ ∈ gT := gT_in (tb_4 _ (List.mem_of_getElem? (i := 7) (by decide +kernel))) rfl
theorem wd_4_8 : Cond.methodLink "WaxedPartners" 159 ⟨"java/lang/Math", "max", "(II)I"⟩ ∈ gT := gT_in (tb_4 _ (List.mem_of_getElem? (i := 8) (by decide +kernel))) rfl
theorem wd_4_13 : Cond.methodLink "WaxedPartners" 165 ⟨"WaxedPartners$Decade", "distance", "(III)I"⟩ ∈ gT := gT_in (tb_4 _ (List.mem_of_getElem? (i := 13) (by decide +kernel))) rfl
theorem wd_4_14 : Cond.instanceMethod ⟨"WaxedPartners$Decade", "distance", "(III)I"⟩ ∈ gT := gT_in (tb_4 _ (List.mem_of_getElem? (i := 14) (by decide +kernel))) rfl
theorem wd_4_15 : Cond.selects "WaxedPartners$Decade" ⟨"WaxedPartners$Decade", "distance", "(III)I"⟩ ⟨"WaxedPartners$Decade", "distance", "(III)I"⟩ ∈ gT := gT_in (tb_4 _ (List.mem_of_getElem? (i := 15) (by decide +kernel))) rfl
theorem wd_2_44 : Cond.fieldLink "WaxedPartners" 169 "WaxedPartners$Decade" "sicks" "[I" ∈ gT := gT_in (tb_2 _ (List.mem_of_getElem? (i := 44) (by decide +kernel))) rfl
theorem wd_4_25 : Cond.methodLink "WaxedPartners" 172 ⟨"WaxedPartners", "firstYearWith", "([II)I"⟩ ∈ gT := gT_in (tb_4 _ (List.mem_of_getElem? (i := 25) (by decide +kernel))) rfl
theorem wd_4_27 : Cond.instanceMethod ⟨"WaxedPartners", "firstYearWith", "([II)I"⟩ ∈ gT := gT_in (tb_4 _ (List.mem_of_getElem? (i := 27) (by decide +kernel))) rfl
theorem wp_2_9 : Cond.selects "WaxedPartners" ⟨"WaxedPartners", "firstYearWith", "([II)I"⟩ ⟨"WaxedPartners", "firstYearWith", "([II)I"⟩ ∈ gT := gT_in (List.mem_append_left _ (List.mem_map.mpr ⟨(⟨"WaxedPartners", "firstYearWith", "([II)I"⟩, _), pv_2 _ (List.mem_of_getElem? (i := 9) rfl), rfl⟩)) rfl
theorem wd_2_46 : Cond.fieldLink "WaxedPartners" 176 "WaxedPartners$Decade" "worths" "[[I" ∈ gT := gT_in (tb_2 _ (List.mem_of_getElem? (i := 46) (by decide +kernel))) rfl
theorem wd_4_38 : Cond.methodLink "WaxedPartners" 178 ⟨"WaxedPartners$Decade", "worthOf", "(II)I"⟩ ∈ gT := gT_in (tb_4 _ (List.mem_of_getElem? (i := 38) (by decide +kernel))) rfl
theorem wd_2_42 : Cond.fieldLink "WaxedPartners" 181 "WaxedPartners$Decade" "outs" "[I" ∈ gT := gT_in (tb_2 _ (List.mem_of_getElem? (i := 42) (by decide +kernel))) rfl
theorem wd_1_90 : Cond.fieldLink "WaxedPartners" 184 "WaxedPartners$Town" "years" "I" ∈ gT := gT_in (tb_1 _ (List.mem_of_getElem? (i := 90) (by decide +kernel))) rfl
theorem wd_4_29 : Cond.methodLink "WaxedPartners" 187 ⟨"WaxedPartners", "has", "(II)Z"⟩ ∈ gT := gT_in (tb_4 _ (List.mem_of_getElem? (i := 29) (by decide +kernel))) rfl
theorem wd_4_59 : Cond.methodLink "WaxedPartners" 190 ⟨"WaxedPartners$Town", "isTold", "()Z"⟩ ∈ gT := gT_in (tb_4 _ (List.mem_of_getElem? (i := 59) (by decide +kernel))) rfl
theorem wd_4_60 : Cond.instanceMethod ⟨"WaxedPartners$Town", "isTold", "()Z"⟩ ∈ gT := gT_in (tb_4 _ (List.mem_of_getElem? (i := 60) (by decide +kernel))) rfl
theorem wd_4_61 : Cond.selects "WaxedPartners$Town" ⟨"WaxedPartners$Town", "isTold", "()Z"⟩ ⟨"WaxedPartners$Town", "isTold", "()Z"⟩ ∈ gT := gT_in (tb_4 _ (List.mem_of_getElem? (i := 61) (by decide +kernel))) rfl
theorem wd_4_63 : Cond.methodLink "WaxedPartners" 193 ⟨"WaxedPartners", "allOf", "(I)I"⟩ ∈ gT := gT_in (tb_4 _ (List.mem_of_getElem? (i := 63) (by decide +kernel))) rfl
theorem wd_4_80 : Cond.methodLink "WaxedPartners" 196 ⟨"WaxedPartners$Crowd", "bestSet", "(LWaxedPartners$Town;I)I"⟩ ∈ gT := gT_in (tb_4 _ (List.mem_of_getElem? (i := 80) (by decide +kernel))) rfl
theorem wd_4_81 : Cond.static ⟨"WaxedPartners$Crowd", "bestSet", "(LWaxedPartners$Town;I)I"⟩ ∈ gT := gT_in (tb_4 _ (List.mem_of_getElem? (i := 81) (by decide +kernel))) rfl
theorem wd_4_95 : Cond.methodLink "WaxedPartners" 199 ⟨"WaxedPartners$Town", "toldWorth", "(I)I"⟩ ∈ gT := gT_in (tb_4 _ (List.mem_of_getElem? (i := 95) (by decide +kernel))) rfl
theorem wd_2_128 : Cond.fieldLink "WaxedPartners" 40 "WaxedPartners" "crowd" "LWaxedPartners$Crowd;" ∈ gT := gT_in (tb_2 _ (List.mem_of_getElem? (i := 128) (by decide +kernel))) rfl
theorem wd_4_104 : Cond.methodLink "WaxedPartners" 202 ⟨"WaxedPartners$Crowd", "part", "(LWaxedPartners$Town;I)V"⟩ ∈ gT := gT_in (tb_4 _ (List.mem_of_getElem? (i := 104) (by decide +kernel))) rfl
theorem wd_4_105 : Cond.instanceMethod ⟨"WaxedPartners$Crowd", "part", "(LWaxedPartners$Town;I)V"⟩ ∈ gT := gT_in (tb_4 _ (List.mem_of_getElem? (i := 105) (by decide +kernel))) rfl
theorem wd_4_106 : Cond.selects "WaxedPartners$Crowd" ⟨"WaxedPartners$Crowd", "part", "(LWaxedPartners$Town;I)V"⟩ ⟨"WaxedPartners$Crowd", "part", "(LWaxedPartners$Town;I)V"⟩ ∈ gT := gT_in (tb_4 _ (List.mem_of_getElem? (i := 106) (by decide +kernel))) rfl
theorem wd_2_94 : Cond.fieldLink "WaxedPartners" 206 "WaxedPartners$Crowd" "fewest" "[I" ∈ gT := gT_in (tb_2 _ (List.mem_of_getElem? (i := 94) (by decide +kernel))) rfl
theorem wd_2_96 : Cond.fieldLink "WaxedPartners" 209 "WaxedPartners$Crowd" "wayCounts" "[I" ∈ gT := gT_in (tb_2 _ (List.mem_of_getElem? (i := 96) (by decide +kernel))) rfl
theorem wd_4_120 : Cond.methodLink "WaxedPartners" 212 ⟨"WaxedPartners", "isEither", "(I)Z"⟩ ∈ gT := gT_in (tb_4 _ (List.mem_of_getElem? (i := 120) (by decide +kernel))) rfl
theorem wd_4_121 : Cond.static ⟨"WaxedPartners", "isEither", "(I)Z"⟩ ∈ gT := gT_in (tb_4 _ (List.mem_of_getElem? (i := 121) (by decide +kernel))) rfl
theorem wd_4_123 : Cond.fieldLink "WaxedPartners" 215 "WaxedPartners" "FACTORIALS" "[I" ∈ gT := gT_in (tb_4 _ (List.mem_of_getElem? (i := 123) (by decide +kernel))) rfl
theorem wd_4_125 : Cond.methodLink "WaxedPartners" 218 ⟨"WaxedPartners$Crowd", "gainOverOrders", "(LWaxedPartners$Town;II)J"⟩ ∈ gT := gT_in (tb_4 _ (List.mem_of_getElem? (i := 125) (by decide +kernel))) rfl
theorem wd_4_126 : Cond.static ⟨"WaxedPartners$Crowd", "gainOverOrders", "(LWaxedPartners$Town;II)J"⟩ ∈ gT := gT_in (tb_4 _ (List.mem_of_getElem? (i := 126) (by decide +kernel))) rfl
theorem wd_4_131 : Cond.methodLink "WaxedPartners" 222 ⟨"WaxedPartners", "lowest", "(JJI)I"⟩ ∈ gT := gT_in (tb_4 _ (List.mem_of_getElem? (i := 131) (by decide +kernel))) rfl
theorem wd_4_132 : Cond.static ⟨"WaxedPartners", "lowest", "(JJI)I"⟩ ∈ gT := gT_in (tb_4 _ (List.mem_of_getElem? (i := 132) (by decide +kernel))) rfl
theorem wd_4_144 : Cond.methodLink "WaxedPartners" 226 ⟨"WaxedPartners", "slotAt", "(I)LWaxedPartners$Numbers;"⟩ ∈ gT := gT_in (tb_4 _ (List.mem_of_getElem? (i := 144) (by decide +kernel))) rfl
theorem wd_4_146 : Cond.instanceMethod ⟨"WaxedPartners", "slotAt", "(I)LWaxedPartners$Numbers;"⟩ ∈ gT := gT_in (tb_4 _ (List.mem_of_getElem? (i := 146) (by decide +kernel))) rfl
theorem wp_2_11 : Cond.selects "WaxedPartners" ⟨"WaxedPartners", "slotAt", "(I)LWaxedPartners$Numbers;"⟩ ⟨"WaxedPartners", "slotAt", "(I)LWaxedPartners$Numbers;"⟩ ∈ gT := gT_in (List.mem_append_left _ (List.mem_map.mpr ⟨(⟨"WaxedPartners", "slotAt", "(I)LWaxedPartners$Numbers;"⟩, _), pv_2 _ (List.mem_of_getElem? (i := 11) rfl), rfl⟩)) rfl
theorem wd_4_148 : Cond.methodLink "WaxedPartners" 230 ⟨"WaxedPartners", "refusalOfGifts", "(LWaxedPartners$Numbers;I)I"⟩ ∈ gT := gT_in (tb_4 _ (List.mem_of_getElem? (i := 148) (by decide +kernel))) rfl
theorem wd_4_150 : Cond.instanceMethod ⟨"WaxedPartners", "refusalOfGifts", "(LWaxedPartners$Numbers;I)I"⟩ ∈ gT := gT_in (tb_4 _ (List.mem_of_getElem? (i := 150) (by decide +kernel))) rfl
theorem wp_2_12 : Cond.selects "WaxedPartners" ⟨"WaxedPartners", "refusalOfGifts", "(LWaxedPartners$Numbers;I)I"⟩ ⟨"WaxedPartners", "refusalOfGifts", "(LWaxedPartners$Numbers;I)I"⟩ ∈ gT := gT_in (List.mem_append_left _ (List.mem_map.mpr ⟨(⟨"WaxedPartners", "refusalOfGifts", "(LWaxedPartners$Numbers;I)I"⟩, _), pv_2 _ (List.mem_of_getElem? (i := 12) rfl), rfl⟩)) rfl
theorem wd_4_156 : Cond.methodLink "WaxedPartners" 234 ⟨"WaxedPartners$Crowd", "setWorth", "(LWaxedPartners$Town;II)I"⟩ ∈ gT := gT_in (tb_4 _ (List.mem_of_getElem? (i := 156) (by decide +kernel))) rfl
theorem wd_4_157 : Cond.methodLink "WaxedPartners" 238 ⟨"WaxedPartners$Numbers", "compareTogether", "(II)I"⟩ ∈ gT := gT_in (tb_4 _ (List.mem_of_getElem? (i := 157) (by decide +kernel))) rfl
theorem wd_4_166 : Cond.methodLink "WaxedPartners" 241 ⟨"WaxedPartners$Crowd", "firstLeaver", "(LWaxedPartners$Town;ILWaxedPartners$Numbers;)I"⟩ ∈ gT := gT_in (tb_4 _ (List.mem_of_getElem? (i := 166) (by decide +kernel))) rfl
theorem wd_4_167 : Cond.static ⟨"WaxedPartners$Crowd", "firstLeaver", "(LWaxedPartners$Town;ILWaxedPartners$Numbers;)I"⟩ ∈ gT := gT_in (tb_4 _ (List.mem_of_getElem? (i := 167) (by decide +kernel))) rfl
theorem wd_4_178 : Cond.methodLink "WaxedPartners" 245 ⟨"WaxedPartners", "fewestCut", "(II)I"⟩ ∈ gT := gT_in (tb_4 _ (List.mem_of_getElem? (i := 178) (by decide +kernel))) rfl
theorem wd_4_180 : Cond.instanceMethod ⟨"WaxedPartners", "fewestCut", "(II)I"⟩ ∈ gT := gT_in (tb_4 _ (List.mem_of_getElem? (i := 180) (by decide +kernel))) rfl
theorem wp_2_13 : Cond.selects "WaxedPartners" ⟨"WaxedPartners", "fewestCut", "(II)I"⟩ ⟨"WaxedPartners", "fewestCut", "(II)I"⟩ ∈ gT := gT_in (List.mem_append_left _ (List.mem_map.mpr ⟨(⟨"WaxedPartners", "fewestCut", "(II)I"⟩, _), pv_2 _ (List.mem_of_getElem? (i := 13) rfl), rfl⟩)) rfl
theorem wd_1_113 : Cond.fieldLink "WaxedPartners" 248 "WaxedPartners$Town" "joins" "I" ∈ gT := gT_in (tb_1 _ (List.mem_of_getElem? (i := 113) (by decide +kernel))) rfl
theorem wd_4_194 : Cond.methodLink "WaxedPartners" 251 ⟨"WaxedPartners$Town", "waxOf", "(I)I"⟩ ∈ gT := gT_in (tb_4 _ (List.mem_of_getElem? (i := 194) (by decide +kernel))) rfl
theorem wd_4_195 : Cond.instanceMethod ⟨"WaxedPartners$Town", "waxOf", "(I)I"⟩ ∈ gT := gT_in (tb_4 _ (List.mem_of_getElem? (i := 195) (by decide +kernel))) rfl
theorem wd_4_196 : Cond.selects "WaxedPartners$Town" ⟨"WaxedPartners$Town", "waxOf", "(I)I"⟩ ⟨"WaxedPartners$Town", "waxOf", "(I)I"⟩ ∈ gT := gT_in (tb_4 _ (List.mem_of_getElem? (i := 196) (by decide +kernel))) rfl
theorem wd_4_182 : Cond.methodLink "WaxedPartners" 254 ⟨"WaxedPartners", "cutsApart", "(III)Z"⟩ ∈ gT := gT_in (tb_4 _ (List.mem_of_getElem? (i := 182) (by decide +kernel))) rfl
theorem wd_4_184 : Cond.instanceMethod ⟨"WaxedPartners", "cutsApart", "(III)Z"⟩ ∈ gT := gT_in (tb_4 _ (List.mem_of_getElem? (i := 184) (by decide +kernel))) rfl
theorem wp_2_14 : Cond.selects "WaxedPartners" ⟨"WaxedPartners", "cutsApart", "(III)Z"⟩ ⟨"WaxedPartners", "cutsApart", "(III)Z"⟩ ∈ gT := gT_in (List.mem_append_left _ (List.mem_map.mpr ⟨(⟨"WaxedPartners", "cutsApart", "(III)Z"⟩, _), pv_2 _ (List.mem_of_getElem? (i := 14) rfl), rfl⟩)) rfl
theorem wd_4_202 : Cond.methodLink "WaxedPartners" 257 ⟨"WaxedPartners", "fewestGuards", "(I)I"⟩ ∈ gT := gT_in (tb_4 _ (List.mem_of_getElem? (i := 202) (by decide +kernel))) rfl
theorem wd_4_204 : Cond.instanceMethod ⟨"WaxedPartners", "fewestGuards", "(I)I"⟩ ∈ gT := gT_in (tb_4 _ (List.mem_of_getElem? (i := 204) (by decide +kernel))) rfl
theorem wp_2_15 : Cond.selects "WaxedPartners" ⟨"WaxedPartners", "fewestGuards", "(I)I"⟩ ⟨"WaxedPartners", "fewestGuards", "(I)I"⟩ ∈ gT := gT_in (List.mem_append_left _ (List.mem_map.mpr ⟨(⟨"WaxedPartners", "fewestGuards", "(I)I"⟩, _), pv_2 _ (List.mem_of_getElem? (i := 15) rfl), rfl⟩)) rfl
theorem wd_3_106 : Cond.methodLink "WaxedPartners" 260 ⟨"WaxedPartners$Decade", "supposeNothing", "()V"⟩ ∈ gT := gT_in (tb_3 _ (List.mem_of_getElem? (i := 106) (by decide +kernel))) rfl
theorem wd_2_31 : Cond.fieldLink "WaxedPartners" 263 "WaxedPartners$Decade" "sickBesides" "I" ∈ gT := gT_in (tb_2 _ (List.mem_of_getElem? (i := 31) (by decide +kernel))) rfl
theorem wd_3_110 : Cond.methodLink "WaxedPartners" 266 ⟨"WaxedPartners$Decade", "live", "(LWaxedPartners$Town;I)V"⟩ ∈ gT := gT_in (tb_3 _ (List.mem_of_getElem? (i := 110) (by decide +kernel))) rfl
theorem wd_2_51 : Cond.fieldLink "WaxedPartners" 269 "WaxedPartners$Decade" "everSick" "I" ∈ gT := gT_in (tb_2 _ (List.mem_of_getElem? (i := 51) (by decide +kernel))) rfl
theorem wd_4_222 : Cond.methodLink "WaxedPartners" 272 ⟨"WaxedPartners", "chew", "(I)I"⟩ ∈ gT := gT_in (tb_4 _ (List.mem_of_getElem? (i := 222) (by decide +kernel))) rfl
theorem wd_4_224 : Cond.instanceMethod ⟨"WaxedPartners", "chew", "(I)I"⟩ ∈ gT := gT_in (tb_4 _ (List.mem_of_getElem? (i := 224) (by decide +kernel))) rfl
theorem wp_3_1 : Cond.selects "WaxedPartners" ⟨"WaxedPartners", "chew", "(I)I"⟩ ⟨"WaxedPartners", "chew", "(I)I"⟩ ∈ gT := gT_in (List.mem_append_left _ (List.mem_map.mpr ⟨(⟨"WaxedPartners", "chew", "(I)I"⟩, _), pv_3 _ (List.mem_of_getElem? (i := 1) rfl), rfl⟩)) rfl
theorem wd_2_129 : Cond.fieldLink "WaxedPartners" 47 "WaxedPartners" "gum" "LWaxedPartners$Gum;" ∈ gT := gT_in (tb_2 _ (List.mem_of_getElem? (i := 129) (by decide +kernel))) rfl
theorem wd_2_109 : Cond.fieldLink "WaxedPartners" 275 "WaxedPartners$Gum" "setCount" "I" ∈ gT := gT_in (tb_2 _ (List.mem_of_getElem? (i := 109) (by decide +kernel))) rfl
theorem wd_2_111 : Cond.fieldLink "WaxedPartners" 278 "WaxedPartners$Gum" "inAll" "I" ∈ gT := gT_in (tb_2 _ (List.mem_of_getElem? (i := 111) (by decide +kernel))) rfl
theorem wd_2_113 : Cond.fieldLink "WaxedPartners" 281 "WaxedPartners$Gum" "inAny" "I" ∈ gT := gT_in (tb_2 _ (List.mem_of_getElem? (i := 113) (by decide +kernel))) rfl
theorem wd_5_26 : Cond.methodLink "WaxedPartners" 284 ⟨"WaxedPartners$Gum", "bestQuestion", "(LWaxedPartners$Town;)I"⟩ ∈ gT := gT_in (tb_5 _ (List.mem_of_getElem? (i := 26) (by decide +kernel))) rfl
theorem wd_5_27 : Cond.instanceMethod ⟨"WaxedPartners$Gum", "bestQuestion", "(LWaxedPartners$Town;)I"⟩ ∈ gT := gT_in (tb_5 _ (List.mem_of_getElem? (i := 27) (by decide +kernel))) rfl
theorem wd_5_28 : Cond.selects "WaxedPartners$Gum" ⟨"WaxedPartners$Gum", "bestQuestion", "(LWaxedPartners$Town;)I"⟩ ⟨"WaxedPartners$Gum", "bestQuestion", "(LWaxedPartners$Town;)I"⟩ ∈ gT := gT_in (tb_5 _ (List.mem_of_getElem? (i := 28) (by decide +kernel))) rfl
theorem wd_5_39 : Cond.methodLink "WaxedPartners" 288 ⟨"WaxedPartners$Gum", "leftAtWorst", "(I)I"⟩ ∈ gT := gT_in (tb_5 _ (List.mem_of_getElem? (i := 39) (by decide +kernel))) rfl
theorem wd_4_226 : Cond.methodLink "WaxedPartners" 291 ⟨"WaxedPartners", "refusalOfSightings", "(LWaxedPartners$Numbers;)I"⟩ ∈ gT := gT_in (tb_4 _ (List.mem_of_getElem? (i := 226) (by decide +kernel))) rfl
theorem wd_4_228 : Cond.instanceMethod ⟨"WaxedPartners", "refusalOfSightings", "(LWaxedPartners$Numbers;)I"⟩ ∈ gT := gT_in (tb_4 _ (List.mem_of_getElem? (i := 228) (by decide +kernel))) rfl
theorem wp_3_2 : Cond.selects "WaxedPartners" ⟨"WaxedPartners", "refusalOfSightings", "(LWaxedPartners$Numbers;)I"⟩ ⟨"WaxedPartners", "refusalOfSightings", "(LWaxedPartners$Numbers;)I"⟩ ∈ gT := gT_in (List.mem_append_left _ (List.mem_map.mpr ⟨(⟨"WaxedPartners", "refusalOfSightings", "(LWaxedPartners$Numbers;)I"⟩, _), pv_3 _ (List.mem_of_getElem? (i := 2) rfl), rfl⟩)) rfl
theorem wd_2_27 : Cond.fieldLink "WaxedPartners" 295 "WaxedPartners$Decade" "actsAside" "Z" ∈ gT := gT_in (tb_2 _ (List.mem_of_getElem? (i := 27) (by decide +kernel))) rfl
theorem wd_5_44 : Cond.methodLink "WaxedPartners" 299 ⟨"WaxedPartners$Gum", "agrees", "(LWaxedPartners$Town;LWaxedPartners$Decade;LWaxedPartners$Numbers;I)Z"⟩ ∈ gT := gT_in (tb_5 _ (List.mem_of_getElem? (i := 44) (by decide +kernel))) rfl
theorem wd_5_49 : Cond.methodLink "WaxedPartners" 303 ⟨"WaxedPartners$Decade", "isFirstOfFirm", "(II)Z"⟩ ∈ gT := gT_in (tb_5 _ (List.mem_of_getElem? (i := 49) (by decide +kernel))) rfl
theorem wd_5_54 : Cond.methodLink "WaxedPartners" 306 ⟨"WaxedPartners", "payOf", "(IIII)I"⟩ ∈ gT := gT_in (tb_5 _ (List.mem_of_getElem? (i := 54) (by decide +kernel))) rfl
theorem wd_5_56 : Cond.instanceMethod ⟨"WaxedPartners", "payOf", "(IIII)I"⟩ ∈ gT := gT_in (tb_5 _ (List.mem_of_getElem? (i := 56) (by decide +kernel))) rfl
theorem wp_3_4 : Cond.selects "WaxedPartners" ⟨"WaxedPartners", "payOf", "(IIII)I"⟩ ⟨"WaxedPartners", "payOf", "(IIII)I"⟩ ∈ gT := gT_in (List.mem_append_left _ (List.mem_map.mpr ⟨(⟨"WaxedPartners", "payOf", "(IIII)I"⟩, _), pv_3 _ (List.mem_of_getElem? (i := 4) rfl), rfl⟩)) rfl
theorem wd_5_70 : Cond.methodLink "WaxedPartners" 310 ⟨"WaxedPartners", "lastWorthOfBoth", "(II)I"⟩ ∈ gT := gT_in (tb_5 _ (List.mem_of_getElem? (i := 70) (by decide +kernel))) rfl
theorem wd_5_72 : Cond.instanceMethod ⟨"WaxedPartners", "lastWorthOfBoth", "(II)I"⟩ ∈ gT := gT_in (tb_5 _ (List.mem_of_getElem? (i := 72) (by decide +kernel))) rfl
theorem wp_3_6 : Cond.selects "WaxedPartners" ⟨"WaxedPartners", "lastWorthOfBoth", "(II)I"⟩ ⟨"WaxedPartners", "lastWorthOfBoth", "(II)I"⟩ ∈ gT := gT_in (List.mem_append_left _ (List.mem_map.mpr ⟨(⟨"WaxedPartners", "lastWorthOfBoth", "(II)I"⟩, _), pv_3 _ (List.mem_of_getElem? (i := 6) rfl), rfl⟩)) rfl
theorem wd_1_159 : Cond.fieldLink "WaxedPartners" 313 "WaxedPartners$Town" "acts" "LWaxedPartners$Acts;" ∈ gT := gT_in (tb_1 _ (List.mem_of_getElem? (i := 159) (by decide +kernel))) rfl
theorem wd_5_74 : Cond.methodLink "WaxedPartners" 317 ⟨"WaxedPartners$Acts", "add", "(IIII)V"⟩ ∈ gT := gT_in (tb_5 _ (List.mem_of_getElem? (i := 74) (by decide +kernel))) rfl
theorem wd_5_75 : Cond.instanceMethod ⟨"WaxedPartners$Acts", "add", "(IIII)V"⟩ ∈ gT := gT_in (tb_5 _ (List.mem_of_getElem? (i := 75) (by decide +kernel))) rfl
theorem wd_5_76 : Cond.selects "WaxedPartners$Acts" ⟨"WaxedPartners$Acts", "add", "(IIII)V"⟩ ⟨"WaxedPartners$Acts", "add", "(IIII)V"⟩ ∈ gT := gT_in (tb_5 _ (List.mem_of_getElem? (i := 76) (by decide +kernel))) rfl
theorem wd_5_78 : Cond.methodLink "WaxedPartners" 323 ⟨"WaxedPartners$Acts", "takeBack", "()V"⟩ ∈ gT := gT_in (tb_5 _ (List.mem_of_getElem? (i := 78) (by decide +kernel))) rfl
theorem wd_5_79 : Cond.instanceMethod ⟨"WaxedPartners$Acts", "takeBack", "()V"⟩ ∈ gT := gT_in (tb_5 _ (List.mem_of_getElem? (i := 79) (by decide +kernel))) rfl
theorem wd_5_80 : Cond.selects "WaxedPartners$Acts" ⟨"WaxedPartners$Acts", "takeBack", "()V"⟩ ⟨"WaxedPartners$Acts", "takeBack", "()V"⟩ ∈ gT := gT_in (tb_5 _ (List.mem_of_getElem? (i := 80) (by decide +kernel))) rfl
theorem wd_5_87 : Cond.methodLink "WaxedPartners" 326 ⟨"WaxedPartners", "meanOf", "(IIII)I"⟩ ∈ gT := gT_in (tb_5 _ (List.mem_of_getElem? (i := 87) (by decide +kernel))) rfl
theorem wd_5_89 : Cond.instanceMethod ⟨"WaxedPartners", "meanOf", "(IIII)I"⟩ ∈ gT := gT_in (tb_5 _ (List.mem_of_getElem? (i := 89) (by decide +kernel))) rfl
theorem wp_3_7 : Cond.selects "WaxedPartners" ⟨"WaxedPartners", "meanOf", "(IIII)I"⟩ ⟨"WaxedPartners", "meanOf", "(IIII)I"⟩ ∈ gT := gT_in (List.mem_append_left _ (List.mem_map.mpr ⟨(⟨"WaxedPartners", "meanOf", "(IIII)I"⟩, _), pv_3 _ (List.mem_of_getElem? (i := 7) rfl), rfl⟩)) rfl
theorem wd_1_72 : Cond.fieldLink "WaxedPartners" 329 "WaxedPartners$Acts" "given" "I" ∈ gT := gT_in (tb_1 _ (List.mem_of_getElem? (i := 72) (by decide +kernel))) rfl
theorem wd_5_127 : Cond.methodLink "WaxedPartners" 332 ⟨"WaxedPartners", "isSeed", "(I)Z"⟩ ∈ gT := gT_in (tb_5 _ (List.mem_of_getElem? (i := 127) (by decide +kernel))) rfl
theorem wd_5_128 : Cond.static ⟨"WaxedPartners", "isSeed", "(I)Z"⟩ ∈ gT := gT_in (tb_5 _ (List.mem_of_getElem? (i := 128) (by decide +kernel))) rfl
theorem wd_5_131 : Cond.methodLink "WaxedPartners" 335 ⟨"WaxedPartners", "drawFalseJoins", "(I)I"⟩ ∈ gT := gT_in (tb_5 _ (List.mem_of_getElem? (i := 131) (by decide +kernel))) rfl
theorem wd_5_133 : Cond.instanceMethod ⟨"WaxedPartners", "drawFalseJoins", "(I)I"⟩ ∈ gT := gT_in (tb_5 _ (List.mem_of_getElem? (i := 133) (by decide +kernel))) rfl
theorem wp_3_10 : Cond.selects "WaxedPartners" ⟨"WaxedPartners", "drawFalseJoins", "(I)I"⟩ ⟨"WaxedPartners", "drawFalseJoins", "(I)I"⟩ ∈ gT := gT_in (List.mem_append_left _ (List.mem_map.mpr ⟨(⟨"WaxedPartners", "drawFalseJoins", "(I)I"⟩, _), pv_3 _ (List.mem_of_getElem? (i := 10) rfl), rfl⟩)) rfl
theorem wd_5_140 : Cond.methodLink "WaxedPartners" 338 ⟨"WaxedPartners", "outAtLast", "(I)I"⟩ ∈ gT := gT_in (tb_5 _ (List.mem_of_getElem? (i := 140) (by decide +kernel))) rfl
theorem wd_5_142 : Cond.instanceMethod ⟨"WaxedPartners", "outAtLast", "(I)I"⟩ ∈ gT := gT_in (tb_5 _ (List.mem_of_getElem? (i := 142) (by decide +kernel))) rfl
theorem wp_3_11 : Cond.selects "WaxedPartners" ⟨"WaxedPartners", "outAtLast", "(I)I"⟩ ⟨"WaxedPartners", "outAtLast", "(I)I"⟩ ∈ gT := gT_in (List.mem_append_left _ (List.mem_map.mpr ⟨(⟨"WaxedPartners", "outAtLast", "(I)I"⟩, _), pv_3 _ (List.mem_of_getElem? (i := 11) rfl), rfl⟩)) rfl
theorem wd_1_99 : Cond.fieldLink "WaxedPartners" 341 "WaxedPartners$Town" "slump" "I" ∈ gT := gT_in (tb_1 _ (List.mem_of_getElem? (i := 99) (by decide +kernel))) rfl
theorem wd_1_102 : Cond.fieldLink "WaxedPartners" 344 "WaxedPartners$Town" "odds" "I" ∈ gT := gT_in (tb_1 _ (List.mem_of_getElem? (i := 102) (by decide +kernel))) rfl
theorem wd_1_118 : Cond.fieldLink "WaxedPartners" 347 "WaxedPartners$Town" "doors" "I" ∈ gT := gT_in (tb_1 _ (List.mem_of_getElem? (i := 118) (by decide +kernel))) rfl
theorem wd_1_122 : Cond.fieldLink "WaxedPartners" 350 "WaxedPartners$Town" "colds" "I" ∈ gT := gT_in (tb_1 _ (List.mem_of_getElem? (i := 122) (by decide +kernel))) rfl
theorem wd_5_156 : Cond.methodLink "WaxedPartners" 353 ⟨"WaxedPartners", "rowCount", "()I"⟩ ∈ gT := gT_in (tb_5 _ (List.mem_of_getElem? (i := 156) (by decide +kernel))) rfl
theorem wd_5_158 : Cond.instanceMethod ⟨"WaxedPartners", "rowCount", "()I"⟩ ∈ gT := gT_in (tb_5 _ (List.mem_of_getElem? (i := 158) (by decide +kernel))) rfl
theorem wp_3_12 : Cond.selects "WaxedPartners" ⟨"WaxedPartners", "rowCount", "()I"⟩ ⟨"WaxedPartners", "rowCount", "()I"⟩ ∈ gT := gT_in (List.mem_append_left _ (List.mem_map.mpr ⟨(⟨"WaxedPartners", "rowCount", "()I"⟩, _), pv_3 _ (List.mem_of_getElem? (i := 12) rfl), rfl⟩)) rfl
theorem wd_2_126 : Cond.fieldLink "WaxedPartners" 25 "WaxedPartners" "images" "[LWaxedPartners$Town;" ∈ gT := gT_in (tb_2 _ (List.mem_of_getElem? (i := 126) (by decide +kernel))) rfl
theorem wd_5_164 : Cond.methodLink "WaxedPartners" 357 ⟨"WaxedPartners$Town", "copyFrom", "(LWaxedPartners$Town;)V"⟩ ∈ gT := gT_in (tb_5 _ (List.mem_of_getElem? (i := 164) (by decide +kernel))) rfl
theorem wd_5_165 : Cond.instanceMethod ⟨"WaxedPartners$Town", "copyFrom", "(LWaxedPartners$Town;)V"⟩ ∈ gT := gT_in (tb_5 _ (List.mem_of_getElem? (i := 165) (by decide +kernel))) rfl
theorem wd_5_166 : Cond.selects "WaxedPartners$Town" ⟨"WaxedPartners$Town", "copyFrom", "(LWaxedPartners$Town;)V"⟩ ⟨"WaxedPartners$Town", "copyFrom", "(LWaxedPartners$Town;)V"⟩ ∈ gT := gT_in (tb_5 _ (List.mem_of_getElem? (i := 166) (by decide +kernel))) rfl
theorem wd_2_131 : Cond.fieldLink "WaxedPartners" 361 "WaxedPartners" "imagesKept" "I" ∈ gT := gT_in (tb_2 _ (List.mem_of_getElem? (i := 131) (by decide +kernel))) rfl
theorem wd_5_188 : Cond.methodLink "WaxedPartners" 364 ⟨"WaxedPartners$Numbers", "begin", "(II)V"⟩ ∈ gT := gT_in (tb_5 _ (List.mem_of_getElem? (i := 188) (by decide +kernel))) rfl
