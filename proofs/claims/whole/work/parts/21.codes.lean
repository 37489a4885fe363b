/-! THE CODE WORDS OF THE METHODS STAND IN THE TABLES -/
theorem tb_1 {w : Cond} (h : w ∈ tables_1_1) : w ∈ tables_1 := List.mem_append_left _ h
theorem tb_2 {w : Cond} (h : w ∈ tables_1_2) : w ∈ tables_1 := List.mem_append_right _ (List.mem_append_left _ h)
theorem tb_3 {w : Cond} (h : w ∈ tables_1_3) : w ∈ tables_1 := List.mem_append_right _ (List.mem_append_right _ (List.mem_append_left _ h))
theorem tb_4 {w : Cond} (h : w ∈ tables_1_4) : w ∈ tables_1 := List.mem_append_right _ (List.mem_append_right _ (List.mem_append_right _ (List.mem_append_left _ h)))
theorem tb_5 {w : Cond} (h : w ∈ tables_1_5) : w ∈ tables_1 := List.mem_append_right _ (List.mem_append_right _ (List.mem_append_right _ (List.mem_append_right _ (List.mem_append_left _ h))))
theorem tb_6 {w : Cond} (h : w ∈ tables_1_6) : w ∈ tables_1 := List.mem_append_right _ (List.mem_append_right _ (List.mem_append_right _ (List.mem_append_right _ (List.mem_append_right _ (List.mem_append_left _ h)))))
theorem tb_7 {w : Cond} (h : w ∈ tables_1_7) : w ∈ tables_1 := List.mem_append_right _ (List.mem_append_right _ (List.mem_append_right _ (List.mem_append_right _ (List.mem_append_right _ (List.mem_append_right _ (List.mem_append_left _ h))))))
theorem tb_8 {w : Cond} (h : w ∈ tables_1_8) : w ∈ tables_1 := List.mem_append_right _ (List.mem_append_right _ (List.mem_append_right _ (List.mem_append_right _ (List.mem_append_right _ (List.mem_append_right _ (List.mem_append_right _ (List.mem_append_left _ h)))))))
theorem tb_9 {w : Cond} (h : w ∈ tables_1_9) : w ∈ tables_1 := List.mem_append_right _ (List.mem_append_right _ (List.mem_append_right _ (List.mem_append_right _ (List.mem_append_right _ (List.mem_append_right _ (List.mem_append_right _ (List.mem_append_right _ (h))))))))
theorem cd_in {w : Cond} (h : w ∈ tables_1) (hg : goodWord w = true) : w ∈ aGT := List.mem_filter.mpr ⟨List.mem_append_right _ h, hg⟩
theorem cd_1 : a_cw pM_SnowCanton_init ∈ aGT := cd_in (tb_1 (List.mem_of_getElem? (i := 34) rfl)) rfl
theorem cd_60 : a_cw pM_Canton_init ∈ aGT := cd_in (tb_1 (List.mem_of_getElem? (i := 42) rfl)) rfl
theorem cd_137 : a_cw pM_Rule_init ∈ aGT := cd_in (tb_1 (List.mem_of_getElem? (i := 48) rfl)) rfl
theorem cd_61 : a_cw pM_Reader_init ∈ aGT := cd_in (tb_1 (List.mem_of_getElem? (i := 136) rfl)) rfl
theorem cd_62 : a_cw pM_State_init ∈ aGT := cd_in (tb_1 (List.mem_of_getElem? (i := 170) rfl)) rfl
theorem cd_138 : a_cw pM_Acts_init ∈ aGT := cd_in (tb_1 (List.mem_of_getElem? (i := 176) rfl)) rfl
theorem cd_139 : a_cw pM_Seen_init ∈ aGT := cd_in (tb_1 (List.mem_of_getElem? (i := 192) rfl)) rfl
theorem cd_140 : a_cw pM_Snow_init ∈ aGT := cd_in (tb_1 (List.mem_of_getElem? (i := 211) rfl)) rfl
theorem cd_63 : a_cw pM_Ways_init ∈ aGT := cd_in (tb_2 (List.mem_of_getElem? (i := 1) rfl)) rfl
theorem cd_64 : a_cw pM_Ahead_init ∈ aGT := cd_in (tb_2 (List.mem_of_getElem? (i := 17) rfl)) rfl
theorem cd_65 : a_cw pM_Guess_init ∈ aGT := cd_in (tb_2 (List.mem_of_getElem? (i := 53) rfl)) rfl
theorem cd_66 : a_cw pM_Snow_begin ∈ aGT := cd_in (tb_2 (List.mem_of_getElem? (i := 76) rfl)) rfl
theorem cd_141 : a_cw pM_Arrays_fill_0 ∈ aGT := cd_in (tb_2 (List.mem_of_getElem? (i := 79) rfl)) rfl
theorem cd_142 : a_cw pM_Arrays_fill_1 ∈ aGT := cd_in (tb_2 (List.mem_of_getElem? (i := 82) rfl)) rfl
theorem cd_228 : a_cw pM_Arrays_rangeCheck ∈ aGT := cd_in (tb_2 (List.mem_of_getElem? (i := 85) rfl)) rfl
theorem cd_237 : a_cw pM_String_length ∈ aGT := cd_in (tb_2 (List.mem_of_getElem? (i := 238) rfl)) rfl
theorem cd_274 : a_cw pM_String_coder ∈ aGT := cd_in (tb_3 (List.mem_of_getElem? (i := 2) rfl)) rfl
theorem cd_3 : a_cw pM_SnowCanton_feed ∈ aGT := cd_in (tb_3 (List.mem_of_getElem? (i := 192) rfl)) rfl
theorem cd_67 : a_cw pM_SnowCanton_putNumber ∈ aGT := cd_in (tb_3 (List.mem_of_getElem? (i := 196) rfl)) rfl
theorem cd_8 : a_cw pM_SnowCanton_fault ∈ aGT := cd_in (tb_3 (List.mem_of_getElem? (i := 200) rfl)) rfl
theorem cd_16 : a_cw pM_SnowCanton_hours ∈ aGT := cd_in (tb_3 (List.mem_of_getElem? (i := 204) rfl)) rfl
theorem cd_89 : a_cw pM_Snow_hour ∈ aGT := cd_in (tb_3 (List.mem_of_getElem? (i := 208) rfl)) rfl
theorem cd_90 : a_cw pM_SnowCanton_refuseAct ∈ aGT := cd_in (tb_3 (List.mem_of_getElem? (i := 212) rfl)) rfl
theorem cd_146 : a_cw pM_State_refuse ∈ aGT := cd_in (tb_3 (List.mem_of_getElem? (i := 216) rfl)) rfl
theorem cd_91 : a_cw pM_State_keepAct ∈ aGT := cd_in (tb_3 (List.mem_of_getElem? (i := 220) rfl)) rfl
theorem cd_189 : a_cw pM_Acts_keep ∈ aGT := cd_in (tb_3 (List.mem_of_getElem? (i := 224) rfl)) rfl
theorem cd_92 : a_cw pM_Snow_goHours ∈ aGT := cd_in (tb_3 (List.mem_of_getElem? (i := 229) rfl)) rfl
theorem cd_190 : a_cw pM_Snow_fall ∈ aGT := cd_in (tb_3 (List.mem_of_getElem? (i := 233) rfl)) rfl
theorem cd_171 : a_cw pM_Canton_hasCell ∈ aGT := cd_in (tb_3 (List.mem_of_getElem? (i := 237) rfl)) rfl
theorem cd_176 : a_cw pM_Snow_ownerFor ∈ aGT := cd_in (tb_4 (List.mem_of_getElem? (i := 1) rfl)) rfl
theorem cd_192 : a_cw pM_Canton_far ∈ aGT := cd_in (tb_4 (List.mem_of_getElem? (i := 5) rfl)) rfl
theorem cd_246 : a_cw pM_Snow_reaches ∈ aGT := cd_in (tb_4 (List.mem_of_getElem? (i := 12) rfl)) rfl
theorem cd_247 : a_cw pM_Rule_isTold ∈ aGT := cd_in (tb_4 (List.mem_of_getElem? (i := 16) rfl)) rfl
theorem cd_248 : a_cw pM_Snow_tellValues ∈ aGT := cd_in (tb_4 (List.mem_of_getElem? (i := 20) rfl)) rfl
theorem cd_278 : a_cw pM_Rule_setValue ∈ aGT := cd_in (tb_4 (List.mem_of_getElem? (i := 24) rfl)) rfl
theorem cd_165 : a_cw pM_Snow_held ∈ aGT := cd_in (tb_4 (List.mem_of_getElem? (i := 28) rfl)) rfl
theorem cd_172 : a_cw pM_Canton_heightOf ∈ aGT := cd_in (tb_4 (List.mem_of_getElem? (i := 32) rfl)) rfl
theorem cd_249 : a_cw pM_Rule_worth ∈ aGT := cd_in (tb_4 (List.mem_of_getElem? (i := 36) rfl)) rfl
theorem cd_279 : a_cw pM_Rule_join ∈ aGT := cd_in (tb_4 (List.mem_of_getElem? (i := 39) rfl)) rfl
theorem cd_191 : a_cw pM_Snow_passHour ∈ aGT := cd_in (tb_4 (List.mem_of_getElem? (i := 44) rfl)) rfl
theorem cd_20 : a_cw pM_SnowCanton_wind ∈ aGT := cd_in (tb_4 (List.mem_of_getElem? (i := 48) rfl)) rfl
theorem cd_99 : a_cw pM_Snow_blow ∈ aGT := cd_in (tb_4 (List.mem_of_getElem? (i := 52) rfl)) rfl
theorem cd_173 : a_cw pM_Snow_flakesOn ∈ aGT := cd_in (tb_4 (List.mem_of_getElem? (i := 56) rfl)) rfl
theorem cd_194 : a_cw pM_Canton_neighbour ∈ aGT := cd_in (tb_4 (List.mem_of_getElem? (i := 60) rfl)) rfl
theorem cd_195 : a_cw pM_Snow_shift ∈ aGT := cd_in (tb_4 (List.mem_of_getElem? (i := 64) rfl)) rfl
theorem cd_197 : a_cw pM_Snow_lessen ∈ aGT := cd_in (tb_4 (List.mem_of_getElem? (i := 68) rfl)) rfl
theorem cd_22 : a_cw pM_SnowCanton_thaw ∈ aGT := cd_in (tb_4 (List.mem_of_getElem? (i := 73) rfl)) rfl
theorem cd_103 : a_cw pM_Snow_melt ∈ aGT := cd_in (tb_4 (List.mem_of_getElem? (i := 77) rfl)) rfl
theorem cd_178 : a_cw pM_Canton_reachesSea ∈ aGT := cd_in (tb_4 (List.mem_of_getElem? (i := 81) rfl)) rfl
theorem cd_177 : a_cw pM_Canton_waterEnd ∈ aGT := cd_in (tb_4 (List.mem_of_getElem? (i := 85) rfl)) rfl
theorem cd_250 : a_cw pM_Canton_lowerNeighbour ∈ aGT := cd_in (tb_4 (List.mem_of_getElem? (i := 89) rfl)) rfl
theorem cd_251 : a_cw pM_Canton_isEdge ∈ aGT := cd_in (tb_4 (List.mem_of_getElem? (i := 97) rfl)) rfl
theorem cd_196 : a_cw pM_Snow_addWater ∈ aGT := cd_in (tb_4 (List.mem_of_getElem? (i := 101) rfl)) rfl
theorem cd_26 : a_cw pM_SnowCanton_undo ∈ aGT := cd_in (tb_4 (List.mem_of_getElem? (i := 105) rfl)) rfl
theorem cd_106 : a_cw pM_State_takeBackAct ∈ aGT := cd_in (tb_4 (List.mem_of_getElem? (i := 109) rfl)) rfl
theorem cd_198 : a_cw pM_Acts_takeBack ∈ aGT := cd_in (tb_4 (List.mem_of_getElem? (i := 113) rfl)) rfl
theorem cd_107 : a_cw pM_Acts_size ∈ aGT := cd_in (tb_4 (List.mem_of_getElem? (i := 117) rfl)) rfl
theorem cd_48 : a_cw pM_SnowCanton_forget ∈ aGT := cd_in (tb_4 (List.mem_of_getElem? (i := 121) rfl)) rfl
theorem cd_127 : a_cw pM_Seen_clear ∈ aGT := cd_in (tb_4 (List.mem_of_getElem? (i := 125) rfl)) rfl
theorem cd_50 : a_cw pM_SnowCanton_partition ∈ aGT := cd_in (tb_4 (List.mem_of_getElem? (i := 129) rfl)) rfl
theorem cd_128 : a_cw pM_Canton_kindOf ∈ aGT := cd_in (tb_4 (List.mem_of_getElem? (i := 133) rfl)) rfl
theorem cd_181 : a_cw pM_Canton_hasPerson ∈ aGT := cd_in (tb_4 (List.mem_of_getElem? (i := 137) rfl)) rfl
theorem cd_129 : a_cw pM_Ahead_wouldWalk ∈ aGT := cd_in (tb_4 (List.mem_of_getElem? (i := 141) rfl)) rfl
theorem cd_182 : a_cw pM_Snow_placeOf ∈ aGT := cd_in (tb_4 (List.mem_of_getElem? (i := 145) rfl)) rfl
theorem cd_205 : a_cw pM_Ahead_heldFrom ∈ aGT := cd_in (tb_4 (List.mem_of_getElem? (i := 150) rfl)) rfl
theorem cd_225 : a_cw pM_Snow_copyFrom ∈ aGT := cd_in (tb_4 (List.mem_of_getElem? (i := 154) rfl)) rfl
theorem cd_193 : a_cw pM_Snow_place ∈ aGT := cd_in (tb_4 (List.mem_of_getElem? (i := 158) rfl)) rfl
theorem cd_56 : a_cw pM_SnowCanton_image ∈ aGT := cd_in (tb_4 (List.mem_of_getElem? (i := 165) rfl)) rfl
theorem cd_135 : a_cw pM_State_copyFrom ∈ aGT := cd_in (tb_4 (List.mem_of_getElem? (i := 169) rfl)) rfl
theorem cd_226 : a_cw pM_Acts_copyFrom ∈ aGT := cd_in (tb_4 (List.mem_of_getElem? (i := 174) rfl)) rfl
theorem cd_227 : a_cw pM_Seen_copyFrom ∈ aGT := cd_in (tb_4 (List.mem_of_getElem? (i := 178) rfl)) rfl
theorem cd_58 : a_cw pM_SnowCanton_restore ∈ aGT := cd_in (tb_4 (List.mem_of_getElem? (i := 184) rfl)) rfl
theorem cd_5 : a_cw pM_SnowCantonLaw_canton ∈ aGT := cd_in (tb_4 (List.mem_of_getElem? (i := 187) rfl)) rfl
theorem cd_68 : a_cw pM_SnowCanton_canton ∈ aGT := cd_in (tb_4 (List.mem_of_getElem? (i := 192) rfl)) rfl
theorem cd_143 : a_cw pM_SnowCanton_proper ∈ aGT := cd_in (tb_4 (List.mem_of_getElem? (i := 195) rfl)) rfl
theorem cd_144 : a_cw pM_Reader_read ∈ aGT := cd_in (tb_4 (List.mem_of_getElem? (i := 202) rfl)) rfl
theorem cd_229 : a_cw pM_Canton_clear ∈ aGT := cd_in (tb_4 (List.mem_of_getElem? (i := 207) rfl)) rfl
theorem cd_234 : a_cw pM_Canton_setSize ∈ aGT := cd_in (tb_4 (List.mem_of_getElem? (i := 211) rfl)) rfl
theorem cd_263 : a_cw pM_Rule_clear ∈ aGT := cd_in (tb_4 (List.mem_of_getElem? (i := 216) rfl)) rfl
theorem cd_230 : a_cw pM_Reader_next ∈ aGT := cd_in (tb_4 (List.mem_of_getElem? (i := 220) rfl)) rfl
theorem cd_264 : a_cw pM_Reader_byteAt ∈ aGT := cd_in (tb_4 (List.mem_of_getElem? (i := 224) rfl)) rfl
theorem cd_265 : a_cw pM_Reader_tokenOf ∈ aGT := cd_in (tb_4 (List.mem_of_getElem? (i := 227) rfl)) rfl
theorem cd_231 : a_cw pM_Reader_isWord ∈ aGT := cd_in (tb_4 (List.mem_of_getElem? (i := 232) rfl)) rfl
theorem cd_238 : a_cw pM_String_charAt ∈ aGT := cd_in (tb_4 (List.mem_of_getElem? (i := 237) rfl)) rfl
theorem cd_275 : a_cw pM_String_isLatin1 ∈ aGT := cd_in (tb_5 (List.mem_of_getElem? (i := 1) rfl)) rfl
theorem cd_276 : a_cw pM_StringLatin1_charAt ∈ aGT := cd_in (tb_5 (List.mem_of_getElem? (i := 4) rfl)) rfl
theorem cd_294 : a_cw pM_String_checkIndex ∈ aGT := cd_in (tb_5 (List.mem_of_getElem? (i := 7) rfl)) rfl
theorem cd_300 : a_cw pM_Preconditions_checkIndex ∈ aGT := cd_in (tb_5 (List.mem_of_getElem? (i := 10) rfl)) rfl
theorem cd_232 : a_cw pM_Reader_readSize ∈ aGT := cd_in (tb_5 (List.mem_of_getElem? (i := 21) rfl)) rfl
theorem cd_266 : a_cw pM_Reader_isNumber ∈ aGT := cd_in (tb_5 (List.mem_of_getElem? (i := 25) rfl)) rfl
theorem cd_273 : a_cw pM_Reader_refuse ∈ aGT := cd_in (tb_5 (List.mem_of_getElem? (i := 29) rfl)) rfl
theorem cd_287 : a_cw pM_Reader_numberTold ∈ aGT := cd_in (tb_5 (List.mem_of_getElem? (i := 33) rfl)) rfl
theorem cd_267 : a_cw pM_Reader_passSign ∈ aGT := cd_in (tb_5 (List.mem_of_getElem? (i := 38) rfl)) rfl
theorem cd_288 : a_cw pM_Reader_isSign ∈ aGT := cd_in (tb_5 (List.mem_of_getElem? (i := 42) rfl)) rfl
theorem cd_233 : a_cw pM_Reader_readLine ∈ aGT := cd_in (tb_5 (List.mem_of_getElem? (i := 46) rfl)) rfl
theorem cd_268 : a_cw pM_Reader_readHeight ∈ aGT := cd_in (tb_5 (List.mem_of_getElem? (i := 51) rfl)) rfl
theorem cd_289 : a_cw pM_Reader_isCell ∈ aGT := cd_in (tb_5 (List.mem_of_getElem? (i := 55) rfl)) rfl
theorem cd_290 : a_cw pM_Canton_setHeight ∈ aGT := cd_in (tb_5 (List.mem_of_getElem? (i := 60) rfl)) rfl
theorem cd_269 : a_cw pM_Reader_kindTold ∈ aGT := cd_in (tb_5 (List.mem_of_getElem? (i := 65) rfl)) rfl
theorem cd_270 : a_cw pM_Reader_readPerson ∈ aGT := cd_in (tb_5 (List.mem_of_getElem? (i := 73) rfl)) rfl
theorem cd_291 : a_cw pM_Canton_addPerson ∈ aGT := cd_in (tb_5 (List.mem_of_getElem? (i := 77) rfl)) rfl
theorem cd_271 : a_cw pM_Reader_readFall ∈ aGT := cd_in (tb_5 (List.mem_of_getElem? (i := 82) rfl)) rfl
theorem cd_292 : a_cw pM_Canton_addFall ∈ aGT := cd_in (tb_5 (List.mem_of_getElem? (i := 86) rfl)) rfl
theorem cd_272 : a_cw pM_Reader_readFirst ∈ aGT := cd_in (tb_5 (List.mem_of_getElem? (i := 91) rfl)) rfl
theorem cd_293 : a_cw pM_Reader_readExpr ∈ aGT := cd_in (tb_5 (List.mem_of_getElem? (i := 96) rfl)) rfl
theorem cd_298 : a_cw pM_Reader_readAnd ∈ aGT := cd_in (tb_5 (List.mem_of_getElem? (i := 100) rfl)) rfl
theorem cd_302 : a_cw pM_Reader_readNot ∈ aGT := cd_in (tb_5 (List.mem_of_getElem? (i := 104) rfl)) rfl
theorem cd_304 : a_cw pM_Reader_readTest ∈ aGT := cd_in (tb_5 (List.mem_of_getElem? (i := 109) rfl)) rfl
theorem cd_305 : a_cw pM_Reader_readSum ∈ aGT := cd_in (tb_5 (List.mem_of_getElem? (i := 113) rfl)) rfl
theorem cd_306 : a_cw pM_Reader_readProduct ∈ aGT := cd_in (tb_5 (List.mem_of_getElem? (i := 117) rfl)) rfl
theorem cd_307 : a_cw pM_Reader_readPart ∈ aGT := cd_in (tb_5 (List.mem_of_getElem? (i := 121) rfl)) rfl
theorem cd_308 : a_cw pM_Reader_valueTold ∈ aGT := cd_in (tb_5 (List.mem_of_getElem? (i := 125) rfl)) rfl
theorem cd_299 : a_cw pM_Rule_add ∈ aGT := cd_in (tb_5 (List.mem_of_getElem? (i := 135) rfl)) rfl
theorem cd_145 : a_cw pM_Reader_place ∈ aGT := cd_in (tb_5 (List.mem_of_getElem? (i := 141) rfl)) rfl
theorem cd_147 : a_cw pM_Canton_copyFrom ∈ aGT := cd_in (tb_5 (List.mem_of_getElem? (i := 145) rfl)) rfl
theorem cd_235 : a_cw pM_Rule_copyFrom ∈ aGT := cd_in (tb_5 (List.mem_of_getElem? (i := 150) rfl)) rfl
theorem cd_148 : a_cw pM_State_beginAnew ∈ aGT := cd_in (tb_5 (List.mem_of_getElem? (i := 155) rfl)) rfl
theorem cd_236 : a_cw pM_Acts_clear ∈ aGT := cd_in (tb_5 (List.mem_of_getElem? (i := 160) rfl)) rfl
theorem cd_10 : a_cw pM_SnowCantonLaw_count ∈ aGT := cd_in (tb_5 (List.mem_of_getElem? (i := 164) rfl)) rfl
theorem cd_74 : a_cw pM_SnowCanton_count ∈ aGT := cd_in (tb_5 (List.mem_of_getElem? (i := 169) rfl)) rfl
theorem cd_163 : a_cw pM_SnowCanton_known ∈ aGT := cd_in (tb_5 (List.mem_of_getElem? (i := 172) rfl)) rfl
theorem cd_164 : a_cw pM_Snow_flakesInAll ∈ aGT := cd_in (tb_5 (List.mem_of_getElem? (i := 192) rfl)) rfl
theorem cd_166 : a_cw pM_Snow_covers ∈ aGT := cd_in (tb_5 (List.mem_of_getElem? (i := 197) rfl)) rfl
theorem cd_167 : a_cw pM_SnowCanton_poor ∈ aGT := cd_in (tb_5 (List.mem_of_getElem? (i := 201) rfl)) rfl
theorem cd_168 : a_cw pM_Snow_waterOf ∈ aGT := cd_in (tb_5 (List.mem_of_getElem? (i := 205) rfl)) rfl
theorem cd_169 : a_cw pM_Seen_size ∈ aGT := cd_in (tb_5 (List.mem_of_getElem? (i := 209) rfl)) rfl
theorem cd_170 : a_cw pM_State_refused ∈ aGT := cd_in (tb_5 (List.mem_of_getElem? (i := 213) rfl)) rfl
theorem cd_12 : a_cw pM_SnowCantonLaw_cell ∈ aGT := cd_in (tb_5 (List.mem_of_getElem? (i := 216) rfl)) rfl
theorem cd_78 : a_cw pM_SnowCanton_cell ∈ aGT := cd_in (tb_5 (List.mem_of_getElem? (i := 220) rfl)) rfl
theorem cd_174 : a_cw pM_Snow_ownerOf ∈ aGT := cd_in (tb_5 (List.mem_of_getElem? (i := 227) rfl)) rfl
theorem cd_175 : a_cw pM_Snow_touching ∈ aGT := cd_in (tb_5 (List.mem_of_getElem? (i := 231) rfl)) rfl
theorem cd_14 : a_cw pM_SnowCantonLaw_person ∈ aGT := cd_in (tb_5 (List.mem_of_getElem? (i := 237) rfl)) rfl
theorem cd_84 : a_cw pM_SnowCanton_person ∈ aGT := cd_in (tb_6 (List.mem_of_getElem? (i := 1) rfl)) rfl
theorem cd_183 : a_cw pM_Canton_hatOf ∈ aGT := cd_in (tb_6 (List.mem_of_getElem? (i := 7) rfl)) rfl
theorem cd_184 : a_cw pM_Snow_cellsOf ∈ aGT := cd_in (tb_6 (List.mem_of_getElem? (i := 11) rfl)) rfl
theorem cd_185 : a_cw pM_Ways_companies ∈ aGT := cd_in (tb_6 (List.mem_of_getElem? (i := 15) rfl)) rfl
theorem cd_253 : a_cw pM_Ways_companyIn ∈ aGT := cd_in (tb_6 (List.mem_of_getElem? (i := 20) rfl)) rfl
theorem cd_281 : a_cw pM_Integer_lowestOneBit ∈ aGT := cd_in (tb_6 (List.mem_of_getElem? (i := 23) rfl)) rfl
theorem cd_282 : a_cw pM_Ways_neighboursOf ∈ aGT := cd_in (tb_6 (List.mem_of_getElem? (i := 27) rfl)) rfl
theorem cd_186 : a_cw pM_Ways_largestCompany ∈ aGT := cd_in (tb_6 (List.mem_of_getElem? (i := 32) rfl)) rfl
theorem cd_222 : a_cw pM_Integer_bitCount ∈ aGT := cd_in (tb_6 (List.mem_of_getElem? (i := 35) rfl)) rfl
theorem cd_18 : a_cw pM_SnowCantonLaw_walk ∈ aGT := cd_in (tb_6 (List.mem_of_getElem? (i := 42) rfl)) rfl
theorem cd_97 : a_cw pM_SnowCanton_walk ∈ aGT := cd_in (tb_6 (List.mem_of_getElem? (i := 46) rfl)) rfl
theorem cd_24 : a_cw pM_SnowCantonLaw_push ∈ aGT := cd_in (tb_6 (List.mem_of_getElem? (i := 51) rfl)) rfl
theorem cd_104 : a_cw pM_SnowCanton_push ∈ aGT := cd_in (tb_6 (List.mem_of_getElem? (i := 55) rfl)) rfl
theorem cd_28 : a_cw pM_SnowCantonLaw_trespass ∈ aGT := cd_in (tb_6 (List.mem_of_getElem? (i := 59) rfl)) rfl
theorem cd_109 : a_cw pM_SnowCanton_trespass ∈ aGT := cd_in (tb_6 (List.mem_of_getElem? (i := 63) rfl)) rfl
theorem cd_199 : a_cw pM_SnowCanton_isOneOf ∈ aGT := cd_in (tb_6 (List.mem_of_getElem? (i := 66) rfl)) rfl
theorem cd_200 : a_cw pM_Ways_fewestTrespasses ∈ aGT := cd_in (tb_6 (List.mem_of_getElem? (i := 70) rfl)) rfl
theorem cd_254 : a_cw pM_Ways_weightTo ∈ aGT := cd_in (tb_6 (List.mem_of_getElem? (i := 74) rfl)) rfl
theorem cd_283 : a_cw pM_Ways_lightenAll ∈ aGT := cd_in (tb_6 (List.mem_of_getElem? (i := 82) rfl)) rfl
theorem cd_296 : a_cw pM_Ways_isTrespass ∈ aGT := cd_in (tb_6 (List.mem_of_getElem? (i := 86) rfl)) rfl
theorem cd_201 : a_cw pM_Ways_stepsOfFewest ∈ aGT := cd_in (tb_6 (List.mem_of_getElem? (i := 91) rfl)) rfl
theorem cd_30 : a_cw pM_SnowCantonLaw_then ∈ aGT := cd_in (tb_6 (List.mem_of_getElem? (i := 94) rfl)) rfl
theorem cd_111 : a_cw pM_SnowCanton_then ∈ aGT := cd_in (tb_6 (List.mem_of_getElem? (i := 98) rfl)) rfl
theorem cd_203 : a_cw pM_Ahead_heldIn ∈ aGT := cd_in (tb_6 (List.mem_of_getElem? (i := 102) rfl)) rfl
theorem cd_32 : a_cw pM_SnowCantonLaw_stand ∈ aGT := cd_in (tb_6 (List.mem_of_getElem? (i := 105) rfl)) rfl
theorem cd_114 : a_cw pM_SnowCanton_stand ∈ aGT := cd_in (tb_6 (List.mem_of_getElem? (i := 109) rfl)) rfl
theorem cd_204 : a_cw pM_Ahead_bestPlace ∈ aGT := cd_in (tb_6 (List.mem_of_getElem? (i := 113) rfl)) rfl
theorem cd_34 : a_cw pM_SnowCantonLaw_covered ∈ aGT := cd_in (tb_6 (List.mem_of_getElem? (i := 118) rfl)) rfl
theorem cd_115 : a_cw pM_SnowCanton_covered ∈ aGT := cd_in (tb_6 (List.mem_of_getElem? (i := 122) rfl)) rfl
theorem cd_206 : a_cw pM_Ahead_coveredIn ∈ aGT := cd_in (tb_6 (List.mem_of_getElem? (i := 126) rfl)) rfl
theorem cd_36 : a_cw pM_SnowCantonLaw_coming ∈ aGT := cd_in (tb_6 (List.mem_of_getElem? (i := 130) rfl)) rfl
theorem cd_117 : a_cw pM_SnowCanton_coming ∈ aGT := cd_in (tb_6 (List.mem_of_getElem? (i := 134) rfl)) rfl
theorem cd_207 : a_cw pM_Ahead_fallsOn ∈ aGT := cd_in (tb_6 (List.mem_of_getElem? (i := 138) rfl)) rfl
theorem cd_38 : a_cw pM_SnowCantonLaw_row ∈ aGT := cd_in (tb_6 (List.mem_of_getElem? (i := 142) rfl)) rfl
theorem cd_118 : a_cw pM_SnowCanton_row ∈ aGT := cd_in (tb_6 (List.mem_of_getElem? (i := 146) rfl)) rfl
theorem cd_208 : a_cw pM_Ahead_bestRow ∈ aGT := cd_in (tb_6 (List.mem_of_getElem? (i := 150) rfl)) rfl
theorem cd_255 : a_cw pM_Ahead_pushAlong ∈ aGT := cd_in (tb_6 (List.mem_of_getElem? (i := 154) rfl)) rfl
theorem cd_209 : a_cw pM_Ahead_stepOfBestRow ∈ aGT := cd_in (tb_6 (List.mem_of_getElem? (i := 161) rfl)) rfl
theorem cd_40 : a_cw pM_SnowCantonLaw_heir ∈ aGT := cd_in (tb_6 (List.mem_of_getElem? (i := 164) rfl)) rfl
theorem cd_120 : a_cw pM_SnowCanton_heir ∈ aGT := cd_in (tb_6 (List.mem_of_getElem? (i := 168) rfl)) rfl
theorem cd_210 : a_cw pM_Ahead_heirOf ∈ aGT := cd_in (tb_6 (List.mem_of_getElem? (i := 172) rfl)) rfl
theorem cd_256 : a_cw pM_Snow_leaveOut ∈ aGT := cd_in (tb_6 (List.mem_of_getElem? (i := 176) rfl)) rfl
theorem cd_42 : a_cw pM_SnowCantonLaw_see ∈ aGT := cd_in (tb_6 (List.mem_of_getElem? (i := 179) rfl)) rfl
theorem cd_121 : a_cw pM_SnowCanton_see ∈ aGT := cd_in (tb_6 (List.mem_of_getElem? (i := 183) rfl)) rfl
theorem cd_211 : a_cw pM_Seen_isFull ∈ aGT := cd_in (tb_6 (List.mem_of_getElem? (i := 187) rfl)) rfl
theorem cd_212 : a_cw pM_Seen_add ∈ aGT := cd_in (tb_6 (List.mem_of_getElem? (i := 191) rfl)) rfl
theorem cd_44 : a_cw pM_SnowCantonLaw_hat ∈ aGT := cd_in (tb_6 (List.mem_of_getElem? (i := 194) rfl)) rfl
theorem cd_122 : a_cw pM_SnowCanton_hat ∈ aGT := cd_in (tb_6 (List.mem_of_getElem? (i := 198) rfl)) rfl
theorem cd_213 : a_cw pM_Guess_howMany ∈ aGT := cd_in (tb_6 (List.mem_of_getElem? (i := 202) rfl)) rfl
theorem cd_257 : a_cw pM_Guess_isAnother ∈ aGT := cd_in (tb_6 (List.mem_of_getElem? (i := 206) rfl)) rfl
theorem cd_258 : a_cw pM_Guess_fits ∈ aGT := cd_in (tb_6 (List.mem_of_getElem? (i := 211) rfl)) rfl
theorem cd_284 : a_cw pM_Guess_begin ∈ aGT := cd_in (tb_6 (List.mem_of_getElem? (i := 215) rfl)) rfl
theorem cd_297 : a_cw pM_Snow_wear ∈ aGT := cd_in (tb_6 (List.mem_of_getElem? (i := 220) rfl)) rfl
theorem cd_285 : a_cw pM_Seen_latest ∈ aGT := cd_in (tb_6 (List.mem_of_getElem? (i := 224) rfl)) rfl
theorem cd_286 : a_cw pM_Seen_isSo ∈ aGT := cd_in (tb_6 (List.mem_of_getElem? (i := 230) rfl)) rfl
theorem cd_214 : a_cw pM_Guess_first ∈ aGT := cd_in (tb_6 (List.mem_of_getElem? (i := 235) rfl)) rfl
theorem cd_215 : a_cw pM_Guess_fitsWithout ∈ aGT := cd_in (tb_6 (List.mem_of_getElem? (i := 239) rfl)) rfl
theorem cd_46 : a_cw pM_SnowCantonLaw_look ∈ aGT := cd_in (tb_7 (List.mem_of_getElem? (i := 2) rfl)) rfl
theorem cd_125 : a_cw pM_SnowCanton_look ∈ aGT := cd_in (tb_7 (List.mem_of_getElem? (i := 6) rfl)) rfl
theorem cd_216 : a_cw pM_Guess_mostUnlikeCell ∈ aGT := cd_in (tb_7 (List.mem_of_getElem? (i := 10) rfl)) rfl
theorem cd_259 : a_cw pM_Guess_addOwners ∈ aGT := cd_in (tb_7 (List.mem_of_getElem? (i := 15) rfl)) rfl
theorem cd_217 : a_cw pM_Guess_ownersOf ∈ aGT := cd_in (tb_7 (List.mem_of_getElem? (i := 20) rfl)) rfl
theorem cd_52 : a_cw pM_SnowCantonLaw_game ∈ aGT := cd_in (tb_7 (List.mem_of_getElem? (i := 26) rfl)) rfl
theorem cd_130 : a_cw pM_SnowCanton_game ∈ aGT := cd_in (tb_7 (List.mem_of_getElem? (i := 30) rfl)) rfl
theorem cd_218 : a_cw pM_Ahead_play ∈ aGT := cd_in (tb_7 (List.mem_of_getElem? (i := 34) rfl)) rfl
theorem cd_219 : a_cw pM_Ahead_restingCouples ∈ aGT := cd_in (tb_7 (List.mem_of_getElem? (i := 38) rfl)) rfl
theorem cd_260 : a_cw pM_Ahead_isResting ∈ aGT := cd_in (tb_7 (List.mem_of_getElem? (i := 42) rfl)) rfl
theorem cd_220 : a_cw pM_Ahead_firstRestingCouple ∈ aGT := cd_in (tb_7 (List.mem_of_getElem? (i := 46) rfl)) rfl
theorem cd_54 : a_cw pM_SnowCantonLaw_winter ∈ aGT := cd_in (tb_7 (List.mem_of_getElem? (i := 49) rfl)) rfl
theorem cd_131 : a_cw pM_SnowCanton_winter ∈ aGT := cd_in (tb_7 (List.mem_of_getElem? (i := 53) rfl)) rfl
theorem cd_221 : a_cw pM_Ahead_winterOf ∈ aGT := cd_in (tb_7 (List.mem_of_getElem? (i := 57) rfl)) rfl
theorem cd_261 : a_cw pM_Ahead_draw ∈ aGT := cd_in (tb_7 (List.mem_of_getElem? (i := 61) rfl)) rfl
theorem cd_262 : a_cw pM_Ahead_stroll ∈ aGT := cd_in (tb_7 (List.mem_of_getElem? (i := 67) rfl)) rfl
theorem cd_223 : a_cw pM_Snow_richest ∈ aGT := cd_in (tb_7 (List.mem_of_getElem? (i := 73) rfl)) rfl
theorem cd_2 : a_cw pM_SnowCantonModel_init ∈ aGT := cd_in (tb_7 (List.mem_of_getElem? (i := 78) rfl)) rfl
theorem cd_7 : a_cw pM_SnowCantonModel_thrown ∈ aGT := cd_in (tb_8 (List.mem_of_getElem? (i := 39) rfl)) rfl
theorem cd_4 : a_cw pM_SnowCantonModel_feed ∈ aGT := cd_in (tb_8 (List.mem_of_getElem? (i := 43) rfl)) rfl
theorem cd_6 : a_cw pM_SnowCantonModel_canton ∈ aGT := cd_in (tb_8 (List.mem_of_getElem? (i := 47) rfl)) rfl
theorem cd_69 : a_cw pM_SnowCantonModel_fail ∈ aGT := cd_in (tb_8 (List.mem_of_getElem? (i := 51) rfl)) rfl
theorem cd_70 : a_cw pM_SnowCantonModel_stepOn ∈ aGT := cd_in (tb_8 (List.mem_of_getElem? (i := 55) rfl)) rfl
theorem cd_149 : a_cw pM_SnowCantonModel_byteAt ∈ aGT := cd_in (tb_8 (List.mem_of_getElem? (i := 59) rfl)) rfl
theorem cd_150 : a_cw pM_SnowCantonModel_isLetter ∈ aGT := cd_in (tb_8 (List.mem_of_getElem? (i := 62) rfl)) rfl
theorem cd_151 : a_cw pM_SnowCantonModel_isDigit ∈ aGT := cd_in (tb_8 (List.mem_of_getElem? (i := 65) rfl)) rfl
theorem cd_152 : a_cw pM_SnowCantonModel_isMark ∈ aGT := cd_in (tb_8 (List.mem_of_getElem? (i := 70) rfl)) rfl
theorem cd_71 : a_cw pM_SnowCantonModel_sayCanton ∈ aGT := cd_in (tb_8 (List.mem_of_getElem? (i := 74) rfl)) rfl
theorem cd_153 : a_cw pM_SnowCantonModel_is ∈ aGT := cd_in (tb_8 (List.mem_of_getElem? (i := 79) rfl)) rfl
theorem cd_154 : a_cw pM_SnowCantonModel_readNumber ∈ aGT := cd_in (tb_8 (List.mem_of_getElem? (i := 85) rfl)) rfl
theorem cd_239 : a_cw pM_SnowCantonModel_numberNow ∈ aGT := cd_in (tb_8 (List.mem_of_getElem? (i := 89) rfl)) rfl
theorem cd_157 : a_cw pM_SnowCantonModel_wrong ∈ aGT := cd_in (tb_8 (List.mem_of_getElem? (i := 93) rfl)) rfl
theorem cd_155 : a_cw pM_SnowCantonModel_mark ∈ aGT := cd_in (tb_8 (List.mem_of_getElem? (i := 97) rfl)) rfl
theorem cd_240 : a_cw pM_SnowCantonModel_isMarked ∈ aGT := cd_in (tb_8 (List.mem_of_getElem? (i := 101) rfl)) rfl
theorem cd_72 : a_cw pM_SnowCantonModel_readLine ∈ aGT := cd_in (tb_8 (List.mem_of_getElem? (i := 105) rfl)) rfl
theorem cd_156 : a_cw pM_SnowCantonModel_which ∈ aGT := cd_in (tb_8 (List.mem_of_getElem? (i := 109) rfl)) rfl
theorem cd_158 : a_cw pM_SnowCantonModel_readExpression ∈ aGT := cd_in (tb_8 (List.mem_of_getElem? (i := 114) rfl)) rfl
theorem cd_241 : a_cw pM_SnowCantonModel_readAnd ∈ aGT := cd_in (tb_8 (List.mem_of_getElem? (i := 118) rfl)) rfl
theorem cd_277 : a_cw pM_SnowCantonModel_readNot ∈ aGT := cd_in (tb_8 (List.mem_of_getElem? (i := 122) rfl)) rfl
theorem cd_295 : a_cw pM_SnowCantonModel_readSum ∈ aGT := cd_in (tb_8 (List.mem_of_getElem? (i := 127) rfl)) rfl
theorem cd_301 : a_cw pM_SnowCantonModel_readProduct ∈ aGT := cd_in (tb_8 (List.mem_of_getElem? (i := 131) rfl)) rfl
theorem cd_303 : a_cw pM_SnowCantonModel_readPart ∈ aGT := cd_in (tb_8 (List.mem_of_getElem? (i := 135) rfl)) rfl
theorem cd_242 : a_cw pM_SnowCantonModel_lay ∈ aGT := cd_in (tb_8 (List.mem_of_getElem? (i := 139) rfl)) rfl
theorem cd_159 : a_cw pM_SnowCantonModel_sayPerson ∈ aGT := cd_in (tb_8 (List.mem_of_getElem? (i := 145) rfl)) rfl
theorem cd_243 : a_cw pM_SnowCantonModel_another ∈ aGT := cd_in (tb_8 (List.mem_of_getElem? (i := 149) rfl)) rfl
theorem cd_244 : a_cw pM_SnowCantonModel_readCell ∈ aGT := cd_in (tb_8 (List.mem_of_getElem? (i := 153) rfl)) rfl
theorem cd_245 : a_cw pM_SnowCantonModel_cellNow ∈ aGT := cd_in (tb_8 (List.mem_of_getElem? (i := 157) rfl)) rfl
theorem cd_160 : a_cw pM_SnowCantonModel_sayHeight ∈ aGT := cd_in (tb_8 (List.mem_of_getElem? (i := 162) rfl)) rfl
theorem cd_161 : a_cw pM_SnowCantonModel_sayFall ∈ aGT := cd_in (tb_8 (List.mem_of_getElem? (i := 167) rfl)) rfl
theorem cd_73 : a_cw pM_SnowCantonModel_takeOver ∈ aGT := cd_in (tb_8 (List.mem_of_getElem? (i := 171) rfl)) rfl
theorem cd_162 : a_cw pM_SnowCantonModel_takeHalf ∈ aGT := cd_in (tb_8 (List.mem_of_getElem? (i := 174) rfl)) rfl
theorem cd_9 : a_cw pM_SnowCantonModel_fault ∈ aGT := cd_in (tb_8 (List.mem_of_getElem? (i := 179) rfl)) rfl
theorem cd_11 : a_cw pM_SnowCantonModel_count ∈ aGT := cd_in (tb_8 (List.mem_of_getElem? (i := 183) rfl)) rfl
theorem cd_75 : a_cw pM_SnowCantonModel_sumOf ∈ aGT := cd_in (tb_8 (List.mem_of_getElem? (i := 187) rfl)) rfl
theorem cd_100 : a_cw pM_SnowCantonModel_cells ∈ aGT := cd_in (tb_8 (List.mem_of_getElem? (i := 191) rfl)) rfl
theorem cd_76 : a_cw pM_SnowCantonModel_heaps ∈ aGT := cd_in (tb_8 (List.mem_of_getElem? (i := 195) rfl)) rfl
theorem cd_77 : a_cw pM_SnowCantonModel_poor ∈ aGT := cd_in (tb_8 (List.mem_of_getElem? (i := 199) rfl)) rfl
theorem cd_86 : a_cw pM_SnowCantonModel_has ∈ aGT := cd_in (tb_8 (List.mem_of_getElem? (i := 203) rfl)) rfl
theorem cd_13 : a_cw pM_SnowCantonModel_cell ∈ aGT := cd_in (tb_8 (List.mem_of_getElem? (i := 207) rfl)) rfl
theorem cd_79 : a_cw pM_SnowCantonModel_isCell ∈ aGT := cd_in (tb_8 (List.mem_of_getElem? (i := 211) rfl)) rfl
theorem cd_93 : a_cw pM_SnowCantonModel_isIn ∈ aGT := cd_in (tb_8 (List.mem_of_getElem? (i := 214) rfl)) rfl
theorem cd_80 : a_cw pM_SnowCantonModel_touching ∈ aGT := cd_in (tb_8 (List.mem_of_getElem? (i := 218) rfl)) rfl
theorem cd_179 : a_cw pM_SnowCantonModel_touches ∈ aGT := cd_in (tb_8 (List.mem_of_getElem? (i := 222) rfl)) rfl
theorem cd_98 : a_cw pM_SnowCantonModel_farOf ∈ aGT := cd_in (tb_8 (List.mem_of_getElem? (i := 226) rfl)) rfl
theorem cd_81 : a_cw pM_SnowCantonModel_whoseIn ∈ aGT := cd_in (tb_8 (List.mem_of_getElem? (i := 231) rfl)) rfl
theorem cd_180 : a_cw pM_SnowCantonModel_firstOf ∈ aGT := cd_in (tb_8 (List.mem_of_getElem? (i := 235) rfl)) rfl
theorem cd_252 : a_cw pM_SnowCantonModel_valueNow ∈ aGT := cd_in (tb_8 (List.mem_of_getElem? (i := 239) rfl)) rfl
theorem cd_280 : a_cw pM_SnowCantonModel_reckon ∈ aGT := cd_in (tb_9 (List.mem_of_getElem? (i := 2) rfl)) rfl
theorem cd_82 : a_cw pM_SnowCantonModel_endOf ∈ aGT := cd_in (tb_9 (List.mem_of_getElem? (i := 6) rfl)) rfl
theorem cd_101 : a_cw pM_SnowCantonModel_beside ∈ aGT := cd_in (tb_9 (List.mem_of_getElem? (i := 10) rfl)) rfl
theorem cd_83 : a_cw pM_SnowCantonModel_isEdge ∈ aGT := cd_in (tb_9 (List.mem_of_getElem? (i := 14) rfl)) rfl
theorem cd_15 : a_cw pM_SnowCantonModel_person ∈ aGT := cd_in (tb_9 (List.mem_of_getElem? (i := 18) rfl)) rfl
theorem cd_85 : a_cw pM_SnowCantonModel_isPerson ∈ aGT := cd_in (tb_9 (List.mem_of_getElem? (i := 22) rfl)) rfl
theorem cd_87 : a_cw pM_SnowCantonModel_cellsOf ∈ aGT := cd_in (tb_9 (List.mem_of_getElem? (i := 26) rfl)) rfl
theorem cd_88 : a_cw pM_SnowCantonModel_companies ∈ aGT := cd_in (tb_9 (List.mem_of_getElem? (i := 30) rfl)) rfl
theorem cd_187 : a_cw pM_SnowCantonModel_isOf ∈ aGT := cd_in (tb_9 (List.mem_of_getElem? (i := 33) rfl)) rfl
theorem cd_188 : a_cw pM_SnowCantonModel_partOf ∈ aGT := cd_in (tb_9 (List.mem_of_getElem? (i := 37) rfl)) rfl
theorem cd_126 : a_cw pM_SnowCantonModel_bitsOf ∈ aGT := cd_in (tb_9 (List.mem_of_getElem? (i := 40) rfl)) rfl
theorem cd_17 : a_cw pM_SnowCantonModel_hours ∈ aGT := cd_in (tb_9 (List.mem_of_getElem? (i := 44) rfl)) rfl
theorem cd_94 : a_cw pM_SnowCantonModel_refuse ∈ aGT := cd_in (tb_9 (List.mem_of_getElem? (i := 49) rfl)) rfl
theorem cd_95 : a_cw pM_SnowCantonModel_keep ∈ aGT := cd_in (tb_9 (List.mem_of_getElem? (i := 53) rfl)) rfl
theorem cd_112 : a_cw pM_SnowCantonModel_pack ∈ aGT := cd_in (tb_9 (List.mem_of_getElem? (i := 57) rfl)) rfl
theorem cd_96 : a_cw pM_SnowCantonModel_goOn ∈ aGT := cd_in (tb_9 (List.mem_of_getElem? (i := 61) rfl)) rfl
theorem cd_116 : a_cw pM_SnowCantonModel_anHour ∈ aGT := cd_in (tb_9 (List.mem_of_getElem? (i := 65) rfl)) rfl
theorem cd_102 : a_cw pM_SnowCantonModel_come ∈ aGT := cd_in (tb_9 (List.mem_of_getElem? (i := 69) rfl)) rfl
theorem cd_19 : a_cw pM_SnowCantonModel_walk ∈ aGT := cd_in (tb_9 (List.mem_of_getElem? (i := 73) rfl)) rfl
theorem cd_21 : a_cw pM_SnowCantonModel_wind ∈ aGT := cd_in (tb_9 (List.mem_of_getElem? (i := 77) rfl)) rfl
theorem cd_23 : a_cw pM_SnowCantonModel_thaw ∈ aGT := cd_in (tb_9 (List.mem_of_getElem? (i := 82) rfl)) rfl
theorem cd_25 : a_cw pM_SnowCantonModel_push ∈ aGT := cd_in (tb_9 (List.mem_of_getElem? (i := 87) rfl)) rfl
theorem cd_105 : a_cw pM_SnowCantonModel_shove ∈ aGT := cd_in (tb_9 (List.mem_of_getElem? (i := 91) rfl)) rfl
theorem cd_27 : a_cw pM_SnowCantonModel_undo ∈ aGT := cd_in (tb_9 (List.mem_of_getElem? (i := 95) rfl)) rfl
theorem cd_108 : a_cw pM_SnowCantonModel_unpack ∈ aGT := cd_in (tb_9 (List.mem_of_getElem? (i := 99) rfl)) rfl
theorem cd_29 : a_cw pM_SnowCantonModel_trespass ∈ aGT := cd_in (tb_9 (List.mem_of_getElem? (i := 103) rfl)) rfl
theorem cd_110 : a_cw pM_SnowCantonModel_tellWays ∈ aGT := cd_in (tb_9 (List.mem_of_getElem? (i := 107) rfl)) rfl
theorem cd_202 : a_cw pM_SnowCantonModel_isOthers ∈ aGT := cd_in (tb_9 (List.mem_of_getElem? (i := 111) rfl)) rfl
theorem cd_31 : a_cw pM_SnowCantonModel_then ∈ aGT := cd_in (tb_9 (List.mem_of_getElem? (i := 115) rfl)) rfl
theorem cd_113 : a_cw pM_SnowCantonModel_hasIn ∈ aGT := cd_in (tb_9 (List.mem_of_getElem? (i := 119) rfl)) rfl
theorem cd_33 : a_cw pM_SnowCantonModel_stand ∈ aGT := cd_in (tb_9 (List.mem_of_getElem? (i := 123) rfl)) rfl
theorem cd_35 : a_cw pM_SnowCantonModel_covered ∈ aGT := cd_in (tb_9 (List.mem_of_getElem? (i := 128) rfl)) rfl
theorem cd_37 : a_cw pM_SnowCantonModel_coming ∈ aGT := cd_in (tb_9 (List.mem_of_getElem? (i := 132) rfl)) rfl
theorem cd_39 : a_cw pM_SnowCantonModel_row ∈ aGT := cd_in (tb_9 (List.mem_of_getElem? (i := 136) rfl)) rfl
theorem cd_119 : a_cw pM_SnowCantonModel_goShove ∈ aGT := cd_in (tb_9 (List.mem_of_getElem? (i := 142) rfl)) rfl
theorem cd_41 : a_cw pM_SnowCantonModel_heir ∈ aGT := cd_in (tb_9 (List.mem_of_getElem? (i := 146) rfl)) rfl
theorem cd_43 : a_cw pM_SnowCantonModel_see ∈ aGT := cd_in (tb_9 (List.mem_of_getElem? (i := 150) rfl)) rfl
theorem cd_45 : a_cw pM_SnowCantonModel_hat ∈ aGT := cd_in (tb_9 (List.mem_of_getElem? (i := 154) rfl)) rfl
theorem cd_123 : a_cw pM_SnowCantonModel_isAsSeen ∈ aGT := cd_in (tb_9 (List.mem_of_getElem? (i := 159) rfl)) rfl
theorem cd_124 : a_cw pM_SnowCantonModel_tellFits ∈ aGT := cd_in (tb_9 (List.mem_of_getElem? (i := 163) rfl)) rfl
theorem cd_47 : a_cw pM_SnowCantonModel_look ∈ aGT := cd_in (tb_9 (List.mem_of_getElem? (i := 167) rfl)) rfl
theorem cd_49 : a_cw pM_SnowCantonModel_forget ∈ aGT := cd_in (tb_9 (List.mem_of_getElem? (i := 171) rfl)) rfl
theorem cd_51 : a_cw pM_SnowCantonModel_partition ∈ aGT := cd_in (tb_9 (List.mem_of_getElem? (i := 175) rfl)) rfl
theorem cd_53 : a_cw pM_SnowCantonModel_game ∈ aGT := cd_in (tb_9 (List.mem_of_getElem? (i := 179) rfl)) rfl
theorem cd_55 : a_cw pM_SnowCantonModel_winter ∈ aGT := cd_in (tb_9 (List.mem_of_getElem? (i := 183) rfl)) rfl
theorem cd_132 : a_cw pM_SnowCantonModel_winterHour ∈ aGT := cd_in (tb_9 (List.mem_of_getElem? (i := 188) rfl)) rfl
theorem cd_224 : a_cw pM_SnowCantonModel_drawOf ∈ aGT := cd_in (tb_9 (List.mem_of_getElem? (i := 192) rfl)) rfl
theorem cd_133 : a_cw pM_SnowCantonModel_ownerless ∈ aGT := cd_in (tb_9 (List.mem_of_getElem? (i := 197) rfl)) rfl
theorem cd_134 : a_cw pM_SnowCantonModel_richest ∈ aGT := cd_in (tb_9 (List.mem_of_getElem? (i := 201) rfl)) rfl
theorem cd_57 : a_cw pM_SnowCantonModel_image ∈ aGT := cd_in (tb_9 (List.mem_of_getElem? (i := 205) rfl)) rfl
theorem cd_136 : a_cw pM_SnowCantonModel_copyTo ∈ aGT := cd_in (tb_9 (List.mem_of_getElem? (i := 208) rfl)) rfl
theorem cd_59 : a_cw pM_SnowCantonModel_restore ∈ aGT := cd_in (tb_9 (List.mem_of_getElem? (i := 212) rfl)) rfl
theorem cdl_0 : ∀ q ∈ ([1, 60, 137, 61, 62, 138, 139, 140, 63, 64, 65, 66, 141, 142, 228, 237] : List Nat), cdW q ∈ aGT := List.forall_mem_cons.mpr ⟨cd_1, List.forall_mem_cons.mpr ⟨cd_60, List.forall_mem_cons.mpr ⟨cd_137, List.forall_mem_cons.mpr ⟨cd_61, List.forall_mem_cons.mpr ⟨cd_62, List.forall_mem_cons.mpr ⟨cd_138, List.forall_mem_cons.mpr ⟨cd_139, List.forall_mem_cons.mpr ⟨cd_140, List.forall_mem_cons.mpr ⟨cd_63, List.forall_mem_cons.mpr ⟨cd_64, List.forall_mem_cons.mpr ⟨cd_65, List.forall_mem_cons.mpr ⟨cd_66, List.forall_mem_cons.mpr ⟨cd_141, List.forall_mem_cons.mpr ⟨cd_142, List.forall_mem_cons.mpr ⟨cd_228, List.forall_mem_cons.mpr ⟨cd_237, fun _ h => absurd h List.not_mem_nil⟩⟩⟩⟩⟩⟩⟩⟩⟩⟩⟩⟩⟩⟩⟩⟩
theorem cdl_1 : ∀ q ∈ ([274, 3, 67, 8, 16, 89, 90, 146, 91, 189, 92, 190, 171, 176, 192, 246] : List Nat), cdW q ∈ aGT := List.forall_mem_cons.mpr ⟨cd_274, List.forall_mem_cons.mpr ⟨cd_3, List.forall_mem_cons.mpr ⟨cd_67, List.forall_mem_cons.mpr ⟨cd_8, List.forall_mem_cons.mpr ⟨cd_16, List.forall_mem_cons.mpr ⟨cd_89, List.forall_mem_cons.mpr ⟨cd_90, List.forall_mem_cons.mpr ⟨cd_146, List.forall_mem_cons.mpr ⟨cd_91, List.forall_mem_cons.mpr ⟨cd_189, List.forall_mem_cons.mpr ⟨cd_92, List.forall_mem_cons.mpr ⟨cd_190, List.forall_mem_cons.mpr ⟨cd_171, List.forall_mem_cons.mpr ⟨cd_176, List.forall_mem_cons.mpr ⟨cd_192, List.forall_mem_cons.mpr ⟨cd_246, fun _ h => absurd h List.not_mem_nil⟩⟩⟩⟩⟩⟩⟩⟩⟩⟩⟩⟩⟩⟩⟩⟩
theorem cdl_2 : ∀ q ∈ ([247, 248, 278, 165, 172, 249, 279, 191, 20, 99, 173, 194, 195, 197, 22, 103] : List Nat), cdW q ∈ aGT := List.forall_mem_cons.mpr ⟨cd_247, List.forall_mem_cons.mpr ⟨cd_248, List.forall_mem_cons.mpr ⟨cd_278, List.forall_mem_cons.mpr ⟨cd_165, List.forall_mem_cons.mpr ⟨cd_172, List.forall_mem_cons.mpr ⟨cd_249, List.forall_mem_cons.mpr ⟨cd_279, List.forall_mem_cons.mpr ⟨cd_191, List.forall_mem_cons.mpr ⟨cd_20, List.forall_mem_cons.mpr ⟨cd_99, List.forall_mem_cons.mpr ⟨cd_173, List.forall_mem_cons.mpr ⟨cd_194, List.forall_mem_cons.mpr ⟨cd_195, List.forall_mem_cons.mpr ⟨cd_197, List.forall_mem_cons.mpr ⟨cd_22, List.forall_mem_cons.mpr ⟨cd_103, fun _ h => absurd h List.not_mem_nil⟩⟩⟩⟩⟩⟩⟩⟩⟩⟩⟩⟩⟩⟩⟩⟩
theorem cdl_3 : ∀ q ∈ ([178, 177, 250, 251, 196, 26, 106, 198, 107, 48, 127, 50, 128, 181, 129, 182] : List Nat), cdW q ∈ aGT := List.forall_mem_cons.mpr ⟨cd_178, List.forall_mem_cons.mpr ⟨cd_177, List.forall_mem_cons.mpr ⟨cd_250, List.forall_mem_cons.mpr ⟨cd_251, List.forall_mem_cons.mpr ⟨cd_196, List.forall_mem_cons.mpr ⟨cd_26, List.forall_mem_cons.mpr ⟨cd_106, List.forall_mem_cons.mpr ⟨cd_198, List.forall_mem_cons.mpr ⟨cd_107, List.forall_mem_cons.mpr ⟨cd_48, List.forall_mem_cons.mpr ⟨cd_127, List.forall_mem_cons.mpr ⟨cd_50, List.forall_mem_cons.mpr ⟨cd_128, List.forall_mem_cons.mpr ⟨cd_181, List.forall_mem_cons.mpr ⟨cd_129, List.forall_mem_cons.mpr ⟨cd_182, fun _ h => absurd h List.not_mem_nil⟩⟩⟩⟩⟩⟩⟩⟩⟩⟩⟩⟩⟩⟩⟩⟩
theorem cdl_4 : ∀ q ∈ ([205, 225, 193, 56, 135, 226, 227, 58, 5, 68, 143, 144, 229, 234, 263, 230] : List Nat), cdW q ∈ aGT := List.forall_mem_cons.mpr ⟨cd_205, List.forall_mem_cons.mpr ⟨cd_225, List.forall_mem_cons.mpr ⟨cd_193, List.forall_mem_cons.mpr ⟨cd_56, List.forall_mem_cons.mpr ⟨cd_135, List.forall_mem_cons.mpr ⟨cd_226, List.forall_mem_cons.mpr ⟨cd_227, List.forall_mem_cons.mpr ⟨cd_58, List.forall_mem_cons.mpr ⟨cd_5, List.forall_mem_cons.mpr ⟨cd_68, List.forall_mem_cons.mpr ⟨cd_143, List.forall_mem_cons.mpr ⟨cd_144, List.forall_mem_cons.mpr ⟨cd_229, List.forall_mem_cons.mpr ⟨cd_234, List.forall_mem_cons.mpr ⟨cd_263, List.forall_mem_cons.mpr ⟨cd_230, fun _ h => absurd h List.not_mem_nil⟩⟩⟩⟩⟩⟩⟩⟩⟩⟩⟩⟩⟩⟩⟩⟩
theorem cdl_5 : ∀ q ∈ ([264, 265, 231, 238, 275, 276, 294, 300, 232, 266, 273, 287, 267, 288, 233, 268] : List Nat), cdW q ∈ aGT := List.forall_mem_cons.mpr ⟨cd_264, List.forall_mem_cons.mpr ⟨cd_265, List.forall_mem_cons.mpr ⟨cd_231, List.forall_mem_cons.mpr ⟨cd_238, List.forall_mem_cons.mpr ⟨cd_275, List.forall_mem_cons.mpr ⟨cd_276, List.forall_mem_cons.mpr ⟨cd_294, List.forall_mem_cons.mpr ⟨cd_300, List.forall_mem_cons.mpr ⟨cd_232, List.forall_mem_cons.mpr ⟨cd_266, List.forall_mem_cons.mpr ⟨cd_273, List.forall_mem_cons.mpr ⟨cd_287, List.forall_mem_cons.mpr ⟨cd_267, List.forall_mem_cons.mpr ⟨cd_288, List.forall_mem_cons.mpr ⟨cd_233, List.forall_mem_cons.mpr ⟨cd_268, fun _ h => absurd h List.not_mem_nil⟩⟩⟩⟩⟩⟩⟩⟩⟩⟩⟩⟩⟩⟩⟩⟩
theorem cdl_6 : ∀ q ∈ ([289, 290, 269, 270, 291, 271, 292, 272, 293, 298, 302, 304, 305, 306, 307, 308] : List Nat), cdW q ∈ aGT := List.forall_mem_cons.mpr ⟨cd_289, List.forall_mem_cons.mpr ⟨cd_290, List.forall_mem_cons.mpr ⟨cd_269, List.forall_mem_cons.mpr ⟨cd_270, List.forall_mem_cons.mpr ⟨cd_291, List.forall_mem_cons.mpr ⟨cd_271, List.forall_mem_cons.mpr ⟨cd_292, List.forall_mem_cons.mpr ⟨cd_272, List.forall_mem_cons.mpr ⟨cd_293, List.forall_mem_cons.mpr ⟨cd_298, List.forall_mem_cons.mpr ⟨cd_302, List.forall_mem_cons.mpr ⟨cd_304, List.forall_mem_cons.mpr ⟨cd_305, List.forall_mem_cons.mpr ⟨cd_306, List.forall_mem_cons.mpr ⟨cd_307, List.forall_mem_cons.mpr ⟨cd_308, fun _ h => absurd h List.not_mem_nil⟩⟩⟩⟩⟩⟩⟩⟩⟩⟩⟩⟩⟩⟩⟩⟩
theorem cdl_7 : ∀ q ∈ ([299, 145, 147, 235, 148, 236, 10, 74, 163, 164, 166, 167, 168, 169, 170, 12] : List Nat), cdW q ∈ aGT := List.forall_mem_cons.mpr ⟨cd_299, List.forall_mem_cons.mpr ⟨cd_145, List.forall_mem_cons.mpr ⟨cd_147, List.forall_mem_cons.mpr ⟨cd_235, List.forall_mem_cons.mpr ⟨cd_148, List.forall_mem_cons.mpr ⟨cd_236, List.forall_mem_cons.mpr ⟨cd_10, List.forall_mem_cons.mpr ⟨cd_74, List.forall_mem_cons.mpr ⟨cd_163, List.forall_mem_cons.mpr ⟨cd_164, List.forall_mem_cons.mpr ⟨cd_166, List.forall_mem_cons.mpr ⟨cd_167, List.forall_mem_cons.mpr ⟨cd_168, List.forall_mem_cons.mpr ⟨cd_169, List.forall_mem_cons.mpr ⟨cd_170, List.forall_mem_cons.mpr ⟨cd_12, fun _ h => absurd h List.not_mem_nil⟩⟩⟩⟩⟩⟩⟩⟩⟩⟩⟩⟩⟩⟩⟩⟩
theorem cdl_8 : ∀ q ∈ ([78, 174, 175, 14, 84, 183, 184, 185, 253, 281, 282, 186, 222, 18, 97, 24] : List Nat), cdW q ∈ aGT := List.forall_mem_cons.mpr ⟨cd_78, List.forall_mem_cons.mpr ⟨cd_174, List.forall_mem_cons.mpr ⟨cd_175, List.forall_mem_cons.mpr ⟨cd_14, List.forall_mem_cons.mpr ⟨cd_84, List.forall_mem_cons.mpr ⟨cd_183, List.forall_mem_cons.mpr ⟨cd_184, List.forall_mem_cons.mpr ⟨cd_185, List.forall_mem_cons.mpr ⟨cd_253, List.forall_mem_cons.mpr ⟨cd_281, List.forall_mem_cons.mpr ⟨cd_282, List.forall_mem_cons.mpr ⟨cd_186, List.forall_mem_cons.mpr ⟨cd_222, List.forall_mem_cons.mpr ⟨cd_18, List.forall_mem_cons.mpr ⟨cd_97, List.forall_mem_cons.mpr ⟨cd_24, fun _ h => absurd h List.not_mem_nil⟩⟩⟩⟩⟩⟩⟩⟩⟩⟩⟩⟩⟩⟩⟩⟩
theorem cdl_9 : ∀ q ∈ ([104, 28, 109, 199, 200, 254, 283, 296, 201, 30, 111, 203, 32, 114, 204, 34] : List Nat), cdW q ∈ aGT := List.forall_mem_cons.mpr ⟨cd_104, List.forall_mem_cons.mpr ⟨cd_28, List.forall_mem_cons.mpr ⟨cd_109, List.forall_mem_cons.mpr ⟨cd_199, List.forall_mem_cons.mpr ⟨cd_200, List.forall_mem_cons.mpr ⟨cd_254, List.forall_mem_cons.mpr ⟨cd_283, List.forall_mem_cons.mpr ⟨cd_296, List.forall_mem_cons.mpr ⟨cd_201, List.forall_mem_cons.mpr ⟨cd_30, List.forall_mem_cons.mpr ⟨cd_111, List.forall_mem_cons.mpr ⟨cd_203, List.forall_mem_cons.mpr ⟨cd_32, List.forall_mem_cons.mpr ⟨cd_114, List.forall_mem_cons.mpr ⟨cd_204, List.forall_mem_cons.mpr ⟨cd_34, fun _ h => absurd h List.not_mem_nil⟩⟩⟩⟩⟩⟩⟩⟩⟩⟩⟩⟩⟩⟩⟩⟩
theorem cdl_10 : ∀ q ∈ ([115, 206, 36, 117, 207, 38, 118, 208, 255, 209, 40, 120, 210, 256, 42, 121] : List Nat), cdW q ∈ aGT := List.forall_mem_cons.mpr ⟨cd_115, List.forall_mem_cons.mpr ⟨cd_206, List.forall_mem_cons.mpr ⟨cd_36, List.forall_mem_cons.mpr ⟨cd_117, List.forall_mem_cons.mpr ⟨cd_207, List.forall_mem_cons.mpr ⟨cd_38, List.forall_mem_cons.mpr ⟨cd_118, List.forall_mem_cons.mpr ⟨cd_208, List.forall_mem_cons.mpr ⟨cd_255, List.forall_mem_cons.mpr ⟨cd_209, List.forall_mem_cons.mpr ⟨cd_40, List.forall_mem_cons.mpr ⟨cd_120, List.forall_mem_cons.mpr ⟨cd_210, List.forall_mem_cons.mpr ⟨cd_256, List.forall_mem_cons.mpr ⟨cd_42, List.forall_mem_cons.mpr ⟨cd_121, fun _ h => absurd h List.not_mem_nil⟩⟩⟩⟩⟩⟩⟩⟩⟩⟩⟩⟩⟩⟩⟩⟩
theorem cdl_11 : ∀ q ∈ ([211, 212, 44, 122, 213, 257, 258, 284, 297, 285, 286, 214, 215, 46, 125, 216] : List Nat), cdW q ∈ aGT := List.forall_mem_cons.mpr ⟨cd_211, List.forall_mem_cons.mpr ⟨cd_212, List.forall_mem_cons.mpr ⟨cd_44, List.forall_mem_cons.mpr ⟨cd_122, List.forall_mem_cons.mpr ⟨cd_213, List.forall_mem_cons.mpr ⟨cd_257, List.forall_mem_cons.mpr ⟨cd_258, List.forall_mem_cons.mpr ⟨cd_284, List.forall_mem_cons.mpr ⟨cd_297, List.forall_mem_cons.mpr ⟨cd_285, List.forall_mem_cons.mpr ⟨cd_286, List.forall_mem_cons.mpr ⟨cd_214, List.forall_mem_cons.mpr ⟨cd_215, List.forall_mem_cons.mpr ⟨cd_46, List.forall_mem_cons.mpr ⟨cd_125, List.forall_mem_cons.mpr ⟨cd_216, fun _ h => absurd h List.not_mem_nil⟩⟩⟩⟩⟩⟩⟩⟩⟩⟩⟩⟩⟩⟩⟩⟩
theorem cdl_12 : ∀ q ∈ ([259, 217, 52, 130, 218, 219, 260, 220, 54, 131, 221, 261, 262, 223, 2, 7] : List Nat), cdW q ∈ aGT := List.forall_mem_cons.mpr ⟨cd_259, List.forall_mem_cons.mpr ⟨cd_217, List.forall_mem_cons.mpr ⟨cd_52, List.forall_mem_cons.mpr ⟨cd_130, List.forall_mem_cons.mpr ⟨cd_218, List.forall_mem_cons.mpr ⟨cd_219, List.forall_mem_cons.mpr ⟨cd_260, List.forall_mem_cons.mpr ⟨cd_220, List.forall_mem_cons.mpr ⟨cd_54, List.forall_mem_cons.mpr ⟨cd_131, List.forall_mem_cons.mpr ⟨cd_221, List.forall_mem_cons.mpr ⟨cd_261, List.forall_mem_cons.mpr ⟨cd_262, List.forall_mem_cons.mpr ⟨cd_223, List.forall_mem_cons.mpr ⟨cd_2, List.forall_mem_cons.mpr ⟨cd_7, fun _ h => absurd h List.not_mem_nil⟩⟩⟩⟩⟩⟩⟩⟩⟩⟩⟩⟩⟩⟩⟩⟩
theorem cdl_13 : ∀ q ∈ ([4, 6, 69, 70, 149, 150, 151, 152, 71, 153, 154, 239, 157, 155, 240, 72] : List Nat), cdW q ∈ aGT := List.forall_mem_cons.mpr ⟨cd_4, List.forall_mem_cons.mpr ⟨cd_6, List.forall_mem_cons.mpr ⟨cd_69, List.forall_mem_cons.mpr ⟨cd_70, List.forall_mem_cons.mpr ⟨cd_149, List.forall_mem_cons.mpr ⟨cd_150, List.forall_mem_cons.mpr ⟨cd_151, List.forall_mem_cons.mpr ⟨cd_152, List.forall_mem_cons.mpr ⟨cd_71, List.forall_mem_cons.mpr ⟨cd_153, List.forall_mem_cons.mpr ⟨cd_154, List.forall_mem_cons.mpr ⟨cd_239, List.forall_mem_cons.mpr ⟨cd_157, List.forall_mem_cons.mpr ⟨cd_155, List.forall_mem_cons.mpr ⟨cd_240, List.forall_mem_cons.mpr ⟨cd_72, fun _ h => absurd h List.not_mem_nil⟩⟩⟩⟩⟩⟩⟩⟩⟩⟩⟩⟩⟩⟩⟩⟩
theorem cdl_14 : ∀ q ∈ ([156, 158, 241, 277, 295, 301, 303, 242, 159, 243, 244, 245, 160, 161, 73, 162] : List Nat), cdW q ∈ aGT := List.forall_mem_cons.mpr ⟨cd_156, List.forall_mem_cons.mpr ⟨cd_158, List.forall_mem_cons.mpr ⟨cd_241, List.forall_mem_cons.mpr ⟨cd_277, List.forall_mem_cons.mpr ⟨cd_295, List.forall_mem_cons.mpr ⟨cd_301, List.forall_mem_cons.mpr ⟨cd_303, List.forall_mem_cons.mpr ⟨cd_242, List.forall_mem_cons.mpr ⟨cd_159, List.forall_mem_cons.mpr ⟨cd_243, List.forall_mem_cons.mpr ⟨cd_244, List.forall_mem_cons.mpr ⟨cd_245, List.forall_mem_cons.mpr ⟨cd_160, List.forall_mem_cons.mpr ⟨cd_161, List.forall_mem_cons.mpr ⟨cd_73, List.forall_mem_cons.mpr ⟨cd_162, fun _ h => absurd h List.not_mem_nil⟩⟩⟩⟩⟩⟩⟩⟩⟩⟩⟩⟩⟩⟩⟩⟩
theorem cdl_15 : ∀ q ∈ ([9, 11, 75, 100, 76, 77, 86, 13, 79, 93, 80, 179, 98, 81, 180, 252] : List Nat), cdW q ∈ aGT := List.forall_mem_cons.mpr ⟨cd_9, List.forall_mem_cons.mpr ⟨cd_11, List.forall_mem_cons.mpr ⟨cd_75, List.forall_mem_cons.mpr ⟨cd_100, List.forall_mem_cons.mpr ⟨cd_76, List.forall_mem_cons.mpr ⟨cd_77, List.forall_mem_cons.mpr ⟨cd_86, List.forall_mem_cons.mpr ⟨cd_13, List.forall_mem_cons.mpr ⟨cd_79, List.forall_mem_cons.mpr ⟨cd_93, List.forall_mem_cons.mpr ⟨cd_80, List.forall_mem_cons.mpr ⟨cd_179, List.forall_mem_cons.mpr ⟨cd_98, List.forall_mem_cons.mpr ⟨cd_81, List.forall_mem_cons.mpr ⟨cd_180, List.forall_mem_cons.mpr ⟨cd_252, fun _ h => absurd h List.not_mem_nil⟩⟩⟩⟩⟩⟩⟩⟩⟩⟩⟩⟩⟩⟩⟩⟩
theorem cdl_16 : ∀ q ∈ ([280, 82, 101, 83, 15, 85, 87, 88, 187, 188, 126, 17, 94, 95, 112, 96] : List Nat), cdW q ∈ aGT := List.forall_mem_cons.mpr ⟨cd_280, List.forall_mem_cons.mpr ⟨cd_82, List.forall_mem_cons.mpr ⟨cd_101, List.forall_mem_cons.mpr ⟨cd_83, List.forall_mem_cons.mpr ⟨cd_15, List.forall_mem_cons.mpr ⟨cd_85, List.forall_mem_cons.mpr ⟨cd_87, List.forall_mem_cons.mpr ⟨cd_88, List.forall_mem_cons.mpr ⟨cd_187, List.forall_mem_cons.mpr ⟨cd_188, List.forall_mem_cons.mpr ⟨cd_126, List.forall_mem_cons.mpr ⟨cd_17, List.forall_mem_cons.mpr ⟨cd_94, List.forall_mem_cons.mpr ⟨cd_95, List.forall_mem_cons.mpr ⟨cd_112, List.forall_mem_cons.mpr ⟨cd_96, fun _ h => absurd h List.not_mem_nil⟩⟩⟩⟩⟩⟩⟩⟩⟩⟩⟩⟩⟩⟩⟩⟩
theorem cdl_17 : ∀ q ∈ ([116, 102, 19, 21, 23, 25, 105, 27, 108, 29, 110, 202, 31, 113, 33, 35] : List Nat), cdW q ∈ aGT := List.forall_mem_cons.mpr ⟨cd_116, List.forall_mem_cons.mpr ⟨cd_102, List.forall_mem_cons.mpr ⟨cd_19, List.forall_mem_cons.mpr ⟨cd_21, List.forall_mem_cons.mpr ⟨cd_23, List.forall_mem_cons.mpr ⟨cd_25, List.forall_mem_cons.mpr ⟨cd_105, List.forall_mem_cons.mpr ⟨cd_27, List.forall_mem_cons.mpr ⟨cd_108, List.forall_mem_cons.mpr ⟨cd_29, List.forall_mem_cons.mpr ⟨cd_110, List.forall_mem_cons.mpr ⟨cd_202, List.forall_mem_cons.mpr ⟨cd_31, List.forall_mem_cons.mpr ⟨cd_113, List.forall_mem_cons.mpr ⟨cd_33, List.forall_mem_cons.mpr ⟨cd_35, fun _ h => absurd h List.not_mem_nil⟩⟩⟩⟩⟩⟩⟩⟩⟩⟩⟩⟩⟩⟩⟩⟩
theorem cdl_18 : ∀ q ∈ ([37, 39, 119, 41, 43, 45, 123, 124, 47, 49, 51, 53, 55, 132, 224, 133] : List Nat), cdW q ∈ aGT := List.forall_mem_cons.mpr ⟨cd_37, List.forall_mem_cons.mpr ⟨cd_39, List.forall_mem_cons.mpr ⟨cd_119, List.forall_mem_cons.mpr ⟨cd_41, List.forall_mem_cons.mpr ⟨cd_43, List.forall_mem_cons.mpr ⟨cd_45, List.forall_mem_cons.mpr ⟨cd_123, List.forall_mem_cons.mpr ⟨cd_124, List.forall_mem_cons.mpr ⟨cd_47, List.forall_mem_cons.mpr ⟨cd_49, List.forall_mem_cons.mpr ⟨cd_51, List.forall_mem_cons.mpr ⟨cd_53, List.forall_mem_cons.mpr ⟨cd_55, List.forall_mem_cons.mpr ⟨cd_132, List.forall_mem_cons.mpr ⟨cd_224, List.forall_mem_cons.mpr ⟨cd_133, fun _ h => absurd h List.not_mem_nil⟩⟩⟩⟩⟩⟩⟩⟩⟩⟩⟩⟩⟩⟩⟩⟩
theorem cdl_19 : ∀ q ∈ ([134, 57, 136, 59] : List Nat), cdW q ∈ aGT := List.forall_mem_cons.mpr ⟨cd_134, List.forall_mem_cons.mpr ⟨cd_57, List.forall_mem_cons.mpr ⟨cd_136, List.forall_mem_cons.mpr ⟨cd_59, fun _ h => absurd h List.not_mem_nil⟩⟩⟩⟩
theorem aKC_eq : aKC = [1, 60, 137, 61, 62, 138, 139, 140, 63, 64, 65, 66, 141, 142, 228, 237] ++ ([274, 3, 67, 8, 16, 89, 90, 146, 91, 189, 92, 190, 171, 176, 192, 246] ++ ([247, 248, 278, 165, 172, 249, 279, 191, 20, 99, 173, 194, 195, 197, 22, 103] ++ ([178, 177, 250, 251, 196, 26, 106, 198, 107, 48, 127, 50, 128, 181, 129, 182] ++ ([205, 225, 193, 56, 135, 226, 227, 58, 5, 68, 143, 144, 229, 234, 263, 230] ++ ([264, 265, 231, 238, 275, 276, 294, 300, 232, 266, 273, 287, 267, 288, 233, 268] ++ ([289, 290, 269, 270, 291, 271, 292, 272, 293, 298, 302, 304, 305, 306, 307, 308] ++ ([299, 145, 147, 235, 148, 236, 10, 74, 163, 164, 166, 167, 168, 169, 170, 12] ++ ([78, 174, 175, 14, 84, 183, 184, 185, 253, 281, 282, 186, 222, 18, 97, 24] ++ ([104, 28, 109, 199, 200, 254, 283, 296, 201, 30, 111, 203, 32, 114, 204, 34] ++ ([115, 206, 36, 117, 207, 38, 118, 208, 255, 209, 40, 120, 210, 256, 42, 121] ++ ([211, 212, 44, 122, 213, 257, 258, 284, 297, 285, 286, 214, 215, 46, 125, 216] ++ ([259, 217, 52, 130, 218, 219, 260, 220, 54, 131, 221, 261, 262, 223, 2, 7] ++ ([4, 6, 69, 70, 149, 150, 151, 152, 71, 153, 154, 239, 157, 155, 240, 72] ++ ([156, 158, 241, 277, 295, 301, 303, 242, 159, 243, 244, 245, 160, 161, 73, 162] ++ ([9, 11, 75, 100, 76, 77, 86, 13, 79, 93, 80, 179, 98, 81, 180, 252] ++ ([280, 82, 101, 83, 15, 85, 87, 88, 187, 188, 126, 17, 94, 95, 112, 96] ++ ([116, 102, 19, 21, 23, 25, 105, 27, 108, 29, 110, 202, 31, 113, 33, 35] ++ ([37, 39, 119, 41, 43, 45, 123, 124, 47, 49, 51, 53, 55, 132, 224, 133] ++ ([134, 57, 136, 59]))))))))))))))))))) := by decide +kernel
theorem w_cd : ∀ q ∈ aKC, cdW q ∈ aGT := by
  rw [aKC_eq]
  exact List.forall_mem_append.mpr ⟨cdl_0, List.forall_mem_append.mpr ⟨cdl_1, List.forall_mem_append.mpr ⟨cdl_2, List.forall_mem_append.mpr ⟨cdl_3, List.forall_mem_append.mpr ⟨cdl_4, List.forall_mem_append.mpr ⟨cdl_5, List.forall_mem_append.mpr ⟨cdl_6, List.forall_mem_append.mpr ⟨cdl_7, List.forall_mem_append.mpr ⟨cdl_8, List.forall_mem_append.mpr ⟨cdl_9, List.forall_mem_append.mpr ⟨cdl_10, List.forall_mem_append.mpr ⟨cdl_11, List.forall_mem_append.mpr ⟨cdl_12, List.forall_mem_append.mpr ⟨cdl_13, List.forall_mem_append.mpr ⟨cdl_14, List.forall_mem_append.mpr ⟨cdl_15, List.forall_mem_append.mpr ⟨cdl_16, List.forall_mem_append.mpr ⟨cdl_17, List.forall_mem_append.mpr ⟨cdl_18, cdl_19⟩⟩⟩⟩⟩⟩⟩⟩⟩⟩⟩⟩⟩⟩⟩⟩⟩⟩⟩
