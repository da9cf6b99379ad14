def TB : List Cond := lw_tbl.filter goodWord
theorem tb_of {w : Cond} (h : w ∈ lw_tbl) (g : goodWord w = true) : w ∈ TB := List.mem_filter.mpr ⟨h, g⟩
theorem tb_in {w : Cond} (h : w ∈ TB) : w ∈ lw_tbl := (List.mem_filter.mp h).1
theorem tb_good {w : Cond} (h : w ∈ TB) : (w.onTables && w.keeps) = true ∨ ∃ ty, w = .arrayClass ty := good_of_word (List.mem_filter.mp h).2
theorem tb_cons {w : Cond} (h : w ∈ TB) : GoodIn TB (w :: TB) := fun v hv => (List.mem_cons.mp hv).elim (fun e => by rw [e]; exact ⟨h, tb_good h⟩) (fun h1 => ⟨h1, tb_good h1⟩)
theorem tb1 {w : Cond} (i : Nat) (h : tables_1_1[i]? = some w) (g : goodWord w = true) : w ∈ TB := tb_of (List.mem_append_right _ (List.mem_append_left _ (List.mem_of_getElem? h))) g
theorem tb2 {w : Cond} (i : Nat) (h : tables_1_2[i]? = some w) (g : goodWord w = true) : w ∈ TB := tb_of (List.mem_append_right _ (List.mem_append_right _ (List.mem_append_left _ (List.mem_of_getElem? h)))) g
theorem tb3 {w : Cond} (i : Nat) (h : tables_1_3[i]? = some w) (g : goodWord w = true) : w ∈ TB := tb_of (List.mem_append_right _ (List.mem_append_right _ (List.mem_append_right _ (List.mem_append_left _ (List.mem_of_getElem? h))))) g
theorem tb4 {w : Cond} (i : Nat) (h : tables_1_4[i]? = some w) (g : goodWord w = true) : w ∈ TB := tb_of (List.mem_append_right _ (List.mem_append_right _ (List.mem_append_right _ (List.mem_append_right _ (List.mem_of_getElem? h))))) g
theorem tb_sel {q : MethodName × Nat} (h : q ∈ lw_privs) : (Cond.selects q.1.cls q.1 q.1) ∈ TB := tb_of (List.mem_append_left _ (List.mem_map.mpr ⟨q, h, rfl⟩)) rfl
theorem tbs1 {q : MethodName × Nat} (i : Nat) (h : lw_privs_1[i]? = some q) : (Cond.selects q.1.cls q.1 q.1) ∈ TB := tb_sel (List.mem_append_left _ (List.mem_of_getElem? h))
theorem tbs2 {q : MethodName × Nat} (i : Nat) (h : lw_privs_2[i]? = some q) : (Cond.selects q.1.cls q.1 q.1) ∈ TB := tb_sel (List.mem_append_right _ (List.mem_append_left _ (List.mem_of_getElem? h)))
theorem tbs3 {q : MethodName × Nat} (i : Nat) (h : lw_privs_3[i]? = some q) : (Cond.selects q.1.cls q.1 q.1) ∈ TB := tb_sel (List.mem_append_right _ (List.mem_append_right _ (List.mem_append_left _ (List.mem_of_getElem? h))))
theorem tbs4 {q : MethodName × Nat} (i : Nat) (h : lw_privs_4[i]? = some q) : (Cond.selects q.1.cls q.1 q.1) ∈ TB := tb_sel (List.mem_append_right _ (List.mem_append_right _ (List.mem_append_right _ (List.mem_append_left _ (List.mem_of_getElem? h)))))
theorem tbs5 {q : MethodName × Nat} (i : Nat) (h : lw_privs_5[i]? = some q) : (Cond.selects q.1.cls q.1 q.1) ∈ TB := tb_sel (List.mem_append_right _ (List.mem_append_right _ (List.mem_append_right _ (List.mem_append_right _ (List.mem_of_getElem? h)))))
theorem m1_0 : (Cond.initialized RL) ∈ TB := tb1 0 rfl rfl
theorem m1_1 : (Cond.initialized RX3) ∈ TB := tb1 1 rfl rfl
theorem m1_2 : (Cond.initialized RX0) ∈ TB := tb1 2 rfl rfl
theorem m1_3 : (Cond.initialized RX2) ∈ TB := tb1 3 rfl rfl
theorem m1_4 : (Cond.initialized RX1) ∈ TB := tb1 4 rfl rfl
theorem m1_5 : (Cond.initialized RX4) ∈ TB := tb1 5 rfl rfl
theorem m1_6 : (Cond.initialized "java/lang/Throwable") ∈ TB := tb1 6 rfl rfl
theorem m1_7 : (Cond.initialized "java/lang/Exception") ∈ TB := tb1 7 rfl rfl
theorem m1_8 : (Cond.initialized "java/lang/RuntimeException") ∈ TB := tb1 8 rfl rfl
theorem m1_9 : (Cond.initialized "java/lang/IndexOutOfBoundsException") ∈ TB := tb1 9 rfl rfl
theorem m1_10 : (Cond.initialized "java/lang/IllegalArgumentException") ∈ TB := tb1 10 rfl rfl
theorem m1_11 : (Cond.initialized RJ7) ∈ TB := tb1 11 rfl rfl
theorem m1_12 : (Cond.initialized RJ10) ∈ TB := tb1 12 rfl rfl
theorem m1_13 : (Cond.initialized "java/lang/IllegalStateException") ∈ TB := tb1 13 rfl rfl
theorem m1_14 : (Cond.initialized RJ9) ∈ TB := tb1 14 rfl rfl
theorem m1_15 : (Cond.initialized RJ13) ∈ TB := tb1 15 rfl rfl
theorem m1_16 : (Cond.classLink RL 8 RX3) ∈ TB := tb1 16 rfl rfl
theorem m1_17 : (Cond.instantiable RX3 7) ∈ TB := tb1 17 rfl rfl
theorem m1_18 : (Cond.methodLink RL 48 yX3_init) ∈ TB := tb1 18 rfl rfl
theorem m1_19 : (Cond.instanceMethod yX3_init) ∈ TB := tb1 19 rfl rfl
theorem m1_20 : (Cond.code yX3_init cX3_init 1 none) ∈ TB := tb1 20 rfl rfl
theorem m1_21 : (Cond.methodLink RX3 3 objectInit) ∈ TB := tb1 21 rfl rfl
theorem m1_22 : (Cond.instanceMethod objectInit) ∈ TB := tb1 22 rfl rfl
theorem m1_23 : (Cond.code objectInit object_method_1_code 1 none) ∈ TB := tb1 23 rfl rfl
theorem m1_24 : (Cond.classLink RX3 9 RX0) ∈ TB := tb1 24 rfl rfl
theorem m1_25 : (Cond.instantiable RX0 2) ∈ TB := tb1 25 rfl rfl
theorem m1_27 : (Cond.instanceMethod yX0_init) ∈ TB := tb1 27 rfl rfl
theorem m1_28 : (Cond.code yX0_init cX0_init 1 none) ∈ TB := tb1 28 rfl rfl
theorem m1_29 : (Cond.methodLink RX0 3 objectInit) ∈ TB := tb1 29 rfl rfl
theorem m1_30 : (Cond.fieldLink RX0 9 "ChannelRouter$Pins" "top" "[I") ∈ TB := tb1 30 rfl rfl
theorem m1_33 : (Cond.fieldLink RX0 15 "ChannelRouter$Pins" "bottom" "[I") ∈ TB := tb1 33 rfl rfl
theorem m1_41 : (Cond.arrayClass .int) ∈ TB := tb1 41 rfl rfl
theorem m1_42 : (Cond.classLink RX3 16 RX2) ∈ TB := tb1 42 rfl rfl
theorem m1_43 : (Cond.instantiable RX2 4) ∈ TB := tb1 43 rfl rfl
theorem m1_45 : (Cond.instanceMethod yX2_init) ∈ TB := tb1 45 rfl rfl
theorem m1_46 : (Cond.code yX2_init cX2_init 1 none) ∈ TB := tb1 46 rfl rfl
theorem m1_47 : (Cond.methodLink RX2 3 objectInit) ∈ TB := tb1 47 rfl rfl
theorem m1_48 : (Cond.fieldLink RX2 9 "ChannelRouter$RingSearch" "reach" "[J") ∈ TB := tb1 48 rfl rfl
theorem m1_49 : (Cond.fieldLink RX2 15 "ChannelRouter$RingSearch" "steps" "[I") ∈ TB := tb1 49 rfl rfl
theorem m1_50 : (Cond.fieldLink RX2 19 "ChannelRouter$RingSearch" "told" "[I") ∈ TB := tb1 50 rfl rfl
theorem m1_51 : (Cond.fieldLink RX2 22 "ChannelRouter$RingSearch" "length" "I") ∈ TB := tb1 51 rfl rfl
theorem m1_61 : (Cond.arrayClass .long) ∈ TB := tb1 61 rfl rfl
theorem m1_62 : (Cond.classLink RX3 23 RX1) ∈ TB := tb1 62 rfl rfl
theorem m1_63 : (Cond.instantiable RX1 9) ∈ TB := tb1 63 rfl rfl
theorem m1_65 : (Cond.instanceMethod yX1_init) ∈ TB := tb1 65 rfl rfl
theorem m1_66 : (Cond.code yX1_init cX1_init 1 none) ∈ TB := tb1 66 rfl rfl
theorem m1_67 : (Cond.methodLink RX1 3 objectInit) ∈ TB := tb1 67 rfl rfl
theorem m1_68 : (Cond.fieldLink RX1 9 "ChannelRouter$Plan" "netOf" "[I") ∈ TB := tb1 68 rfl rfl
theorem m1_70 : (Cond.fieldLink RX1 15 "ChannelRouter$Plan" "left" "[I") ∈ TB := tb1 70 rfl rfl
theorem m1_72 : (Cond.fieldLink RX1 18 "ChannelRouter$Plan" "right" "[I") ∈ TB := tb1 72 rfl rfl
theorem m1_74 : (Cond.fieldLink RX1 21 "ChannelRouter$Plan" "trackOf" "[I") ∈ TB := tb1 74 rfl rfl
theorem m1_76 : (Cond.fieldLink RX1 24 "ChannelRouter$Plan" "touched" "[I") ∈ TB := tb1 76 rfl rfl
theorem m1_77 : (Cond.fieldLink RX1 27 "ChannelRouter$Plan" "below" "[J") ∈ TB := tb1 77 rfl rfl
theorem m1_79 : (Cond.fieldLink RX1 31 "ChannelRouter$Plan" "byLeft" "[I") ∈ TB := tb1 79 rfl rfl
theorem m1_80 : (Cond.fieldLink RX1 34 "ChannelRouter$Plan" "size" "I") ∈ TB := tb1 80 rfl rfl
theorem m1_83 : (Cond.fieldLink RX1 38 "ChannelRouter$Plan" "tracks" "I") ∈ TB := tb1 83 rfl rfl
theorem m1_104 : (Cond.fieldLink RX3 12 "ChannelRouter" "pins" "LChannelRouter$Pins;") ∈ TB := tb1 104 rfl rfl
theorem m1_105 : (Cond.fieldLink RX3 19 "ChannelRouter" "rings" "LChannelRouter$RingSearch;") ∈ TB := tb1 105 rfl rfl
theorem m1_106 : (Cond.fieldLink RX3 26 "ChannelRouter" "laid" "LChannelRouter$Plan;") ∈ TB := tb1 106 rfl rfl
theorem m1_107 : (Cond.fieldLink RX3 30 "ChannelRouter" "draft" "LChannelRouter$Plan;") ∈ TB := tb1 107 rfl rfl
theorem m1_108 : (Cond.fieldLink RX3 33 "ChannelRouter" "isLaid" "Z") ∈ TB := tb1 108 rfl rfl
theorem m1_109 : (Cond.fieldLink RX3 37 "ChannelRouter" "timesLaid" "I") ∈ TB := tb1 109 rfl rfl
theorem m1_110 : (Cond.fieldLink RX3 41 "ChannelRouter" "timesRefused" "I") ∈ TB := tb1 110 rfl rfl
theorem m1_126 : (Cond.methodLink RL 69 yX3_ring) ∈ TB := tb1 126 rfl rfl
theorem m1_127 : (Cond.instanceMethod yX3_ring) ∈ TB := tb1 127 rfl rfl
theorem m1_128 : (Cond.selects RX3 yX3_ring yX3_ring) ∈ TB := tb1 128 rfl rfl
theorem m1_129 : (Cond.code yX3_ring cX3_ring 2 (some .int)) ∈ TB := tb1 129 rfl rfl
theorem m1_132 : (Cond.instanceMethod yX2_toldAt) ∈ TB := tb1 132 rfl rfl
theorem m1_133 : (Cond.code yX2_toldAt cX2_toldAt 2 (some .int)) ∈ TB := tb1 133 rfl rfl
theorem m1_134 : (Cond.methodLink RL 86 yX3_density) ∈ TB := tb1 134 rfl rfl
theorem m1_135 : (Cond.instanceMethod yX3_density) ∈ TB := tb1 135 rfl rfl
theorem m1_136 : (Cond.selects RX3 yX3_density yX3_density) ∈ TB := tb1 136 rfl rfl
theorem m1_137 : (Cond.code yX3_density cX3_density 3 (some .int)) ∈ TB := tb1 137 rfl rfl
theorem m1_140 : (Cond.instanceMethod yX0_longNetsAt) ∈ TB := tb1 140 rfl rfl
theorem m1_141 : (Cond.code yX0_longNetsAt cX0_longNetsAt 4 (some .int)) ∈ TB := tb1 141 rfl rfl
theorem m1_142 : (Cond.methodLink RX0 35 yX0_isLong) ∈ TB := tb1 142 rfl rfl
theorem m1_144 : (Cond.instanceMethod yX0_isLong) ∈ TB := tb1 144 rfl rfl
theorem m1_145 : (Cond.code yX0_isLong cX0_isLong 2 (some .boolean)) ∈ TB := tb1 145 rfl rfl
theorem m1_146 : (Cond.methodLink RX0 32 yX0_kindOf) ∈ TB := tb1 146 rfl rfl
theorem m1_148 : (Cond.instanceMethod yX0_kindOf) ∈ TB := tb1 148 rfl rfl
theorem m1_149 : (Cond.code yX0_kindOf cX0_kindOf 3 (some .int)) ∈ TB := tb1 149 rfl rfl
theorem m1_150 : (Cond.methodLink RX0 22 yX0_pinsOf) ∈ TB := tb1 150 rfl rfl
theorem m1_152 : (Cond.instanceMethod yX0_pinsOf) ∈ TB := tb1 152 rfl rfl
theorem m1_153 : (Cond.code yX0_pinsOf cX0_pinsOf 4 (some .int)) ∈ TB := tb1 153 rfl rfl
theorem m1_154 : (Cond.methodLink RX0 26 yX0_firstColumn) ∈ TB := tb1 154 rfl rfl
theorem m1_156 : (Cond.instanceMethod yX0_firstColumn) ∈ TB := tb1 156 rfl rfl
theorem m1_157 : (Cond.code yX0_firstColumn cX0_firstColumn 3 (some .int)) ∈ TB := tb1 157 rfl rfl
theorem m1_158 : (Cond.methodLink RX0 18 yX0_has) ∈ TB := tb1 158 rfl rfl
theorem m1_160 : (Cond.instanceMethod yX0_has) ∈ TB := tb1 160 rfl rfl
theorem m1_161 : (Cond.code yX0_has cX0_has 3 (some .boolean)) ∈ TB := tb1 161 rfl rfl
theorem m1_162 : (Cond.methodLink RX0 29 yX0_lastColumn) ∈ TB := tb1 162 rfl rfl
theorem m1_164 : (Cond.instanceMethod yX0_lastColumn) ∈ TB := tb1 164 rfl rfl
theorem m1_165 : (Cond.code yX0_lastColumn cX0_lastColumn 3 (some .int)) ∈ TB := tb1 165 rfl rfl
theorem m1_166 : (Cond.methodLink RX3 141 yJ9_max_7cf53) ∈ TB := tb1 166 rfl rfl
theorem m1_167 : (Cond.static yJ9_max_7cf53) ∈ TB := tb1 167 rfl rfl
theorem m1_168 : (Cond.code yJ9_max_7cf53 cJ9_max_7cf53 2 (some .int)) ∈ TB := tb1 168 rfl rfl
theorem m1_169 : (Cond.methodLink RL 90 yX3_pairs) ∈ TB := tb1 169 rfl rfl
theorem m1_170 : (Cond.instanceMethod yX3_pairs) ∈ TB := tb1 170 rfl rfl
theorem m1_171 : (Cond.selects RX3 yX3_pairs yX3_pairs) ∈ TB := tb1 171 rfl rfl
theorem m1_172 : (Cond.code yX3_pairs cX3_pairs 2 (some .int)) ∈ TB := tb1 172 rfl rfl
theorem m1_175 : (Cond.instanceMethod yX1_draw) ∈ TB := tb1 175 rfl rfl
theorem m1_176 : (Cond.code yX1_draw cX1_draw 4 none) ∈ TB := tb1 176 rfl rfl
theorem m1_177 : (Cond.methodLink RX1 41 yX1_clear) ∈ TB := tb1 177 rfl rfl
theorem m1_179 : (Cond.instanceMethod yX1_clear) ∈ TB := tb1 179 rfl rfl
theorem m1_180 : (Cond.code yX1_clear cX1_clear 1 none) ∈ TB := tb1 180 rfl rfl
theorem m1_182 : (Cond.methodLink RX1 50 yX1_addPieces) ∈ TB := tb1 182 rfl rfl
theorem m1_184 : (Cond.instanceMethod yX1_addPieces) ∈ TB := tb1 184 rfl rfl
theorem m1_185 : (Cond.code yX1_addPieces cX1_addPieces 5 none) ∈ TB := tb1 185 rfl rfl
theorem m1_187 : (Cond.methodLink RX1 72 yX1_add) ∈ TB := tb1 187 rfl rfl
theorem m1_189 : (Cond.instanceMethod yX1_add) ∈ TB := tb1 189 rfl rfl
theorem m1_190 : (Cond.code yX1_add cX1_add 5 none) ∈ TB := tb1 190 rfl rfl
theorem m1_191 : (Cond.methodLink RX1 54 yX1_addWhole) ∈ TB := tb1 191 rfl rfl
theorem m1_193 : (Cond.instanceMethod yX1_addWhole) ∈ TB := tb1 193 rfl rfl
theorem m1_194 : (Cond.code yX1_addWhole cX1_addWhole 5 none) ∈ TB := tb1 194 rfl rfl
theorem m1_197 : (Cond.methodLink RX1 57 yX1_findBelow) ∈ TB := tb1 197 rfl rfl
theorem m1_199 : (Cond.instanceMethod yX1_findBelow) ∈ TB := tb1 199 rfl rfl
theorem m1_200 : (Cond.code yX1_findBelow cX1_findBelow 5 none) ∈ TB := tb1 200 rfl rfl
theorem m1_201 : (Cond.methodLink RX1 76 yJ7_fill_d0a16) ∈ TB := tb1 201 rfl rfl
theorem m1_202 : (Cond.static yJ7_fill_d0a16) ∈ TB := tb1 202 rfl rfl
theorem m1_203 : (Cond.code yJ7_fill_d0a16 cJ7_fill_d0a16 5 none) ∈ TB := tb1 203 rfl rfl
theorem m1_204 : (Cond.methodLink RX1 88 yX1_touching) ∈ TB := tb1 204 rfl rfl
theorem m1_206 : (Cond.instanceMethod yX1_touching) ∈ TB := tb1 206 rfl rfl
theorem m1_207 : (Cond.code yX1_touching cX1_touching 6 (some .long)) ∈ TB := tb1 207 rfl rfl
theorem m1_208 : (Cond.methodLink RX1 100 yX1_touches) ∈ TB := tb1 208 rfl rfl
theorem m1_210 : (Cond.instanceMethod yX1_touches) ∈ TB := tb1 210 rfl rfl
theorem m1_211 : (Cond.code yX1_touches cX1_touches 4 (some .boolean)) ∈ TB := tb1 211 rfl rfl
theorem m1_212 : (Cond.methodLink RX1 92 yX1_addBelow) ∈ TB := tb1 212 rfl rfl
theorem m1_214 : (Cond.instanceMethod yX1_addBelow) ∈ TB := tb1 214 rfl rfl
theorem m1_215 : (Cond.code yX1_addBelow cX1_addBelow 6 none) ∈ TB := tb1 215 rfl rfl
theorem m1_216 : (Cond.methodLink RX1 96 yX1_isIn) ∈ TB := tb1 216 rfl rfl
theorem m1_217 : (Cond.static yX1_isIn) ∈ TB := tb1 217 rfl rfl
theorem m1_218 : (Cond.code yX1_isIn cX1_isIn 3 (some .boolean)) ∈ TB := tb1 218 rfl rfl
theorem m1_221 : (Cond.instanceMethod yX1_countPairs) ∈ TB := tb1 221 rfl rfl
theorem m1_222 : (Cond.code yX1_countPairs cX1_countPairs 3 (some .int)) ∈ TB := tb1 222 rfl rfl
theorem m1_223 : (Cond.methodLink RX1 104 yJ13_bitCount_95d88) ∈ TB := tb1 223 rfl rfl
theorem m1_224 : (Cond.static yJ13_bitCount_95d88) ∈ TB := tb1 224 rfl rfl
theorem m1_225 : (Cond.code yJ13_bitCount_95d88 cJ13_bitCount_95d88 2 (some .int)) ∈ TB := tb1 225 rfl rfl
theorem m1_226 : (Cond.constantLong RJ13 314 (6148914691236517205)) ∈ TB := tb1 226 rfl rfl
theorem m1_227 : (Cond.constantLong RJ13 316 (3689348814741910323)) ∈ TB := tb1 227 rfl rfl
theorem m1_228 : (Cond.constantLong RJ13 318 (1085102592571150095)) ∈ TB := tb1 228 rfl rfl
theorem m1_229 : (Cond.methodLink RL 101 yX3_used) ∈ TB := tb1 229 rfl rfl
theorem m1_230 : (Cond.instanceMethod yX3_used) ∈ TB := tb1 230 rfl rfl
theorem m1_231 : (Cond.selects RX3 yX3_used yX3_used) ∈ TB := tb1 231 rfl rfl
theorem m1_232 : (Cond.code yX3_used cX3_used 1 (some .float)) ∈ TB := tb1 232 rfl rfl
theorem m1_235 : (Cond.instanceMethod yX1_countPoints) ∈ TB := tb1 235 rfl rfl
theorem m1_236 : (Cond.code yX1_countPoints cX1_countPoints 4 (some .int)) ∈ TB := tb1 236 rfl rfl
theorem m1_237 : (Cond.methodLink RX1 134 yX1_netOn) ∈ TB := tb1 237 rfl rfl
theorem m1_239 : (Cond.instanceMethod yX1_netOn) ∈ TB := tb1 239 rfl rfl
theorem m2_0 : (Cond.code yX1_netOn cX1_netOn 4 (some .int)) ∈ TB := tb2 0 rfl rfl
theorem m2_1 : (Cond.methodLink RL 52 yL_pin) ∈ TB := tb2 1 rfl rfl
theorem m2_2 : (Cond.static yL_pin) ∈ TB := tb2 2 rfl rfl
theorem m2_3 : (Cond.codeWith yL_pin cL_pin 6 (some .int) [(0, 12, 15, 13), (0, 12, 19, 15)]) ∈ TB := tb2 3 rfl rfl
theorem m2_4 : (Cond.classLink RL 13 "java/lang/IndexOutOfBoundsException") ∈ TB := tb2 4 rfl rfl
theorem m2_5 : (Cond.classLink RL 15 "java/lang/IllegalArgumentException") ∈ TB := tb2 5 rfl rfl
theorem m2_6 : (Cond.methodLink RL 7 yX3_pin) ∈ TB := tb2 6 rfl rfl
theorem m2_7 : (Cond.instanceMethod yX3_pin) ∈ TB := tb2 7 rfl rfl
theorem m2_8 : (Cond.selects RX3 yX3_pin yX3_pin) ∈ TB := tb2 8 rfl rfl
theorem m2_9 : (Cond.code yX3_pin cX3_pin 4 (some .int)) ∈ TB := tb2 9 rfl rfl
theorem m2_10 : (Cond.methodLink RX3 44 yX3_isColumn) ∈ TB := tb2 10 rfl rfl
theorem m2_11 : (Cond.static yX3_isColumn) ∈ TB := tb2 11 rfl rfl
theorem m2_12 : (Cond.code yX3_isColumn cX3_isColumn 1 (some .boolean)) ∈ TB := tb2 12 rfl rfl
theorem m2_13 : (Cond.classLink RX3 48 "java/lang/IndexOutOfBoundsException") ∈ TB := tb2 13 rfl rfl
theorem m2_14 : (Cond.instantiable "java/lang/IndexOutOfBoundsException" 6) ∈ TB := tb2 14 rfl rfl
theorem m2_22 : (Cond.selects "java/lang/IndexOutOfBoundsException" ⟨"java/lang/Throwable", "fillInStackTrace", "(I)Ljava/lang/Throwable;"⟩ ⟨"java/lang/Throwable", "fillInStackTrace", "(I)Ljava/lang/Throwable;"⟩) ∈ TB := tb2 22 rfl rfl
theorem m2_23 : (Cond.selects "java/lang/IndexOutOfBoundsException" ⟨"java/lang/Throwable", "fillInStackTrace", "()Ljava/lang/Throwable;"⟩ ⟨"java/lang/Throwable", "fillInStackTrace", "()Ljava/lang/Throwable;"⟩) ∈ TB := tb2 23 rfl rfl
theorem m2_34 : (Cond.fieldLink "java/lang/Throwable" 198 "java/lang/Throwable" "backtrace" "Ljava/lang/Object;") ∈ TB := tb2 34 rfl rfl
theorem m2_36 : (Cond.instanceMethod ⟨"java/lang/Throwable", "<init>", "()V"⟩) ∈ TB := tb2 36 rfl rfl
theorem m2_37 : (Cond.code ⟨"java/lang/Throwable", "<init>", "()V"⟩ prog_16_method_1_code 1 none) ∈ TB := tb2 37 rfl rfl
theorem m2_38 : (Cond.methodLink "java/lang/Throwable" 1 objectInit) ∈ TB := tb2 38 rfl rfl
theorem m2_39 : (Cond.fieldLink "java/lang/Throwable" 13 "java/lang/Throwable" "UNASSIGNED_STACK" "[Ljava/lang/StackTraceElement;") ∈ TB := tb2 39 rfl rfl
theorem m2_41 : (Cond.fieldLink "java/lang/Throwable" 20 "java/lang/Throwable" "SUPPRESSED_SENTINEL" "Ljava/util/List;") ∈ TB := tb2 41 rfl rfl
theorem m2_43 : (Cond.methodLink "java/lang/Throwable" 27 ⟨"java/lang/Throwable", "fillInStackTrace", "()Ljava/lang/Throwable;"⟩) ∈ TB := tb2 43 rfl rfl
theorem m2_44 : (Cond.instanceMethod ⟨"java/lang/Throwable", "fillInStackTrace", "()Ljava/lang/Throwable;"⟩) ∈ TB := tb2 44 rfl rfl
theorem m2_46 : (Cond.selects "java/lang/IllegalArgumentException" ⟨"java/lang/Throwable", "fillInStackTrace", "()Ljava/lang/Throwable;"⟩ ⟨"java/lang/Throwable", "fillInStackTrace", "()Ljava/lang/Throwable;"⟩) ∈ TB := tb2 46 rfl rfl
theorem m2_47 : (Cond.selects "java/lang/IllegalStateException" ⟨"java/lang/Throwable", "fillInStackTrace", "()Ljava/lang/Throwable;"⟩ ⟨"java/lang/Throwable", "fillInStackTrace", "()Ljava/lang/Throwable;"⟩) ∈ TB := tb2 47 rfl rfl
theorem m2_49 : (Cond.methodLink "java/lang/Throwable" 202 ⟨"java/lang/Throwable", "fillInStackTrace", "(I)Ljava/lang/Throwable;"⟩) ∈ TB := tb2 49 rfl rfl
theorem m2_51 : (Cond.instanceMethod ⟨"java/lang/Throwable", "fillInStackTrace", "(I)Ljava/lang/Throwable;"⟩) ∈ TB := tb2 51 rfl rfl
theorem m2_52 : (Cond.instantiable "java/lang/Throwable" 6) ∈ TB := tb2 52 rfl rfl
theorem m2_53 : (Cond.native ⟨"java/lang/Throwable", "fillInStackTrace", "(I)Ljava/lang/Throwable;"⟩) ∈ TB := tb2 53 rfl rfl
theorem m2_55 : (Cond.methodLink RX3 52 ⟨"java/lang/IndexOutOfBoundsException", "<init>", "(Ljava/lang/String;)V"⟩) ∈ TB := tb2 55 rfl rfl
theorem m2_56 : (Cond.instanceMethod ⟨"java/lang/IndexOutOfBoundsException", "<init>", "(Ljava/lang/String;)V"⟩) ∈ TB := tb2 56 rfl rfl
theorem m2_57 : (Cond.code ⟨"java/lang/IndexOutOfBoundsException", "<init>", "(Ljava/lang/String;)V"⟩ prog_10_method_2_code 2 none) ∈ TB := tb2 57 rfl rfl
theorem m2_58 : (Cond.methodLink "java/lang/IndexOutOfBoundsException" 7 ⟨"java/lang/RuntimeException", "<init>", "(Ljava/lang/String;)V"⟩) ∈ TB := tb2 58 rfl rfl
theorem m2_59 : (Cond.instanceMethod ⟨"java/lang/RuntimeException", "<init>", "(Ljava/lang/String;)V"⟩) ∈ TB := tb2 59 rfl rfl
theorem m2_60 : (Cond.code ⟨"java/lang/RuntimeException", "<init>", "(Ljava/lang/String;)V"⟩ prog_13_method_2_code 2 none) ∈ TB := tb2 60 rfl rfl
theorem m2_61 : (Cond.methodLink "java/lang/RuntimeException" 7 ⟨"java/lang/Exception", "<init>", "(Ljava/lang/String;)V"⟩) ∈ TB := tb2 61 rfl rfl
theorem m2_62 : (Cond.instanceMethod ⟨"java/lang/Exception", "<init>", "(Ljava/lang/String;)V"⟩) ∈ TB := tb2 62 rfl rfl
theorem m2_63 : (Cond.code ⟨"java/lang/Exception", "<init>", "(Ljava/lang/String;)V"⟩ prog_7_method_2_code 2 none) ∈ TB := tb2 63 rfl rfl
theorem m2_64 : (Cond.methodLink "java/lang/Exception" 7 ⟨"java/lang/Throwable", "<init>", "(Ljava/lang/String;)V"⟩) ∈ TB := tb2 64 rfl rfl
theorem m2_65 : (Cond.instanceMethod ⟨"java/lang/Throwable", "<init>", "(Ljava/lang/String;)V"⟩) ∈ TB := tb2 65 rfl rfl
theorem m2_66 : (Cond.code ⟨"java/lang/Throwable", "<init>", "(Ljava/lang/String;)V"⟩ prog_16_method_2_code 2 none) ∈ TB := tb2 66 rfl rfl
theorem m2_67 : (Cond.fieldLink "java/lang/Throwable" 198 "java/lang/Throwable" "backtrace" "Ljava/lang/Object;") ∈ TB := tb2 67 rfl rfl
theorem m2_68 : (Cond.fieldLink "java/lang/Throwable" 31 "java/lang/Throwable" "detailMessage" "Ljava/lang/String;") ∈ TB := tb2 68 rfl rfl
theorem m2_69 : (Cond.fieldLink "java/lang/Throwable" 7 "java/lang/Throwable" "cause" "Ljava/lang/Throwable;") ∈ TB := tb2 69 rfl rfl
theorem m2_70 : (Cond.fieldLink "java/lang/Throwable" 17 "java/lang/Throwable" "stackTrace" "[Ljava/lang/StackTraceElement;") ∈ TB := tb2 70 rfl rfl
theorem m2_71 : (Cond.fieldLink "java/lang/Throwable" 24 "java/lang/Throwable" "suppressedExceptions" "Ljava/util/List;") ∈ TB := tb2 71 rfl rfl
theorem m2_80 : (Cond.arrayClass .byte) ∈ TB := tb2 80 rfl rfl
theorem m2_81 : (Cond.methodLink RX3 55 yX3_isNet) ∈ TB := tb2 81 rfl rfl
theorem m2_82 : (Cond.static yX3_isNet) ∈ TB := tb2 82 rfl rfl
theorem m2_83 : (Cond.code yX3_isNet cX3_isNet 1 (some .boolean)) ∈ TB := tb2 83 rfl rfl
theorem m2_84 : (Cond.classLink RX3 58 "java/lang/IllegalArgumentException") ∈ TB := tb2 84 rfl rfl
theorem m2_85 : (Cond.instantiable "java/lang/IllegalArgumentException" 6) ∈ TB := tb2 85 rfl rfl
theorem m2_87 : (Cond.selects "java/lang/IllegalArgumentException" ⟨"java/lang/Throwable", "fillInStackTrace", "(I)Ljava/lang/Throwable;"⟩ ⟨"java/lang/Throwable", "fillInStackTrace", "(I)Ljava/lang/Throwable;"⟩) ∈ TB := tb2 87 rfl rfl
theorem m2_94 : (Cond.methodLink RX3 62 ⟨"java/lang/IllegalArgumentException", "<init>", "(Ljava/lang/String;)V"⟩) ∈ TB := tb2 94 rfl rfl
theorem m2_95 : (Cond.instanceMethod ⟨"java/lang/IllegalArgumentException", "<init>", "(Ljava/lang/String;)V"⟩) ∈ TB := tb2 95 rfl rfl
theorem m2_96 : (Cond.code ⟨"java/lang/IllegalArgumentException", "<init>", "(Ljava/lang/String;)V"⟩ prog_8_method_2_code 2 none) ∈ TB := tb2 96 rfl rfl
theorem m2_97 : (Cond.methodLink "java/lang/IllegalArgumentException" 7 ⟨"java/lang/RuntimeException", "<init>", "(Ljava/lang/String;)V"⟩) ∈ TB := tb2 97 rfl rfl
theorem m2_103 : (Cond.instanceMethod yX0_put) ∈ TB := tb2 103 rfl rfl
theorem m2_104 : (Cond.code yX0_put cX0_put 6 (some .int)) ∈ TB := tb2 104 rfl rfl
theorem m2_105 : (Cond.methodLink RL 61 yL_lay) ∈ TB := tb2 105 rfl rfl
theorem m2_106 : (Cond.static yL_lay) ∈ TB := tb2 106 rfl rfl
theorem m2_107 : (Cond.codeWith yL_lay cL_lay 4 (some .int) [(0, 9, 12, 15), (0, 9, 15, 21)]) ∈ TB := tb2 107 rfl rfl
theorem m2_108 : (Cond.classLink RL 21 "java/lang/IllegalStateException") ∈ TB := tb2 108 rfl rfl
theorem m2_109 : (Cond.methodLink RL 17 yX3_lay) ∈ TB := tb2 109 rfl rfl
theorem m2_110 : (Cond.instanceMethod yX3_lay) ∈ TB := tb2 110 rfl rfl
theorem m2_111 : (Cond.selects RX3 yX3_lay yX3_lay) ∈ TB := tb2 111 rfl rfl
theorem m2_112 : (Cond.code yX3_lay cX3_lay 2 (some .int)) ∈ TB := tb2 112 rfl rfl
theorem m2_115 : (Cond.instanceMethod yX0_anySingle) ∈ TB := tb2 115 rfl rfl
theorem m2_116 : (Cond.code yX0_anySingle cX0_anySingle 2 (some .boolean)) ∈ TB := tb2 116 rfl rfl
theorem m2_118 : (Cond.methodLink RX3 76 yX3_draftHasRing) ∈ TB := tb2 118 rfl rfl
theorem m2_120 : (Cond.instanceMethod yX3_draftHasRing) ∈ TB := tb2 120 rfl rfl
theorem m2_121 : (Cond.code yX3_draftHasRing cX3_draftHasRing 2 (some .boolean)) ∈ TB := tb2 121 rfl rfl
theorem m2_124 : (Cond.instanceMethod yX2_lowestInRing) ∈ TB := tb2 124 rfl rfl
theorem m2_125 : (Cond.code yX2_lowestInRing cX2_lowestInRing 3 (some .int)) ∈ TB := tb2 125 rfl rfl
theorem m2_126 : (Cond.methodLink RX2 26 yX2_findReach) ∈ TB := tb2 126 rfl rfl
theorem m2_128 : (Cond.instanceMethod yX2_findReach) ∈ TB := tb2 128 rfl rfl
theorem m2_129 : (Cond.code yX2_findReach cX2_findReach 4 none) ∈ TB := tb2 129 rfl rfl
theorem m2_130 : (Cond.methodLink RX2 42 ⟨"java/lang/System", "arraycopy", "(Ljava/lang/Object;ILjava/lang/Object;II)V"⟩) ∈ TB := tb2 130 rfl rfl
theorem m2_131 : (Cond.static ⟨"java/lang/System", "arraycopy", "(Ljava/lang/Object;ILjava/lang/Object;II)V"⟩) ∈ TB := tb2 131 rfl rfl
theorem m2_132 : (Cond.native ⟨"java/lang/System", "arraycopy", "(Ljava/lang/Object;ILjava/lang/Object;II)V"⟩) ∈ TB := tb2 132 rfl rfl
theorem m2_134 : (Cond.methodLink RX3 80 yX3_tellRingOfDraft) ∈ TB := tb2 134 rfl rfl
theorem m2_136 : (Cond.instanceMethod yX3_tellRingOfDraft) ∈ TB := tb2 136 rfl rfl
theorem m2_137 : (Cond.code yX3_tellRingOfDraft cX3_tellRingOfDraft 1 none) ∈ TB := tb2 137 rfl rfl
theorem m2_140 : (Cond.instanceMethod yX2_tell) ∈ TB := tb2 140 rfl rfl
theorem m2_141 : (Cond.code yX2_tell cX2_tell 4 none) ∈ TB := tb2 141 rfl rfl
theorem m2_142 : (Cond.methodLink RX2 48 yX2_lowestInRing) ∈ TB := tb2 142 rfl rfl
theorem m2_143 : (Cond.methodLink RX2 52 yX2_countStepsTo) ∈ TB := tb2 143 rfl rfl
theorem m2_145 : (Cond.instanceMethod yX2_countStepsTo) ∈ TB := tb2 145 rfl rfl
theorem m2_146 : (Cond.code yX2_countStepsTo cX2_countStepsTo 9 none) ∈ TB := tb2 146 rfl rfl
theorem m2_147 : (Cond.methodLink RX2 60 yJ7_fill_53178) ∈ TB := tb2 147 rfl rfl
theorem m2_148 : (Cond.static yJ7_fill_53178) ∈ TB := tb2 148 rfl rfl
theorem m2_149 : (Cond.code yJ7_fill_53178 cJ7_fill_53178 4 none) ∈ TB := tb2 149 rfl rfl
theorem m2_150 : (Cond.methodLink RX2 56 yX2_nearestBelow) ∈ TB := tb2 150 rfl rfl
theorem m2_152 : (Cond.instanceMethod yX2_nearestBelow) ∈ TB := tb2 152 rfl rfl
theorem m2_153 : (Cond.code yX2_nearestBelow cX2_nearestBelow 5 (some .int)) ∈ TB := tb2 153 rfl rfl
theorem m2_154 : (Cond.classLink RX3 83 "java/lang/IllegalStateException") ∈ TB := tb2 154 rfl rfl
theorem m2_155 : (Cond.instantiable "java/lang/IllegalStateException" 6) ∈ TB := tb2 155 rfl rfl
theorem m2_157 : (Cond.selects "java/lang/IllegalStateException" ⟨"java/lang/Throwable", "fillInStackTrace", "(I)Ljava/lang/Throwable;"⟩ ⟨"java/lang/Throwable", "fillInStackTrace", "(I)Ljava/lang/Throwable;"⟩) ∈ TB := tb2 157 rfl rfl
theorem m2_164 : (Cond.methodLink RX3 87 ⟨"java/lang/IllegalStateException", "<init>", "(Ljava/lang/String;)V"⟩) ∈ TB := tb2 164 rfl rfl
theorem m2_165 : (Cond.instanceMethod ⟨"java/lang/IllegalStateException", "<init>", "(Ljava/lang/String;)V"⟩) ∈ TB := tb2 165 rfl rfl
theorem m2_166 : (Cond.code ⟨"java/lang/IllegalStateException", "<init>", "(Ljava/lang/String;)V"⟩ prog_9_method_2_code 2 none) ∈ TB := tb2 166 rfl rfl
theorem m2_167 : (Cond.methodLink "java/lang/IllegalStateException" 7 ⟨"java/lang/RuntimeException", "<init>", "(Ljava/lang/String;)V"⟩) ∈ TB := tb2 167 rfl rfl
theorem m2_170 : (Cond.methodLink RX3 88 yX3_keepDraft) ∈ TB := tb2 170 rfl rfl
theorem m2_172 : (Cond.instanceMethod yX3_keepDraft) ∈ TB := tb2 172 rfl rfl
theorem m2_173 : (Cond.code yX3_keepDraft cX3_keepDraft 2 none) ∈ TB := tb2 173 rfl rfl
theorem m2_176 : (Cond.instanceMethod yX1_fillTracks) ∈ TB := tb2 176 rfl rfl
theorem m2_177 : (Cond.code yX1_fillTracks cX1_fillTracks 3 none) ∈ TB := tb2 177 rfl rfl
theorem m2_178 : (Cond.methodLink RX1 110 yX1_sortByLeft) ∈ TB := tb2 178 rfl rfl
theorem m2_180 : (Cond.instanceMethod yX1_sortByLeft) ∈ TB := tb2 180 rfl rfl
theorem m2_181 : (Cond.code yX1_sortByLeft cX1_sortByLeft 4 none) ∈ TB := tb2 181 rfl rfl
theorem m2_182 : (Cond.methodLink RX1 113 yX1_belowAnyOf) ∈ TB := tb2 182 rfl rfl
theorem m2_184 : (Cond.instanceMethod yX1_belowAnyOf) ∈ TB := tb2 184 rfl rfl
theorem m2_185 : (Cond.code yX1_belowAnyOf cX1_belowAnyOf 6 (some .long)) ∈ TB := tb2 185 rfl rfl
theorem m2_186 : (Cond.constantLong RX1 117 (-1)) ∈ TB := tb2 186 rfl rfl
theorem m2_187 : (Cond.methodLink RX1 119 yX1_fillTrack) ∈ TB := tb2 187 rfl rfl
theorem m2_189 : (Cond.instanceMethod yX1_fillTrack) ∈ TB := tb2 189 rfl rfl
theorem m2_190 : (Cond.code yX1_fillTrack cX1_fillTrack 8 (some .long)) ∈ TB := tb2 190 rfl rfl
theorem m2_191 : (Cond.methodLink RX1 122 yX1_fitsBehind) ∈ TB := tb2 191 rfl rfl
theorem m2_193 : (Cond.instanceMethod yX1_fitsBehind) ∈ TB := tb2 193 rfl rfl
theorem m2_194 : (Cond.code yX1_fitsBehind cX1_fitsBehind 3 (some .boolean)) ∈ TB := tb2 194 rfl rfl
theorem m2_195 : (Cond.methodLink RL 65 yL_layAny) ∈ TB := tb2 195 rfl rfl
theorem m2_196 : (Cond.static yL_layAny) ∈ TB := tb2 196 rfl rfl
theorem m2_197 : (Cond.codeWith yL_layAny cL_layAny 3 (some .int) [(0, 8, 11, 15), (0, 8, 14, 21)]) ∈ TB := tb2 197 rfl rfl
theorem m2_198 : (Cond.methodLink RL 23 yX3_layAny) ∈ TB := tb2 198 rfl rfl
theorem m2_199 : (Cond.instanceMethod yX3_layAny) ∈ TB := tb2 199 rfl rfl
theorem m2_200 : (Cond.selects RX3 yX3_layAny yX3_layAny) ∈ TB := tb2 200 rfl rfl
theorem m2_201 : (Cond.code yX3_layAny cX3_layAny 2 (some .int)) ∈ TB := tb2 201 rfl rfl
theorem m2_203 : (Cond.methodLink RL 73 yL_segment) ∈ TB := tb2 203 rfl rfl
theorem m2_204 : (Cond.static yL_segment) ∈ TB := tb2 204 rfl rfl
theorem m2_205 : (Cond.codeWith yL_segment cL_segment 5 (some .int) [(0, 10, 13, 13)]) ∈ TB := tb2 205 rfl rfl
theorem m2_206 : (Cond.methodLink RL 27 yX3_segment) ∈ TB := tb2 206 rfl rfl
theorem m2_207 : (Cond.instanceMethod yX3_segment) ∈ TB := tb2 207 rfl rfl
theorem m2_208 : (Cond.selects RX3 yX3_segment yX3_segment) ∈ TB := tb2 208 rfl rfl
theorem m2_209 : (Cond.code yX3_segment cX3_segment 3 (some .int)) ∈ TB := tb2 209 rfl rfl
theorem m2_212 : (Cond.methodLink RL 77 yL_level) ∈ TB := tb2 212 rfl rfl
theorem m2_213 : (Cond.static yL_level) ∈ TB := tb2 213 rfl rfl
theorem m2_214 : (Cond.codeWith yL_level cL_level 5 (some .int) [(0, 10, 13, 13)]) ∈ TB := tb2 214 rfl rfl
theorem m2_215 : (Cond.methodLink RL 31 yX3_level) ∈ TB := tb2 215 rfl rfl
theorem m2_216 : (Cond.instanceMethod yX3_level) ∈ TB := tb2 216 rfl rfl
theorem m2_217 : (Cond.selects RX3 yX3_level yX3_level) ∈ TB := tb2 217 rfl rfl
theorem m2_218 : (Cond.code yX3_level cX3_level 3 (some .int)) ∈ TB := tb2 218 rfl rfl
theorem m2_219 : (Cond.methodLink RX3 120 yX3_isTrack) ∈ TB := tb2 219 rfl rfl
theorem m2_221 : (Cond.instanceMethod yX3_isTrack) ∈ TB := tb2 221 rfl rfl
theorem m2_222 : (Cond.code yX3_isTrack cX3_isTrack 2 (some .boolean)) ∈ TB := tb2 222 rfl rfl
theorem m2_225 : (Cond.methodLink RL 80 yL_upright) ∈ TB := tb2 225 rfl rfl
theorem m2_226 : (Cond.static yL_upright) ∈ TB := tb2 226 rfl rfl
theorem m2_227 : (Cond.codeWith yL_upright cL_upright 5 (some .int) [(0, 10, 13, 13)]) ∈ TB := tb2 227 rfl rfl
theorem m2_228 : (Cond.methodLink RL 34 yX3_upright) ∈ TB := tb2 228 rfl rfl
theorem m2_229 : (Cond.instanceMethod yX3_upright) ∈ TB := tb2 229 rfl rfl
theorem m2_230 : (Cond.selects RX3 yX3_upright yX3_upright) ∈ TB := tb2 230 rfl rfl
theorem m2_231 : (Cond.code yX3_upright cX3_upright 3 (some .int)) ∈ TB := tb2 231 rfl rfl
theorem m2_233 : (Cond.methodLink RX3 131 yX3_uprightNet) ∈ TB := tb2 233 rfl rfl
theorem m2_235 : (Cond.instanceMethod yX3_uprightNet) ∈ TB := tb2 235 rfl rfl
theorem m2_236 : (Cond.code yX3_uprightNet cX3_uprightNet 5 (some .int)) ∈ TB := tb2 236 rfl rfl
theorem m2_239 : (Cond.instanceMethod yX1_greatestTrack) ∈ TB := tb2 239 rfl rfl
theorem m3_0 : (Cond.code yX1_greatestTrack cX1_greatestTrack 5 (some .int)) ∈ TB := tb3 0 rfl rfl
theorem m3_1 : (Cond.methodLink RX1 125 yJ9_max_7cf53) ∈ TB := tb3 1 rfl rfl
theorem m3_4 : (Cond.instanceMethod yX1_leastTrack) ∈ TB := tb3 4 rfl rfl
theorem m3_5 : (Cond.code yX1_leastTrack cX1_leastTrack 5 (some .int)) ∈ TB := tb3 5 rfl rfl
theorem m3_6 : (Cond.methodLink RX1 131 yJ9_min_7cf53) ∈ TB := tb3 6 rfl rfl
theorem m3_7 : (Cond.static yJ9_min_7cf53) ∈ TB := tb3 7 rfl rfl
theorem m3_8 : (Cond.code yJ9_min_7cf53 cJ9_min_7cf53 2 (some .int)) ∈ TB := tb3 8 rfl rfl
theorem m3_9 : (Cond.methodLink RL 83 yL_via) ∈ TB := tb3 9 rfl rfl
theorem m3_10 : (Cond.static yL_via) ∈ TB := tb3 10 rfl rfl
theorem m3_11 : (Cond.codeWith yL_via cL_via 5 (some .int) [(0, 17, 20, 13)]) ∈ TB := tb3 11 rfl rfl
theorem m3_12 : (Cond.methodLink RL 37 yX3_via) ∈ TB := tb3 12 rfl rfl
theorem m3_13 : (Cond.instanceMethod yX3_via) ∈ TB := tb3 13 rfl rfl
theorem m3_14 : (Cond.selects RX3 yX3_via yX3_via) ∈ TB := tb3 14 rfl rfl
theorem m3_15 : (Cond.code yX3_via cX3_via 3 (some .boolean)) ∈ TB := tb3 15 rfl rfl
theorem m3_16 : (Cond.methodLink RX3 134 yX3_isVia) ∈ TB := tb3 16 rfl rfl
theorem m3_18 : (Cond.instanceMethod yX3_isVia) ∈ TB := tb3 18 rfl rfl
theorem m3_19 : (Cond.code yX3_isVia cX3_isVia 4 (some .boolean)) ∈ TB := tb3 19 rfl rfl
theorem m3_22 : (Cond.instanceMethod yX1_touchesOn) ∈ TB := tb3 22 rfl rfl
theorem m3_23 : (Cond.code yX1_touchesOn cX1_touchesOn 5 (some .boolean)) ∈ TB := tb3 23 rfl rfl
theorem m3_24 : (Cond.methodLink RL 94 yL_net) ∈ TB := tb3 24 rfl rfl
theorem m3_25 : (Cond.static yL_net) ∈ TB := tb3 25 rfl rfl
theorem m3_26 : (Cond.codeWith yL_net cL_net 5 (some .int) [(0, 10, 13, 13)]) ∈ TB := tb3 26 rfl rfl
theorem m3_27 : (Cond.methodLink RL 41 yX3_net) ∈ TB := tb3 27 rfl rfl
theorem m3_28 : (Cond.instanceMethod yX3_net) ∈ TB := tb3 28 rfl rfl
theorem m3_29 : (Cond.selects RX3 yX3_net yX3_net) ∈ TB := tb3 29 rfl rfl
theorem m3_30 : (Cond.code yX3_net cX3_net 3 (some .int)) ∈ TB := tb3 30 rfl rfl
theorem m3_36 : (Cond.methodLink RL 97 yL_count) ∈ TB := tb3 36 rfl rfl
theorem m3_37 : (Cond.static yL_count) ∈ TB := tb3 37 rfl rfl
theorem m3_38 : (Cond.codeWith yL_count cL_count 4 (some .int) [(0, 9, 12, 13)]) ∈ TB := tb3 38 rfl rfl
theorem m3_39 : (Cond.methodLink RL 44 yX3_count) ∈ TB := tb3 39 rfl rfl
theorem m3_40 : (Cond.instanceMethod yX3_count) ∈ TB := tb3 40 rfl rfl
theorem m3_41 : (Cond.selects RX3 yX3_count yX3_count) ∈ TB := tb3 41 rfl rfl
theorem m3_42 : (Cond.code yX3_count cX3_count 2 (some .int)) ∈ TB := tb3 42 rfl rfl
theorem m3_43 : (Cond.methodLink RX3 169 yX3_countVias) ∈ TB := tb3 43 rfl rfl
theorem m3_45 : (Cond.instanceMethod yX3_countVias) ∈ TB := tb3 45 rfl rfl
theorem m3_46 : (Cond.code yX3_countVias cX3_countVias 4 (some .int)) ∈ TB := tb3 46 rfl rfl
theorem m3_47 : (Cond.classLink RL 49 RX4) ∈ TB := tb3 47 rfl rfl
theorem m3_48 : (Cond.instantiable RX4 23) ∈ TB := tb3 48 rfl rfl
theorem m3_49 : (Cond.methodLink RL 51 yX4_init) ∈ TB := tb3 49 rfl rfl
theorem m3_50 : (Cond.instanceMethod yX4_init) ∈ TB := tb3 50 rfl rfl
theorem m3_51 : (Cond.code yX4_init cX4_init 1 none) ∈ TB := tb3 51 rfl rfl
theorem m3_52 : (Cond.methodLink RX4 1 objectInit) ∈ TB := tb3 52 rfl rfl
theorem m3_53 : (Cond.fieldLink RX4 56 "ChannelRouterModel" "thrown" "I") ∈ TB := tb3 53 rfl rfl
theorem m3_54 : (Cond.fieldLink RX4 7 "ChannelRouterModel" "pins" "[I") ∈ TB := tb3 54 rfl rfl
theorem m3_55 : (Cond.fieldLink RX4 90 "ChannelRouterModel" "many" "I") ∈ TB := tb3 55 rfl rfl
theorem m3_56 : (Cond.fieldLink RX4 13 "ChannelRouterModel" "nets" "[I") ∈ TB := tb3 56 rfl rfl
theorem m3_57 : (Cond.fieldLink RX4 16 "ChannelRouterModel" "lefts" "[I") ∈ TB := tb3 57 rfl rfl
theorem m3_58 : (Cond.fieldLink RX4 19 "ChannelRouterModel" "rights" "[I") ∈ TB := tb3 58 rfl rfl
theorem m3_59 : (Cond.fieldLink RX4 22 "ChannelRouterModel" "touches" "[I") ∈ TB := tb3 59 rfl rfl
theorem m3_60 : (Cond.fieldLink RX4 25 "ChannelRouterModel" "below" "[J") ∈ TB := tb3 60 rfl rfl
theorem m3_61 : (Cond.fieldLink RX4 29 "ChannelRouterModel" "reach" "[J") ∈ TB := tb3 61 rfl rfl
theorem m3_62 : (Cond.fieldLink RX4 32 "ChannelRouterModel" "tracksOf" "[I") ∈ TB := tb3 62 rfl rfl
theorem m3_63 : (Cond.fieldLink RX4 35 "ChannelRouterModel" "steps" "[I") ∈ TB := tb3 63 rfl rfl
theorem m3_64 : (Cond.fieldLink RX4 64 "ChannelRouterModel" "laid" "Z") ∈ TB := tb3 64 rfl rfl
theorem m3_65 : (Cond.fieldLink RX4 68 "ChannelRouterModel" "laidMany" "I") ∈ TB := tb3 65 rfl rfl
theorem m3_66 : (Cond.fieldLink RX4 71 "ChannelRouterModel" "tracks" "I") ∈ TB := tb3 66 rfl rfl
theorem m3_67 : (Cond.fieldLink RX4 38 "ChannelRouterModel" "laidNet" "[I") ∈ TB := tb3 67 rfl rfl
theorem m3_68 : (Cond.fieldLink RX4 41 "ChannelRouterModel" "laidLeft" "[I") ∈ TB := tb3 68 rfl rfl
theorem m3_69 : (Cond.fieldLink RX4 44 "ChannelRouterModel" "laidRight" "[I") ∈ TB := tb3 69 rfl rfl
theorem m3_70 : (Cond.fieldLink RX4 47 "ChannelRouterModel" "laidTouch" "[I") ∈ TB := tb3 70 rfl rfl
theorem m3_71 : (Cond.fieldLink RX4 50 "ChannelRouterModel" "laidTrack" "[I") ∈ TB := tb3 71 rfl rfl
theorem m3_72 : (Cond.fieldLink RX4 112 "ChannelRouterModel" "ringSize" "I") ∈ TB := tb3 72 rfl rfl
theorem m3_73 : (Cond.fieldLink RX4 53 "ChannelRouterModel" "ringOf" "[I") ∈ TB := tb3 73 rfl rfl
theorem m3_74 : (Cond.fieldLink RX4 127 "ChannelRouterModel" "lays" "I") ∈ TB := tb3 74 rfl rfl
theorem m3_75 : (Cond.fieldLink RX4 136 "ChannelRouterModel" "refusals" "I") ∈ TB := tb3 75 rfl rfl
theorem m3_123 : (Cond.methodLink RL 58 yX4_thrown) ∈ TB := tb3 123 rfl rfl
theorem m3_124 : (Cond.instanceMethod yX4_thrown) ∈ TB := tb3 124 rfl rfl
theorem m3_125 : (Cond.selects RX4 yX4_thrown yX4_thrown) ∈ TB := tb3 125 rfl rfl
theorem m3_126 : (Cond.code yX4_thrown cX4_thrown 1 (some .int)) ∈ TB := tb3 126 rfl rfl
theorem m3_127 : (Cond.methodLink RL 57 yX4_pin) ∈ TB := tb3 127 rfl rfl
theorem m3_128 : (Cond.instanceMethod yX4_pin) ∈ TB := tb3 128 rfl rfl
theorem m3_129 : (Cond.selects RX4 yX4_pin yX4_pin) ∈ TB := tb3 129 rfl rfl
theorem m3_130 : (Cond.code yX4_pin cX4_pin 6 (some .int)) ∈ TB := tb3 130 rfl rfl
theorem m3_131 : (Cond.methodLink RX4 60 yX4_in) ∈ TB := tb3 131 rfl rfl
theorem m3_132 : (Cond.static yX4_in) ∈ TB := tb3 132 rfl rfl
theorem m3_133 : (Cond.code yX4_in cX4_in 3 (some .boolean)) ∈ TB := tb3 133 rfl rfl
theorem m3_134 : (Cond.methodLink RL 64 yX4_lay) ∈ TB := tb3 134 rfl rfl
theorem m3_135 : (Cond.instanceMethod yX4_lay) ∈ TB := tb3 135 rfl rfl
theorem m3_136 : (Cond.selects RX4 yX4_lay yX4_lay) ∈ TB := tb3 136 rfl rfl
theorem m3_137 : (Cond.code yX4_lay cX4_lay 3 (some .int)) ∈ TB := tb3 137 rfl rfl
theorem m3_138 : (Cond.methodLink RX4 139 yX4_anySingle) ∈ TB := tb3 138 rfl rfl
theorem m3_140 : (Cond.instanceMethod yX4_anySingle) ∈ TB := tb3 140 rfl rfl
theorem m3_141 : (Cond.code yX4_anySingle cX4_anySingle 3 (some .boolean)) ∈ TB := tb3 141 rfl rfl
theorem m3_142 : (Cond.methodLink RX4 87 yX4_sort) ∈ TB := tb3 142 rfl rfl
theorem m3_144 : (Cond.instanceMethod yX4_sort) ∈ TB := tb3 144 rfl rfl
theorem m3_145 : (Cond.code yX4_sort cX4_sort 4 (some .int)) ∈ TB := tb3 145 rfl rfl
theorem m3_146 : (Cond.methodLink RX4 74 yX4_pinsOf) ∈ TB := tb3 146 rfl rfl
theorem m3_148 : (Cond.instanceMethod yX4_pinsOf) ∈ TB := tb3 148 rfl rfl
theorem m3_149 : (Cond.code yX4_pinsOf cX4_pinsOf 4 (some .int)) ∈ TB := tb3 149 rfl rfl
theorem m3_150 : (Cond.methodLink RX4 78 yX4_columns) ∈ TB := tb3 150 rfl rfl
theorem m3_152 : (Cond.instanceMethod yX4_columns) ∈ TB := tb3 152 rfl rfl
theorem m3_153 : (Cond.code yX4_columns cX4_columns 4 (some .int)) ∈ TB := tb3 153 rfl rfl
theorem m3_154 : (Cond.methodLink RX4 81 yX4_lowest) ∈ TB := tb3 154 rfl rfl
theorem m3_155 : (Cond.static yX4_lowest) ∈ TB := tb3 155 rfl rfl
theorem m3_156 : (Cond.code yX4_lowest cX4_lowest 2 (some .int)) ∈ TB := tb3 156 rfl rfl
theorem m3_157 : (Cond.methodLink RX4 84 yX4_highest) ∈ TB := tb3 157 rfl rfl
theorem m3_158 : (Cond.static yX4_highest) ∈ TB := tb3 158 rfl rfl
theorem m3_159 : (Cond.code yX4_highest cX4_highest 2 (some .int)) ∈ TB := tb3 159 rfl rfl
theorem m3_160 : (Cond.methodLink RX4 143 yX4_fail) ∈ TB := tb3 160 rfl rfl
theorem m3_162 : (Cond.instanceMethod yX4_fail) ∈ TB := tb3 162 rfl rfl
theorem m3_163 : (Cond.code yX4_fail cX4_fail 2 (some .int)) ∈ TB := tb3 163 rfl rfl
theorem m3_164 : (Cond.methodLink RX4 146 yX4_study) ∈ TB := tb3 164 rfl rfl
theorem m3_166 : (Cond.instanceMethod yX4_study) ∈ TB := tb3 166 rfl rfl
theorem m3_167 : (Cond.code yX4_study cX4_study 9 (some .int)) ∈ TB := tb3 167 rfl rfl
theorem m3_168 : (Cond.methodLink RX4 97 yX4_makeSegments) ∈ TB := tb3 168 rfl rfl
theorem m3_170 : (Cond.instanceMethod yX4_makeSegments) ∈ TB := tb3 170 rfl rfl
theorem m3_171 : (Cond.code yX4_makeSegments cX4_makeSegments 6 none) ∈ TB := tb3 171 rfl rfl
theorem m3_172 : (Cond.methodLink RX4 93 yX4_segmentOf) ∈ TB := tb3 172 rfl rfl
theorem m3_174 : (Cond.instanceMethod yX4_segmentOf) ∈ TB := tb3 174 rfl rfl
theorem m3_175 : (Cond.code yX4_segmentOf cX4_segmentOf 5 none) ∈ TB := tb3 175 rfl rfl
theorem m3_176 : (Cond.methodLink RX4 101 yX4_touching) ∈ TB := tb3 176 rfl rfl
theorem m3_178 : (Cond.instanceMethod yX4_touching) ∈ TB := tb3 178 rfl rfl
theorem m3_179 : (Cond.code yX4_touching cX4_touching 4 (some .boolean)) ∈ TB := tb3 179 rfl rfl
theorem m3_180 : (Cond.methodLink RX4 150 yX4_noRing) ∈ TB := tb3 180 rfl rfl
theorem m3_182 : (Cond.instanceMethod yX4_noRing) ∈ TB := tb3 182 rfl rfl
theorem m3_183 : (Cond.code yX4_noRing cX4_noRing 2 (some .boolean)) ∈ TB := tb3 183 rfl rfl
theorem m3_184 : (Cond.methodLink RX4 130 yX4_inRing) ∈ TB := tb3 184 rfl rfl
theorem m3_186 : (Cond.instanceMethod yX4_inRing) ∈ TB := tb3 186 rfl rfl
theorem m3_187 : (Cond.code yX4_inRing cX4_inRing 3 (some .int)) ∈ TB := tb3 187 rfl rfl
theorem m3_188 : (Cond.methodLink RX4 104 yX4_has) ∈ TB := tb3 188 rfl rfl
theorem m3_189 : (Cond.static yX4_has) ∈ TB := tb3 189 rfl rfl
theorem m3_190 : (Cond.code yX4_has cX4_has 3 (some .boolean)) ∈ TB := tb3 190 rfl rfl
theorem m3_191 : (Cond.methodLink RX4 133 yX4_tellRing) ∈ TB := tb3 191 rfl rfl
theorem m3_193 : (Cond.instanceMethod yX4_tellRing) ∈ TB := tb3 193 rfl rfl
theorem m3_194 : (Cond.code yX4_tellRing cX4_tellRing 7 none) ∈ TB := tb3 194 rfl rfl
theorem m3_195 : (Cond.methodLink RX4 108 yX4_countSteps) ∈ TB := tb3 195 rfl rfl
theorem m3_197 : (Cond.instanceMethod yX4_countSteps) ∈ TB := tb3 197 rfl rfl
theorem m3_198 : (Cond.code yX4_countSteps cX4_countSteps 6 none) ∈ TB := tb3 198 rfl rfl
theorem m3_199 : (Cond.methodLink RX4 153 yX4_layNow) ∈ TB := tb3 199 rfl rfl
theorem m3_201 : (Cond.instanceMethod yX4_layNow) ∈ TB := tb3 201 rfl rfl
theorem m3_202 : (Cond.code yX4_layNow cX4_layNow 2 (some .int)) ∈ TB := tb3 202 rfl rfl
theorem m3_203 : (Cond.methodLink RX4 123 yX4_fill) ∈ TB := tb3 203 rfl rfl
theorem m3_205 : (Cond.instanceMethod yX4_fill) ∈ TB := tb3 205 rfl rfl
theorem m3_206 : (Cond.code yX4_fill cX4_fill 5 (some .int)) ∈ TB := tb3 206 rfl rfl
theorem m3_207 : (Cond.methodLink RX4 119 yX4_nextFor) ∈ TB := tb3 207 rfl rfl
theorem m3_209 : (Cond.instanceMethod yX4_nextFor) ∈ TB := tb3 209 rfl rfl
theorem m3_210 : (Cond.code yX4_nextFor cX4_nextFor 9 (some .int)) ∈ TB := tb3 210 rfl rfl
theorem m3_211 : (Cond.methodLink RX4 115 yX4_free) ∈ TB := tb3 211 rfl rfl
theorem m3_213 : (Cond.instanceMethod yX4_free) ∈ TB := tb3 213 rfl rfl
theorem m3_214 : (Cond.code yX4_free cX4_free 5 (some .boolean)) ∈ TB := tb3 214 rfl rfl
theorem m3_215 : (Cond.methodLink RL 68 yX4_layAny) ∈ TB := tb3 215 rfl rfl
theorem m3_216 : (Cond.instanceMethod yX4_layAny) ∈ TB := tb3 216 rfl rfl
theorem m3_217 : (Cond.selects RX4 yX4_layAny yX4_layAny) ∈ TB := tb3 217 rfl rfl
theorem m3_218 : (Cond.code yX4_layAny cX4_layAny 2 (some .int)) ∈ TB := tb3 218 rfl rfl
theorem m3_219 : (Cond.methodLink RL 72 yX4_ring) ∈ TB := tb3 219 rfl rfl
theorem m3_220 : (Cond.instanceMethod yX4_ring) ∈ TB := tb3 220 rfl rfl
theorem m3_221 : (Cond.selects RX4 yX4_ring yX4_ring) ∈ TB := tb3 221 rfl rfl
theorem m3_222 : (Cond.code yX4_ring cX4_ring 2 (some .int)) ∈ TB := tb3 222 rfl rfl
theorem m3_223 : (Cond.methodLink RL 76 yX4_segment) ∈ TB := tb3 223 rfl rfl
theorem m3_224 : (Cond.instanceMethod yX4_segment) ∈ TB := tb3 224 rfl rfl
theorem m3_225 : (Cond.selects RX4 yX4_segment yX4_segment) ∈ TB := tb3 225 rfl rfl
theorem m3_226 : (Cond.code yX4_segment cX4_segment 3 (some .int)) ∈ TB := tb3 226 rfl rfl
theorem m3_227 : (Cond.methodLink RL 79 yX4_level) ∈ TB := tb3 227 rfl rfl
theorem m3_228 : (Cond.instanceMethod yX4_level) ∈ TB := tb3 228 rfl rfl
theorem m3_229 : (Cond.selects RX4 yX4_level yX4_level) ∈ TB := tb3 229 rfl rfl
theorem m3_230 : (Cond.code yX4_level cX4_level 3 (some .int)) ∈ TB := tb3 230 rfl rfl
theorem m3_231 : (Cond.methodLink RX4 156 yX4_out) ∈ TB := tb3 231 rfl rfl
theorem m3_233 : (Cond.instanceMethod yX4_out) ∈ TB := tb3 233 rfl rfl
theorem m3_234 : (Cond.code yX4_out cX4_out 2 (some .boolean)) ∈ TB := tb3 234 rfl rfl
theorem m3_235 : (Cond.methodLink RX4 160 yX4_levelAt) ∈ TB := tb3 235 rfl rfl
theorem m3_237 : (Cond.instanceMethod yX4_levelAt) ∈ TB := tb3 237 rfl rfl
theorem m3_238 : (Cond.code yX4_levelAt cX4_levelAt 5 (some .int)) ∈ TB := tb3 238 rfl rfl
theorem m3_239 : (Cond.methodLink RL 82 yX4_upright) ∈ TB := tb3 239 rfl rfl
theorem m4_0 : (Cond.instanceMethod yX4_upright) ∈ TB := tb4 0 rfl rfl
theorem m4_1 : (Cond.selects RX4 yX4_upright yX4_upright) ∈ TB := tb4 1 rfl rfl
theorem m4_2 : (Cond.code yX4_upright cX4_upright 3 (some .int)) ∈ TB := tb4 2 rfl rfl
theorem m4_3 : (Cond.methodLink RX4 167 yX4_uprightAt) ∈ TB := tb4 3 rfl rfl
theorem m4_5 : (Cond.instanceMethod yX4_uprightAt) ∈ TB := tb4 5 rfl rfl
theorem m4_6 : (Cond.code yX4_uprightAt cX4_uprightAt 8 (some .int)) ∈ TB := tb4 6 rfl rfl
theorem m4_7 : (Cond.methodLink RX4 164 yX4_lies) ∈ TB := tb4 7 rfl rfl
theorem m4_9 : (Cond.instanceMethod yX4_lies) ∈ TB := tb4 9 rfl rfl
theorem m4_10 : (Cond.code yX4_lies cX4_lies 6 (some .boolean)) ∈ TB := tb4 10 rfl rfl
theorem m4_11 : (Cond.methodLink RL 85 yX4_via) ∈ TB := tb4 11 rfl rfl
theorem m4_12 : (Cond.instanceMethod yX4_via) ∈ TB := tb4 12 rfl rfl
theorem m4_13 : (Cond.selects RX4 yX4_via yX4_via) ∈ TB := tb4 13 rfl rfl
theorem m4_14 : (Cond.code yX4_via cX4_via 3 (some .boolean)) ∈ TB := tb4 14 rfl rfl
theorem m4_15 : (Cond.methodLink RX4 170 yX4_viaAt) ∈ TB := tb4 15 rfl rfl
theorem m4_17 : (Cond.instanceMethod yX4_viaAt) ∈ TB := tb4 17 rfl rfl
theorem m4_18 : (Cond.code yX4_viaAt cX4_viaAt 4 (some .boolean)) ∈ TB := tb4 18 rfl rfl
theorem m4_19 : (Cond.methodLink RL 89 yX4_density) ∈ TB := tb4 19 rfl rfl
theorem m4_20 : (Cond.instanceMethod yX4_density) ∈ TB := tb4 20 rfl rfl
theorem m4_21 : (Cond.selects RX4 yX4_density yX4_density) ∈ TB := tb4 21 rfl rfl
theorem m4_22 : (Cond.code yX4_density cX4_density 6 (some .int)) ∈ TB := tb4 22 rfl rfl
theorem m4_23 : (Cond.methodLink RL 93 yX4_pairs) ∈ TB := tb4 23 rfl rfl
theorem m4_24 : (Cond.instanceMethod yX4_pairs) ∈ TB := tb4 24 rfl rfl
theorem m4_25 : (Cond.selects RX4 yX4_pairs yX4_pairs) ∈ TB := tb4 25 rfl rfl
theorem m4_26 : (Cond.code yX4_pairs cX4_pairs 2 (some .int)) ∈ TB := tb4 26 rfl rfl
theorem m4_27 : (Cond.methodLink RL 96 yX4_net) ∈ TB := tb4 27 rfl rfl
theorem m4_28 : (Cond.instanceMethod yX4_net) ∈ TB := tb4 28 rfl rfl
theorem m4_29 : (Cond.selects RX4 yX4_net yX4_net) ∈ TB := tb4 29 rfl rfl
theorem m4_30 : (Cond.code yX4_net cX4_net 4 (some .int)) ∈ TB := tb4 30 rfl rfl
theorem m4_31 : (Cond.methodLink RL 100 yX4_count) ∈ TB := tb4 31 rfl rfl
theorem m4_32 : (Cond.instanceMethod yX4_count) ∈ TB := tb4 32 rfl rfl
theorem m4_33 : (Cond.selects RX4 yX4_count yX4_count) ∈ TB := tb4 33 rfl rfl
theorem m4_34 : (Cond.code yX4_count cX4_count 2 (some .int)) ∈ TB := tb4 34 rfl rfl
theorem m4_35 : (Cond.methodLink RX4 173 yX4_vias) ∈ TB := tb4 35 rfl rfl
theorem m4_37 : (Cond.instanceMethod yX4_vias) ∈ TB := tb4 37 rfl rfl
theorem m4_38 : (Cond.code yX4_vias cX4_vias 4 (some .int)) ∈ TB := tb4 38 rfl rfl
theorem m4_39 : (Cond.methodLink RL 105 yX4_used) ∈ TB := tb4 39 rfl rfl
theorem m4_40 : (Cond.instanceMethod yX4_used) ∈ TB := tb4 40 rfl rfl
theorem m4_41 : (Cond.selects RX4 yX4_used yX4_used) ∈ TB := tb4 41 rfl rfl
theorem m4_42 : (Cond.code yX4_used cX4_used 4 (some .float)) ∈ TB := tb4 42 rfl rfl
theorem ms1_0 : (Cond.selects RX2 yX2_toldAt yX2_toldAt) ∈ TB := tbs1 (q := (yX2_toldAt, 4)) 0 rfl
theorem ms1_1 : (Cond.selects RX0 yX0_longNetsAt yX0_longNetsAt) ∈ TB := tbs1 (q := (yX0_longNetsAt, 2)) 1 rfl
theorem ms1_2 : (Cond.selects RX0 yX0_isLong yX0_isLong) ∈ TB := tbs1 (q := (yX0_isLong, 2)) 2 rfl
theorem ms1_3 : (Cond.selects RX0 yX0_kindOf yX0_kindOf) ∈ TB := tbs1 (q := (yX0_kindOf, 2)) 3 rfl
theorem ms1_4 : (Cond.selects RX0 yX0_pinsOf yX0_pinsOf) ∈ TB := tbs1 (q := (yX0_pinsOf, 2)) 4 rfl
theorem ms1_5 : (Cond.selects RX0 yX0_firstColumn yX0_firstColumn) ∈ TB := tbs1 (q := (yX0_firstColumn, 2)) 5 rfl
theorem ms1_6 : (Cond.selects RX0 yX0_has yX0_has) ∈ TB := tbs1 (q := (yX0_has, 2)) 6 rfl
theorem ms1_7 : (Cond.selects RX0 yX0_lastColumn yX0_lastColumn) ∈ TB := tbs1 (q := (yX0_lastColumn, 2)) 7 rfl
theorem ms1_8 : (Cond.selects RX1 yX1_draw yX1_draw) ∈ TB := tbs1 (q := (yX1_draw, 9)) 8 rfl
theorem ms1_9 : (Cond.selects RX1 yX1_clear yX1_clear) ∈ TB := tbs1 (q := (yX1_clear, 9)) 9 rfl
theorem ms1_10 : (Cond.selects RX1 yX1_addPieces yX1_addPieces) ∈ TB := tbs1 (q := (yX1_addPieces, 9)) 10 rfl
theorem ms1_11 : (Cond.selects RX1 yX1_add yX1_add) ∈ TB := tbs1 (q := (yX1_add, 9)) 11 rfl
theorem ms1_12 : (Cond.selects RX1 yX1_addWhole yX1_addWhole) ∈ TB := tbs1 (q := (yX1_addWhole, 9)) 12 rfl
theorem ms1_13 : (Cond.selects RX1 yX1_findBelow yX1_findBelow) ∈ TB := tbs1 (q := (yX1_findBelow, 9)) 13 rfl
theorem ms1_14 : (Cond.selects RX1 yX1_touching yX1_touching) ∈ TB := tbs1 (q := (yX1_touching, 9)) 14 rfl
theorem ms1_15 : (Cond.selects RX1 yX1_touches yX1_touches) ∈ TB := tbs1 (q := (yX1_touches, 9)) 15 rfl
theorem ms2_0 : (Cond.selects RX1 yX1_addBelow yX1_addBelow) ∈ TB := tbs2 (q := (yX1_addBelow, 9)) 0 rfl
theorem ms2_1 : (Cond.selects RX1 yX1_countPairs yX1_countPairs) ∈ TB := tbs2 (q := (yX1_countPairs, 9)) 1 rfl
theorem ms2_2 : (Cond.selects RX1 yX1_countPoints yX1_countPoints) ∈ TB := tbs2 (q := (yX1_countPoints, 9)) 2 rfl
theorem ms2_3 : (Cond.selects RX1 yX1_netOn yX1_netOn) ∈ TB := tbs2 (q := (yX1_netOn, 9)) 3 rfl
theorem ms2_4 : (Cond.selects "java/lang/Throwable" ⟨"java/lang/Throwable", "fillInStackTrace", "(I)Ljava/lang/Throwable;"⟩ ⟨"java/lang/Throwable", "fillInStackTrace", "(I)Ljava/lang/Throwable;"⟩) ∈ TB := tbs2 (q := (⟨"java/lang/Throwable", "fillInStackTrace", "(I)Ljava/lang/Throwable;"⟩, 6)) 4 rfl
theorem ms2_5 : (Cond.selects RX0 yX0_put yX0_put) ∈ TB := tbs2 (q := (yX0_put, 2)) 5 rfl
theorem ms2_6 : (Cond.selects RX0 yX0_anySingle yX0_anySingle) ∈ TB := tbs2 (q := (yX0_anySingle, 2)) 6 rfl
theorem ms2_7 : (Cond.selects RX3 yX3_draftHasRing yX3_draftHasRing) ∈ TB := tbs2 (q := (yX3_draftHasRing, 7)) 7 rfl
theorem ms2_8 : (Cond.selects RX2 yX2_lowestInRing yX2_lowestInRing) ∈ TB := tbs2 (q := (yX2_lowestInRing, 4)) 8 rfl
theorem ms2_9 : (Cond.selects RX2 yX2_findReach yX2_findReach) ∈ TB := tbs2 (q := (yX2_findReach, 4)) 9 rfl
theorem ms2_10 : (Cond.selects RX3 yX3_tellRingOfDraft yX3_tellRingOfDraft) ∈ TB := tbs2 (q := (yX3_tellRingOfDraft, 7)) 10 rfl
theorem ms2_11 : (Cond.selects RX2 yX2_tell yX2_tell) ∈ TB := tbs2 (q := (yX2_tell, 4)) 11 rfl
theorem ms2_12 : (Cond.selects RX2 yX2_countStepsTo yX2_countStepsTo) ∈ TB := tbs2 (q := (yX2_countStepsTo, 4)) 12 rfl
theorem ms2_13 : (Cond.selects RX2 yX2_nearestBelow yX2_nearestBelow) ∈ TB := tbs2 (q := (yX2_nearestBelow, 4)) 13 rfl
theorem ms2_14 : (Cond.selects RX3 yX3_keepDraft yX3_keepDraft) ∈ TB := tbs2 (q := (yX3_keepDraft, 7)) 14 rfl
theorem ms2_15 : (Cond.selects RX1 yX1_fillTracks yX1_fillTracks) ∈ TB := tbs2 (q := (yX1_fillTracks, 9)) 15 rfl
theorem ms3_0 : (Cond.selects RX1 yX1_sortByLeft yX1_sortByLeft) ∈ TB := tbs3 (q := (yX1_sortByLeft, 9)) 0 rfl
theorem ms3_1 : (Cond.selects RX1 yX1_belowAnyOf yX1_belowAnyOf) ∈ TB := tbs3 (q := (yX1_belowAnyOf, 9)) 1 rfl
theorem ms3_2 : (Cond.selects RX1 yX1_fillTrack yX1_fillTrack) ∈ TB := tbs3 (q := (yX1_fillTrack, 9)) 2 rfl
theorem ms3_3 : (Cond.selects RX1 yX1_fitsBehind yX1_fitsBehind) ∈ TB := tbs3 (q := (yX1_fitsBehind, 9)) 3 rfl
theorem ms3_4 : (Cond.selects RX3 yX3_isTrack yX3_isTrack) ∈ TB := tbs3 (q := (yX3_isTrack, 7)) 4 rfl
theorem ms3_5 : (Cond.selects RX3 yX3_uprightNet yX3_uprightNet) ∈ TB := tbs3 (q := (yX3_uprightNet, 7)) 5 rfl
theorem ms3_6 : (Cond.selects RX1 yX1_greatestTrack yX1_greatestTrack) ∈ TB := tbs3 (q := (yX1_greatestTrack, 9)) 6 rfl
theorem ms3_7 : (Cond.selects RX1 yX1_leastTrack yX1_leastTrack) ∈ TB := tbs3 (q := (yX1_leastTrack, 9)) 7 rfl
theorem ms3_8 : (Cond.selects RX3 yX3_isVia yX3_isVia) ∈ TB := tbs3 (q := (yX3_isVia, 7)) 8 rfl
theorem ms3_9 : (Cond.selects RX1 yX1_touchesOn yX1_touchesOn) ∈ TB := tbs3 (q := (yX1_touchesOn, 9)) 9 rfl
theorem ms3_10 : (Cond.selects RX3 yX3_countVias yX3_countVias) ∈ TB := tbs3 (q := (yX3_countVias, 7)) 10 rfl
theorem ms3_11 : (Cond.selects RX4 yX4_anySingle yX4_anySingle) ∈ TB := tbs3 (q := (yX4_anySingle, 23)) 11 rfl
theorem ms3_12 : (Cond.selects RX4 yX4_sort yX4_sort) ∈ TB := tbs3 (q := (yX4_sort, 23)) 12 rfl
theorem ms3_13 : (Cond.selects RX4 yX4_pinsOf yX4_pinsOf) ∈ TB := tbs3 (q := (yX4_pinsOf, 23)) 13 rfl
theorem ms3_14 : (Cond.selects RX4 yX4_columns yX4_columns) ∈ TB := tbs3 (q := (yX4_columns, 23)) 14 rfl
theorem ms3_15 : (Cond.selects RX4 yX4_fail yX4_fail) ∈ TB := tbs3 (q := (yX4_fail, 23)) 15 rfl
theorem ms4_0 : (Cond.selects RX4 yX4_study yX4_study) ∈ TB := tbs4 (q := (yX4_study, 23)) 0 rfl
theorem ms4_1 : (Cond.selects RX4 yX4_makeSegments yX4_makeSegments) ∈ TB := tbs4 (q := (yX4_makeSegments, 23)) 1 rfl
theorem ms4_2 : (Cond.selects RX4 yX4_segmentOf yX4_segmentOf) ∈ TB := tbs4 (q := (yX4_segmentOf, 23)) 2 rfl
theorem ms4_3 : (Cond.selects RX4 yX4_touching yX4_touching) ∈ TB := tbs4 (q := (yX4_touching, 23)) 3 rfl
theorem ms4_4 : (Cond.selects RX4 yX4_noRing yX4_noRing) ∈ TB := tbs4 (q := (yX4_noRing, 23)) 4 rfl
theorem ms4_5 : (Cond.selects RX4 yX4_inRing yX4_inRing) ∈ TB := tbs4 (q := (yX4_inRing, 23)) 5 rfl
theorem ms4_6 : (Cond.selects RX4 yX4_tellRing yX4_tellRing) ∈ TB := tbs4 (q := (yX4_tellRing, 23)) 6 rfl
theorem ms4_7 : (Cond.selects RX4 yX4_countSteps yX4_countSteps) ∈ TB := tbs4 (q := (yX4_countSteps, 23)) 7 rfl
theorem ms4_8 : (Cond.selects RX4 yX4_layNow yX4_layNow) ∈ TB := tbs4 (q := (yX4_layNow, 23)) 8 rfl
theorem ms4_9 : (Cond.selects RX4 yX4_fill yX4_fill) ∈ TB := tbs4 (q := (yX4_fill, 23)) 9 rfl
theorem ms4_10 : (Cond.selects RX4 yX4_nextFor yX4_nextFor) ∈ TB := tbs4 (q := (yX4_nextFor, 23)) 10 rfl
theorem ms4_11 : (Cond.selects RX4 yX4_free yX4_free) ∈ TB := tbs4 (q := (yX4_free, 23)) 11 rfl
theorem ms4_12 : (Cond.selects RX4 yX4_out yX4_out) ∈ TB := tbs4 (q := (yX4_out, 23)) 12 rfl
theorem ms4_13 : (Cond.selects RX4 yX4_levelAt yX4_levelAt) ∈ TB := tbs4 (q := (yX4_levelAt, 23)) 13 rfl
theorem ms4_14 : (Cond.selects RX4 yX4_uprightAt yX4_uprightAt) ∈ TB := tbs4 (q := (yX4_uprightAt, 23)) 14 rfl
theorem ms4_15 : (Cond.selects RX4 yX4_lies yX4_lies) ∈ TB := tbs4 (q := (yX4_lies, 23)) 15 rfl
theorem ms5_0 : (Cond.selects RX4 yX4_viaAt yX4_viaAt) ∈ TB := tbs5 (q := (yX4_viaAt, 23)) 0 rfl
theorem ms5_1 : (Cond.selects RX4 yX4_vias yX4_vias) ∈ TB := tbs5 (q := (yX4_vias, 23)) 1 rfl
def NWL : List Cond := [.methodLinkNest RX3 11 yX0_init RX3, .fieldLinkNest RX1 82 "ChannelRouter$Pins" "top" "[I" RX3, .fieldLinkNest RX3 186 "ChannelRouter$Pins" "top" "[I" RX3, .fieldLinkNest RX1 85 "ChannelRouter$Pins" "bottom" "[I" RX3, .fieldLinkNest RX3 189 "ChannelRouter$Pins" "bottom" "[I" RX3, .methodLinkNest RX3 18 yX2_init RX3, .methodLinkNest RX3 25 yX1_init RX3, .fieldLinkNest RX3 105 "ChannelRouter$Plan" "netOf" "[I" RX3, .fieldLinkNest RX3 109 "ChannelRouter$Plan" "left" "[I" RX3, .fieldLinkNest RX3 112 "ChannelRouter$Plan" "right" "[I" RX3, .fieldLinkNest RX3 115 "ChannelRouter$Plan" "trackOf" "[I" RX3, .fieldLinkNest RX2 39 "ChannelRouter$Plan" "below" "[J" RX3, .fieldLinkNest RX2 30 "ChannelRouter$Plan" "size" "I" RX3, .fieldLinkNest RX3 100 "ChannelRouter$Plan" "size" "I" RX3, .fieldLinkNest RX3 91 "ChannelRouter$Plan" "tracks" "I" RX3, .methodLinkNest RX3 96 yX2_toldAt RX3, .methodLinkNest RX3 138 yX0_longNetsAt RX3, .methodLinkNest RX3 146 yX1_draw RX3, .methodLinkNest RX1 44 yX0_isLong RX3, .methodLinkNest RX1 61 yX0_has RX3, .methodLinkNest RX1 65 yX0_firstColumn RX3, .methodLinkNest RX1 69 yX0_lastColumn RX3, .methodLinkNest RX3 150 yX1_countPairs RX3, .methodLinkNest RX3 172 yX1_countPoints RX3, .methodLinkNest RX3 63 yX1_clear RX3, .methodLinkNest RX3 66 yX0_put RX3, .methodLinkNest RX3 70 yX0_anySingle RX3, .methodLinkNest RX3 175 yX2_lowestInRing RX3, .methodLinkNest RX2 35 yX1_isIn RX3, .methodLinkNest RX3 179 yX2_tell RX3, .methodLinkNest RX3 183 yX1_fillTracks RX3, .methodLinkNest RX3 125 yX1_netOn RX3, .methodLinkNest RX3 192 yX1_greatestTrack RX3, .methodLinkNest RX3 195 yX1_leastTrack RX3, .methodLinkNest RX3 198 yX1_touchesOn RX3, .methodLinkNest RX3 154 yX0_isLong RX3, .methodLinkNest RX3 157 yX0_firstColumn RX3, .methodLinkNest RX3 160 yX0_lastColumn RX3, .methodLinkNest RX3 163 yX0_pinsOf RX3, .methodLinkNest RX3 166 yX0_kindOf RX3]
theorem nw_0 : (Cond.methodLinkNest RX3 11 yX0_init RX3) ∈ NWL := List.mem_of_getElem? (i := 0) rfl
theorem nw_1 : (Cond.fieldLinkNest RX1 82 "ChannelRouter$Pins" "top" "[I" RX3) ∈ NWL := List.mem_of_getElem? (i := 1) rfl
theorem nw_2 : (Cond.fieldLinkNest RX3 186 "ChannelRouter$Pins" "top" "[I" RX3) ∈ NWL := List.mem_of_getElem? (i := 2) rfl
theorem nw_3 : (Cond.fieldLinkNest RX1 85 "ChannelRouter$Pins" "bottom" "[I" RX3) ∈ NWL := List.mem_of_getElem? (i := 3) rfl
theorem nw_4 : (Cond.fieldLinkNest RX3 189 "ChannelRouter$Pins" "bottom" "[I" RX3) ∈ NWL := List.mem_of_getElem? (i := 4) rfl
theorem nw_5 : (Cond.methodLinkNest RX3 18 yX2_init RX3) ∈ NWL := List.mem_of_getElem? (i := 5) rfl
theorem nw_6 : (Cond.methodLinkNest RX3 25 yX1_init RX3) ∈ NWL := List.mem_of_getElem? (i := 6) rfl
theorem nw_7 : (Cond.fieldLinkNest RX3 105 "ChannelRouter$Plan" "netOf" "[I" RX3) ∈ NWL := List.mem_of_getElem? (i := 7) rfl
theorem nw_8 : (Cond.fieldLinkNest RX3 109 "ChannelRouter$Plan" "left" "[I" RX3) ∈ NWL := List.mem_of_getElem? (i := 8) rfl
theorem nw_9 : (Cond.fieldLinkNest RX3 112 "ChannelRouter$Plan" "right" "[I" RX3) ∈ NWL := List.mem_of_getElem? (i := 9) rfl
theorem nw_10 : (Cond.fieldLinkNest RX3 115 "ChannelRouter$Plan" "trackOf" "[I" RX3) ∈ NWL := List.mem_of_getElem? (i := 10) rfl
theorem nw_11 : (Cond.fieldLinkNest RX2 39 "ChannelRouter$Plan" "below" "[J" RX3) ∈ NWL := List.mem_of_getElem? (i := 11) rfl
theorem nw_12 : (Cond.fieldLinkNest RX2 30 "ChannelRouter$Plan" "size" "I" RX3) ∈ NWL := List.mem_of_getElem? (i := 12) rfl
theorem nw_13 : (Cond.fieldLinkNest RX3 100 "ChannelRouter$Plan" "size" "I" RX3) ∈ NWL := List.mem_of_getElem? (i := 13) rfl
theorem nw_14 : (Cond.fieldLinkNest RX3 91 "ChannelRouter$Plan" "tracks" "I" RX3) ∈ NWL := List.mem_of_getElem? (i := 14) rfl
theorem nw_15 : (Cond.methodLinkNest RX3 96 yX2_toldAt RX3) ∈ NWL := List.mem_of_getElem? (i := 15) rfl
theorem nw_16 : (Cond.methodLinkNest RX3 138 yX0_longNetsAt RX3) ∈ NWL := List.mem_of_getElem? (i := 16) rfl
theorem nw_17 : (Cond.methodLinkNest RX3 146 yX1_draw RX3) ∈ NWL := List.mem_of_getElem? (i := 17) rfl
theorem nw_18 : (Cond.methodLinkNest RX1 44 yX0_isLong RX3) ∈ NWL := List.mem_of_getElem? (i := 18) rfl
theorem nw_19 : (Cond.methodLinkNest RX1 61 yX0_has RX3) ∈ NWL := List.mem_of_getElem? (i := 19) rfl
theorem nw_20 : (Cond.methodLinkNest RX1 65 yX0_firstColumn RX3) ∈ NWL := List.mem_of_getElem? (i := 20) rfl
theorem nw_21 : (Cond.methodLinkNest RX1 69 yX0_lastColumn RX3) ∈ NWL := List.mem_of_getElem? (i := 21) rfl
theorem nw_22 : (Cond.methodLinkNest RX3 150 yX1_countPairs RX3) ∈ NWL := List.mem_of_getElem? (i := 22) rfl
theorem nw_23 : (Cond.methodLinkNest RX3 172 yX1_countPoints RX3) ∈ NWL := List.mem_of_getElem? (i := 23) rfl
theorem nw_24 : (Cond.methodLinkNest RX3 63 yX1_clear RX3) ∈ NWL := List.mem_of_getElem? (i := 24) rfl
theorem nw_25 : (Cond.methodLinkNest RX3 66 yX0_put RX3) ∈ NWL := List.mem_of_getElem? (i := 25) rfl
theorem nw_26 : (Cond.methodLinkNest RX3 70 yX0_anySingle RX3) ∈ NWL := List.mem_of_getElem? (i := 26) rfl
theorem nw_27 : (Cond.methodLinkNest RX3 175 yX2_lowestInRing RX3) ∈ NWL := List.mem_of_getElem? (i := 27) rfl
theorem nw_28 : (Cond.methodLinkNest RX2 35 yX1_isIn RX3) ∈ NWL := List.mem_of_getElem? (i := 28) rfl
theorem nw_29 : (Cond.methodLinkNest RX3 179 yX2_tell RX3) ∈ NWL := List.mem_of_getElem? (i := 29) rfl
theorem nw_30 : (Cond.methodLinkNest RX3 183 yX1_fillTracks RX3) ∈ NWL := List.mem_of_getElem? (i := 30) rfl
theorem nw_31 : (Cond.methodLinkNest RX3 125 yX1_netOn RX3) ∈ NWL := List.mem_of_getElem? (i := 31) rfl
theorem nw_32 : (Cond.methodLinkNest RX3 192 yX1_greatestTrack RX3) ∈ NWL := List.mem_of_getElem? (i := 32) rfl
theorem nw_33 : (Cond.methodLinkNest RX3 195 yX1_leastTrack RX3) ∈ NWL := List.mem_of_getElem? (i := 33) rfl
theorem nw_34 : (Cond.methodLinkNest RX3 198 yX1_touchesOn RX3) ∈ NWL := List.mem_of_getElem? (i := 34) rfl
theorem nw_35 : (Cond.methodLinkNest RX3 154 yX0_isLong RX3) ∈ NWL := List.mem_of_getElem? (i := 35) rfl
theorem nw_36 : (Cond.methodLinkNest RX3 157 yX0_firstColumn RX3) ∈ NWL := List.mem_of_getElem? (i := 36) rfl
theorem nw_37 : (Cond.methodLinkNest RX3 160 yX0_lastColumn RX3) ∈ NWL := List.mem_of_getElem? (i := 37) rfl
theorem nw_38 : (Cond.methodLinkNest RX3 163 yX0_pinsOf RX3) ∈ NWL := List.mem_of_getElem? (i := 38) rfl
theorem nw_39 : (Cond.methodLinkNest RX3 166 yX0_kindOf RX3) ∈ NWL := List.mem_of_getElem? (i := 39) rfl
theorem nwl_tbl : ∀ w ∈ NWL, w ∈ lw_tbl := by
  intro w hw
  have h : ∀ v ∈ NWL, v ∈ tables_1 := by decide +kernel
  exact List.mem_append_right _ (h w hw)
theorem nwl_ot : ∀ w ∈ NWL, w.onTables = true := by decide +kernel
theorem iuX0 : ∀ w ∈ u_ws RX0 TX0 2, w ∈ TB := by decide +kernel
theorem iuX1 : ∀ w ∈ u_ws RX1 TX1 9, w ∈ TB := by decide +kernel
theorem iuX2 : ∀ w ∈ u_ws RX2 TX2 4, w ∈ TB := by decide +kernel
theorem iuX3 : ∀ w ∈ u_ws RX3 TX3 7, w ∈ TB := by decide +kernel
theorem iuX4 : ∀ w ∈ u_ws RX4 TX4 23, w ∈ TB := by decide +kernel
